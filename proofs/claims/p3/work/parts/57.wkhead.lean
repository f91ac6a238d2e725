theorem nar01 {v : Int32} (h : v = 0 ∨ v = 1) : narrow .boolean (.int v) = .int v := by
  rcases h with rfl | rfl <;> rfl
theorem fr_of {x : Int32} (h1 : ¬ x < 1) (h2 : ¬ 600 < x) : ∃ n : Nat, n ≤ 600 ∧ x = nI n := by
  refine nI_of2 (M := 600) (by decide) (fun h => h1 ?_) (o_1 h2)
  have h3 := Int32.lt_iff_toInt_lt.mp h
  exact Int32.lt_iff_toInt_lt.mpr (by have e0 : (0 : Int32).toInt = 0 := by decide
                                      have e1 : (1 : Int32).toInt = 1 := by decide
                                      omega)
abbrev MX3_areFlags : g_M := (yX3_areFlags, cX3_areFlags, 4, (some .boolean))
theorem dX3_areFlags_0 : decode cX3_areFlags 0 = .ok (.iload_n 0, 1) := by decide +kernel
theorem dX3_areFlags_1 : decode cX3_areFlags 1 = .ok (.iconst 1, 1) := by decide +kernel
theorem dX3_areFlags_2 : decode cX3_areFlags 2 = .ok (.iand, 1) := by decide +kernel
theorem dX3_areFlags_3 : decode cX3_areFlags 3 = .ok (.ifCond .eq 7, 3) := by decide +kernel
theorem dX3_areFlags_10 : decode cX3_areFlags 10 = .ok (.iconst 0, 1) := by decide +kernel
theorem dX3_areFlags_11 : decode cX3_areFlags 11 = .ok (.istore_n 1, 1) := by decide +kernel
theorem dX3_areFlags_12 : decode cX3_areFlags 12 = .ok (.iload_n 0, 1) := by decide +kernel
theorem dX3_areFlags_13 : decode cX3_areFlags 13 = .ok (.iconst 2, 1) := by decide +kernel
theorem dX3_areFlags_14 : decode cX3_areFlags 14 = .ok (.iand, 1) := by decide +kernel
theorem dX3_areFlags_15 : decode cX3_areFlags 15 = .ok (.ifCond .eq 7, 3) := by decide +kernel
theorem dX3_areFlags_22 : decode cX3_areFlags 22 = .ok (.iconst 0, 1) := by decide +kernel
theorem dX3_areFlags_23 : decode cX3_areFlags 23 = .ok (.istore_n 2, 1) := by decide +kernel
theorem dX3_areFlags_24 : decode cX3_areFlags 24 = .ok (.iload_n 0, 1) := by decide +kernel
theorem dX3_areFlags_25 : decode cX3_areFlags 25 = .ok (.iconst 4, 1) := by decide +kernel
theorem dX3_areFlags_26 : decode cX3_areFlags 26 = .ok (.iand, 1) := by decide +kernel
theorem dX3_areFlags_27 : decode cX3_areFlags 27 = .ok (.ifCond .eq 7, 3) := by decide +kernel
theorem dX3_areFlags_34 : decode cX3_areFlags 34 = .ok (.iconst 0, 1) := by decide +kernel
theorem dX3_areFlags_35 : decode cX3_areFlags 35 = .ok (.istore_n 3, 1) := by decide +kernel
theorem dX3_areFlags_36 : decode cX3_areFlags 36 = .ok (.iload_n 0, 1) := by decide +kernel
theorem dX3_areFlags_37 : decode cX3_areFlags 37 = .ok (.bipush 15, 2) := by decide +kernel
theorem dX3_areFlags_39 : decode cX3_areFlags 39 = .ok (.if_icmp .gt 27, 3) := by decide +kernel
theorem dX3_areFlags_66 : decode cX3_areFlags 66 = .ok (.iconst 0, 1) := by decide +kernel
theorem dX3_areFlags_67 : decode cX3_areFlags 67 = .ok (.ireturn, 1) := by decide +kernel
theorem dX3_areFlags_42 : decode cX3_areFlags 42 = .ok (.iload_n 1, 1) := by decide +kernel
theorem dX3_areFlags_43 : decode cX3_areFlags 43 = .ok (.ifCond .ne 11, 3) := by decide +kernel
theorem dX3_areFlags_46 : decode cX3_areFlags 46 = .ok (.iload_n 2, 1) := by decide +kernel
theorem dX3_areFlags_47 : decode cX3_areFlags 47 = .ok (.ifCond .ne 19, 3) := by decide +kernel
theorem dX3_areFlags_50 : decode cX3_areFlags 50 = .ok (.iload_n 3, 1) := by decide +kernel
theorem dX3_areFlags_51 : decode cX3_areFlags 51 = .ok (.ifCond .ne 15, 3) := by decide +kernel
theorem dX3_areFlags_54 : decode cX3_areFlags 54 = .ok (.iload_n 2, 1) := by decide +kernel
theorem dX3_areFlags_55 : decode cX3_areFlags 55 = .ok (.ifCond .eq 7, 3) := by decide +kernel
theorem dX3_areFlags_62 : decode cX3_areFlags 62 = .ok (.iconst 1, 1) := by decide +kernel
theorem dX3_areFlags_63 : decode cX3_areFlags 63 = .ok (.goto 4, 3) := by decide +kernel
theorem dX3_areFlags_30 : decode cX3_areFlags 30 = .ok (.iconst 1, 1) := by decide +kernel
theorem dX3_areFlags_31 : decode cX3_areFlags 31 = .ok (.goto 4, 3) := by decide +kernel
theorem dX3_areFlags_18 : decode cX3_areFlags 18 = .ok (.iconst 1, 1) := by decide +kernel
theorem dX3_areFlags_19 : decode cX3_areFlags 19 = .ok (.goto 4, 3) := by decide +kernel
theorem dX3_areFlags_6 : decode cX3_areFlags 6 = .ok (.iconst 1, 1) := by decide +kernel
theorem dX3_areFlags_7 : decode cX3_areFlags 7 = .ok (.goto 4, 3) := by decide +kernel
theorem dX3_areFlags_58 : decode cX3_areFlags 58 = .ok (.iload_n 3, 1) := by decide +kernel
theorem dX3_areFlags_59 : decode cX3_areFlags 59 = .ok (.ifCond .ne 7, 3) := by decide +kernel
set_option maxRecDepth 100000 in
def fn_wk_X3_areFlags (fl : Int32) (β : Type) (k_ : Int32 → β) : β := (if (fl &&& 1) = 0 then (if (fl &&& 2) = 0 then (if (fl &&& 4) = 0 then (if 15 < fl then (k_ 0) else (k_ 1)) else (if 15 < fl then (k_ 0) else (k_ 0))) else (if (fl &&& 4) = 0 then (if 15 < fl then (k_ 0) else (k_ 0)) else (if 15 < fl then (k_ 0) else (k_ 0)))) else (if (fl &&& 2) = 0 then (if (fl &&& 4) = 0 then (if 15 < fl then (k_ 0) else (k_ 1)) else (if 15 < fl then (k_ 0) else (k_ 1))) else (if (fl &&& 4) = 0 then (if 15 < fl then (k_ 0) else (k_ 1)) else (if 15 < fl then (k_ 0) else (k_ 0)))))
set_option maxRecDepth 100000 in
theorem fn_wk_X3_areFlags_s {fl : Int32} {β : Type} {k_ : Int32 → β} : fn_wk_X3_areFlags fl β k_ = (if (fl &&& 1) = 0 then (if (fl &&& 2) = 0 then (if (fl &&& 4) = 0 then (if 15 < fl then (k_ 0) else (k_ 1)) else (if 15 < fl then (k_ 0) else (k_ 0))) else (if (fl &&& 4) = 0 then (if 15 < fl then (k_ 0) else (k_ 0)) else (if 15 < fl then (k_ 0) else (k_ 0)))) else (if (fl &&& 2) = 0 then (if (fl &&& 4) = 0 then (if 15 < fl then (k_ 0) else (k_ 1)) else (if 15 < fl then (k_ 0) else (k_ 1))) else (if (fl &&& 4) = 0 then (if 15 < fl then (k_ 0) else (k_ 1)) else (if 15 < fl then (k_ 0) else (k_ 0))))) := rfl
set_option maxRecDepth 100000 in
set_option maxHeartbeats 4000000 in
theorem wk_X3_areFlags (E : g_E) (fl : Int32)  : Ev E MX3_areFlags 0 0 0 0 [.int fl] [] (fun v_ w_ => ∃ zr : Int32, (zr = 0 ∨ zr = 1) ∧ (∀ (β : Type) (k_ : Int32 → β), fn_wk_X3_areFlags fl β k_ = k_ zr) ∧ v_ = some (.int zr) ∧ w_ = []) := by
  refine Ev.intro (by decide) (Nat.le_of_ble_eq_true rfl) ?_
  intro X B hr hI
  have B : Bd E X cX3_areFlags RX3 4 0 0 0 0 := B
  have hr : Rt E X (some .boolean) 0 0 (fun v_ w_ => ∃ zr : Int32, (zr = 0 ∨ zr = 1) ∧ (∀ (β : Type) (k_ : Int32 → β), fn_wk_X3_areFlags fl β k_ = k_ zr) ∧ v_ = some (.int zr) ∧ w_ = []) := hr
  have e_ := fun (β : Type) (k_ : Int32 → β) => fn_wk_X3_areFlags_s (β := β) (k_ := k_) (fl := fl)
  show G E X 4 [] 0 0 [(0, .int fl)] 0 []
  refine g_iload_n B dX3_areFlags_0 rfl 0 rfl ?_
  refine g_iconst (v := 1) B dX3_areFlags_1 (by decide) ?_
  refine g_iand B dX3_areFlags_2 ?_
  refine g_if_eq (tgt := 10) B dX3_areFlags_3 (by decide) (fun c3_1188 => ?_) (fun c3_1188 => ?_)
  · replace e_ := fun β k_ => (e_ β k_).trans (if_pos c3_1188)
    refine g_iconst (v := 0) B dX3_areFlags_10 (by decide) ?_
    refine g_istore_n (lv' := [(1, .int 0), (0, .int fl)]) B dX3_areFlags_11 rfl (by decide) rfl ?_
    refine g_iload_n B dX3_areFlags_12 rfl 1 rfl ?_
    refine g_iconst (v := 2) B dX3_areFlags_13 (by decide) ?_
    refine g_iand B dX3_areFlags_14 ?_
    refine g_if_eq (tgt := 22) B dX3_areFlags_15 (by decide) (fun c15_1189 => ?_) (fun c15_1189 => ?_)
    · replace e_ := fun β k_ => (e_ β k_).trans (if_pos c15_1189)
      refine g_iconst (v := 0) B dX3_areFlags_22 (by decide) ?_
      refine g_istore_n (lv' := [(2, .int 0), (1, .int 0), (0, .int fl)]) B dX3_areFlags_23 rfl (by decide) rfl ?_
      refine g_iload_n B dX3_areFlags_24 rfl 2 rfl ?_
      refine g_iconst (v := 4) B dX3_areFlags_25 (by decide) ?_
      refine g_iand B dX3_areFlags_26 ?_
      refine g_if_eq (tgt := 34) B dX3_areFlags_27 (by decide) (fun c27_1190 => ?_) (fun c27_1190 => ?_)
      · replace e_ := fun β k_ => (e_ β k_).trans (if_pos c27_1190)
        refine g_iconst (v := 0) B dX3_areFlags_34 (by decide) ?_
        refine g_istore_n (lv' := [(3, .int 0), (2, .int 0), (1, .int 0), (0, .int fl)]) B dX3_areFlags_35 rfl (by decide) rfl ?_
        refine g_iload_n B dX3_areFlags_36 rfl 3 rfl ?_
        refine g_bipush (v := 15) B dX3_areFlags_37 (by decide) ?_
        refine g_icmp_gt (tgt := 66) B dX3_areFlags_39 (by decide) (fun c39_1191 => ?_) (fun c39_1191 => ?_)
        · replace e_ := fun β k_ => (e_ β k_).trans (if_pos c39_1191)
          refine g_iconst (v := 0) B dX3_areFlags_66 (by decide) ?_
          exact g_zret B hr (by decide) dX3_areFlags_67 (by decide) (by decide) ⟨0, (Or.inl rfl), e_, rfl, rfl⟩
        · replace e_ := fun β k_ => (e_ β k_).trans (if_neg c39_1191)
          refine g_iload_n B dX3_areFlags_42 rfl 2 rfl ?_
          refine g_if_ne (tgt := 54) B dX3_areFlags_43 (by decide) (fun h => absurd (by decide) h) (fun c43 => ?_)
          refine g_iload_n B dX3_areFlags_46 rfl 1 rfl ?_
          refine g_if_ne (tgt := 66) B dX3_areFlags_47 (by decide) (fun h => absurd (by decide) h) (fun c47 => ?_)
          refine g_iload_n B dX3_areFlags_50 rfl 0 rfl ?_
          refine g_if_ne (tgt := 66) B dX3_areFlags_51 (by decide) (fun h => absurd (by decide) h) (fun c51 => ?_)
          refine g_iload_n B dX3_areFlags_54 rfl 1 rfl ?_
          refine g_if_eq (tgt := 62) B dX3_areFlags_55 (by decide) (fun c55 => ?_) (fun h => absurd (by decide) h)
          refine g_iconst (v := 1) B dX3_areFlags_62 (by decide) ?_
          refine g_goto (tgt := 67) B dX3_areFlags_63 (by decide) ?_
          exact g_zret B hr (by decide) dX3_areFlags_67 (by decide) (by decide) ⟨1, (Or.inr rfl), e_, rfl, rfl⟩
      · replace e_ := fun β k_ => (e_ β k_).trans (if_neg c27_1190)
        refine g_iconst (v := 1) B dX3_areFlags_30 (by decide) ?_
        refine g_goto (tgt := 35) B dX3_areFlags_31 (by decide) ?_
        refine g_istore_n (lv' := [(3, .int 1), (2, .int 0), (1, .int 0), (0, .int fl)]) B dX3_areFlags_35 rfl (by decide) rfl ?_
        refine g_iload_n B dX3_areFlags_36 rfl 3 rfl ?_
        refine g_bipush (v := 15) B dX3_areFlags_37 (by decide) ?_
        refine g_icmp_gt (tgt := 66) B dX3_areFlags_39 (by decide) (fun c39_1192 => ?_) (fun c39_1192 => ?_)
        · replace e_ := fun β k_ => (e_ β k_).trans (if_pos c39_1192)
          refine g_iconst (v := 0) B dX3_areFlags_66 (by decide) ?_
          exact g_zret B hr (by decide) dX3_areFlags_67 (by decide) (by decide) ⟨0, (Or.inl rfl), e_, rfl, rfl⟩
        · replace e_ := fun β k_ => (e_ β k_).trans (if_neg c39_1192)
          refine g_iload_n B dX3_areFlags_42 rfl 2 rfl ?_
          refine g_if_ne (tgt := 54) B dX3_areFlags_43 (by decide) (fun h => absurd (by decide) h) (fun c43 => ?_)
          refine g_iload_n B dX3_areFlags_46 rfl 1 rfl ?_
          refine g_if_ne (tgt := 66) B dX3_areFlags_47 (by decide) (fun h => absurd (by decide) h) (fun c47 => ?_)
          refine g_iload_n B dX3_areFlags_50 rfl 0 rfl ?_
          refine g_if_ne (tgt := 66) B dX3_areFlags_51 (by decide) (fun c51 => ?_) (fun h => absurd h (by decide))
          refine g_iconst (v := 0) B dX3_areFlags_66 (by decide) ?_
          exact g_zret B hr (by decide) dX3_areFlags_67 (by decide) (by decide) ⟨0, (Or.inl rfl), e_, rfl, rfl⟩
    · replace e_ := fun β k_ => (e_ β k_).trans (if_neg c15_1189)
      refine g_iconst (v := 1) B dX3_areFlags_18 (by decide) ?_
      refine g_goto (tgt := 23) B dX3_areFlags_19 (by decide) ?_
      refine g_istore_n (lv' := [(2, .int 1), (1, .int 0), (0, .int fl)]) B dX3_areFlags_23 rfl (by decide) rfl ?_
      refine g_iload_n B dX3_areFlags_24 rfl 2 rfl ?_
      refine g_iconst (v := 4) B dX3_areFlags_25 (by decide) ?_
      refine g_iand B dX3_areFlags_26 ?_
      refine g_if_eq (tgt := 34) B dX3_areFlags_27 (by decide) (fun c27_1193 => ?_) (fun c27_1193 => ?_)
      · replace e_ := fun β k_ => (e_ β k_).trans (if_pos c27_1193)
        refine g_iconst (v := 0) B dX3_areFlags_34 (by decide) ?_
        refine g_istore_n (lv' := [(3, .int 0), (2, .int 1), (1, .int 0), (0, .int fl)]) B dX3_areFlags_35 rfl (by decide) rfl ?_
        refine g_iload_n B dX3_areFlags_36 rfl 3 rfl ?_
        refine g_bipush (v := 15) B dX3_areFlags_37 (by decide) ?_
        refine g_icmp_gt (tgt := 66) B dX3_areFlags_39 (by decide) (fun c39_1194 => ?_) (fun c39_1194 => ?_)
        · replace e_ := fun β k_ => (e_ β k_).trans (if_pos c39_1194)
          refine g_iconst (v := 0) B dX3_areFlags_66 (by decide) ?_
          exact g_zret B hr (by decide) dX3_areFlags_67 (by decide) (by decide) ⟨0, (Or.inl rfl), e_, rfl, rfl⟩
        · replace e_ := fun β k_ => (e_ β k_).trans (if_neg c39_1194)
          refine g_iload_n B dX3_areFlags_42 rfl 2 rfl ?_
          refine g_if_ne (tgt := 54) B dX3_areFlags_43 (by decide) (fun h => absurd (by decide) h) (fun c43 => ?_)
          refine g_iload_n B dX3_areFlags_46 rfl 1 rfl ?_
          refine g_if_ne (tgt := 66) B dX3_areFlags_47 (by decide) (fun c47 => ?_) (fun h => absurd h (by decide))
          refine g_iconst (v := 0) B dX3_areFlags_66 (by decide) ?_
          exact g_zret B hr (by decide) dX3_areFlags_67 (by decide) (by decide) ⟨0, (Or.inl rfl), e_, rfl, rfl⟩
      · replace e_ := fun β k_ => (e_ β k_).trans (if_neg c27_1193)
        refine g_iconst (v := 1) B dX3_areFlags_30 (by decide) ?_
        refine g_goto (tgt := 35) B dX3_areFlags_31 (by decide) ?_
        refine g_istore_n (lv' := [(3, .int 1), (2, .int 1), (1, .int 0), (0, .int fl)]) B dX3_areFlags_35 rfl (by decide) rfl ?_
        refine g_iload_n B dX3_areFlags_36 rfl 3 rfl ?_
        refine g_bipush (v := 15) B dX3_areFlags_37 (by decide) ?_
        refine g_icmp_gt (tgt := 66) B dX3_areFlags_39 (by decide) (fun c39_1195 => ?_) (fun c39_1195 => ?_)
        · replace e_ := fun β k_ => (e_ β k_).trans (if_pos c39_1195)
          refine g_iconst (v := 0) B dX3_areFlags_66 (by decide) ?_
          exact g_zret B hr (by decide) dX3_areFlags_67 (by decide) (by decide) ⟨0, (Or.inl rfl), e_, rfl, rfl⟩
        · replace e_ := fun β k_ => (e_ β k_).trans (if_neg c39_1195)
          refine g_iload_n B dX3_areFlags_42 rfl 2 rfl ?_
          refine g_if_ne (tgt := 54) B dX3_areFlags_43 (by decide) (fun h => absurd (by decide) h) (fun c43 => ?_)
          refine g_iload_n B dX3_areFlags_46 rfl 1 rfl ?_
          refine g_if_ne (tgt := 66) B dX3_areFlags_47 (by decide) (fun c47 => ?_) (fun h => absurd h (by decide))
          refine g_iconst (v := 0) B dX3_areFlags_66 (by decide) ?_
          exact g_zret B hr (by decide) dX3_areFlags_67 (by decide) (by decide) ⟨0, (Or.inl rfl), e_, rfl, rfl⟩
  · replace e_ := fun β k_ => (e_ β k_).trans (if_neg c3_1188)
    refine g_iconst (v := 1) B dX3_areFlags_6 (by decide) ?_
    refine g_goto (tgt := 11) B dX3_areFlags_7 (by decide) ?_
    refine g_istore_n (lv' := [(1, .int 1), (0, .int fl)]) B dX3_areFlags_11 rfl (by decide) rfl ?_
    refine g_iload_n B dX3_areFlags_12 rfl 1 rfl ?_
    refine g_iconst (v := 2) B dX3_areFlags_13 (by decide) ?_
    refine g_iand B dX3_areFlags_14 ?_
    refine g_if_eq (tgt := 22) B dX3_areFlags_15 (by decide) (fun c15_1196 => ?_) (fun c15_1196 => ?_)
    · replace e_ := fun β k_ => (e_ β k_).trans (if_pos c15_1196)
      refine g_iconst (v := 0) B dX3_areFlags_22 (by decide) ?_
      refine g_istore_n (lv' := [(2, .int 0), (1, .int 1), (0, .int fl)]) B dX3_areFlags_23 rfl (by decide) rfl ?_
      refine g_iload_n B dX3_areFlags_24 rfl 2 rfl ?_
      refine g_iconst (v := 4) B dX3_areFlags_25 (by decide) ?_
      refine g_iand B dX3_areFlags_26 ?_
      refine g_if_eq (tgt := 34) B dX3_areFlags_27 (by decide) (fun c27_1197 => ?_) (fun c27_1197 => ?_)
      · replace e_ := fun β k_ => (e_ β k_).trans (if_pos c27_1197)
        refine g_iconst (v := 0) B dX3_areFlags_34 (by decide) ?_
        refine g_istore_n (lv' := [(3, .int 0), (2, .int 0), (1, .int 1), (0, .int fl)]) B dX3_areFlags_35 rfl (by decide) rfl ?_
        refine g_iload_n B dX3_areFlags_36 rfl 3 rfl ?_
        refine g_bipush (v := 15) B dX3_areFlags_37 (by decide) ?_
        refine g_icmp_gt (tgt := 66) B dX3_areFlags_39 (by decide) (fun c39_1198 => ?_) (fun c39_1198 => ?_)
        · replace e_ := fun β k_ => (e_ β k_).trans (if_pos c39_1198)
          refine g_iconst (v := 0) B dX3_areFlags_66 (by decide) ?_
          exact g_zret B hr (by decide) dX3_areFlags_67 (by decide) (by decide) ⟨0, (Or.inl rfl), e_, rfl, rfl⟩
        · replace e_ := fun β k_ => (e_ β k_).trans (if_neg c39_1198)
          refine g_iload_n B dX3_areFlags_42 rfl 2 rfl ?_
          refine g_if_ne (tgt := 54) B dX3_areFlags_43 (by decide) (fun c43 => ?_) (fun h => absurd h (by decide))
          refine g_iload_n B dX3_areFlags_54 rfl 1 rfl ?_
          refine g_if_eq (tgt := 62) B dX3_areFlags_55 (by decide) (fun c55 => ?_) (fun h => absurd (by decide) h)
          refine g_iconst (v := 1) B dX3_areFlags_62 (by decide) ?_
          refine g_goto (tgt := 67) B dX3_areFlags_63 (by decide) ?_
          exact g_zret B hr (by decide) dX3_areFlags_67 (by decide) (by decide) ⟨1, (Or.inr rfl), e_, rfl, rfl⟩
      · replace e_ := fun β k_ => (e_ β k_).trans (if_neg c27_1197)
        refine g_iconst (v := 1) B dX3_areFlags_30 (by decide) ?_
        refine g_goto (tgt := 35) B dX3_areFlags_31 (by decide) ?_
        refine g_istore_n (lv' := [(3, .int 1), (2, .int 0), (1, .int 1), (0, .int fl)]) B dX3_areFlags_35 rfl (by decide) rfl ?_
        refine g_iload_n B dX3_areFlags_36 rfl 3 rfl ?_
        refine g_bipush (v := 15) B dX3_areFlags_37 (by decide) ?_
        refine g_icmp_gt (tgt := 66) B dX3_areFlags_39 (by decide) (fun c39_1199 => ?_) (fun c39_1199 => ?_)
        · replace e_ := fun β k_ => (e_ β k_).trans (if_pos c39_1199)
          refine g_iconst (v := 0) B dX3_areFlags_66 (by decide) ?_
          exact g_zret B hr (by decide) dX3_areFlags_67 (by decide) (by decide) ⟨0, (Or.inl rfl), e_, rfl, rfl⟩
        · replace e_ := fun β k_ => (e_ β k_).trans (if_neg c39_1199)
          refine g_iload_n B dX3_areFlags_42 rfl 2 rfl ?_
          refine g_if_ne (tgt := 54) B dX3_areFlags_43 (by decide) (fun c43 => ?_) (fun h => absurd h (by decide))
          refine g_iload_n B dX3_areFlags_54 rfl 1 rfl ?_
          refine g_if_eq (tgt := 62) B dX3_areFlags_55 (by decide) (fun c55 => ?_) (fun h => absurd (by decide) h)
          refine g_iconst (v := 1) B dX3_areFlags_62 (by decide) ?_
          refine g_goto (tgt := 67) B dX3_areFlags_63 (by decide) ?_
          exact g_zret B hr (by decide) dX3_areFlags_67 (by decide) (by decide) ⟨1, (Or.inr rfl), e_, rfl, rfl⟩
    · replace e_ := fun β k_ => (e_ β k_).trans (if_neg c15_1196)
      refine g_iconst (v := 1) B dX3_areFlags_18 (by decide) ?_
      refine g_goto (tgt := 23) B dX3_areFlags_19 (by decide) ?_
      refine g_istore_n (lv' := [(2, .int 1), (1, .int 1), (0, .int fl)]) B dX3_areFlags_23 rfl (by decide) rfl ?_
      refine g_iload_n B dX3_areFlags_24 rfl 2 rfl ?_
      refine g_iconst (v := 4) B dX3_areFlags_25 (by decide) ?_
      refine g_iand B dX3_areFlags_26 ?_
      refine g_if_eq (tgt := 34) B dX3_areFlags_27 (by decide) (fun c27_1200 => ?_) (fun c27_1200 => ?_)
      · replace e_ := fun β k_ => (e_ β k_).trans (if_pos c27_1200)
        refine g_iconst (v := 0) B dX3_areFlags_34 (by decide) ?_
        refine g_istore_n (lv' := [(3, .int 0), (2, .int 1), (1, .int 1), (0, .int fl)]) B dX3_areFlags_35 rfl (by decide) rfl ?_
        refine g_iload_n B dX3_areFlags_36 rfl 3 rfl ?_
        refine g_bipush (v := 15) B dX3_areFlags_37 (by decide) ?_
        refine g_icmp_gt (tgt := 66) B dX3_areFlags_39 (by decide) (fun c39_1201 => ?_) (fun c39_1201 => ?_)
        · replace e_ := fun β k_ => (e_ β k_).trans (if_pos c39_1201)
          refine g_iconst (v := 0) B dX3_areFlags_66 (by decide) ?_
          exact g_zret B hr (by decide) dX3_areFlags_67 (by decide) (by decide) ⟨0, (Or.inl rfl), e_, rfl, rfl⟩
        · replace e_ := fun β k_ => (e_ β k_).trans (if_neg c39_1201)
          refine g_iload_n B dX3_areFlags_42 rfl 2 rfl ?_
          refine g_if_ne (tgt := 54) B dX3_areFlags_43 (by decide) (fun c43 => ?_) (fun h => absurd h (by decide))
          refine g_iload_n B dX3_areFlags_54 rfl 1 rfl ?_
          refine g_if_eq (tgt := 62) B dX3_areFlags_55 (by decide) (fun h => absurd h (by decide)) (fun c55 => ?_)
          refine g_iload_n B dX3_areFlags_58 rfl 0 rfl ?_
          refine g_if_ne (tgt := 66) B dX3_areFlags_59 (by decide) (fun h => absurd (by decide) h) (fun c59 => ?_)
          refine g_iconst (v := 1) B dX3_areFlags_62 (by decide) ?_
          refine g_goto (tgt := 67) B dX3_areFlags_63 (by decide) ?_
          exact g_zret B hr (by decide) dX3_areFlags_67 (by decide) (by decide) ⟨1, (Or.inr rfl), e_, rfl, rfl⟩
      · replace e_ := fun β k_ => (e_ β k_).trans (if_neg c27_1200)
        refine g_iconst (v := 1) B dX3_areFlags_30 (by decide) ?_
        refine g_goto (tgt := 35) B dX3_areFlags_31 (by decide) ?_
        refine g_istore_n (lv' := [(3, .int 1), (2, .int 1), (1, .int 1), (0, .int fl)]) B dX3_areFlags_35 rfl (by decide) rfl ?_
        refine g_iload_n B dX3_areFlags_36 rfl 3 rfl ?_
        refine g_bipush (v := 15) B dX3_areFlags_37 (by decide) ?_
        refine g_icmp_gt (tgt := 66) B dX3_areFlags_39 (by decide) (fun c39_1202 => ?_) (fun c39_1202 => ?_)
        · replace e_ := fun β k_ => (e_ β k_).trans (if_pos c39_1202)
          refine g_iconst (v := 0) B dX3_areFlags_66 (by decide) ?_
          exact g_zret B hr (by decide) dX3_areFlags_67 (by decide) (by decide) ⟨0, (Or.inl rfl), e_, rfl, rfl⟩
        · replace e_ := fun β k_ => (e_ β k_).trans (if_neg c39_1202)
          refine g_iload_n B dX3_areFlags_42 rfl 2 rfl ?_
          refine g_if_ne (tgt := 54) B dX3_areFlags_43 (by decide) (fun c43 => ?_) (fun h => absurd h (by decide))
          refine g_iload_n B dX3_areFlags_54 rfl 1 rfl ?_
          refine g_if_eq (tgt := 62) B dX3_areFlags_55 (by decide) (fun h => absurd h (by decide)) (fun c55 => ?_)
          refine g_iload_n B dX3_areFlags_58 rfl 0 rfl ?_
          refine g_if_ne (tgt := 66) B dX3_areFlags_59 (by decide) (fun c59 => ?_) (fun h => absurd h (by decide))
          refine g_iconst (v := 0) B dX3_areFlags_66 (by decide) ?_
          exact g_zret B hr (by decide) dX3_areFlags_67 (by decide) (by decide) ⟨0, (Or.inl rfl), e_, rfl, rfl⟩
abbrev MX3_readPlan : g_M := (yX3_readPlan, cX3_readPlan, 6, (some .boolean))
theorem dX3_readPlan_0 : decode cX3_readPlan 0 = .ok (.aload_n 1, 1) := by decide +kernel
theorem dX3_readPlan_1 : decode cX3_readPlan 1 = .ok (.invokevirtual 90, 3) := by decide +kernel
theorem w_ml_X3_90 : Cond.methodLink RX3 90 yX7_clear ∈ g_tbl := g_tbl_in 768 (by decide +kernel) (by decide +kernel)
theorem w_cd_X7_clear : g_cw MX7_clear ∈ g_tbl := g_tbl_in 434 (by decide +kernel) (by decide +kernel)
theorem cl_X3_90 : CL RX3 90 0 MX7_clear := ⟨w_ml_X3_90, w_cd_X7_clear, w_ini_X7, by decide +kernel, by decide +kernel, by decide +kernel⟩
theorem w_im_X7_clear : Cond.instanceMethod yX7_clear ∈ g_tbl := g_tbl_in 432 (by decide +kernel) (by decide +kernel)
theorem w_se_X7_clear : Cond.selects RX7 yX7_clear yX7_clear ∈ g_tbl := g_tbl_in 433 (by decide +kernel) (by decide +kernel)
theorem dX3_readPlan_4 : decode cX3_readPlan 4 = .ok (.iconst 0, 1) := by decide +kernel
theorem dX3_readPlan_5 : decode cX3_readPlan 5 = .ok (.istore_n 3, 1) := by decide +kernel
theorem dX3_readPlan_6 : decode cX3_readPlan 6 = .ok (.iload_n 3, 1) := by decide +kernel
theorem dX3_readPlan_7 : decode cX3_readPlan 7 = .ok (.iload_n 2, 1) := by decide +kernel
theorem dX3_readPlan_8 : decode cX3_readPlan 8 = .ok (.if_icmp .ge 70, 3) := by decide +kernel
theorem dX3_readPlan_11 : decode cX3_readPlan 11 = .ok (.aload_n 0, 1) := by decide +kernel
theorem dX3_readPlan_12 : decode cX3_readPlan 12 = .ok (.getfield 9, 3) := by decide +kernel
theorem dX3_readPlan_15 : decode cX3_readPlan 15 = .ok (.bipush 6, 2) := by decide +kernel
theorem dX3_readPlan_17 : decode cX3_readPlan 17 = .ok (.iconst 2, 1) := by decide +kernel
theorem dX3_readPlan_18 : decode cX3_readPlan 18 = .ok (.iload_n 3, 1) := by decide +kernel
theorem dX3_readPlan_19 : decode cX3_readPlan 19 = .ok (.imul, 1) := by decide +kernel
theorem dX3_readPlan_20 : decode cX3_readPlan 20 = .ok (.iadd, 1) := by decide +kernel
theorem dX3_readPlan_21 : decode cX3_readPlan 21 = .ok (.invokevirtual 59, 3) := by decide +kernel
theorem w_ml_X3_59 : Cond.methodLink RX3 59 yX2_at ∈ g_tbl := g_tbl_in 760 (by decide +kernel) (by decide +kernel)
theorem cl_X3_59 : CL RX3 59 1 MX2_at := ⟨w_ml_X3_59, w_cd_X2_at, w_ini_X2, by decide +kernel, by decide +kernel, by decide +kernel⟩
theorem dX3_readPlan_24 : decode cX3_readPlan 24 = .ok (.istore 4, 2) := by decide +kernel
theorem dX3_readPlan_26 : decode cX3_readPlan 26 = .ok (.aload_n 0, 1) := by decide +kernel
theorem dX3_readPlan_27 : decode cX3_readPlan 27 = .ok (.getfield 9, 3) := by decide +kernel
theorem dX3_readPlan_30 : decode cX3_readPlan 30 = .ok (.bipush 6, 2) := by decide +kernel
theorem dX3_readPlan_32 : decode cX3_readPlan 32 = .ok (.iconst 2, 1) := by decide +kernel
theorem dX3_readPlan_33 : decode cX3_readPlan 33 = .ok (.iload_n 3, 1) := by decide +kernel
theorem dX3_readPlan_34 : decode cX3_readPlan 34 = .ok (.imul, 1) := by decide +kernel
theorem dX3_readPlan_35 : decode cX3_readPlan 35 = .ok (.iadd, 1) := by decide +kernel
theorem dX3_readPlan_36 : decode cX3_readPlan 36 = .ok (.iconst 1, 1) := by decide +kernel
theorem dX3_readPlan_37 : decode cX3_readPlan 37 = .ok (.iadd, 1) := by decide +kernel
theorem dX3_readPlan_38 : decode cX3_readPlan 38 = .ok (.invokevirtual 59, 3) := by decide +kernel
theorem dX3_readPlan_41 : decode cX3_readPlan 41 = .ok (.istore 5, 2) := by decide +kernel
theorem dX3_readPlan_43 : decode cX3_readPlan 43 = .ok (.aload_n 1, 1) := by decide +kernel
theorem dX3_readPlan_44 : decode cX3_readPlan 44 = .ok (.iload 4, 2) := by decide +kernel
theorem dX3_readPlan_46 : decode cX3_readPlan 46 = .ok (.bipush 127, 2) := by decide +kernel
theorem dX3_readPlan_48 : decode cX3_readPlan 48 = .ok (.if_icmp .le 12, 3) := by decide +kernel
theorem dX3_readPlan_60 : decode cX3_readPlan 60 = .ok (.iload 4, 2) := by decide +kernel
theorem dX3_readPlan_62 : decode cX3_readPlan 62 = .ok (.iload 5, 2) := by decide +kernel
theorem dX3_readPlan_64 : decode cX3_readPlan 64 = .ok (.invokevirtual 95, 3) := by decide +kernel
theorem w_ml_X3_95 : Cond.methodLink RX3 95 yX7_add ∈ g_tbl := g_tbl_in 769 (by decide +kernel) (by decide +kernel)
theorem w_cd_X7_add : g_cw MX7_add ∈ g_tbl := g_tbl_in 423 (by decide +kernel) (by decide +kernel)
theorem cl_X3_95 : CL RX3 95 2 MX7_add := ⟨w_ml_X3_95, w_cd_X7_add, w_ini_X7, by decide +kernel, by decide +kernel, by decide +kernel⟩
theorem w_im_X7_add : Cond.instanceMethod yX7_add ∈ g_tbl := g_tbl_in 421 (by decide +kernel) (by decide +kernel)
theorem w_se_X7_add : Cond.selects RX7 yX7_add yX7_add ∈ g_tbl := g_tbl_in 422 (by decide +kernel) (by decide +kernel)
theorem dX3_readPlan_67 : decode cX3_readPlan 67 = .ok (.ifCond .ne 5, 3) := by decide +kernel
theorem dX3_readPlan_72 : decode cX3_readPlan 72 = .ok (.iinc 3 1, 3) := by decide +kernel
theorem dX3_readPlan_75 : decode cX3_readPlan 75 = .ok (.goto (-69), 3) := by decide +kernel
theorem dX3_readPlan_70 : decode cX3_readPlan 70 = .ok (.iconst 0, 1) := by decide +kernel
theorem dX3_readPlan_71 : decode cX3_readPlan 71 = .ok (.ireturn, 1) := by decide +kernel
theorem dX3_readPlan_51 : decode cX3_readPlan 51 = .ok (.iload 4, 2) := by decide +kernel
theorem dX3_readPlan_53 : decode cX3_readPlan 53 = .ok (.sipush 256, 3) := by decide +kernel
theorem dX3_readPlan_56 : decode cX3_readPlan 56 = .ok (.isub, 1) := by decide +kernel
theorem dX3_readPlan_57 : decode cX3_readPlan 57 = .ok (.goto 5, 3) := by decide +kernel
set_option maxRecDepth 100000 in
def lf_wk_X3_readPlan_6  (β : Type) (kx_ : Int32 → (Nat → Int32) → Nat → (Nat → Int32) → (Nat → Int32) → Int32 → Int32 → β) (k_ : Int32 → (Nat → Int32) → Nat → (Nat → Int32) → (Nat → Int32) → Int32 → β) : Nat → Int32 → (Nat → Int32) → Nat → (Nat → Int32) → (Nat → Int32) → Int32 → Int32 → β
  | 0, tp_1, tpa_f, p_2, te_f, de_f, l2, l3 => kx_ tp_1 tpa_f p_2 te_f de_f l2 l3
  | fuel + 1, tp_1, tpa_f, p_2, te_f, de_f, l2, l3 => (if l2 ≤ l3 then (kx_ tp_1 tpa_f p_2 te_f de_f l2 l3) else (fn_wk_X2_at 6000 tp_1 tpa_f (6 + (2 * l3)) β (fun zt_1_1207 za_f_1208 zr_1209 => (fn_wk_X2_at 6000 zt_1_1207 za_f_1208 ((6 + (2 * l3)) + 1) β (fun zt_1_1211 za_f_1212 zr_1213 => (if zr_1209 ≤ 127 then (fn_wk_X7_add p_2 te_f de_f zr_1209 zr_1213 β (fun zp_2_1216 zte_f_1217 zde_f_1218 zr_1219 => (if zr_1219 = 0 then (k_ zt_1_1211 za_f_1212 zp_2_1216 zte_f_1217 zde_f_1218 0) else (lf_wk_X3_readPlan_6  β kx_ k_ fuel zt_1_1211 za_f_1212 zp_2_1216 zte_f_1217 zde_f_1218 l2 (l3 + 1))))) else (fn_wk_X7_add p_2 te_f de_f (zr_1209 - 256) zr_1213 β (fun zp_2_1224 zte_f_1225 zde_f_1226 zr_1227 => (if zr_1227 = 0 then (k_ zt_1_1211 za_f_1212 zp_2_1224 zte_f_1225 zde_f_1226 0) else (lf_wk_X3_readPlan_6  β kx_ k_ fuel zt_1_1211 za_f_1212 zp_2_1224 zte_f_1225 zde_f_1226 l2 (l3 + 1)))))))))))
set_option maxRecDepth 100000 in
theorem lf_wk_X3_readPlan_6_s  {β : Type} {kx_ : Int32 → (Nat → Int32) → Nat → (Nat → Int32) → (Nat → Int32) → Int32 → Int32 → β} {k_ : Int32 → (Nat → Int32) → Nat → (Nat → Int32) → (Nat → Int32) → Int32 → β} {fuel : Nat} {tp_1 : Int32} {tpa_f : Nat → Int32} {p_2 : Nat} {te_f : Nat → Int32} {de_f : Nat → Int32} {l2 : Int32} {l3 : Int32} : lf_wk_X3_readPlan_6  β kx_ k_ (fuel + 1) tp_1 tpa_f p_2 te_f de_f l2 l3 = (if l2 ≤ l3 then (kx_ tp_1 tpa_f p_2 te_f de_f l2 l3) else (fn_wk_X2_at 6000 tp_1 tpa_f (6 + (2 * l3)) β (fun zt_1_1207 za_f_1208 zr_1209 => (fn_wk_X2_at 6000 zt_1_1207 za_f_1208 ((6 + (2 * l3)) + 1) β (fun zt_1_1211 za_f_1212 zr_1213 => (if zr_1209 ≤ 127 then (fn_wk_X7_add p_2 te_f de_f zr_1209 zr_1213 β (fun zp_2_1216 zte_f_1217 zde_f_1218 zr_1219 => (if zr_1219 = 0 then (k_ zt_1_1211 za_f_1212 zp_2_1216 zte_f_1217 zde_f_1218 0) else (lf_wk_X3_readPlan_6  β kx_ k_ fuel zt_1_1211 za_f_1212 zp_2_1216 zte_f_1217 zde_f_1218 l2 (l3 + 1))))) else (fn_wk_X7_add p_2 te_f de_f (zr_1209 - 256) zr_1213 β (fun zp_2_1224 zte_f_1225 zde_f_1226 zr_1227 => (if zr_1227 = 0 then (k_ zt_1_1211 za_f_1212 zp_2_1224 zte_f_1225 zde_f_1226 0) else (lf_wk_X3_readPlan_6  β kx_ k_ fuel zt_1_1211 za_f_1212 zp_2_1224 zte_f_1225 zde_f_1226 l2 (l3 + 1))))))))))) := rfl
set_option maxRecDepth 100000 in
set_option maxHeartbeats 4000000 in
theorem lp_wk_X3_readPlan_6 (E : g_E) (e : Nat) (tp : Nat) (sd : Nat) (b1 : Nat) (b2 : Nat) (sh : Nat) (tpa : Nat) (p : Nat) (te : Nat) (de : Nat)  {X : g_X} {rr : (β : Type) → (Int32 → (Nat → Int32) → Nat → (Nat → Int32) → (Nat → Int32) → Int32 → β) → β} (kx_ : (β : Type) → (Int32 → (Nat → Int32) → Nat → (Nat → Int32) → (Nat → Int32) → Int32 → β) → Int32 → (Nat → Int32) → Nat → (Nat → Int32) → (Nat → Int32) → Int32 → Int32 → β) (B : Bd E X cX3_readPlan RX3 6 2 42 0 0) (hr : Rt E X (some .boolean) 0 0 (fun v_ w_ => ∃ ztp_1 : Int32, ∃ ztpa_f : Nat → Int32, ∃ zp_2 : Nat, ∃ zte_f : Nat → Int32, ∃ zde_f : Nat → Int32, ∃ zr : Int32, (zr = 0 ∨ zr = 1) ∧ (zp_2 ≤ 8) ∧ (∀ (β : Type) (k_ : Int32 → (Nat → Int32) → Nat → (Nat → Int32) → (Nat → Int32) → Int32 → β), rr β k_ = k_ ztp_1 ztpa_f zp_2 zte_f zde_f zr) ∧ v_ = some (.int zr) ∧ w_ = [(e, .inr (3, [.ref tp, .ref sd, .ref b1, .ref b2, .ref sh])), (tp, .inr (2, [.ref tpa, .int ztp_1])), (tpa, .inl (E.2.2.1 1, 6000, .inl (nb ztpa_f))), (p, .inr (7, [.ref te, .ref de, .int (nI zp_2)])), (te, .inl (E.2.2.1 0, 8, .inl zte_f)), (de, .inl (E.2.2.1 0, 8, .inl zde_f))])) (K : ∀ (tp_1 : Int32) (tpa_f : Nat → Int32) (p_2 : Nat) (te_f : Nat → Int32) (de_f : Nat → Int32) (l2 : Int32) (l3 : Int32), p_2 ≤ 8 → (∀ (β : Type) (k_ : Int32 → (Nat → Int32) → Nat → (Nat → Int32) → (Nat → Int32) → Int32 → β), rr β k_ = kx_ β k_ tp_1 tpa_f p_2 te_f de_f l2 l3) → G E X 6 [(e, .inr (3, [.ref tp, .ref sd, .ref b1, .ref b2, .ref sh])), (tp, .inr (2, [.ref tpa, .int tp_1])), (tpa, .inl (E.2.2.1 1, 6000, .inl (nb tpa_f))), (p, .inr (7, [.ref te, .ref de, .int (nI p_2)])), (te, .inl (E.2.2.1 0, 8, .inl te_f)), (de, .inl (E.2.2.1 0, 8, .inl de_f))] 0 0 [(0, .ref e), (1, .ref p), (2, .int l2), (3, .int l3)] 78 []) : ∀ (n : Nat) (tp_1 : Int32) (tpa_f : Nat → Int32) (p_2 : Nat) (te_f : Nat → Int32) (de_f : Nat → Int32) (l2 : Int32) (l3 : Int32), p_2 ≤ 8 → (Int32.toInt l2 - Int32.toInt l3).toNat < n → (∀ (β : Type) (k_ : Int32 → (Nat → Int32) → Nat → (Nat → Int32) → (Nat → Int32) → Int32 → β), rr β k_ = lf_wk_X3_readPlan_6  β (kx_ β k_) k_ n tp_1 tpa_f p_2 te_f de_f l2 l3) → G E X 6 [(e, .inr (3, [.ref tp, .ref sd, .ref b1, .ref b2, .ref sh])), (tp, .inr (2, [.ref tpa, .int tp_1])), (tpa, .inl (E.2.2.1 1, 6000, .inl (nb tpa_f))), (p, .inr (7, [.ref te, .ref de, .int (nI p_2)])), (te, .inl (E.2.2.1 0, 8, .inl te_f)), (de, .inl (E.2.2.1 0, 8, .inl de_f))] 0 0 [(0, .ref e), (1, .ref p), (2, .int l2), (3, .int l3)] 6 [] := by
  intro n
  induction n with
  | zero => intro tp_1 tpa_f p_2 te_f de_f l2 l3 _ h _; exact absurd h (Nat.not_lt_zero _)
  | succ n ih =>
    intro tp_1 tpa_f p_2 te_f de_f l2 l3 hs0 hm e_
    replace e_ := fun β k_ => (e_ β k_).trans lf_wk_X3_readPlan_6_s
    refine g_iload_n B dX3_readPlan_6 rfl 3 rfl ?_
    refine g_iload_n B dX3_readPlan_7 rfl 2 rfl ?_
    refine g_icmp_ge (tgt := 78) B dX3_readPlan_8 (by decide) (fun c8_1206 => ?_) (fun c8_1206 => ?_)
    · replace e_ := fun β k_ => (e_ β k_).trans (if_pos c8_1206)
      exact K tp_1 tpa_f p_2 te_f de_f l2 l3 (by first | assumption | omega | decide) e_
    · replace e_ := fun β k_ => (e_ β k_).trans (if_neg c8_1206)
      refine g_aload_n B dX3_readPlan_11 rfl 0 rfl ?_
      refine g_get B 0 0 fl_X3_9 rfl rfl dX3_readPlan_12 ?_
      refine g_bipush (v := 6) B dX3_readPlan_15 (by decide) ?_
      refine g_iconst (v := 2) B dX3_readPlan_17 (by decide) ?_
      refine g_iload_n B dX3_readPlan_18 rfl 3 rfl ?_
      refine g_imul B dX3_readPlan_19 ?_
      refine g_iadd B dX3_readPlan_20 ?_
      refine g_callV (st := []) (As := [.int (6 + (2 * l3))]) (wr := [(e, .inr (3, [.ref tp, .ref sd, .ref b1, .ref b2, .ref sh])), (p, .inr (7, [.ref te, .ref de, .int (nI p_2)])), (te, .inl (E.2.2.1 0, 8, .inl te_f)), (de, .inl (E.2.2.1 0, 8, .inl de_f))]) (nc' := 0) (ns' := 0) B cl_X3_59 w_im_X2_at w_se_X2_at (wk_X2_at E tp tpa 6000 tp_1 tpa_f (6 + (2 * l3)) (by first | assumption | omega | decide)) rfl [1, 2] [0, 3, 4, 5] rfl rfl (by decide) (by decide) (by decide) 0 rfl (fun q h => by cases h; rfl) rfl ⟨by decide, by decide⟩ rfl rfl (by decide) (by decide) rfl (Nat.le_of_ble_eq_true rfl) dX3_readPlan_21 (fun v w hq => ?_)
      obtain ⟨zt_1_1207, za_f_1208, zr_1209, hz_1210, rfl, rfl⟩ := hq
      replace e_ := fun β k_ => (e_ β k_).trans (hz_1210 β _)
      show G E X 6 [(e, .inr (3, [.ref tp, .ref sd, .ref b1, .ref b2, .ref sh])), (p, .inr (7, [.ref te, .ref de, .int (nI p_2)])), (te, .inl (E.2.2.1 0, 8, .inl te_f)), (de, .inl (E.2.2.1 0, 8, .inl de_f)), (tp, .inr (2, [.ref tpa, .int zt_1_1207])), (tpa, .inl (E.2.2.1 1, 6000, .inl (nb za_f_1208)))] 0 0 [(0, .ref e), (1, .ref p), (2, .int l2), (3, .int l3)] 24 [.int zr_1209]
      refine g_istore (lv' := [(4, .int zr_1209), (0, .ref e), (1, .ref p), (2, .int l2), (3, .int l3)]) B dX3_readPlan_24 (by decide) rfl ?_
      refine g_aload_n B dX3_readPlan_26 rfl 1 rfl ?_
      refine g_get B 0 0 fl_X3_9 rfl rfl dX3_readPlan_27 ?_
      refine g_bipush (v := 6) B dX3_readPlan_30 (by decide) ?_
      refine g_iconst (v := 2) B dX3_readPlan_32 (by decide) ?_
      refine g_iload_n B dX3_readPlan_33 rfl 4 rfl ?_
      refine g_imul B dX3_readPlan_34 ?_
      refine g_iadd B dX3_readPlan_35 ?_
      refine g_iconst (v := 1) B dX3_readPlan_36 (by decide) ?_
      refine g_iadd B dX3_readPlan_37 ?_
      refine g_callV (st := []) (As := [.int ((6 + (2 * l3)) + 1)]) (wr := [(e, .inr (3, [.ref tp, .ref sd, .ref b1, .ref b2, .ref sh])), (p, .inr (7, [.ref te, .ref de, .int (nI p_2)])), (te, .inl (E.2.2.1 0, 8, .inl te_f)), (de, .inl (E.2.2.1 0, 8, .inl de_f))]) (nc' := 0) (ns' := 0) B cl_X3_59 w_im_X2_at w_se_X2_at (wk_X2_at E tp tpa 6000 zt_1_1207 za_f_1208 ((6 + (2 * l3)) + 1) (by first | assumption | omega | decide)) rfl [4, 5] [0, 1, 2, 3] rfl rfl (by decide) (by decide) (by decide) 0 rfl (fun q h => by cases h; rfl) rfl ⟨by decide, by decide⟩ rfl rfl (by decide) (by decide) rfl (Nat.le_of_ble_eq_true rfl) dX3_readPlan_38 (fun v w hq => ?_)
      obtain ⟨zt_1_1211, za_f_1212, zr_1213, hz_1214, rfl, rfl⟩ := hq
      replace e_ := fun β k_ => (e_ β k_).trans (hz_1214 β _)
      show G E X 6 [(e, .inr (3, [.ref tp, .ref sd, .ref b1, .ref b2, .ref sh])), (p, .inr (7, [.ref te, .ref de, .int (nI p_2)])), (te, .inl (E.2.2.1 0, 8, .inl te_f)), (de, .inl (E.2.2.1 0, 8, .inl de_f)), (tp, .inr (2, [.ref tpa, .int zt_1_1211])), (tpa, .inl (E.2.2.1 1, 6000, .inl (nb za_f_1212)))] 0 0 [(4, .int zr_1209), (0, .ref e), (1, .ref p), (2, .int l2), (3, .int l3)] 41 [.int zr_1213]
      refine g_istore (lv' := [(5, .int zr_1213), (4, .int zr_1209), (0, .ref e), (1, .ref p), (2, .int l2), (3, .int l3)]) B dX3_readPlan_41 (by decide) rfl ?_
      refine g_aload_n B dX3_readPlan_43 rfl 3 rfl ?_
      refine g_iload B dX3_readPlan_44 1 rfl ?_
      refine g_bipush (v := 127) B dX3_readPlan_46 (by decide) ?_
      refine g_icmp_le (tgt := 60) B dX3_readPlan_48 (by decide) (fun c48_1215 => ?_) (fun c48_1215 => ?_)
      · replace e_ := fun β k_ => (e_ β k_).trans (if_pos c48_1215)
        refine g_iload B dX3_readPlan_60 1 rfl ?_
        refine g_iload B dX3_readPlan_62 0 rfl ?_
        refine g_callV (st := []) (As := [.int zr_1209, .int zr_1213]) (wr := [(e, .inr (3, [.ref tp, .ref sd, .ref b1, .ref b2, .ref sh])), (tp, .inr (2, [.ref tpa, .int zt_1_1211])), (tpa, .inl (E.2.2.1 1, 6000, .inl (nb za_f_1212)))]) (nc' := 0) (ns' := 0) B cl_X3_95 w_im_X7_add w_se_X7_add (wk_X7_add E p te de p_2 te_f de_f zr_1209 zr_1213 (by first | assumption | omega | decide)) rfl [1, 2, 3] [0, 4, 5] rfl rfl (by decide) (by decide) (by decide) 0 rfl (fun q h => by cases h; rfl) rfl ⟨by decide, by decide⟩ rfl rfl (by decide) (by decide) rfl (Nat.le_of_ble_eq_true rfl) dX3_readPlan_64 (fun v w hq => ?_)
        obtain ⟨zp_2_1216, zte_f_1217, zde_f_1218, zr_1219, hf_1220, hf_1221, hz_1222, rfl, rfl⟩ := hq
        replace e_ := fun β k_ => (e_ β k_).trans (hz_1222 β _)
        show G E X 6 [(e, .inr (3, [.ref tp, .ref sd, .ref b1, .ref b2, .ref sh])), (tp, .inr (2, [.ref tpa, .int zt_1_1211])), (tpa, .inl (E.2.2.1 1, 6000, .inl (nb za_f_1212))), (p, .inr (7, [.ref te, .ref de, .int (nI zp_2_1216)])), (te, .inl (E.2.2.1 0, 8, .inl zte_f_1217)), (de, .inl (E.2.2.1 0, 8, .inl zde_f_1218))] 0 0 [(5, .int zr_1213), (4, .int zr_1209), (0, .ref e), (1, .ref p), (2, .int l2), (3, .int l3)] 67 [.int zr_1219]
        refine g_if_ne (tgt := 72) B dX3_readPlan_67 (by decide) (fun c67_1223 => ?_) (fun c67_1223 => ?_)
        · replace e_ := fun β k_ => (e_ β k_).trans (if_neg c67_1223)
          refine g_iinc (v := (l3 + 1)) (lv' := [(3, .int (l3 + 1)), (5, .int zr_1213), (4, .int zr_1209), (0, .ref e), (1, .ref p), (2, .int l2)]) B dX3_readPlan_72 5 rfl rfl (by decide) rfl ?_
          refine g_goto (tgt := 6) B dX3_readPlan_75 (by decide) ?_
          refine g_lvsub (lv' := [(0, .ref e), (1, .ref p), (2, .int l2), (3, .int (l3 + 1))]) [3, 4, 5, 0] rfl ?_
          exact ih zt_1_1211 za_f_1212 zp_2_1216 zte_f_1217 zde_f_1218 l2 (l3 + 1) (by first | assumption | omega | decide)  (Nat.lt_of_lt_of_le (st_up (o_2 c8_1206)) (Nat.le_of_lt_succ hm)) e_
        · replace e_ := fun β k_ => (e_ β k_).trans (if_pos c67_1223)
          refine g_iconst (v := 0) B dX3_readPlan_70 (by decide) ?_
          exact g_zret B hr (by decide) dX3_readPlan_71 (by decide) (by decide) ⟨zt_1_1211, za_f_1212, zp_2_1216, zte_f_1217, zde_f_1218, 0, (Or.inl rfl), (by first | assumption | omega | decide), e_, rfl, rfl⟩
      · replace e_ := fun β k_ => (e_ β k_).trans (if_neg c48_1215)
        refine g_iload B dX3_readPlan_51 1 rfl ?_
        refine g_sipush (v := 256) B dX3_readPlan_53 (by decide) ?_
        refine g_isub B dX3_readPlan_56 ?_
        refine g_goto (tgt := 62) B dX3_readPlan_57 (by decide) ?_
        refine g_iload B dX3_readPlan_62 0 rfl ?_
        refine g_callV (st := []) (As := [.int (zr_1209 - 256), .int zr_1213]) (wr := [(e, .inr (3, [.ref tp, .ref sd, .ref b1, .ref b2, .ref sh])), (tp, .inr (2, [.ref tpa, .int zt_1_1211])), (tpa, .inl (E.2.2.1 1, 6000, .inl (nb za_f_1212)))]) (nc' := 0) (ns' := 0) B cl_X3_95 w_im_X7_add w_se_X7_add (wk_X7_add E p te de p_2 te_f de_f (zr_1209 - 256) zr_1213 (by first | assumption | omega | decide)) rfl [1, 2, 3] [0, 4, 5] rfl rfl (by decide) (by decide) (by decide) 0 rfl (fun q h => by cases h; rfl) rfl ⟨by decide, by decide⟩ rfl rfl (by decide) (by decide) rfl (Nat.le_of_ble_eq_true rfl) dX3_readPlan_64 (fun v w hq => ?_)
        obtain ⟨zp_2_1224, zte_f_1225, zde_f_1226, zr_1227, hf_1228, hf_1229, hz_1230, rfl, rfl⟩ := hq
        replace e_ := fun β k_ => (e_ β k_).trans (hz_1230 β _)
        show G E X 6 [(e, .inr (3, [.ref tp, .ref sd, .ref b1, .ref b2, .ref sh])), (tp, .inr (2, [.ref tpa, .int zt_1_1211])), (tpa, .inl (E.2.2.1 1, 6000, .inl (nb za_f_1212))), (p, .inr (7, [.ref te, .ref de, .int (nI zp_2_1224)])), (te, .inl (E.2.2.1 0, 8, .inl zte_f_1225)), (de, .inl (E.2.2.1 0, 8, .inl zde_f_1226))] 0 0 [(5, .int zr_1213), (4, .int zr_1209), (0, .ref e), (1, .ref p), (2, .int l2), (3, .int l3)] 67 [.int zr_1227]
        refine g_if_ne (tgt := 72) B dX3_readPlan_67 (by decide) (fun c67_1231 => ?_) (fun c67_1231 => ?_)
        · replace e_ := fun β k_ => (e_ β k_).trans (if_neg c67_1231)
          refine g_iinc (v := (l3 + 1)) (lv' := [(3, .int (l3 + 1)), (5, .int zr_1213), (4, .int zr_1209), (0, .ref e), (1, .ref p), (2, .int l2)]) B dX3_readPlan_72 5 rfl rfl (by decide) rfl ?_
          refine g_goto (tgt := 6) B dX3_readPlan_75 (by decide) ?_
          refine g_lvsub (lv' := [(0, .ref e), (1, .ref p), (2, .int l2), (3, .int (l3 + 1))]) [3, 4, 5, 0] rfl ?_
          exact ih zt_1_1211 za_f_1212 zp_2_1224 zte_f_1225 zde_f_1226 l2 (l3 + 1) (by first | assumption | omega | decide)  (Nat.lt_of_lt_of_le (st_up (o_2 c8_1206)) (Nat.le_of_lt_succ hm)) e_
        · replace e_ := fun β k_ => (e_ β k_).trans (if_pos c67_1231)
          refine g_iconst (v := 0) B dX3_readPlan_70 (by decide) ?_
          exact g_zret B hr (by decide) dX3_readPlan_71 (by decide) (by decide) ⟨zt_1_1211, za_f_1212, zp_2_1224, zte_f_1225, zde_f_1226, 0, (Or.inl rfl), (by first | assumption | omega | decide), e_, rfl, rfl⟩
theorem dX3_readPlan_78 : decode cX3_readPlan 78 = .ok (.iconst 1, 1) := by decide +kernel
theorem dX3_readPlan_79 : decode cX3_readPlan 79 = .ok (.ireturn, 1) := by decide +kernel
set_option maxRecDepth 100000 in
def fn_wk_X3_readPlan (tp_1 : Int32) (tpa_f : Nat → Int32) (te_f : Nat → Int32) (de_f : Nat → Int32) (pp : Int32) (β : Type) (k_ : Int32 → (Nat → Int32) → Nat → (Nat → Int32) → (Nat → Int32) → Int32 → β) : β := (fn_wk_X7_clear β (fun zp_2_1203 => (lf_wk_X3_readPlan_6  β (fun y_1232tp_1 y_1232tpa_f y_1232p_2 y_1232te_f y_1232de_f y_1232l2 y_1232l3 => (k_ y_1232tp_1 y_1232tpa_f y_1232p_2 y_1232te_f y_1232de_f 1)) k_ ((Int32.toInt pp - Int32.toInt 0).toNat + 1) tp_1 tpa_f zp_2_1203 te_f de_f pp 0)))
set_option maxRecDepth 100000 in
theorem fn_wk_X3_readPlan_s {tp_1 : Int32} {tpa_f : Nat → Int32} {te_f : Nat → Int32} {de_f : Nat → Int32} {pp : Int32} {β : Type} {k_ : Int32 → (Nat → Int32) → Nat → (Nat → Int32) → (Nat → Int32) → Int32 → β} : fn_wk_X3_readPlan tp_1 tpa_f te_f de_f pp β k_ = (fn_wk_X7_clear β (fun zp_2_1203 => (lf_wk_X3_readPlan_6  β (fun y_1232tp_1 y_1232tpa_f y_1232p_2 y_1232te_f y_1232de_f y_1232l2 y_1232l3 => (k_ y_1232tp_1 y_1232tpa_f y_1232p_2 y_1232te_f y_1232de_f 1)) k_ ((Int32.toInt pp - Int32.toInt 0).toNat + 1) tp_1 tpa_f zp_2_1203 te_f de_f pp 0))) := rfl
set_option maxRecDepth 100000 in
set_option maxHeartbeats 4000000 in
theorem wk_X3_readPlan (E : g_E) (e : Nat) (tp : Nat) (sd : Nat) (b1 : Nat) (b2 : Nat) (sh : Nat) (tpa : Nat) (p : Nat) (te : Nat) (de : Nat) (tp_1 : Int32) (tpa_f : Nat → Int32) (p_2 : Nat) (te_f : Nat → Int32) (de_f : Nat → Int32) (pp : Int32) (hp0 : p_2 ≤ 8) : Ev E MX3_readPlan 2 42 0 0 [.ref e, .ref p, .int pp] [(e, .inr (3, [.ref tp, .ref sd, .ref b1, .ref b2, .ref sh])), (tp, .inr (2, [.ref tpa, .int tp_1])), (tpa, .inl (E.2.2.1 1, 6000, .inl (nb tpa_f))), (p, .inr (7, [.ref te, .ref de, .int (nI p_2)])), (te, .inl (E.2.2.1 0, 8, .inl te_f)), (de, .inl (E.2.2.1 0, 8, .inl de_f))] (fun v_ w_ => ∃ ztp_1 : Int32, ∃ ztpa_f : Nat → Int32, ∃ zp_2 : Nat, ∃ zte_f : Nat → Int32, ∃ zde_f : Nat → Int32, ∃ zr : Int32, (zr = 0 ∨ zr = 1) ∧ (zp_2 ≤ 8) ∧ (∀ (β : Type) (k_ : Int32 → (Nat → Int32) → Nat → (Nat → Int32) → (Nat → Int32) → Int32 → β), fn_wk_X3_readPlan tp_1 tpa_f te_f de_f pp β k_ = k_ ztp_1 ztpa_f zp_2 zte_f zde_f zr) ∧ v_ = some (.int zr) ∧ w_ = [(e, .inr (3, [.ref tp, .ref sd, .ref b1, .ref b2, .ref sh])), (tp, .inr (2, [.ref tpa, .int ztp_1])), (tpa, .inl (E.2.2.1 1, 6000, .inl (nb ztpa_f))), (p, .inr (7, [.ref te, .ref de, .int (nI zp_2)])), (te, .inl (E.2.2.1 0, 8, .inl zte_f)), (de, .inl (E.2.2.1 0, 8, .inl zde_f))]) := by
  refine Ev.intro (by decide) (Nat.le_of_ble_eq_true rfl) ?_
  intro X B hr hI
  have B : Bd E X cX3_readPlan RX3 6 2 42 0 0 := B
  have hr : Rt E X (some .boolean) 0 0 (fun v_ w_ => ∃ ztp_1 : Int32, ∃ ztpa_f : Nat → Int32, ∃ zp_2 : Nat, ∃ zte_f : Nat → Int32, ∃ zde_f : Nat → Int32, ∃ zr : Int32, (zr = 0 ∨ zr = 1) ∧ (zp_2 ≤ 8) ∧ (∀ (β : Type) (k_ : Int32 → (Nat → Int32) → Nat → (Nat → Int32) → (Nat → Int32) → Int32 → β), fn_wk_X3_readPlan tp_1 tpa_f te_f de_f pp β k_ = k_ ztp_1 ztpa_f zp_2 zte_f zde_f zr) ∧ v_ = some (.int zr) ∧ w_ = [(e, .inr (3, [.ref tp, .ref sd, .ref b1, .ref b2, .ref sh])), (tp, .inr (2, [.ref tpa, .int ztp_1])), (tpa, .inl (E.2.2.1 1, 6000, .inl (nb ztpa_f))), (p, .inr (7, [.ref te, .ref de, .int (nI zp_2)])), (te, .inl (E.2.2.1 0, 8, .inl zte_f)), (de, .inl (E.2.2.1 0, 8, .inl zde_f))]) := hr
  have e_ := fun (β : Type) (k_ : Int32 → (Nat → Int32) → Nat → (Nat → Int32) → (Nat → Int32) → Int32 → β) => fn_wk_X3_readPlan_s (β := β) (k_ := k_) (tp_1 := tp_1) (tpa_f := tpa_f) (te_f := te_f) (de_f := de_f) (pp := pp)
  show G E X 6 [(e, .inr (3, [.ref tp, .ref sd, .ref b1, .ref b2, .ref sh])), (tp, .inr (2, [.ref tpa, .int tp_1])), (tpa, .inl (E.2.2.1 1, 6000, .inl (nb tpa_f))), (p, .inr (7, [.ref te, .ref de, .int (nI p_2)])), (te, .inl (E.2.2.1 0, 8, .inl te_f)), (de, .inl (E.2.2.1 0, 8, .inl de_f))] 0 0 [(0, .ref e), (1, .ref p), (2, .int pp)] 0 []
  refine g_aload_n B dX3_readPlan_0 rfl 1 rfl ?_
  refine g_callV (st := []) (As := []) (wr := [(e, .inr (3, [.ref tp, .ref sd, .ref b1, .ref b2, .ref sh])), (tp, .inr (2, [.ref tpa, .int tp_1])), (tpa, .inl (E.2.2.1 1, 6000, .inl (nb tpa_f))), (te, .inl (E.2.2.1 0, 8, .inl te_f)), (de, .inl (E.2.2.1 0, 8, .inl de_f))]) (nc' := 0) (ns' := 0) B cl_X3_90 w_im_X7_clear w_se_X7_clear (wk_X7_clear E p te de p_2 (by first | assumption | omega | decide)) rfl [3] [0, 1, 2, 4, 5] rfl rfl (by decide) (by decide) (by decide) 0 rfl (fun q h => by cases h; rfl) rfl ⟨by decide, by decide⟩ rfl rfl (by decide) (by decide) rfl (Nat.le_of_ble_eq_true rfl) dX3_readPlan_1 (fun v w hq => ?_)
  obtain ⟨zp_2_1203, hf_1204, hz_1205, rfl, rfl⟩ := hq
  replace e_ := fun β k_ => (e_ β k_).trans (hz_1205 β _)
  show G E X 6 [(e, .inr (3, [.ref tp, .ref sd, .ref b1, .ref b2, .ref sh])), (tp, .inr (2, [.ref tpa, .int tp_1])), (tpa, .inl (E.2.2.1 1, 6000, .inl (nb tpa_f))), (te, .inl (E.2.2.1 0, 8, .inl te_f)), (de, .inl (E.2.2.1 0, 8, .inl de_f)), (p, .inr (7, [.ref te, .ref de, .int (nI zp_2_1203)]))] 0 0 [(0, .ref e), (1, .ref p), (2, .int pp)] 4 []
  refine g_iconst (v := 0) B dX3_readPlan_4 (by decide) ?_
  refine g_istore_n (lv' := [(3, .int 0), (0, .ref e), (1, .ref p), (2, .int pp)]) B dX3_readPlan_5 rfl (by decide) rfl ?_
  refine g_sub (ws' := [(e, .inr (3, [.ref tp, .ref sd, .ref b1, .ref b2, .ref sh])), (tp, .inr (2, [.ref tpa, .int tp_1])), (tpa, .inl (E.2.2.1 1, 6000, .inl (nb tpa_f))), (p, .inr (7, [.ref te, .ref de, .int (nI zp_2_1203)])), (te, .inl (E.2.2.1 0, 8, .inl te_f)), (de, .inl (E.2.2.1 0, 8, .inl de_f))]) [0, 1, 2, 5, 3, 4] (by decide) rfl ?_
  refine g_lvsub (lv' := [(0, .ref e), (1, .ref p), (2, .int pp), (3, .int 0)]) [1, 2, 3, 0] rfl ?_
  refine lp_wk_X3_readPlan_6 E e tp sd b1 b2 sh tpa p te de  _ B hr (fun y_1232tp_1 y_1232tpa_f y_1232p_2 y_1232te_f y_1232de_f y_1232l2 y_1232l3 y_1232h0 e_ => ?_) _ tp_1 tpa_f zp_2_1203 te_f de_f pp 0 (by first | assumption | omega | decide)  (Nat.lt_succ_self _) e_
  refine g_iconst (v := 1) B dX3_readPlan_78 (by decide) ?_
  exact g_zret B hr (by decide) dX3_readPlan_79 (by decide) (by decide) ⟨y_1232tp_1, y_1232tpa_f, y_1232p_2, y_1232te_f, y_1232de_f, 1, (Or.inr rfl), (by first | assumption | omega | decide), e_, rfl, rfl⟩
abbrev MX3_readHead : g_M := (yX3_readHead, cX3_readHead, 11, (some .boolean))
theorem dX3_readHead_0 : decode cX3_readHead 0 = .ok (.aload_n 0, 1) := by decide +kernel
theorem dX3_readHead_1 : decode cX3_readHead 1 = .ok (.getfield 9, 3) := by decide +kernel
theorem dX3_readHead_4 : decode cX3_readHead 4 = .ok (.iconst 1, 1) := by decide +kernel
theorem dX3_readHead_5 : decode cX3_readHead 5 = .ok (.invokevirtual 59, 3) := by decide +kernel
theorem dX3_readHead_8 : decode cX3_readHead 8 = .ok (.istore_n 3, 1) := by decide +kernel
theorem dX3_readHead_9 : decode cX3_readHead 9 = .ok (.aload_n 0, 1) := by decide +kernel
theorem dX3_readHead_10 : decode cX3_readHead 10 = .ok (.getfield 9, 3) := by decide +kernel
theorem dX3_readHead_13 : decode cX3_readHead 13 = .ok (.iconst 2, 1) := by decide +kernel
theorem dX3_readHead_14 : decode cX3_readHead 14 = .ok (.invokevirtual 59, 3) := by decide +kernel
theorem dX3_readHead_17 : decode cX3_readHead 17 = .ok (.istore 4, 2) := by decide +kernel
theorem dX3_readHead_19 : decode cX3_readHead 19 = .ok (.aload_n 0, 1) := by decide +kernel
theorem dX3_readHead_20 : decode cX3_readHead 20 = .ok (.getfield 9, 3) := by decide +kernel
theorem dX3_readHead_23 : decode cX3_readHead 23 = .ok (.iconst 3, 1) := by decide +kernel
theorem dX3_readHead_24 : decode cX3_readHead 24 = .ok (.invokevirtual 59, 3) := by decide +kernel
theorem dX3_readHead_27 : decode cX3_readHead 27 = .ok (.bipush 8, 2) := by decide +kernel
theorem dX3_readHead_29 : decode cX3_readHead 29 = .ok (.ishl, 1) := by decide +kernel
theorem dX3_readHead_30 : decode cX3_readHead 30 = .ok (.aload_n 0, 1) := by decide +kernel
theorem dX3_readHead_31 : decode cX3_readHead 31 = .ok (.getfield 9, 3) := by decide +kernel
theorem dX3_readHead_34 : decode cX3_readHead 34 = .ok (.iconst 4, 1) := by decide +kernel
theorem dX3_readHead_35 : decode cX3_readHead 35 = .ok (.invokevirtual 59, 3) := by decide +kernel
theorem dX3_readHead_38 : decode cX3_readHead 38 = .ok (.ior, 1) := by decide +kernel
theorem dX3_readHead_39 : decode cX3_readHead 39 = .ok (.istore 5, 2) := by decide +kernel
theorem dX3_readHead_41 : decode cX3_readHead 41 = .ok (.aload_n 0, 1) := by decide +kernel
theorem dX3_readHead_42 : decode cX3_readHead 42 = .ok (.getfield 9, 3) := by decide +kernel
theorem dX3_readHead_45 : decode cX3_readHead 45 = .ok (.iconst 5, 1) := by decide +kernel
theorem dX3_readHead_46 : decode cX3_readHead 46 = .ok (.invokevirtual 59, 3) := by decide +kernel
theorem dX3_readHead_49 : decode cX3_readHead 49 = .ok (.istore 6, 2) := by decide +kernel
theorem dX3_readHead_51 : decode cX3_readHead 51 = .ok (.aload_n 0, 1) := by decide +kernel
theorem dX3_readHead_52 : decode cX3_readHead 52 = .ok (.getfield 9, 3) := by decide +kernel
theorem dX3_readHead_55 : decode cX3_readHead 55 = .ok (.iconst 0, 1) := by decide +kernel
theorem dX3_readHead_56 : decode cX3_readHead 56 = .ok (.invokevirtual 59, 3) := by decide +kernel
theorem dX3_readHead_59 : decode cX3_readHead 59 = .ok (.bipush 83, 2) := by decide +kernel
theorem dX3_readHead_61 : decode cX3_readHead 61 = .ok (.if_icmp .ne 38, 3) := by decide +kernel
theorem dX3_readHead_99 : decode cX3_readHead 99 = .ok (.iconst 0, 1) := by decide +kernel
theorem dX3_readHead_100 : decode cX3_readHead 100 = .ok (.ireturn, 1) := by decide +kernel
theorem dX3_readHead_64 : decode cX3_readHead 64 = .ok (.iload_n 3, 1) := by decide +kernel
theorem dX3_readHead_65 : decode cX3_readHead 65 = .ok (.invokestatic 62, 3) := by decide +kernel
theorem w_ml_X3_62 : Cond.methodLink RX3 62 yX3_areFlags ∈ g_tbl := g_tbl_in 761 (by decide +kernel) (by decide +kernel)
theorem w_cd_X3_areFlags : g_cw MX3_areFlags ∈ g_tbl := g_tbl_in 763 (by decide +kernel) (by decide +kernel)
theorem cl_X3_62 : CL RX3 62 1 MX3_areFlags := ⟨w_ml_X3_62, w_cd_X3_areFlags, w_ini_X3, by decide +kernel, by decide +kernel, by decide +kernel⟩
theorem w_sm_X3_areFlags : Cond.static yX3_areFlags ∈ g_tbl := g_tbl_in 762 (by decide +kernel) (by decide +kernel)
theorem dX3_readHead_68 : decode cX3_readHead 68 = .ok (.ifCond .eq 31, 3) := by decide +kernel
theorem dX3_readHead_71 : decode cX3_readHead 71 = .ok (.iload 4, 2) := by decide +kernel
theorem dX3_readHead_73 : decode cX3_readHead 73 = .ok (.bipush 23, 2) := by decide +kernel
theorem dX3_readHead_75 : decode cX3_readHead 75 = .ok (.if_icmp .gt 24, 3) := by decide +kernel
theorem dX3_readHead_78 : decode cX3_readHead 78 = .ok (.iload 5, 2) := by decide +kernel
theorem dX3_readHead_80 : decode cX3_readHead 80 = .ok (.iconst 1, 1) := by decide +kernel
theorem dX3_readHead_81 : decode cX3_readHead 81 = .ok (.if_icmp .lt 18, 3) := by decide +kernel
theorem dX3_readHead_84 : decode cX3_readHead 84 = .ok (.iload 5, 2) := by decide +kernel
theorem dX3_readHead_86 : decode cX3_readHead 86 = .ok (.sipush 600, 3) := by decide +kernel
theorem dX3_readHead_89 : decode cX3_readHead 89 = .ok (.if_icmp .gt 10, 3) := by decide +kernel
theorem dX3_readHead_92 : decode cX3_readHead 92 = .ok (.iload 6, 2) := by decide +kernel
theorem dX3_readHead_94 : decode cX3_readHead 94 = .ok (.bipush 8, 2) := by decide +kernel
theorem dX3_readHead_96 : decode cX3_readHead 96 = .ok (.if_icmp .le 5, 3) := by decide +kernel
theorem dX3_readHead_101 : decode cX3_readHead 101 = .ok (.iload_n 3, 1) := by decide +kernel
theorem dX3_readHead_102 : decode cX3_readHead 102 = .ok (.bipush 8, 2) := by decide +kernel
theorem dX3_readHead_104 : decode cX3_readHead 104 = .ok (.iand, 1) := by decide +kernel
theorem dX3_readHead_105 : decode cX3_readHead 105 = .ok (.ifCond .eq 7, 3) := by decide +kernel
theorem dX3_readHead_112 : decode cX3_readHead 112 = .ok (.iconst 0, 1) := by decide +kernel
theorem dX3_readHead_113 : decode cX3_readHead 113 = .ok (.istore 7, 2) := by decide +kernel
theorem dX3_readHead_115 : decode cX3_readHead 115 = .ok (.bipush 6, 2) := by decide +kernel
theorem dX3_readHead_117 : decode cX3_readHead 117 = .ok (.iconst 2, 1) := by decide +kernel
theorem dX3_readHead_118 : decode cX3_readHead 118 = .ok (.iload 6, 2) := by decide +kernel
theorem dX3_readHead_120 : decode cX3_readHead 120 = .ok (.imul, 1) := by decide +kernel
theorem dX3_readHead_121 : decode cX3_readHead 121 = .ok (.iadd, 1) := by decide +kernel
theorem dX3_readHead_122 : decode cX3_readHead 122 = .ok (.istore 8, 2) := by decide +kernel
theorem dX3_readHead_124 : decode cX3_readHead 124 = .ok (.iload 8, 2) := by decide +kernel
theorem dX3_readHead_126 : decode cX3_readHead 126 = .ok (.iload 7, 2) := by decide +kernel
theorem dX3_readHead_128 : decode cX3_readHead 128 = .ok (.ifCond .eq 7, 3) := by decide +kernel
theorem dX3_readHead_135 : decode cX3_readHead 135 = .ok (.iconst 0, 1) := by decide +kernel
theorem dX3_readHead_136 : decode cX3_readHead 136 = .ok (.iadd, 1) := by decide +kernel
theorem dX3_readHead_137 : decode cX3_readHead 137 = .ok (.istore 9, 2) := by decide +kernel
theorem dX3_readHead_139 : decode cX3_readHead 139 = .ok (.iload 9, 2) := by decide +kernel
theorem dX3_readHead_141 : decode cX3_readHead 141 = .ok (.iload_n 2, 1) := by decide +kernel
theorem dX3_readHead_142 : decode cX3_readHead 142 = .ok (.if_icmp .gt 19, 3) := by decide +kernel
theorem dX3_readHead_161 : decode cX3_readHead 161 = .ok (.iconst 0, 1) := by decide +kernel
theorem dX3_readHead_162 : decode cX3_readHead 162 = .ok (.ireturn, 1) := by decide +kernel
theorem dX3_readHead_145 : decode cX3_readHead 145 = .ok (.aload_n 0, 1) := by decide +kernel
theorem dX3_readHead_146 : decode cX3_readHead 146 = .ok (.aload_n 1, 1) := by decide +kernel
theorem dX3_readHead_147 : decode cX3_readHead 147 = .ok (.getfield 66, 3) := by decide +kernel
theorem w_fl_X3_66 : Cond.fieldLink RX3 66 (TX9 0).1 (TX9 0).2.1 (TX9 0).2.2.1 ∈ g_tbl := g_tbl_in 311 (by decide +kernel) (by decide +kernel)
theorem fl_X3_66 : FL RX3 66 9 0 := ⟨RX9, TX9, 12, rfl, by decide, inX_X9, w_fl_X3_66⟩
theorem dX3_readHead_150 : decode cX3_readHead 150 = .ok (.getfield 72, 3) := by decide +kernel
theorem w_fl_X3_72 : Cond.fieldLink RX3 72 (TX6 0).1 (TX6 0).2.1 (TX6 0).2.2.1 ∈ g_tbl := g_tbl_in 262 (by decide +kernel) (by decide +kernel)
theorem fl_X3_72 : FL RX3 72 6 0 := ⟨RX6, TX6, 8, rfl, by decide, inX_X6, w_fl_X3_72⟩
theorem dX3_readHead_153 : decode cX3_readHead 153 = .ok (.iload 6, 2) := by decide +kernel
theorem dX3_readHead_155 : decode cX3_readHead 155 = .ok (.invokevirtual 78, 3) := by decide +kernel
theorem w_ml_X3_78 : Cond.methodLink RX3 78 yX3_readPlan ∈ g_tbl := g_tbl_in 764 (by decide +kernel) (by decide +kernel)
theorem w_cd_X3_readPlan : g_cw MX3_readPlan ∈ g_tbl := g_tbl_in 767 (by decide +kernel) (by decide +kernel)
theorem cl_X3_78 : CL RX3 78 2 MX3_readPlan := ⟨w_ml_X3_78, w_cd_X3_readPlan, w_ini_X3, by decide +kernel, by decide +kernel, by decide +kernel⟩
theorem w_im_X3_readPlan : Cond.instanceMethod yX3_readPlan ∈ g_tbl := g_tbl_in 766 (by decide +kernel) (by decide +kernel)
theorem w_se_X3_readPlan : Cond.selects RX3 yX3_readPlan yX3_readPlan ∈ g_tbl := g_tbl_in 20 (by decide +kernel) (by decide +kernel)
theorem dX3_readHead_158 : decode cX3_readHead 158 = .ok (.ifCond .ne 5, 3) := by decide +kernel
theorem dX3_readHead_163 : decode cX3_readHead 163 = .ok (.iload 7, 2) := by decide +kernel
theorem dX3_readHead_165 : decode cX3_readHead 165 = .ok (.ifCond .eq 30, 3) := by decide +kernel
theorem dX3_readHead_195 : decode cX3_readHead 195 = .ok (.iconst 0, 1) := by decide +kernel
theorem dX3_readHead_196 : decode cX3_readHead 196 = .ok (.istore 10, 2) := by decide +kernel
theorem dX3_readHead_198 : decode cX3_readHead 198 = .ok (.aload_n 1, 1) := by decide +kernel
theorem dX3_readHead_199 : decode cX3_readHead 199 = .ok (.iload_n 3, 1) := by decide +kernel
theorem dX3_readHead_200 : decode cX3_readHead 200 = .ok (.iload 4, 2) := by decide +kernel
theorem dX3_readHead_202 : decode cX3_readHead 202 = .ok (.iload 5, 2) := by decide +kernel
theorem dX3_readHead_204 : decode cX3_readHead 204 = .ok (.iload 10, 2) := by decide +kernel
theorem dX3_readHead_206 : decode cX3_readHead 206 = .ok (.invokevirtual 82, 3) := by decide +kernel
theorem w_ml_X3_82 : Cond.methodLink RX3 82 yX9_begin ∈ g_tbl := g_tbl_in 770 (by decide +kernel) (by decide +kernel)
theorem w_cd_X9_begin : g_cw MX9_begin ∈ g_tbl := g_tbl_in 461 (by decide +kernel) (by decide +kernel)
theorem cl_X3_82 : CL RX3 82 4 MX9_begin := ⟨w_ml_X3_82, w_cd_X9_begin, w_ini_X9, by decide +kernel, by decide +kernel, by decide +kernel⟩
theorem w_im_X9_begin : Cond.instanceMethod yX9_begin ∈ g_tbl := g_tbl_in 459 (by decide +kernel) (by decide +kernel)
theorem w_se_X9_begin : Cond.selects RX9 yX9_begin yX9_begin ∈ g_tbl := g_tbl_in 460 (by decide +kernel) (by decide +kernel)
theorem dX3_readHead_209 : decode cX3_readHead 209 = .ok (.aload_n 0, 1) := by decide +kernel
theorem dX3_readHead_210 : decode cX3_readHead 210 = .ok (.getfield 27, 3) := by decide +kernel
theorem dX3_readHead_213 : decode cX3_readHead 213 = .ok (.iload 9, 2) := by decide +kernel
theorem dX3_readHead_215 : decode cX3_readHead 215 = .ok (.iload_n 2, 1) := by decide +kernel
theorem dX3_readHead_216 : decode cX3_readHead 216 = .ok (.invokevirtual 86, 3) := by decide +kernel
theorem w_ml_X3_86 : Cond.methodLink RX3 86 yX0_start ∈ g_tbl := g_tbl_in 771 (by decide +kernel) (by decide +kernel)
theorem w_cd_X0_start : g_cw MX0_start ∈ g_tbl := g_tbl_in 774 (by decide +kernel) (by decide +kernel)
theorem cl_X3_86 : CL RX3 86 2 MX0_start := ⟨w_ml_X3_86, w_cd_X0_start, w_ini_X0, by decide +kernel, by decide +kernel, by decide +kernel⟩
theorem w_im_X0_start : Cond.instanceMethod yX0_start ∈ g_tbl := g_tbl_in 772 (by decide +kernel) (by decide +kernel)
theorem w_se_X0_start : Cond.selects RX0 yX0_start yX0_start ∈ g_tbl := g_tbl_in 773 (by decide +kernel) (by decide +kernel)
theorem dX3_readHead_219 : decode cX3_readHead 219 = .ok (.iload 7, 2) := by decide +kernel
theorem dX3_readHead_221 : decode cX3_readHead 221 = .ok (.ifCond .eq 8, 3) := by decide +kernel
theorem dX3_readHead_229 : decode cX3_readHead 229 = .ok (.iconst 1, 1) := by decide +kernel
theorem dX3_readHead_230 : decode cX3_readHead 230 = .ok (.goto 4, 3) := by decide +kernel
theorem dX3_readHead_234 : decode cX3_readHead 234 = .ok (.ireturn, 1) := by decide +kernel
theorem dX3_readHead_108 : decode cX3_readHead 108 = .ok (.iconst 1, 1) := by decide +kernel
theorem dX3_readHead_109 : decode cX3_readHead 109 = .ok (.goto 4, 3) := by decide +kernel
theorem dX3_readHead_131 : decode cX3_readHead 131 = .ok (.iconst 2, 1) := by decide +kernel
theorem dX3_readHead_132 : decode cX3_readHead 132 = .ok (.goto 4, 3) := by decide +kernel
theorem dX3_readHead_168 : decode cX3_readHead 168 = .ok (.aload_n 0, 1) := by decide +kernel
theorem dX3_readHead_169 : decode cX3_readHead 169 = .ok (.getfield 9, 3) := by decide +kernel
theorem dX3_readHead_172 : decode cX3_readHead 172 = .ok (.iload 8, 2) := by decide +kernel
theorem dX3_readHead_174 : decode cX3_readHead 174 = .ok (.invokevirtual 59, 3) := by decide +kernel
theorem dX3_readHead_177 : decode cX3_readHead 177 = .ok (.bipush 8, 2) := by decide +kernel
theorem dX3_readHead_179 : decode cX3_readHead 179 = .ok (.ishl, 1) := by decide +kernel
theorem dX3_readHead_180 : decode cX3_readHead 180 = .ok (.aload_n 0, 1) := by decide +kernel
theorem dX3_readHead_181 : decode cX3_readHead 181 = .ok (.getfield 9, 3) := by decide +kernel
theorem dX3_readHead_184 : decode cX3_readHead 184 = .ok (.iload 8, 2) := by decide +kernel
theorem dX3_readHead_186 : decode cX3_readHead 186 = .ok (.iconst 1, 1) := by decide +kernel
theorem dX3_readHead_187 : decode cX3_readHead 187 = .ok (.iadd, 1) := by decide +kernel
theorem dX3_readHead_188 : decode cX3_readHead 188 = .ok (.invokevirtual 59, 3) := by decide +kernel
theorem dX3_readHead_191 : decode cX3_readHead 191 = .ok (.ior, 1) := by decide +kernel
theorem dX3_readHead_192 : decode cX3_readHead 192 = .ok (.goto 4, 3) := by decide +kernel
theorem dX3_readHead_224 : decode cX3_readHead 224 = .ok (.iload 10, 2) := by decide +kernel
theorem dX3_readHead_226 : decode cX3_readHead 226 = .ok (.ifCond .le 7, 3) := by decide +kernel
theorem dX3_readHead_233 : decode cX3_readHead 233 = .ok (.iconst 0, 1) := by decide +kernel
set_option maxRecDepth 100000 in
def fn_wk_X3_readHead (tp_1 : Int32) (tpa_f : Nat → Int32) (b1_1 : Int32) (b1_2 : Int32) (b1_3 : Int32) (w_2 : Nat) (w_3 : Nat) (w_4 : Nat) (w_5 : Int32) (w_6 : Int32) (w_7 : Int32) (w_8 : Int32) (w_9 : Int32) (w_10 : Int32) (w_11 : Int32) (ps_5 : Int32) (ps_6 : Int32) (ps_7 : Int32) (p_2 : Nat) (te_f : Nat → Int32) (de_f : Nat → Int32) (we_f : Nat → Int32) (inp_f : Nat → Int32) (md_1 : Int64) (md_2 : Int64) (mi_f : Nat → Int64) (to_ : Int32) (β : Type) (k_ : Int32 → (Nat → Int32) → Int32 → Int32 → Int32 → Nat → Nat → Nat → Int32 → Int32 → Int32 → Int32 → Int32 → Int32 → Int32 → Int32 → Int32 → Int32 → Nat → (Nat → Int32) → (Nat → Int32) → (Nat → Int32) → (Nat → Int32) → Int64 → Int64 → (Nat → Int64) → Int32 → β) : β := (fn_wk_X2_at 6000 tp_1 tpa_f 1 β (fun zt_1_1233 za_f_1234 zr_1235 => (fn_wk_X2_at 6000 zt_1_1233 za_f_1234 2 β (fun zt_1_1237 za_f_1238 zr_1239 => (fn_wk_X2_at 6000 zt_1_1237 za_f_1238 3 β (fun zt_1_1241 za_f_1242 zr_1243 => (fn_wk_X2_at 6000 zt_1_1241 za_f_1242 4 β (fun zt_1_1245 za_f_1246 zr_1247 => (fnL ((zr_1243 <<< (8 &&& 31)) ||| zr_1247) (fun x_1249 => (fn_wk_X2_at 6000 zt_1_1245 za_f_1246 5 β (fun zt_1_1250 za_f_1251 zr_1252 => (fn_wk_X2_at 6000 zt_1_1250 za_f_1251 0 β (fun zt_1_1254 za_f_1255 zr_1256 => (if zr_1256 = 83 then (fn_wk_X3_areFlags zr_1235 β (fun zr_1259 => (if zr_1259 = 0 then (k_ zt_1_1254 za_f_1255 b1_1 b1_2 b1_3 w_2 w_3 w_4 w_5 w_6 w_7 w_8 w_9 w_10 w_11 ps_5 ps_6 ps_7 p_2 te_f de_f we_f inp_f md_1 md_2 mi_f 0) else (if 23 < zr_1239 then (k_ zt_1_1254 za_f_1255 b1_1 b1_2 b1_3 w_2 w_3 w_4 w_5 w_6 w_7 w_8 w_9 w_10 w_11 ps_5 ps_6 ps_7 p_2 te_f de_f we_f inp_f md_1 md_2 mi_f 0) else (if x_1249 < 1 then (k_ zt_1_1254 za_f_1255 b1_1 b1_2 b1_3 w_2 w_3 w_4 w_5 w_6 w_7 w_8 w_9 w_10 w_11 ps_5 ps_6 ps_7 p_2 te_f de_f we_f inp_f md_1 md_2 mi_f 0) else (if 600 < x_1249 then (k_ zt_1_1254 za_f_1255 b1_1 b1_2 b1_3 w_2 w_3 w_4 w_5 w_6 w_7 w_8 w_9 w_10 w_11 ps_5 ps_6 ps_7 p_2 te_f de_f we_f inp_f md_1 md_2 mi_f 0) else (if zr_1252 ≤ 8 then (if (zr_1235 &&& 8) = 0 then (fnL ((6 + (2 * zr_1252)) + 0) (fun x_1268 => (if to_ < x_1268 then (k_ zt_1_1254 za_f_1255 b1_1 b1_2 b1_3 w_2 w_3 w_4 w_5 w_6 w_7 w_8 w_9 w_10 w_11 ps_5 ps_6 ps_7 p_2 te_f de_f we_f inp_f md_1 md_2 mi_f 0) else (fn_wk_X3_readPlan zt_1_1254 za_f_1255 te_f de_f zr_1252 β (fun ztp_1_1270 ztpa_f_1271 zp_2_1272 zte_f_1273 zde_f_1274 zr_1275 => (if zr_1275 = 0 then (k_ ztp_1_1270 ztpa_f_1271 b1_1 b1_2 b1_3 w_2 w_3 w_4 w_5 w_6 w_7 w_8 w_9 w_10 w_11 ps_5 ps_6 ps_7 zp_2_1272 zte_f_1273 zde_f_1274 we_f inp_f md_1 md_2 mi_f 0) else (fnL (Int32.toNatClampNeg x_1249) (fun nf_1280 => (fn_wk_X9_begin nf_1280 ps_6 ps_7 we_f inp_f mi_f zr_1235 zr_1239 0 β (fun zw_2_1281 zw_3_1282 zw_4_1283 zw_5_1284 zw_6_1285 zw_7_1286 zw_8_1287 zw_9_1288 zw_10_1289 zw_11_1290 zps_5_1291 zps_6_1292 zps_7_1293 zwe_f_1294 zinp_f_1295 zmd_1_1296 zmd_2_1297 zmi_f_1298 => (fn_wk_X0_start x_1268 to_ β (fun zb_1_1303 zb_2_1304 zb_3_1305 => (k_ ztp_1_1270 ztpa_f_1271 zb_1_1303 zb_2_1304 zb_3_1305 zw_2_1281 zw_3_1282 zw_4_1283 zw_5_1284 zw_6_1285 zw_7_1286 zw_8_1287 zw_9_1288 zw_10_1289 zw_11_1290 zps_5_1291 zps_6_1292 zps_7_1293 zp_2_1272 zte_f_1273 zde_f_1274 zwe_f_1294 zinp_f_1295 zmd_1_1296 zmd_2_1297 zmi_f_1298 1))))))))))))) else (fnL ((6 + (2 * zr_1252)) + 2) (fun x_1307 => (if to_ < x_1307 then (k_ zt_1_1254 za_f_1255 b1_1 b1_2 b1_3 w_2 w_3 w_4 w_5 w_6 w_7 w_8 w_9 w_10 w_11 ps_5 ps_6 ps_7 p_2 te_f de_f we_f inp_f md_1 md_2 mi_f 0) else (fn_wk_X3_readPlan zt_1_1254 za_f_1255 te_f de_f zr_1252 β (fun ztp_1_1309 ztpa_f_1310 zp_2_1311 zte_f_1312 zde_f_1313 zr_1314 => (if zr_1314 = 0 then (k_ ztp_1_1309 ztpa_f_1310 b1_1 b1_2 b1_3 w_2 w_3 w_4 w_5 w_6 w_7 w_8 w_9 w_10 w_11 ps_5 ps_6 ps_7 zp_2_1311 zte_f_1312 zde_f_1313 we_f inp_f md_1 md_2 mi_f 0) else (fn_wk_X2_at 6000 ztp_1_1309 ztpa_f_1310 (6 + (2 * zr_1252)) β (fun zt_1_1319 za_f_1320 zr_1321 => (fn_wk_X2_at 6000 zt_1_1319 za_f_1320 ((6 + (2 * zr_1252)) + 1) β (fun zt_1_1323 za_f_1324 zr_1325 => (fnL ((zr_1321 <<< (8 &&& 31)) ||| zr_1325) (fun x_1327 => (fnL (Int32.toNatClampNeg x_1249) (fun nf_1328 => (fn_wk_X9_begin nf_1328 ps_6 ps_7 we_f inp_f mi_f zr_1235 zr_1239 x_1327 β (fun zw_2_1329 zw_3_1330 zw_4_1331 zw_5_1332 zw_6_1333 zw_7_1334 zw_8_1335 zw_9_1336 zw_10_1337 zw_11_1338 zps_5_1339 zps_6_1340 zps_7_1341 zwe_f_1342 zinp_f_1343 zmd_1_1344 zmd_2_1345 zmi_f_1346 => (fn_wk_X0_start x_1307 to_ β (fun zb_1_1351 zb_2_1352 zb_3_1353 => (if x_1327 ≤ 0 then (k_ zt_1_1323 za_f_1324 zb_1_1351 zb_2_1352 zb_3_1353 zw_2_1329 zw_3_1330 zw_4_1331 zw_5_1332 zw_6_1333 zw_7_1334 zw_8_1335 zw_9_1336 zw_10_1337 zw_11_1338 zps_5_1339 zps_6_1340 zps_7_1341 zp_2_1311 zte_f_1312 zde_f_1313 zwe_f_1342 zinp_f_1343 zmd_1_1344 zmd_2_1345 zmi_f_1346 0) else (k_ zt_1_1323 za_f_1324 zb_1_1351 zb_2_1352 zb_3_1353 zw_2_1329 zw_3_1330 zw_4_1331 zw_5_1332 zw_6_1333 zw_7_1334 zw_8_1335 zw_9_1336 zw_10_1337 zw_11_1338 zps_5_1339 zps_6_1340 zps_7_1341 zp_2_1311 zte_f_1312 zde_f_1313 zwe_f_1342 zinp_f_1343 zmd_1_1344 zmd_2_1345 zmi_f_1346 1))))))))))))))))))))) else (k_ zt_1_1254 za_f_1255 b1_1 b1_2 b1_3 w_2 w_3 w_4 w_5 w_6 w_7 w_8 w_9 w_10 w_11 ps_5 ps_6 ps_7 p_2 te_f de_f we_f inp_f md_1 md_2 mi_f 0)))))))) else (k_ zt_1_1254 za_f_1255 b1_1 b1_2 b1_3 w_2 w_3 w_4 w_5 w_6 w_7 w_8 w_9 w_10 w_11 ps_5 ps_6 ps_7 p_2 te_f de_f we_f inp_f md_1 md_2 mi_f 0))))))))))))))))
set_option maxRecDepth 100000 in
theorem fn_wk_X3_readHead_s {tp_1 : Int32} {tpa_f : Nat → Int32} {b1_1 : Int32} {b1_2 : Int32} {b1_3 : Int32} {w_2 : Nat} {w_3 : Nat} {w_4 : Nat} {w_5 : Int32} {w_6 : Int32} {w_7 : Int32} {w_8 : Int32} {w_9 : Int32} {w_10 : Int32} {w_11 : Int32} {ps_5 : Int32} {ps_6 : Int32} {ps_7 : Int32} {p_2 : Nat} {te_f : Nat → Int32} {de_f : Nat → Int32} {we_f : Nat → Int32} {inp_f : Nat → Int32} {md_1 : Int64} {md_2 : Int64} {mi_f : Nat → Int64} {to_ : Int32} {β : Type} {k_ : Int32 → (Nat → Int32) → Int32 → Int32 → Int32 → Nat → Nat → Nat → Int32 → Int32 → Int32 → Int32 → Int32 → Int32 → Int32 → Int32 → Int32 → Int32 → Nat → (Nat → Int32) → (Nat → Int32) → (Nat → Int32) → (Nat → Int32) → Int64 → Int64 → (Nat → Int64) → Int32 → β} : fn_wk_X3_readHead tp_1 tpa_f b1_1 b1_2 b1_3 w_2 w_3 w_4 w_5 w_6 w_7 w_8 w_9 w_10 w_11 ps_5 ps_6 ps_7 p_2 te_f de_f we_f inp_f md_1 md_2 mi_f to_ β k_ = (fn_wk_X2_at 6000 tp_1 tpa_f 1 β (fun zt_1_1233 za_f_1234 zr_1235 => (fn_wk_X2_at 6000 zt_1_1233 za_f_1234 2 β (fun zt_1_1237 za_f_1238 zr_1239 => (fn_wk_X2_at 6000 zt_1_1237 za_f_1238 3 β (fun zt_1_1241 za_f_1242 zr_1243 => (fn_wk_X2_at 6000 zt_1_1241 za_f_1242 4 β (fun zt_1_1245 za_f_1246 zr_1247 => (fnL ((zr_1243 <<< (8 &&& 31)) ||| zr_1247) (fun x_1249 => (fn_wk_X2_at 6000 zt_1_1245 za_f_1246 5 β (fun zt_1_1250 za_f_1251 zr_1252 => (fn_wk_X2_at 6000 zt_1_1250 za_f_1251 0 β (fun zt_1_1254 za_f_1255 zr_1256 => (if zr_1256 = 83 then (fn_wk_X3_areFlags zr_1235 β (fun zr_1259 => (if zr_1259 = 0 then (k_ zt_1_1254 za_f_1255 b1_1 b1_2 b1_3 w_2 w_3 w_4 w_5 w_6 w_7 w_8 w_9 w_10 w_11 ps_5 ps_6 ps_7 p_2 te_f de_f we_f inp_f md_1 md_2 mi_f 0) else (if 23 < zr_1239 then (k_ zt_1_1254 za_f_1255 b1_1 b1_2 b1_3 w_2 w_3 w_4 w_5 w_6 w_7 w_8 w_9 w_10 w_11 ps_5 ps_6 ps_7 p_2 te_f de_f we_f inp_f md_1 md_2 mi_f 0) else (if x_1249 < 1 then (k_ zt_1_1254 za_f_1255 b1_1 b1_2 b1_3 w_2 w_3 w_4 w_5 w_6 w_7 w_8 w_9 w_10 w_11 ps_5 ps_6 ps_7 p_2 te_f de_f we_f inp_f md_1 md_2 mi_f 0) else (if 600 < x_1249 then (k_ zt_1_1254 za_f_1255 b1_1 b1_2 b1_3 w_2 w_3 w_4 w_5 w_6 w_7 w_8 w_9 w_10 w_11 ps_5 ps_6 ps_7 p_2 te_f de_f we_f inp_f md_1 md_2 mi_f 0) else (if zr_1252 ≤ 8 then (if (zr_1235 &&& 8) = 0 then (fnL ((6 + (2 * zr_1252)) + 0) (fun x_1268 => (if to_ < x_1268 then (k_ zt_1_1254 za_f_1255 b1_1 b1_2 b1_3 w_2 w_3 w_4 w_5 w_6 w_7 w_8 w_9 w_10 w_11 ps_5 ps_6 ps_7 p_2 te_f de_f we_f inp_f md_1 md_2 mi_f 0) else (fn_wk_X3_readPlan zt_1_1254 za_f_1255 te_f de_f zr_1252 β (fun ztp_1_1270 ztpa_f_1271 zp_2_1272 zte_f_1273 zde_f_1274 zr_1275 => (if zr_1275 = 0 then (k_ ztp_1_1270 ztpa_f_1271 b1_1 b1_2 b1_3 w_2 w_3 w_4 w_5 w_6 w_7 w_8 w_9 w_10 w_11 ps_5 ps_6 ps_7 zp_2_1272 zte_f_1273 zde_f_1274 we_f inp_f md_1 md_2 mi_f 0) else (fnL (Int32.toNatClampNeg x_1249) (fun nf_1280 => (fn_wk_X9_begin nf_1280 ps_6 ps_7 we_f inp_f mi_f zr_1235 zr_1239 0 β (fun zw_2_1281 zw_3_1282 zw_4_1283 zw_5_1284 zw_6_1285 zw_7_1286 zw_8_1287 zw_9_1288 zw_10_1289 zw_11_1290 zps_5_1291 zps_6_1292 zps_7_1293 zwe_f_1294 zinp_f_1295 zmd_1_1296 zmd_2_1297 zmi_f_1298 => (fn_wk_X0_start x_1268 to_ β (fun zb_1_1303 zb_2_1304 zb_3_1305 => (k_ ztp_1_1270 ztpa_f_1271 zb_1_1303 zb_2_1304 zb_3_1305 zw_2_1281 zw_3_1282 zw_4_1283 zw_5_1284 zw_6_1285 zw_7_1286 zw_8_1287 zw_9_1288 zw_10_1289 zw_11_1290 zps_5_1291 zps_6_1292 zps_7_1293 zp_2_1272 zte_f_1273 zde_f_1274 zwe_f_1294 zinp_f_1295 zmd_1_1296 zmd_2_1297 zmi_f_1298 1))))))))))))) else (fnL ((6 + (2 * zr_1252)) + 2) (fun x_1307 => (if to_ < x_1307 then (k_ zt_1_1254 za_f_1255 b1_1 b1_2 b1_3 w_2 w_3 w_4 w_5 w_6 w_7 w_8 w_9 w_10 w_11 ps_5 ps_6 ps_7 p_2 te_f de_f we_f inp_f md_1 md_2 mi_f 0) else (fn_wk_X3_readPlan zt_1_1254 za_f_1255 te_f de_f zr_1252 β (fun ztp_1_1309 ztpa_f_1310 zp_2_1311 zte_f_1312 zde_f_1313 zr_1314 => (if zr_1314 = 0 then (k_ ztp_1_1309 ztpa_f_1310 b1_1 b1_2 b1_3 w_2 w_3 w_4 w_5 w_6 w_7 w_8 w_9 w_10 w_11 ps_5 ps_6 ps_7 zp_2_1311 zte_f_1312 zde_f_1313 we_f inp_f md_1 md_2 mi_f 0) else (fn_wk_X2_at 6000 ztp_1_1309 ztpa_f_1310 (6 + (2 * zr_1252)) β (fun zt_1_1319 za_f_1320 zr_1321 => (fn_wk_X2_at 6000 zt_1_1319 za_f_1320 ((6 + (2 * zr_1252)) + 1) β (fun zt_1_1323 za_f_1324 zr_1325 => (fnL ((zr_1321 <<< (8 &&& 31)) ||| zr_1325) (fun x_1327 => (fnL (Int32.toNatClampNeg x_1249) (fun nf_1328 => (fn_wk_X9_begin nf_1328 ps_6 ps_7 we_f inp_f mi_f zr_1235 zr_1239 x_1327 β (fun zw_2_1329 zw_3_1330 zw_4_1331 zw_5_1332 zw_6_1333 zw_7_1334 zw_8_1335 zw_9_1336 zw_10_1337 zw_11_1338 zps_5_1339 zps_6_1340 zps_7_1341 zwe_f_1342 zinp_f_1343 zmd_1_1344 zmd_2_1345 zmi_f_1346 => (fn_wk_X0_start x_1307 to_ β (fun zb_1_1351 zb_2_1352 zb_3_1353 => (if x_1327 ≤ 0 then (k_ zt_1_1323 za_f_1324 zb_1_1351 zb_2_1352 zb_3_1353 zw_2_1329 zw_3_1330 zw_4_1331 zw_5_1332 zw_6_1333 zw_7_1334 zw_8_1335 zw_9_1336 zw_10_1337 zw_11_1338 zps_5_1339 zps_6_1340 zps_7_1341 zp_2_1311 zte_f_1312 zde_f_1313 zwe_f_1342 zinp_f_1343 zmd_1_1344 zmd_2_1345 zmi_f_1346 0) else (k_ zt_1_1323 za_f_1324 zb_1_1351 zb_2_1352 zb_3_1353 zw_2_1329 zw_3_1330 zw_4_1331 zw_5_1332 zw_6_1333 zw_7_1334 zw_8_1335 zw_9_1336 zw_10_1337 zw_11_1338 zps_5_1339 zps_6_1340 zps_7_1341 zp_2_1311 zte_f_1312 zde_f_1313 zwe_f_1342 zinp_f_1343 zmd_1_1344 zmd_2_1345 zmi_f_1346 1))))))))))))))))))))) else (k_ zt_1_1254 za_f_1255 b1_1 b1_2 b1_3 w_2 w_3 w_4 w_5 w_6 w_7 w_8 w_9 w_10 w_11 ps_5 ps_6 ps_7 p_2 te_f de_f we_f inp_f md_1 md_2 mi_f 0)))))))) else (k_ zt_1_1254 za_f_1255 b1_1 b1_2 b1_3 w_2 w_3 w_4 w_5 w_6 w_7 w_8 w_9 w_10 w_11 ps_5 ps_6 ps_7 p_2 te_f de_f we_f inp_f md_1 md_2 mi_f 0)))))))))))))))) := rfl
set_option maxRecDepth 100000 in
set_option maxHeartbeats 4000000 in
theorem wk_X3_readHead (E : g_E) (e : Nat) (tp : Nat) (sd : Nat) (b1 : Nat) (b2 : Nat) (sh : Nat) (tpa : Nat) (w : Nat) (ps : Nat) (md : Nat) (p : Nat) (we : Nat) (inp : Nat) (ba : Nat) (gu : Nat) (te : Nat) (de : Nat) (mi : Nat) (tp_1 : Int32) (tpa_f : Nat → Int32) (b1_1 : Int32) (b1_2 : Int32) (b1_3 : Int32) (w_2 : Nat) (w_3 : Nat) (w_4 : Nat) (w_5 : Int32) (w_6 : Int32) (w_7 : Int32) (w_8 : Int32) (w_9 : Int32) (w_10 : Int32) (w_11 : Int32) (ps_5 : Int32) (ps_6 : Int32) (ps_7 : Int32) (p_2 : Nat) (te_f : Nat → Int32) (de_f : Nat → Int32) (we_f : Nat → Int32) (inp_f : Nat → Int32) (md_1 : Int64) (md_2 : Int64) (mi_f : Nat → Int64) (to_ : Int32) (hp0 : w_2 ≤ 2) (hp1 : w_3 ≤ 2) (hp2 : w_4 ≤ 600) (hp3 : p_2 ≤ 8) : Ev E MX3_readHead 3 68 0 0 [.ref e, .ref w, .int to_] [(e, .inr (3, [.ref tp, .ref sd, .ref b1, .ref b2, .ref sh])), (tp, .inr (2, [.ref tpa, .int tp_1])), (tpa, .inl (E.2.2.1 1, 6000, .inl (nb tpa_f))), (b1, .inr (0, [.ref tp, .int b1_1, .int b1_2, .int b1_3])), (w, .inr (9, [.ref ps, .ref md, .int (nI w_2), .int (nI w_3), .int (nI w_4), .int w_5, .int w_6, .int w_7, .int w_8, .int w_9, .int w_10, .int w_11])), (ps, .inr (6, [.ref p, .ref we, .ref inp, .ref ba, .ref gu, .int ps_5, .int ps_6, .int ps_7])), (p, .inr (7, [.ref te, .ref de, .int (nI p_2)])), (te, .inl (E.2.2.1 0, 8, .inl te_f)), (de, .inl (E.2.2.1 0, 8, .inl de_f)), (we, .inl (E.2.2.1 0, 16, .inl we_f)), (inp, .inl (E.2.2.1 0, 128, .inl inp_f)), (md, .inr (5, [.ref mi, .long md_1, .long md_2])), (mi, .inl (E.2.2.1 3, 6, .inr (.inl mi_f)))] (fun v_ w_ => ∃ ztp_1 : Int32, ∃ ztpa_f : Nat → Int32, ∃ zb1_1 : Int32, ∃ zb1_2 : Int32, ∃ zb1_3 : Int32, ∃ zw_2 : Nat, ∃ zw_3 : Nat, ∃ zw_4 : Nat, ∃ zw_5 : Int32, ∃ zw_6 : Int32, ∃ zw_7 : Int32, ∃ zw_8 : Int32, ∃ zw_9 : Int32, ∃ zw_10 : Int32, ∃ zw_11 : Int32, ∃ zps_5 : Int32, ∃ zps_6 : Int32, ∃ zps_7 : Int32, ∃ zp_2 : Nat, ∃ zte_f : Nat → Int32, ∃ zde_f : Nat → Int32, ∃ zwe_f : Nat → Int32, ∃ zinp_f : Nat → Int32, ∃ zmd_1 : Int64, ∃ zmd_2 : Int64, ∃ zmi_f : Nat → Int64, ∃ zr : Int32, (zr = 0 ∨ zr = 1) ∧ (zw_2 ≤ 2) ∧ (zw_3 ≤ 2) ∧ (zw_4 ≤ 600) ∧ (zp_2 ≤ 8) ∧ (∀ (β : Type) (k_ : Int32 → (Nat → Int32) → Int32 → Int32 → Int32 → Nat → Nat → Nat → Int32 → Int32 → Int32 → Int32 → Int32 → Int32 → Int32 → Int32 → Int32 → Int32 → Nat → (Nat → Int32) → (Nat → Int32) → (Nat → Int32) → (Nat → Int32) → Int64 → Int64 → (Nat → Int64) → Int32 → β), fn_wk_X3_readHead tp_1 tpa_f b1_1 b1_2 b1_3 w_2 w_3 w_4 w_5 w_6 w_7 w_8 w_9 w_10 w_11 ps_5 ps_6 ps_7 p_2 te_f de_f we_f inp_f md_1 md_2 mi_f to_ β k_ = k_ ztp_1 ztpa_f zb1_1 zb1_2 zb1_3 zw_2 zw_3 zw_4 zw_5 zw_6 zw_7 zw_8 zw_9 zw_10 zw_11 zps_5 zps_6 zps_7 zp_2 zte_f zde_f zwe_f zinp_f zmd_1 zmd_2 zmi_f zr) ∧ v_ = some (.int zr) ∧ w_ = [(e, .inr (3, [.ref tp, .ref sd, .ref b1, .ref b2, .ref sh])), (tp, .inr (2, [.ref tpa, .int ztp_1])), (tpa, .inl (E.2.2.1 1, 6000, .inl (nb ztpa_f))), (b1, .inr (0, [.ref tp, .int zb1_1, .int zb1_2, .int zb1_3])), (w, .inr (9, [.ref ps, .ref md, .int (nI zw_2), .int (nI zw_3), .int (nI zw_4), .int zw_5, .int zw_6, .int zw_7, .int zw_8, .int zw_9, .int zw_10, .int zw_11])), (ps, .inr (6, [.ref p, .ref we, .ref inp, .ref ba, .ref gu, .int zps_5, .int zps_6, .int zps_7])), (p, .inr (7, [.ref te, .ref de, .int (nI zp_2)])), (te, .inl (E.2.2.1 0, 8, .inl zte_f)), (de, .inl (E.2.2.1 0, 8, .inl zde_f)), (we, .inl (E.2.2.1 0, 16, .inl zwe_f)), (inp, .inl (E.2.2.1 0, 128, .inl zinp_f)), (md, .inr (5, [.ref mi, .long zmd_1, .long zmd_2])), (mi, .inl (E.2.2.1 3, 6, .inr (.inl zmi_f)))]) := by
  refine Ev.intro (by decide) (Nat.le_of_ble_eq_true rfl) ?_
  intro X B hr hI
  have B : Bd E X cX3_readHead RX3 11 3 68 0 0 := B
  have hr : Rt E X (some .boolean) 0 0 (fun v_ w_ => ∃ ztp_1 : Int32, ∃ ztpa_f : Nat → Int32, ∃ zb1_1 : Int32, ∃ zb1_2 : Int32, ∃ zb1_3 : Int32, ∃ zw_2 : Nat, ∃ zw_3 : Nat, ∃ zw_4 : Nat, ∃ zw_5 : Int32, ∃ zw_6 : Int32, ∃ zw_7 : Int32, ∃ zw_8 : Int32, ∃ zw_9 : Int32, ∃ zw_10 : Int32, ∃ zw_11 : Int32, ∃ zps_5 : Int32, ∃ zps_6 : Int32, ∃ zps_7 : Int32, ∃ zp_2 : Nat, ∃ zte_f : Nat → Int32, ∃ zde_f : Nat → Int32, ∃ zwe_f : Nat → Int32, ∃ zinp_f : Nat → Int32, ∃ zmd_1 : Int64, ∃ zmd_2 : Int64, ∃ zmi_f : Nat → Int64, ∃ zr : Int32, (zr = 0 ∨ zr = 1) ∧ (zw_2 ≤ 2) ∧ (zw_3 ≤ 2) ∧ (zw_4 ≤ 600) ∧ (zp_2 ≤ 8) ∧ (∀ (β : Type) (k_ : Int32 → (Nat → Int32) → Int32 → Int32 → Int32 → Nat → Nat → Nat → Int32 → Int32 → Int32 → Int32 → Int32 → Int32 → Int32 → Int32 → Int32 → Int32 → Nat → (Nat → Int32) → (Nat → Int32) → (Nat → Int32) → (Nat → Int32) → Int64 → Int64 → (Nat → Int64) → Int32 → β), fn_wk_X3_readHead tp_1 tpa_f b1_1 b1_2 b1_3 w_2 w_3 w_4 w_5 w_6 w_7 w_8 w_9 w_10 w_11 ps_5 ps_6 ps_7 p_2 te_f de_f we_f inp_f md_1 md_2 mi_f to_ β k_ = k_ ztp_1 ztpa_f zb1_1 zb1_2 zb1_3 zw_2 zw_3 zw_4 zw_5 zw_6 zw_7 zw_8 zw_9 zw_10 zw_11 zps_5 zps_6 zps_7 zp_2 zte_f zde_f zwe_f zinp_f zmd_1 zmd_2 zmi_f zr) ∧ v_ = some (.int zr) ∧ w_ = [(e, .inr (3, [.ref tp, .ref sd, .ref b1, .ref b2, .ref sh])), (tp, .inr (2, [.ref tpa, .int ztp_1])), (tpa, .inl (E.2.2.1 1, 6000, .inl (nb ztpa_f))), (b1, .inr (0, [.ref tp, .int zb1_1, .int zb1_2, .int zb1_3])), (w, .inr (9, [.ref ps, .ref md, .int (nI zw_2), .int (nI zw_3), .int (nI zw_4), .int zw_5, .int zw_6, .int zw_7, .int zw_8, .int zw_9, .int zw_10, .int zw_11])), (ps, .inr (6, [.ref p, .ref we, .ref inp, .ref ba, .ref gu, .int zps_5, .int zps_6, .int zps_7])), (p, .inr (7, [.ref te, .ref de, .int (nI zp_2)])), (te, .inl (E.2.2.1 0, 8, .inl zte_f)), (de, .inl (E.2.2.1 0, 8, .inl zde_f)), (we, .inl (E.2.2.1 0, 16, .inl zwe_f)), (inp, .inl (E.2.2.1 0, 128, .inl zinp_f)), (md, .inr (5, [.ref mi, .long zmd_1, .long zmd_2])), (mi, .inl (E.2.2.1 3, 6, .inr (.inl zmi_f)))]) := hr
  have e_ := fun (β : Type) (k_ : Int32 → (Nat → Int32) → Int32 → Int32 → Int32 → Nat → Nat → Nat → Int32 → Int32 → Int32 → Int32 → Int32 → Int32 → Int32 → Int32 → Int32 → Int32 → Nat → (Nat → Int32) → (Nat → Int32) → (Nat → Int32) → (Nat → Int32) → Int64 → Int64 → (Nat → Int64) → Int32 → β) => fn_wk_X3_readHead_s (β := β) (k_ := k_) (tp_1 := tp_1) (tpa_f := tpa_f) (b1_1 := b1_1) (b1_2 := b1_2) (b1_3 := b1_3) (w_2 := w_2) (w_3 := w_3) (w_4 := w_4) (w_5 := w_5) (w_6 := w_6) (w_7 := w_7) (w_8 := w_8) (w_9 := w_9) (w_10 := w_10) (w_11 := w_11) (ps_5 := ps_5) (ps_6 := ps_6) (ps_7 := ps_7) (p_2 := p_2) (te_f := te_f) (de_f := de_f) (we_f := we_f) (inp_f := inp_f) (md_1 := md_1) (md_2 := md_2) (mi_f := mi_f) (to_ := to_)
  show G E X 11 [(e, .inr (3, [.ref tp, .ref sd, .ref b1, .ref b2, .ref sh])), (tp, .inr (2, [.ref tpa, .int tp_1])), (tpa, .inl (E.2.2.1 1, 6000, .inl (nb tpa_f))), (b1, .inr (0, [.ref tp, .int b1_1, .int b1_2, .int b1_3])), (w, .inr (9, [.ref ps, .ref md, .int (nI w_2), .int (nI w_3), .int (nI w_4), .int w_5, .int w_6, .int w_7, .int w_8, .int w_9, .int w_10, .int w_11])), (ps, .inr (6, [.ref p, .ref we, .ref inp, .ref ba, .ref gu, .int ps_5, .int ps_6, .int ps_7])), (p, .inr (7, [.ref te, .ref de, .int (nI p_2)])), (te, .inl (E.2.2.1 0, 8, .inl te_f)), (de, .inl (E.2.2.1 0, 8, .inl de_f)), (we, .inl (E.2.2.1 0, 16, .inl we_f)), (inp, .inl (E.2.2.1 0, 128, .inl inp_f)), (md, .inr (5, [.ref mi, .long md_1, .long md_2])), (mi, .inl (E.2.2.1 3, 6, .inr (.inl mi_f)))] 0 0 [(0, .ref e), (1, .ref w), (2, .int to_)] 0 []
  refine g_aload_n B dX3_readHead_0 rfl 0 rfl ?_
  refine g_get B 0 0 fl_X3_9 rfl rfl dX3_readHead_1 ?_
  refine g_iconst (v := 1) B dX3_readHead_4 (by decide) ?_
  refine g_callV (st := []) (As := [.int 1]) (wr := [(e, .inr (3, [.ref tp, .ref sd, .ref b1, .ref b2, .ref sh])), (b1, .inr (0, [.ref tp, .int b1_1, .int b1_2, .int b1_3])), (w, .inr (9, [.ref ps, .ref md, .int (nI w_2), .int (nI w_3), .int (nI w_4), .int w_5, .int w_6, .int w_7, .int w_8, .int w_9, .int w_10, .int w_11])), (ps, .inr (6, [.ref p, .ref we, .ref inp, .ref ba, .ref gu, .int ps_5, .int ps_6, .int ps_7])), (p, .inr (7, [.ref te, .ref de, .int (nI p_2)])), (te, .inl (E.2.2.1 0, 8, .inl te_f)), (de, .inl (E.2.2.1 0, 8, .inl de_f)), (we, .inl (E.2.2.1 0, 16, .inl we_f)), (inp, .inl (E.2.2.1 0, 128, .inl inp_f)), (md, .inr (5, [.ref mi, .long md_1, .long md_2])), (mi, .inl (E.2.2.1 3, 6, .inr (.inl mi_f)))]) (nc' := 0) (ns' := 0) B cl_X3_59 w_im_X2_at w_se_X2_at (wk_X2_at E tp tpa 6000 tp_1 tpa_f 1 (by first | assumption | omega | decide)) rfl [1, 2] [0, 3, 4, 5, 6, 7, 8, 9, 10, 11, 12] rfl rfl (by decide) (by decide) (by decide) 0 rfl (fun q h => by cases h; rfl) rfl ⟨by decide, by decide⟩ rfl rfl (by decide) (by decide) rfl (Nat.le_of_ble_eq_true rfl) dX3_readHead_5 (fun v w hq => ?_)
  obtain ⟨zt_1_1233, za_f_1234, zr_1235, hz_1236, rfl, rfl⟩ := hq
  replace e_ := fun β k_ => (e_ β k_).trans (hz_1236 β _)
  show G E X 11 [(e, .inr (3, [.ref tp, .ref sd, .ref b1, .ref b2, .ref sh])), (b1, .inr (0, [.ref tp, .int b1_1, .int b1_2, .int b1_3])), (w, .inr (9, [.ref ps, .ref md, .int (nI w_2), .int (nI w_3), .int (nI w_4), .int w_5, .int w_6, .int w_7, .int w_8, .int w_9, .int w_10, .int w_11])), (ps, .inr (6, [.ref p, .ref we, .ref inp, .ref ba, .ref gu, .int ps_5, .int ps_6, .int ps_7])), (p, .inr (7, [.ref te, .ref de, .int (nI p_2)])), (te, .inl (E.2.2.1 0, 8, .inl te_f)), (de, .inl (E.2.2.1 0, 8, .inl de_f)), (we, .inl (E.2.2.1 0, 16, .inl we_f)), (inp, .inl (E.2.2.1 0, 128, .inl inp_f)), (md, .inr (5, [.ref mi, .long md_1, .long md_2])), (mi, .inl (E.2.2.1 3, 6, .inr (.inl mi_f))), (tp, .inr (2, [.ref tpa, .int zt_1_1233])), (tpa, .inl (E.2.2.1 1, 6000, .inl (nb za_f_1234)))] 0 0 [(0, .ref e), (1, .ref w), (2, .int to_)] 8 [.int zr_1235]
  refine g_istore_n (lv' := [(3, .int zr_1235), (0, .ref e), (1, .ref w), (2, .int to_)]) B dX3_readHead_8 rfl (by decide) rfl ?_
  refine g_aload_n B dX3_readHead_9 rfl 1 rfl ?_
  refine g_get B 0 0 fl_X3_9 rfl rfl dX3_readHead_10 ?_
  refine g_iconst (v := 2) B dX3_readHead_13 (by decide) ?_
  refine g_callV (st := []) (As := [.int 2]) (wr := [(e, .inr (3, [.ref tp, .ref sd, .ref b1, .ref b2, .ref sh])), (b1, .inr (0, [.ref tp, .int b1_1, .int b1_2, .int b1_3])), (w, .inr (9, [.ref ps, .ref md, .int (nI w_2), .int (nI w_3), .int (nI w_4), .int w_5, .int w_6, .int w_7, .int w_8, .int w_9, .int w_10, .int w_11])), (ps, .inr (6, [.ref p, .ref we, .ref inp, .ref ba, .ref gu, .int ps_5, .int ps_6, .int ps_7])), (p, .inr (7, [.ref te, .ref de, .int (nI p_2)])), (te, .inl (E.2.2.1 0, 8, .inl te_f)), (de, .inl (E.2.2.1 0, 8, .inl de_f)), (we, .inl (E.2.2.1 0, 16, .inl we_f)), (inp, .inl (E.2.2.1 0, 128, .inl inp_f)), (md, .inr (5, [.ref mi, .long md_1, .long md_2])), (mi, .inl (E.2.2.1 3, 6, .inr (.inl mi_f)))]) (nc' := 0) (ns' := 0) B cl_X3_59 w_im_X2_at w_se_X2_at (wk_X2_at E tp tpa 6000 zt_1_1233 za_f_1234 2 (by first | assumption | omega | decide)) rfl [11, 12] [0, 1, 2, 3, 4, 5, 6, 7, 8, 9, 10] rfl rfl (by decide) (by decide) (by decide) 0 rfl (fun q h => by cases h; rfl) rfl ⟨by decide, by decide⟩ rfl rfl (by decide) (by decide) rfl (Nat.le_of_ble_eq_true rfl) dX3_readHead_14 (fun v w hq => ?_)
  obtain ⟨zt_1_1237, za_f_1238, zr_1239, hz_1240, rfl, rfl⟩ := hq
  replace e_ := fun β k_ => (e_ β k_).trans (hz_1240 β _)
  show G E X 11 [(e, .inr (3, [.ref tp, .ref sd, .ref b1, .ref b2, .ref sh])), (b1, .inr (0, [.ref tp, .int b1_1, .int b1_2, .int b1_3])), (w, .inr (9, [.ref ps, .ref md, .int (nI w_2), .int (nI w_3), .int (nI w_4), .int w_5, .int w_6, .int w_7, .int w_8, .int w_9, .int w_10, .int w_11])), (ps, .inr (6, [.ref p, .ref we, .ref inp, .ref ba, .ref gu, .int ps_5, .int ps_6, .int ps_7])), (p, .inr (7, [.ref te, .ref de, .int (nI p_2)])), (te, .inl (E.2.2.1 0, 8, .inl te_f)), (de, .inl (E.2.2.1 0, 8, .inl de_f)), (we, .inl (E.2.2.1 0, 16, .inl we_f)), (inp, .inl (E.2.2.1 0, 128, .inl inp_f)), (md, .inr (5, [.ref mi, .long md_1, .long md_2])), (mi, .inl (E.2.2.1 3, 6, .inr (.inl mi_f))), (tp, .inr (2, [.ref tpa, .int zt_1_1237])), (tpa, .inl (E.2.2.1 1, 6000, .inl (nb za_f_1238)))] 0 0 [(3, .int zr_1235), (0, .ref e), (1, .ref w), (2, .int to_)] 17 [.int zr_1239]
  refine g_istore (lv' := [(4, .int zr_1239), (3, .int zr_1235), (0, .ref e), (1, .ref w), (2, .int to_)]) B dX3_readHead_17 (by decide) rfl ?_
  refine g_aload_n B dX3_readHead_19 rfl 2 rfl ?_
  refine g_get B 0 0 fl_X3_9 rfl rfl dX3_readHead_20 ?_
  refine g_iconst (v := 3) B dX3_readHead_23 (by decide) ?_
  refine g_callV (st := []) (As := [.int 3]) (wr := [(e, .inr (3, [.ref tp, .ref sd, .ref b1, .ref b2, .ref sh])), (b1, .inr (0, [.ref tp, .int b1_1, .int b1_2, .int b1_3])), (w, .inr (9, [.ref ps, .ref md, .int (nI w_2), .int (nI w_3), .int (nI w_4), .int w_5, .int w_6, .int w_7, .int w_8, .int w_9, .int w_10, .int w_11])), (ps, .inr (6, [.ref p, .ref we, .ref inp, .ref ba, .ref gu, .int ps_5, .int ps_6, .int ps_7])), (p, .inr (7, [.ref te, .ref de, .int (nI p_2)])), (te, .inl (E.2.2.1 0, 8, .inl te_f)), (de, .inl (E.2.2.1 0, 8, .inl de_f)), (we, .inl (E.2.2.1 0, 16, .inl we_f)), (inp, .inl (E.2.2.1 0, 128, .inl inp_f)), (md, .inr (5, [.ref mi, .long md_1, .long md_2])), (mi, .inl (E.2.2.1 3, 6, .inr (.inl mi_f)))]) (nc' := 0) (ns' := 0) B cl_X3_59 w_im_X2_at w_se_X2_at (wk_X2_at E tp tpa 6000 zt_1_1237 za_f_1238 3 (by first | assumption | omega | decide)) rfl [11, 12] [0, 1, 2, 3, 4, 5, 6, 7, 8, 9, 10] rfl rfl (by decide) (by decide) (by decide) 0 rfl (fun q h => by cases h; rfl) rfl ⟨by decide, by decide⟩ rfl rfl (by decide) (by decide) rfl (Nat.le_of_ble_eq_true rfl) dX3_readHead_24 (fun v w hq => ?_)
  obtain ⟨zt_1_1241, za_f_1242, zr_1243, hz_1244, rfl, rfl⟩ := hq
  replace e_ := fun β k_ => (e_ β k_).trans (hz_1244 β _)
  show G E X 11 [(e, .inr (3, [.ref tp, .ref sd, .ref b1, .ref b2, .ref sh])), (b1, .inr (0, [.ref tp, .int b1_1, .int b1_2, .int b1_3])), (w, .inr (9, [.ref ps, .ref md, .int (nI w_2), .int (nI w_3), .int (nI w_4), .int w_5, .int w_6, .int w_7, .int w_8, .int w_9, .int w_10, .int w_11])), (ps, .inr (6, [.ref p, .ref we, .ref inp, .ref ba, .ref gu, .int ps_5, .int ps_6, .int ps_7])), (p, .inr (7, [.ref te, .ref de, .int (nI p_2)])), (te, .inl (E.2.2.1 0, 8, .inl te_f)), (de, .inl (E.2.2.1 0, 8, .inl de_f)), (we, .inl (E.2.2.1 0, 16, .inl we_f)), (inp, .inl (E.2.2.1 0, 128, .inl inp_f)), (md, .inr (5, [.ref mi, .long md_1, .long md_2])), (mi, .inl (E.2.2.1 3, 6, .inr (.inl mi_f))), (tp, .inr (2, [.ref tpa, .int zt_1_1241])), (tpa, .inl (E.2.2.1 1, 6000, .inl (nb za_f_1242)))] 0 0 [(4, .int zr_1239), (3, .int zr_1235), (0, .ref e), (1, .ref w), (2, .int to_)] 27 [.int zr_1243]
  refine g_bipush (v := 8) B dX3_readHead_27 (by decide) ?_
  refine g_ishl B dX3_readHead_29 ?_
  refine g_aload_n B dX3_readHead_30 rfl 2 rfl ?_
  refine g_get B 0 0 fl_X3_9 rfl rfl dX3_readHead_31 ?_
  refine g_iconst (v := 4) B dX3_readHead_34 (by decide) ?_
  refine g_callV (st := [.int (zr_1243 <<< (8 &&& 31))]) (As := [.int 4]) (wr := [(e, .inr (3, [.ref tp, .ref sd, .ref b1, .ref b2, .ref sh])), (b1, .inr (0, [.ref tp, .int b1_1, .int b1_2, .int b1_3])), (w, .inr (9, [.ref ps, .ref md, .int (nI w_2), .int (nI w_3), .int (nI w_4), .int w_5, .int w_6, .int w_7, .int w_8, .int w_9, .int w_10, .int w_11])), (ps, .inr (6, [.ref p, .ref we, .ref inp, .ref ba, .ref gu, .int ps_5, .int ps_6, .int ps_7])), (p, .inr (7, [.ref te, .ref de, .int (nI p_2)])), (te, .inl (E.2.2.1 0, 8, .inl te_f)), (de, .inl (E.2.2.1 0, 8, .inl de_f)), (we, .inl (E.2.2.1 0, 16, .inl we_f)), (inp, .inl (E.2.2.1 0, 128, .inl inp_f)), (md, .inr (5, [.ref mi, .long md_1, .long md_2])), (mi, .inl (E.2.2.1 3, 6, .inr (.inl mi_f)))]) (nc' := 0) (ns' := 0) B cl_X3_59 w_im_X2_at w_se_X2_at (wk_X2_at E tp tpa 6000 zt_1_1241 za_f_1242 4 (by first | assumption | omega | decide)) rfl [11, 12] [0, 1, 2, 3, 4, 5, 6, 7, 8, 9, 10] rfl rfl (by decide) (by decide) (by decide) 0 rfl (fun q h => by cases h; rfl) rfl ⟨by decide, by decide⟩ rfl rfl (by decide) (by decide) rfl (Nat.le_of_ble_eq_true rfl) dX3_readHead_35 (fun v w hq => ?_)
  obtain ⟨zt_1_1245, za_f_1246, zr_1247, hz_1248, rfl, rfl⟩ := hq
  replace e_ := fun β k_ => (e_ β k_).trans (hz_1248 β _)
  show G E X 11 [(e, .inr (3, [.ref tp, .ref sd, .ref b1, .ref b2, .ref sh])), (b1, .inr (0, [.ref tp, .int b1_1, .int b1_2, .int b1_3])), (w, .inr (9, [.ref ps, .ref md, .int (nI w_2), .int (nI w_3), .int (nI w_4), .int w_5, .int w_6, .int w_7, .int w_8, .int w_9, .int w_10, .int w_11])), (ps, .inr (6, [.ref p, .ref we, .ref inp, .ref ba, .ref gu, .int ps_5, .int ps_6, .int ps_7])), (p, .inr (7, [.ref te, .ref de, .int (nI p_2)])), (te, .inl (E.2.2.1 0, 8, .inl te_f)), (de, .inl (E.2.2.1 0, 8, .inl de_f)), (we, .inl (E.2.2.1 0, 16, .inl we_f)), (inp, .inl (E.2.2.1 0, 128, .inl inp_f)), (md, .inr (5, [.ref mi, .long md_1, .long md_2])), (mi, .inl (E.2.2.1 3, 6, .inr (.inl mi_f))), (tp, .inr (2, [.ref tpa, .int zt_1_1245])), (tpa, .inl (E.2.2.1 1, 6000, .inl (nb za_f_1246)))] 0 0 [(4, .int zr_1239), (3, .int zr_1235), (0, .ref e), (1, .ref w), (2, .int to_)] 38 [.int zr_1247, .int (zr_1243 <<< (8 &&& 31))]
  refine g_ior B dX3_readHead_38 ?_
  refine g_topi (fun x_1249 ex_1249 => ?_)
  replace e_ := fun β k_ => (e_ β k_).trans (fnL_eq ex_1249.symm _)
  refine g_istore (lv' := [(5, .int x_1249), (4, .int zr_1239), (3, .int zr_1235), (0, .ref e), (1, .ref w), (2, .int to_)]) B dX3_readHead_39 (by decide) rfl ?_
  refine g_aload_n B dX3_readHead_41 rfl 3 rfl ?_
  refine g_get B 0 0 fl_X3_9 rfl rfl dX3_readHead_42 ?_
  refine g_iconst (v := 5) B dX3_readHead_45 (by decide) ?_
  refine g_callV (st := []) (As := [.int 5]) (wr := [(e, .inr (3, [.ref tp, .ref sd, .ref b1, .ref b2, .ref sh])), (b1, .inr (0, [.ref tp, .int b1_1, .int b1_2, .int b1_3])), (w, .inr (9, [.ref ps, .ref md, .int (nI w_2), .int (nI w_3), .int (nI w_4), .int w_5, .int w_6, .int w_7, .int w_8, .int w_9, .int w_10, .int w_11])), (ps, .inr (6, [.ref p, .ref we, .ref inp, .ref ba, .ref gu, .int ps_5, .int ps_6, .int ps_7])), (p, .inr (7, [.ref te, .ref de, .int (nI p_2)])), (te, .inl (E.2.2.1 0, 8, .inl te_f)), (de, .inl (E.2.2.1 0, 8, .inl de_f)), (we, .inl (E.2.2.1 0, 16, .inl we_f)), (inp, .inl (E.2.2.1 0, 128, .inl inp_f)), (md, .inr (5, [.ref mi, .long md_1, .long md_2])), (mi, .inl (E.2.2.1 3, 6, .inr (.inl mi_f)))]) (nc' := 0) (ns' := 0) B cl_X3_59 w_im_X2_at w_se_X2_at (wk_X2_at E tp tpa 6000 zt_1_1245 za_f_1246 5 (by first | assumption | omega | decide)) rfl [11, 12] [0, 1, 2, 3, 4, 5, 6, 7, 8, 9, 10] rfl rfl (by decide) (by decide) (by decide) 0 rfl (fun q h => by cases h; rfl) rfl ⟨by decide, by decide⟩ rfl rfl (by decide) (by decide) rfl (Nat.le_of_ble_eq_true rfl) dX3_readHead_46 (fun v w hq => ?_)
  obtain ⟨zt_1_1250, za_f_1251, zr_1252, hz_1253, rfl, rfl⟩ := hq
  replace e_ := fun β k_ => (e_ β k_).trans (hz_1253 β _)
  show G E X 11 [(e, .inr (3, [.ref tp, .ref sd, .ref b1, .ref b2, .ref sh])), (b1, .inr (0, [.ref tp, .int b1_1, .int b1_2, .int b1_3])), (w, .inr (9, [.ref ps, .ref md, .int (nI w_2), .int (nI w_3), .int (nI w_4), .int w_5, .int w_6, .int w_7, .int w_8, .int w_9, .int w_10, .int w_11])), (ps, .inr (6, [.ref p, .ref we, .ref inp, .ref ba, .ref gu, .int ps_5, .int ps_6, .int ps_7])), (p, .inr (7, [.ref te, .ref de, .int (nI p_2)])), (te, .inl (E.2.2.1 0, 8, .inl te_f)), (de, .inl (E.2.2.1 0, 8, .inl de_f)), (we, .inl (E.2.2.1 0, 16, .inl we_f)), (inp, .inl (E.2.2.1 0, 128, .inl inp_f)), (md, .inr (5, [.ref mi, .long md_1, .long md_2])), (mi, .inl (E.2.2.1 3, 6, .inr (.inl mi_f))), (tp, .inr (2, [.ref tpa, .int zt_1_1250])), (tpa, .inl (E.2.2.1 1, 6000, .inl (nb za_f_1251)))] 0 0 [(5, .int x_1249), (4, .int zr_1239), (3, .int zr_1235), (0, .ref e), (1, .ref w), (2, .int to_)] 49 [.int zr_1252]
  refine g_istore (lv' := [(6, .int zr_1252), (5, .int x_1249), (4, .int zr_1239), (3, .int zr_1235), (0, .ref e), (1, .ref w), (2, .int to_)]) B dX3_readHead_49 (by decide) rfl ?_
  refine g_aload_n B dX3_readHead_51 rfl 4 rfl ?_
  refine g_get B 0 0 fl_X3_9 rfl rfl dX3_readHead_52 ?_
  refine g_iconst (v := 0) B dX3_readHead_55 (by decide) ?_
  refine g_callV (st := []) (As := [.int 0]) (wr := [(e, .inr (3, [.ref tp, .ref sd, .ref b1, .ref b2, .ref sh])), (b1, .inr (0, [.ref tp, .int b1_1, .int b1_2, .int b1_3])), (w, .inr (9, [.ref ps, .ref md, .int (nI w_2), .int (nI w_3), .int (nI w_4), .int w_5, .int w_6, .int w_7, .int w_8, .int w_9, .int w_10, .int w_11])), (ps, .inr (6, [.ref p, .ref we, .ref inp, .ref ba, .ref gu, .int ps_5, .int ps_6, .int ps_7])), (p, .inr (7, [.ref te, .ref de, .int (nI p_2)])), (te, .inl (E.2.2.1 0, 8, .inl te_f)), (de, .inl (E.2.2.1 0, 8, .inl de_f)), (we, .inl (E.2.2.1 0, 16, .inl we_f)), (inp, .inl (E.2.2.1 0, 128, .inl inp_f)), (md, .inr (5, [.ref mi, .long md_1, .long md_2])), (mi, .inl (E.2.2.1 3, 6, .inr (.inl mi_f)))]) (nc' := 0) (ns' := 0) B cl_X3_59 w_im_X2_at w_se_X2_at (wk_X2_at E tp tpa 6000 zt_1_1250 za_f_1251 0 (by first | assumption | omega | decide)) rfl [11, 12] [0, 1, 2, 3, 4, 5, 6, 7, 8, 9, 10] rfl rfl (by decide) (by decide) (by decide) 0 rfl (fun q h => by cases h; rfl) rfl ⟨by decide, by decide⟩ rfl rfl (by decide) (by decide) rfl (Nat.le_of_ble_eq_true rfl) dX3_readHead_56 (fun v w hq => ?_)
  obtain ⟨zt_1_1254, za_f_1255, zr_1256, hz_1257, rfl, rfl⟩ := hq
  replace e_ := fun β k_ => (e_ β k_).trans (hz_1257 β _)
  show G E X 11 [(e, .inr (3, [.ref tp, .ref sd, .ref b1, .ref b2, .ref sh])), (b1, .inr (0, [.ref tp, .int b1_1, .int b1_2, .int b1_3])), (w, .inr (9, [.ref ps, .ref md, .int (nI w_2), .int (nI w_3), .int (nI w_4), .int w_5, .int w_6, .int w_7, .int w_8, .int w_9, .int w_10, .int w_11])), (ps, .inr (6, [.ref p, .ref we, .ref inp, .ref ba, .ref gu, .int ps_5, .int ps_6, .int ps_7])), (p, .inr (7, [.ref te, .ref de, .int (nI p_2)])), (te, .inl (E.2.2.1 0, 8, .inl te_f)), (de, .inl (E.2.2.1 0, 8, .inl de_f)), (we, .inl (E.2.2.1 0, 16, .inl we_f)), (inp, .inl (E.2.2.1 0, 128, .inl inp_f)), (md, .inr (5, [.ref mi, .long md_1, .long md_2])), (mi, .inl (E.2.2.1 3, 6, .inr (.inl mi_f))), (tp, .inr (2, [.ref tpa, .int zt_1_1254])), (tpa, .inl (E.2.2.1 1, 6000, .inl (nb za_f_1255)))] 0 0 [(6, .int zr_1252), (5, .int x_1249), (4, .int zr_1239), (3, .int zr_1235), (0, .ref e), (1, .ref w), (2, .int to_)] 59 [.int zr_1256]
  refine g_bipush (v := 83) B dX3_readHead_59 (by decide) ?_
  refine g_icmp_ne (tgt := 99) B dX3_readHead_61 (by decide) (fun c61_1258 => ?_) (fun c61_1258 => ?_)
  · replace e_ := fun β k_ => (e_ β k_).trans (if_neg c61_1258)
    refine g_iconst (v := 0) B dX3_readHead_99 (by decide) ?_
    refine g_sub (ws' := [(e, .inr (3, [.ref tp, .ref sd, .ref b1, .ref b2, .ref sh])), (tp, .inr (2, [.ref tpa, .int zt_1_1254])), (tpa, .inl (E.2.2.1 1, 6000, .inl (nb za_f_1255))), (b1, .inr (0, [.ref tp, .int b1_1, .int b1_2, .int b1_3])), (w, .inr (9, [.ref ps, .ref md, .int (nI w_2), .int (nI w_3), .int (nI w_4), .int w_5, .int w_6, .int w_7, .int w_8, .int w_9, .int w_10, .int w_11])), (ps, .inr (6, [.ref p, .ref we, .ref inp, .ref ba, .ref gu, .int ps_5, .int ps_6, .int ps_7])), (p, .inr (7, [.ref te, .ref de, .int (nI p_2)])), (te, .inl (E.2.2.1 0, 8, .inl te_f)), (de, .inl (E.2.2.1 0, 8, .inl de_f)), (we, .inl (E.2.2.1 0, 16, .inl we_f)), (inp, .inl (E.2.2.1 0, 128, .inl inp_f)), (md, .inr (5, [.ref mi, .long md_1, .long md_2])), (mi, .inl (E.2.2.1 3, 6, .inr (.inl mi_f)))]) [0, 11, 12, 1, 2, 3, 4, 5, 6, 7, 8, 9, 10] (by decide) rfl ?_
    exact g_zret B hr (by decide) dX3_readHead_100 (by decide) (by decide) ⟨zt_1_1254, za_f_1255, b1_1, b1_2, b1_3, w_2, w_3, w_4, w_5, w_6, w_7, w_8, w_9, w_10, w_11, ps_5, ps_6, ps_7, p_2, te_f, de_f, we_f, inp_f, md_1, md_2, mi_f, 0, (Or.inl rfl), (by first | assumption | omega | decide), (by first | assumption | omega | decide), (by first | assumption | omega | decide), (by first | assumption | omega | decide), e_, rfl, rfl⟩
  · replace e_ := fun β k_ => (e_ β k_).trans (if_pos c61_1258)
    refine g_iload_n B dX3_readHead_64 rfl 3 rfl ?_
    refine g_callS (st := []) (As := [.int zr_1235]) (wr := [(e, .inr (3, [.ref tp, .ref sd, .ref b1, .ref b2, .ref sh])), (b1, .inr (0, [.ref tp, .int b1_1, .int b1_2, .int b1_3])), (w, .inr (9, [.ref ps, .ref md, .int (nI w_2), .int (nI w_3), .int (nI w_4), .int w_5, .int w_6, .int w_7, .int w_8, .int w_9, .int w_10, .int w_11])), (ps, .inr (6, [.ref p, .ref we, .ref inp, .ref ba, .ref gu, .int ps_5, .int ps_6, .int ps_7])), (p, .inr (7, [.ref te, .ref de, .int (nI p_2)])), (te, .inl (E.2.2.1 0, 8, .inl te_f)), (de, .inl (E.2.2.1 0, 8, .inl de_f)), (we, .inl (E.2.2.1 0, 16, .inl we_f)), (inp, .inl (E.2.2.1 0, 128, .inl inp_f)), (md, .inr (5, [.ref mi, .long md_1, .long md_2])), (mi, .inl (E.2.2.1 3, 6, .inr (.inl mi_f))), (tp, .inr (2, [.ref tpa, .int zt_1_1254])), (tpa, .inl (E.2.2.1 1, 6000, .inl (nb za_f_1255)))]) (nc' := 0) (ns' := 0) B cl_X3_62 w_sm_X3_areFlags (wk_X3_areFlags E zr_1235 ) rfl [] [0, 1, 2, 3, 4, 5, 6, 7, 8, 9, 10, 11, 12] rfl rfl (by decide) (by decide) (by decide) ⟨by decide, by decide⟩ rfl rfl (by decide) (by decide) rfl (Nat.le_of_ble_eq_true rfl) dX3_readHead_65 (fun v w hq => ?_)
    obtain ⟨zr_1259, hf_1260, hz_1261, rfl, rfl⟩ := hq
    replace e_ := fun β k_ => (e_ β k_).trans (hz_1261 β _)
    show G E X 11 [(e, .inr (3, [.ref tp, .ref sd, .ref b1, .ref b2, .ref sh])), (b1, .inr (0, [.ref tp, .int b1_1, .int b1_2, .int b1_3])), (w, .inr (9, [.ref ps, .ref md, .int (nI w_2), .int (nI w_3), .int (nI w_4), .int w_5, .int w_6, .int w_7, .int w_8, .int w_9, .int w_10, .int w_11])), (ps, .inr (6, [.ref p, .ref we, .ref inp, .ref ba, .ref gu, .int ps_5, .int ps_6, .int ps_7])), (p, .inr (7, [.ref te, .ref de, .int (nI p_2)])), (te, .inl (E.2.2.1 0, 8, .inl te_f)), (de, .inl (E.2.2.1 0, 8, .inl de_f)), (we, .inl (E.2.2.1 0, 16, .inl we_f)), (inp, .inl (E.2.2.1 0, 128, .inl inp_f)), (md, .inr (5, [.ref mi, .long md_1, .long md_2])), (mi, .inl (E.2.2.1 3, 6, .inr (.inl mi_f))), (tp, .inr (2, [.ref tpa, .int zt_1_1254])), (tpa, .inl (E.2.2.1 1, 6000, .inl (nb za_f_1255)))] 0 0 [(6, .int zr_1252), (5, .int x_1249), (4, .int zr_1239), (3, .int zr_1235), (0, .ref e), (1, .ref w), (2, .int to_)] 68 [.int zr_1259]
    refine g_if_eq (tgt := 99) B dX3_readHead_68 (by decide) (fun c68_1262 => ?_) (fun c68_1262 => ?_)
    · replace e_ := fun β k_ => (e_ β k_).trans (if_pos c68_1262)
      refine g_iconst (v := 0) B dX3_readHead_99 (by decide) ?_
      refine g_sub (ws' := [(e, .inr (3, [.ref tp, .ref sd, .ref b1, .ref b2, .ref sh])), (tp, .inr (2, [.ref tpa, .int zt_1_1254])), (tpa, .inl (E.2.2.1 1, 6000, .inl (nb za_f_1255))), (b1, .inr (0, [.ref tp, .int b1_1, .int b1_2, .int b1_3])), (w, .inr (9, [.ref ps, .ref md, .int (nI w_2), .int (nI w_3), .int (nI w_4), .int w_5, .int w_6, .int w_7, .int w_8, .int w_9, .int w_10, .int w_11])), (ps, .inr (6, [.ref p, .ref we, .ref inp, .ref ba, .ref gu, .int ps_5, .int ps_6, .int ps_7])), (p, .inr (7, [.ref te, .ref de, .int (nI p_2)])), (te, .inl (E.2.2.1 0, 8, .inl te_f)), (de, .inl (E.2.2.1 0, 8, .inl de_f)), (we, .inl (E.2.2.1 0, 16, .inl we_f)), (inp, .inl (E.2.2.1 0, 128, .inl inp_f)), (md, .inr (5, [.ref mi, .long md_1, .long md_2])), (mi, .inl (E.2.2.1 3, 6, .inr (.inl mi_f)))]) [0, 11, 12, 1, 2, 3, 4, 5, 6, 7, 8, 9, 10] (by decide) rfl ?_
      exact g_zret B hr (by decide) dX3_readHead_100 (by decide) (by decide) ⟨zt_1_1254, za_f_1255, b1_1, b1_2, b1_3, w_2, w_3, w_4, w_5, w_6, w_7, w_8, w_9, w_10, w_11, ps_5, ps_6, ps_7, p_2, te_f, de_f, we_f, inp_f, md_1, md_2, mi_f, 0, (Or.inl rfl), (by first | assumption | omega | decide), (by first | assumption | omega | decide), (by first | assumption | omega | decide), (by first | assumption | omega | decide), e_, rfl, rfl⟩
    · replace e_ := fun β k_ => (e_ β k_).trans (if_neg c68_1262)
      refine g_iload B dX3_readHead_71 2 rfl ?_
      refine g_bipush (v := 23) B dX3_readHead_73 (by decide) ?_
      refine g_icmp_gt (tgt := 99) B dX3_readHead_75 (by decide) (fun c75_1263 => ?_) (fun c75_1263 => ?_)
      · replace e_ := fun β k_ => (e_ β k_).trans (if_pos c75_1263)
        refine g_iconst (v := 0) B dX3_readHead_99 (by decide) ?_
        refine g_sub (ws' := [(e, .inr (3, [.ref tp, .ref sd, .ref b1, .ref b2, .ref sh])), (tp, .inr (2, [.ref tpa, .int zt_1_1254])), (tpa, .inl (E.2.2.1 1, 6000, .inl (nb za_f_1255))), (b1, .inr (0, [.ref tp, .int b1_1, .int b1_2, .int b1_3])), (w, .inr (9, [.ref ps, .ref md, .int (nI w_2), .int (nI w_3), .int (nI w_4), .int w_5, .int w_6, .int w_7, .int w_8, .int w_9, .int w_10, .int w_11])), (ps, .inr (6, [.ref p, .ref we, .ref inp, .ref ba, .ref gu, .int ps_5, .int ps_6, .int ps_7])), (p, .inr (7, [.ref te, .ref de, .int (nI p_2)])), (te, .inl (E.2.2.1 0, 8, .inl te_f)), (de, .inl (E.2.2.1 0, 8, .inl de_f)), (we, .inl (E.2.2.1 0, 16, .inl we_f)), (inp, .inl (E.2.2.1 0, 128, .inl inp_f)), (md, .inr (5, [.ref mi, .long md_1, .long md_2])), (mi, .inl (E.2.2.1 3, 6, .inr (.inl mi_f)))]) [0, 11, 12, 1, 2, 3, 4, 5, 6, 7, 8, 9, 10] (by decide) rfl ?_
        exact g_zret B hr (by decide) dX3_readHead_100 (by decide) (by decide) ⟨zt_1_1254, za_f_1255, b1_1, b1_2, b1_3, w_2, w_3, w_4, w_5, w_6, w_7, w_8, w_9, w_10, w_11, ps_5, ps_6, ps_7, p_2, te_f, de_f, we_f, inp_f, md_1, md_2, mi_f, 0, (Or.inl rfl), (by first | assumption | omega | decide), (by first | assumption | omega | decide), (by first | assumption | omega | decide), (by first | assumption | omega | decide), e_, rfl, rfl⟩
      · replace e_ := fun β k_ => (e_ β k_).trans (if_neg c75_1263)
        refine g_iload B dX3_readHead_78 1 rfl ?_
        refine g_iconst (v := 1) B dX3_readHead_80 (by decide) ?_
        refine g_icmp_lt (tgt := 99) B dX3_readHead_81 (by decide) (fun c81_1264 => ?_) (fun c81_1264 => ?_)
        · replace e_ := fun β k_ => (e_ β k_).trans (if_pos c81_1264)
          refine g_iconst (v := 0) B dX3_readHead_99 (by decide) ?_
          refine g_sub (ws' := [(e, .inr (3, [.ref tp, .ref sd, .ref b1, .ref b2, .ref sh])), (tp, .inr (2, [.ref tpa, .int zt_1_1254])), (tpa, .inl (E.2.2.1 1, 6000, .inl (nb za_f_1255))), (b1, .inr (0, [.ref tp, .int b1_1, .int b1_2, .int b1_3])), (w, .inr (9, [.ref ps, .ref md, .int (nI w_2), .int (nI w_3), .int (nI w_4), .int w_5, .int w_6, .int w_7, .int w_8, .int w_9, .int w_10, .int w_11])), (ps, .inr (6, [.ref p, .ref we, .ref inp, .ref ba, .ref gu, .int ps_5, .int ps_6, .int ps_7])), (p, .inr (7, [.ref te, .ref de, .int (nI p_2)])), (te, .inl (E.2.2.1 0, 8, .inl te_f)), (de, .inl (E.2.2.1 0, 8, .inl de_f)), (we, .inl (E.2.2.1 0, 16, .inl we_f)), (inp, .inl (E.2.2.1 0, 128, .inl inp_f)), (md, .inr (5, [.ref mi, .long md_1, .long md_2])), (mi, .inl (E.2.2.1 3, 6, .inr (.inl mi_f)))]) [0, 11, 12, 1, 2, 3, 4, 5, 6, 7, 8, 9, 10] (by decide) rfl ?_
          exact g_zret B hr (by decide) dX3_readHead_100 (by decide) (by decide) ⟨zt_1_1254, za_f_1255, b1_1, b1_2, b1_3, w_2, w_3, w_4, w_5, w_6, w_7, w_8, w_9, w_10, w_11, ps_5, ps_6, ps_7, p_2, te_f, de_f, we_f, inp_f, md_1, md_2, mi_f, 0, (Or.inl rfl), (by first | assumption | omega | decide), (by first | assumption | omega | decide), (by first | assumption | omega | decide), (by first | assumption | omega | decide), e_, rfl, rfl⟩
        · replace e_ := fun β k_ => (e_ β k_).trans (if_neg c81_1264)
          refine g_iload B dX3_readHead_84 1 rfl ?_
          refine g_sipush (v := 600) B dX3_readHead_86 (by decide) ?_
          refine g_icmp_gt (tgt := 99) B dX3_readHead_89 (by decide) (fun c89_1265 => ?_) (fun c89_1265 => ?_)
          · replace e_ := fun β k_ => (e_ β k_).trans (if_pos c89_1265)
            refine g_iconst (v := 0) B dX3_readHead_99 (by decide) ?_
            refine g_sub (ws' := [(e, .inr (3, [.ref tp, .ref sd, .ref b1, .ref b2, .ref sh])), (tp, .inr (2, [.ref tpa, .int zt_1_1254])), (tpa, .inl (E.2.2.1 1, 6000, .inl (nb za_f_1255))), (b1, .inr (0, [.ref tp, .int b1_1, .int b1_2, .int b1_3])), (w, .inr (9, [.ref ps, .ref md, .int (nI w_2), .int (nI w_3), .int (nI w_4), .int w_5, .int w_6, .int w_7, .int w_8, .int w_9, .int w_10, .int w_11])), (ps, .inr (6, [.ref p, .ref we, .ref inp, .ref ba, .ref gu, .int ps_5, .int ps_6, .int ps_7])), (p, .inr (7, [.ref te, .ref de, .int (nI p_2)])), (te, .inl (E.2.2.1 0, 8, .inl te_f)), (de, .inl (E.2.2.1 0, 8, .inl de_f)), (we, .inl (E.2.2.1 0, 16, .inl we_f)), (inp, .inl (E.2.2.1 0, 128, .inl inp_f)), (md, .inr (5, [.ref mi, .long md_1, .long md_2])), (mi, .inl (E.2.2.1 3, 6, .inr (.inl mi_f)))]) [0, 11, 12, 1, 2, 3, 4, 5, 6, 7, 8, 9, 10] (by decide) rfl ?_
            exact g_zret B hr (by decide) dX3_readHead_100 (by decide) (by decide) ⟨zt_1_1254, za_f_1255, b1_1, b1_2, b1_3, w_2, w_3, w_4, w_5, w_6, w_7, w_8, w_9, w_10, w_11, ps_5, ps_6, ps_7, p_2, te_f, de_f, we_f, inp_f, md_1, md_2, mi_f, 0, (Or.inl rfl), (by first | assumption | omega | decide), (by first | assumption | omega | decide), (by first | assumption | omega | decide), (by first | assumption | omega | decide), e_, rfl, rfl⟩
          · replace e_ := fun β k_ => (e_ β k_).trans (if_neg c89_1265)
            refine g_iload B dX3_readHead_92 0 rfl ?_
            refine g_bipush (v := 8) B dX3_readHead_94 (by decide) ?_
            refine g_icmp_le (tgt := 101) B dX3_readHead_96 (by decide) (fun c96_1266 => ?_) (fun c96_1266 => ?_)
            · replace e_ := fun β k_ => (e_ β k_).trans (if_pos c96_1266)
              refine g_iload_n B dX3_readHead_101 rfl 3 rfl ?_
              refine g_bipush (v := 8) B dX3_readHead_102 (by decide) ?_
              refine g_iand B dX3_readHead_104 ?_
              refine g_if_eq (tgt := 112) B dX3_readHead_105 (by decide) (fun c105_1267 => ?_) (fun c105_1267 => ?_)
              · replace e_ := fun β k_ => (e_ β k_).trans (if_pos c105_1267)
                refine g_iconst (v := 0) B dX3_readHead_112 (by decide) ?_
                refine g_istore (lv' := [(7, .int 0), (6, .int zr_1252), (5, .int x_1249), (4, .int zr_1239), (3, .int zr_1235), (0, .ref e), (1, .ref w), (2, .int to_)]) B dX3_readHead_113 (by decide) rfl ?_
                refine g_bipush (v := 6) B dX3_readHead_115 (by decide) ?_
                refine g_iconst (v := 2) B dX3_readHead_117 (by decide) ?_
                refine g_iload B dX3_readHead_118 1 rfl ?_
                refine g_imul B dX3_readHead_120 ?_
                refine g_iadd B dX3_readHead_121 ?_
                refine g_istore (lv' := [(8, .int (6 + (2 * zr_1252))), (7, .int 0), (6, .int zr_1252), (5, .int x_1249), (4, .int zr_1239), (3, .int zr_1235), (0, .ref e), (1, .ref w), (2, .int to_)]) B dX3_readHead_122 (by decide) rfl ?_
                refine g_iload B dX3_readHead_124 0 rfl ?_
                refine g_iload B dX3_readHead_126 1 rfl ?_
                refine g_if_eq (tgt := 135) B dX3_readHead_128 (by decide) (fun c128 => ?_) (fun h => absurd (by decide) h)
                refine g_iconst (v := 0) B dX3_readHead_135 (by decide) ?_
                refine g_iadd B dX3_readHead_136 ?_
                refine g_topi (fun x_1268 ex_1268 => ?_)
                replace e_ := fun β k_ => (e_ β k_).trans (fnL_eq ex_1268.symm _)
                refine g_istore (lv' := [(9, .int x_1268), (8, .int (6 + (2 * zr_1252))), (7, .int 0), (6, .int zr_1252), (5, .int x_1249), (4, .int zr_1239), (3, .int zr_1235), (0, .ref e), (1, .ref w), (2, .int to_)]) B dX3_readHead_137 (by decide) rfl ?_
                refine g_iload B dX3_readHead_139 0 rfl ?_
                refine g_iload_n B dX3_readHead_141 rfl 9 rfl ?_
                refine g_icmp_gt (tgt := 161) B dX3_readHead_142 (by decide) (fun c142_1269 => ?_) (fun c142_1269 => ?_)
                · replace e_ := fun β k_ => (e_ β k_).trans (if_pos c142_1269)
                  refine g_iconst (v := 0) B dX3_readHead_161 (by decide) ?_
                  refine g_sub (ws' := [(e, .inr (3, [.ref tp, .ref sd, .ref b1, .ref b2, .ref sh])), (tp, .inr (2, [.ref tpa, .int zt_1_1254])), (tpa, .inl (E.2.2.1 1, 6000, .inl (nb za_f_1255))), (b1, .inr (0, [.ref tp, .int b1_1, .int b1_2, .int b1_3])), (w, .inr (9, [.ref ps, .ref md, .int (nI w_2), .int (nI w_3), .int (nI w_4), .int w_5, .int w_6, .int w_7, .int w_8, .int w_9, .int w_10, .int w_11])), (ps, .inr (6, [.ref p, .ref we, .ref inp, .ref ba, .ref gu, .int ps_5, .int ps_6, .int ps_7])), (p, .inr (7, [.ref te, .ref de, .int (nI p_2)])), (te, .inl (E.2.2.1 0, 8, .inl te_f)), (de, .inl (E.2.2.1 0, 8, .inl de_f)), (we, .inl (E.2.2.1 0, 16, .inl we_f)), (inp, .inl (E.2.2.1 0, 128, .inl inp_f)), (md, .inr (5, [.ref mi, .long md_1, .long md_2])), (mi, .inl (E.2.2.1 3, 6, .inr (.inl mi_f)))]) [0, 11, 12, 1, 2, 3, 4, 5, 6, 7, 8, 9, 10] (by decide) rfl ?_
                  exact g_zret B hr (by decide) dX3_readHead_162 (by decide) (by decide) ⟨zt_1_1254, za_f_1255, b1_1, b1_2, b1_3, w_2, w_3, w_4, w_5, w_6, w_7, w_8, w_9, w_10, w_11, ps_5, ps_6, ps_7, p_2, te_f, de_f, we_f, inp_f, md_1, md_2, mi_f, 0, (Or.inl rfl), (by first | assumption | omega | decide), (by first | assumption | omega | decide), (by first | assumption | omega | decide), (by first | assumption | omega | decide), e_, rfl, rfl⟩
                · replace e_ := fun β k_ => (e_ β k_).trans (if_neg c142_1269)
                  refine g_aload_n B dX3_readHead_145 rfl 7 rfl ?_
                  refine g_aload_n B dX3_readHead_146 rfl 8 rfl ?_
                  refine g_get B 2 0 fl_X3_66 rfl rfl dX3_readHead_147 ?_
                  refine g_get B 3 0 fl_X3_72 rfl rfl dX3_readHead_150 ?_
                  refine g_iload B dX3_readHead_153 3 rfl ?_
                  refine g_callV (st := []) (As := [.ref p, .int zr_1252]) (wr := [(b1, .inr (0, [.ref tp, .int b1_1, .int b1_2, .int b1_3])), (w, .inr (9, [.ref ps, .ref md, .int (nI w_2), .int (nI w_3), .int (nI w_4), .int w_5, .int w_6, .int w_7, .int w_8, .int w_9, .int w_10, .int w_11])), (ps, .inr (6, [.ref p, .ref we, .ref inp, .ref ba, .ref gu, .int ps_5, .int ps_6, .int ps_7])), (we, .inl (E.2.2.1 0, 16, .inl we_f)), (inp, .inl (E.2.2.1 0, 128, .inl inp_f)), (md, .inr (5, [.ref mi, .long md_1, .long md_2])), (mi, .inl (E.2.2.1 3, 6, .inr (.inl mi_f)))]) (nc' := 0) (ns' := 0) B cl_X3_78 w_im_X3_readPlan w_se_X3_readPlan (wk_X3_readPlan E e tp sd b1 b2 sh tpa p te de zt_1_1254 za_f_1255 p_2 te_f de_f zr_1252 (by first | assumption | omega | decide)) rfl [0, 11, 12, 4, 5, 6] [1, 2, 3, 7, 8, 9, 10] rfl rfl (by decide) (by decide) (by decide) 0 rfl (fun q h => by cases h; rfl) rfl ⟨by decide, by decide⟩ rfl rfl (by decide) (by decide) rfl (Nat.le_of_ble_eq_true rfl) dX3_readHead_155 (fun v w hq => ?_)
                  obtain ⟨ztp_1_1270, ztpa_f_1271, zp_2_1272, zte_f_1273, zde_f_1274, zr_1275, hf_1276, hf_1277, hz_1278, rfl, rfl⟩ := hq
                  replace e_ := fun β k_ => (e_ β k_).trans (hz_1278 β _)
                  show G E X 11 [(b1, .inr (0, [.ref tp, .int b1_1, .int b1_2, .int b1_3])), (w, .inr (9, [.ref ps, .ref md, .int (nI w_2), .int (nI w_3), .int (nI w_4), .int w_5, .int w_6, .int w_7, .int w_8, .int w_9, .int w_10, .int w_11])), (ps, .inr (6, [.ref p, .ref we, .ref inp, .ref ba, .ref gu, .int ps_5, .int ps_6, .int ps_7])), (we, .inl (E.2.2.1 0, 16, .inl we_f)), (inp, .inl (E.2.2.1 0, 128, .inl inp_f)), (md, .inr (5, [.ref mi, .long md_1, .long md_2])), (mi, .inl (E.2.2.1 3, 6, .inr (.inl mi_f))), (e, .inr (3, [.ref tp, .ref sd, .ref b1, .ref b2, .ref sh])), (tp, .inr (2, [.ref tpa, .int ztp_1_1270])), (tpa, .inl (E.2.2.1 1, 6000, .inl (nb ztpa_f_1271))), (p, .inr (7, [.ref te, .ref de, .int (nI zp_2_1272)])), (te, .inl (E.2.2.1 0, 8, .inl zte_f_1273)), (de, .inl (E.2.2.1 0, 8, .inl zde_f_1274))] 0 0 [(9, .int x_1268), (8, .int (6 + (2 * zr_1252))), (7, .int 0), (6, .int zr_1252), (5, .int x_1249), (4, .int zr_1239), (3, .int zr_1235), (0, .ref e), (1, .ref w), (2, .int to_)] 158 [.int zr_1275]
                  refine g_if_ne (tgt := 163) B dX3_readHead_158 (by decide) (fun c158_1279 => ?_) (fun c158_1279 => ?_)
                  · replace e_ := fun β k_ => (e_ β k_).trans (if_neg c158_1279)
                    refine g_iload B dX3_readHead_163 2 rfl ?_
                    refine g_if_eq (tgt := 195) B dX3_readHead_165 (by decide) (fun c165 => ?_) (fun h => absurd (by decide) h)
                    refine g_iconst (v := 0) B dX3_readHead_195 (by decide) ?_
                    refine g_istore (lv' := [(10, .int 0), (9, .int x_1268), (8, .int (6 + (2 * zr_1252))), (7, .int 0), (6, .int zr_1252), (5, .int x_1249), (4, .int zr_1239), (3, .int zr_1235), (0, .ref e), (1, .ref w), (2, .int to_)]) B dX3_readHead_196 (by decide) rfl ?_
                    refine g_aload_n B dX3_readHead_198 rfl 9 rfl ?_
                    refine g_iload_n B dX3_readHead_199 rfl 7 rfl ?_
                    refine g_iload B dX3_readHead_200 6 rfl ?_
                    refine g_iload B dX3_readHead_202 5 rfl ?_
                    refine g_iload B dX3_readHead_204 0 rfl ?_
                    obtain ⟨nf_1280, hnf_1280, rfl⟩ := fr_of (x := x_1249) c81_1264 c89_1265
                    replace e_ := fun β k_ => (e_ β k_).trans (fnL_eq (nI_clamp (by omega)) _)
                    refine g_callV (st := []) (As := [.int zr_1235, .int zr_1239, .int (nI nf_1280), .int 0]) (wr := [(b1, .inr (0, [.ref tp, .int b1_1, .int b1_2, .int b1_3])), (e, .inr (3, [.ref tp, .ref sd, .ref b1, .ref b2, .ref sh])), (tp, .inr (2, [.ref tpa, .int ztp_1_1270])), (tpa, .inl (E.2.2.1 1, 6000, .inl (nb ztpa_f_1271))), (p, .inr (7, [.ref te, .ref de, .int (nI zp_2_1272)])), (te, .inl (E.2.2.1 0, 8, .inl zte_f_1273)), (de, .inl (E.2.2.1 0, 8, .inl zde_f_1274))]) (nc' := 0) (ns' := 0) B cl_X3_82 w_im_X9_begin w_se_X9_begin (wk_X9_begin E w ps md p we inp ba gu mi nf_1280 w_2 w_3 w_4 w_5 w_6 w_7 w_8 w_9 w_10 w_11 ps_5 ps_6 ps_7 we_f inp_f md_1 md_2 mi_f zr_1235 zr_1239 0 (by first | assumption | omega | decide) (by first | assumption | omega | decide) (by first | assumption | omega | decide) (by first | assumption | omega | decide)) rfl [1, 2, 3, 4, 5, 6] [0, 7, 8, 9, 10, 11, 12] rfl rfl (by decide) (by decide) (by decide) 0 rfl (fun q h => by cases h; rfl) rfl ⟨by decide, by decide⟩ rfl rfl (by decide) (by decide) rfl (Nat.le_of_ble_eq_true rfl) dX3_readHead_206 (fun v w hq => ?_)
                    obtain ⟨zw_2_1281, zw_3_1282, zw_4_1283, zw_5_1284, zw_6_1285, zw_7_1286, zw_8_1287, zw_9_1288, zw_10_1289, zw_11_1290, zps_5_1291, zps_6_1292, zps_7_1293, zwe_f_1294, zinp_f_1295, zmd_1_1296, zmd_2_1297, zmi_f_1298, hf_1299, hf_1300, hf_1301, hz_1302, rfl, rfl⟩ := hq
                    replace e_ := fun β k_ => (e_ β k_).trans (hz_1302 β _)
                    show G E X 11 [(b1, .inr (0, [.ref tp, .int b1_1, .int b1_2, .int b1_3])), (e, .inr (3, [.ref tp, .ref sd, .ref b1, .ref b2, .ref sh])), (tp, .inr (2, [.ref tpa, .int ztp_1_1270])), (tpa, .inl (E.2.2.1 1, 6000, .inl (nb ztpa_f_1271))), (p, .inr (7, [.ref te, .ref de, .int (nI zp_2_1272)])), (te, .inl (E.2.2.1 0, 8, .inl zte_f_1273)), (de, .inl (E.2.2.1 0, 8, .inl zde_f_1274)), (w, .inr (9, [.ref ps, .ref md, .int (nI zw_2_1281), .int (nI zw_3_1282), .int (nI zw_4_1283), .int zw_5_1284, .int zw_6_1285, .int zw_7_1286, .int zw_8_1287, .int zw_9_1288, .int zw_10_1289, .int zw_11_1290])), (ps, .inr (6, [.ref p, .ref we, .ref inp, .ref ba, .ref gu, .int zps_5_1291, .int zps_6_1292, .int zps_7_1293])), (we, .inl (E.2.2.1 0, 16, .inl zwe_f_1294)), (inp, .inl (E.2.2.1 0, 128, .inl zinp_f_1295)), (md, .inr (5, [.ref mi, .long zmd_1_1296, .long zmd_2_1297])), (mi, .inl (E.2.2.1 3, 6, .inr (.inl zmi_f_1298)))] 0 0 [(10, .int 0), (9, .int x_1268), (8, .int (6 + (2 * zr_1252))), (7, .int 0), (6, .int zr_1252), (5, .int (nI nf_1280)), (4, .int zr_1239), (3, .int zr_1235), (0, .ref e), (1, .ref w), (2, .int to_)] 209 []
                    refine g_aload_n B dX3_readHead_209 rfl 8 rfl ?_
                    refine g_get B 1 2 fl_X3_27 rfl rfl dX3_readHead_210 ?_
                    refine g_iload B dX3_readHead_213 1 rfl ?_
                    refine g_iload_n B dX3_readHead_215 rfl 10 rfl ?_
                    refine g_callV (st := []) (As := [.int x_1268, .int to_]) (wr := [(e, .inr (3, [.ref tp, .ref sd, .ref b1, .ref b2, .ref sh])), (tp, .inr (2, [.ref tpa, .int ztp_1_1270])), (tpa, .inl (E.2.2.1 1, 6000, .inl (nb ztpa_f_1271))), (p, .inr (7, [.ref te, .ref de, .int (nI zp_2_1272)])), (te, .inl (E.2.2.1 0, 8, .inl zte_f_1273)), (de, .inl (E.2.2.1 0, 8, .inl zde_f_1274)), (w, .inr (9, [.ref ps, .ref md, .int (nI zw_2_1281), .int (nI zw_3_1282), .int (nI zw_4_1283), .int zw_5_1284, .int zw_6_1285, .int zw_7_1286, .int zw_8_1287, .int zw_9_1288, .int zw_10_1289, .int zw_11_1290])), (ps, .inr (6, [.ref p, .ref we, .ref inp, .ref ba, .ref gu, .int zps_5_1291, .int zps_6_1292, .int zps_7_1293])), (we, .inl (E.2.2.1 0, 16, .inl zwe_f_1294)), (inp, .inl (E.2.2.1 0, 128, .inl zinp_f_1295)), (md, .inr (5, [.ref mi, .long zmd_1_1296, .long zmd_2_1297])), (mi, .inl (E.2.2.1 3, 6, .inr (.inl zmi_f_1298)))]) (nc' := 0) (ns' := 0) B cl_X3_86 w_im_X0_start w_se_X0_start (wk_X0_start E b1 tp b1_1 b1_2 b1_3 x_1268 to_ ) rfl [0] [1, 2, 3, 4, 5, 6, 7, 8, 9, 10, 11, 12] rfl rfl (by decide) (by decide) (by decide) 0 rfl (fun q h => by cases h; rfl) rfl ⟨by decide, by decide⟩ rfl rfl (by decide) (by decide) rfl (Nat.le_of_ble_eq_true rfl) dX3_readHead_216 (fun v w hq => ?_)
                    obtain ⟨zb_1_1303, zb_2_1304, zb_3_1305, hz_1306, rfl, rfl⟩ := hq
                    replace e_ := fun β k_ => (e_ β k_).trans (hz_1306 β _)
                    show G E X 11 [(e, .inr (3, [.ref tp, .ref sd, .ref b1, .ref b2, .ref sh])), (tp, .inr (2, [.ref tpa, .int ztp_1_1270])), (tpa, .inl (E.2.2.1 1, 6000, .inl (nb ztpa_f_1271))), (p, .inr (7, [.ref te, .ref de, .int (nI zp_2_1272)])), (te, .inl (E.2.2.1 0, 8, .inl zte_f_1273)), (de, .inl (E.2.2.1 0, 8, .inl zde_f_1274)), (w, .inr (9, [.ref ps, .ref md, .int (nI zw_2_1281), .int (nI zw_3_1282), .int (nI zw_4_1283), .int zw_5_1284, .int zw_6_1285, .int zw_7_1286, .int zw_8_1287, .int zw_9_1288, .int zw_10_1289, .int zw_11_1290])), (ps, .inr (6, [.ref p, .ref we, .ref inp, .ref ba, .ref gu, .int zps_5_1291, .int zps_6_1292, .int zps_7_1293])), (we, .inl (E.2.2.1 0, 16, .inl zwe_f_1294)), (inp, .inl (E.2.2.1 0, 128, .inl zinp_f_1295)), (md, .inr (5, [.ref mi, .long zmd_1_1296, .long zmd_2_1297])), (mi, .inl (E.2.2.1 3, 6, .inr (.inl zmi_f_1298))), (b1, .inr (0, [.ref tp, .int zb_1_1303, .int zb_2_1304, .int zb_3_1305]))] 0 0 [(10, .int 0), (9, .int x_1268), (8, .int (6 + (2 * zr_1252))), (7, .int 0), (6, .int zr_1252), (5, .int (nI nf_1280)), (4, .int zr_1239), (3, .int zr_1235), (0, .ref e), (1, .ref w), (2, .int to_)] 219 []
                    refine g_iload B dX3_readHead_219 3 rfl ?_
                    refine g_if_eq (tgt := 229) B dX3_readHead_221 (by decide) (fun c221 => ?_) (fun h => absurd (by decide) h)
                    refine g_iconst (v := 1) B dX3_readHead_229 (by decide) ?_
                    refine g_goto (tgt := 234) B dX3_readHead_230 (by decide) ?_
                    refine g_sub (ws' := [(e, .inr (3, [.ref tp, .ref sd, .ref b1, .ref b2, .ref sh])), (tp, .inr (2, [.ref tpa, .int ztp_1_1270])), (tpa, .inl (E.2.2.1 1, 6000, .inl (nb ztpa_f_1271))), (b1, .inr (0, [.ref tp, .int zb_1_1303, .int zb_2_1304, .int zb_3_1305])), (w, .inr (9, [.ref ps, .ref md, .int (nI zw_2_1281), .int (nI zw_3_1282), .int (nI zw_4_1283), .int zw_5_1284, .int zw_6_1285, .int zw_7_1286, .int zw_8_1287, .int zw_9_1288, .int zw_10_1289, .int zw_11_1290])), (ps, .inr (6, [.ref p, .ref we, .ref inp, .ref ba, .ref gu, .int zps_5_1291, .int zps_6_1292, .int zps_7_1293])), (p, .inr (7, [.ref te, .ref de, .int (nI zp_2_1272)])), (te, .inl (E.2.2.1 0, 8, .inl zte_f_1273)), (de, .inl (E.2.2.1 0, 8, .inl zde_f_1274)), (we, .inl (E.2.2.1 0, 16, .inl zwe_f_1294)), (inp, .inl (E.2.2.1 0, 128, .inl zinp_f_1295)), (md, .inr (5, [.ref mi, .long zmd_1_1296, .long zmd_2_1297])), (mi, .inl (E.2.2.1 3, 6, .inr (.inl zmi_f_1298)))]) [0, 1, 2, 12, 6, 7, 3, 4, 5, 8, 9, 10, 11] (by decide) rfl ?_
                    exact g_zret B hr (by decide) dX3_readHead_234 (by decide) (by decide) ⟨ztp_1_1270, ztpa_f_1271, zb_1_1303, zb_2_1304, zb_3_1305, zw_2_1281, zw_3_1282, zw_4_1283, zw_5_1284, zw_6_1285, zw_7_1286, zw_8_1287, zw_9_1288, zw_10_1289, zw_11_1290, zps_5_1291, zps_6_1292, zps_7_1293, zp_2_1272, zte_f_1273, zde_f_1274, zwe_f_1294, zinp_f_1295, zmd_1_1296, zmd_2_1297, zmi_f_1298, 1, (Or.inr rfl), (by first | assumption | omega | decide), (by first | assumption | omega | decide), (by first | assumption | omega | decide), (by first | assumption | omega | decide), e_, rfl, rfl⟩
                  · replace e_ := fun β k_ => (e_ β k_).trans (if_pos c158_1279)
                    refine g_iconst (v := 0) B dX3_readHead_161 (by decide) ?_
                    refine g_sub (ws' := [(e, .inr (3, [.ref tp, .ref sd, .ref b1, .ref b2, .ref sh])), (tp, .inr (2, [.ref tpa, .int ztp_1_1270])), (tpa, .inl (E.2.2.1 1, 6000, .inl (nb ztpa_f_1271))), (b1, .inr (0, [.ref tp, .int b1_1, .int b1_2, .int b1_3])), (w, .inr (9, [.ref ps, .ref md, .int (nI w_2), .int (nI w_3), .int (nI w_4), .int w_5, .int w_6, .int w_7, .int w_8, .int w_9, .int w_10, .int w_11])), (ps, .inr (6, [.ref p, .ref we, .ref inp, .ref ba, .ref gu, .int ps_5, .int ps_6, .int ps_7])), (p, .inr (7, [.ref te, .ref de, .int (nI zp_2_1272)])), (te, .inl (E.2.2.1 0, 8, .inl zte_f_1273)), (de, .inl (E.2.2.1 0, 8, .inl zde_f_1274)), (we, .inl (E.2.2.1 0, 16, .inl we_f)), (inp, .inl (E.2.2.1 0, 128, .inl inp_f)), (md, .inr (5, [.ref mi, .long md_1, .long md_2])), (mi, .inl (E.2.2.1 3, 6, .inr (.inl mi_f)))]) [7, 8, 9, 0, 1, 2, 10, 11, 12, 3, 4, 5, 6] (by decide) rfl ?_
                    exact g_zret B hr (by decide) dX3_readHead_162 (by decide) (by decide) ⟨ztp_1_1270, ztpa_f_1271, b1_1, b1_2, b1_3, w_2, w_3, w_4, w_5, w_6, w_7, w_8, w_9, w_10, w_11, ps_5, ps_6, ps_7, zp_2_1272, zte_f_1273, zde_f_1274, we_f, inp_f, md_1, md_2, mi_f, 0, (Or.inl rfl), (by first | assumption | omega | decide), (by first | assumption | omega | decide), (by first | assumption | omega | decide), (by first | assumption | omega | decide), e_, rfl, rfl⟩
              · replace e_ := fun β k_ => (e_ β k_).trans (if_neg c105_1267)
                refine g_iconst (v := 1) B dX3_readHead_108 (by decide) ?_
                refine g_goto (tgt := 113) B dX3_readHead_109 (by decide) ?_
                refine g_istore (lv' := [(7, .int 1), (6, .int zr_1252), (5, .int x_1249), (4, .int zr_1239), (3, .int zr_1235), (0, .ref e), (1, .ref w), (2, .int to_)]) B dX3_readHead_113 (by decide) rfl ?_
                refine g_bipush (v := 6) B dX3_readHead_115 (by decide) ?_
                refine g_iconst (v := 2) B dX3_readHead_117 (by decide) ?_
                refine g_iload B dX3_readHead_118 1 rfl ?_
                refine g_imul B dX3_readHead_120 ?_
                refine g_iadd B dX3_readHead_121 ?_
                refine g_istore (lv' := [(8, .int (6 + (2 * zr_1252))), (7, .int 1), (6, .int zr_1252), (5, .int x_1249), (4, .int zr_1239), (3, .int zr_1235), (0, .ref e), (1, .ref w), (2, .int to_)]) B dX3_readHead_122 (by decide) rfl ?_
                refine g_iload B dX3_readHead_124 0 rfl ?_
                refine g_iload B dX3_readHead_126 1 rfl ?_
                refine g_if_eq (tgt := 135) B dX3_readHead_128 (by decide) (fun h => absurd h (by decide)) (fun c128 => ?_)
                refine g_iconst (v := 2) B dX3_readHead_131 (by decide) ?_
                refine g_goto (tgt := 136) B dX3_readHead_132 (by decide) ?_
                refine g_iadd B dX3_readHead_136 ?_
                refine g_topi (fun x_1307 ex_1307 => ?_)
                replace e_ := fun β k_ => (e_ β k_).trans (fnL_eq ex_1307.symm _)
                refine g_istore (lv' := [(9, .int x_1307), (8, .int (6 + (2 * zr_1252))), (7, .int 1), (6, .int zr_1252), (5, .int x_1249), (4, .int zr_1239), (3, .int zr_1235), (0, .ref e), (1, .ref w), (2, .int to_)]) B dX3_readHead_137 (by decide) rfl ?_
                refine g_iload B dX3_readHead_139 0 rfl ?_
                refine g_iload_n B dX3_readHead_141 rfl 9 rfl ?_
                refine g_icmp_gt (tgt := 161) B dX3_readHead_142 (by decide) (fun c142_1308 => ?_) (fun c142_1308 => ?_)
                · replace e_ := fun β k_ => (e_ β k_).trans (if_pos c142_1308)
                  refine g_iconst (v := 0) B dX3_readHead_161 (by decide) ?_
                  refine g_sub (ws' := [(e, .inr (3, [.ref tp, .ref sd, .ref b1, .ref b2, .ref sh])), (tp, .inr (2, [.ref tpa, .int zt_1_1254])), (tpa, .inl (E.2.2.1 1, 6000, .inl (nb za_f_1255))), (b1, .inr (0, [.ref tp, .int b1_1, .int b1_2, .int b1_3])), (w, .inr (9, [.ref ps, .ref md, .int (nI w_2), .int (nI w_3), .int (nI w_4), .int w_5, .int w_6, .int w_7, .int w_8, .int w_9, .int w_10, .int w_11])), (ps, .inr (6, [.ref p, .ref we, .ref inp, .ref ba, .ref gu, .int ps_5, .int ps_6, .int ps_7])), (p, .inr (7, [.ref te, .ref de, .int (nI p_2)])), (te, .inl (E.2.2.1 0, 8, .inl te_f)), (de, .inl (E.2.2.1 0, 8, .inl de_f)), (we, .inl (E.2.2.1 0, 16, .inl we_f)), (inp, .inl (E.2.2.1 0, 128, .inl inp_f)), (md, .inr (5, [.ref mi, .long md_1, .long md_2])), (mi, .inl (E.2.2.1 3, 6, .inr (.inl mi_f)))]) [0, 11, 12, 1, 2, 3, 4, 5, 6, 7, 8, 9, 10] (by decide) rfl ?_
                  exact g_zret B hr (by decide) dX3_readHead_162 (by decide) (by decide) ⟨zt_1_1254, za_f_1255, b1_1, b1_2, b1_3, w_2, w_3, w_4, w_5, w_6, w_7, w_8, w_9, w_10, w_11, ps_5, ps_6, ps_7, p_2, te_f, de_f, we_f, inp_f, md_1, md_2, mi_f, 0, (Or.inl rfl), (by first | assumption | omega | decide), (by first | assumption | omega | decide), (by first | assumption | omega | decide), (by first | assumption | omega | decide), e_, rfl, rfl⟩
                · replace e_ := fun β k_ => (e_ β k_).trans (if_neg c142_1308)
                  refine g_aload_n B dX3_readHead_145 rfl 7 rfl ?_
                  refine g_aload_n B dX3_readHead_146 rfl 8 rfl ?_
                  refine g_get B 2 0 fl_X3_66 rfl rfl dX3_readHead_147 ?_
                  refine g_get B 3 0 fl_X3_72 rfl rfl dX3_readHead_150 ?_
                  refine g_iload B dX3_readHead_153 3 rfl ?_
                  refine g_callV (st := []) (As := [.ref p, .int zr_1252]) (wr := [(b1, .inr (0, [.ref tp, .int b1_1, .int b1_2, .int b1_3])), (w, .inr (9, [.ref ps, .ref md, .int (nI w_2), .int (nI w_3), .int (nI w_4), .int w_5, .int w_6, .int w_7, .int w_8, .int w_9, .int w_10, .int w_11])), (ps, .inr (6, [.ref p, .ref we, .ref inp, .ref ba, .ref gu, .int ps_5, .int ps_6, .int ps_7])), (we, .inl (E.2.2.1 0, 16, .inl we_f)), (inp, .inl (E.2.2.1 0, 128, .inl inp_f)), (md, .inr (5, [.ref mi, .long md_1, .long md_2])), (mi, .inl (E.2.2.1 3, 6, .inr (.inl mi_f)))]) (nc' := 0) (ns' := 0) B cl_X3_78 w_im_X3_readPlan w_se_X3_readPlan (wk_X3_readPlan E e tp sd b1 b2 sh tpa p te de zt_1_1254 za_f_1255 p_2 te_f de_f zr_1252 (by first | assumption | omega | decide)) rfl [0, 11, 12, 4, 5, 6] [1, 2, 3, 7, 8, 9, 10] rfl rfl (by decide) (by decide) (by decide) 0 rfl (fun q h => by cases h; rfl) rfl ⟨by decide, by decide⟩ rfl rfl (by decide) (by decide) rfl (Nat.le_of_ble_eq_true rfl) dX3_readHead_155 (fun v w hq => ?_)
                  obtain ⟨ztp_1_1309, ztpa_f_1310, zp_2_1311, zte_f_1312, zde_f_1313, zr_1314, hf_1315, hf_1316, hz_1317, rfl, rfl⟩ := hq
                  replace e_ := fun β k_ => (e_ β k_).trans (hz_1317 β _)
                  show G E X 11 [(b1, .inr (0, [.ref tp, .int b1_1, .int b1_2, .int b1_3])), (w, .inr (9, [.ref ps, .ref md, .int (nI w_2), .int (nI w_3), .int (nI w_4), .int w_5, .int w_6, .int w_7, .int w_8, .int w_9, .int w_10, .int w_11])), (ps, .inr (6, [.ref p, .ref we, .ref inp, .ref ba, .ref gu, .int ps_5, .int ps_6, .int ps_7])), (we, .inl (E.2.2.1 0, 16, .inl we_f)), (inp, .inl (E.2.2.1 0, 128, .inl inp_f)), (md, .inr (5, [.ref mi, .long md_1, .long md_2])), (mi, .inl (E.2.2.1 3, 6, .inr (.inl mi_f))), (e, .inr (3, [.ref tp, .ref sd, .ref b1, .ref b2, .ref sh])), (tp, .inr (2, [.ref tpa, .int ztp_1_1309])), (tpa, .inl (E.2.2.1 1, 6000, .inl (nb ztpa_f_1310))), (p, .inr (7, [.ref te, .ref de, .int (nI zp_2_1311)])), (te, .inl (E.2.2.1 0, 8, .inl zte_f_1312)), (de, .inl (E.2.2.1 0, 8, .inl zde_f_1313))] 0 0 [(9, .int x_1307), (8, .int (6 + (2 * zr_1252))), (7, .int 1), (6, .int zr_1252), (5, .int x_1249), (4, .int zr_1239), (3, .int zr_1235), (0, .ref e), (1, .ref w), (2, .int to_)] 158 [.int zr_1314]
                  refine g_if_ne (tgt := 163) B dX3_readHead_158 (by decide) (fun c158_1318 => ?_) (fun c158_1318 => ?_)
                  · replace e_ := fun β k_ => (e_ β k_).trans (if_neg c158_1318)
                    refine g_iload B dX3_readHead_163 2 rfl ?_
                    refine g_if_eq (tgt := 195) B dX3_readHead_165 (by decide) (fun h => absurd h (by decide)) (fun c165 => ?_)
                    refine g_aload_n B dX3_readHead_168 rfl 7 rfl ?_
                    refine g_get B 7 0 fl_X3_9 rfl rfl dX3_readHead_169 ?_
                    refine g_iload B dX3_readHead_172 1 rfl ?_
                    refine g_callV (st := []) (As := [.int (6 + (2 * zr_1252))]) (wr := [(b1, .inr (0, [.ref tp, .int b1_1, .int b1_2, .int b1_3])), (w, .inr (9, [.ref ps, .ref md, .int (nI w_2), .int (nI w_3), .int (nI w_4), .int w_5, .int w_6, .int w_7, .int w_8, .int w_9, .int w_10, .int w_11])), (ps, .inr (6, [.ref p, .ref we, .ref inp, .ref ba, .ref gu, .int ps_5, .int ps_6, .int ps_7])), (we, .inl (E.2.2.1 0, 16, .inl we_f)), (inp, .inl (E.2.2.1 0, 128, .inl inp_f)), (md, .inr (5, [.ref mi, .long md_1, .long md_2])), (mi, .inl (E.2.2.1 3, 6, .inr (.inl mi_f))), (e, .inr (3, [.ref tp, .ref sd, .ref b1, .ref b2, .ref sh])), (p, .inr (7, [.ref te, .ref de, .int (nI zp_2_1311)])), (te, .inl (E.2.2.1 0, 8, .inl zte_f_1312)), (de, .inl (E.2.2.1 0, 8, .inl zde_f_1313))]) (nc' := 0) (ns' := 0) B cl_X3_59 w_im_X2_at w_se_X2_at (wk_X2_at E tp tpa 6000 ztp_1_1309 ztpa_f_1310 (6 + (2 * zr_1252)) (by first | assumption | omega | decide)) rfl [8, 9] [0, 1, 2, 3, 4, 5, 6, 7, 10, 11, 12] rfl rfl (by decide) (by decide) (by decide) 0 rfl (fun q h => by cases h; rfl) rfl ⟨by decide, by decide⟩ rfl rfl (by decide) (by decide) rfl (Nat.le_of_ble_eq_true rfl) dX3_readHead_174 (fun v w hq => ?_)
                    obtain ⟨zt_1_1319, za_f_1320, zr_1321, hz_1322, rfl, rfl⟩ := hq
                    replace e_ := fun β k_ => (e_ β k_).trans (hz_1322 β _)
                    show G E X 11 [(b1, .inr (0, [.ref tp, .int b1_1, .int b1_2, .int b1_3])), (w, .inr (9, [.ref ps, .ref md, .int (nI w_2), .int (nI w_3), .int (nI w_4), .int w_5, .int w_6, .int w_7, .int w_8, .int w_9, .int w_10, .int w_11])), (ps, .inr (6, [.ref p, .ref we, .ref inp, .ref ba, .ref gu, .int ps_5, .int ps_6, .int ps_7])), (we, .inl (E.2.2.1 0, 16, .inl we_f)), (inp, .inl (E.2.2.1 0, 128, .inl inp_f)), (md, .inr (5, [.ref mi, .long md_1, .long md_2])), (mi, .inl (E.2.2.1 3, 6, .inr (.inl mi_f))), (e, .inr (3, [.ref tp, .ref sd, .ref b1, .ref b2, .ref sh])), (p, .inr (7, [.ref te, .ref de, .int (nI zp_2_1311)])), (te, .inl (E.2.2.1 0, 8, .inl zte_f_1312)), (de, .inl (E.2.2.1 0, 8, .inl zde_f_1313)), (tp, .inr (2, [.ref tpa, .int zt_1_1319])), (tpa, .inl (E.2.2.1 1, 6000, .inl (nb za_f_1320)))] 0 0 [(9, .int x_1307), (8, .int (6 + (2 * zr_1252))), (7, .int 1), (6, .int zr_1252), (5, .int x_1249), (4, .int zr_1239), (3, .int zr_1235), (0, .ref e), (1, .ref w), (2, .int to_)] 177 [.int zr_1321]
                    refine g_bipush (v := 8) B dX3_readHead_177 (by decide) ?_
                    refine g_ishl B dX3_readHead_179 ?_
                    refine g_aload_n B dX3_readHead_180 rfl 7 rfl ?_
                    refine g_get B 7 0 fl_X3_9 rfl rfl dX3_readHead_181 ?_
                    refine g_iload B dX3_readHead_184 1 rfl ?_
                    refine g_iconst (v := 1) B dX3_readHead_186 (by decide) ?_
                    refine g_iadd B dX3_readHead_187 ?_
                    refine g_callV (st := [.int (zr_1321 <<< (8 &&& 31))]) (As := [.int ((6 + (2 * zr_1252)) + 1)]) (wr := [(b1, .inr (0, [.ref tp, .int b1_1, .int b1_2, .int b1_3])), (w, .inr (9, [.ref ps, .ref md, .int (nI w_2), .int (nI w_3), .int (nI w_4), .int w_5, .int w_6, .int w_7, .int w_8, .int w_9, .int w_10, .int w_11])), (ps, .inr (6, [.ref p, .ref we, .ref inp, .ref ba, .ref gu, .int ps_5, .int ps_6, .int ps_7])), (we, .inl (E.2.2.1 0, 16, .inl we_f)), (inp, .inl (E.2.2.1 0, 128, .inl inp_f)), (md, .inr (5, [.ref mi, .long md_1, .long md_2])), (mi, .inl (E.2.2.1 3, 6, .inr (.inl mi_f))), (e, .inr (3, [.ref tp, .ref sd, .ref b1, .ref b2, .ref sh])), (p, .inr (7, [.ref te, .ref de, .int (nI zp_2_1311)])), (te, .inl (E.2.2.1 0, 8, .inl zte_f_1312)), (de, .inl (E.2.2.1 0, 8, .inl zde_f_1313))]) (nc' := 0) (ns' := 0) B cl_X3_59 w_im_X2_at w_se_X2_at (wk_X2_at E tp tpa 6000 zt_1_1319 za_f_1320 ((6 + (2 * zr_1252)) + 1) (by first | assumption | omega | decide)) rfl [11, 12] [0, 1, 2, 3, 4, 5, 6, 7, 8, 9, 10] rfl rfl (by decide) (by decide) (by decide) 0 rfl (fun q h => by cases h; rfl) rfl ⟨by decide, by decide⟩ rfl rfl (by decide) (by decide) rfl (Nat.le_of_ble_eq_true rfl) dX3_readHead_188 (fun v w hq => ?_)
                    obtain ⟨zt_1_1323, za_f_1324, zr_1325, hz_1326, rfl, rfl⟩ := hq
                    replace e_ := fun β k_ => (e_ β k_).trans (hz_1326 β _)
                    show G E X 11 [(b1, .inr (0, [.ref tp, .int b1_1, .int b1_2, .int b1_3])), (w, .inr (9, [.ref ps, .ref md, .int (nI w_2), .int (nI w_3), .int (nI w_4), .int w_5, .int w_6, .int w_7, .int w_8, .int w_9, .int w_10, .int w_11])), (ps, .inr (6, [.ref p, .ref we, .ref inp, .ref ba, .ref gu, .int ps_5, .int ps_6, .int ps_7])), (we, .inl (E.2.2.1 0, 16, .inl we_f)), (inp, .inl (E.2.2.1 0, 128, .inl inp_f)), (md, .inr (5, [.ref mi, .long md_1, .long md_2])), (mi, .inl (E.2.2.1 3, 6, .inr (.inl mi_f))), (e, .inr (3, [.ref tp, .ref sd, .ref b1, .ref b2, .ref sh])), (p, .inr (7, [.ref te, .ref de, .int (nI zp_2_1311)])), (te, .inl (E.2.2.1 0, 8, .inl zte_f_1312)), (de, .inl (E.2.2.1 0, 8, .inl zde_f_1313)), (tp, .inr (2, [.ref tpa, .int zt_1_1323])), (tpa, .inl (E.2.2.1 1, 6000, .inl (nb za_f_1324)))] 0 0 [(9, .int x_1307), (8, .int (6 + (2 * zr_1252))), (7, .int 1), (6, .int zr_1252), (5, .int x_1249), (4, .int zr_1239), (3, .int zr_1235), (0, .ref e), (1, .ref w), (2, .int to_)] 191 [.int zr_1325, .int (zr_1321 <<< (8 &&& 31))]
                    refine g_ior B dX3_readHead_191 ?_
                    refine g_goto (tgt := 196) B dX3_readHead_192 (by decide) ?_
                    refine g_topi (fun x_1327 ex_1327 => ?_)
                    replace e_ := fun β k_ => (e_ β k_).trans (fnL_eq ex_1327.symm _)
                    refine g_istore (lv' := [(10, .int x_1327), (9, .int x_1307), (8, .int (6 + (2 * zr_1252))), (7, .int 1), (6, .int zr_1252), (5, .int x_1249), (4, .int zr_1239), (3, .int zr_1235), (0, .ref e), (1, .ref w), (2, .int to_)]) B dX3_readHead_196 (by decide) rfl ?_
                    refine g_aload_n B dX3_readHead_198 rfl 9 rfl ?_
                    refine g_iload_n B dX3_readHead_199 rfl 7 rfl ?_
                    refine g_iload B dX3_readHead_200 6 rfl ?_
                    refine g_iload B dX3_readHead_202 5 rfl ?_
                    refine g_iload B dX3_readHead_204 0 rfl ?_
                    obtain ⟨nf_1328, hnf_1328, rfl⟩ := fr_of (x := x_1249) c81_1264 c89_1265
                    replace e_ := fun β k_ => (e_ β k_).trans (fnL_eq (nI_clamp (by omega)) _)
                    refine g_callV (st := []) (As := [.int zr_1235, .int zr_1239, .int (nI nf_1328), .int x_1327]) (wr := [(b1, .inr (0, [.ref tp, .int b1_1, .int b1_2, .int b1_3])), (e, .inr (3, [.ref tp, .ref sd, .ref b1, .ref b2, .ref sh])), (p, .inr (7, [.ref te, .ref de, .int (nI zp_2_1311)])), (te, .inl (E.2.2.1 0, 8, .inl zte_f_1312)), (de, .inl (E.2.2.1 0, 8, .inl zde_f_1313)), (tp, .inr (2, [.ref tpa, .int zt_1_1323])), (tpa, .inl (E.2.2.1 1, 6000, .inl (nb za_f_1324)))]) (nc' := 0) (ns' := 0) B cl_X3_82 w_im_X9_begin w_se_X9_begin (wk_X9_begin E w ps md p we inp ba gu mi nf_1328 w_2 w_3 w_4 w_5 w_6 w_7 w_8 w_9 w_10 w_11 ps_5 ps_6 ps_7 we_f inp_f md_1 md_2 mi_f zr_1235 zr_1239 x_1327 (by first | assumption | omega | decide) (by first | assumption | omega | decide) (by first | assumption | omega | decide) (by first | assumption | omega | decide)) rfl [1, 2, 3, 4, 5, 6] [0, 7, 8, 9, 10, 11, 12] rfl rfl (by decide) (by decide) (by decide) 0 rfl (fun q h => by cases h; rfl) rfl ⟨by decide, by decide⟩ rfl rfl (by decide) (by decide) rfl (Nat.le_of_ble_eq_true rfl) dX3_readHead_206 (fun v w hq => ?_)
                    obtain ⟨zw_2_1329, zw_3_1330, zw_4_1331, zw_5_1332, zw_6_1333, zw_7_1334, zw_8_1335, zw_9_1336, zw_10_1337, zw_11_1338, zps_5_1339, zps_6_1340, zps_7_1341, zwe_f_1342, zinp_f_1343, zmd_1_1344, zmd_2_1345, zmi_f_1346, hf_1347, hf_1348, hf_1349, hz_1350, rfl, rfl⟩ := hq
                    replace e_ := fun β k_ => (e_ β k_).trans (hz_1350 β _)
                    show G E X 11 [(b1, .inr (0, [.ref tp, .int b1_1, .int b1_2, .int b1_3])), (e, .inr (3, [.ref tp, .ref sd, .ref b1, .ref b2, .ref sh])), (p, .inr (7, [.ref te, .ref de, .int (nI zp_2_1311)])), (te, .inl (E.2.2.1 0, 8, .inl zte_f_1312)), (de, .inl (E.2.2.1 0, 8, .inl zde_f_1313)), (tp, .inr (2, [.ref tpa, .int zt_1_1323])), (tpa, .inl (E.2.2.1 1, 6000, .inl (nb za_f_1324))), (w, .inr (9, [.ref ps, .ref md, .int (nI zw_2_1329), .int (nI zw_3_1330), .int (nI zw_4_1331), .int zw_5_1332, .int zw_6_1333, .int zw_7_1334, .int zw_8_1335, .int zw_9_1336, .int zw_10_1337, .int zw_11_1338])), (ps, .inr (6, [.ref p, .ref we, .ref inp, .ref ba, .ref gu, .int zps_5_1339, .int zps_6_1340, .int zps_7_1341])), (we, .inl (E.2.2.1 0, 16, .inl zwe_f_1342)), (inp, .inl (E.2.2.1 0, 128, .inl zinp_f_1343)), (md, .inr (5, [.ref mi, .long zmd_1_1344, .long zmd_2_1345])), (mi, .inl (E.2.2.1 3, 6, .inr (.inl zmi_f_1346)))] 0 0 [(10, .int x_1327), (9, .int x_1307), (8, .int (6 + (2 * zr_1252))), (7, .int 1), (6, .int zr_1252), (5, .int (nI nf_1328)), (4, .int zr_1239), (3, .int zr_1235), (0, .ref e), (1, .ref w), (2, .int to_)] 209 []
                    refine g_aload_n B dX3_readHead_209 rfl 8 rfl ?_
                    refine g_get B 1 2 fl_X3_27 rfl rfl dX3_readHead_210 ?_
                    refine g_iload B dX3_readHead_213 1 rfl ?_
                    refine g_iload_n B dX3_readHead_215 rfl 10 rfl ?_
                    refine g_callV (st := []) (As := [.int x_1307, .int to_]) (wr := [(e, .inr (3, [.ref tp, .ref sd, .ref b1, .ref b2, .ref sh])), (p, .inr (7, [.ref te, .ref de, .int (nI zp_2_1311)])), (te, .inl (E.2.2.1 0, 8, .inl zte_f_1312)), (de, .inl (E.2.2.1 0, 8, .inl zde_f_1313)), (tp, .inr (2, [.ref tpa, .int zt_1_1323])), (tpa, .inl (E.2.2.1 1, 6000, .inl (nb za_f_1324))), (w, .inr (9, [.ref ps, .ref md, .int (nI zw_2_1329), .int (nI zw_3_1330), .int (nI zw_4_1331), .int zw_5_1332, .int zw_6_1333, .int zw_7_1334, .int zw_8_1335, .int zw_9_1336, .int zw_10_1337, .int zw_11_1338])), (ps, .inr (6, [.ref p, .ref we, .ref inp, .ref ba, .ref gu, .int zps_5_1339, .int zps_6_1340, .int zps_7_1341])), (we, .inl (E.2.2.1 0, 16, .inl zwe_f_1342)), (inp, .inl (E.2.2.1 0, 128, .inl zinp_f_1343)), (md, .inr (5, [.ref mi, .long zmd_1_1344, .long zmd_2_1345])), (mi, .inl (E.2.2.1 3, 6, .inr (.inl zmi_f_1346)))]) (nc' := 0) (ns' := 0) B cl_X3_86 w_im_X0_start w_se_X0_start (wk_X0_start E b1 tp b1_1 b1_2 b1_3 x_1307 to_ ) rfl [0] [1, 2, 3, 4, 5, 6, 7, 8, 9, 10, 11, 12] rfl rfl (by decide) (by decide) (by decide) 0 rfl (fun q h => by cases h; rfl) rfl ⟨by decide, by decide⟩ rfl rfl (by decide) (by decide) rfl (Nat.le_of_ble_eq_true rfl) dX3_readHead_216 (fun v w hq => ?_)
                    obtain ⟨zb_1_1351, zb_2_1352, zb_3_1353, hz_1354, rfl, rfl⟩ := hq
                    replace e_ := fun β k_ => (e_ β k_).trans (hz_1354 β _)
                    show G E X 11 [(e, .inr (3, [.ref tp, .ref sd, .ref b1, .ref b2, .ref sh])), (p, .inr (7, [.ref te, .ref de, .int (nI zp_2_1311)])), (te, .inl (E.2.2.1 0, 8, .inl zte_f_1312)), (de, .inl (E.2.2.1 0, 8, .inl zde_f_1313)), (tp, .inr (2, [.ref tpa, .int zt_1_1323])), (tpa, .inl (E.2.2.1 1, 6000, .inl (nb za_f_1324))), (w, .inr (9, [.ref ps, .ref md, .int (nI zw_2_1329), .int (nI zw_3_1330), .int (nI zw_4_1331), .int zw_5_1332, .int zw_6_1333, .int zw_7_1334, .int zw_8_1335, .int zw_9_1336, .int zw_10_1337, .int zw_11_1338])), (ps, .inr (6, [.ref p, .ref we, .ref inp, .ref ba, .ref gu, .int zps_5_1339, .int zps_6_1340, .int zps_7_1341])), (we, .inl (E.2.2.1 0, 16, .inl zwe_f_1342)), (inp, .inl (E.2.2.1 0, 128, .inl zinp_f_1343)), (md, .inr (5, [.ref mi, .long zmd_1_1344, .long zmd_2_1345])), (mi, .inl (E.2.2.1 3, 6, .inr (.inl zmi_f_1346))), (b1, .inr (0, [.ref tp, .int zb_1_1351, .int zb_2_1352, .int zb_3_1353]))] 0 0 [(10, .int x_1327), (9, .int x_1307), (8, .int (6 + (2 * zr_1252))), (7, .int 1), (6, .int zr_1252), (5, .int (nI nf_1328)), (4, .int zr_1239), (3, .int zr_1235), (0, .ref e), (1, .ref w), (2, .int to_)] 219 []
                    refine g_iload B dX3_readHead_219 3 rfl ?_
                    refine g_if_eq (tgt := 229) B dX3_readHead_221 (by decide) (fun h => absurd h (by decide)) (fun c221 => ?_)
                    refine g_iload B dX3_readHead_224 0 rfl ?_
                    refine g_if_le (tgt := 233) B dX3_readHead_226 (by decide) (fun c226_1355 => ?_) (fun c226_1355 => ?_)
                    · replace e_ := fun β k_ => (e_ β k_).trans (if_pos c226_1355)
                      refine g_iconst (v := 0) B dX3_readHead_233 (by decide) ?_
                      refine g_sub (ws' := [(e, .inr (3, [.ref tp, .ref sd, .ref b1, .ref b2, .ref sh])), (tp, .inr (2, [.ref tpa, .int zt_1_1323])), (tpa, .inl (E.2.2.1 1, 6000, .inl (nb za_f_1324))), (b1, .inr (0, [.ref tp, .int zb_1_1351, .int zb_2_1352, .int zb_3_1353])), (w, .inr (9, [.ref ps, .ref md, .int (nI zw_2_1329), .int (nI zw_3_1330), .int (nI zw_4_1331), .int zw_5_1332, .int zw_6_1333, .int zw_7_1334, .int zw_8_1335, .int zw_9_1336, .int zw_10_1337, .int zw_11_1338])), (ps, .inr (6, [.ref p, .ref we, .ref inp, .ref ba, .ref gu, .int zps_5_1339, .int zps_6_1340, .int zps_7_1341])), (p, .inr (7, [.ref te, .ref de, .int (nI zp_2_1311)])), (te, .inl (E.2.2.1 0, 8, .inl zte_f_1312)), (de, .inl (E.2.2.1 0, 8, .inl zde_f_1313)), (we, .inl (E.2.2.1 0, 16, .inl zwe_f_1342)), (inp, .inl (E.2.2.1 0, 128, .inl zinp_f_1343)), (md, .inr (5, [.ref mi, .long zmd_1_1344, .long zmd_2_1345])), (mi, .inl (E.2.2.1 3, 6, .inr (.inl zmi_f_1346)))]) [0, 4, 5, 12, 6, 7, 1, 2, 3, 8, 9, 10, 11] (by decide) rfl ?_
                      exact g_zret B hr (by decide) dX3_readHead_234 (by decide) (by decide) ⟨zt_1_1323, za_f_1324, zb_1_1351, zb_2_1352, zb_3_1353, zw_2_1329, zw_3_1330, zw_4_1331, zw_5_1332, zw_6_1333, zw_7_1334, zw_8_1335, zw_9_1336, zw_10_1337, zw_11_1338, zps_5_1339, zps_6_1340, zps_7_1341, zp_2_1311, zte_f_1312, zde_f_1313, zwe_f_1342, zinp_f_1343, zmd_1_1344, zmd_2_1345, zmi_f_1346, 0, (Or.inl rfl), (by first | assumption | omega | decide), (by first | assumption | omega | decide), (by first | assumption | omega | decide), (by first | assumption | omega | decide), e_, rfl, rfl⟩
                    · replace e_ := fun β k_ => (e_ β k_).trans (if_neg c226_1355)
                      refine g_iconst (v := 1) B dX3_readHead_229 (by decide) ?_
                      refine g_goto (tgt := 234) B dX3_readHead_230 (by decide) ?_
                      refine g_sub (ws' := [(e, .inr (3, [.ref tp, .ref sd, .ref b1, .ref b2, .ref sh])), (tp, .inr (2, [.ref tpa, .int zt_1_1323])), (tpa, .inl (E.2.2.1 1, 6000, .inl (nb za_f_1324))), (b1, .inr (0, [.ref tp, .int zb_1_1351, .int zb_2_1352, .int zb_3_1353])), (w, .inr (9, [.ref ps, .ref md, .int (nI zw_2_1329), .int (nI zw_3_1330), .int (nI zw_4_1331), .int zw_5_1332, .int zw_6_1333, .int zw_7_1334, .int zw_8_1335, .int zw_9_1336, .int zw_10_1337, .int zw_11_1338])), (ps, .inr (6, [.ref p, .ref we, .ref inp, .ref ba, .ref gu, .int zps_5_1339, .int zps_6_1340, .int zps_7_1341])), (p, .inr (7, [.ref te, .ref de, .int (nI zp_2_1311)])), (te, .inl (E.2.2.1 0, 8, .inl zte_f_1312)), (de, .inl (E.2.2.1 0, 8, .inl zde_f_1313)), (we, .inl (E.2.2.1 0, 16, .inl zwe_f_1342)), (inp, .inl (E.2.2.1 0, 128, .inl zinp_f_1343)), (md, .inr (5, [.ref mi, .long zmd_1_1344, .long zmd_2_1345])), (mi, .inl (E.2.2.1 3, 6, .inr (.inl zmi_f_1346)))]) [0, 4, 5, 12, 6, 7, 1, 2, 3, 8, 9, 10, 11] (by decide) rfl ?_
                      exact g_zret B hr (by decide) dX3_readHead_234 (by decide) (by decide) ⟨zt_1_1323, za_f_1324, zb_1_1351, zb_2_1352, zb_3_1353, zw_2_1329, zw_3_1330, zw_4_1331, zw_5_1332, zw_6_1333, zw_7_1334, zw_8_1335, zw_9_1336, zw_10_1337, zw_11_1338, zps_5_1339, zps_6_1340, zps_7_1341, zp_2_1311, zte_f_1312, zde_f_1313, zwe_f_1342, zinp_f_1343, zmd_1_1344, zmd_2_1345, zmi_f_1346, 1, (Or.inr rfl), (by first | assumption | omega | decide), (by first | assumption | omega | decide), (by first | assumption | omega | decide), (by first | assumption | omega | decide), e_, rfl, rfl⟩
                  · replace e_ := fun β k_ => (e_ β k_).trans (if_pos c158_1318)
                    refine g_iconst (v := 0) B dX3_readHead_161 (by decide) ?_
                    refine g_sub (ws' := [(e, .inr (3, [.ref tp, .ref sd, .ref b1, .ref b2, .ref sh])), (tp, .inr (2, [.ref tpa, .int ztp_1_1309])), (tpa, .inl (E.2.2.1 1, 6000, .inl (nb ztpa_f_1310))), (b1, .inr (0, [.ref tp, .int b1_1, .int b1_2, .int b1_3])), (w, .inr (9, [.ref ps, .ref md, .int (nI w_2), .int (nI w_3), .int (nI w_4), .int w_5, .int w_6, .int w_7, .int w_8, .int w_9, .int w_10, .int w_11])), (ps, .inr (6, [.ref p, .ref we, .ref inp, .ref ba, .ref gu, .int ps_5, .int ps_6, .int ps_7])), (p, .inr (7, [.ref te, .ref de, .int (nI zp_2_1311)])), (te, .inl (E.2.2.1 0, 8, .inl zte_f_1312)), (de, .inl (E.2.2.1 0, 8, .inl zde_f_1313)), (we, .inl (E.2.2.1 0, 16, .inl we_f)), (inp, .inl (E.2.2.1 0, 128, .inl inp_f)), (md, .inr (5, [.ref mi, .long md_1, .long md_2])), (mi, .inl (E.2.2.1 3, 6, .inr (.inl mi_f)))]) [7, 8, 9, 0, 1, 2, 10, 11, 12, 3, 4, 5, 6] (by decide) rfl ?_
                    exact g_zret B hr (by decide) dX3_readHead_162 (by decide) (by decide) ⟨ztp_1_1309, ztpa_f_1310, b1_1, b1_2, b1_3, w_2, w_3, w_4, w_5, w_6, w_7, w_8, w_9, w_10, w_11, ps_5, ps_6, ps_7, zp_2_1311, zte_f_1312, zde_f_1313, we_f, inp_f, md_1, md_2, mi_f, 0, (Or.inl rfl), (by first | assumption | omega | decide), (by first | assumption | omega | decide), (by first | assumption | omega | decide), (by first | assumption | omega | decide), e_, rfl, rfl⟩
            · replace e_ := fun β k_ => (e_ β k_).trans (if_neg c96_1266)
              refine g_iconst (v := 0) B dX3_readHead_99 (by decide) ?_
              refine g_sub (ws' := [(e, .inr (3, [.ref tp, .ref sd, .ref b1, .ref b2, .ref sh])), (tp, .inr (2, [.ref tpa, .int zt_1_1254])), (tpa, .inl (E.2.2.1 1, 6000, .inl (nb za_f_1255))), (b1, .inr (0, [.ref tp, .int b1_1, .int b1_2, .int b1_3])), (w, .inr (9, [.ref ps, .ref md, .int (nI w_2), .int (nI w_3), .int (nI w_4), .int w_5, .int w_6, .int w_7, .int w_8, .int w_9, .int w_10, .int w_11])), (ps, .inr (6, [.ref p, .ref we, .ref inp, .ref ba, .ref gu, .int ps_5, .int ps_6, .int ps_7])), (p, .inr (7, [.ref te, .ref de, .int (nI p_2)])), (te, .inl (E.2.2.1 0, 8, .inl te_f)), (de, .inl (E.2.2.1 0, 8, .inl de_f)), (we, .inl (E.2.2.1 0, 16, .inl we_f)), (inp, .inl (E.2.2.1 0, 128, .inl inp_f)), (md, .inr (5, [.ref mi, .long md_1, .long md_2])), (mi, .inl (E.2.2.1 3, 6, .inr (.inl mi_f)))]) [0, 11, 12, 1, 2, 3, 4, 5, 6, 7, 8, 9, 10] (by decide) rfl ?_
              exact g_zret B hr (by decide) dX3_readHead_100 (by decide) (by decide) ⟨zt_1_1254, za_f_1255, b1_1, b1_2, b1_3, w_2, w_3, w_4, w_5, w_6, w_7, w_8, w_9, w_10, w_11, ps_5, ps_6, ps_7, p_2, te_f, de_f, we_f, inp_f, md_1, md_2, mi_f, 0, (Or.inl rfl), (by first | assumption | omega | decide), (by first | assumption | omega | decide), (by first | assumption | omega | decide), (by first | assumption | omega | decide), e_, rfl, rfl⟩
