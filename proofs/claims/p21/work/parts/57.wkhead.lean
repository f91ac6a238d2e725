theorem nar01 {v : Int32} (h : v = 0 ∨ v = 1) : narrow .boolean (.int v) = .int v := by
  rcases h with rfl | rfl <;> rfl
theorem fr_of {x : Int32} (h1 : ¬ x < 1) (h2 : ¬ 600 < x) : ∃ n : Nat, n ≤ 600 ∧ x = nI n := by
  refine nI_of2 (M := 600) (by decide) (fun h => h1 ?_) (o_1 h2)
  have h3 := Int32.lt_iff_toInt_lt.mp h
  exact Int32.lt_iff_toInt_lt.mpr (by have e0 : (0 : Int32).toInt = 0 := by decide
                                      have e1 : (1 : Int32).toInt = 1 := by decide
                                      omega)
abbrev MX3_areFlags : g_M := (yX3_areFlags, cX3_areFlags, 4, (some .boolean))
theorem dX3_areFlags_0 : decode cX3_areFlags 0 = .ok (.iload_n 0, 1) := by decide +kernel
theorem dX3_areFlags_1 : decode cX3_areFlags 1 = .ok (.iconst 1, 1) := by decide +kernel
theorem dX3_areFlags_2 : decode cX3_areFlags 2 = .ok (.iand, 1) := by decide +kernel
theorem dX3_areFlags_3 : decode cX3_areFlags 3 = .ok (.ifCond .eq 7, 3) := by decide +kernel
theorem dX3_areFlags_10 : decode cX3_areFlags 10 = .ok (.iconst 0, 1) := by decide +kernel
theorem dX3_areFlags_11 : decode cX3_areFlags 11 = .ok (.istore_n 1, 1) := by decide +kernel
theorem dX3_areFlags_12 : decode cX3_areFlags 12 = .ok (.iload_n 0, 1) := by decide +kernel
theorem dX3_areFlags_13 : decode cX3_areFlags 13 = .ok (.iconst 2, 1) := by decide +kernel
theorem dX3_areFlags_14 : decode cX3_areFlags 14 = .ok (.iand, 1) := by decide +kernel
theorem dX3_areFlags_15 : decode cX3_areFlags 15 = .ok (.ifCond .eq 7, 3) := by decide +kernel
theorem dX3_areFlags_22 : decode cX3_areFlags 22 = .ok (.iconst 0, 1) := by decide +kernel
theorem dX3_areFlags_23 : decode cX3_areFlags 23 = .ok (.istore_n 2, 1) := by decide +kernel
theorem dX3_areFlags_24 : decode cX3_areFlags 24 = .ok (.iload_n 0, 1) := by decide +kernel
theorem dX3_areFlags_25 : decode cX3_areFlags 25 = .ok (.iconst 4, 1) := by decide +kernel
theorem dX3_areFlags_26 : decode cX3_areFlags 26 = .ok (.iand, 1) := by decide +kernel
theorem dX3_areFlags_27 : decode cX3_areFlags 27 = .ok (.ifCond .eq 7, 3) := by decide +kernel
theorem dX3_areFlags_34 : decode cX3_areFlags 34 = .ok (.iconst 0, 1) := by decide +kernel
theorem dX3_areFlags_35 : decode cX3_areFlags 35 = .ok (.istore_n 3, 1) := by decide +kernel
theorem dX3_areFlags_36 : decode cX3_areFlags 36 = .ok (.iload_n 0, 1) := by decide +kernel
theorem dX3_areFlags_37 : decode cX3_areFlags 37 = .ok (.bipush 15, 2) := by decide +kernel
theorem dX3_areFlags_39 : decode cX3_areFlags 39 = .ok (.if_icmp .gt 27, 3) := by decide +kernel
theorem dX3_areFlags_66 : decode cX3_areFlags 66 = .ok (.iconst 0, 1) := by decide +kernel
theorem dX3_areFlags_67 : decode cX3_areFlags 67 = .ok (.ireturn, 1) := by decide +kernel
theorem dX3_areFlags_42 : decode cX3_areFlags 42 = .ok (.iload_n 1, 1) := by decide +kernel
theorem dX3_areFlags_43 : decode cX3_areFlags 43 = .ok (.ifCond .ne 11, 3) := by decide +kernel
theorem dX3_areFlags_46 : decode cX3_areFlags 46 = .ok (.iload_n 2, 1) := by decide +kernel
theorem dX3_areFlags_47 : decode cX3_areFlags 47 = .ok (.ifCond .ne 19, 3) := by decide +kernel
theorem dX3_areFlags_50 : decode cX3_areFlags 50 = .ok (.iload_n 3, 1) := by decide +kernel
theorem dX3_areFlags_51 : decode cX3_areFlags 51 = .ok (.ifCond .ne 15, 3) := by decide +kernel
theorem dX3_areFlags_54 : decode cX3_areFlags 54 = .ok (.iload_n 2, 1) := by decide +kernel
theorem dX3_areFlags_55 : decode cX3_areFlags 55 = .ok (.ifCond .eq 7, 3) := by decide +kernel
theorem dX3_areFlags_62 : decode cX3_areFlags 62 = .ok (.iconst 1, 1) := by decide +kernel
theorem dX3_areFlags_63 : decode cX3_areFlags 63 = .ok (.goto 4, 3) := by decide +kernel
theorem dX3_areFlags_30 : decode cX3_areFlags 30 = .ok (.iconst 1, 1) := by decide +kernel
theorem dX3_areFlags_31 : decode cX3_areFlags 31 = .ok (.goto 4, 3) := by decide +kernel
theorem dX3_areFlags_18 : decode cX3_areFlags 18 = .ok (.iconst 1, 1) := by decide +kernel
theorem dX3_areFlags_19 : decode cX3_areFlags 19 = .ok (.goto 4, 3) := by decide +kernel
theorem dX3_areFlags_6 : decode cX3_areFlags 6 = .ok (.iconst 1, 1) := by decide +kernel
theorem dX3_areFlags_7 : decode cX3_areFlags 7 = .ok (.goto 4, 3) := by decide +kernel
theorem dX3_areFlags_58 : decode cX3_areFlags 58 = .ok (.iload_n 3, 1) := by decide +kernel
theorem dX3_areFlags_59 : decode cX3_areFlags 59 = .ok (.ifCond .ne 7, 3) := by decide +kernel
set_option maxRecDepth 100000 in
def fn_wk_X3_areFlags (fl : Int32) (β : Type) (k_ : Int32 → β) : β := (if (fl &&& 1) = 0 then (if (fl &&& 2) = 0 then (if (fl &&& 4) = 0 then (if 15 < fl then (k_ 0) else (k_ 1)) else (if 15 < fl then (k_ 0) else (k_ 0))) else (if (fl &&& 4) = 0 then (if 15 < fl then (k_ 0) else (k_ 0)) else (if 15 < fl then (k_ 0) else (k_ 0)))) else (if (fl &&& 2) = 0 then (if (fl &&& 4) = 0 then (if 15 < fl then (k_ 0) else (k_ 1)) else (if 15 < fl then (k_ 0) else (k_ 1))) else (if (fl &&& 4) = 0 then (if 15 < fl then (k_ 0) else (k_ 1)) else (if 15 < fl then (k_ 0) else (k_ 0)))))
set_option maxRecDepth 100000 in
theorem fn_wk_X3_areFlags_s {fl : Int32} {β : Type} {k_ : Int32 → β} : fn_wk_X3_areFlags fl β k_ = (if (fl &&& 1) = 0 then (if (fl &&& 2) = 0 then (if (fl &&& 4) = 0 then (if 15 < fl then (k_ 0) else (k_ 1)) else (if 15 < fl then (k_ 0) else (k_ 0))) else (if (fl &&& 4) = 0 then (if 15 < fl then (k_ 0) else (k_ 0)) else (if 15 < fl then (k_ 0) else (k_ 0)))) else (if (fl &&& 2) = 0 then (if (fl &&& 4) = 0 then (if 15 < fl then (k_ 0) else (k_ 1)) else (if 15 < fl then (k_ 0) else (k_ 1))) else (if (fl &&& 4) = 0 then (if 15 < fl then (k_ 0) else (k_ 1)) else (if 15 < fl then (k_ 0) else (k_ 0))))) := rfl
set_option maxRecDepth 100000 in
set_option maxHeartbeats 4000000 in
theorem wk_X3_areFlags (E : g_E) (fl : Int32)  : Ev E MX3_areFlags 0 0 0 0 [.int fl] [] (fun v_ w_ => ∃ zr : Int32, (zr = 0 ∨ zr = 1) ∧ (∀ (β : Type) (k_ : Int32 → β), fn_wk_X3_areFlags fl β k_ = k_ zr) ∧ v_ = some (.int zr) ∧ w_ = []) := by
  refine Ev.intro (by decide) (Nat.le_of_ble_eq_true rfl) ?_
  intro X B hr hI
  have B : Bd E X cX3_areFlags RX3 4 0 0 0 0 := B
  have hr : Rt E X (some .boolean) 0 0 (fun v_ w_ => ∃ zr : Int32, (zr = 0 ∨ zr = 1) ∧ (∀ (β : Type) (k_ : Int32 → β), fn_wk_X3_areFlags fl β k_ = k_ zr) ∧ v_ = some (.int zr) ∧ w_ = []) := hr
  have e_ := fun (β : Type) (k_ : Int32 → β) => fn_wk_X3_areFlags_s (β := β) (k_ := k_) (fl := fl)
  show G E X 4 [] 0 0 [(0, .int fl)] 0 []
  refine g_iload_n B dX3_areFlags_0 rfl 0 rfl ?_
  refine g_iconst (v := 1) B dX3_areFlags_1 (by decide) ?_
  refine g_iand B dX3_areFlags_2 ?_
  refine g_if_eq (tgt := 10) B dX3_areFlags_3 (by decide) (fun c3_896 => ?_) (fun c3_896 => ?_)
  · replace e_ := fun β k_ => (e_ β k_).trans (if_pos c3_896)
    refine g_iconst (v := 0) B dX3_areFlags_10 (by decide) ?_
    refine g_istore_n (lv' := [(1, .int 0), (0, .int fl)]) B dX3_areFlags_11 rfl (by decide) rfl ?_
    refine g_iload_n B dX3_areFlags_12 rfl 1 rfl ?_
    refine g_iconst (v := 2) B dX3_areFlags_13 (by decide) ?_
    refine g_iand B dX3_areFlags_14 ?_
    refine g_if_eq (tgt := 22) B dX3_areFlags_15 (by decide) (fun c15_897 => ?_) (fun c15_897 => ?_)
    · replace e_ := fun β k_ => (e_ β k_).trans (if_pos c15_897)
      refine g_iconst (v := 0) B dX3_areFlags_22 (by decide) ?_
      refine g_istore_n (lv' := [(2, .int 0), (1, .int 0), (0, .int fl)]) B dX3_areFlags_23 rfl (by decide) rfl ?_
      refine g_iload_n B dX3_areFlags_24 rfl 2 rfl ?_
      refine g_iconst (v := 4) B dX3_areFlags_25 (by decide) ?_
      refine g_iand B dX3_areFlags_26 ?_
      refine g_if_eq (tgt := 34) B dX3_areFlags_27 (by decide) (fun c27_898 => ?_) (fun c27_898 => ?_)
      · replace e_ := fun β k_ => (e_ β k_).trans (if_pos c27_898)
        refine g_iconst (v := 0) B dX3_areFlags_34 (by decide) ?_
        refine g_istore_n (lv' := [(3, .int 0), (2, .int 0), (1, .int 0), (0, .int fl)]) B dX3_areFlags_35 rfl (by decide) rfl ?_
        refine g_iload_n B dX3_areFlags_36 rfl 3 rfl ?_
        refine g_bipush (v := 15) B dX3_areFlags_37 (by decide) ?_
        refine g_icmp_gt (tgt := 66) B dX3_areFlags_39 (by decide) (fun c39_899 => ?_) (fun c39_899 => ?_)
        · replace e_ := fun β k_ => (e_ β k_).trans (if_pos c39_899)
          refine g_iconst (v := 0) B dX3_areFlags_66 (by decide) ?_
          exact g_zret B hr (by decide) dX3_areFlags_67 (by decide) (by decide) ⟨0, (Or.inl rfl), e_, rfl, rfl⟩
        · replace e_ := fun β k_ => (e_ β k_).trans (if_neg c39_899)
          refine g_iload_n B dX3_areFlags_42 rfl 2 rfl ?_
          refine g_if_ne (tgt := 54) B dX3_areFlags_43 (by decide) (fun h => absurd (by decide) h) (fun c43 => ?_)
          refine g_iload_n B dX3_areFlags_46 rfl 1 rfl ?_
          refine g_if_ne (tgt := 66) B dX3_areFlags_47 (by decide) (fun h => absurd (by decide) h) (fun c47 => ?_)
          refine g_iload_n B dX3_areFlags_50 rfl 0 rfl ?_
          refine g_if_ne (tgt := 66) B dX3_areFlags_51 (by decide) (fun h => absurd (by decide) h) (fun c51 => ?_)
          refine g_iload_n B dX3_areFlags_54 rfl 1 rfl ?_
          refine g_if_eq (tgt := 62) B dX3_areFlags_55 (by decide) (fun c55 => ?_) (fun h => absurd (by decide) h)
          refine g_iconst (v := 1) B dX3_areFlags_62 (by decide) ?_
          refine g_goto (tgt := 67) B dX3_areFlags_63 (by decide) ?_
          exact g_zret B hr (by decide) dX3_areFlags_67 (by decide) (by decide) ⟨1, (Or.inr rfl), e_, rfl, rfl⟩
      · replace e_ := fun β k_ => (e_ β k_).trans (if_neg c27_898)
        refine g_iconst (v := 1) B dX3_areFlags_30 (by decide) ?_
        refine g_goto (tgt := 35) B dX3_areFlags_31 (by decide) ?_
        refine g_istore_n (lv' := [(3, .int 1), (2, .int 0), (1, .int 0), (0, .int fl)]) B dX3_areFlags_35 rfl (by decide) rfl ?_
        refine g_iload_n B dX3_areFlags_36 rfl 3 rfl ?_
        refine g_bipush (v := 15) B dX3_areFlags_37 (by decide) ?_
        refine g_icmp_gt (tgt := 66) B dX3_areFlags_39 (by decide) (fun c39_900 => ?_) (fun c39_900 => ?_)
        · replace e_ := fun β k_ => (e_ β k_).trans (if_pos c39_900)
          refine g_iconst (v := 0) B dX3_areFlags_66 (by decide) ?_
          exact g_zret B hr (by decide) dX3_areFlags_67 (by decide) (by decide) ⟨0, (Or.inl rfl), e_, rfl, rfl⟩
        · replace e_ := fun β k_ => (e_ β k_).trans (if_neg c39_900)
          refine g_iload_n B dX3_areFlags_42 rfl 2 rfl ?_
          refine g_if_ne (tgt := 54) B dX3_areFlags_43 (by decide) (fun h => absurd (by decide) h) (fun c43 => ?_)
          refine g_iload_n B dX3_areFlags_46 rfl 1 rfl ?_
          refine g_if_ne (tgt := 66) B dX3_areFlags_47 (by decide) (fun h => absurd (by decide) h) (fun c47 => ?_)
          refine g_iload_n B dX3_areFlags_50 rfl 0 rfl ?_
          refine g_if_ne (tgt := 66) B dX3_areFlags_51 (by decide) (fun c51 => ?_) (fun h => absurd h (by decide))
          refine g_iconst (v := 0) B dX3_areFlags_66 (by decide) ?_
          exact g_zret B hr (by decide) dX3_areFlags_67 (by decide) (by decide) ⟨0, (Or.inl rfl), e_, rfl, rfl⟩
    · replace e_ := fun β k_ => (e_ β k_).trans (if_neg c15_897)
      refine g_iconst (v := 1) B dX3_areFlags_18 (by decide) ?_
      refine g_goto (tgt := 23) B dX3_areFlags_19 (by decide) ?_
      refine g_istore_n (lv' := [(2, .int 1), (1, .int 0), (0, .int fl)]) B dX3_areFlags_23 rfl (by decide) rfl ?_
      refine g_iload_n B dX3_areFlags_24 rfl 2 rfl ?_
      refine g_iconst (v := 4) B dX3_areFlags_25 (by decide) ?_
      refine g_iand B dX3_areFlags_26 ?_
      refine g_if_eq (tgt := 34) B dX3_areFlags_27 (by decide) (fun c27_901 => ?_) (fun c27_901 => ?_)
      · replace e_ := fun β k_ => (e_ β k_).trans (if_pos c27_901)
        refine g_iconst (v := 0) B dX3_areFlags_34 (by decide) ?_
        refine g_istore_n (lv' := [(3, .int 0), (2, .int 1), (1, .int 0), (0, .int fl)]) B dX3_areFlags_35 rfl (by decide) rfl ?_
        refine g_iload_n B dX3_areFlags_36 rfl 3 rfl ?_
        refine g_bipush (v := 15) B dX3_areFlags_37 (by decide) ?_
        refine g_icmp_gt (tgt := 66) B dX3_areFlags_39 (by decide) (fun c39_902 => ?_) (fun c39_902 => ?_)
        · replace e_ := fun β k_ => (e_ β k_).trans (if_pos c39_902)
          refine g_iconst (v := 0) B dX3_areFlags_66 (by decide) ?_
          exact g_zret B hr (by decide) dX3_areFlags_67 (by decide) (by decide) ⟨0, (Or.inl rfl), e_, rfl, rfl⟩
        · replace e_ := fun β k_ => (e_ β k_).trans (if_neg c39_902)
          refine g_iload_n B dX3_areFlags_42 rfl 2 rfl ?_
          refine g_if_ne (tgt := 54) B dX3_areFlags_43 (by decide) (fun h => absurd (by decide) h) (fun c43 => ?_)
          refine g_iload_n B dX3_areFlags_46 rfl 1 rfl ?_
          refine g_if_ne (tgt := 66) B dX3_areFlags_47 (by decide) (fun c47 => ?_) (fun h => absurd h (by decide))
          refine g_iconst (v := 0) B dX3_areFlags_66 (by decide) ?_
          exact g_zret B hr (by decide) dX3_areFlags_67 (by decide) (by decide) ⟨0, (Or.inl rfl), e_, rfl, rfl⟩
      · replace e_ := fun β k_ => (e_ β k_).trans (if_neg c27_901)
        refine g_iconst (v := 1) B dX3_areFlags_30 (by decide) ?_
        refine g_goto (tgt := 35) B dX3_areFlags_31 (by decide) ?_
        refine g_istore_n (lv' := [(3, .int 1), (2, .int 1), (1, .int 0), (0, .int fl)]) B dX3_areFlags_35 rfl (by decide) rfl ?_
        refine g_iload_n B dX3_areFlags_36 rfl 3 rfl ?_
        refine g_bipush (v := 15) B dX3_areFlags_37 (by decide) ?_
        refine g_icmp_gt (tgt := 66) B dX3_areFlags_39 (by decide) (fun c39_903 => ?_) (fun c39_903 => ?_)
        · replace e_ := fun β k_ => (e_ β k_).trans (if_pos c39_903)
          refine g_iconst (v := 0) B dX3_areFlags_66 (by decide) ?_
          exact g_zret B hr (by decide) dX3_areFlags_67 (by decide) (by decide) ⟨0, (Or.inl rfl), e_, rfl, rfl⟩
        · replace e_ := fun β k_ => (e_ β k_).trans (if_neg c39_903)
          refine g_iload_n B dX3_areFlags_42 rfl 2 rfl ?_
          refine g_if_ne (tgt := 54) B dX3_areFlags_43 (by decide) (fun h => absurd (by decide) h) (fun c43 => ?_)
          refine g_iload_n B dX3_areFlags_46 rfl 1 rfl ?_
          refine g_if_ne (tgt := 66) B dX3_areFlags_47 (by decide) (fun c47 => ?_) (fun h => absurd h (by decide))
          refine g_iconst (v := 0) B dX3_areFlags_66 (by decide) ?_
          exact g_zret B hr (by decide) dX3_areFlags_67 (by decide) (by decide) ⟨0, (Or.inl rfl), e_, rfl, rfl⟩
  · replace e_ := fun β k_ => (e_ β k_).trans (if_neg c3_896)
    refine g_iconst (v := 1) B dX3_areFlags_6 (by decide) ?_
    refine g_goto (tgt := 11) B dX3_areFlags_7 (by decide) ?_
    refine g_istore_n (lv' := [(1, .int 1), (0, .int fl)]) B dX3_areFlags_11 rfl (by decide) rfl ?_
    refine g_iload_n B dX3_areFlags_12 rfl 1 rfl ?_
    refine g_iconst (v := 2) B dX3_areFlags_13 (by decide) ?_
    refine g_iand B dX3_areFlags_14 ?_
    refine g_if_eq (tgt := 22) B dX3_areFlags_15 (by decide) (fun c15_904 => ?_) (fun c15_904 => ?_)
    · replace e_ := fun β k_ => (e_ β k_).trans (if_pos c15_904)
      refine g_iconst (v := 0) B dX3_areFlags_22 (by decide) ?_
      refine g_istore_n (lv' := [(2, .int 0), (1, .int 1), (0, .int fl)]) B dX3_areFlags_23 rfl (by decide) rfl ?_
      refine g_iload_n B dX3_areFlags_24 rfl 2 rfl ?_
      refine g_iconst (v := 4) B dX3_areFlags_25 (by decide) ?_
      refine g_iand B dX3_areFlags_26 ?_
      refine g_if_eq (tgt := 34) B dX3_areFlags_27 (by decide) (fun c27_905 => ?_) (fun c27_905 => ?_)
      · replace e_ := fun β k_ => (e_ β k_).trans (if_pos c27_905)
        refine g_iconst (v := 0) B dX3_areFlags_34 (by decide) ?_
        refine g_istore_n (lv' := [(3, .int 0), (2, .int 0), (1, .int 1), (0, .int fl)]) B dX3_areFlags_35 rfl (by decide) rfl ?_
        refine g_iload_n B dX3_areFlags_36 rfl 3 rfl ?_
        refine g_bipush (v := 15) B dX3_areFlags_37 (by decide) ?_
        refine g_icmp_gt (tgt := 66) B dX3_areFlags_39 (by decide) (fun c39_906 => ?_) (fun c39_906 => ?_)
        · replace e_ := fun β k_ => (e_ β k_).trans (if_pos c39_906)
          refine g_iconst (v := 0) B dX3_areFlags_66 (by decide) ?_
          exact g_zret B hr (by decide) dX3_areFlags_67 (by decide) (by decide) ⟨0, (Or.inl rfl), e_, rfl, rfl⟩
        · replace e_ := fun β k_ => (e_ β k_).trans (if_neg c39_906)
          refine g_iload_n B dX3_areFlags_42 rfl 2 rfl ?_
          refine g_if_ne (tgt := 54) B dX3_areFlags_43 (by decide) (fun c43 => ?_) (fun h => absurd h (by decide))
          refine g_iload_n B dX3_areFlags_54 rfl 1 rfl ?_
          refine g_if_eq (tgt := 62) B dX3_areFlags_55 (by decide) (fun c55 => ?_) (fun h => absurd (by decide) h)
          refine g_iconst (v := 1) B dX3_areFlags_62 (by decide) ?_
          refine g_goto (tgt := 67) B dX3_areFlags_63 (by decide) ?_
          exact g_zret B hr (by decide) dX3_areFlags_67 (by decide) (by decide) ⟨1, (Or.inr rfl), e_, rfl, rfl⟩
      · replace e_ := fun β k_ => (e_ β k_).trans (if_neg c27_905)
        refine g_iconst (v := 1) B dX3_areFlags_30 (by decide) ?_
        refine g_goto (tgt := 35) B dX3_areFlags_31 (by decide) ?_
        refine g_istore_n (lv' := [(3, .int 1), (2, .int 0), (1, .int 1), (0, .int fl)]) B dX3_areFlags_35 rfl (by decide) rfl ?_
        refine g_iload_n B dX3_areFlags_36 rfl 3 rfl ?_
        refine g_bipush (v := 15) B dX3_areFlags_37 (by decide) ?_
        refine g_icmp_gt (tgt := 66) B dX3_areFlags_39 (by decide) (fun c39_907 => ?_) (fun c39_907 => ?_)
        · replace e_ := fun β k_ => (e_ β k_).trans (if_pos c39_907)
          refine g_iconst (v := 0) B dX3_areFlags_66 (by decide) ?_
          exact g_zret B hr (by decide) dX3_areFlags_67 (by decide) (by decide) ⟨0, (Or.inl rfl), e_, rfl, rfl⟩
        · replace e_ := fun β k_ => (e_ β k_).trans (if_neg c39_907)
          refine g_iload_n B dX3_areFlags_42 rfl 2 rfl ?_
          refine g_if_ne (tgt := 54) B dX3_areFlags_43 (by decide) (fun c43 => ?_) (fun h => absurd h (by decide))
          refine g_iload_n B dX3_areFlags_54 rfl 1 rfl ?_
          refine g_if_eq (tgt := 62) B dX3_areFlags_55 (by decide) (fun c55 => ?_) (fun h => absurd (by decide) h)
          refine g_iconst (v := 1) B dX3_areFlags_62 (by decide) ?_
          refine g_goto (tgt := 67) B dX3_areFlags_63 (by decide) ?_
          exact g_zret B hr (by decide) dX3_areFlags_67 (by decide) (by decide) ⟨1, (Or.inr rfl), e_, rfl, rfl⟩
    · replace e_ := fun β k_ => (e_ β k_).trans (if_neg c15_904)
      refine g_iconst (v := 1) B dX3_areFlags_18 (by decide) ?_
      refine g_goto (tgt := 23) B dX3_areFlags_19 (by decide) ?_
      refine g_istore_n (lv' := [(2, .int 1), (1, .int 1), (0, .int fl)]) B dX3_areFlags_23 rfl (by decide) rfl ?_
      refine g_iload_n B dX3_areFlags_24 rfl 2 rfl ?_
      refine g_iconst (v := 4) B dX3_areFlags_25 (by decide) ?_
      refine g_iand B dX3_areFlags_26 ?_
      refine g_if_eq (tgt := 34) B dX3_areFlags_27 (by decide) (fun c27_908 => ?_) (fun c27_908 => ?_)
      · replace e_ := fun β k_ => (e_ β k_).trans (if_pos c27_908)
        refine g_iconst (v := 0) B dX3_areFlags_34 (by decide) ?_
        refine g_istore_n (lv' := [(3, .int 0), (2, .int 1), (1, .int 1), (0, .int fl)]) B dX3_areFlags_35 rfl (by decide) rfl ?_
        refine g_iload_n B dX3_areFlags_36 rfl 3 rfl ?_
        refine g_bipush (v := 15) B dX3_areFlags_37 (by decide) ?_
        refine g_icmp_gt (tgt := 66) B dX3_areFlags_39 (by decide) (fun c39_909 => ?_) (fun c39_909 => ?_)
        · replace e_ := fun β k_ => (e_ β k_).trans (if_pos c39_909)
          refine g_iconst (v := 0) B dX3_areFlags_66 (by decide) ?_
          exact g_zret B hr (by decide) dX3_areFlags_67 (by decide) (by decide) ⟨0, (Or.inl rfl), e_, rfl, rfl⟩
        · replace e_ := fun β k_ => (e_ β k_).trans (if_neg c39_909)
          refine g_iload_n B dX3_areFlags_42 rfl 2 rfl ?_
          refine g_if_ne (tgt := 54) B dX3_areFlags_43 (by decide) (fun c43 => ?_) (fun h => absurd h (by decide))
          refine g_iload_n B dX3_areFlags_54 rfl 1 rfl ?_
          refine g_if_eq (tgt := 62) B dX3_areFlags_55 (by decide) (fun h => absurd h (by decide)) (fun c55 => ?_)
          refine g_iload_n B dX3_areFlags_58 rfl 0 rfl ?_
          refine g_if_ne (tgt := 66) B dX3_areFlags_59 (by decide) (fun h => absurd (by decide) h) (fun c59 => ?_)
          refine g_iconst (v := 1) B dX3_areFlags_62 (by decide) ?_
          refine g_goto (tgt := 67) B dX3_areFlags_63 (by decide) ?_
          exact g_zret B hr (by decide) dX3_areFlags_67 (by decide) (by decide) ⟨1, (Or.inr rfl), e_, rfl, rfl⟩
      · replace e_ := fun β k_ => (e_ β k_).trans (if_neg c27_908)
        refine g_iconst (v := 1) B dX3_areFlags_30 (by decide) ?_
        refine g_goto (tgt := 35) B dX3_areFlags_31 (by decide) ?_
        refine g_istore_n (lv' := [(3, .int 1), (2, .int 1), (1, .int 1), (0, .int fl)]) B dX3_areFlags_35 rfl (by decide) rfl ?_
        refine g_iload_n B dX3_areFlags_36 rfl 3 rfl ?_
        refine g_bipush (v := 15) B dX3_areFlags_37 (by decide) ?_
        refine g_icmp_gt (tgt := 66) B dX3_areFlags_39 (by decide) (fun c39_910 => ?_) (fun c39_910 => ?_)
        · replace e_ := fun β k_ => (e_ β k_).trans (if_pos c39_910)
          refine g_iconst (v := 0) B dX3_areFlags_66 (by decide) ?_
          exact g_zret B hr (by decide) dX3_areFlags_67 (by decide) (by decide) ⟨0, (Or.inl rfl), e_, rfl, rfl⟩
        · replace e_ := fun β k_ => (e_ β k_).trans (if_neg c39_910)
          refine g_iload_n B dX3_areFlags_42 rfl 2 rfl ?_
          refine g_if_ne (tgt := 54) B dX3_areFlags_43 (by decide) (fun c43 => ?_) (fun h => absurd h (by decide))
          refine g_iload_n B dX3_areFlags_54 rfl 1 rfl ?_
          refine g_if_eq (tgt := 62) B dX3_areFlags_55 (by decide) (fun h => absurd h (by decide)) (fun c55 => ?_)
          refine g_iload_n B dX3_areFlags_58 rfl 0 rfl ?_
          refine g_if_ne (tgt := 66) B dX3_areFlags_59 (by decide) (fun c59 => ?_) (fun h => absurd h (by decide))
          refine g_iconst (v := 0) B dX3_areFlags_66 (by decide) ?_
          exact g_zret B hr (by decide) dX3_areFlags_67 (by decide) (by decide) ⟨0, (Or.inl rfl), e_, rfl, rfl⟩
abbrev MX3_readPlan : g_M := (yX3_readPlan, cX3_readPlan, 6, (some .boolean))
theorem dX3_readPlan_0 : decode cX3_readPlan 0 = .ok (.aload_n 1, 1) := by decide +kernel
theorem dX3_readPlan_1 : decode cX3_readPlan 1 = .ok (.invokevirtual 90, 3) := by decide +kernel
theorem w_ml_X3_90 : Cond.methodLink RX3 90 yX7_clear ∈ g_tbl := g_tbl_in 768 (by decide +kernel) (by decide +kernel)
theorem w_cd_X7_clear : g_cw MX7_clear ∈ g_tbl := g_tbl_in 434 (by decide +kernel) (by decide +kernel)
theorem cl_X3_90 : CL RX3 90 0 MX7_clear := ⟨w_ml_X3_90, w_cd_X7_clear, w_ini_X7, by decide +kernel, by decide +kernel, by decide +kernel⟩
theorem w_im_X7_clear : Cond.instanceMethod yX7_clear ∈ g_tbl := g_tbl_in 432 (by decide +kernel) (by decide +kernel)
theorem w_se_X7_clear : Cond.selects RX7 yX7_clear yX7_clear ∈ g_tbl := g_tbl_in 433 (by decide +kernel) (by decide +kernel)
theorem dX3_readPlan_4 : decode cX3_readPlan 4 = .ok (.iconst 0, 1) := by decide +kernel
theorem dX3_readPlan_5 : decode cX3_readPlan 5 = .ok (.istore_n 3, 1) := by decide +kernel
theorem dX3_readPlan_6 : decode cX3_readPlan 6 = .ok (.iload_n 3, 1) := by decide +kernel
theorem dX3_readPlan_7 : decode cX3_readPlan 7 = .ok (.iload_n 2, 1) := by decide +kernel
theorem dX3_readPlan_8 : decode cX3_readPlan 8 = .ok (.if_icmp .ge 70, 3) := by decide +kernel
theorem dX3_readPlan_11 : decode cX3_readPlan 11 = .ok (.aload_n 0, 1) := by decide +kernel
theorem dX3_readPlan_12 : decode cX3_readPlan 12 = .ok (.getfield 9, 3) := by decide +kernel
theorem dX3_readPlan_15 : decode cX3_readPlan 15 = .ok (.bipush 6, 2) := by decide +kernel
theorem dX3_readPlan_17 : decode cX3_readPlan 17 = .ok (.iconst 2, 1) := by decide +kernel
theorem dX3_readPlan_18 : decode cX3_readPlan 18 = .ok (.iload_n 3, 1) := by decide +kernel
theorem dX3_readPlan_19 : decode cX3_readPlan 19 = .ok (.imul, 1) := by decide +kernel
theorem dX3_readPlan_20 : decode cX3_readPlan 20 = .ok (.iadd, 1) := by decide +kernel
theorem dX3_readPlan_21 : decode cX3_readPlan 21 = .ok (.invokevirtual 59, 3) := by decide +kernel
theorem w_ml_X3_59 : Cond.methodLink RX3 59 yX2_at ∈ g_tbl := g_tbl_in 760 (by decide +kernel) (by decide +kernel)
theorem cl_X3_59 : CL RX3 59 1 MX2_at := ⟨w_ml_X3_59, w_cd_X2_at, w_ini_X2, by decide +kernel, by decide +kernel, by decide +kernel⟩
theorem dX3_readPlan_24 : decode cX3_readPlan 24 = .ok (.istore 4, 2) := by decide +kernel
theorem dX3_readPlan_26 : decode cX3_readPlan 26 = .ok (.aload_n 0, 1) := by decide +kernel
theorem dX3_readPlan_27 : decode cX3_readPlan 27 = .ok (.getfield 9, 3) := by decide +kernel
theorem dX3_readPlan_30 : decode cX3_readPlan 30 = .ok (.bipush 6, 2) := by decide +kernel
theorem dX3_readPlan_32 : decode cX3_readPlan 32 = .ok (.iconst 2, 1) := by decide +kernel
theorem dX3_readPlan_33 : decode cX3_readPlan 33 = .ok (.iload_n 3, 1) := by decide +kernel
theorem dX3_readPlan_34 : decode cX3_readPlan 34 = .ok (.imul, 1) := by decide +kernel
theorem dX3_readPlan_35 : decode cX3_readPlan 35 = .ok (.iadd, 1) := by decide +kernel
theorem dX3_readPlan_36 : decode cX3_readPlan 36 = .ok (.iconst 1, 1) := by decide +kernel
theorem dX3_readPlan_37 : decode cX3_readPlan 37 = .ok (.iadd, 1) := by decide +kernel
theorem dX3_readPlan_38 : decode cX3_readPlan 38 = .ok (.invokevirtual 59, 3) := by decide +kernel
theorem dX3_readPlan_41 : decode cX3_readPlan 41 = .ok (.istore 5, 2) := by decide +kernel
theorem dX3_readPlan_43 : decode cX3_readPlan 43 = .ok (.aload_n 1, 1) := by decide +kernel
theorem dX3_readPlan_44 : decode cX3_readPlan 44 = .ok (.iload 4, 2) := by decide +kernel
theorem dX3_readPlan_46 : decode cX3_readPlan 46 = .ok (.bipush 127, 2) := by decide +kernel
theorem dX3_readPlan_48 : decode cX3_readPlan 48 = .ok (.if_icmp .le 12, 3) := by decide +kernel
theorem dX3_readPlan_60 : decode cX3_readPlan 60 = .ok (.iload 4, 2) := by decide +kernel
theorem dX3_readPlan_62 : decode cX3_readPlan 62 = .ok (.iload 5, 2) := by decide +kernel
theorem dX3_readPlan_64 : decode cX3_readPlan 64 = .ok (.invokevirtual 95, 3) := by decide +kernel
theorem w_ml_X3_95 : Cond.methodLink RX3 95 yX7_add ∈ g_tbl := g_tbl_in 769 (by decide +kernel) (by decide +kernel)
theorem w_cd_X7_add : g_cw MX7_add ∈ g_tbl := g_tbl_in 423 (by decide +kernel) (by decide +kernel)
theorem cl_X3_95 : CL RX3 95 2 MX7_add := ⟨w_ml_X3_95, w_cd_X7_add, w_ini_X7, by decide +kernel, by decide +kernel, by decide +kernel⟩
theorem w_im_X7_add : Cond.instanceMethod yX7_add ∈ g_tbl := g_tbl_in 421 (by decide +kernel) (by decide +kernel)
theorem w_se_X7_add : Cond.selects RX7 yX7_add yX7_add ∈ g_tbl := g_tbl_in 422 (by decide +kernel) (by decide +kernel)
theorem dX3_readPlan_67 : decode cX3_readPlan 67 = .ok (.ifCond .ne 5, 3) := by decide +kernel
theorem dX3_readPlan_72 : decode cX3_readPlan 72 = .ok (.iinc 3 1, 3) := by decide +kernel
theorem dX3_readPlan_75 : decode cX3_readPlan 75 = .ok (.goto (-69), 3) := by decide +kernel
theorem dX3_readPlan_70 : decode cX3_readPlan 70 = .ok (.iconst 0, 1) := by decide +kernel
theorem dX3_readPlan_71 : decode cX3_readPlan 71 = .ok (.ireturn, 1) := by decide +kernel
theorem dX3_readPlan_51 : decode cX3_readPlan 51 = .ok (.iload 4, 2) := by decide +kernel
theorem dX3_readPlan_53 : decode cX3_readPlan 53 = .ok (.sipush 256, 3) := by decide +kernel
theorem dX3_readPlan_56 : decode cX3_readPlan 56 = .ok (.isub, 1) := by decide +kernel
theorem dX3_readPlan_57 : decode cX3_readPlan 57 = .ok (.goto 5, 3) := by decide +kernel
set_option maxRecDepth 100000 in
def lf_wk_X3_readPlan_6 (tp_1 : Int32) (tpa_f : Nat → Int32) (β : Type) (kx_ : Nat → (Nat → Int32) → (Nat → Int32) → Int32 → Int32 → β) (k_ : Nat → (Nat → Int32) → (Nat → Int32) → Int32 → β) : Nat → Nat → (Nat → Int32) → (Nat → Int32) → Int32 → Int32 → β
  | 0, p_2, te_f, de_f, l2, l3 => kx_ p_2 te_f de_f l2 l3
  | fuel + 1, p_2, te_f, de_f, l2, l3 => (if l2 ≤ l3 then (kx_ p_2 te_f de_f l2 l3) else (fn_wk_X2_at 6000 tp_1 tpa_f (6 + (2 * l3)) β (fun zr_915 => (fn_wk_X2_at 6000 tp_1 tpa_f ((6 + (2 * l3)) + 1) β (fun zr_917 => (if zr_915 ≤ 127 then (fn_wk_X7_add p_2 te_f de_f zr_915 zr_917 β (fun zp_2_920 zte_f_921 zde_f_922 zr_923 => (if zr_923 = 0 then (k_ zp_2_920 zte_f_921 zde_f_922 0) else (lf_wk_X3_readPlan_6 tp_1 tpa_f β kx_ k_ fuel zp_2_920 zte_f_921 zde_f_922 l2 (l3 + 1))))) else (fn_wk_X7_add p_2 te_f de_f (zr_915 - 256) zr_917 β (fun zp_2_928 zte_f_929 zde_f_930 zr_931 => (if zr_931 = 0 then (k_ zp_2_928 zte_f_929 zde_f_930 0) else (lf_wk_X3_readPlan_6 tp_1 tpa_f β kx_ k_ fuel zp_2_928 zte_f_929 zde_f_930 l2 (l3 + 1)))))))))))
set_option maxRecDepth 100000 in
theorem lf_wk_X3_readPlan_6_s {tp_1 : Int32} {tpa_f : Nat → Int32} {β : Type} {kx_ : Nat → (Nat → Int32) → (Nat → Int32) → Int32 → Int32 → β} {k_ : Nat → (Nat → Int32) → (Nat → Int32) → Int32 → β} {fuel : Nat} {p_2 : Nat} {te_f : Nat → Int32} {de_f : Nat → Int32} {l2 : Int32} {l3 : Int32} : lf_wk_X3_readPlan_6 tp_1 tpa_f β kx_ k_ (fuel + 1) p_2 te_f de_f l2 l3 = (if l2 ≤ l3 then (kx_ p_2 te_f de_f l2 l3) else (fn_wk_X2_at 6000 tp_1 tpa_f (6 + (2 * l3)) β (fun zr_915 => (fn_wk_X2_at 6000 tp_1 tpa_f ((6 + (2 * l3)) + 1) β (fun zr_917 => (if zr_915 ≤ 127 then (fn_wk_X7_add p_2 te_f de_f zr_915 zr_917 β (fun zp_2_920 zte_f_921 zde_f_922 zr_923 => (if zr_923 = 0 then (k_ zp_2_920 zte_f_921 zde_f_922 0) else (lf_wk_X3_readPlan_6 tp_1 tpa_f β kx_ k_ fuel zp_2_920 zte_f_921 zde_f_922 l2 (l3 + 1))))) else (fn_wk_X7_add p_2 te_f de_f (zr_915 - 256) zr_917 β (fun zp_2_928 zte_f_929 zde_f_930 zr_931 => (if zr_931 = 0 then (k_ zp_2_928 zte_f_929 zde_f_930 0) else (lf_wk_X3_readPlan_6 tp_1 tpa_f β kx_ k_ fuel zp_2_928 zte_f_929 zde_f_930 l2 (l3 + 1))))))))))) := rfl
set_option maxRecDepth 100000 in
set_option maxHeartbeats 4000000 in
theorem lp_wk_X3_readPlan_6 (E : g_E) (e : Nat) (tp : Nat) (sd : Nat) (b1 : Nat) (b2 : Nat) (sh : Nat) (tpa : Nat) (p : Nat) (te : Nat) (de : Nat) (tp_1 : Int32) (tpa_f : Nat → Int32)  {X : g_X} {rr : (β : Type) → (Nat → (Nat → Int32) → (Nat → Int32) → Int32 → β) → β} (kx_ : (β : Type) → (Nat → (Nat → Int32) → (Nat → Int32) → Int32 → β) → Nat → (Nat → Int32) → (Nat → Int32) → Int32 → Int32 → β) (B : Bd E X cX3_readPlan RX3 6 2 42 0 0) (hr : Rt E X (some .boolean) 0 0 (fun v_ w_ => ∃ zp_2 : Nat, ∃ zte_f : Nat → Int32, ∃ zde_f : Nat → Int32, ∃ zr : Int32, (zr = 0 ∨ zr = 1) ∧ (zp_2 ≤ 8) ∧ (∀ (β : Type) (k_ : Nat → (Nat → Int32) → (Nat → Int32) → Int32 → β), rr β k_ = k_ zp_2 zte_f zde_f zr) ∧ v_ = some (.int zr) ∧ w_ = [(e, .inr (3, [.ref tp, .ref sd, .ref b1, .ref b2, .ref sh])), (tp, .inr (2, [.ref tpa, .int tp_1])), (tpa, .inl (E.2.2.1 1, 6000, .inl (nb tpa_f))), (p, .inr (7, [.ref te, .ref de, .int (nI zp_2)])), (te, .inl (E.2.2.1 0, 8, .inl zte_f)), (de, .inl (E.2.2.1 0, 8, .inl zde_f))])) (K : ∀ (p_2 : Nat) (te_f : Nat → Int32) (de_f : Nat → Int32) (l2 : Int32) (l3 : Int32), p_2 ≤ 8 → (∀ (β : Type) (k_ : Nat → (Nat → Int32) → (Nat → Int32) → Int32 → β), rr β k_ = kx_ β k_ p_2 te_f de_f l2 l3) → G E X 6 [(e, .inr (3, [.ref tp, .ref sd, .ref b1, .ref b2, .ref sh])), (tp, .inr (2, [.ref tpa, .int tp_1])), (tpa, .inl (E.2.2.1 1, 6000, .inl (nb tpa_f))), (p, .inr (7, [.ref te, .ref de, .int (nI p_2)])), (te, .inl (E.2.2.1 0, 8, .inl te_f)), (de, .inl (E.2.2.1 0, 8, .inl de_f))] 0 0 [(0, .ref e), (1, .ref p), (2, .int l2), (3, .int l3)] 78 []) : ∀ (n : Nat) (p_2 : Nat) (te_f : Nat → Int32) (de_f : Nat → Int32) (l2 : Int32) (l3 : Int32), p_2 ≤ 8 → (Int32.toInt l2 - Int32.toInt l3).toNat < n → (∀ (β : Type) (k_ : Nat → (Nat → Int32) → (Nat → Int32) → Int32 → β), rr β k_ = lf_wk_X3_readPlan_6 tp_1 tpa_f β (kx_ β k_) k_ n p_2 te_f de_f l2 l3) → G E X 6 [(e, .inr (3, [.ref tp, .ref sd, .ref b1, .ref b2, .ref sh])), (tp, .inr (2, [.ref tpa, .int tp_1])), (tpa, .inl (E.2.2.1 1, 6000, .inl (nb tpa_f))), (p, .inr (7, [.ref te, .ref de, .int (nI p_2)])), (te, .inl (E.2.2.1 0, 8, .inl te_f)), (de, .inl (E.2.2.1 0, 8, .inl de_f))] 0 0 [(0, .ref e), (1, .ref p), (2, .int l2), (3, .int l3)] 6 [] := by
  intro n
  induction n with
  | zero => intro p_2 te_f de_f l2 l3 _ h _; exact absurd h (Nat.not_lt_zero _)
  | succ n ih =>
    intro p_2 te_f de_f l2 l3 hs0 hm e_
    replace e_ := fun β k_ => (e_ β k_).trans lf_wk_X3_readPlan_6_s
    refine g_iload_n B dX3_readPlan_6 rfl 3 rfl ?_
    refine g_iload_n B dX3_readPlan_7 rfl 2 rfl ?_
    refine g_icmp_ge (tgt := 78) B dX3_readPlan_8 (by decide) (fun c8_914 => ?_) (fun c8_914 => ?_)
    · replace e_ := fun β k_ => (e_ β k_).trans (if_pos c8_914)
      exact K p_2 te_f de_f l2 l3 (by first | assumption | omega | decide) e_
    · replace e_ := fun β k_ => (e_ β k_).trans (if_neg c8_914)
      refine g_aload_n B dX3_readPlan_11 rfl 0 rfl ?_
      refine g_get B 0 0 fl_X3_9 rfl rfl dX3_readPlan_12 ?_
      refine g_bipush (v := 6) B dX3_readPlan_15 (by decide) ?_
      refine g_iconst (v := 2) B dX3_readPlan_17 (by decide) ?_
      refine g_iload_n B dX3_readPlan_18 rfl 3 rfl ?_
      refine g_imul B dX3_readPlan_19 ?_
      refine g_iadd B dX3_readPlan_20 ?_
      refine g_callV (st := []) (As := [.int (6 + (2 * l3))]) (wr := [(e, .inr (3, [.ref tp, .ref sd, .ref b1, .ref b2, .ref sh])), (p, .inr (7, [.ref te, .ref de, .int (nI p_2)])), (te, .inl (E.2.2.1 0, 8, .inl te_f)), (de, .inl (E.2.2.1 0, 8, .inl de_f))]) (nc' := 0) (ns' := 0) B cl_X3_59 w_im_X2_at w_se_X2_at (wk_X2_at E tp tpa 6000 tp_1 tpa_f (6 + (2 * l3)) (by first | assumption | omega | decide)) rfl [1, 2] [0, 3, 4, 5] rfl rfl (by decide) (by decide) (by decide) 0 rfl (fun q h => by cases h; rfl) rfl ⟨by decide, by decide⟩ rfl rfl (by decide) (by decide) rfl (Nat.le_of_ble_eq_true rfl) dX3_readPlan_21 (fun v w hq => ?_)
      obtain ⟨zr_915, hz_916, rfl, rfl⟩ := hq
      replace e_ := fun β k_ => (e_ β k_).trans (hz_916 β _)
      show G E X 6 [(e, .inr (3, [.ref tp, .ref sd, .ref b1, .ref b2, .ref sh])), (p, .inr (7, [.ref te, .ref de, .int (nI p_2)])), (te, .inl (E.2.2.1 0, 8, .inl te_f)), (de, .inl (E.2.2.1 0, 8, .inl de_f)), (tp, .inr (2, [.ref tpa, .int tp_1])), (tpa, .inl (E.2.2.1 1, 6000, .inl (nb tpa_f)))] 0 0 [(0, .ref e), (1, .ref p), (2, .int l2), (3, .int l3)] 24 [.int zr_915]
      refine g_istore (lv' := [(4, .int zr_915), (0, .ref e), (1, .ref p), (2, .int l2), (3, .int l3)]) B dX3_readPlan_24 (by decide) rfl ?_
      refine g_aload_n B dX3_readPlan_26 rfl 1 rfl ?_
      refine g_get B 0 0 fl_X3_9 rfl rfl dX3_readPlan_27 ?_
      refine g_bipush (v := 6) B dX3_readPlan_30 (by decide) ?_
      refine g_iconst (v := 2) B dX3_readPlan_32 (by decide) ?_
      refine g_iload_n B dX3_readPlan_33 rfl 4 rfl ?_
      refine g_imul B dX3_readPlan_34 ?_
      refine g_iadd B dX3_readPlan_35 ?_
      refine g_iconst (v := 1) B dX3_readPlan_36 (by decide) ?_
      refine g_iadd B dX3_readPlan_37 ?_
      refine g_callV (st := []) (As := [.int ((6 + (2 * l3)) + 1)]) (wr := [(e, .inr (3, [.ref tp, .ref sd, .ref b1, .ref b2, .ref sh])), (p, .inr (7, [.ref te, .ref de, .int (nI p_2)])), (te, .inl (E.2.2.1 0, 8, .inl te_f)), (de, .inl (E.2.2.1 0, 8, .inl de_f))]) (nc' := 0) (ns' := 0) B cl_X3_59 w_im_X2_at w_se_X2_at (wk_X2_at E tp tpa 6000 tp_1 tpa_f ((6 + (2 * l3)) + 1) (by first | assumption | omega | decide)) rfl [4, 5] [0, 1, 2, 3] rfl rfl (by decide) (by decide) (by decide) 0 rfl (fun q h => by cases h; rfl) rfl ⟨by decide, by decide⟩ rfl rfl (by decide) (by decide) rfl (Nat.le_of_ble_eq_true rfl) dX3_readPlan_38 (fun v w hq => ?_)
      obtain ⟨zr_917, hz_918, rfl, rfl⟩ := hq
      replace e_ := fun β k_ => (e_ β k_).trans (hz_918 β _)
      show G E X 6 [(e, .inr (3, [.ref tp, .ref sd, .ref b1, .ref b2, .ref sh])), (p, .inr (7, [.ref te, .ref de, .int (nI p_2)])), (te, .inl (E.2.2.1 0, 8, .inl te_f)), (de, .inl (E.2.2.1 0, 8, .inl de_f)), (tp, .inr (2, [.ref tpa, .int tp_1])), (tpa, .inl (E.2.2.1 1, 6000, .inl (nb tpa_f)))] 0 0 [(4, .int zr_915), (0, .ref e), (1, .ref p), (2, .int l2), (3, .int l3)] 41 [.int zr_917]
      refine g_istore (lv' := [(5, .int zr_917), (4, .int zr_915), (0, .ref e), (1, .ref p), (2, .int l2), (3, .int l3)]) B dX3_readPlan_41 (by decide) rfl ?_
      refine g_aload_n B dX3_readPlan_43 rfl 3 rfl ?_
      refine g_iload B dX3_readPlan_44 1 rfl ?_
      refine g_bipush (v := 127) B dX3_readPlan_46 (by decide) ?_
      refine g_icmp_le (tgt := 60) B dX3_readPlan_48 (by decide) (fun c48_919 => ?_) (fun c48_919 => ?_)
      · replace e_ := fun β k_ => (e_ β k_).trans (if_pos c48_919)
        refine g_iload B dX3_readPlan_60 1 rfl ?_
        refine g_iload B dX3_readPlan_62 0 rfl ?_
        refine g_callV (st := []) (As := [.int zr_915, .int zr_917]) (wr := [(e, .inr (3, [.ref tp, .ref sd, .ref b1, .ref b2, .ref sh])), (tp, .inr (2, [.ref tpa, .int tp_1])), (tpa, .inl (E.2.2.1 1, 6000, .inl (nb tpa_f)))]) (nc' := 0) (ns' := 0) B cl_X3_95 w_im_X7_add w_se_X7_add (wk_X7_add E p te de p_2 te_f de_f zr_915 zr_917 (by first | assumption | omega | decide)) rfl [1, 2, 3] [0, 4, 5] rfl rfl (by decide) (by decide) (by decide) 0 rfl (fun q h => by cases h; rfl) rfl ⟨by decide, by decide⟩ rfl rfl (by decide) (by decide) rfl (Nat.le_of_ble_eq_true rfl) dX3_readPlan_64 (fun v w hq => ?_)
        obtain ⟨zp_2_920, zte_f_921, zde_f_922, zr_923, hf_924, hf_925, hz_926, rfl, rfl⟩ := hq
        replace e_ := fun β k_ => (e_ β k_).trans (hz_926 β _)
        show G E X 6 [(e, .inr (3, [.ref tp, .ref sd, .ref b1, .ref b2, .ref sh])), (tp, .inr (2, [.ref tpa, .int tp_1])), (tpa, .inl (E.2.2.1 1, 6000, .inl (nb tpa_f))), (p, .inr (7, [.ref te, .ref de, .int (nI zp_2_920)])), (te, .inl (E.2.2.1 0, 8, .inl zte_f_921)), (de, .inl (E.2.2.1 0, 8, .inl zde_f_922))] 0 0 [(5, .int zr_917), (4, .int zr_915), (0, .ref e), (1, .ref p), (2, .int l2), (3, .int l3)] 67 [.int zr_923]
        refine g_if_ne (tgt := 72) B dX3_readPlan_67 (by decide) (fun c67_927 => ?_) (fun c67_927 => ?_)
        · replace e_ := fun β k_ => (e_ β k_).trans (if_neg c67_927)
          refine g_iinc (v := (l3 + 1)) (lv' := [(3, .int (l3 + 1)), (5, .int zr_917), (4, .int zr_915), (0, .ref e), (1, .ref p), (2, .int l2)]) B dX3_readPlan_72 5 rfl rfl (by decide) rfl ?_
          refine g_goto (tgt := 6) B dX3_readPlan_75 (by decide) ?_
          refine g_lvsub (lv' := [(0, .ref e), (1, .ref p), (2, .int l2), (3, .int (l3 + 1))]) [3, 4, 5, 0] rfl ?_
          exact ih zp_2_920 zte_f_921 zde_f_922 l2 (l3 + 1) (by first | assumption | omega | decide)  (Nat.lt_of_lt_of_le (st_up (o_2 c8_914)) (Nat.le_of_lt_succ hm)) e_
        · replace e_ := fun β k_ => (e_ β k_).trans (if_pos c67_927)
          refine g_iconst (v := 0) B dX3_readPlan_70 (by decide) ?_
          exact g_zret B hr (by decide) dX3_readPlan_71 (by decide) (by decide) ⟨zp_2_920, zte_f_921, zde_f_922, 0, (Or.inl rfl), (by first | assumption | omega | decide), e_, rfl, rfl⟩
      · replace e_ := fun β k_ => (e_ β k_).trans (if_neg c48_919)
        refine g_iload B dX3_readPlan_51 1 rfl ?_
        refine g_sipush (v := 256) B dX3_readPlan_53 (by decide) ?_
        refine g_isub B dX3_readPlan_56 ?_
        refine g_goto (tgt := 62) B dX3_readPlan_57 (by decide) ?_
        refine g_iload B dX3_readPlan_62 0 rfl ?_
        refine g_callV (st := []) (As := [.int (zr_915 - 256), .int zr_917]) (wr := [(e, .inr (3, [.ref tp, .ref sd, .ref b1, .ref b2, .ref sh])), (tp, .inr (2, [.ref tpa, .int tp_1])), (tpa, .inl (E.2.2.1 1, 6000, .inl (nb tpa_f)))]) (nc' := 0) (ns' := 0) B cl_X3_95 w_im_X7_add w_se_X7_add (wk_X7_add E p te de p_2 te_f de_f (zr_915 - 256) zr_917 (by first | assumption | omega | decide)) rfl [1, 2, 3] [0, 4, 5] rfl rfl (by decide) (by decide) (by decide) 0 rfl (fun q h => by cases h; rfl) rfl ⟨by decide, by decide⟩ rfl rfl (by decide) (by decide) rfl (Nat.le_of_ble_eq_true rfl) dX3_readPlan_64 (fun v w hq => ?_)
        obtain ⟨zp_2_928, zte_f_929, zde_f_930, zr_931, hf_932, hf_933, hz_934, rfl, rfl⟩ := hq
        replace e_ := fun β k_ => (e_ β k_).trans (hz_934 β _)
        show G E X 6 [(e, .inr (3, [.ref tp, .ref sd, .ref b1, .ref b2, .ref sh])), (tp, .inr (2, [.ref tpa, .int tp_1])), (tpa, .inl (E.2.2.1 1, 6000, .inl (nb tpa_f))), (p, .inr (7, [.ref te, .ref de, .int (nI zp_2_928)])), (te, .inl (E.2.2.1 0, 8, .inl zte_f_929)), (de, .inl (E.2.2.1 0, 8, .inl zde_f_930))] 0 0 [(5, .int zr_917), (4, .int zr_915), (0, .ref e), (1, .ref p), (2, .int l2), (3, .int l3)] 67 [.int zr_931]
        refine g_if_ne (tgt := 72) B dX3_readPlan_67 (by decide) (fun c67_935 => ?_) (fun c67_935 => ?_)
        · replace e_ := fun β k_ => (e_ β k_).trans (if_neg c67_935)
          refine g_iinc (v := (l3 + 1)) (lv' := [(3, .int (l3 + 1)), (5, .int zr_917), (4, .int zr_915), (0, .ref e), (1, .ref p), (2, .int l2)]) B dX3_readPlan_72 5 rfl rfl (by decide) rfl ?_
          refine g_goto (tgt := 6) B dX3_readPlan_75 (by decide) ?_
          refine g_lvsub (lv' := [(0, .ref e), (1, .ref p), (2, .int l2), (3, .int (l3 + 1))]) [3, 4, 5, 0] rfl ?_
          exact ih zp_2_928 zte_f_929 zde_f_930 l2 (l3 + 1) (by first | assumption | omega | decide)  (Nat.lt_of_lt_of_le (st_up (o_2 c8_914)) (Nat.le_of_lt_succ hm)) e_
        · replace e_ := fun β k_ => (e_ β k_).trans (if_pos c67_935)
          refine g_iconst (v := 0) B dX3_readPlan_70 (by decide) ?_
          exact g_zret B hr (by decide) dX3_readPlan_71 (by decide) (by decide) ⟨zp_2_928, zte_f_929, zde_f_930, 0, (Or.inl rfl), (by first | assumption | omega | decide), e_, rfl, rfl⟩
theorem dX3_readPlan_78 : decode cX3_readPlan 78 = .ok (.iconst 1, 1) := by decide +kernel
theorem dX3_readPlan_79 : decode cX3_readPlan 79 = .ok (.ireturn, 1) := by decide +kernel
set_option maxRecDepth 100000 in
def fn_wk_X3_readPlan (tp_1 : Int32) (tpa_f : Nat → Int32) (te_f : Nat → Int32) (de_f : Nat → Int32) (pp : Int32) (β : Type) (k_ : Nat → (Nat → Int32) → (Nat → Int32) → Int32 → β) : β := (fn_wk_X7_clear β (fun zp_2_911 => (lf_wk_X3_readPlan_6 tp_1 tpa_f β (fun y_936p_2 y_936te_f y_936de_f y_936l2 y_936l3 => (k_ y_936p_2 y_936te_f y_936de_f 1)) k_ ((Int32.toInt pp - Int32.toInt 0).toNat + 1) zp_2_911 te_f de_f pp 0)))
set_option maxRecDepth 100000 in
theorem fn_wk_X3_readPlan_s {tp_1 : Int32} {tpa_f : Nat → Int32} {te_f : Nat → Int32} {de_f : Nat → Int32} {pp : Int32} {β : Type} {k_ : Nat → (Nat → Int32) → (Nat → Int32) → Int32 → β} : fn_wk_X3_readPlan tp_1 tpa_f te_f de_f pp β k_ = (fn_wk_X7_clear β (fun zp_2_911 => (lf_wk_X3_readPlan_6 tp_1 tpa_f β (fun y_936p_2 y_936te_f y_936de_f y_936l2 y_936l3 => (k_ y_936p_2 y_936te_f y_936de_f 1)) k_ ((Int32.toInt pp - Int32.toInt 0).toNat + 1) zp_2_911 te_f de_f pp 0))) := rfl
set_option maxRecDepth 100000 in
set_option maxHeartbeats 4000000 in
theorem wk_X3_readPlan (E : g_E) (e : Nat) (tp : Nat) (sd : Nat) (b1 : Nat) (b2 : Nat) (sh : Nat) (tpa : Nat) (p : Nat) (te : Nat) (de : Nat) (tp_1 : Int32) (tpa_f : Nat → Int32) (p_2 : Nat) (te_f : Nat → Int32) (de_f : Nat → Int32) (pp : Int32) (hp0 : p_2 ≤ 8) : Ev E MX3_readPlan 2 42 0 0 [.ref e, .ref p, .int pp] [(e, .inr (3, [.ref tp, .ref sd, .ref b1, .ref b2, .ref sh])), (tp, .inr (2, [.ref tpa, .int tp_1])), (tpa, .inl (E.2.2.1 1, 6000, .inl (nb tpa_f))), (p, .inr (7, [.ref te, .ref de, .int (nI p_2)])), (te, .inl (E.2.2.1 0, 8, .inl te_f)), (de, .inl (E.2.2.1 0, 8, .inl de_f))] (fun v_ w_ => ∃ zp_2 : Nat, ∃ zte_f : Nat → Int32, ∃ zde_f : Nat → Int32, ∃ zr : Int32, (zr = 0 ∨ zr = 1) ∧ (zp_2 ≤ 8) ∧ (∀ (β : Type) (k_ : Nat → (Nat → Int32) → (Nat → Int32) → Int32 → β), fn_wk_X3_readPlan tp_1 tpa_f te_f de_f pp β k_ = k_ zp_2 zte_f zde_f zr) ∧ v_ = some (.int zr) ∧ w_ = [(e, .inr (3, [.ref tp, .ref sd, .ref b1, .ref b2, .ref sh])), (tp, .inr (2, [.ref tpa, .int tp_1])), (tpa, .inl (E.2.2.1 1, 6000, .inl (nb tpa_f))), (p, .inr (7, [.ref te, .ref de, .int (nI zp_2)])), (te, .inl (E.2.2.1 0, 8, .inl zte_f)), (de, .inl (E.2.2.1 0, 8, .inl zde_f))]) := by
  refine Ev.intro (by decide) (Nat.le_of_ble_eq_true rfl) ?_
  intro X B hr hI
  have B : Bd E X cX3_readPlan RX3 6 2 42 0 0 := B
  have hr : Rt E X (some .boolean) 0 0 (fun v_ w_ => ∃ zp_2 : Nat, ∃ zte_f : Nat → Int32, ∃ zde_f : Nat → Int32, ∃ zr : Int32, (zr = 0 ∨ zr = 1) ∧ (zp_2 ≤ 8) ∧ (∀ (β : Type) (k_ : Nat → (Nat → Int32) → (Nat → Int32) → Int32 → β), fn_wk_X3_readPlan tp_1 tpa_f te_f de_f pp β k_ = k_ zp_2 zte_f zde_f zr) ∧ v_ = some (.int zr) ∧ w_ = [(e, .inr (3, [.ref tp, .ref sd, .ref b1, .ref b2, .ref sh])), (tp, .inr (2, [.ref tpa, .int tp_1])), (tpa, .inl (E.2.2.1 1, 6000, .inl (nb tpa_f))), (p, .inr (7, [.ref te, .ref de, .int (nI zp_2)])), (te, .inl (E.2.2.1 0, 8, .inl zte_f)), (de, .inl (E.2.2.1 0, 8, .inl zde_f))]) := hr
  have e_ := fun (β : Type) (k_ : Nat → (Nat → Int32) → (Nat → Int32) → Int32 → β) => fn_wk_X3_readPlan_s (β := β) (k_ := k_) (tp_1 := tp_1) (tpa_f := tpa_f) (te_f := te_f) (de_f := de_f) (pp := pp)
  show G E X 6 [(e, .inr (3, [.ref tp, .ref sd, .ref b1, .ref b2, .ref sh])), (tp, .inr (2, [.ref tpa, .int tp_1])), (tpa, .inl (E.2.2.1 1, 6000, .inl (nb tpa_f))), (p, .inr (7, [.ref te, .ref de, .int (nI p_2)])), (te, .inl (E.2.2.1 0, 8, .inl te_f)), (de, .inl (E.2.2.1 0, 8, .inl de_f))] 0 0 [(0, .ref e), (1, .ref p), (2, .int pp)] 0 []
  refine g_aload_n B dX3_readPlan_0 rfl 1 rfl ?_
  refine g_callV (st := []) (As := []) (wr := [(e, .inr (3, [.ref tp, .ref sd, .ref b1, .ref b2, .ref sh])), (tp, .inr (2, [.ref tpa, .int tp_1])), (tpa, .inl (E.2.2.1 1, 6000, .inl (nb tpa_f))), (te, .inl (E.2.2.1 0, 8, .inl te_f)), (de, .inl (E.2.2.1 0, 8, .inl de_f))]) (nc' := 0) (ns' := 0) B cl_X3_90 w_im_X7_clear w_se_X7_clear (wk_X7_clear E p te de p_2 (by first | assumption | omega | decide)) rfl [3] [0, 1, 2, 4, 5] rfl rfl (by decide) (by decide) (by decide) 0 rfl (fun q h => by cases h; rfl) rfl ⟨by decide, by decide⟩ rfl rfl (by decide) (by decide) rfl (Nat.le_of_ble_eq_true rfl) dX3_readPlan_1 (fun v w hq => ?_)
  obtain ⟨zp_2_911, hf_912, hz_913, rfl, rfl⟩ := hq
  replace e_ := fun β k_ => (e_ β k_).trans (hz_913 β _)
  show G E X 6 [(e, .inr (3, [.ref tp, .ref sd, .ref b1, .ref b2, .ref sh])), (tp, .inr (2, [.ref tpa, .int tp_1])), (tpa, .inl (E.2.2.1 1, 6000, .inl (nb tpa_f))), (te, .inl (E.2.2.1 0, 8, .inl te_f)), (de, .inl (E.2.2.1 0, 8, .inl de_f)), (p, .inr (7, [.ref te, .ref de, .int (nI zp_2_911)]))] 0 0 [(0, .ref e), (1, .ref p), (2, .int pp)] 4 []
  refine g_iconst (v := 0) B dX3_readPlan_4 (by decide) ?_
  refine g_istore_n (lv' := [(3, .int 0), (0, .ref e), (1, .ref p), (2, .int pp)]) B dX3_readPlan_5 rfl (by decide) rfl ?_
  refine g_sub (ws' := [(e, .inr (3, [.ref tp, .ref sd, .ref b1, .ref b2, .ref sh])), (tp, .inr (2, [.ref tpa, .int tp_1])), (tpa, .inl (E.2.2.1 1, 6000, .inl (nb tpa_f))), (p, .inr (7, [.ref te, .ref de, .int (nI zp_2_911)])), (te, .inl (E.2.2.1 0, 8, .inl te_f)), (de, .inl (E.2.2.1 0, 8, .inl de_f))]) [0, 1, 2, 5, 3, 4] (by decide) rfl ?_
  refine g_lvsub (lv' := [(0, .ref e), (1, .ref p), (2, .int pp), (3, .int 0)]) [1, 2, 3, 0] rfl ?_
  refine lp_wk_X3_readPlan_6 E e tp sd b1 b2 sh tpa p te de tp_1 tpa_f  _ B hr (fun y_936p_2 y_936te_f y_936de_f y_936l2 y_936l3 y_936h0 e_ => ?_) _ zp_2_911 te_f de_f pp 0 (by first | assumption | omega | decide)  (Nat.lt_succ_self _) e_
  refine g_iconst (v := 1) B dX3_readPlan_78 (by decide) ?_
  exact g_zret B hr (by decide) dX3_readPlan_79 (by decide) (by decide) ⟨y_936p_2, y_936te_f, y_936de_f, 1, (Or.inr rfl), (by first | assumption | omega | decide), e_, rfl, rfl⟩
abbrev MX3_readHead : g_M := (yX3_readHead, cX3_readHead, 11, (some .boolean))
theorem dX3_readHead_0 : decode cX3_readHead 0 = .ok (.aload_n 0, 1) := by decide +kernel
theorem dX3_readHead_1 : decode cX3_readHead 1 = .ok (.getfield 9, 3) := by decide +kernel
theorem dX3_readHead_4 : decode cX3_readHead 4 = .ok (.iconst 1, 1) := by decide +kernel
theorem dX3_readHead_5 : decode cX3_readHead 5 = .ok (.invokevirtual 59, 3) := by decide +kernel
theorem dX3_readHead_8 : decode cX3_readHead 8 = .ok (.istore_n 3, 1) := by decide +kernel
theorem dX3_readHead_9 : decode cX3_readHead 9 = .ok (.aload_n 0, 1) := by decide +kernel
theorem dX3_readHead_10 : decode cX3_readHead 10 = .ok (.getfield 9, 3) := by decide +kernel
theorem dX3_readHead_13 : decode cX3_readHead 13 = .ok (.iconst 2, 1) := by decide +kernel
theorem dX3_readHead_14 : decode cX3_readHead 14 = .ok (.invokevirtual 59, 3) := by decide +kernel
theorem dX3_readHead_17 : decode cX3_readHead 17 = .ok (.istore 4, 2) := by decide +kernel
theorem dX3_readHead_19 : decode cX3_readHead 19 = .ok (.aload_n 0, 1) := by decide +kernel
theorem dX3_readHead_20 : decode cX3_readHead 20 = .ok (.getfield 9, 3) := by decide +kernel
theorem dX3_readHead_23 : decode cX3_readHead 23 = .ok (.iconst 3, 1) := by decide +kernel
theorem dX3_readHead_24 : decode cX3_readHead 24 = .ok (.invokevirtual 59, 3) := by decide +kernel
theorem dX3_readHead_27 : decode cX3_readHead 27 = .ok (.bipush 8, 2) := by decide +kernel
theorem dX3_readHead_29 : decode cX3_readHead 29 = .ok (.ishl, 1) := by decide +kernel
theorem dX3_readHead_30 : decode cX3_readHead 30 = .ok (.aload_n 0, 1) := by decide +kernel
theorem dX3_readHead_31 : decode cX3_readHead 31 = .ok (.getfield 9, 3) := by decide +kernel
theorem dX3_readHead_34 : decode cX3_readHead 34 = .ok (.iconst 4, 1) := by decide +kernel
theorem dX3_readHead_35 : decode cX3_readHead 35 = .ok (.invokevirtual 59, 3) := by decide +kernel
theorem dX3_readHead_38 : decode cX3_readHead 38 = .ok (.ior, 1) := by decide +kernel
theorem dX3_readHead_39 : decode cX3_readHead 39 = .ok (.istore 5, 2) := by decide +kernel
theorem dX3_readHead_41 : decode cX3_readHead 41 = .ok (.aload_n 0, 1) := by decide +kernel
theorem dX3_readHead_42 : decode cX3_readHead 42 = .ok (.getfield 9, 3) := by decide +kernel
theorem dX3_readHead_45 : decode cX3_readHead 45 = .ok (.iconst 5, 1) := by decide +kernel
theorem dX3_readHead_46 : decode cX3_readHead 46 = .ok (.invokevirtual 59, 3) := by decide +kernel
theorem dX3_readHead_49 : decode cX3_readHead 49 = .ok (.istore 6, 2) := by decide +kernel
theorem dX3_readHead_51 : decode cX3_readHead 51 = .ok (.aload_n 0, 1) := by decide +kernel
theorem dX3_readHead_52 : decode cX3_readHead 52 = .ok (.getfield 9, 3) := by decide +kernel
theorem dX3_readHead_55 : decode cX3_readHead 55 = .ok (.iconst 0, 1) := by decide +kernel
theorem dX3_readHead_56 : decode cX3_readHead 56 = .ok (.invokevirtual 59, 3) := by decide +kernel
theorem dX3_readHead_59 : decode cX3_readHead 59 = .ok (.bipush 83, 2) := by decide +kernel
theorem dX3_readHead_61 : decode cX3_readHead 61 = .ok (.if_icmp .ne 38, 3) := by decide +kernel
theorem dX3_readHead_99 : decode cX3_readHead 99 = .ok (.iconst 0, 1) := by decide +kernel
theorem dX3_readHead_100 : decode cX3_readHead 100 = .ok (.ireturn, 1) := by decide +kernel
theorem dX3_readHead_64 : decode cX3_readHead 64 = .ok (.iload_n 3, 1) := by decide +kernel
theorem dX3_readHead_65 : decode cX3_readHead 65 = .ok (.invokestatic 62, 3) := by decide +kernel
theorem w_ml_X3_62 : Cond.methodLink RX3 62 yX3_areFlags ∈ g_tbl := g_tbl_in 761 (by decide +kernel) (by decide +kernel)
theorem w_cd_X3_areFlags : g_cw MX3_areFlags ∈ g_tbl := g_tbl_in 763 (by decide +kernel) (by decide +kernel)
theorem cl_X3_62 : CL RX3 62 1 MX3_areFlags := ⟨w_ml_X3_62, w_cd_X3_areFlags, w_ini_X3, by decide +kernel, by decide +kernel, by decide +kernel⟩
theorem w_sm_X3_areFlags : Cond.static yX3_areFlags ∈ g_tbl := g_tbl_in 762 (by decide +kernel) (by decide +kernel)
theorem dX3_readHead_68 : decode cX3_readHead 68 = .ok (.ifCond .eq 31, 3) := by decide +kernel
theorem dX3_readHead_71 : decode cX3_readHead 71 = .ok (.iload 4, 2) := by decide +kernel
theorem dX3_readHead_73 : decode cX3_readHead 73 = .ok (.bipush 23, 2) := by decide +kernel
theorem dX3_readHead_75 : decode cX3_readHead 75 = .ok (.if_icmp .gt 24, 3) := by decide +kernel
theorem dX3_readHead_78 : decode cX3_readHead 78 = .ok (.iload 5, 2) := by decide +kernel
theorem dX3_readHead_80 : decode cX3_readHead 80 = .ok (.iconst 1, 1) := by decide +kernel
theorem dX3_readHead_81 : decode cX3_readHead 81 = .ok (.if_icmp .lt 18, 3) := by decide +kernel
theorem dX3_readHead_84 : decode cX3_readHead 84 = .ok (.iload 5, 2) := by decide +kernel
theorem dX3_readHead_86 : decode cX3_readHead 86 = .ok (.sipush 600, 3) := by decide +kernel
theorem dX3_readHead_89 : decode cX3_readHead 89 = .ok (.if_icmp .gt 10, 3) := by decide +kernel
theorem dX3_readHead_92 : decode cX3_readHead 92 = .ok (.iload 6, 2) := by decide +kernel
theorem dX3_readHead_94 : decode cX3_readHead 94 = .ok (.bipush 8, 2) := by decide +kernel
theorem dX3_readHead_96 : decode cX3_readHead 96 = .ok (.if_icmp .le 5, 3) := by decide +kernel
theorem dX3_readHead_101 : decode cX3_readHead 101 = .ok (.iload_n 3, 1) := by decide +kernel
theorem dX3_readHead_102 : decode cX3_readHead 102 = .ok (.bipush 8, 2) := by decide +kernel
theorem dX3_readHead_104 : decode cX3_readHead 104 = .ok (.iand, 1) := by decide +kernel
theorem dX3_readHead_105 : decode cX3_readHead 105 = .ok (.ifCond .eq 7, 3) := by decide +kernel
theorem dX3_readHead_112 : decode cX3_readHead 112 = .ok (.iconst 0, 1) := by decide +kernel
theorem dX3_readHead_113 : decode cX3_readHead 113 = .ok (.istore 7, 2) := by decide +kernel
theorem dX3_readHead_115 : decode cX3_readHead 115 = .ok (.bipush 6, 2) := by decide +kernel
theorem dX3_readHead_117 : decode cX3_readHead 117 = .ok (.iconst 2, 1) := by decide +kernel
theorem dX3_readHead_118 : decode cX3_readHead 118 = .ok (.iload 6, 2) := by decide +kernel
theorem dX3_readHead_120 : decode cX3_readHead 120 = .ok (.imul, 1) := by decide +kernel
theorem dX3_readHead_121 : decode cX3_readHead 121 = .ok (.iadd, 1) := by decide +kernel
theorem dX3_readHead_122 : decode cX3_readHead 122 = .ok (.istore 8, 2) := by decide +kernel
theorem dX3_readHead_124 : decode cX3_readHead 124 = .ok (.iload 8, 2) := by decide +kernel
theorem dX3_readHead_126 : decode cX3_readHead 126 = .ok (.iload 7, 2) := by decide +kernel
theorem dX3_readHead_128 : decode cX3_readHead 128 = .ok (.ifCond .eq 7, 3) := by decide +kernel
theorem dX3_readHead_135 : decode cX3_readHead 135 = .ok (.iconst 0, 1) := by decide +kernel
theorem dX3_readHead_136 : decode cX3_readHead 136 = .ok (.iadd, 1) := by decide +kernel
theorem dX3_readHead_137 : decode cX3_readHead 137 = .ok (.istore 9, 2) := by decide +kernel
theorem dX3_readHead_139 : decode cX3_readHead 139 = .ok (.iload 9, 2) := by decide +kernel
theorem dX3_readHead_141 : decode cX3_readHead 141 = .ok (.iload_n 2, 1) := by decide +kernel
theorem dX3_readHead_142 : decode cX3_readHead 142 = .ok (.if_icmp .gt 19, 3) := by decide +kernel
theorem dX3_readHead_161 : decode cX3_readHead 161 = .ok (.iconst 0, 1) := by decide +kernel
theorem dX3_readHead_162 : decode cX3_readHead 162 = .ok (.ireturn, 1) := by decide +kernel
theorem dX3_readHead_145 : decode cX3_readHead 145 = .ok (.aload_n 0, 1) := by decide +kernel
theorem dX3_readHead_146 : decode cX3_readHead 146 = .ok (.aload_n 1, 1) := by decide +kernel
theorem dX3_readHead_147 : decode cX3_readHead 147 = .ok (.getfield 66, 3) := by decide +kernel
theorem w_fl_X3_66 : Cond.fieldLink RX3 66 (TX9 0).1 (TX9 0).2.1 (TX9 0).2.2.1 ∈ g_tbl := g_tbl_in 311 (by decide +kernel) (by decide +kernel)
theorem fl_X3_66 : FL RX3 66 9 0 := ⟨RX9, TX9, 12, rfl, by decide, inX_X9, w_fl_X3_66⟩
theorem dX3_readHead_150 : decode cX3_readHead 150 = .ok (.getfield 72, 3) := by decide +kernel
theorem w_fl_X3_72 : Cond.fieldLink RX3 72 (TX6 0).1 (TX6 0).2.1 (TX6 0).2.2.1 ∈ g_tbl := g_tbl_in 262 (by decide +kernel) (by decide +kernel)
theorem fl_X3_72 : FL RX3 72 6 0 := ⟨RX6, TX6, 8, rfl, by decide, inX_X6, w_fl_X3_72⟩
theorem dX3_readHead_153 : decode cX3_readHead 153 = .ok (.iload 6, 2) := by decide +kernel
theorem dX3_readHead_155 : decode cX3_readHead 155 = .ok (.invokevirtual 78, 3) := by decide +kernel
theorem w_ml_X3_78 : Cond.methodLink RX3 78 yX3_readPlan ∈ g_tbl := g_tbl_in 764 (by decide +kernel) (by decide +kernel)
theorem w_cd_X3_readPlan : g_cw MX3_readPlan ∈ g_tbl := g_tbl_in 767 (by decide +kernel) (by decide +kernel)
theorem cl_X3_78 : CL RX3 78 2 MX3_readPlan := ⟨w_ml_X3_78, w_cd_X3_readPlan, w_ini_X3, by decide +kernel, by decide +kernel, by decide +kernel⟩
theorem w_im_X3_readPlan : Cond.instanceMethod yX3_readPlan ∈ g_tbl := g_tbl_in 766 (by decide +kernel) (by decide +kernel)
theorem w_se_X3_readPlan : Cond.selects RX3 yX3_readPlan yX3_readPlan ∈ g_tbl := g_tbl_in 20 (by decide +kernel) (by decide +kernel)
theorem dX3_readHead_158 : decode cX3_readHead 158 = .ok (.ifCond .ne 5, 3) := by decide +kernel
theorem dX3_readHead_163 : decode cX3_readHead 163 = .ok (.iload 7, 2) := by decide +kernel
theorem dX3_readHead_165 : decode cX3_readHead 165 = .ok (.ifCond .eq 30, 3) := by decide +kernel
theorem dX3_readHead_195 : decode cX3_readHead 195 = .ok (.iconst 0, 1) := by decide +kernel
theorem dX3_readHead_196 : decode cX3_readHead 196 = .ok (.istore 10, 2) := by decide +kernel
theorem dX3_readHead_198 : decode cX3_readHead 198 = .ok (.aload_n 1, 1) := by decide +kernel
theorem dX3_readHead_199 : decode cX3_readHead 199 = .ok (.iload_n 3, 1) := by decide +kernel
theorem dX3_readHead_200 : decode cX3_readHead 200 = .ok (.iload 4, 2) := by decide +kernel
theorem dX3_readHead_202 : decode cX3_readHead 202 = .ok (.iload 5, 2) := by decide +kernel
theorem dX3_readHead_204 : decode cX3_readHead 204 = .ok (.iload 10, 2) := by decide +kernel
theorem dX3_readHead_206 : decode cX3_readHead 206 = .ok (.invokevirtual 82, 3) := by decide +kernel
theorem w_ml_X3_82 : Cond.methodLink RX3 82 yX9_begin ∈ g_tbl := g_tbl_in 770 (by decide +kernel) (by decide +kernel)
theorem w_cd_X9_begin : g_cw MX9_begin ∈ g_tbl := g_tbl_in 461 (by decide +kernel) (by decide +kernel)
theorem cl_X3_82 : CL RX3 82 4 MX9_begin := ⟨w_ml_X3_82, w_cd_X9_begin, w_ini_X9, by decide +kernel, by decide +kernel, by decide +kernel⟩
theorem w_im_X9_begin : Cond.instanceMethod yX9_begin ∈ g_tbl := g_tbl_in 459 (by decide +kernel) (by decide +kernel)
theorem w_se_X9_begin : Cond.selects RX9 yX9_begin yX9_begin ∈ g_tbl := g_tbl_in 460 (by decide +kernel) (by decide +kernel)
theorem dX3_readHead_209 : decode cX3_readHead 209 = .ok (.aload_n 0, 1) := by decide +kernel
theorem dX3_readHead_210 : decode cX3_readHead 210 = .ok (.getfield 27, 3) := by decide +kernel
theorem dX3_readHead_213 : decode cX3_readHead 213 = .ok (.iload 9, 2) := by decide +kernel
theorem dX3_readHead_215 : decode cX3_readHead 215 = .ok (.iload_n 2, 1) := by decide +kernel
theorem dX3_readHead_216 : decode cX3_readHead 216 = .ok (.invokevirtual 86, 3) := by decide +kernel
theorem w_ml_X3_86 : Cond.methodLink RX3 86 yX0_start ∈ g_tbl := g_tbl_in 771 (by decide +kernel) (by decide +kernel)
theorem w_cd_X0_start : g_cw MX0_start ∈ g_tbl := g_tbl_in 774 (by decide +kernel) (by decide +kernel)
theorem cl_X3_86 : CL RX3 86 2 MX0_start := ⟨w_ml_X3_86, w_cd_X0_start, w_ini_X0, by decide +kernel, by decide +kernel, by decide +kernel⟩
theorem w_im_X0_start : Cond.instanceMethod yX0_start ∈ g_tbl := g_tbl_in 772 (by decide +kernel) (by decide +kernel)
theorem w_se_X0_start : Cond.selects RX0 yX0_start yX0_start ∈ g_tbl := g_tbl_in 773 (by decide +kernel) (by decide +kernel)
theorem dX3_readHead_219 : decode cX3_readHead 219 = .ok (.iload 7, 2) := by decide +kernel
theorem dX3_readHead_221 : decode cX3_readHead 221 = .ok (.ifCond .eq 8, 3) := by decide +kernel
theorem dX3_readHead_229 : decode cX3_readHead 229 = .ok (.iconst 1, 1) := by decide +kernel
theorem dX3_readHead_230 : decode cX3_readHead 230 = .ok (.goto 4, 3) := by decide +kernel
theorem dX3_readHead_234 : decode cX3_readHead 234 = .ok (.ireturn, 1) := by decide +kernel
theorem dX3_readHead_108 : decode cX3_readHead 108 = .ok (.iconst 1, 1) := by decide +kernel
theorem dX3_readHead_109 : decode cX3_readHead 109 = .ok (.goto 4, 3) := by decide +kernel
theorem dX3_readHead_131 : decode cX3_readHead 131 = .ok (.iconst 2, 1) := by decide +kernel
theorem dX3_readHead_132 : decode cX3_readHead 132 = .ok (.goto 4, 3) := by decide +kernel
theorem dX3_readHead_168 : decode cX3_readHead 168 = .ok (.aload_n 0, 1) := by decide +kernel
theorem dX3_readHead_169 : decode cX3_readHead 169 = .ok (.getfield 9, 3) := by decide +kernel
theorem dX3_readHead_172 : decode cX3_readHead 172 = .ok (.iload 8, 2) := by decide +kernel
theorem dX3_readHead_174 : decode cX3_readHead 174 = .ok (.invokevirtual 59, 3) := by decide +kernel
theorem dX3_readHead_177 : decode cX3_readHead 177 = .ok (.bipush 8, 2) := by decide +kernel
theorem dX3_readHead_179 : decode cX3_readHead 179 = .ok (.ishl, 1) := by decide +kernel
theorem dX3_readHead_180 : decode cX3_readHead 180 = .ok (.aload_n 0, 1) := by decide +kernel
theorem dX3_readHead_181 : decode cX3_readHead 181 = .ok (.getfield 9, 3) := by decide +kernel
theorem dX3_readHead_184 : decode cX3_readHead 184 = .ok (.iload 8, 2) := by decide +kernel
theorem dX3_readHead_186 : decode cX3_readHead 186 = .ok (.iconst 1, 1) := by decide +kernel
theorem dX3_readHead_187 : decode cX3_readHead 187 = .ok (.iadd, 1) := by decide +kernel
theorem dX3_readHead_188 : decode cX3_readHead 188 = .ok (.invokevirtual 59, 3) := by decide +kernel
theorem dX3_readHead_191 : decode cX3_readHead 191 = .ok (.ior, 1) := by decide +kernel
theorem dX3_readHead_192 : decode cX3_readHead 192 = .ok (.goto 4, 3) := by decide +kernel
theorem dX3_readHead_224 : decode cX3_readHead 224 = .ok (.iload 10, 2) := by decide +kernel
theorem dX3_readHead_226 : decode cX3_readHead 226 = .ok (.ifCond .le 7, 3) := by decide +kernel
theorem dX3_readHead_233 : decode cX3_readHead 233 = .ok (.iconst 0, 1) := by decide +kernel
set_option maxRecDepth 100000 in
def fn_wk_X3_readHead (tp_1 : Int32) (tpa_f : Nat → Int32) (b1_1 : Int32) (b1_2 : Int32) (b1_3 : Int32) (w_2 : Nat) (w_3 : Nat) (w_4 : Nat) (w_5 : Int32) (w_6 : Int32) (w_7 : Int32) (w_8 : Int32) (w_9 : Int32) (w_10 : Int32) (w_11 : Int32) (ps_5 : Int32) (p_2 : Nat) (te_f : Nat → Int32) (de_f : Nat → Int32) (we_f : Nat → Int32) (inp_f : Nat → Int32) (md_1 : Int64) (md_2 : Int64) (mi_f : Nat → Int64) (to_ : Int32) (β : Type) (k_ : Int32 → Int32 → Int32 → Nat → Nat → Nat → Int32 → Int32 → Int32 → Int32 → Int32 → Int32 → Int32 → Int32 → Nat → (Nat → Int32) → (Nat → Int32) → (Nat → Int32) → (Nat → Int32) → Int64 → Int64 → (Nat → Int64) → Int32 → β) : β := (fn_wk_X2_at 6000 tp_1 tpa_f 1 β (fun zr_937 => (fn_wk_X2_at 6000 tp_1 tpa_f 2 β (fun zr_939 => (fn_wk_X2_at 6000 tp_1 tpa_f 3 β (fun zr_941 => (fn_wk_X2_at 6000 tp_1 tpa_f 4 β (fun zr_943 => (fnL ((zr_941 <<< (8 &&& 31)) ||| zr_943) (fun x_945 => (fn_wk_X2_at 6000 tp_1 tpa_f 5 β (fun zr_946 => (fn_wk_X2_at 6000 tp_1 tpa_f 0 β (fun zr_948 => (if zr_948 = 83 then (fn_wk_X3_areFlags zr_937 β (fun zr_951 => (if zr_951 = 0 then (k_ b1_1 b1_2 b1_3 w_2 w_3 w_4 w_5 w_6 w_7 w_8 w_9 w_10 w_11 ps_5 p_2 te_f de_f we_f inp_f md_1 md_2 mi_f 0) else (if 23 < zr_939 then (k_ b1_1 b1_2 b1_3 w_2 w_3 w_4 w_5 w_6 w_7 w_8 w_9 w_10 w_11 ps_5 p_2 te_f de_f we_f inp_f md_1 md_2 mi_f 0) else (if x_945 < 1 then (k_ b1_1 b1_2 b1_3 w_2 w_3 w_4 w_5 w_6 w_7 w_8 w_9 w_10 w_11 ps_5 p_2 te_f de_f we_f inp_f md_1 md_2 mi_f 0) else (if 600 < x_945 then (k_ b1_1 b1_2 b1_3 w_2 w_3 w_4 w_5 w_6 w_7 w_8 w_9 w_10 w_11 ps_5 p_2 te_f de_f we_f inp_f md_1 md_2 mi_f 0) else (if zr_946 ≤ 8 then (if (zr_937 &&& 8) = 0 then (if to_ < ((6 + (2 * zr_946)) + 0) then (k_ b1_1 b1_2 b1_3 w_2 w_3 w_4 w_5 w_6 w_7 w_8 w_9 w_10 w_11 ps_5 p_2 te_f de_f we_f inp_f md_1 md_2 mi_f 0) else (fn_wk_X3_readPlan tp_1 tpa_f te_f de_f zr_946 β (fun zp_2_961 zte_f_962 zde_f_963 zr_964 => (if zr_964 = 0 then (k_ b1_1 b1_2 b1_3 w_2 w_3 w_4 w_5 w_6 w_7 w_8 w_9 w_10 w_11 ps_5 zp_2_961 zte_f_962 zde_f_963 we_f inp_f md_1 md_2 mi_f 0) else (fnL (Int32.toNatClampNeg x_945) (fun nf_969 => (fn_wk_X9_begin nf_969 we_f inp_f mi_f zr_937 zr_939 0 β (fun zw_2_970 zw_3_971 zw_4_972 zw_5_973 zw_6_974 zw_7_975 zw_8_976 zw_9_977 zw_10_978 zw_11_979 zps_5_980 zwe_f_981 zinp_f_982 zmd_1_983 zmd_2_984 zmi_f_985 => (fn_wk_X0_start ((6 + (2 * zr_946)) + 0) to_ β (fun zb_1_990 zb_2_991 zb_3_992 => (k_ zb_1_990 zb_2_991 zb_3_992 zw_2_970 zw_3_971 zw_4_972 zw_5_973 zw_6_974 zw_7_975 zw_8_976 zw_9_977 zw_10_978 zw_11_979 zps_5_980 zp_2_961 zte_f_962 zde_f_963 zwe_f_981 zinp_f_982 zmd_1_983 zmd_2_984 zmi_f_985 1))))))))))) else (if to_ < ((6 + (2 * zr_946)) + 2) then (k_ b1_1 b1_2 b1_3 w_2 w_3 w_4 w_5 w_6 w_7 w_8 w_9 w_10 w_11 ps_5 p_2 te_f de_f we_f inp_f md_1 md_2 mi_f 0) else (fn_wk_X3_readPlan tp_1 tpa_f te_f de_f zr_946 β (fun zp_2_995 zte_f_996 zde_f_997 zr_998 => (if zr_998 = 0 then (k_ b1_1 b1_2 b1_3 w_2 w_3 w_4 w_5 w_6 w_7 w_8 w_9 w_10 w_11 ps_5 zp_2_995 zte_f_996 zde_f_997 we_f inp_f md_1 md_2 mi_f 0) else (fn_wk_X2_at 6000 tp_1 tpa_f (6 + (2 * zr_946)) β (fun zr_1003 => (fn_wk_X2_at 6000 tp_1 tpa_f ((6 + (2 * zr_946)) + 1) β (fun zr_1005 => (fnL ((zr_1003 <<< (8 &&& 31)) ||| zr_1005) (fun x_1007 => (fnL (Int32.toNatClampNeg x_945) (fun nf_1008 => (fn_wk_X9_begin nf_1008 we_f inp_f mi_f zr_937 zr_939 x_1007 β (fun zw_2_1009 zw_3_1010 zw_4_1011 zw_5_1012 zw_6_1013 zw_7_1014 zw_8_1015 zw_9_1016 zw_10_1017 zw_11_1018 zps_5_1019 zwe_f_1020 zinp_f_1021 zmd_1_1022 zmd_2_1023 zmi_f_1024 => (fn_wk_X0_start ((6 + (2 * zr_946)) + 2) to_ β (fun zb_1_1029 zb_2_1030 zb_3_1031 => (if x_1007 ≤ 0 then (k_ zb_1_1029 zb_2_1030 zb_3_1031 zw_2_1009 zw_3_1010 zw_4_1011 zw_5_1012 zw_6_1013 zw_7_1014 zw_8_1015 zw_9_1016 zw_10_1017 zw_11_1018 zps_5_1019 zp_2_995 zte_f_996 zde_f_997 zwe_f_1020 zinp_f_1021 zmd_1_1022 zmd_2_1023 zmi_f_1024 0) else (k_ zb_1_1029 zb_2_1030 zb_3_1031 zw_2_1009 zw_3_1010 zw_4_1011 zw_5_1012 zw_6_1013 zw_7_1014 zw_8_1015 zw_9_1016 zw_10_1017 zw_11_1018 zps_5_1019 zp_2_995 zte_f_996 zde_f_997 zwe_f_1020 zinp_f_1021 zmd_1_1022 zmd_2_1023 zmi_f_1024 1))))))))))))))))))) else (k_ b1_1 b1_2 b1_3 w_2 w_3 w_4 w_5 w_6 w_7 w_8 w_9 w_10 w_11 ps_5 p_2 te_f de_f we_f inp_f md_1 md_2 mi_f 0)))))))) else (k_ b1_1 b1_2 b1_3 w_2 w_3 w_4 w_5 w_6 w_7 w_8 w_9 w_10 w_11 ps_5 p_2 te_f de_f we_f inp_f md_1 md_2 mi_f 0))))))))))))))))
set_option maxRecDepth 100000 in
theorem fn_wk_X3_readHead_s {tp_1 : Int32} {tpa_f : Nat → Int32} {b1_1 : Int32} {b1_2 : Int32} {b1_3 : Int32} {w_2 : Nat} {w_3 : Nat} {w_4 : Nat} {w_5 : Int32} {w_6 : Int32} {w_7 : Int32} {w_8 : Int32} {w_9 : Int32} {w_10 : Int32} {w_11 : Int32} {ps_5 : Int32} {p_2 : Nat} {te_f : Nat → Int32} {de_f : Nat → Int32} {we_f : Nat → Int32} {inp_f : Nat → Int32} {md_1 : Int64} {md_2 : Int64} {mi_f : Nat → Int64} {to_ : Int32} {β : Type} {k_ : Int32 → Int32 → Int32 → Nat → Nat → Nat → Int32 → Int32 → Int32 → Int32 → Int32 → Int32 → Int32 → Int32 → Nat → (Nat → Int32) → (Nat → Int32) → (Nat → Int32) → (Nat → Int32) → Int64 → Int64 → (Nat → Int64) → Int32 → β} : fn_wk_X3_readHead tp_1 tpa_f b1_1 b1_2 b1_3 w_2 w_3 w_4 w_5 w_6 w_7 w_8 w_9 w_10 w_11 ps_5 p_2 te_f de_f we_f inp_f md_1 md_2 mi_f to_ β k_ = (fn_wk_X2_at 6000 tp_1 tpa_f 1 β (fun zr_937 => (fn_wk_X2_at 6000 tp_1 tpa_f 2 β (fun zr_939 => (fn_wk_X2_at 6000 tp_1 tpa_f 3 β (fun zr_941 => (fn_wk_X2_at 6000 tp_1 tpa_f 4 β (fun zr_943 => (fnL ((zr_941 <<< (8 &&& 31)) ||| zr_943) (fun x_945 => (fn_wk_X2_at 6000 tp_1 tpa_f 5 β (fun zr_946 => (fn_wk_X2_at 6000 tp_1 tpa_f 0 β (fun zr_948 => (if zr_948 = 83 then (fn_wk_X3_areFlags zr_937 β (fun zr_951 => (if zr_951 = 0 then (k_ b1_1 b1_2 b1_3 w_2 w_3 w_4 w_5 w_6 w_7 w_8 w_9 w_10 w_11 ps_5 p_2 te_f de_f we_f inp_f md_1 md_2 mi_f 0) else (if 23 < zr_939 then (k_ b1_1 b1_2 b1_3 w_2 w_3 w_4 w_5 w_6 w_7 w_8 w_9 w_10 w_11 ps_5 p_2 te_f de_f we_f inp_f md_1 md_2 mi_f 0) else (if x_945 < 1 then (k_ b1_1 b1_2 b1_3 w_2 w_3 w_4 w_5 w_6 w_7 w_8 w_9 w_10 w_11 ps_5 p_2 te_f de_f we_f inp_f md_1 md_2 mi_f 0) else (if 600 < x_945 then (k_ b1_1 b1_2 b1_3 w_2 w_3 w_4 w_5 w_6 w_7 w_8 w_9 w_10 w_11 ps_5 p_2 te_f de_f we_f inp_f md_1 md_2 mi_f 0) else (if zr_946 ≤ 8 then (if (zr_937 &&& 8) = 0 then (if to_ < ((6 + (2 * zr_946)) + 0) then (k_ b1_1 b1_2 b1_3 w_2 w_3 w_4 w_5 w_6 w_7 w_8 w_9 w_10 w_11 ps_5 p_2 te_f de_f we_f inp_f md_1 md_2 mi_f 0) else (fn_wk_X3_readPlan tp_1 tpa_f te_f de_f zr_946 β (fun zp_2_961 zte_f_962 zde_f_963 zr_964 => (if zr_964 = 0 then (k_ b1_1 b1_2 b1_3 w_2 w_3 w_4 w_5 w_6 w_7 w_8 w_9 w_10 w_11 ps_5 zp_2_961 zte_f_962 zde_f_963 we_f inp_f md_1 md_2 mi_f 0) else (fnL (Int32.toNatClampNeg x_945) (fun nf_969 => (fn_wk_X9_begin nf_969 we_f inp_f mi_f zr_937 zr_939 0 β (fun zw_2_970 zw_3_971 zw_4_972 zw_5_973 zw_6_974 zw_7_975 zw_8_976 zw_9_977 zw_10_978 zw_11_979 zps_5_980 zwe_f_981 zinp_f_982 zmd_1_983 zmd_2_984 zmi_f_985 => (fn_wk_X0_start ((6 + (2 * zr_946)) + 0) to_ β (fun zb_1_990 zb_2_991 zb_3_992 => (k_ zb_1_990 zb_2_991 zb_3_992 zw_2_970 zw_3_971 zw_4_972 zw_5_973 zw_6_974 zw_7_975 zw_8_976 zw_9_977 zw_10_978 zw_11_979 zps_5_980 zp_2_961 zte_f_962 zde_f_963 zwe_f_981 zinp_f_982 zmd_1_983 zmd_2_984 zmi_f_985 1))))))))))) else (if to_ < ((6 + (2 * zr_946)) + 2) then (k_ b1_1 b1_2 b1_3 w_2 w_3 w_4 w_5 w_6 w_7 w_8 w_9 w_10 w_11 ps_5 p_2 te_f de_f we_f inp_f md_1 md_2 mi_f 0) else (fn_wk_X3_readPlan tp_1 tpa_f te_f de_f zr_946 β (fun zp_2_995 zte_f_996 zde_f_997 zr_998 => (if zr_998 = 0 then (k_ b1_1 b1_2 b1_3 w_2 w_3 w_4 w_5 w_6 w_7 w_8 w_9 w_10 w_11 ps_5 zp_2_995 zte_f_996 zde_f_997 we_f inp_f md_1 md_2 mi_f 0) else (fn_wk_X2_at 6000 tp_1 tpa_f (6 + (2 * zr_946)) β (fun zr_1003 => (fn_wk_X2_at 6000 tp_1 tpa_f ((6 + (2 * zr_946)) + 1) β (fun zr_1005 => (fnL ((zr_1003 <<< (8 &&& 31)) ||| zr_1005) (fun x_1007 => (fnL (Int32.toNatClampNeg x_945) (fun nf_1008 => (fn_wk_X9_begin nf_1008 we_f inp_f mi_f zr_937 zr_939 x_1007 β (fun zw_2_1009 zw_3_1010 zw_4_1011 zw_5_1012 zw_6_1013 zw_7_1014 zw_8_1015 zw_9_1016 zw_10_1017 zw_11_1018 zps_5_1019 zwe_f_1020 zinp_f_1021 zmd_1_1022 zmd_2_1023 zmi_f_1024 => (fn_wk_X0_start ((6 + (2 * zr_946)) + 2) to_ β (fun zb_1_1029 zb_2_1030 zb_3_1031 => (if x_1007 ≤ 0 then (k_ zb_1_1029 zb_2_1030 zb_3_1031 zw_2_1009 zw_3_1010 zw_4_1011 zw_5_1012 zw_6_1013 zw_7_1014 zw_8_1015 zw_9_1016 zw_10_1017 zw_11_1018 zps_5_1019 zp_2_995 zte_f_996 zde_f_997 zwe_f_1020 zinp_f_1021 zmd_1_1022 zmd_2_1023 zmi_f_1024 0) else (k_ zb_1_1029 zb_2_1030 zb_3_1031 zw_2_1009 zw_3_1010 zw_4_1011 zw_5_1012 zw_6_1013 zw_7_1014 zw_8_1015 zw_9_1016 zw_10_1017 zw_11_1018 zps_5_1019 zp_2_995 zte_f_996 zde_f_997 zwe_f_1020 zinp_f_1021 zmd_1_1022 zmd_2_1023 zmi_f_1024 1))))))))))))))))))) else (k_ b1_1 b1_2 b1_3 w_2 w_3 w_4 w_5 w_6 w_7 w_8 w_9 w_10 w_11 ps_5 p_2 te_f de_f we_f inp_f md_1 md_2 mi_f 0)))))))) else (k_ b1_1 b1_2 b1_3 w_2 w_3 w_4 w_5 w_6 w_7 w_8 w_9 w_10 w_11 ps_5 p_2 te_f de_f we_f inp_f md_1 md_2 mi_f 0)))))))))))))))) := rfl
set_option maxRecDepth 100000 in
set_option maxHeartbeats 4000000 in
theorem wk_X3_readHead (E : g_E) (e : Nat) (tp : Nat) (sd : Nat) (b1 : Nat) (b2 : Nat) (sh : Nat) (tpa : Nat) (w : Nat) (ps : Nat) (md : Nat) (p : Nat) (we : Nat) (inp : Nat) (ba : Nat) (gu : Nat) (te : Nat) (de : Nat) (mi : Nat) (tp_1 : Int32) (tpa_f : Nat → Int32) (ps_6 : Int32) (ps_7 : Int32) (b1_1 : Int32) (b1_2 : Int32) (b1_3 : Int32) (w_2 : Nat) (w_3 : Nat) (w_4 : Nat) (w_5 : Int32) (w_6 : Int32) (w_7 : Int32) (w_8 : Int32) (w_9 : Int32) (w_10 : Int32) (w_11 : Int32) (ps_5 : Int32) (p_2 : Nat) (te_f : Nat → Int32) (de_f : Nat → Int32) (we_f : Nat → Int32) (inp_f : Nat → Int32) (md_1 : Int64) (md_2 : Int64) (mi_f : Nat → Int64) (to_ : Int32) (hp0 : w_2 ≤ 2) (hp1 : w_3 ≤ 2) (hp2 : w_4 ≤ 600) (hp3 : p_2 ≤ 8) : Ev E MX3_readHead 3 68 0 0 [.ref e, .ref w, .int to_] [(e, .inr (3, [.ref tp, .ref sd, .ref b1, .ref b2, .ref sh])), (tp, .inr (2, [.ref tpa, .int tp_1])), (tpa, .inl (E.2.2.1 1, 6000, .inl (nb tpa_f))), (b1, .inr (0, [.ref tp, .int b1_1, .int b1_2, .int b1_3])), (w, .inr (9, [.ref ps, .ref md, .int (nI w_2), .int (nI w_3), .int (nI w_4), .int w_5, .int w_6, .int w_7, .int w_8, .int w_9, .int w_10, .int w_11])), (ps, .inr (6, [.ref p, .ref we, .ref inp, .ref ba, .ref gu, .int ps_5, .int ps_6, .int ps_7])), (p, .inr (7, [.ref te, .ref de, .int (nI p_2)])), (te, .inl (E.2.2.1 0, 8, .inl te_f)), (de, .inl (E.2.2.1 0, 8, .inl de_f)), (we, .inl (E.2.2.1 0, 16, .inl we_f)), (inp, .inl (E.2.2.1 0, 128, .inl inp_f)), (md, .inr (5, [.ref mi, .long md_1, .long md_2])), (mi, .inl (E.2.2.1 3, 6, .inr (.inl mi_f)))] (fun v_ w_ => ∃ zb1_1 : Int32, ∃ zb1_2 : Int32, ∃ zb1_3 : Int32, ∃ zw_2 : Nat, ∃ zw_3 : Nat, ∃ zw_4 : Nat, ∃ zw_5 : Int32, ∃ zw_6 : Int32, ∃ zw_7 : Int32, ∃ zw_8 : Int32, ∃ zw_9 : Int32, ∃ zw_10 : Int32, ∃ zw_11 : Int32, ∃ zps_5 : Int32, ∃ zp_2 : Nat, ∃ zte_f : Nat → Int32, ∃ zde_f : Nat → Int32, ∃ zwe_f : Nat → Int32, ∃ zinp_f : Nat → Int32, ∃ zmd_1 : Int64, ∃ zmd_2 : Int64, ∃ zmi_f : Nat → Int64, ∃ zr : Int32, (zr = 0 ∨ zr = 1) ∧ (zw_2 ≤ 2) ∧ (zw_3 ≤ 2) ∧ (zw_4 ≤ 600) ∧ (zp_2 ≤ 8) ∧ (∀ (β : Type) (k_ : Int32 → Int32 → Int32 → Nat → Nat → Nat → Int32 → Int32 → Int32 → Int32 → Int32 → Int32 → Int32 → Int32 → Nat → (Nat → Int32) → (Nat → Int32) → (Nat → Int32) → (Nat → Int32) → Int64 → Int64 → (Nat → Int64) → Int32 → β), fn_wk_X3_readHead tp_1 tpa_f b1_1 b1_2 b1_3 w_2 w_3 w_4 w_5 w_6 w_7 w_8 w_9 w_10 w_11 ps_5 p_2 te_f de_f we_f inp_f md_1 md_2 mi_f to_ β k_ = k_ zb1_1 zb1_2 zb1_3 zw_2 zw_3 zw_4 zw_5 zw_6 zw_7 zw_8 zw_9 zw_10 zw_11 zps_5 zp_2 zte_f zde_f zwe_f zinp_f zmd_1 zmd_2 zmi_f zr) ∧ v_ = some (.int zr) ∧ w_ = [(e, .inr (3, [.ref tp, .ref sd, .ref b1, .ref b2, .ref sh])), (tp, .inr (2, [.ref tpa, .int tp_1])), (tpa, .inl (E.2.2.1 1, 6000, .inl (nb tpa_f))), (b1, .inr (0, [.ref tp, .int zb1_1, .int zb1_2, .int zb1_3])), (w, .inr (9, [.ref ps, .ref md, .int (nI zw_2), .int (nI zw_3), .int (nI zw_4), .int zw_5, .int zw_6, .int zw_7, .int zw_8, .int zw_9, .int zw_10, .int zw_11])), (ps, .inr (6, [.ref p, .ref we, .ref inp, .ref ba, .ref gu, .int zps_5, .int ps_6, .int ps_7])), (p, .inr (7, [.ref te, .ref de, .int (nI zp_2)])), (te, .inl (E.2.2.1 0, 8, .inl zte_f)), (de, .inl (E.2.2.1 0, 8, .inl zde_f)), (we, .inl (E.2.2.1 0, 16, .inl zwe_f)), (inp, .inl (E.2.2.1 0, 128, .inl zinp_f)), (md, .inr (5, [.ref mi, .long zmd_1, .long zmd_2])), (mi, .inl (E.2.2.1 3, 6, .inr (.inl zmi_f)))]) := by
  refine Ev.intro (by decide) (Nat.le_of_ble_eq_true rfl) ?_
  intro X B hr hI
  have B : Bd E X cX3_readHead RX3 11 3 68 0 0 := B
  have hr : Rt E X (some .boolean) 0 0 (fun v_ w_ => ∃ zb1_1 : Int32, ∃ zb1_2 : Int32, ∃ zb1_3 : Int32, ∃ zw_2 : Nat, ∃ zw_3 : Nat, ∃ zw_4 : Nat, ∃ zw_5 : Int32, ∃ zw_6 : Int32, ∃ zw_7 : Int32, ∃ zw_8 : Int32, ∃ zw_9 : Int32, ∃ zw_10 : Int32, ∃ zw_11 : Int32, ∃ zps_5 : Int32, ∃ zp_2 : Nat, ∃ zte_f : Nat → Int32, ∃ zde_f : Nat → Int32, ∃ zwe_f : Nat → Int32, ∃ zinp_f : Nat → Int32, ∃ zmd_1 : Int64, ∃ zmd_2 : Int64, ∃ zmi_f : Nat → Int64, ∃ zr : Int32, (zr = 0 ∨ zr = 1) ∧ (zw_2 ≤ 2) ∧ (zw_3 ≤ 2) ∧ (zw_4 ≤ 600) ∧ (zp_2 ≤ 8) ∧ (∀ (β : Type) (k_ : Int32 → Int32 → Int32 → Nat → Nat → Nat → Int32 → Int32 → Int32 → Int32 → Int32 → Int32 → Int32 → Int32 → Nat → (Nat → Int32) → (Nat → Int32) → (Nat → Int32) → (Nat → Int32) → Int64 → Int64 → (Nat → Int64) → Int32 → β), fn_wk_X3_readHead tp_1 tpa_f b1_1 b1_2 b1_3 w_2 w_3 w_4 w_5 w_6 w_7 w_8 w_9 w_10 w_11 ps_5 p_2 te_f de_f we_f inp_f md_1 md_2 mi_f to_ β k_ = k_ zb1_1 zb1_2 zb1_3 zw_2 zw_3 zw_4 zw_5 zw_6 zw_7 zw_8 zw_9 zw_10 zw_11 zps_5 zp_2 zte_f zde_f zwe_f zinp_f zmd_1 zmd_2 zmi_f zr) ∧ v_ = some (.int zr) ∧ w_ = [(e, .inr (3, [.ref tp, .ref sd, .ref b1, .ref b2, .ref sh])), (tp, .inr (2, [.ref tpa, .int tp_1])), (tpa, .inl (E.2.2.1 1, 6000, .inl (nb tpa_f))), (b1, .inr (0, [.ref tp, .int zb1_1, .int zb1_2, .int zb1_3])), (w, .inr (9, [.ref ps, .ref md, .int (nI zw_2), .int (nI zw_3), .int (nI zw_4), .int zw_5, .int zw_6, .int zw_7, .int zw_8, .int zw_9, .int zw_10, .int zw_11])), (ps, .inr (6, [.ref p, .ref we, .ref inp, .ref ba, .ref gu, .int zps_5, .int ps_6, .int ps_7])), (p, .inr (7, [.ref te, .ref de, .int (nI zp_2)])), (te, .inl (E.2.2.1 0, 8, .inl zte_f)), (de, .inl (E.2.2.1 0, 8, .inl zde_f)), (we, .inl (E.2.2.1 0, 16, .inl zwe_f)), (inp, .inl (E.2.2.1 0, 128, .inl zinp_f)), (md, .inr (5, [.ref mi, .long zmd_1, .long zmd_2])), (mi, .inl (E.2.2.1 3, 6, .inr (.inl zmi_f)))]) := hr
  have e_ := fun (β : Type) (k_ : Int32 → Int32 → Int32 → Nat → Nat → Nat → Int32 → Int32 → Int32 → Int32 → Int32 → Int32 → Int32 → Int32 → Nat → (Nat → Int32) → (Nat → Int32) → (Nat → Int32) → (Nat → Int32) → Int64 → Int64 → (Nat → Int64) → Int32 → β) => fn_wk_X3_readHead_s (β := β) (k_ := k_) (tp_1 := tp_1) (tpa_f := tpa_f) (b1_1 := b1_1) (b1_2 := b1_2) (b1_3 := b1_3) (w_2 := w_2) (w_3 := w_3) (w_4 := w_4) (w_5 := w_5) (w_6 := w_6) (w_7 := w_7) (w_8 := w_8) (w_9 := w_9) (w_10 := w_10) (w_11 := w_11) (ps_5 := ps_5) (p_2 := p_2) (te_f := te_f) (de_f := de_f) (we_f := we_f) (inp_f := inp_f) (md_1 := md_1) (md_2 := md_2) (mi_f := mi_f) (to_ := to_)
  show G E X 11 [(e, .inr (3, [.ref tp, .ref sd, .ref b1, .ref b2, .ref sh])), (tp, .inr (2, [.ref tpa, .int tp_1])), (tpa, .inl (E.2.2.1 1, 6000, .inl (nb tpa_f))), (b1, .inr (0, [.ref tp, .int b1_1, .int b1_2, .int b1_3])), (w, .inr (9, [.ref ps, .ref md, .int (nI w_2), .int (nI w_3), .int (nI w_4), .int w_5, .int w_6, .int w_7, .int w_8, .int w_9, .int w_10, .int w_11])), (ps, .inr (6, [.ref p, .ref we, .ref inp, .ref ba, .ref gu, .int ps_5, .int ps_6, .int ps_7])), (p, .inr (7, [.ref te, .ref de, .int (nI p_2)])), (te, .inl (E.2.2.1 0, 8, .inl te_f)), (de, .inl (E.2.2.1 0, 8, .inl de_f)), (we, .inl (E.2.2.1 0, 16, .inl we_f)), (inp, .inl (E.2.2.1 0, 128, .inl inp_f)), (md, .inr (5, [.ref mi, .long md_1, .long md_2])), (mi, .inl (E.2.2.1 3, 6, .inr (.inl mi_f)))] 0 0 [(0, .ref e), (1, .ref w), (2, .int to_)] 0 []
  refine g_aload_n B dX3_readHead_0 rfl 0 rfl ?_
  refine g_get B 0 0 fl_X3_9 rfl rfl dX3_readHead_1 ?_
  refine g_iconst (v := 1) B dX3_readHead_4 (by decide) ?_
  refine g_callV (st := []) (As := [.int 1]) (wr := [(e, .inr (3, [.ref tp, .ref sd, .ref b1, .ref b2, .ref sh])), (b1, .inr (0, [.ref tp, .int b1_1, .int b1_2, .int b1_3])), (w, .inr (9, [.ref ps, .ref md, .int (nI w_2), .int (nI w_3), .int (nI w_4), .int w_5, .int w_6, .int w_7, .int w_8, .int w_9, .int w_10, .int w_11])), (ps, .inr (6, [.ref p, .ref we, .ref inp, .ref ba, .ref gu, .int ps_5, .int ps_6, .int ps_7])), (p, .inr (7, [.ref te, .ref de, .int (nI p_2)])), (te, .inl (E.2.2.1 0, 8, .inl te_f)), (de, .inl (E.2.2.1 0, 8, .inl de_f)), (we, .inl (E.2.2.1 0, 16, .inl we_f)), (inp, .inl (E.2.2.1 0, 128, .inl inp_f)), (md, .inr (5, [.ref mi, .long md_1, .long md_2])), (mi, .inl (E.2.2.1 3, 6, .inr (.inl mi_f)))]) (nc' := 0) (ns' := 0) B cl_X3_59 w_im_X2_at w_se_X2_at (wk_X2_at E tp tpa 6000 tp_1 tpa_f 1 (by first | assumption | omega | decide)) rfl [1, 2] [0, 3, 4, 5, 6, 7, 8, 9, 10, 11, 12] rfl rfl (by decide) (by decide) (by decide) 0 rfl (fun q h => by cases h; rfl) rfl ⟨by decide, by decide⟩ rfl rfl (by decide) (by decide) rfl (Nat.le_of_ble_eq_true rfl) dX3_readHead_5 (fun v w hq => ?_)
  obtain ⟨zr_937, hz_938, rfl, rfl⟩ := hq
  replace e_ := fun β k_ => (e_ β k_).trans (hz_938 β _)
  show G E X 11 [(e, .inr (3, [.ref tp, .ref sd, .ref b1, .ref b2, .ref sh])), (b1, .inr (0, [.ref tp, .int b1_1, .int b1_2, .int b1_3])), (w, .inr (9, [.ref ps, .ref md, .int (nI w_2), .int (nI w_3), .int (nI w_4), .int w_5, .int w_6, .int w_7, .int w_8, .int w_9, .int w_10, .int w_11])), (ps, .inr (6, [.ref p, .ref we, .ref inp, .ref ba, .ref gu, .int ps_5, .int ps_6, .int ps_7])), (p, .inr (7, [.ref te, .ref de, .int (nI p_2)])), (te, .inl (E.2.2.1 0, 8, .inl te_f)), (de, .inl (E.2.2.1 0, 8, .inl de_f)), (we, .inl (E.2.2.1 0, 16, .inl we_f)), (inp, .inl (E.2.2.1 0, 128, .inl inp_f)), (md, .inr (5, [.ref mi, .long md_1, .long md_2])), (mi, .inl (E.2.2.1 3, 6, .inr (.inl mi_f))), (tp, .inr (2, [.ref tpa, .int tp_1])), (tpa, .inl (E.2.2.1 1, 6000, .inl (nb tpa_f)))] 0 0 [(0, .ref e), (1, .ref w), (2, .int to_)] 8 [.int zr_937]
  refine g_istore_n (lv' := [(3, .int zr_937), (0, .ref e), (1, .ref w), (2, .int to_)]) B dX3_readHead_8 rfl (by decide) rfl ?_
  refine g_aload_n B dX3_readHead_9 rfl 1 rfl ?_
  refine g_get B 0 0 fl_X3_9 rfl rfl dX3_readHead_10 ?_
  refine g_iconst (v := 2) B dX3_readHead_13 (by decide) ?_
  refine g_callV (st := []) (As := [.int 2]) (wr := [(e, .inr (3, [.ref tp, .ref sd, .ref b1, .ref b2, .ref sh])), (b1, .inr (0, [.ref tp, .int b1_1, .int b1_2, .int b1_3])), (w, .inr (9, [.ref ps, .ref md, .int (nI w_2), .int (nI w_3), .int (nI w_4), .int w_5, .int w_6, .int w_7, .int w_8, .int w_9, .int w_10, .int w_11])), (ps, .inr (6, [.ref p, .ref we, .ref inp, .ref ba, .ref gu, .int ps_5, .int ps_6, .int ps_7])), (p, .inr (7, [.ref te, .ref de, .int (nI p_2)])), (te, .inl (E.2.2.1 0, 8, .inl te_f)), (de, .inl (E.2.2.1 0, 8, .inl de_f)), (we, .inl (E.2.2.1 0, 16, .inl we_f)), (inp, .inl (E.2.2.1 0, 128, .inl inp_f)), (md, .inr (5, [.ref mi, .long md_1, .long md_2])), (mi, .inl (E.2.2.1 3, 6, .inr (.inl mi_f)))]) (nc' := 0) (ns' := 0) B cl_X3_59 w_im_X2_at w_se_X2_at (wk_X2_at E tp tpa 6000 tp_1 tpa_f 2 (by first | assumption | omega | decide)) rfl [11, 12] [0, 1, 2, 3, 4, 5, 6, 7, 8, 9, 10] rfl rfl (by decide) (by decide) (by decide) 0 rfl (fun q h => by cases h; rfl) rfl ⟨by decide, by decide⟩ rfl rfl (by decide) (by decide) rfl (Nat.le_of_ble_eq_true rfl) dX3_readHead_14 (fun v w hq => ?_)
  obtain ⟨zr_939, hz_940, rfl, rfl⟩ := hq
  replace e_ := fun β k_ => (e_ β k_).trans (hz_940 β _)
  show G E X 11 [(e, .inr (3, [.ref tp, .ref sd, .ref b1, .ref b2, .ref sh])), (b1, .inr (0, [.ref tp, .int b1_1, .int b1_2, .int b1_3])), (w, .inr (9, [.ref ps, .ref md, .int (nI w_2), .int (nI w_3), .int (nI w_4), .int w_5, .int w_6, .int w_7, .int w_8, .int w_9, .int w_10, .int w_11])), (ps, .inr (6, [.ref p, .ref we, .ref inp, .ref ba, .ref gu, .int ps_5, .int ps_6, .int ps_7])), (p, .inr (7, [.ref te, .ref de, .int (nI p_2)])), (te, .inl (E.2.2.1 0, 8, .inl te_f)), (de, .inl (E.2.2.1 0, 8, .inl de_f)), (we, .inl (E.2.2.1 0, 16, .inl we_f)), (inp, .inl (E.2.2.1 0, 128, .inl inp_f)), (md, .inr (5, [.ref mi, .long md_1, .long md_2])), (mi, .inl (E.2.2.1 3, 6, .inr (.inl mi_f))), (tp, .inr (2, [.ref tpa, .int tp_1])), (tpa, .inl (E.2.2.1 1, 6000, .inl (nb tpa_f)))] 0 0 [(3, .int zr_937), (0, .ref e), (1, .ref w), (2, .int to_)] 17 [.int zr_939]
  refine g_istore (lv' := [(4, .int zr_939), (3, .int zr_937), (0, .ref e), (1, .ref w), (2, .int to_)]) B dX3_readHead_17 (by decide) rfl ?_
  refine g_aload_n B dX3_readHead_19 rfl 2 rfl ?_
  refine g_get B 0 0 fl_X3_9 rfl rfl dX3_readHead_20 ?_
  refine g_iconst (v := 3) B dX3_readHead_23 (by decide) ?_
  refine g_callV (st := []) (As := [.int 3]) (wr := [(e, .inr (3, [.ref tp, .ref sd, .ref b1, .ref b2, .ref sh])), (b1, .inr (0, [.ref tp, .int b1_1, .int b1_2, .int b1_3])), (w, .inr (9, [.ref ps, .ref md, .int (nI w_2), .int (nI w_3), .int (nI w_4), .int w_5, .int w_6, .int w_7, .int w_8, .int w_9, .int w_10, .int w_11])), (ps, .inr (6, [.ref p, .ref we, .ref inp, .ref ba, .ref gu, .int ps_5, .int ps_6, .int ps_7])), (p, .inr (7, [.ref te, .ref de, .int (nI p_2)])), (te, .inl (E.2.2.1 0, 8, .inl te_f)), (de, .inl (E.2.2.1 0, 8, .inl de_f)), (we, .inl (E.2.2.1 0, 16, .inl we_f)), (inp, .inl (E.2.2.1 0, 128, .inl inp_f)), (md, .inr (5, [.ref mi, .long md_1, .long md_2])), (mi, .inl (E.2.2.1 3, 6, .inr (.inl mi_f)))]) (nc' := 0) (ns' := 0) B cl_X3_59 w_im_X2_at w_se_X2_at (wk_X2_at E tp tpa 6000 tp_1 tpa_f 3 (by first | assumption | omega | decide)) rfl [11, 12] [0, 1, 2, 3, 4, 5, 6, 7, 8, 9, 10] rfl rfl (by decide) (by decide) (by decide) 0 rfl (fun q h => by cases h; rfl) rfl ⟨by decide, by decide⟩ rfl rfl (by decide) (by decide) rfl (Nat.le_of_ble_eq_true rfl) dX3_readHead_24 (fun v w hq => ?_)
  obtain ⟨zr_941, hz_942, rfl, rfl⟩ := hq
  replace e_ := fun β k_ => (e_ β k_).trans (hz_942 β _)
  show G E X 11 [(e, .inr (3, [.ref tp, .ref sd, .ref b1, .ref b2, .ref sh])), (b1, .inr (0, [.ref tp, .int b1_1, .int b1_2, .int b1_3])), (w, .inr (9, [.ref ps, .ref md, .int (nI w_2), .int (nI w_3), .int (nI w_4), .int w_5, .int w_6, .int w_7, .int w_8, .int w_9, .int w_10, .int w_11])), (ps, .inr (6, [.ref p, .ref we, .ref inp, .ref ba, .ref gu, .int ps_5, .int ps_6, .int ps_7])), (p, .inr (7, [.ref te, .ref de, .int (nI p_2)])), (te, .inl (E.2.2.1 0, 8, .inl te_f)), (de, .inl (E.2.2.1 0, 8, .inl de_f)), (we, .inl (E.2.2.1 0, 16, .inl we_f)), (inp, .inl (E.2.2.1 0, 128, .inl inp_f)), (md, .inr (5, [.ref mi, .long md_1, .long md_2])), (mi, .inl (E.2.2.1 3, 6, .inr (.inl mi_f))), (tp, .inr (2, [.ref tpa, .int tp_1])), (tpa, .inl (E.2.2.1 1, 6000, .inl (nb tpa_f)))] 0 0 [(4, .int zr_939), (3, .int zr_937), (0, .ref e), (1, .ref w), (2, .int to_)] 27 [.int zr_941]
  refine g_bipush (v := 8) B dX3_readHead_27 (by decide) ?_
  refine g_ishl B dX3_readHead_29 ?_
  refine g_aload_n B dX3_readHead_30 rfl 2 rfl ?_
  refine g_get B 0 0 fl_X3_9 rfl rfl dX3_readHead_31 ?_
  refine g_iconst (v := 4) B dX3_readHead_34 (by decide) ?_
  refine g_callV (st := [.int (zr_941 <<< (8 &&& 31))]) (As := [.int 4]) (wr := [(e, .inr (3, [.ref tp, .ref sd, .ref b1, .ref b2, .ref sh])), (b1, .inr (0, [.ref tp, .int b1_1, .int b1_2, .int b1_3])), (w, .inr (9, [.ref ps, .ref md, .int (nI w_2), .int (nI w_3), .int (nI w_4), .int w_5, .int w_6, .int w_7, .int w_8, .int w_9, .int w_10, .int w_11])), (ps, .inr (6, [.ref p, .ref we, .ref inp, .ref ba, .ref gu, .int ps_5, .int ps_6, .int ps_7])), (p, .inr (7, [.ref te, .ref de, .int (nI p_2)])), (te, .inl (E.2.2.1 0, 8, .inl te_f)), (de, .inl (E.2.2.1 0, 8, .inl de_f)), (we, .inl (E.2.2.1 0, 16, .inl we_f)), (inp, .inl (E.2.2.1 0, 128, .inl inp_f)), (md, .inr (5, [.ref mi, .long md_1, .long md_2])), (mi, .inl (E.2.2.1 3, 6, .inr (.inl mi_f)))]) (nc' := 0) (ns' := 0) B cl_X3_59 w_im_X2_at w_se_X2_at (wk_X2_at E tp tpa 6000 tp_1 tpa_f 4 (by first | assumption | omega | decide)) rfl [11, 12] [0, 1, 2, 3, 4, 5, 6, 7, 8, 9, 10] rfl rfl (by decide) (by decide) (by decide) 0 rfl (fun q h => by cases h; rfl) rfl ⟨by decide, by decide⟩ rfl rfl (by decide) (by decide) rfl (Nat.le_of_ble_eq_true rfl) dX3_readHead_35 (fun v w hq => ?_)
  obtain ⟨zr_943, hz_944, rfl, rfl⟩ := hq
  replace e_ := fun β k_ => (e_ β k_).trans (hz_944 β _)
  show G E X 11 [(e, .inr (3, [.ref tp, .ref sd, .ref b1, .ref b2, .ref sh])), (b1, .inr (0, [.ref tp, .int b1_1, .int b1_2, .int b1_3])), (w, .inr (9, [.ref ps, .ref md, .int (nI w_2), .int (nI w_3), .int (nI w_4), .int w_5, .int w_6, .int w_7, .int w_8, .int w_9, .int w_10, .int w_11])), (ps, .inr (6, [.ref p, .ref we, .ref inp, .ref ba, .ref gu, .int ps_5, .int ps_6, .int ps_7])), (p, .inr (7, [.ref te, .ref de, .int (nI p_2)])), (te, .inl (E.2.2.1 0, 8, .inl te_f)), (de, .inl (E.2.2.1 0, 8, .inl de_f)), (we, .inl (E.2.2.1 0, 16, .inl we_f)), (inp, .inl (E.2.2.1 0, 128, .inl inp_f)), (md, .inr (5, [.ref mi, .long md_1, .long md_2])), (mi, .inl (E.2.2.1 3, 6, .inr (.inl mi_f))), (tp, .inr (2, [.ref tpa, .int tp_1])), (tpa, .inl (E.2.2.1 1, 6000, .inl (nb tpa_f)))] 0 0 [(4, .int zr_939), (3, .int zr_937), (0, .ref e), (1, .ref w), (2, .int to_)] 38 [.int zr_943, .int (zr_941 <<< (8 &&& 31))]
  refine g_ior B dX3_readHead_38 ?_
  refine g_topi (fun x_945 ex_945 => ?_)
  replace e_ := fun β k_ => (e_ β k_).trans (fnL_eq (x := x_945) ex_945.symm _)
  refine g_istore (lv' := [(5, .int x_945), (4, .int zr_939), (3, .int zr_937), (0, .ref e), (1, .ref w), (2, .int to_)]) B dX3_readHead_39 (by decide) rfl ?_
  refine g_aload_n B dX3_readHead_41 rfl 3 rfl ?_
  refine g_get B 0 0 fl_X3_9 rfl rfl dX3_readHead_42 ?_
  refine g_iconst (v := 5) B dX3_readHead_45 (by decide) ?_
  refine g_callV (st := []) (As := [.int 5]) (wr := [(e, .inr (3, [.ref tp, .ref sd, .ref b1, .ref b2, .ref sh])), (b1, .inr (0, [.ref tp, .int b1_1, .int b1_2, .int b1_3])), (w, .inr (9, [.ref ps, .ref md, .int (nI w_2), .int (nI w_3), .int (nI w_4), .int w_5, .int w_6, .int w_7, .int w_8, .int w_9, .int w_10, .int w_11])), (ps, .inr (6, [.ref p, .ref we, .ref inp, .ref ba, .ref gu, .int ps_5, .int ps_6, .int ps_7])), (p, .inr (7, [.ref te, .ref de, .int (nI p_2)])), (te, .inl (E.2.2.1 0, 8, .inl te_f)), (de, .inl (E.2.2.1 0, 8, .inl de_f)), (we, .inl (E.2.2.1 0, 16, .inl we_f)), (inp, .inl (E.2.2.1 0, 128, .inl inp_f)), (md, .inr (5, [.ref mi, .long md_1, .long md_2])), (mi, .inl (E.2.2.1 3, 6, .inr (.inl mi_f)))]) (nc' := 0) (ns' := 0) B cl_X3_59 w_im_X2_at w_se_X2_at (wk_X2_at E tp tpa 6000 tp_1 tpa_f 5 (by first | assumption | omega | decide)) rfl [11, 12] [0, 1, 2, 3, 4, 5, 6, 7, 8, 9, 10] rfl rfl (by decide) (by decide) (by decide) 0 rfl (fun q h => by cases h; rfl) rfl ⟨by decide, by decide⟩ rfl rfl (by decide) (by decide) rfl (Nat.le_of_ble_eq_true rfl) dX3_readHead_46 (fun v w hq => ?_)
  obtain ⟨zr_946, hz_947, rfl, rfl⟩ := hq
  replace e_ := fun β k_ => (e_ β k_).trans (hz_947 β _)
  show G E X 11 [(e, .inr (3, [.ref tp, .ref sd, .ref b1, .ref b2, .ref sh])), (b1, .inr (0, [.ref tp, .int b1_1, .int b1_2, .int b1_3])), (w, .inr (9, [.ref ps, .ref md, .int (nI w_2), .int (nI w_3), .int (nI w_4), .int w_5, .int w_6, .int w_7, .int w_8, .int w_9, .int w_10, .int w_11])), (ps, .inr (6, [.ref p, .ref we, .ref inp, .ref ba, .ref gu, .int ps_5, .int ps_6, .int ps_7])), (p, .inr (7, [.ref te, .ref de, .int (nI p_2)])), (te, .inl (E.2.2.1 0, 8, .inl te_f)), (de, .inl (E.2.2.1 0, 8, .inl de_f)), (we, .inl (E.2.2.1 0, 16, .inl we_f)), (inp, .inl (E.2.2.1 0, 128, .inl inp_f)), (md, .inr (5, [.ref mi, .long md_1, .long md_2])), (mi, .inl (E.2.2.1 3, 6, .inr (.inl mi_f))), (tp, .inr (2, [.ref tpa, .int tp_1])), (tpa, .inl (E.2.2.1 1, 6000, .inl (nb tpa_f)))] 0 0 [(5, .int x_945), (4, .int zr_939), (3, .int zr_937), (0, .ref e), (1, .ref w), (2, .int to_)] 49 [.int zr_946]
  refine g_istore (lv' := [(6, .int zr_946), (5, .int x_945), (4, .int zr_939), (3, .int zr_937), (0, .ref e), (1, .ref w), (2, .int to_)]) B dX3_readHead_49 (by decide) rfl ?_
  refine g_aload_n B dX3_readHead_51 rfl 4 rfl ?_
  refine g_get B 0 0 fl_X3_9 rfl rfl dX3_readHead_52 ?_
  refine g_iconst (v := 0) B dX3_readHead_55 (by decide) ?_
  refine g_callV (st := []) (As := [.int 0]) (wr := [(e, .inr (3, [.ref tp, .ref sd, .ref b1, .ref b2, .ref sh])), (b1, .inr (0, [.ref tp, .int b1_1, .int b1_2, .int b1_3])), (w, .inr (9, [.ref ps, .ref md, .int (nI w_2), .int (nI w_3), .int (nI w_4), .int w_5, .int w_6, .int w_7, .int w_8, .int w_9, .int w_10, .int w_11])), (ps, .inr (6, [.ref p, .ref we, .ref inp, .ref ba, .ref gu, .int ps_5, .int ps_6, .int ps_7])), (p, .inr (7, [.ref te, .ref de, .int (nI p_2)])), (te, .inl (E.2.2.1 0, 8, .inl te_f)), (de, .inl (E.2.2.1 0, 8, .inl de_f)), (we, .inl (E.2.2.1 0, 16, .inl we_f)), (inp, .inl (E.2.2.1 0, 128, .inl inp_f)), (md, .inr (5, [.ref mi, .long md_1, .long md_2])), (mi, .inl (E.2.2.1 3, 6, .inr (.inl mi_f)))]) (nc' := 0) (ns' := 0) B cl_X3_59 w_im_X2_at w_se_X2_at (wk_X2_at E tp tpa 6000 tp_1 tpa_f 0 (by first | assumption | omega | decide)) rfl [11, 12] [0, 1, 2, 3, 4, 5, 6, 7, 8, 9, 10] rfl rfl (by decide) (by decide) (by decide) 0 rfl (fun q h => by cases h; rfl) rfl ⟨by decide, by decide⟩ rfl rfl (by decide) (by decide) rfl (Nat.le_of_ble_eq_true rfl) dX3_readHead_56 (fun v w hq => ?_)
  obtain ⟨zr_948, hz_949, rfl, rfl⟩ := hq
  replace e_ := fun β k_ => (e_ β k_).trans (hz_949 β _)
  show G E X 11 [(e, .inr (3, [.ref tp, .ref sd, .ref b1, .ref b2, .ref sh])), (b1, .inr (0, [.ref tp, .int b1_1, .int b1_2, .int b1_3])), (w, .inr (9, [.ref ps, .ref md, .int (nI w_2), .int (nI w_3), .int (nI w_4), .int w_5, .int w_6, .int w_7, .int w_8, .int w_9, .int w_10, .int w_11])), (ps, .inr (6, [.ref p, .ref we, .ref inp, .ref ba, .ref gu, .int ps_5, .int ps_6, .int ps_7])), (p, .inr (7, [.ref te, .ref de, .int (nI p_2)])), (te, .inl (E.2.2.1 0, 8, .inl te_f)), (de, .inl (E.2.2.1 0, 8, .inl de_f)), (we, .inl (E.2.2.1 0, 16, .inl we_f)), (inp, .inl (E.2.2.1 0, 128, .inl inp_f)), (md, .inr (5, [.ref mi, .long md_1, .long md_2])), (mi, .inl (E.2.2.1 3, 6, .inr (.inl mi_f))), (tp, .inr (2, [.ref tpa, .int tp_1])), (tpa, .inl (E.2.2.1 1, 6000, .inl (nb tpa_f)))] 0 0 [(6, .int zr_946), (5, .int x_945), (4, .int zr_939), (3, .int zr_937), (0, .ref e), (1, .ref w), (2, .int to_)] 59 [.int zr_948]
  refine g_bipush (v := 83) B dX3_readHead_59 (by decide) ?_
  refine g_icmp_ne (tgt := 99) B dX3_readHead_61 (by decide) (fun c61_950 => ?_) (fun c61_950 => ?_)
  · replace e_ := fun β k_ => (e_ β k_).trans (if_neg c61_950)
    refine g_iconst (v := 0) B dX3_readHead_99 (by decide) ?_
    refine g_sub (ws' := [(e, .inr (3, [.ref tp, .ref sd, .ref b1, .ref b2, .ref sh])), (tp, .inr (2, [.ref tpa, .int tp_1])), (tpa, .inl (E.2.2.1 1, 6000, .inl (nb tpa_f))), (b1, .inr (0, [.ref tp, .int b1_1, .int b1_2, .int b1_3])), (w, .inr (9, [.ref ps, .ref md, .int (nI w_2), .int (nI w_3), .int (nI w_4), .int w_5, .int w_6, .int w_7, .int w_8, .int w_9, .int w_10, .int w_11])), (ps, .inr (6, [.ref p, .ref we, .ref inp, .ref ba, .ref gu, .int ps_5, .int ps_6, .int ps_7])), (p, .inr (7, [.ref te, .ref de, .int (nI p_2)])), (te, .inl (E.2.2.1 0, 8, .inl te_f)), (de, .inl (E.2.2.1 0, 8, .inl de_f)), (we, .inl (E.2.2.1 0, 16, .inl we_f)), (inp, .inl (E.2.2.1 0, 128, .inl inp_f)), (md, .inr (5, [.ref mi, .long md_1, .long md_2])), (mi, .inl (E.2.2.1 3, 6, .inr (.inl mi_f)))]) [0, 11, 12, 1, 2, 3, 4, 5, 6, 7, 8, 9, 10] (by decide) rfl ?_
    exact g_zret B hr (by decide) dX3_readHead_100 (by decide) (by decide) ⟨b1_1, b1_2, b1_3, w_2, w_3, w_4, w_5, w_6, w_7, w_8, w_9, w_10, w_11, ps_5, p_2, te_f, de_f, we_f, inp_f, md_1, md_2, mi_f, 0, (Or.inl rfl), (by first | assumption | omega | decide), (by first | assumption | omega | decide), (by first | assumption | omega | decide), (by first | assumption | omega | decide), e_, rfl, rfl⟩
  · replace e_ := fun β k_ => (e_ β k_).trans (if_pos c61_950)
    refine g_iload_n B dX3_readHead_64 rfl 3 rfl ?_
    refine g_callS (st := []) (As := [.int zr_937]) (wr := [(e, .inr (3, [.ref tp, .ref sd, .ref b1, .ref b2, .ref sh])), (b1, .inr (0, [.ref tp, .int b1_1, .int b1_2, .int b1_3])), (w, .inr (9, [.ref ps, .ref md, .int (nI w_2), .int (nI w_3), .int (nI w_4), .int w_5, .int w_6, .int w_7, .int w_8, .int w_9, .int w_10, .int w_11])), (ps, .inr (6, [.ref p, .ref we, .ref inp, .ref ba, .ref gu, .int ps_5, .int ps_6, .int ps_7])), (p, .inr (7, [.ref te, .ref de, .int (nI p_2)])), (te, .inl (E.2.2.1 0, 8, .inl te_f)), (de, .inl (E.2.2.1 0, 8, .inl de_f)), (we, .inl (E.2.2.1 0, 16, .inl we_f)), (inp, .inl (E.2.2.1 0, 128, .inl inp_f)), (md, .inr (5, [.ref mi, .long md_1, .long md_2])), (mi, .inl (E.2.2.1 3, 6, .inr (.inl mi_f))), (tp, .inr (2, [.ref tpa, .int tp_1])), (tpa, .inl (E.2.2.1 1, 6000, .inl (nb tpa_f)))]) (nc' := 0) (ns' := 0) B cl_X3_62 w_sm_X3_areFlags (wk_X3_areFlags E zr_937 ) rfl [] [0, 1, 2, 3, 4, 5, 6, 7, 8, 9, 10, 11, 12] rfl rfl (by decide) (by decide) (by decide) ⟨by decide, by decide⟩ rfl rfl (by decide) (by decide) rfl (Nat.le_of_ble_eq_true rfl) dX3_readHead_65 (fun v w hq => ?_)
    obtain ⟨zr_951, hf_952, hz_953, rfl, rfl⟩ := hq
    replace e_ := fun β k_ => (e_ β k_).trans (hz_953 β _)
    show G E X 11 [(e, .inr (3, [.ref tp, .ref sd, .ref b1, .ref b2, .ref sh])), (b1, .inr (0, [.ref tp, .int b1_1, .int b1_2, .int b1_3])), (w, .inr (9, [.ref ps, .ref md, .int (nI w_2), .int (nI w_3), .int (nI w_4), .int w_5, .int w_6, .int w_7, .int w_8, .int w_9, .int w_10, .int w_11])), (ps, .inr (6, [.ref p, .ref we, .ref inp, .ref ba, .ref gu, .int ps_5, .int ps_6, .int ps_7])), (p, .inr (7, [.ref te, .ref de, .int (nI p_2)])), (te, .inl (E.2.2.1 0, 8, .inl te_f)), (de, .inl (E.2.2.1 0, 8, .inl de_f)), (we, .inl (E.2.2.1 0, 16, .inl we_f)), (inp, .inl (E.2.2.1 0, 128, .inl inp_f)), (md, .inr (5, [.ref mi, .long md_1, .long md_2])), (mi, .inl (E.2.2.1 3, 6, .inr (.inl mi_f))), (tp, .inr (2, [.ref tpa, .int tp_1])), (tpa, .inl (E.2.2.1 1, 6000, .inl (nb tpa_f)))] 0 0 [(6, .int zr_946), (5, .int x_945), (4, .int zr_939), (3, .int zr_937), (0, .ref e), (1, .ref w), (2, .int to_)] 68 [.int zr_951]
    refine g_if_eq (tgt := 99) B dX3_readHead_68 (by decide) (fun c68_954 => ?_) (fun c68_954 => ?_)
    · replace e_ := fun β k_ => (e_ β k_).trans (if_pos c68_954)
      refine g_iconst (v := 0) B dX3_readHead_99 (by decide) ?_
      refine g_sub (ws' := [(e, .inr (3, [.ref tp, .ref sd, .ref b1, .ref b2, .ref sh])), (tp, .inr (2, [.ref tpa, .int tp_1])), (tpa, .inl (E.2.2.1 1, 6000, .inl (nb tpa_f))), (b1, .inr (0, [.ref tp, .int b1_1, .int b1_2, .int b1_3])), (w, .inr (9, [.ref ps, .ref md, .int (nI w_2), .int (nI w_3), .int (nI w_4), .int w_5, .int w_6, .int w_7, .int w_8, .int w_9, .int w_10, .int w_11])), (ps, .inr (6, [.ref p, .ref we, .ref inp, .ref ba, .ref gu, .int ps_5, .int ps_6, .int ps_7])), (p, .inr (7, [.ref te, .ref de, .int (nI p_2)])), (te, .inl (E.2.2.1 0, 8, .inl te_f)), (de, .inl (E.2.2.1 0, 8, .inl de_f)), (we, .inl (E.2.2.1 0, 16, .inl we_f)), (inp, .inl (E.2.2.1 0, 128, .inl inp_f)), (md, .inr (5, [.ref mi, .long md_1, .long md_2])), (mi, .inl (E.2.2.1 3, 6, .inr (.inl mi_f)))]) [0, 11, 12, 1, 2, 3, 4, 5, 6, 7, 8, 9, 10] (by decide) rfl ?_
      exact g_zret B hr (by decide) dX3_readHead_100 (by decide) (by decide) ⟨b1_1, b1_2, b1_3, w_2, w_3, w_4, w_5, w_6, w_7, w_8, w_9, w_10, w_11, ps_5, p_2, te_f, de_f, we_f, inp_f, md_1, md_2, mi_f, 0, (Or.inl rfl), (by first | assumption | omega | decide), (by first | assumption | omega | decide), (by first | assumption | omega | decide), (by first | assumption | omega | decide), e_, rfl, rfl⟩
    · replace e_ := fun β k_ => (e_ β k_).trans (if_neg c68_954)
      refine g_iload B dX3_readHead_71 2 rfl ?_
      refine g_bipush (v := 23) B dX3_readHead_73 (by decide) ?_
      refine g_icmp_gt (tgt := 99) B dX3_readHead_75 (by decide) (fun c75_955 => ?_) (fun c75_955 => ?_)
      · replace e_ := fun β k_ => (e_ β k_).trans (if_pos c75_955)
        refine g_iconst (v := 0) B dX3_readHead_99 (by decide) ?_
        refine g_sub (ws' := [(e, .inr (3, [.ref tp, .ref sd, .ref b1, .ref b2, .ref sh])), (tp, .inr (2, [.ref tpa, .int tp_1])), (tpa, .inl (E.2.2.1 1, 6000, .inl (nb tpa_f))), (b1, .inr (0, [.ref tp, .int b1_1, .int b1_2, .int b1_3])), (w, .inr (9, [.ref ps, .ref md, .int (nI w_2), .int (nI w_3), .int (nI w_4), .int w_5, .int w_6, .int w_7, .int w_8, .int w_9, .int w_10, .int w_11])), (ps, .inr (6, [.ref p, .ref we, .ref inp, .ref ba, .ref gu, .int ps_5, .int ps_6, .int ps_7])), (p, .inr (7, [.ref te, .ref de, .int (nI p_2)])), (te, .inl (E.2.2.1 0, 8, .inl te_f)), (de, .inl (E.2.2.1 0, 8, .inl de_f)), (we, .inl (E.2.2.1 0, 16, .inl we_f)), (inp, .inl (E.2.2.1 0, 128, .inl inp_f)), (md, .inr (5, [.ref mi, .long md_1, .long md_2])), (mi, .inl (E.2.2.1 3, 6, .inr (.inl mi_f)))]) [0, 11, 12, 1, 2, 3, 4, 5, 6, 7, 8, 9, 10] (by decide) rfl ?_
        exact g_zret B hr (by decide) dX3_readHead_100 (by decide) (by decide) ⟨b1_1, b1_2, b1_3, w_2, w_3, w_4, w_5, w_6, w_7, w_8, w_9, w_10, w_11, ps_5, p_2, te_f, de_f, we_f, inp_f, md_1, md_2, mi_f, 0, (Or.inl rfl), (by first | assumption | omega | decide), (by first | assumption | omega | decide), (by first | assumption | omega | decide), (by first | assumption | omega | decide), e_, rfl, rfl⟩
      · replace e_ := fun β k_ => (e_ β k_).trans (if_neg c75_955)
        refine g_iload B dX3_readHead_78 1 rfl ?_
        refine g_iconst (v := 1) B dX3_readHead_80 (by decide) ?_
        refine g_icmp_lt (tgt := 99) B dX3_readHead_81 (by decide) (fun c81_956 => ?_) (fun c81_956 => ?_)
        · replace e_ := fun β k_ => (e_ β k_).trans (if_pos c81_956)
          refine g_iconst (v := 0) B dX3_readHead_99 (by decide) ?_
          refine g_sub (ws' := [(e, .inr (3, [.ref tp, .ref sd, .ref b1, .ref b2, .ref sh])), (tp, .inr (2, [.ref tpa, .int tp_1])), (tpa, .inl (E.2.2.1 1, 6000, .inl (nb tpa_f))), (b1, .inr (0, [.ref tp, .int b1_1, .int b1_2, .int b1_3])), (w, .inr (9, [.ref ps, .ref md, .int (nI w_2), .int (nI w_3), .int (nI w_4), .int w_5, .int w_6, .int w_7, .int w_8, .int w_9, .int w_10, .int w_11])), (ps, .inr (6, [.ref p, .ref we, .ref inp, .ref ba, .ref gu, .int ps_5, .int ps_6, .int ps_7])), (p, .inr (7, [.ref te, .ref de, .int (nI p_2)])), (te, .inl (E.2.2.1 0, 8, .inl te_f)), (de, .inl (E.2.2.1 0, 8, .inl de_f)), (we, .inl (E.2.2.1 0, 16, .inl we_f)), (inp, .inl (E.2.2.1 0, 128, .inl inp_f)), (md, .inr (5, [.ref mi, .long md_1, .long md_2])), (mi, .inl (E.2.2.1 3, 6, .inr (.inl mi_f)))]) [0, 11, 12, 1, 2, 3, 4, 5, 6, 7, 8, 9, 10] (by decide) rfl ?_
          exact g_zret B hr (by decide) dX3_readHead_100 (by decide) (by decide) ⟨b1_1, b1_2, b1_3, w_2, w_3, w_4, w_5, w_6, w_7, w_8, w_9, w_10, w_11, ps_5, p_2, te_f, de_f, we_f, inp_f, md_1, md_2, mi_f, 0, (Or.inl rfl), (by first | assumption | omega | decide), (by first | assumption | omega | decide), (by first | assumption | omega | decide), (by first | assumption | omega | decide), e_, rfl, rfl⟩
        · replace e_ := fun β k_ => (e_ β k_).trans (if_neg c81_956)
          refine g_iload B dX3_readHead_84 1 rfl ?_
          refine g_sipush (v := 600) B dX3_readHead_86 (by decide) ?_
          refine g_icmp_gt (tgt := 99) B dX3_readHead_89 (by decide) (fun c89_957 => ?_) (fun c89_957 => ?_)
          · replace e_ := fun β k_ => (e_ β k_).trans (if_pos c89_957)
            refine g_iconst (v := 0) B dX3_readHead_99 (by decide) ?_
            refine g_sub (ws' := [(e, .inr (3, [.ref tp, .ref sd, .ref b1, .ref b2, .ref sh])), (tp, .inr (2, [.ref tpa, .int tp_1])), (tpa, .inl (E.2.2.1 1, 6000, .inl (nb tpa_f))), (b1, .inr (0, [.ref tp, .int b1_1, .int b1_2, .int b1_3])), (w, .inr (9, [.ref ps, .ref md, .int (nI w_2), .int (nI w_3), .int (nI w_4), .int w_5, .int w_6, .int w_7, .int w_8, .int w_9, .int w_10, .int w_11])), (ps, .inr (6, [.ref p, .ref we, .ref inp, .ref ba, .ref gu, .int ps_5, .int ps_6, .int ps_7])), (p, .inr (7, [.ref te, .ref de, .int (nI p_2)])), (te, .inl (E.2.2.1 0, 8, .inl te_f)), (de, .inl (E.2.2.1 0, 8, .inl de_f)), (we, .inl (E.2.2.1 0, 16, .inl we_f)), (inp, .inl (E.2.2.1 0, 128, .inl inp_f)), (md, .inr (5, [.ref mi, .long md_1, .long md_2])), (mi, .inl (E.2.2.1 3, 6, .inr (.inl mi_f)))]) [0, 11, 12, 1, 2, 3, 4, 5, 6, 7, 8, 9, 10] (by decide) rfl ?_
            exact g_zret B hr (by decide) dX3_readHead_100 (by decide) (by decide) ⟨b1_1, b1_2, b1_3, w_2, w_3, w_4, w_5, w_6, w_7, w_8, w_9, w_10, w_11, ps_5, p_2, te_f, de_f, we_f, inp_f, md_1, md_2, mi_f, 0, (Or.inl rfl), (by first | assumption | omega | decide), (by first | assumption | omega | decide), (by first | assumption | omega | decide), (by first | assumption | omega | decide), e_, rfl, rfl⟩
          · replace e_ := fun β k_ => (e_ β k_).trans (if_neg c89_957)
            refine g_iload B dX3_readHead_92 0 rfl ?_
            refine g_bipush (v := 8) B dX3_readHead_94 (by decide) ?_
            refine g_icmp_le (tgt := 101) B dX3_readHead_96 (by decide) (fun c96_958 => ?_) (fun c96_958 => ?_)
            · replace e_ := fun β k_ => (e_ β k_).trans (if_pos c96_958)
              refine g_iload_n B dX3_readHead_101 rfl 3 rfl ?_
              refine g_bipush (v := 8) B dX3_readHead_102 (by decide) ?_
              refine g_iand B dX3_readHead_104 ?_
              refine g_if_eq (tgt := 112) B dX3_readHead_105 (by decide) (fun c105_959 => ?_) (fun c105_959 => ?_)
              · replace e_ := fun β k_ => (e_ β k_).trans (if_pos c105_959)
                refine g_iconst (v := 0) B dX3_readHead_112 (by decide) ?_
                refine g_istore (lv' := [(7, .int 0), (6, .int zr_946), (5, .int x_945), (4, .int zr_939), (3, .int zr_937), (0, .ref e), (1, .ref w), (2, .int to_)]) B dX3_readHead_113 (by decide) rfl ?_
                refine g_bipush (v := 6) B dX3_readHead_115 (by decide) ?_
                refine g_iconst (v := 2) B dX3_readHead_117 (by decide) ?_
                refine g_iload B dX3_readHead_118 1 rfl ?_
                refine g_imul B dX3_readHead_120 ?_
                refine g_iadd B dX3_readHead_121 ?_
                refine g_istore (lv' := [(8, .int (6 + (2 * zr_946))), (7, .int 0), (6, .int zr_946), (5, .int x_945), (4, .int zr_939), (3, .int zr_937), (0, .ref e), (1, .ref w), (2, .int to_)]) B dX3_readHead_122 (by decide) rfl ?_
                refine g_iload B dX3_readHead_124 0 rfl ?_
                refine g_iload B dX3_readHead_126 1 rfl ?_
                refine g_if_eq (tgt := 135) B dX3_readHead_128 (by decide) (fun c128 => ?_) (fun h => absurd (by decide) h)
                refine g_iconst (v := 0) B dX3_readHead_135 (by decide) ?_
                refine g_iadd B dX3_readHead_136 ?_
                refine g_istore (lv' := [(9, .int ((6 + (2 * zr_946)) + 0)), (8, .int (6 + (2 * zr_946))), (7, .int 0), (6, .int zr_946), (5, .int x_945), (4, .int zr_939), (3, .int zr_937), (0, .ref e), (1, .ref w), (2, .int to_)]) B dX3_readHead_137 (by decide) rfl ?_
                refine g_iload B dX3_readHead_139 0 rfl ?_
                refine g_iload_n B dX3_readHead_141 rfl 9 rfl ?_
                refine g_icmp_gt (tgt := 161) B dX3_readHead_142 (by decide) (fun c142_960 => ?_) (fun c142_960 => ?_)
                · replace e_ := fun β k_ => (e_ β k_).trans (if_pos c142_960)
                  refine g_iconst (v := 0) B dX3_readHead_161 (by decide) ?_
                  refine g_sub (ws' := [(e, .inr (3, [.ref tp, .ref sd, .ref b1, .ref b2, .ref sh])), (tp, .inr (2, [.ref tpa, .int tp_1])), (tpa, .inl (E.2.2.1 1, 6000, .inl (nb tpa_f))), (b1, .inr (0, [.ref tp, .int b1_1, .int b1_2, .int b1_3])), (w, .inr (9, [.ref ps, .ref md, .int (nI w_2), .int (nI w_3), .int (nI w_4), .int w_5, .int w_6, .int w_7, .int w_8, .int w_9, .int w_10, .int w_11])), (ps, .inr (6, [.ref p, .ref we, .ref inp, .ref ba, .ref gu, .int ps_5, .int ps_6, .int ps_7])), (p, .inr (7, [.ref te, .ref de, .int (nI p_2)])), (te, .inl (E.2.2.1 0, 8, .inl te_f)), (de, .inl (E.2.2.1 0, 8, .inl de_f)), (we, .inl (E.2.2.1 0, 16, .inl we_f)), (inp, .inl (E.2.2.1 0, 128, .inl inp_f)), (md, .inr (5, [.ref mi, .long md_1, .long md_2])), (mi, .inl (E.2.2.1 3, 6, .inr (.inl mi_f)))]) [0, 11, 12, 1, 2, 3, 4, 5, 6, 7, 8, 9, 10] (by decide) rfl ?_
                  exact g_zret B hr (by decide) dX3_readHead_162 (by decide) (by decide) ⟨b1_1, b1_2, b1_3, w_2, w_3, w_4, w_5, w_6, w_7, w_8, w_9, w_10, w_11, ps_5, p_2, te_f, de_f, we_f, inp_f, md_1, md_2, mi_f, 0, (Or.inl rfl), (by first | assumption | omega | decide), (by first | assumption | omega | decide), (by first | assumption | omega | decide), (by first | assumption | omega | decide), e_, rfl, rfl⟩
                · replace e_ := fun β k_ => (e_ β k_).trans (if_neg c142_960)
                  refine g_aload_n B dX3_readHead_145 rfl 7 rfl ?_
                  refine g_aload_n B dX3_readHead_146 rfl 8 rfl ?_
                  refine g_get B 2 0 fl_X3_66 rfl rfl dX3_readHead_147 ?_
                  refine g_get B 3 0 fl_X3_72 rfl rfl dX3_readHead_150 ?_
                  refine g_iload B dX3_readHead_153 3 rfl ?_
                  refine g_callV (st := []) (As := [.ref p, .int zr_946]) (wr := [(b1, .inr (0, [.ref tp, .int b1_1, .int b1_2, .int b1_3])), (w, .inr (9, [.ref ps, .ref md, .int (nI w_2), .int (nI w_3), .int (nI w_4), .int w_5, .int w_6, .int w_7, .int w_8, .int w_9, .int w_10, .int w_11])), (ps, .inr (6, [.ref p, .ref we, .ref inp, .ref ba, .ref gu, .int ps_5, .int ps_6, .int ps_7])), (we, .inl (E.2.2.1 0, 16, .inl we_f)), (inp, .inl (E.2.2.1 0, 128, .inl inp_f)), (md, .inr (5, [.ref mi, .long md_1, .long md_2])), (mi, .inl (E.2.2.1 3, 6, .inr (.inl mi_f)))]) (nc' := 0) (ns' := 0) B cl_X3_78 w_im_X3_readPlan w_se_X3_readPlan (wk_X3_readPlan E e tp sd b1 b2 sh tpa p te de tp_1 tpa_f p_2 te_f de_f zr_946 (by first | assumption | omega | decide)) rfl [0, 11, 12, 4, 5, 6] [1, 2, 3, 7, 8, 9, 10] rfl rfl (by decide) (by decide) (by decide) 0 rfl (fun q h => by cases h; rfl) rfl ⟨by decide, by decide⟩ rfl rfl (by decide) (by decide) rfl (Nat.le_of_ble_eq_true rfl) dX3_readHead_155 (fun v w hq => ?_)
                  obtain ⟨zp_2_961, zte_f_962, zde_f_963, zr_964, hf_965, hf_966, hz_967, rfl, rfl⟩ := hq
                  replace e_ := fun β k_ => (e_ β k_).trans (hz_967 β _)
                  show G E X 11 [(b1, .inr (0, [.ref tp, .int b1_1, .int b1_2, .int b1_3])), (w, .inr (9, [.ref ps, .ref md, .int (nI w_2), .int (nI w_3), .int (nI w_4), .int w_5, .int w_6, .int w_7, .int w_8, .int w_9, .int w_10, .int w_11])), (ps, .inr (6, [.ref p, .ref we, .ref inp, .ref ba, .ref gu, .int ps_5, .int ps_6, .int ps_7])), (we, .inl (E.2.2.1 0, 16, .inl we_f)), (inp, .inl (E.2.2.1 0, 128, .inl inp_f)), (md, .inr (5, [.ref mi, .long md_1, .long md_2])), (mi, .inl (E.2.2.1 3, 6, .inr (.inl mi_f))), (e, .inr (3, [.ref tp, .ref sd, .ref b1, .ref b2, .ref sh])), (tp, .inr (2, [.ref tpa, .int tp_1])), (tpa, .inl (E.2.2.1 1, 6000, .inl (nb tpa_f))), (p, .inr (7, [.ref te, .ref de, .int (nI zp_2_961)])), (te, .inl (E.2.2.1 0, 8, .inl zte_f_962)), (de, .inl (E.2.2.1 0, 8, .inl zde_f_963))] 0 0 [(9, .int ((6 + (2 * zr_946)) + 0)), (8, .int (6 + (2 * zr_946))), (7, .int 0), (6, .int zr_946), (5, .int x_945), (4, .int zr_939), (3, .int zr_937), (0, .ref e), (1, .ref w), (2, .int to_)] 158 [.int zr_964]
                  refine g_if_ne (tgt := 163) B dX3_readHead_158 (by decide) (fun c158_968 => ?_) (fun c158_968 => ?_)
                  · replace e_ := fun β k_ => (e_ β k_).trans (if_neg c158_968)
                    refine g_iload B dX3_readHead_163 2 rfl ?_
                    refine g_if_eq (tgt := 195) B dX3_readHead_165 (by decide) (fun c165 => ?_) (fun h => absurd (by decide) h)
                    refine g_iconst (v := 0) B dX3_readHead_195 (by decide) ?_
                    refine g_istore (lv' := [(10, .int 0), (9, .int ((6 + (2 * zr_946)) + 0)), (8, .int (6 + (2 * zr_946))), (7, .int 0), (6, .int zr_946), (5, .int x_945), (4, .int zr_939), (3, .int zr_937), (0, .ref e), (1, .ref w), (2, .int to_)]) B dX3_readHead_196 (by decide) rfl ?_
                    refine g_aload_n B dX3_readHead_198 rfl 9 rfl ?_
                    refine g_iload_n B dX3_readHead_199 rfl 7 rfl ?_
                    refine g_iload B dX3_readHead_200 6 rfl ?_
                    refine g_iload B dX3_readHead_202 5 rfl ?_
                    refine g_iload B dX3_readHead_204 0 rfl ?_
                    obtain ⟨nf_969, hnf_969, rfl⟩ := fr_of (x := x_945) c81_956 c89_957
                    replace e_ := fun β k_ => (e_ β k_).trans (fnL_eq (x := nf_969) (nI_clamp (by omega)) _)
                    refine g_callV (st := []) (As := [.int zr_937, .int zr_939, .int (nI nf_969), .int 0]) (wr := [(b1, .inr (0, [.ref tp, .int b1_1, .int b1_2, .int b1_3])), (e, .inr (3, [.ref tp, .ref sd, .ref b1, .ref b2, .ref sh])), (tp, .inr (2, [.ref tpa, .int tp_1])), (tpa, .inl (E.2.2.1 1, 6000, .inl (nb tpa_f))), (p, .inr (7, [.ref te, .ref de, .int (nI zp_2_961)])), (te, .inl (E.2.2.1 0, 8, .inl zte_f_962)), (de, .inl (E.2.2.1 0, 8, .inl zde_f_963))]) (nc' := 0) (ns' := 0) B cl_X3_82 w_im_X9_begin w_se_X9_begin (wk_X9_begin E w ps md p we inp ba gu mi nf_969 ps_6 ps_7 w_2 w_3 w_4 w_5 w_6 w_7 w_8 w_9 w_10 w_11 ps_5 we_f inp_f md_1 md_2 mi_f zr_937 zr_939 0 (by first | assumption | omega | decide) (by first | assumption | omega | decide) (by first | assumption | omega | decide) (by first | assumption | omega | decide)) rfl [1, 2, 3, 4, 5, 6] [0, 7, 8, 9, 10, 11, 12] rfl rfl (by decide) (by decide) (by decide) 0 rfl (fun q h => by cases h; rfl) rfl ⟨by decide, by decide⟩ rfl rfl (by decide) (by decide) rfl (Nat.le_of_ble_eq_true rfl) dX3_readHead_206 (fun v w hq => ?_)
                    obtain ⟨zw_2_970, zw_3_971, zw_4_972, zw_5_973, zw_6_974, zw_7_975, zw_8_976, zw_9_977, zw_10_978, zw_11_979, zps_5_980, zwe_f_981, zinp_f_982, zmd_1_983, zmd_2_984, zmi_f_985, hf_986, hf_987, hf_988, hz_989, rfl, rfl⟩ := hq
                    replace e_ := fun β k_ => (e_ β k_).trans (hz_989 β _)
                    show G E X 11 [(b1, .inr (0, [.ref tp, .int b1_1, .int b1_2, .int b1_3])), (e, .inr (3, [.ref tp, .ref sd, .ref b1, .ref b2, .ref sh])), (tp, .inr (2, [.ref tpa, .int tp_1])), (tpa, .inl (E.2.2.1 1, 6000, .inl (nb tpa_f))), (p, .inr (7, [.ref te, .ref de, .int (nI zp_2_961)])), (te, .inl (E.2.2.1 0, 8, .inl zte_f_962)), (de, .inl (E.2.2.1 0, 8, .inl zde_f_963)), (w, .inr (9, [.ref ps, .ref md, .int (nI zw_2_970), .int (nI zw_3_971), .int (nI zw_4_972), .int zw_5_973, .int zw_6_974, .int zw_7_975, .int zw_8_976, .int zw_9_977, .int zw_10_978, .int zw_11_979])), (ps, .inr (6, [.ref p, .ref we, .ref inp, .ref ba, .ref gu, .int zps_5_980, .int ps_6, .int ps_7])), (we, .inl (E.2.2.1 0, 16, .inl zwe_f_981)), (inp, .inl (E.2.2.1 0, 128, .inl zinp_f_982)), (md, .inr (5, [.ref mi, .long zmd_1_983, .long zmd_2_984])), (mi, .inl (E.2.2.1 3, 6, .inr (.inl zmi_f_985)))] 0 0 [(10, .int 0), (9, .int ((6 + (2 * zr_946)) + 0)), (8, .int (6 + (2 * zr_946))), (7, .int 0), (6, .int zr_946), (5, .int (nI nf_969)), (4, .int zr_939), (3, .int zr_937), (0, .ref e), (1, .ref w), (2, .int to_)] 209 []
                    refine g_aload_n B dX3_readHead_209 rfl 8 rfl ?_
                    refine g_get B 1 2 fl_X3_27 rfl rfl dX3_readHead_210 ?_
                    refine g_iload B dX3_readHead_213 1 rfl ?_
                    refine g_iload_n B dX3_readHead_215 rfl 10 rfl ?_
                    refine g_callV (st := []) (As := [.int ((6 + (2 * zr_946)) + 0), .int to_]) (wr := [(e, .inr (3, [.ref tp, .ref sd, .ref b1, .ref b2, .ref sh])), (tp, .inr (2, [.ref tpa, .int tp_1])), (tpa, .inl (E.2.2.1 1, 6000, .inl (nb tpa_f))), (p, .inr (7, [.ref te, .ref de, .int (nI zp_2_961)])), (te, .inl (E.2.2.1 0, 8, .inl zte_f_962)), (de, .inl (E.2.2.1 0, 8, .inl zde_f_963)), (w, .inr (9, [.ref ps, .ref md, .int (nI zw_2_970), .int (nI zw_3_971), .int (nI zw_4_972), .int zw_5_973, .int zw_6_974, .int zw_7_975, .int zw_8_976, .int zw_9_977, .int zw_10_978, .int zw_11_979])), (ps, .inr (6, [.ref p, .ref we, .ref inp, .ref ba, .ref gu, .int zps_5_980, .int ps_6, .int ps_7])), (we, .inl (E.2.2.1 0, 16, .inl zwe_f_981)), (inp, .inl (E.2.2.1 0, 128, .inl zinp_f_982)), (md, .inr (5, [.ref mi, .long zmd_1_983, .long zmd_2_984])), (mi, .inl (E.2.2.1 3, 6, .inr (.inl zmi_f_985)))]) (nc' := 0) (ns' := 0) B cl_X3_86 w_im_X0_start w_se_X0_start (wk_X0_start E b1 tp b1_1 b1_2 b1_3 ((6 + (2 * zr_946)) + 0) to_ ) rfl [0] [1, 2, 3, 4, 5, 6, 7, 8, 9, 10, 11, 12] rfl rfl (by decide) (by decide) (by decide) 0 rfl (fun q h => by cases h; rfl) rfl ⟨by decide, by decide⟩ rfl rfl (by decide) (by decide) rfl (Nat.le_of_ble_eq_true rfl) dX3_readHead_216 (fun v w hq => ?_)
                    obtain ⟨zb_1_990, zb_2_991, zb_3_992, hz_993, rfl, rfl⟩ := hq
                    replace e_ := fun β k_ => (e_ β k_).trans (hz_993 β _)
                    show G E X 11 [(e, .inr (3, [.ref tp, .ref sd, .ref b1, .ref b2, .ref sh])), (tp, .inr (2, [.ref tpa, .int tp_1])), (tpa, .inl (E.2.2.1 1, 6000, .inl (nb tpa_f))), (p, .inr (7, [.ref te, .ref de, .int (nI zp_2_961)])), (te, .inl (E.2.2.1 0, 8, .inl zte_f_962)), (de, .inl (E.2.2.1 0, 8, .inl zde_f_963)), (w, .inr (9, [.ref ps, .ref md, .int (nI zw_2_970), .int (nI zw_3_971), .int (nI zw_4_972), .int zw_5_973, .int zw_6_974, .int zw_7_975, .int zw_8_976, .int zw_9_977, .int zw_10_978, .int zw_11_979])), (ps, .inr (6, [.ref p, .ref we, .ref inp, .ref ba, .ref gu, .int zps_5_980, .int ps_6, .int ps_7])), (we, .inl (E.2.2.1 0, 16, .inl zwe_f_981)), (inp, .inl (E.2.2.1 0, 128, .inl zinp_f_982)), (md, .inr (5, [.ref mi, .long zmd_1_983, .long zmd_2_984])), (mi, .inl (E.2.2.1 3, 6, .inr (.inl zmi_f_985))), (b1, .inr (0, [.ref tp, .int zb_1_990, .int zb_2_991, .int zb_3_992]))] 0 0 [(10, .int 0), (9, .int ((6 + (2 * zr_946)) + 0)), (8, .int (6 + (2 * zr_946))), (7, .int 0), (6, .int zr_946), (5, .int (nI nf_969)), (4, .int zr_939), (3, .int zr_937), (0, .ref e), (1, .ref w), (2, .int to_)] 219 []
                    refine g_iload B dX3_readHead_219 3 rfl ?_
                    refine g_if_eq (tgt := 229) B dX3_readHead_221 (by decide) (fun c221 => ?_) (fun h => absurd (by decide) h)
                    refine g_iconst (v := 1) B dX3_readHead_229 (by decide) ?_
                    refine g_goto (tgt := 234) B dX3_readHead_230 (by decide) ?_
                    refine g_sub (ws' := [(e, .inr (3, [.ref tp, .ref sd, .ref b1, .ref b2, .ref sh])), (tp, .inr (2, [.ref tpa, .int tp_1])), (tpa, .inl (E.2.2.1 1, 6000, .inl (nb tpa_f))), (b1, .inr (0, [.ref tp, .int zb_1_990, .int zb_2_991, .int zb_3_992])), (w, .inr (9, [.ref ps, .ref md, .int (nI zw_2_970), .int (nI zw_3_971), .int (nI zw_4_972), .int zw_5_973, .int zw_6_974, .int zw_7_975, .int zw_8_976, .int zw_9_977, .int zw_10_978, .int zw_11_979])), (ps, .inr (6, [.ref p, .ref we, .ref inp, .ref ba, .ref gu, .int zps_5_980, .int ps_6, .int ps_7])), (p, .inr (7, [.ref te, .ref de, .int (nI zp_2_961)])), (te, .inl (E.2.2.1 0, 8, .inl zte_f_962)), (de, .inl (E.2.2.1 0, 8, .inl zde_f_963)), (we, .inl (E.2.2.1 0, 16, .inl zwe_f_981)), (inp, .inl (E.2.2.1 0, 128, .inl zinp_f_982)), (md, .inr (5, [.ref mi, .long zmd_1_983, .long zmd_2_984])), (mi, .inl (E.2.2.1 3, 6, .inr (.inl zmi_f_985)))]) [0, 1, 2, 12, 6, 7, 3, 4, 5, 8, 9, 10, 11] (by decide) rfl ?_
                    exact g_zret B hr (by decide) dX3_readHead_234 (by decide) (by decide) ⟨zb_1_990, zb_2_991, zb_3_992, zw_2_970, zw_3_971, zw_4_972, zw_5_973, zw_6_974, zw_7_975, zw_8_976, zw_9_977, zw_10_978, zw_11_979, zps_5_980, zp_2_961, zte_f_962, zde_f_963, zwe_f_981, zinp_f_982, zmd_1_983, zmd_2_984, zmi_f_985, 1, (Or.inr rfl), (by first | assumption | omega | decide), (by first | assumption | omega | decide), (by first | assumption | omega | decide), (by first | assumption | omega | decide), e_, rfl, rfl⟩
                  · replace e_ := fun β k_ => (e_ β k_).trans (if_pos c158_968)
                    refine g_iconst (v := 0) B dX3_readHead_161 (by decide) ?_
                    refine g_sub (ws' := [(e, .inr (3, [.ref tp, .ref sd, .ref b1, .ref b2, .ref sh])), (tp, .inr (2, [.ref tpa, .int tp_1])), (tpa, .inl (E.2.2.1 1, 6000, .inl (nb tpa_f))), (b1, .inr (0, [.ref tp, .int b1_1, .int b1_2, .int b1_3])), (w, .inr (9, [.ref ps, .ref md, .int (nI w_2), .int (nI w_3), .int (nI w_4), .int w_5, .int w_6, .int w_7, .int w_8, .int w_9, .int w_10, .int w_11])), (ps, .inr (6, [.ref p, .ref we, .ref inp, .ref ba, .ref gu, .int ps_5, .int ps_6, .int ps_7])), (p, .inr (7, [.ref te, .ref de, .int (nI zp_2_961)])), (te, .inl (E.2.2.1 0, 8, .inl zte_f_962)), (de, .inl (E.2.2.1 0, 8, .inl zde_f_963)), (we, .inl (E.2.2.1 0, 16, .inl we_f)), (inp, .inl (E.2.2.1 0, 128, .inl inp_f)), (md, .inr (5, [.ref mi, .long md_1, .long md_2])), (mi, .inl (E.2.2.1 3, 6, .inr (.inl mi_f)))]) [7, 8, 9, 0, 1, 2, 10, 11, 12, 3, 4, 5, 6] (by decide) rfl ?_
                    exact g_zret B hr (by decide) dX3_readHead_162 (by decide) (by decide) ⟨b1_1, b1_2, b1_3, w_2, w_3, w_4, w_5, w_6, w_7, w_8, w_9, w_10, w_11, ps_5, zp_2_961, zte_f_962, zde_f_963, we_f, inp_f, md_1, md_2, mi_f, 0, (Or.inl rfl), (by first | assumption | omega | decide), (by first | assumption | omega | decide), (by first | assumption | omega | decide), (by first | assumption | omega | decide), e_, rfl, rfl⟩
              · replace e_ := fun β k_ => (e_ β k_).trans (if_neg c105_959)
                refine g_iconst (v := 1) B dX3_readHead_108 (by decide) ?_
                refine g_goto (tgt := 113) B dX3_readHead_109 (by decide) ?_
                refine g_istore (lv' := [(7, .int 1), (6, .int zr_946), (5, .int x_945), (4, .int zr_939), (3, .int zr_937), (0, .ref e), (1, .ref w), (2, .int to_)]) B dX3_readHead_113 (by decide) rfl ?_
                refine g_bipush (v := 6) B dX3_readHead_115 (by decide) ?_
                refine g_iconst (v := 2) B dX3_readHead_117 (by decide) ?_
                refine g_iload B dX3_readHead_118 1 rfl ?_
                refine g_imul B dX3_readHead_120 ?_
                refine g_iadd B dX3_readHead_121 ?_
                refine g_istore (lv' := [(8, .int (6 + (2 * zr_946))), (7, .int 1), (6, .int zr_946), (5, .int x_945), (4, .int zr_939), (3, .int zr_937), (0, .ref e), (1, .ref w), (2, .int to_)]) B dX3_readHead_122 (by decide) rfl ?_
                refine g_iload B dX3_readHead_124 0 rfl ?_
                refine g_iload B dX3_readHead_126 1 rfl ?_
                refine g_if_eq (tgt := 135) B dX3_readHead_128 (by decide) (fun h => absurd h (by decide)) (fun c128 => ?_)
                refine g_iconst (v := 2) B dX3_readHead_131 (by decide) ?_
                refine g_goto (tgt := 136) B dX3_readHead_132 (by decide) ?_
                refine g_iadd B dX3_readHead_136 ?_
                refine g_istore (lv' := [(9, .int ((6 + (2 * zr_946)) + 2)), (8, .int (6 + (2 * zr_946))), (7, .int 1), (6, .int zr_946), (5, .int x_945), (4, .int zr_939), (3, .int zr_937), (0, .ref e), (1, .ref w), (2, .int to_)]) B dX3_readHead_137 (by decide) rfl ?_
                refine g_iload B dX3_readHead_139 0 rfl ?_
                refine g_iload_n B dX3_readHead_141 rfl 9 rfl ?_
                refine g_icmp_gt (tgt := 161) B dX3_readHead_142 (by decide) (fun c142_994 => ?_) (fun c142_994 => ?_)
                · replace e_ := fun β k_ => (e_ β k_).trans (if_pos c142_994)
                  refine g_iconst (v := 0) B dX3_readHead_161 (by decide) ?_
                  refine g_sub (ws' := [(e, .inr (3, [.ref tp, .ref sd, .ref b1, .ref b2, .ref sh])), (tp, .inr (2, [.ref tpa, .int tp_1])), (tpa, .inl (E.2.2.1 1, 6000, .inl (nb tpa_f))), (b1, .inr (0, [.ref tp, .int b1_1, .int b1_2, .int b1_3])), (w, .inr (9, [.ref ps, .ref md, .int (nI w_2), .int (nI w_3), .int (nI w_4), .int w_5, .int w_6, .int w_7, .int w_8, .int w_9, .int w_10, .int w_11])), (ps, .inr (6, [.ref p, .ref we, .ref inp, .ref ba, .ref gu, .int ps_5, .int ps_6, .int ps_7])), (p, .inr (7, [.ref te, .ref de, .int (nI p_2)])), (te, .inl (E.2.2.1 0, 8, .inl te_f)), (de, .inl (E.2.2.1 0, 8, .inl de_f)), (we, .inl (E.2.2.1 0, 16, .inl we_f)), (inp, .inl (E.2.2.1 0, 128, .inl inp_f)), (md, .inr (5, [.ref mi, .long md_1, .long md_2])), (mi, .inl (E.2.2.1 3, 6, .inr (.inl mi_f)))]) [0, 11, 12, 1, 2, 3, 4, 5, 6, 7, 8, 9, 10] (by decide) rfl ?_
                  exact g_zret B hr (by decide) dX3_readHead_162 (by decide) (by decide) ⟨b1_1, b1_2, b1_3, w_2, w_3, w_4, w_5, w_6, w_7, w_8, w_9, w_10, w_11, ps_5, p_2, te_f, de_f, we_f, inp_f, md_1, md_2, mi_f, 0, (Or.inl rfl), (by first | assumption | omega | decide), (by first | assumption | omega | decide), (by first | assumption | omega | decide), (by first | assumption | omega | decide), e_, rfl, rfl⟩
                · replace e_ := fun β k_ => (e_ β k_).trans (if_neg c142_994)
                  refine g_aload_n B dX3_readHead_145 rfl 7 rfl ?_
                  refine g_aload_n B dX3_readHead_146 rfl 8 rfl ?_
                  refine g_get B 2 0 fl_X3_66 rfl rfl dX3_readHead_147 ?_
                  refine g_get B 3 0 fl_X3_72 rfl rfl dX3_readHead_150 ?_
                  refine g_iload B dX3_readHead_153 3 rfl ?_
                  refine g_callV (st := []) (As := [.ref p, .int zr_946]) (wr := [(b1, .inr (0, [.ref tp, .int b1_1, .int b1_2, .int b1_3])), (w, .inr (9, [.ref ps, .ref md, .int (nI w_2), .int (nI w_3), .int (nI w_4), .int w_5, .int w_6, .int w_7, .int w_8, .int w_9, .int w_10, .int w_11])), (ps, .inr (6, [.ref p, .ref we, .ref inp, .ref ba, .ref gu, .int ps_5, .int ps_6, .int ps_7])), (we, .inl (E.2.2.1 0, 16, .inl we_f)), (inp, .inl (E.2.2.1 0, 128, .inl inp_f)), (md, .inr (5, [.ref mi, .long md_1, .long md_2])), (mi, .inl (E.2.2.1 3, 6, .inr (.inl mi_f)))]) (nc' := 0) (ns' := 0) B cl_X3_78 w_im_X3_readPlan w_se_X3_readPlan (wk_X3_readPlan E e tp sd b1 b2 sh tpa p te de tp_1 tpa_f p_2 te_f de_f zr_946 (by first | assumption | omega | decide)) rfl [0, 11, 12, 4, 5, 6] [1, 2, 3, 7, 8, 9, 10] rfl rfl (by decide) (by decide) (by decide) 0 rfl (fun q h => by cases h; rfl) rfl ⟨by decide, by decide⟩ rfl rfl (by decide) (by decide) rfl (Nat.le_of_ble_eq_true rfl) dX3_readHead_155 (fun v w hq => ?_)
                  obtain ⟨zp_2_995, zte_f_996, zde_f_997, zr_998, hf_999, hf_1000, hz_1001, rfl, rfl⟩ := hq
                  replace e_ := fun β k_ => (e_ β k_).trans (hz_1001 β _)
                  show G E X 11 [(b1, .inr (0, [.ref tp, .int b1_1, .int b1_2, .int b1_3])), (w, .inr (9, [.ref ps, .ref md, .int (nI w_2), .int (nI w_3), .int (nI w_4), .int w_5, .int w_6, .int w_7, .int w_8, .int w_9, .int w_10, .int w_11])), (ps, .inr (6, [.ref p, .ref we, .ref inp, .ref ba, .ref gu, .int ps_5, .int ps_6, .int ps_7])), (we, .inl (E.2.2.1 0, 16, .inl we_f)), (inp, .inl (E.2.2.1 0, 128, .inl inp_f)), (md, .inr (5, [.ref mi, .long md_1, .long md_2])), (mi, .inl (E.2.2.1 3, 6, .inr (.inl mi_f))), (e, .inr (3, [.ref tp, .ref sd, .ref b1, .ref b2, .ref sh])), (tp, .inr (2, [.ref tpa, .int tp_1])), (tpa, .inl (E.2.2.1 1, 6000, .inl (nb tpa_f))), (p, .inr (7, [.ref te, .ref de, .int (nI zp_2_995)])), (te, .inl (E.2.2.1 0, 8, .inl zte_f_996)), (de, .inl (E.2.2.1 0, 8, .inl zde_f_997))] 0 0 [(9, .int ((6 + (2 * zr_946)) + 2)), (8, .int (6 + (2 * zr_946))), (7, .int 1), (6, .int zr_946), (5, .int x_945), (4, .int zr_939), (3, .int zr_937), (0, .ref e), (1, .ref w), (2, .int to_)] 158 [.int zr_998]
                  refine g_if_ne (tgt := 163) B dX3_readHead_158 (by decide) (fun c158_1002 => ?_) (fun c158_1002 => ?_)
                  · replace e_ := fun β k_ => (e_ β k_).trans (if_neg c158_1002)
                    refine g_iload B dX3_readHead_163 2 rfl ?_
                    refine g_if_eq (tgt := 195) B dX3_readHead_165 (by decide) (fun h => absurd h (by decide)) (fun c165 => ?_)
                    refine g_aload_n B dX3_readHead_168 rfl 7 rfl ?_
                    refine g_get B 7 0 fl_X3_9 rfl rfl dX3_readHead_169 ?_
                    refine g_iload B dX3_readHead_172 1 rfl ?_
                    refine g_callV (st := []) (As := [.int (6 + (2 * zr_946))]) (wr := [(b1, .inr (0, [.ref tp, .int b1_1, .int b1_2, .int b1_3])), (w, .inr (9, [.ref ps, .ref md, .int (nI w_2), .int (nI w_3), .int (nI w_4), .int w_5, .int w_6, .int w_7, .int w_8, .int w_9, .int w_10, .int w_11])), (ps, .inr (6, [.ref p, .ref we, .ref inp, .ref ba, .ref gu, .int ps_5, .int ps_6, .int ps_7])), (we, .inl (E.2.2.1 0, 16, .inl we_f)), (inp, .inl (E.2.2.1 0, 128, .inl inp_f)), (md, .inr (5, [.ref mi, .long md_1, .long md_2])), (mi, .inl (E.2.2.1 3, 6, .inr (.inl mi_f))), (e, .inr (3, [.ref tp, .ref sd, .ref b1, .ref b2, .ref sh])), (p, .inr (7, [.ref te, .ref de, .int (nI zp_2_995)])), (te, .inl (E.2.2.1 0, 8, .inl zte_f_996)), (de, .inl (E.2.2.1 0, 8, .inl zde_f_997))]) (nc' := 0) (ns' := 0) B cl_X3_59 w_im_X2_at w_se_X2_at (wk_X2_at E tp tpa 6000 tp_1 tpa_f (6 + (2 * zr_946)) (by first | assumption | omega | decide)) rfl [8, 9] [0, 1, 2, 3, 4, 5, 6, 7, 10, 11, 12] rfl rfl (by decide) (by decide) (by decide) 0 rfl (fun q h => by cases h; rfl) rfl ⟨by decide, by decide⟩ rfl rfl (by decide) (by decide) rfl (Nat.le_of_ble_eq_true rfl) dX3_readHead_174 (fun v w hq => ?_)
                    obtain ⟨zr_1003, hz_1004, rfl, rfl⟩ := hq
                    replace e_ := fun β k_ => (e_ β k_).trans (hz_1004 β _)
                    show G E X 11 [(b1, .inr (0, [.ref tp, .int b1_1, .int b1_2, .int b1_3])), (w, .inr (9, [.ref ps, .ref md, .int (nI w_2), .int (nI w_3), .int (nI w_4), .int w_5, .int w_6, .int w_7, .int w_8, .int w_9, .int w_10, .int w_11])), (ps, .inr (6, [.ref p, .ref we, .ref inp, .ref ba, .ref gu, .int ps_5, .int ps_6, .int ps_7])), (we, .inl (E.2.2.1 0, 16, .inl we_f)), (inp, .inl (E.2.2.1 0, 128, .inl inp_f)), (md, .inr (5, [.ref mi, .long md_1, .long md_2])), (mi, .inl (E.2.2.1 3, 6, .inr (.inl mi_f))), (e, .inr (3, [.ref tp, .ref sd, .ref b1, .ref b2, .ref sh])), (p, .inr (7, [.ref te, .ref de, .int (nI zp_2_995)])), (te, .inl (E.2.2.1 0, 8, .inl zte_f_996)), (de, .inl (E.2.2.1 0, 8, .inl zde_f_997)), (tp, .inr (2, [.ref tpa, .int tp_1])), (tpa, .inl (E.2.2.1 1, 6000, .inl (nb tpa_f)))] 0 0 [(9, .int ((6 + (2 * zr_946)) + 2)), (8, .int (6 + (2 * zr_946))), (7, .int 1), (6, .int zr_946), (5, .int x_945), (4, .int zr_939), (3, .int zr_937), (0, .ref e), (1, .ref w), (2, .int to_)] 177 [.int zr_1003]
                    refine g_bipush (v := 8) B dX3_readHead_177 (by decide) ?_
                    refine g_ishl B dX3_readHead_179 ?_
                    refine g_aload_n B dX3_readHead_180 rfl 7 rfl ?_
                    refine g_get B 7 0 fl_X3_9 rfl rfl dX3_readHead_181 ?_
                    refine g_iload B dX3_readHead_184 1 rfl ?_
                    refine g_iconst (v := 1) B dX3_readHead_186 (by decide) ?_
                    refine g_iadd B dX3_readHead_187 ?_
                    refine g_callV (st := [.int (zr_1003 <<< (8 &&& 31))]) (As := [.int ((6 + (2 * zr_946)) + 1)]) (wr := [(b1, .inr (0, [.ref tp, .int b1_1, .int b1_2, .int b1_3])), (w, .inr (9, [.ref ps, .ref md, .int (nI w_2), .int (nI w_3), .int (nI w_4), .int w_5, .int w_6, .int w_7, .int w_8, .int w_9, .int w_10, .int w_11])), (ps, .inr (6, [.ref p, .ref we, .ref inp, .ref ba, .ref gu, .int ps_5, .int ps_6, .int ps_7])), (we, .inl (E.2.2.1 0, 16, .inl we_f)), (inp, .inl (E.2.2.1 0, 128, .inl inp_f)), (md, .inr (5, [.ref mi, .long md_1, .long md_2])), (mi, .inl (E.2.2.1 3, 6, .inr (.inl mi_f))), (e, .inr (3, [.ref tp, .ref sd, .ref b1, .ref b2, .ref sh])), (p, .inr (7, [.ref te, .ref de, .int (nI zp_2_995)])), (te, .inl (E.2.2.1 0, 8, .inl zte_f_996)), (de, .inl (E.2.2.1 0, 8, .inl zde_f_997))]) (nc' := 0) (ns' := 0) B cl_X3_59 w_im_X2_at w_se_X2_at (wk_X2_at E tp tpa 6000 tp_1 tpa_f ((6 + (2 * zr_946)) + 1) (by first | assumption | omega | decide)) rfl [11, 12] [0, 1, 2, 3, 4, 5, 6, 7, 8, 9, 10] rfl rfl (by decide) (by decide) (by decide) 0 rfl (fun q h => by cases h; rfl) rfl ⟨by decide, by decide⟩ rfl rfl (by decide) (by decide) rfl (Nat.le_of_ble_eq_true rfl) dX3_readHead_188 (fun v w hq => ?_)
                    obtain ⟨zr_1005, hz_1006, rfl, rfl⟩ := hq
                    replace e_ := fun β k_ => (e_ β k_).trans (hz_1006 β _)
                    show G E X 11 [(b1, .inr (0, [.ref tp, .int b1_1, .int b1_2, .int b1_3])), (w, .inr (9, [.ref ps, .ref md, .int (nI w_2), .int (nI w_3), .int (nI w_4), .int w_5, .int w_6, .int w_7, .int w_8, .int w_9, .int w_10, .int w_11])), (ps, .inr (6, [.ref p, .ref we, .ref inp, .ref ba, .ref gu, .int ps_5, .int ps_6, .int ps_7])), (we, .inl (E.2.2.1 0, 16, .inl we_f)), (inp, .inl (E.2.2.1 0, 128, .inl inp_f)), (md, .inr (5, [.ref mi, .long md_1, .long md_2])), (mi, .inl (E.2.2.1 3, 6, .inr (.inl mi_f))), (e, .inr (3, [.ref tp, .ref sd, .ref b1, .ref b2, .ref sh])), (p, .inr (7, [.ref te, .ref de, .int (nI zp_2_995)])), (te, .inl (E.2.2.1 0, 8, .inl zte_f_996)), (de, .inl (E.2.2.1 0, 8, .inl zde_f_997)), (tp, .inr (2, [.ref tpa, .int tp_1])), (tpa, .inl (E.2.2.1 1, 6000, .inl (nb tpa_f)))] 0 0 [(9, .int ((6 + (2 * zr_946)) + 2)), (8, .int (6 + (2 * zr_946))), (7, .int 1), (6, .int zr_946), (5, .int x_945), (4, .int zr_939), (3, .int zr_937), (0, .ref e), (1, .ref w), (2, .int to_)] 191 [.int zr_1005, .int (zr_1003 <<< (8 &&& 31))]
                    refine g_ior B dX3_readHead_191 ?_
                    refine g_goto (tgt := 196) B dX3_readHead_192 (by decide) ?_
                    refine g_topi (fun x_1007 ex_1007 => ?_)
                    replace e_ := fun β k_ => (e_ β k_).trans (fnL_eq (x := x_1007) ex_1007.symm _)
                    refine g_istore (lv' := [(10, .int x_1007), (9, .int ((6 + (2 * zr_946)) + 2)), (8, .int (6 + (2 * zr_946))), (7, .int 1), (6, .int zr_946), (5, .int x_945), (4, .int zr_939), (3, .int zr_937), (0, .ref e), (1, .ref w), (2, .int to_)]) B dX3_readHead_196 (by decide) rfl ?_
                    refine g_aload_n B dX3_readHead_198 rfl 9 rfl ?_
                    refine g_iload_n B dX3_readHead_199 rfl 7 rfl ?_
                    refine g_iload B dX3_readHead_200 6 rfl ?_
                    refine g_iload B dX3_readHead_202 5 rfl ?_
                    refine g_iload B dX3_readHead_204 0 rfl ?_
                    obtain ⟨nf_1008, hnf_1008, rfl⟩ := fr_of (x := x_945) c81_956 c89_957
                    replace e_ := fun β k_ => (e_ β k_).trans (fnL_eq (x := nf_1008) (nI_clamp (by omega)) _)
                    refine g_callV (st := []) (As := [.int zr_937, .int zr_939, .int (nI nf_1008), .int x_1007]) (wr := [(b1, .inr (0, [.ref tp, .int b1_1, .int b1_2, .int b1_3])), (e, .inr (3, [.ref tp, .ref sd, .ref b1, .ref b2, .ref sh])), (p, .inr (7, [.ref te, .ref de, .int (nI zp_2_995)])), (te, .inl (E.2.2.1 0, 8, .inl zte_f_996)), (de, .inl (E.2.2.1 0, 8, .inl zde_f_997)), (tp, .inr (2, [.ref tpa, .int tp_1])), (tpa, .inl (E.2.2.1 1, 6000, .inl (nb tpa_f)))]) (nc' := 0) (ns' := 0) B cl_X3_82 w_im_X9_begin w_se_X9_begin (wk_X9_begin E w ps md p we inp ba gu mi nf_1008 ps_6 ps_7 w_2 w_3 w_4 w_5 w_6 w_7 w_8 w_9 w_10 w_11 ps_5 we_f inp_f md_1 md_2 mi_f zr_937 zr_939 x_1007 (by first | assumption | omega | decide) (by first | assumption | omega | decide) (by first | assumption | omega | decide) (by first | assumption | omega | decide)) rfl [1, 2, 3, 4, 5, 6] [0, 7, 8, 9, 10, 11, 12] rfl rfl (by decide) (by decide) (by decide) 0 rfl (fun q h => by cases h; rfl) rfl ⟨by decide, by decide⟩ rfl rfl (by decide) (by decide) rfl (Nat.le_of_ble_eq_true rfl) dX3_readHead_206 (fun v w hq => ?_)
                    obtain ⟨zw_2_1009, zw_3_1010, zw_4_1011, zw_5_1012, zw_6_1013, zw_7_1014, zw_8_1015, zw_9_1016, zw_10_1017, zw_11_1018, zps_5_1019, zwe_f_1020, zinp_f_1021, zmd_1_1022, zmd_2_1023, zmi_f_1024, hf_1025, hf_1026, hf_1027, hz_1028, rfl, rfl⟩ := hq
                    replace e_ := fun β k_ => (e_ β k_).trans (hz_1028 β _)
                    show G E X 11 [(b1, .inr (0, [.ref tp, .int b1_1, .int b1_2, .int b1_3])), (e, .inr (3, [.ref tp, .ref sd, .ref b1, .ref b2, .ref sh])), (p, .inr (7, [.ref te, .ref de, .int (nI zp_2_995)])), (te, .inl (E.2.2.1 0, 8, .inl zte_f_996)), (de, .inl (E.2.2.1 0, 8, .inl zde_f_997)), (tp, .inr (2, [.ref tpa, .int tp_1])), (tpa, .inl (E.2.2.1 1, 6000, .inl (nb tpa_f))), (w, .inr (9, [.ref ps, .ref md, .int (nI zw_2_1009), .int (nI zw_3_1010), .int (nI zw_4_1011), .int zw_5_1012, .int zw_6_1013, .int zw_7_1014, .int zw_8_1015, .int zw_9_1016, .int zw_10_1017, .int zw_11_1018])), (ps, .inr (6, [.ref p, .ref we, .ref inp, .ref ba, .ref gu, .int zps_5_1019, .int ps_6, .int ps_7])), (we, .inl (E.2.2.1 0, 16, .inl zwe_f_1020)), (inp, .inl (E.2.2.1 0, 128, .inl zinp_f_1021)), (md, .inr (5, [.ref mi, .long zmd_1_1022, .long zmd_2_1023])), (mi, .inl (E.2.2.1 3, 6, .inr (.inl zmi_f_1024)))] 0 0 [(10, .int x_1007), (9, .int ((6 + (2 * zr_946)) + 2)), (8, .int (6 + (2 * zr_946))), (7, .int 1), (6, .int zr_946), (5, .int (nI nf_1008)), (4, .int zr_939), (3, .int zr_937), (0, .ref e), (1, .ref w), (2, .int to_)] 209 []
                    refine g_aload_n B dX3_readHead_209 rfl 8 rfl ?_
                    refine g_get B 1 2 fl_X3_27 rfl rfl dX3_readHead_210 ?_
                    refine g_iload B dX3_readHead_213 1 rfl ?_
                    refine g_iload_n B dX3_readHead_215 rfl 10 rfl ?_
                    refine g_callV (st := []) (As := [.int ((6 + (2 * zr_946)) + 2), .int to_]) (wr := [(e, .inr (3, [.ref tp, .ref sd, .ref b1, .ref b2, .ref sh])), (p, .inr (7, [.ref te, .ref de, .int (nI zp_2_995)])), (te, .inl (E.2.2.1 0, 8, .inl zte_f_996)), (de, .inl (E.2.2.1 0, 8, .inl zde_f_997)), (tp, .inr (2, [.ref tpa, .int tp_1])), (tpa, .inl (E.2.2.1 1, 6000, .inl (nb tpa_f))), (w, .inr (9, [.ref ps, .ref md, .int (nI zw_2_1009), .int (nI zw_3_1010), .int (nI zw_4_1011), .int zw_5_1012, .int zw_6_1013, .int zw_7_1014, .int zw_8_1015, .int zw_9_1016, .int zw_10_1017, .int zw_11_1018])), (ps, .inr (6, [.ref p, .ref we, .ref inp, .ref ba, .ref gu, .int zps_5_1019, .int ps_6, .int ps_7])), (we, .inl (E.2.2.1 0, 16, .inl zwe_f_1020)), (inp, .inl (E.2.2.1 0, 128, .inl zinp_f_1021)), (md, .inr (5, [.ref mi, .long zmd_1_1022, .long zmd_2_1023])), (mi, .inl (E.2.2.1 3, 6, .inr (.inl zmi_f_1024)))]) (nc' := 0) (ns' := 0) B cl_X3_86 w_im_X0_start w_se_X0_start (wk_X0_start E b1 tp b1_1 b1_2 b1_3 ((6 + (2 * zr_946)) + 2) to_ ) rfl [0] [1, 2, 3, 4, 5, 6, 7, 8, 9, 10, 11, 12] rfl rfl (by decide) (by decide) (by decide) 0 rfl (fun q h => by cases h; rfl) rfl ⟨by decide, by decide⟩ rfl rfl (by decide) (by decide) rfl (Nat.le_of_ble_eq_true rfl) dX3_readHead_216 (fun v w hq => ?_)
                    obtain ⟨zb_1_1029, zb_2_1030, zb_3_1031, hz_1032, rfl, rfl⟩ := hq
                    replace e_ := fun β k_ => (e_ β k_).trans (hz_1032 β _)
                    show G E X 11 [(e, .inr (3, [.ref tp, .ref sd, .ref b1, .ref b2, .ref sh])), (p, .inr (7, [.ref te, .ref de, .int (nI zp_2_995)])), (te, .inl (E.2.2.1 0, 8, .inl zte_f_996)), (de, .inl (E.2.2.1 0, 8, .inl zde_f_997)), (tp, .inr (2, [.ref tpa, .int tp_1])), (tpa, .inl (E.2.2.1 1, 6000, .inl (nb tpa_f))), (w, .inr (9, [.ref ps, .ref md, .int (nI zw_2_1009), .int (nI zw_3_1010), .int (nI zw_4_1011), .int zw_5_1012, .int zw_6_1013, .int zw_7_1014, .int zw_8_1015, .int zw_9_1016, .int zw_10_1017, .int zw_11_1018])), (ps, .inr (6, [.ref p, .ref we, .ref inp, .ref ba, .ref gu, .int zps_5_1019, .int ps_6, .int ps_7])), (we, .inl (E.2.2.1 0, 16, .inl zwe_f_1020)), (inp, .inl (E.2.2.1 0, 128, .inl zinp_f_1021)), (md, .inr (5, [.ref mi, .long zmd_1_1022, .long zmd_2_1023])), (mi, .inl (E.2.2.1 3, 6, .inr (.inl zmi_f_1024))), (b1, .inr (0, [.ref tp, .int zb_1_1029, .int zb_2_1030, .int zb_3_1031]))] 0 0 [(10, .int x_1007), (9, .int ((6 + (2 * zr_946)) + 2)), (8, .int (6 + (2 * zr_946))), (7, .int 1), (6, .int zr_946), (5, .int (nI nf_1008)), (4, .int zr_939), (3, .int zr_937), (0, .ref e), (1, .ref w), (2, .int to_)] 219 []
                    refine g_iload B dX3_readHead_219 3 rfl ?_
                    refine g_if_eq (tgt := 229) B dX3_readHead_221 (by decide) (fun h => absurd h (by decide)) (fun c221 => ?_)
                    refine g_iload B dX3_readHead_224 0 rfl ?_
                    refine g_if_le (tgt := 233) B dX3_readHead_226 (by decide) (fun c226_1033 => ?_) (fun c226_1033 => ?_)
                    · replace e_ := fun β k_ => (e_ β k_).trans (if_pos c226_1033)
                      refine g_iconst (v := 0) B dX3_readHead_233 (by decide) ?_
                      refine g_sub (ws' := [(e, .inr (3, [.ref tp, .ref sd, .ref b1, .ref b2, .ref sh])), (tp, .inr (2, [.ref tpa, .int tp_1])), (tpa, .inl (E.2.2.1 1, 6000, .inl (nb tpa_f))), (b1, .inr (0, [.ref tp, .int zb_1_1029, .int zb_2_1030, .int zb_3_1031])), (w, .inr (9, [.ref ps, .ref md, .int (nI zw_2_1009), .int (nI zw_3_1010), .int (nI zw_4_1011), .int zw_5_1012, .int zw_6_1013, .int zw_7_1014, .int zw_8_1015, .int zw_9_1016, .int zw_10_1017, .int zw_11_1018])), (ps, .inr (6, [.ref p, .ref we, .ref inp, .ref ba, .ref gu, .int zps_5_1019, .int ps_6, .int ps_7])), (p, .inr (7, [.ref te, .ref de, .int (nI zp_2_995)])), (te, .inl (E.2.2.1 0, 8, .inl zte_f_996)), (de, .inl (E.2.2.1 0, 8, .inl zde_f_997)), (we, .inl (E.2.2.1 0, 16, .inl zwe_f_1020)), (inp, .inl (E.2.2.1 0, 128, .inl zinp_f_1021)), (md, .inr (5, [.ref mi, .long zmd_1_1022, .long zmd_2_1023])), (mi, .inl (E.2.2.1 3, 6, .inr (.inl zmi_f_1024)))]) [0, 4, 5, 12, 6, 7, 1, 2, 3, 8, 9, 10, 11] (by decide) rfl ?_
                      exact g_zret B hr (by decide) dX3_readHead_234 (by decide) (by decide) ⟨zb_1_1029, zb_2_1030, zb_3_1031, zw_2_1009, zw_3_1010, zw_4_1011, zw_5_1012, zw_6_1013, zw_7_1014, zw_8_1015, zw_9_1016, zw_10_1017, zw_11_1018, zps_5_1019, zp_2_995, zte_f_996, zde_f_997, zwe_f_1020, zinp_f_1021, zmd_1_1022, zmd_2_1023, zmi_f_1024, 0, (Or.inl rfl), (by first | assumption | omega | decide), (by first | assumption | omega | decide), (by first | assumption | omega | decide), (by first | assumption | omega | decide), e_, rfl, rfl⟩
                    · replace e_ := fun β k_ => (e_ β k_).trans (if_neg c226_1033)
                      refine g_iconst (v := 1) B dX3_readHead_229 (by decide) ?_
                      refine g_goto (tgt := 234) B dX3_readHead_230 (by decide) ?_
                      refine g_sub (ws' := [(e, .inr (3, [.ref tp, .ref sd, .ref b1, .ref b2, .ref sh])), (tp, .inr (2, [.ref tpa, .int tp_1])), (tpa, .inl (E.2.2.1 1, 6000, .inl (nb tpa_f))), (b1, .inr (0, [.ref tp, .int zb_1_1029, .int zb_2_1030, .int zb_3_1031])), (w, .inr (9, [.ref ps, .ref md, .int (nI zw_2_1009), .int (nI zw_3_1010), .int (nI zw_4_1011), .int zw_5_1012, .int zw_6_1013, .int zw_7_1014, .int zw_8_1015, .int zw_9_1016, .int zw_10_1017, .int zw_11_1018])), (ps, .inr (6, [.ref p, .ref we, .ref inp, .ref ba, .ref gu, .int zps_5_1019, .int ps_6, .int ps_7])), (p, .inr (7, [.ref te, .ref de, .int (nI zp_2_995)])), (te, .inl (E.2.2.1 0, 8, .inl zte_f_996)), (de, .inl (E.2.2.1 0, 8, .inl zde_f_997)), (we, .inl (E.2.2.1 0, 16, .inl zwe_f_1020)), (inp, .inl (E.2.2.1 0, 128, .inl zinp_f_1021)), (md, .inr (5, [.ref mi, .long zmd_1_1022, .long zmd_2_1023])), (mi, .inl (E.2.2.1 3, 6, .inr (.inl zmi_f_1024)))]) [0, 4, 5, 12, 6, 7, 1, 2, 3, 8, 9, 10, 11] (by decide) rfl ?_
                      exact g_zret B hr (by decide) dX3_readHead_234 (by decide) (by decide) ⟨zb_1_1029, zb_2_1030, zb_3_1031, zw_2_1009, zw_3_1010, zw_4_1011, zw_5_1012, zw_6_1013, zw_7_1014, zw_8_1015, zw_9_1016, zw_10_1017, zw_11_1018, zps_5_1019, zp_2_995, zte_f_996, zde_f_997, zwe_f_1020, zinp_f_1021, zmd_1_1022, zmd_2_1023, zmi_f_1024, 1, (Or.inr rfl), (by first | assumption | omega | decide), (by first | assumption | omega | decide), (by first | assumption | omega | decide), (by first | assumption | omega | decide), e_, rfl, rfl⟩
                  · replace e_ := fun β k_ => (e_ β k_).trans (if_pos c158_1002)
                    refine g_iconst (v := 0) B dX3_readHead_161 (by decide) ?_
                    refine g_sub (ws' := [(e, .inr (3, [.ref tp, .ref sd, .ref b1, .ref b2, .ref sh])), (tp, .inr (2, [.ref tpa, .int tp_1])), (tpa, .inl (E.2.2.1 1, 6000, .inl (nb tpa_f))), (b1, .inr (0, [.ref tp, .int b1_1, .int b1_2, .int b1_3])), (w, .inr (9, [.ref ps, .ref md, .int (nI w_2), .int (nI w_3), .int (nI w_4), .int w_5, .int w_6, .int w_7, .int w_8, .int w_9, .int w_10, .int w_11])), (ps, .inr (6, [.ref p, .ref we, .ref inp, .ref ba, .ref gu, .int ps_5, .int ps_6, .int ps_7])), (p, .inr (7, [.ref te, .ref de, .int (nI zp_2_995)])), (te, .inl (E.2.2.1 0, 8, .inl zte_f_996)), (de, .inl (E.2.2.1 0, 8, .inl zde_f_997)), (we, .inl (E.2.2.1 0, 16, .inl we_f)), (inp, .inl (E.2.2.1 0, 128, .inl inp_f)), (md, .inr (5, [.ref mi, .long md_1, .long md_2])), (mi, .inl (E.2.2.1 3, 6, .inr (.inl mi_f)))]) [7, 8, 9, 0, 1, 2, 10, 11, 12, 3, 4, 5, 6] (by decide) rfl ?_
                    exact g_zret B hr (by decide) dX3_readHead_162 (by decide) (by decide) ⟨b1_1, b1_2, b1_3, w_2, w_3, w_4, w_5, w_6, w_7, w_8, w_9, w_10, w_11, ps_5, zp_2_995, zte_f_996, zde_f_997, we_f, inp_f, md_1, md_2, mi_f, 0, (Or.inl rfl), (by first | assumption | omega | decide), (by first | assumption | omega | decide), (by first | assumption | omega | decide), (by first | assumption | omega | decide), e_, rfl, rfl⟩
            · replace e_ := fun β k_ => (e_ β k_).trans (if_neg c96_958)
              refine g_iconst (v := 0) B dX3_readHead_99 (by decide) ?_
              refine g_sub (ws' := [(e, .inr (3, [.ref tp, .ref sd, .ref b1, .ref b2, .ref sh])), (tp, .inr (2, [.ref tpa, .int tp_1])), (tpa, .inl (E.2.2.1 1, 6000, .inl (nb tpa_f))), (b1, .inr (0, [.ref tp, .int b1_1, .int b1_2, .int b1_3])), (w, .inr (9, [.ref ps, .ref md, .int (nI w_2), .int (nI w_3), .int (nI w_4), .int w_5, .int w_6, .int w_7, .int w_8, .int w_9, .int w_10, .int w_11])), (ps, .inr (6, [.ref p, .ref we, .ref inp, .ref ba, .ref gu, .int ps_5, .int ps_6, .int ps_7])), (p, .inr (7, [.ref te, .ref de, .int (nI p_2)])), (te, .inl (E.2.2.1 0, 8, .inl te_f)), (de, .inl (E.2.2.1 0, 8, .inl de_f)), (we, .inl (E.2.2.1 0, 16, .inl we_f)), (inp, .inl (E.2.2.1 0, 128, .inl inp_f)), (md, .inr (5, [.ref mi, .long md_1, .long md_2])), (mi, .inl (E.2.2.1 3, 6, .inr (.inl mi_f)))]) [0, 11, 12, 1, 2, 3, 4, 5, 6, 7, 8, 9, 10] (by decide) rfl ?_
              exact g_zret B hr (by decide) dX3_readHead_100 (by decide) (by decide) ⟨b1_1, b1_2, b1_3, w_2, w_3, w_4, w_5, w_6, w_7, w_8, w_9, w_10, w_11, ps_5, p_2, te_f, de_f, we_f, inp_f, md_1, md_2, mi_f, 0, (Or.inl rfl), (by first | assumption | omega | decide), (by first | assumption | omega | decide), (by first | assumption | omega | decide), (by first | assumption | omega | decide), e_, rfl, rfl⟩
