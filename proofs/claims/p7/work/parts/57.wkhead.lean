theorem nar01 {v : Int32} (h : v = 0 ∨ v = 1) : narrow .boolean (.int v) = .int v := by
  rcases h with rfl | rfl <;> rfl
theorem fr_of {x : Int32} (h1 : ¬ x < 1) (h2 : ¬ 600 < x) : ∃ n : Nat, n ≤ 600 ∧ x = nI n := by
  refine nI_of2 (M := 600) (by decide) (fun h => h1 ?_) (o_1 h2)
  have h3 := Int32.lt_iff_toInt_lt.mp h
  exact Int32.lt_iff_toInt_lt.mpr (by have e0 : (0 : Int32).toInt = 0 := by decide
                                      have e1 : (1 : Int32).toInt = 1 := by decide
                                      omega)
abbrev MX3_areFlags : g_M := (yX3_areFlags, cX3_areFlags, 4, (some .boolean))
theorem dX3_areFlags_0 : decode cX3_areFlags 0 = .ok (.iload_n 0, 1) := by decide +kernel
theorem dX3_areFlags_1 : decode cX3_areFlags 1 = .ok (.iconst 1, 1) := by decide +kernel
theorem dX3_areFlags_2 : decode cX3_areFlags 2 = .ok (.iand, 1) := by decide +kernel
theorem dX3_areFlags_3 : decode cX3_areFlags 3 = .ok (.ifCond .eq 7, 3) := by decide +kernel
theorem dX3_areFlags_10 : decode cX3_areFlags 10 = .ok (.iconst 0, 1) := by decide +kernel
theorem dX3_areFlags_11 : decode cX3_areFlags 11 = .ok (.istore_n 1, 1) := by decide +kernel
theorem dX3_areFlags_12 : decode cX3_areFlags 12 = .ok (.iload_n 0, 1) := by decide +kernel
theorem dX3_areFlags_13 : decode cX3_areFlags 13 = .ok (.iconst 2, 1) := by decide +kernel
theorem dX3_areFlags_14 : decode cX3_areFlags 14 = .ok (.iand, 1) := by decide +kernel
theorem dX3_areFlags_15 : decode cX3_areFlags 15 = .ok (.ifCond .eq 7, 3) := by decide +kernel
theorem dX3_areFlags_22 : decode cX3_areFlags 22 = .ok (.iconst 0, 1) := by decide +kernel
theorem dX3_areFlags_23 : decode cX3_areFlags 23 = .ok (.istore_n 2, 1) := by decide +kernel
theorem dX3_areFlags_24 : decode cX3_areFlags 24 = .ok (.iload_n 0, 1) := by decide +kernel
theorem dX3_areFlags_25 : decode cX3_areFlags 25 = .ok (.iconst 4, 1) := by decide +kernel
theorem dX3_areFlags_26 : decode cX3_areFlags 26 = .ok (.iand, 1) := by decide +kernel
theorem dX3_areFlags_27 : decode cX3_areFlags 27 = .ok (.ifCond .eq 7, 3) := by decide +kernel
theorem dX3_areFlags_34 : decode cX3_areFlags 34 = .ok (.iconst 0, 1) := by decide +kernel
theorem dX3_areFlags_35 : decode cX3_areFlags 35 = .ok (.istore_n 3, 1) := by decide +kernel
theorem dX3_areFlags_36 : decode cX3_areFlags 36 = .ok (.iload_n 0, 1) := by decide +kernel
theorem dX3_areFlags_37 : decode cX3_areFlags 37 = .ok (.bipush 15, 2) := by decide +kernel
theorem dX3_areFlags_39 : decode cX3_areFlags 39 = .ok (.if_icmp .gt 27, 3) := by decide +kernel
theorem dX3_areFlags_66 : decode cX3_areFlags 66 = .ok (.iconst 0, 1) := by decide +kernel
theorem dX3_areFlags_67 : decode cX3_areFlags 67 = .ok (.ireturn, 1) := by decide +kernel
theorem dX3_areFlags_42 : decode cX3_areFlags 42 = .ok (.iload_n 1, 1) := by decide +kernel
theorem dX3_areFlags_43 : decode cX3_areFlags 43 = .ok (.ifCond .ne 11, 3) := by decide +kernel
theorem dX3_areFlags_46 : decode cX3_areFlags 46 = .ok (.iload_n 2, 1) := by decide +kernel
theorem dX3_areFlags_47 : decode cX3_areFlags 47 = .ok (.ifCond .ne 19, 3) := by decide +kernel
theorem dX3_areFlags_50 : decode cX3_areFlags 50 = .ok (.iload_n 3, 1) := by decide +kernel
theorem dX3_areFlags_51 : decode cX3_areFlags 51 = .ok (.ifCond .ne 15, 3) := by decide +kernel
theorem dX3_areFlags_54 : decode cX3_areFlags 54 = .ok (.iload_n 2, 1) := by decide +kernel
theorem dX3_areFlags_55 : decode cX3_areFlags 55 = .ok (.ifCond .eq 7, 3) := by decide +kernel
theorem dX3_areFlags_62 : decode cX3_areFlags 62 = .ok (.iconst 1, 1) := by decide +kernel
theorem dX3_areFlags_63 : decode cX3_areFlags 63 = .ok (.goto 4, 3) := by decide +kernel
theorem dX3_areFlags_30 : decode cX3_areFlags 30 = .ok (.iconst 1, 1) := by decide +kernel
theorem dX3_areFlags_31 : decode cX3_areFlags 31 = .ok (.goto 4, 3) := by decide +kernel
theorem dX3_areFlags_18 : decode cX3_areFlags 18 = .ok (.iconst 1, 1) := by decide +kernel
theorem dX3_areFlags_19 : decode cX3_areFlags 19 = .ok (.goto 4, 3) := by decide +kernel
theorem dX3_areFlags_6 : decode cX3_areFlags 6 = .ok (.iconst 1, 1) := by decide +kernel
theorem dX3_areFlags_7 : decode cX3_areFlags 7 = .ok (.goto 4, 3) := by decide +kernel
theorem dX3_areFlags_58 : decode cX3_areFlags 58 = .ok (.iload_n 3, 1) := by decide +kernel
theorem dX3_areFlags_59 : decode cX3_areFlags 59 = .ok (.ifCond .ne 7, 3) := by decide +kernel
set_option maxRecDepth 100000 in
set_option maxHeartbeats 4000000 in
theorem wk_X3_areFlags (E : g_E) (fl : Int32)  : Ev E MX3_areFlags 0 0 0 0 [.int fl] [] (fun v_ w_ => ∃ zr : Int32, (zr = 0 ∨ zr = 1) ∧ v_ = some (.int zr) ∧ w_ = []) := by
  refine Ev.intro (by decide) (Nat.le_of_ble_eq_true rfl) ?_
  intro X B hr hI
  have B : Bd E X cX3_areFlags RX3 4 0 0 0 0 := B
  have hr : Rt E X (some .boolean) 0 0 (fun v_ w_ => ∃ zr : Int32, (zr = 0 ∨ zr = 1) ∧ v_ = some (.int zr) ∧ w_ = []) := hr
  show G E X 4 [] 0 0 [(0, .int fl)] 0 []
  refine g_iload_n B dX3_areFlags_0 rfl 0 rfl ?_
  refine g_iconst (v := 1) B dX3_areFlags_1 (by decide) ?_
  refine g_iand B dX3_areFlags_2 ?_
  refine g_if_eq (tgt := 10) B dX3_areFlags_3 (by decide) (fun c3_994 => ?_) (fun c3_994 => ?_)
  · refine g_iconst (v := 0) B dX3_areFlags_10 (by decide) ?_
    refine g_istore_n (lv' := [(1, .int 0), (0, .int fl)]) B dX3_areFlags_11 rfl (by decide) rfl ?_
    refine g_iload_n B dX3_areFlags_12 rfl 1 rfl ?_
    refine g_iconst (v := 2) B dX3_areFlags_13 (by decide) ?_
    refine g_iand B dX3_areFlags_14 ?_
    refine g_if_eq (tgt := 22) B dX3_areFlags_15 (by decide) (fun c15_995 => ?_) (fun c15_995 => ?_)
    · refine g_iconst (v := 0) B dX3_areFlags_22 (by decide) ?_
      refine g_istore_n (lv' := [(2, .int 0), (1, .int 0), (0, .int fl)]) B dX3_areFlags_23 rfl (by decide) rfl ?_
      refine g_iload_n B dX3_areFlags_24 rfl 2 rfl ?_
      refine g_iconst (v := 4) B dX3_areFlags_25 (by decide) ?_
      refine g_iand B dX3_areFlags_26 ?_
      refine g_if_eq (tgt := 34) B dX3_areFlags_27 (by decide) (fun c27_996 => ?_) (fun c27_996 => ?_)
      · refine g_iconst (v := 0) B dX3_areFlags_34 (by decide) ?_
        refine g_istore_n (lv' := [(3, .int 0), (2, .int 0), (1, .int 0), (0, .int fl)]) B dX3_areFlags_35 rfl (by decide) rfl ?_
        refine g_iload_n B dX3_areFlags_36 rfl 3 rfl ?_
        refine g_bipush (v := 15) B dX3_areFlags_37 (by decide) ?_
        refine g_icmp_gt (tgt := 66) B dX3_areFlags_39 (by decide) (fun c39_997 => ?_) (fun c39_997 => ?_)
        · refine g_iconst (v := 0) B dX3_areFlags_66 (by decide) ?_
          exact g_zret B hr (by decide) dX3_areFlags_67 (by decide) (by decide) ⟨0, (Or.inl rfl), rfl, rfl⟩
        · refine g_iload_n B dX3_areFlags_42 rfl 2 rfl ?_
          refine g_if_ne (tgt := 54) B dX3_areFlags_43 (by decide) (fun h => absurd (by decide) h) (fun c43 => ?_)
          refine g_iload_n B dX3_areFlags_46 rfl 1 rfl ?_
          refine g_if_ne (tgt := 66) B dX3_areFlags_47 (by decide) (fun h => absurd (by decide) h) (fun c47 => ?_)
          refine g_iload_n B dX3_areFlags_50 rfl 0 rfl ?_
          refine g_if_ne (tgt := 66) B dX3_areFlags_51 (by decide) (fun h => absurd (by decide) h) (fun c51 => ?_)
          refine g_iload_n B dX3_areFlags_54 rfl 1 rfl ?_
          refine g_if_eq (tgt := 62) B dX3_areFlags_55 (by decide) (fun c55 => ?_) (fun h => absurd (by decide) h)
          refine g_iconst (v := 1) B dX3_areFlags_62 (by decide) ?_
          refine g_goto (tgt := 67) B dX3_areFlags_63 (by decide) ?_
          exact g_zret B hr (by decide) dX3_areFlags_67 (by decide) (by decide) ⟨1, (Or.inr rfl), rfl, rfl⟩
      · refine g_iconst (v := 1) B dX3_areFlags_30 (by decide) ?_
        refine g_goto (tgt := 35) B dX3_areFlags_31 (by decide) ?_
        refine g_istore_n (lv' := [(3, .int 1), (2, .int 0), (1, .int 0), (0, .int fl)]) B dX3_areFlags_35 rfl (by decide) rfl ?_
        refine g_iload_n B dX3_areFlags_36 rfl 3 rfl ?_
        refine g_bipush (v := 15) B dX3_areFlags_37 (by decide) ?_
        refine g_icmp_gt (tgt := 66) B dX3_areFlags_39 (by decide) (fun c39_998 => ?_) (fun c39_998 => ?_)
        · refine g_iconst (v := 0) B dX3_areFlags_66 (by decide) ?_
          exact g_zret B hr (by decide) dX3_areFlags_67 (by decide) (by decide) ⟨0, (Or.inl rfl), rfl, rfl⟩
        · refine g_iload_n B dX3_areFlags_42 rfl 2 rfl ?_
          refine g_if_ne (tgt := 54) B dX3_areFlags_43 (by decide) (fun h => absurd (by decide) h) (fun c43 => ?_)
          refine g_iload_n B dX3_areFlags_46 rfl 1 rfl ?_
          refine g_if_ne (tgt := 66) B dX3_areFlags_47 (by decide) (fun h => absurd (by decide) h) (fun c47 => ?_)
          refine g_iload_n B dX3_areFlags_50 rfl 0 rfl ?_
          refine g_if_ne (tgt := 66) B dX3_areFlags_51 (by decide) (fun c51 => ?_) (fun h => absurd h (by decide))
          refine g_iconst (v := 0) B dX3_areFlags_66 (by decide) ?_
          exact g_zret B hr (by decide) dX3_areFlags_67 (by decide) (by decide) ⟨0, (Or.inl rfl), rfl, rfl⟩
    · refine g_iconst (v := 1) B dX3_areFlags_18 (by decide) ?_
      refine g_goto (tgt := 23) B dX3_areFlags_19 (by decide) ?_
      refine g_istore_n (lv' := [(2, .int 1), (1, .int 0), (0, .int fl)]) B dX3_areFlags_23 rfl (by decide) rfl ?_
      refine g_iload_n B dX3_areFlags_24 rfl 2 rfl ?_
      refine g_iconst (v := 4) B dX3_areFlags_25 (by decide) ?_
      refine g_iand B dX3_areFlags_26 ?_
      refine g_if_eq (tgt := 34) B dX3_areFlags_27 (by decide) (fun c27_999 => ?_) (fun c27_999 => ?_)
      · refine g_iconst (v := 0) B dX3_areFlags_34 (by decide) ?_
        refine g_istore_n (lv' := [(3, .int 0), (2, .int 1), (1, .int 0), (0, .int fl)]) B dX3_areFlags_35 rfl (by decide) rfl ?_
        refine g_iload_n B dX3_areFlags_36 rfl 3 rfl ?_
        refine g_bipush (v := 15) B dX3_areFlags_37 (by decide) ?_
        refine g_icmp_gt (tgt := 66) B dX3_areFlags_39 (by decide) (fun c39_1000 => ?_) (fun c39_1000 => ?_)
        · refine g_iconst (v := 0) B dX3_areFlags_66 (by decide) ?_
          exact g_zret B hr (by decide) dX3_areFlags_67 (by decide) (by decide) ⟨0, (Or.inl rfl), rfl, rfl⟩
        · refine g_iload_n B dX3_areFlags_42 rfl 2 rfl ?_
          refine g_if_ne (tgt := 54) B dX3_areFlags_43 (by decide) (fun h => absurd (by decide) h) (fun c43 => ?_)
          refine g_iload_n B dX3_areFlags_46 rfl 1 rfl ?_
          refine g_if_ne (tgt := 66) B dX3_areFlags_47 (by decide) (fun c47 => ?_) (fun h => absurd h (by decide))
          refine g_iconst (v := 0) B dX3_areFlags_66 (by decide) ?_
          exact g_zret B hr (by decide) dX3_areFlags_67 (by decide) (by decide) ⟨0, (Or.inl rfl), rfl, rfl⟩
      · refine g_iconst (v := 1) B dX3_areFlags_30 (by decide) ?_
        refine g_goto (tgt := 35) B dX3_areFlags_31 (by decide) ?_
        refine g_istore_n (lv' := [(3, .int 1), (2, .int 1), (1, .int 0), (0, .int fl)]) B dX3_areFlags_35 rfl (by decide) rfl ?_
        refine g_iload_n B dX3_areFlags_36 rfl 3 rfl ?_
        refine g_bipush (v := 15) B dX3_areFlags_37 (by decide) ?_
        refine g_icmp_gt (tgt := 66) B dX3_areFlags_39 (by decide) (fun c39_1001 => ?_) (fun c39_1001 => ?_)
        · refine g_iconst (v := 0) B dX3_areFlags_66 (by decide) ?_
          exact g_zret B hr (by decide) dX3_areFlags_67 (by decide) (by decide) ⟨0, (Or.inl rfl), rfl, rfl⟩
        · refine g_iload_n B dX3_areFlags_42 rfl 2 rfl ?_
          refine g_if_ne (tgt := 54) B dX3_areFlags_43 (by decide) (fun h => absurd (by decide) h) (fun c43 => ?_)
          refine g_iload_n B dX3_areFlags_46 rfl 1 rfl ?_
          refine g_if_ne (tgt := 66) B dX3_areFlags_47 (by decide) (fun c47 => ?_) (fun h => absurd h (by decide))
          refine g_iconst (v := 0) B dX3_areFlags_66 (by decide) ?_
          exact g_zret B hr (by decide) dX3_areFlags_67 (by decide) (by decide) ⟨0, (Or.inl rfl), rfl, rfl⟩
  · refine g_iconst (v := 1) B dX3_areFlags_6 (by decide) ?_
    refine g_goto (tgt := 11) B dX3_areFlags_7 (by decide) ?_
    refine g_istore_n (lv' := [(1, .int 1), (0, .int fl)]) B dX3_areFlags_11 rfl (by decide) rfl ?_
    refine g_iload_n B dX3_areFlags_12 rfl 1 rfl ?_
    refine g_iconst (v := 2) B dX3_areFlags_13 (by decide) ?_
    refine g_iand B dX3_areFlags_14 ?_
    refine g_if_eq (tgt := 22) B dX3_areFlags_15 (by decide) (fun c15_1002 => ?_) (fun c15_1002 => ?_)
    · refine g_iconst (v := 0) B dX3_areFlags_22 (by decide) ?_
      refine g_istore_n (lv' := [(2, .int 0), (1, .int 1), (0, .int fl)]) B dX3_areFlags_23 rfl (by decide) rfl ?_
      refine g_iload_n B dX3_areFlags_24 rfl 2 rfl ?_
      refine g_iconst (v := 4) B dX3_areFlags_25 (by decide) ?_
      refine g_iand B dX3_areFlags_26 ?_
      refine g_if_eq (tgt := 34) B dX3_areFlags_27 (by decide) (fun c27_1003 => ?_) (fun c27_1003 => ?_)
      · refine g_iconst (v := 0) B dX3_areFlags_34 (by decide) ?_
        refine g_istore_n (lv' := [(3, .int 0), (2, .int 0), (1, .int 1), (0, .int fl)]) B dX3_areFlags_35 rfl (by decide) rfl ?_
        refine g_iload_n B dX3_areFlags_36 rfl 3 rfl ?_
        refine g_bipush (v := 15) B dX3_areFlags_37 (by decide) ?_
        refine g_icmp_gt (tgt := 66) B dX3_areFlags_39 (by decide) (fun c39_1004 => ?_) (fun c39_1004 => ?_)
        · refine g_iconst (v := 0) B dX3_areFlags_66 (by decide) ?_
          exact g_zret B hr (by decide) dX3_areFlags_67 (by decide) (by decide) ⟨0, (Or.inl rfl), rfl, rfl⟩
        · refine g_iload_n B dX3_areFlags_42 rfl 2 rfl ?_
          refine g_if_ne (tgt := 54) B dX3_areFlags_43 (by decide) (fun c43 => ?_) (fun h => absurd h (by decide))
          refine g_iload_n B dX3_areFlags_54 rfl 1 rfl ?_
          refine g_if_eq (tgt := 62) B dX3_areFlags_55 (by decide) (fun c55 => ?_) (fun h => absurd (by decide) h)
          refine g_iconst (v := 1) B dX3_areFlags_62 (by decide) ?_
          refine g_goto (tgt := 67) B dX3_areFlags_63 (by decide) ?_
          exact g_zret B hr (by decide) dX3_areFlags_67 (by decide) (by decide) ⟨1, (Or.inr rfl), rfl, rfl⟩
      · refine g_iconst (v := 1) B dX3_areFlags_30 (by decide) ?_
        refine g_goto (tgt := 35) B dX3_areFlags_31 (by decide) ?_
        refine g_istore_n (lv' := [(3, .int 1), (2, .int 0), (1, .int 1), (0, .int fl)]) B dX3_areFlags_35 rfl (by decide) rfl ?_
        refine g_iload_n B dX3_areFlags_36 rfl 3 rfl ?_
        refine g_bipush (v := 15) B dX3_areFlags_37 (by decide) ?_
        refine g_icmp_gt (tgt := 66) B dX3_areFlags_39 (by decide) (fun c39_1005 => ?_) (fun c39_1005 => ?_)
        · refine g_iconst (v := 0) B dX3_areFlags_66 (by decide) ?_
          exact g_zret B hr (by decide) dX3_areFlags_67 (by decide) (by decide) ⟨0, (Or.inl rfl), rfl, rfl⟩
        · refine g_iload_n B dX3_areFlags_42 rfl 2 rfl ?_
          refine g_if_ne (tgt := 54) B dX3_areFlags_43 (by decide) (fun c43 => ?_) (fun h => absurd h (by decide))
          refine g_iload_n B dX3_areFlags_54 rfl 1 rfl ?_
          refine g_if_eq (tgt := 62) B dX3_areFlags_55 (by decide) (fun c55 => ?_) (fun h => absurd (by decide) h)
          refine g_iconst (v := 1) B dX3_areFlags_62 (by decide) ?_
          refine g_goto (tgt := 67) B dX3_areFlags_63 (by decide) ?_
          exact g_zret B hr (by decide) dX3_areFlags_67 (by decide) (by decide) ⟨1, (Or.inr rfl), rfl, rfl⟩
    · refine g_iconst (v := 1) B dX3_areFlags_18 (by decide) ?_
      refine g_goto (tgt := 23) B dX3_areFlags_19 (by decide) ?_
      refine g_istore_n (lv' := [(2, .int 1), (1, .int 1), (0, .int fl)]) B dX3_areFlags_23 rfl (by decide) rfl ?_
      refine g_iload_n B dX3_areFlags_24 rfl 2 rfl ?_
      refine g_iconst (v := 4) B dX3_areFlags_25 (by decide) ?_
      refine g_iand B dX3_areFlags_26 ?_
      refine g_if_eq (tgt := 34) B dX3_areFlags_27 (by decide) (fun c27_1006 => ?_) (fun c27_1006 => ?_)
      · refine g_iconst (v := 0) B dX3_areFlags_34 (by decide) ?_
        refine g_istore_n (lv' := [(3, .int 0), (2, .int 1), (1, .int 1), (0, .int fl)]) B dX3_areFlags_35 rfl (by decide) rfl ?_
        refine g_iload_n B dX3_areFlags_36 rfl 3 rfl ?_
        refine g_bipush (v := 15) B dX3_areFlags_37 (by decide) ?_
        refine g_icmp_gt (tgt := 66) B dX3_areFlags_39 (by decide) (fun c39_1007 => ?_) (fun c39_1007 => ?_)
        · refine g_iconst (v := 0) B dX3_areFlags_66 (by decide) ?_
          exact g_zret B hr (by decide) dX3_areFlags_67 (by decide) (by decide) ⟨0, (Or.inl rfl), rfl, rfl⟩
        · refine g_iload_n B dX3_areFlags_42 rfl 2 rfl ?_
          refine g_if_ne (tgt := 54) B dX3_areFlags_43 (by decide) (fun c43 => ?_) (fun h => absurd h (by decide))
          refine g_iload_n B dX3_areFlags_54 rfl 1 rfl ?_
          refine g_if_eq (tgt := 62) B dX3_areFlags_55 (by decide) (fun h => absurd h (by decide)) (fun c55 => ?_)
          refine g_iload_n B dX3_areFlags_58 rfl 0 rfl ?_
          refine g_if_ne (tgt := 66) B dX3_areFlags_59 (by decide) (fun h => absurd (by decide) h) (fun c59 => ?_)
          refine g_iconst (v := 1) B dX3_areFlags_62 (by decide) ?_
          refine g_goto (tgt := 67) B dX3_areFlags_63 (by decide) ?_
          exact g_zret B hr (by decide) dX3_areFlags_67 (by decide) (by decide) ⟨1, (Or.inr rfl), rfl, rfl⟩
      · refine g_iconst (v := 1) B dX3_areFlags_30 (by decide) ?_
        refine g_goto (tgt := 35) B dX3_areFlags_31 (by decide) ?_
        refine g_istore_n (lv' := [(3, .int 1), (2, .int 1), (1, .int 1), (0, .int fl)]) B dX3_areFlags_35 rfl (by decide) rfl ?_
        refine g_iload_n B dX3_areFlags_36 rfl 3 rfl ?_
        refine g_bipush (v := 15) B dX3_areFlags_37 (by decide) ?_
        refine g_icmp_gt (tgt := 66) B dX3_areFlags_39 (by decide) (fun c39_1008 => ?_) (fun c39_1008 => ?_)
        · refine g_iconst (v := 0) B dX3_areFlags_66 (by decide) ?_
          exact g_zret B hr (by decide) dX3_areFlags_67 (by decide) (by decide) ⟨0, (Or.inl rfl), rfl, rfl⟩
        · refine g_iload_n B dX3_areFlags_42 rfl 2 rfl ?_
          refine g_if_ne (tgt := 54) B dX3_areFlags_43 (by decide) (fun c43 => ?_) (fun h => absurd h (by decide))
          refine g_iload_n B dX3_areFlags_54 rfl 1 rfl ?_
          refine g_if_eq (tgt := 62) B dX3_areFlags_55 (by decide) (fun h => absurd h (by decide)) (fun c55 => ?_)
          refine g_iload_n B dX3_areFlags_58 rfl 0 rfl ?_
          refine g_if_ne (tgt := 66) B dX3_areFlags_59 (by decide) (fun c59 => ?_) (fun h => absurd h (by decide))
          refine g_iconst (v := 0) B dX3_areFlags_66 (by decide) ?_
          exact g_zret B hr (by decide) dX3_areFlags_67 (by decide) (by decide) ⟨0, (Or.inl rfl), rfl, rfl⟩
abbrev MX3_readPlan : g_M := (yX3_readPlan, cX3_readPlan, 6, (some .boolean))
theorem dX3_readPlan_0 : decode cX3_readPlan 0 = .ok (.aload_n 1, 1) := by decide +kernel
theorem dX3_readPlan_1 : decode cX3_readPlan 1 = .ok (.invokevirtual 90, 3) := by decide +kernel
theorem w_ml_X3_90 : Cond.methodLink RX3 90 yX7_clear ∈ g_tbl := g_tbl_in 768 (by decide +kernel) (by decide +kernel)
theorem w_cd_X7_clear : g_cw MX7_clear ∈ g_tbl := g_tbl_in 434 (by decide +kernel) (by decide +kernel)
theorem cl_X3_90 : CL RX3 90 0 MX7_clear := ⟨w_ml_X3_90, w_cd_X7_clear, w_ini_X7, by decide +kernel, by decide +kernel, by decide +kernel⟩
theorem w_im_X7_clear : Cond.instanceMethod yX7_clear ∈ g_tbl := g_tbl_in 432 (by decide +kernel) (by decide +kernel)
theorem w_se_X7_clear : Cond.selects RX7 yX7_clear yX7_clear ∈ g_tbl := g_tbl_in 433 (by decide +kernel) (by decide +kernel)
theorem dX3_readPlan_4 : decode cX3_readPlan 4 = .ok (.iconst 0, 1) := by decide +kernel
theorem dX3_readPlan_5 : decode cX3_readPlan 5 = .ok (.istore_n 3, 1) := by decide +kernel
theorem dX3_readPlan_6 : decode cX3_readPlan 6 = .ok (.iload_n 3, 1) := by decide +kernel
theorem dX3_readPlan_7 : decode cX3_readPlan 7 = .ok (.iload_n 2, 1) := by decide +kernel
theorem dX3_readPlan_8 : decode cX3_readPlan 8 = .ok (.if_icmp .ge 70, 3) := by decide +kernel
theorem dX3_readPlan_11 : decode cX3_readPlan 11 = .ok (.aload_n 0, 1) := by decide +kernel
theorem dX3_readPlan_12 : decode cX3_readPlan 12 = .ok (.getfield 9, 3) := by decide +kernel
theorem dX3_readPlan_15 : decode cX3_readPlan 15 = .ok (.bipush 6, 2) := by decide +kernel
theorem dX3_readPlan_17 : decode cX3_readPlan 17 = .ok (.iconst 2, 1) := by decide +kernel
theorem dX3_readPlan_18 : decode cX3_readPlan 18 = .ok (.iload_n 3, 1) := by decide +kernel
theorem dX3_readPlan_19 : decode cX3_readPlan 19 = .ok (.imul, 1) := by decide +kernel
theorem dX3_readPlan_20 : decode cX3_readPlan 20 = .ok (.iadd, 1) := by decide +kernel
theorem dX3_readPlan_21 : decode cX3_readPlan 21 = .ok (.invokevirtual 59, 3) := by decide +kernel
theorem w_ml_X3_59 : Cond.methodLink RX3 59 yX2_at ∈ g_tbl := g_tbl_in 760 (by decide +kernel) (by decide +kernel)
theorem cl_X3_59 : CL RX3 59 1 MX2_at := ⟨w_ml_X3_59, w_cd_X2_at, w_ini_X2, by decide +kernel, by decide +kernel, by decide +kernel⟩
theorem dX3_readPlan_24 : decode cX3_readPlan 24 = .ok (.istore 4, 2) := by decide +kernel
theorem dX3_readPlan_26 : decode cX3_readPlan 26 = .ok (.aload_n 0, 1) := by decide +kernel
theorem dX3_readPlan_27 : decode cX3_readPlan 27 = .ok (.getfield 9, 3) := by decide +kernel
theorem dX3_readPlan_30 : decode cX3_readPlan 30 = .ok (.bipush 6, 2) := by decide +kernel
theorem dX3_readPlan_32 : decode cX3_readPlan 32 = .ok (.iconst 2, 1) := by decide +kernel
theorem dX3_readPlan_33 : decode cX3_readPlan 33 = .ok (.iload_n 3, 1) := by decide +kernel
theorem dX3_readPlan_34 : decode cX3_readPlan 34 = .ok (.imul, 1) := by decide +kernel
theorem dX3_readPlan_35 : decode cX3_readPlan 35 = .ok (.iadd, 1) := by decide +kernel
theorem dX3_readPlan_36 : decode cX3_readPlan 36 = .ok (.iconst 1, 1) := by decide +kernel
theorem dX3_readPlan_37 : decode cX3_readPlan 37 = .ok (.iadd, 1) := by decide +kernel
theorem dX3_readPlan_38 : decode cX3_readPlan 38 = .ok (.invokevirtual 59, 3) := by decide +kernel
theorem dX3_readPlan_41 : decode cX3_readPlan 41 = .ok (.istore 5, 2) := by decide +kernel
theorem dX3_readPlan_43 : decode cX3_readPlan 43 = .ok (.aload_n 1, 1) := by decide +kernel
theorem dX3_readPlan_44 : decode cX3_readPlan 44 = .ok (.iload 4, 2) := by decide +kernel
theorem dX3_readPlan_46 : decode cX3_readPlan 46 = .ok (.bipush 127, 2) := by decide +kernel
theorem dX3_readPlan_48 : decode cX3_readPlan 48 = .ok (.if_icmp .le 12, 3) := by decide +kernel
theorem dX3_readPlan_60 : decode cX3_readPlan 60 = .ok (.iload 4, 2) := by decide +kernel
theorem dX3_readPlan_62 : decode cX3_readPlan 62 = .ok (.iload 5, 2) := by decide +kernel
theorem dX3_readPlan_64 : decode cX3_readPlan 64 = .ok (.invokevirtual 95, 3) := by decide +kernel
theorem w_ml_X3_95 : Cond.methodLink RX3 95 yX7_add ∈ g_tbl := g_tbl_in 769 (by decide +kernel) (by decide +kernel)
theorem w_cd_X7_add : g_cw MX7_add ∈ g_tbl := g_tbl_in 423 (by decide +kernel) (by decide +kernel)
theorem cl_X3_95 : CL RX3 95 2 MX7_add := ⟨w_ml_X3_95, w_cd_X7_add, w_ini_X7, by decide +kernel, by decide +kernel, by decide +kernel⟩
theorem w_im_X7_add : Cond.instanceMethod yX7_add ∈ g_tbl := g_tbl_in 421 (by decide +kernel) (by decide +kernel)
theorem w_se_X7_add : Cond.selects RX7 yX7_add yX7_add ∈ g_tbl := g_tbl_in 422 (by decide +kernel) (by decide +kernel)
theorem dX3_readPlan_67 : decode cX3_readPlan 67 = .ok (.ifCond .ne 5, 3) := by decide +kernel
theorem dX3_readPlan_72 : decode cX3_readPlan 72 = .ok (.iinc 3 1, 3) := by decide +kernel
theorem dX3_readPlan_75 : decode cX3_readPlan 75 = .ok (.goto (-69), 3) := by decide +kernel
theorem dX3_readPlan_70 : decode cX3_readPlan 70 = .ok (.iconst 0, 1) := by decide +kernel
theorem dX3_readPlan_71 : decode cX3_readPlan 71 = .ok (.ireturn, 1) := by decide +kernel
theorem dX3_readPlan_51 : decode cX3_readPlan 51 = .ok (.iload 4, 2) := by decide +kernel
theorem dX3_readPlan_53 : decode cX3_readPlan 53 = .ok (.sipush 256, 3) := by decide +kernel
theorem dX3_readPlan_56 : decode cX3_readPlan 56 = .ok (.isub, 1) := by decide +kernel
theorem dX3_readPlan_57 : decode cX3_readPlan 57 = .ok (.goto 5, 3) := by decide +kernel
set_option maxRecDepth 100000 in
set_option maxHeartbeats 4000000 in
theorem lp_wk_X3_readPlan_6 (E : g_E) (e : Nat) (tp : Nat) (sd : Nat) (b1 : Nat) (b2 : Nat) (sh : Nat) (tpa : Nat) (p : Nat) (te : Nat) (de : Nat)  {X : g_X} (B : Bd E X cX3_readPlan RX3 6 2 42 0 0) (hr : Rt E X (some .boolean) 0 0 (fun v_ w_ => ∃ ztp_1 : Int32, ∃ ztpa_f : Nat → Int32, ∃ zp_2 : Nat, ∃ zte_f : Nat → Int32, ∃ zde_f : Nat → Int32, ∃ zr : Int32, (zr = 0 ∨ zr = 1) ∧ (zp_2 ≤ 8) ∧ v_ = some (.int zr) ∧ w_ = [(e, .inr (3, [.ref tp, .ref sd, .ref b1, .ref b2, .ref sh])), (tp, .inr (2, [.ref tpa, .int ztp_1])), (tpa, .inl (E.2.2.1 1, 6000, .inl (nb ztpa_f))), (p, .inr (7, [.ref te, .ref de, .int (nI zp_2)])), (te, .inl (E.2.2.1 0, 8, .inl zte_f)), (de, .inl (E.2.2.1 0, 8, .inl zde_f))])) (K : ∀ (tp_1 : Int32) (tpa_f : Nat → Int32) (p_2 : Nat) (te_f : Nat → Int32) (de_f : Nat → Int32) (l2 : Int32) (l3 : Int32), p_2 ≤ 8 → G E X 6 [(e, .inr (3, [.ref tp, .ref sd, .ref b1, .ref b2, .ref sh])), (tp, .inr (2, [.ref tpa, .int tp_1])), (tpa, .inl (E.2.2.1 1, 6000, .inl (nb tpa_f))), (p, .inr (7, [.ref te, .ref de, .int (nI p_2)])), (te, .inl (E.2.2.1 0, 8, .inl te_f)), (de, .inl (E.2.2.1 0, 8, .inl de_f))] 0 0 [(0, .ref e), (1, .ref p), (2, .int l2), (3, .int l3)] 78 []) : ∀ (n : Nat) (tp_1 : Int32) (tpa_f : Nat → Int32) (p_2 : Nat) (te_f : Nat → Int32) (de_f : Nat → Int32) (l2 : Int32) (l3 : Int32), p_2 ≤ 8 → (Int32.toInt l2 - Int32.toInt l3).toNat < n → G E X 6 [(e, .inr (3, [.ref tp, .ref sd, .ref b1, .ref b2, .ref sh])), (tp, .inr (2, [.ref tpa, .int tp_1])), (tpa, .inl (E.2.2.1 1, 6000, .inl (nb tpa_f))), (p, .inr (7, [.ref te, .ref de, .int (nI p_2)])), (te, .inl (E.2.2.1 0, 8, .inl te_f)), (de, .inl (E.2.2.1 0, 8, .inl de_f))] 0 0 [(0, .ref e), (1, .ref p), (2, .int l2), (3, .int l3)] 6 [] := by
  intro n
  induction n with
  | zero => intro tp_1 tpa_f p_2 te_f de_f l2 l3 _ h; exact absurd h (Nat.not_lt_zero _)
  | succ n ih =>
    intro tp_1 tpa_f p_2 te_f de_f l2 l3 hs0 hm
    refine g_iload_n B dX3_readPlan_6 rfl 3 rfl ?_
    refine g_iload_n B dX3_readPlan_7 rfl 2 rfl ?_
    refine g_icmp_ge (tgt := 78) B dX3_readPlan_8 (by decide) (fun c8_1011 => ?_) (fun c8_1011 => ?_)
    · exact K tp_1 tpa_f p_2 te_f de_f l2 l3 (by first | assumption | omega | decide)
    · refine g_aload_n B dX3_readPlan_11 rfl 0 rfl ?_
      refine g_get B 0 0 fl_X3_9 rfl rfl dX3_readPlan_12 ?_
      refine g_bipush (v := 6) B dX3_readPlan_15 (by decide) ?_
      refine g_iconst (v := 2) B dX3_readPlan_17 (by decide) ?_
      refine g_iload_n B dX3_readPlan_18 rfl 3 rfl ?_
      refine g_imul B dX3_readPlan_19 ?_
      refine g_iadd B dX3_readPlan_20 ?_
      refine g_callV (st := []) (As := [.int (6 + (2 * l3))]) (wr := [(e, .inr (3, [.ref tp, .ref sd, .ref b1, .ref b2, .ref sh])), (p, .inr (7, [.ref te, .ref de, .int (nI p_2)])), (te, .inl (E.2.2.1 0, 8, .inl te_f)), (de, .inl (E.2.2.1 0, 8, .inl de_f))]) (nc' := 0) (ns' := 0) B cl_X3_59 w_im_X2_at w_se_X2_at (wk_X2_at E tp tpa 6000 tp_1 tpa_f (6 + (2 * l3)) (by first | assumption | omega | decide)) rfl [1, 2] [0, 3, 4, 5] rfl rfl (by decide) (by decide) (by decide) 0 rfl (fun q h => by cases h; rfl) rfl ⟨by decide, by decide⟩ rfl rfl (by decide) (by decide) rfl (Nat.le_of_ble_eq_true rfl) dX3_readPlan_21 (fun v w hq => ?_)
      obtain ⟨zt_1_1012, za_f_1013, zr_1014, rfl, rfl⟩ := hq
      show G E X 6 [(e, .inr (3, [.ref tp, .ref sd, .ref b1, .ref b2, .ref sh])), (p, .inr (7, [.ref te, .ref de, .int (nI p_2)])), (te, .inl (E.2.2.1 0, 8, .inl te_f)), (de, .inl (E.2.2.1 0, 8, .inl de_f)), (tp, .inr (2, [.ref tpa, .int zt_1_1012])), (tpa, .inl (E.2.2.1 1, 6000, .inl (nb za_f_1013)))] 0 0 [(0, .ref e), (1, .ref p), (2, .int l2), (3, .int l3)] 24 [.int zr_1014]
      refine g_istore (lv' := [(4, .int zr_1014), (0, .ref e), (1, .ref p), (2, .int l2), (3, .int l3)]) B dX3_readPlan_24 (by decide) rfl ?_
      refine g_aload_n B dX3_readPlan_26 rfl 1 rfl ?_
      refine g_get B 0 0 fl_X3_9 rfl rfl dX3_readPlan_27 ?_
      refine g_bipush (v := 6) B dX3_readPlan_30 (by decide) ?_
      refine g_iconst (v := 2) B dX3_readPlan_32 (by decide) ?_
      refine g_iload_n B dX3_readPlan_33 rfl 4 rfl ?_
      refine g_imul B dX3_readPlan_34 ?_
      refine g_iadd B dX3_readPlan_35 ?_
      refine g_iconst (v := 1) B dX3_readPlan_36 (by decide) ?_
      refine g_iadd B dX3_readPlan_37 ?_
      refine g_callV (st := []) (As := [.int ((6 + (2 * l3)) + 1)]) (wr := [(e, .inr (3, [.ref tp, .ref sd, .ref b1, .ref b2, .ref sh])), (p, .inr (7, [.ref te, .ref de, .int (nI p_2)])), (te, .inl (E.2.2.1 0, 8, .inl te_f)), (de, .inl (E.2.2.1 0, 8, .inl de_f))]) (nc' := 0) (ns' := 0) B cl_X3_59 w_im_X2_at w_se_X2_at (wk_X2_at E tp tpa 6000 zt_1_1012 za_f_1013 ((6 + (2 * l3)) + 1) (by first | assumption | omega | decide)) rfl [4, 5] [0, 1, 2, 3] rfl rfl (by decide) (by decide) (by decide) 0 rfl (fun q h => by cases h; rfl) rfl ⟨by decide, by decide⟩ rfl rfl (by decide) (by decide) rfl (Nat.le_of_ble_eq_true rfl) dX3_readPlan_38 (fun v w hq => ?_)
      obtain ⟨zt_1_1015, za_f_1016, zr_1017, rfl, rfl⟩ := hq
      show G E X 6 [(e, .inr (3, [.ref tp, .ref sd, .ref b1, .ref b2, .ref sh])), (p, .inr (7, [.ref te, .ref de, .int (nI p_2)])), (te, .inl (E.2.2.1 0, 8, .inl te_f)), (de, .inl (E.2.2.1 0, 8, .inl de_f)), (tp, .inr (2, [.ref tpa, .int zt_1_1015])), (tpa, .inl (E.2.2.1 1, 6000, .inl (nb za_f_1016)))] 0 0 [(4, .int zr_1014), (0, .ref e), (1, .ref p), (2, .int l2), (3, .int l3)] 41 [.int zr_1017]
      refine g_istore (lv' := [(5, .int zr_1017), (4, .int zr_1014), (0, .ref e), (1, .ref p), (2, .int l2), (3, .int l3)]) B dX3_readPlan_41 (by decide) rfl ?_
      refine g_aload_n B dX3_readPlan_43 rfl 3 rfl ?_
      refine g_iload B dX3_readPlan_44 1 rfl ?_
      refine g_bipush (v := 127) B dX3_readPlan_46 (by decide) ?_
      refine g_icmp_le (tgt := 60) B dX3_readPlan_48 (by decide) (fun c48_1018 => ?_) (fun c48_1018 => ?_)
      · refine g_iload B dX3_readPlan_60 1 rfl ?_
        refine g_iload B dX3_readPlan_62 0 rfl ?_
        refine g_callV (st := []) (As := [.int zr_1014, .int zr_1017]) (wr := [(e, .inr (3, [.ref tp, .ref sd, .ref b1, .ref b2, .ref sh])), (tp, .inr (2, [.ref tpa, .int zt_1_1015])), (tpa, .inl (E.2.2.1 1, 6000, .inl (nb za_f_1016)))]) (nc' := 0) (ns' := 0) B cl_X3_95 w_im_X7_add w_se_X7_add (wk_X7_add E p te de p_2 te_f de_f zr_1014 zr_1017 (by first | assumption | omega | decide)) rfl [1, 2, 3] [0, 4, 5] rfl rfl (by decide) (by decide) (by decide) 0 rfl (fun q h => by cases h; rfl) rfl ⟨by decide, by decide⟩ rfl rfl (by decide) (by decide) rfl (Nat.le_of_ble_eq_true rfl) dX3_readPlan_64 (fun v w hq => ?_)
        obtain ⟨zp_2_1019, zte_f_1020, zde_f_1021, zr_1022, hf_1023, hf_1024, rfl, rfl⟩ := hq
        show G E X 6 [(e, .inr (3, [.ref tp, .ref sd, .ref b1, .ref b2, .ref sh])), (tp, .inr (2, [.ref tpa, .int zt_1_1015])), (tpa, .inl (E.2.2.1 1, 6000, .inl (nb za_f_1016))), (p, .inr (7, [.ref te, .ref de, .int (nI zp_2_1019)])), (te, .inl (E.2.2.1 0, 8, .inl zte_f_1020)), (de, .inl (E.2.2.1 0, 8, .inl zde_f_1021))] 0 0 [(5, .int zr_1017), (4, .int zr_1014), (0, .ref e), (1, .ref p), (2, .int l2), (3, .int l3)] 67 [.int zr_1022]
        refine g_if_ne (tgt := 72) B dX3_readPlan_67 (by decide) (fun c67_1025 => ?_) (fun c67_1025 => ?_)
        · refine g_iinc (v := (l3 + 1)) (lv' := [(3, .int (l3 + 1)), (5, .int zr_1017), (4, .int zr_1014), (0, .ref e), (1, .ref p), (2, .int l2)]) B dX3_readPlan_72 5 rfl rfl (by decide) rfl ?_
          refine g_goto (tgt := 6) B dX3_readPlan_75 (by decide) ?_
          refine g_lvsub (lv' := [(0, .ref e), (1, .ref p), (2, .int l2), (3, .int (l3 + 1))]) [3, 4, 5, 0] rfl ?_
          exact ih zt_1_1015 za_f_1016 zp_2_1019 zte_f_1020 zde_f_1021 l2 (l3 + 1) (by first | assumption | omega | decide)  (Nat.lt_of_lt_of_le (st_up (o_2 c8_1011)) (Nat.le_of_lt_succ hm))
        · refine g_iconst (v := 0) B dX3_readPlan_70 (by decide) ?_
          exact g_zret B hr (by decide) dX3_readPlan_71 (by decide) (by decide) ⟨zt_1_1015, za_f_1016, zp_2_1019, zte_f_1020, zde_f_1021, 0, (Or.inl rfl), (by first | assumption | omega | decide), rfl, rfl⟩
      · refine g_iload B dX3_readPlan_51 1 rfl ?_
        refine g_sipush (v := 256) B dX3_readPlan_53 (by decide) ?_
        refine g_isub B dX3_readPlan_56 ?_
        refine g_goto (tgt := 62) B dX3_readPlan_57 (by decide) ?_
        refine g_iload B dX3_readPlan_62 0 rfl ?_
        refine g_callV (st := []) (As := [.int (zr_1014 - 256), .int zr_1017]) (wr := [(e, .inr (3, [.ref tp, .ref sd, .ref b1, .ref b2, .ref sh])), (tp, .inr (2, [.ref tpa, .int zt_1_1015])), (tpa, .inl (E.2.2.1 1, 6000, .inl (nb za_f_1016)))]) (nc' := 0) (ns' := 0) B cl_X3_95 w_im_X7_add w_se_X7_add (wk_X7_add E p te de p_2 te_f de_f (zr_1014 - 256) zr_1017 (by first | assumption | omega | decide)) rfl [1, 2, 3] [0, 4, 5] rfl rfl (by decide) (by decide) (by decide) 0 rfl (fun q h => by cases h; rfl) rfl ⟨by decide, by decide⟩ rfl rfl (by decide) (by decide) rfl (Nat.le_of_ble_eq_true rfl) dX3_readPlan_64 (fun v w hq => ?_)
        obtain ⟨zp_2_1026, zte_f_1027, zde_f_1028, zr_1029, hf_1030, hf_1031, rfl, rfl⟩ := hq
        show G E X 6 [(e, .inr (3, [.ref tp, .ref sd, .ref b1, .ref b2, .ref sh])), (tp, .inr (2, [.ref tpa, .int zt_1_1015])), (tpa, .inl (E.2.2.1 1, 6000, .inl (nb za_f_1016))), (p, .inr (7, [.ref te, .ref de, .int (nI zp_2_1026)])), (te, .inl (E.2.2.1 0, 8, .inl zte_f_1027)), (de, .inl (E.2.2.1 0, 8, .inl zde_f_1028))] 0 0 [(5, .int zr_1017), (4, .int zr_1014), (0, .ref e), (1, .ref p), (2, .int l2), (3, .int l3)] 67 [.int zr_1029]
        refine g_if_ne (tgt := 72) B dX3_readPlan_67 (by decide) (fun c67_1032 => ?_) (fun c67_1032 => ?_)
        · refine g_iinc (v := (l3 + 1)) (lv' := [(3, .int (l3 + 1)), (5, .int zr_1017), (4, .int zr_1014), (0, .ref e), (1, .ref p), (2, .int l2)]) B dX3_readPlan_72 5 rfl rfl (by decide) rfl ?_
          refine g_goto (tgt := 6) B dX3_readPlan_75 (by decide) ?_
          refine g_lvsub (lv' := [(0, .ref e), (1, .ref p), (2, .int l2), (3, .int (l3 + 1))]) [3, 4, 5, 0] rfl ?_
          exact ih zt_1_1015 za_f_1016 zp_2_1026 zte_f_1027 zde_f_1028 l2 (l3 + 1) (by first | assumption | omega | decide)  (Nat.lt_of_lt_of_le (st_up (o_2 c8_1011)) (Nat.le_of_lt_succ hm))
        · refine g_iconst (v := 0) B dX3_readPlan_70 (by decide) ?_
          exact g_zret B hr (by decide) dX3_readPlan_71 (by decide) (by decide) ⟨zt_1_1015, za_f_1016, zp_2_1026, zte_f_1027, zde_f_1028, 0, (Or.inl rfl), (by first | assumption | omega | decide), rfl, rfl⟩
theorem dX3_readPlan_78 : decode cX3_readPlan 78 = .ok (.iconst 1, 1) := by decide +kernel
theorem dX3_readPlan_79 : decode cX3_readPlan 79 = .ok (.ireturn, 1) := by decide +kernel
set_option maxRecDepth 100000 in
set_option maxHeartbeats 4000000 in
theorem wk_X3_readPlan (E : g_E) (e : Nat) (tp : Nat) (sd : Nat) (b1 : Nat) (b2 : Nat) (sh : Nat) (tpa : Nat) (p : Nat) (te : Nat) (de : Nat) (tp_1 : Int32) (tpa_f : Nat → Int32) (p_2 : Nat) (te_f : Nat → Int32) (de_f : Nat → Int32) (pp : Int32) (hp0 : p_2 ≤ 8) : Ev E MX3_readPlan 2 42 0 0 [.ref e, .ref p, .int pp] [(e, .inr (3, [.ref tp, .ref sd, .ref b1, .ref b2, .ref sh])), (tp, .inr (2, [.ref tpa, .int tp_1])), (tpa, .inl (E.2.2.1 1, 6000, .inl (nb tpa_f))), (p, .inr (7, [.ref te, .ref de, .int (nI p_2)])), (te, .inl (E.2.2.1 0, 8, .inl te_f)), (de, .inl (E.2.2.1 0, 8, .inl de_f))] (fun v_ w_ => ∃ ztp_1 : Int32, ∃ ztpa_f : Nat → Int32, ∃ zp_2 : Nat, ∃ zte_f : Nat → Int32, ∃ zde_f : Nat → Int32, ∃ zr : Int32, (zr = 0 ∨ zr = 1) ∧ (zp_2 ≤ 8) ∧ v_ = some (.int zr) ∧ w_ = [(e, .inr (3, [.ref tp, .ref sd, .ref b1, .ref b2, .ref sh])), (tp, .inr (2, [.ref tpa, .int ztp_1])), (tpa, .inl (E.2.2.1 1, 6000, .inl (nb ztpa_f))), (p, .inr (7, [.ref te, .ref de, .int (nI zp_2)])), (te, .inl (E.2.2.1 0, 8, .inl zte_f)), (de, .inl (E.2.2.1 0, 8, .inl zde_f))]) := by
  refine Ev.intro (by decide) (Nat.le_of_ble_eq_true rfl) ?_
  intro X B hr hI
  have B : Bd E X cX3_readPlan RX3 6 2 42 0 0 := B
  have hr : Rt E X (some .boolean) 0 0 (fun v_ w_ => ∃ ztp_1 : Int32, ∃ ztpa_f : Nat → Int32, ∃ zp_2 : Nat, ∃ zte_f : Nat → Int32, ∃ zde_f : Nat → Int32, ∃ zr : Int32, (zr = 0 ∨ zr = 1) ∧ (zp_2 ≤ 8) ∧ v_ = some (.int zr) ∧ w_ = [(e, .inr (3, [.ref tp, .ref sd, .ref b1, .ref b2, .ref sh])), (tp, .inr (2, [.ref tpa, .int ztp_1])), (tpa, .inl (E.2.2.1 1, 6000, .inl (nb ztpa_f))), (p, .inr (7, [.ref te, .ref de, .int (nI zp_2)])), (te, .inl (E.2.2.1 0, 8, .inl zte_f)), (de, .inl (E.2.2.1 0, 8, .inl zde_f))]) := hr
  show G E X 6 [(e, .inr (3, [.ref tp, .ref sd, .ref b1, .ref b2, .ref sh])), (tp, .inr (2, [.ref tpa, .int tp_1])), (tpa, .inl (E.2.2.1 1, 6000, .inl (nb tpa_f))), (p, .inr (7, [.ref te, .ref de, .int (nI p_2)])), (te, .inl (E.2.2.1 0, 8, .inl te_f)), (de, .inl (E.2.2.1 0, 8, .inl de_f))] 0 0 [(0, .ref e), (1, .ref p), (2, .int pp)] 0 []
  refine g_aload_n B dX3_readPlan_0 rfl 1 rfl ?_
  refine g_callV (st := []) (As := []) (wr := [(e, .inr (3, [.ref tp, .ref sd, .ref b1, .ref b2, .ref sh])), (tp, .inr (2, [.ref tpa, .int tp_1])), (tpa, .inl (E.2.2.1 1, 6000, .inl (nb tpa_f))), (te, .inl (E.2.2.1 0, 8, .inl te_f)), (de, .inl (E.2.2.1 0, 8, .inl de_f))]) (nc' := 0) (ns' := 0) B cl_X3_90 w_im_X7_clear w_se_X7_clear (wk_X7_clear E p te de p_2 (by first | assumption | omega | decide)) rfl [3] [0, 1, 2, 4, 5] rfl rfl (by decide) (by decide) (by decide) 0 rfl (fun q h => by cases h; rfl) rfl ⟨by decide, by decide⟩ rfl rfl (by decide) (by decide) rfl (Nat.le_of_ble_eq_true rfl) dX3_readPlan_1 (fun v w hq => ?_)
  obtain ⟨zp_2_1009, hf_1010, rfl, rfl⟩ := hq
  show G E X 6 [(e, .inr (3, [.ref tp, .ref sd, .ref b1, .ref b2, .ref sh])), (tp, .inr (2, [.ref tpa, .int tp_1])), (tpa, .inl (E.2.2.1 1, 6000, .inl (nb tpa_f))), (te, .inl (E.2.2.1 0, 8, .inl te_f)), (de, .inl (E.2.2.1 0, 8, .inl de_f)), (p, .inr (7, [.ref te, .ref de, .int (nI zp_2_1009)]))] 0 0 [(0, .ref e), (1, .ref p), (2, .int pp)] 4 []
  refine g_iconst (v := 0) B dX3_readPlan_4 (by decide) ?_
  refine g_istore_n (lv' := [(3, .int 0), (0, .ref e), (1, .ref p), (2, .int pp)]) B dX3_readPlan_5 rfl (by decide) rfl ?_
  refine g_sub (ws' := [(e, .inr (3, [.ref tp, .ref sd, .ref b1, .ref b2, .ref sh])), (tp, .inr (2, [.ref tpa, .int tp_1])), (tpa, .inl (E.2.2.1 1, 6000, .inl (nb tpa_f))), (p, .inr (7, [.ref te, .ref de, .int (nI zp_2_1009)])), (te, .inl (E.2.2.1 0, 8, .inl te_f)), (de, .inl (E.2.2.1 0, 8, .inl de_f))]) [0, 1, 2, 5, 3, 4] (by decide) rfl ?_
  refine g_lvsub (lv' := [(0, .ref e), (1, .ref p), (2, .int pp), (3, .int 0)]) [1, 2, 3, 0] rfl ?_
  refine lp_wk_X3_readPlan_6 E e tp sd b1 b2 sh tpa p te de  B hr (fun y_1033tp_1 y_1033tpa_f y_1033p_2 y_1033te_f y_1033de_f y_1033l2 y_1033l3 y_1033h0 => ?_) _ tp_1 tpa_f zp_2_1009 te_f de_f pp 0 (by first | assumption | omega | decide)  (Nat.lt_succ_self _)
  refine g_iconst (v := 1) B dX3_readPlan_78 (by decide) ?_
  exact g_zret B hr (by decide) dX3_readPlan_79 (by decide) (by decide) ⟨y_1033tp_1, y_1033tpa_f, y_1033p_2, y_1033te_f, y_1033de_f, 1, (Or.inr rfl), (by first | assumption | omega | decide), rfl, rfl⟩
abbrev MX3_readHead : g_M := (yX3_readHead, cX3_readHead, 11, (some .boolean))
theorem dX3_readHead_0 : decode cX3_readHead 0 = .ok (.aload_n 0, 1) := by decide +kernel
theorem dX3_readHead_1 : decode cX3_readHead 1 = .ok (.getfield 9, 3) := by decide +kernel
theorem dX3_readHead_4 : decode cX3_readHead 4 = .ok (.iconst 1, 1) := by decide +kernel
theorem dX3_readHead_5 : decode cX3_readHead 5 = .ok (.invokevirtual 59, 3) := by decide +kernel
theorem dX3_readHead_8 : decode cX3_readHead 8 = .ok (.istore_n 3, 1) := by decide +kernel
theorem dX3_readHead_9 : decode cX3_readHead 9 = .ok (.aload_n 0, 1) := by decide +kernel
theorem dX3_readHead_10 : decode cX3_readHead 10 = .ok (.getfield 9, 3) := by decide +kernel
theorem dX3_readHead_13 : decode cX3_readHead 13 = .ok (.iconst 2, 1) := by decide +kernel
theorem dX3_readHead_14 : decode cX3_readHead 14 = .ok (.invokevirtual 59, 3) := by decide +kernel
theorem dX3_readHead_17 : decode cX3_readHead 17 = .ok (.istore 4, 2) := by decide +kernel
theorem dX3_readHead_19 : decode cX3_readHead 19 = .ok (.aload_n 0, 1) := by decide +kernel
theorem dX3_readHead_20 : decode cX3_readHead 20 = .ok (.getfield 9, 3) := by decide +kernel
theorem dX3_readHead_23 : decode cX3_readHead 23 = .ok (.iconst 3, 1) := by decide +kernel
theorem dX3_readHead_24 : decode cX3_readHead 24 = .ok (.invokevirtual 59, 3) := by decide +kernel
theorem dX3_readHead_27 : decode cX3_readHead 27 = .ok (.bipush 8, 2) := by decide +kernel
theorem dX3_readHead_29 : decode cX3_readHead 29 = .ok (.ishl, 1) := by decide +kernel
theorem dX3_readHead_30 : decode cX3_readHead 30 = .ok (.aload_n 0, 1) := by decide +kernel
theorem dX3_readHead_31 : decode cX3_readHead 31 = .ok (.getfield 9, 3) := by decide +kernel
theorem dX3_readHead_34 : decode cX3_readHead 34 = .ok (.iconst 4, 1) := by decide +kernel
theorem dX3_readHead_35 : decode cX3_readHead 35 = .ok (.invokevirtual 59, 3) := by decide +kernel
theorem dX3_readHead_38 : decode cX3_readHead 38 = .ok (.ior, 1) := by decide +kernel
theorem dX3_readHead_39 : decode cX3_readHead 39 = .ok (.istore 5, 2) := by decide +kernel
theorem dX3_readHead_41 : decode cX3_readHead 41 = .ok (.aload_n 0, 1) := by decide +kernel
theorem dX3_readHead_42 : decode cX3_readHead 42 = .ok (.getfield 9, 3) := by decide +kernel
theorem dX3_readHead_45 : decode cX3_readHead 45 = .ok (.iconst 5, 1) := by decide +kernel
theorem dX3_readHead_46 : decode cX3_readHead 46 = .ok (.invokevirtual 59, 3) := by decide +kernel
theorem dX3_readHead_49 : decode cX3_readHead 49 = .ok (.istore 6, 2) := by decide +kernel
theorem dX3_readHead_51 : decode cX3_readHead 51 = .ok (.aload_n 0, 1) := by decide +kernel
theorem dX3_readHead_52 : decode cX3_readHead 52 = .ok (.getfield 9, 3) := by decide +kernel
theorem dX3_readHead_55 : decode cX3_readHead 55 = .ok (.iconst 0, 1) := by decide +kernel
theorem dX3_readHead_56 : decode cX3_readHead 56 = .ok (.invokevirtual 59, 3) := by decide +kernel
theorem dX3_readHead_59 : decode cX3_readHead 59 = .ok (.bipush 83, 2) := by decide +kernel
theorem dX3_readHead_61 : decode cX3_readHead 61 = .ok (.if_icmp .ne 38, 3) := by decide +kernel
theorem dX3_readHead_99 : decode cX3_readHead 99 = .ok (.iconst 0, 1) := by decide +kernel
theorem dX3_readHead_100 : decode cX3_readHead 100 = .ok (.ireturn, 1) := by decide +kernel
theorem dX3_readHead_64 : decode cX3_readHead 64 = .ok (.iload_n 3, 1) := by decide +kernel
theorem dX3_readHead_65 : decode cX3_readHead 65 = .ok (.invokestatic 62, 3) := by decide +kernel
theorem w_ml_X3_62 : Cond.methodLink RX3 62 yX3_areFlags ∈ g_tbl := g_tbl_in 761 (by decide +kernel) (by decide +kernel)
theorem w_cd_X3_areFlags : g_cw MX3_areFlags ∈ g_tbl := g_tbl_in 763 (by decide +kernel) (by decide +kernel)
theorem cl_X3_62 : CL RX3 62 1 MX3_areFlags := ⟨w_ml_X3_62, w_cd_X3_areFlags, w_ini_X3, by decide +kernel, by decide +kernel, by decide +kernel⟩
theorem w_sm_X3_areFlags : Cond.static yX3_areFlags ∈ g_tbl := g_tbl_in 762 (by decide +kernel) (by decide +kernel)
theorem dX3_readHead_68 : decode cX3_readHead 68 = .ok (.ifCond .eq 31, 3) := by decide +kernel
theorem dX3_readHead_71 : decode cX3_readHead 71 = .ok (.iload 4, 2) := by decide +kernel
theorem dX3_readHead_73 : decode cX3_readHead 73 = .ok (.bipush 23, 2) := by decide +kernel
theorem dX3_readHead_75 : decode cX3_readHead 75 = .ok (.if_icmp .gt 24, 3) := by decide +kernel
theorem dX3_readHead_78 : decode cX3_readHead 78 = .ok (.iload 5, 2) := by decide +kernel
theorem dX3_readHead_80 : decode cX3_readHead 80 = .ok (.iconst 1, 1) := by decide +kernel
theorem dX3_readHead_81 : decode cX3_readHead 81 = .ok (.if_icmp .lt 18, 3) := by decide +kernel
theorem dX3_readHead_84 : decode cX3_readHead 84 = .ok (.iload 5, 2) := by decide +kernel
theorem dX3_readHead_86 : decode cX3_readHead 86 = .ok (.sipush 600, 3) := by decide +kernel
theorem dX3_readHead_89 : decode cX3_readHead 89 = .ok (.if_icmp .gt 10, 3) := by decide +kernel
theorem dX3_readHead_92 : decode cX3_readHead 92 = .ok (.iload 6, 2) := by decide +kernel
theorem dX3_readHead_94 : decode cX3_readHead 94 = .ok (.bipush 8, 2) := by decide +kernel
theorem dX3_readHead_96 : decode cX3_readHead 96 = .ok (.if_icmp .le 5, 3) := by decide +kernel
theorem dX3_readHead_101 : decode cX3_readHead 101 = .ok (.iload_n 3, 1) := by decide +kernel
theorem dX3_readHead_102 : decode cX3_readHead 102 = .ok (.bipush 8, 2) := by decide +kernel
theorem dX3_readHead_104 : decode cX3_readHead 104 = .ok (.iand, 1) := by decide +kernel
theorem dX3_readHead_105 : decode cX3_readHead 105 = .ok (.ifCond .eq 7, 3) := by decide +kernel
theorem dX3_readHead_112 : decode cX3_readHead 112 = .ok (.iconst 0, 1) := by decide +kernel
theorem dX3_readHead_113 : decode cX3_readHead 113 = .ok (.istore 7, 2) := by decide +kernel
theorem dX3_readHead_115 : decode cX3_readHead 115 = .ok (.bipush 6, 2) := by decide +kernel
theorem dX3_readHead_117 : decode cX3_readHead 117 = .ok (.iconst 2, 1) := by decide +kernel
theorem dX3_readHead_118 : decode cX3_readHead 118 = .ok (.iload 6, 2) := by decide +kernel
theorem dX3_readHead_120 : decode cX3_readHead 120 = .ok (.imul, 1) := by decide +kernel
theorem dX3_readHead_121 : decode cX3_readHead 121 = .ok (.iadd, 1) := by decide +kernel
theorem dX3_readHead_122 : decode cX3_readHead 122 = .ok (.istore 8, 2) := by decide +kernel
theorem dX3_readHead_124 : decode cX3_readHead 124 = .ok (.iload 8, 2) := by decide +kernel
theorem dX3_readHead_126 : decode cX3_readHead 126 = .ok (.iload 7, 2) := by decide +kernel
theorem dX3_readHead_128 : decode cX3_readHead 128 = .ok (.ifCond .eq 7, 3) := by decide +kernel
theorem dX3_readHead_135 : decode cX3_readHead 135 = .ok (.iconst 0, 1) := by decide +kernel
theorem dX3_readHead_136 : decode cX3_readHead 136 = .ok (.iadd, 1) := by decide +kernel
theorem dX3_readHead_137 : decode cX3_readHead 137 = .ok (.istore 9, 2) := by decide +kernel
theorem dX3_readHead_139 : decode cX3_readHead 139 = .ok (.iload 9, 2) := by decide +kernel
theorem dX3_readHead_141 : decode cX3_readHead 141 = .ok (.iload_n 2, 1) := by decide +kernel
theorem dX3_readHead_142 : decode cX3_readHead 142 = .ok (.if_icmp .gt 19, 3) := by decide +kernel
theorem dX3_readHead_161 : decode cX3_readHead 161 = .ok (.iconst 0, 1) := by decide +kernel
theorem dX3_readHead_162 : decode cX3_readHead 162 = .ok (.ireturn, 1) := by decide +kernel
theorem dX3_readHead_145 : decode cX3_readHead 145 = .ok (.aload_n 0, 1) := by decide +kernel
theorem dX3_readHead_146 : decode cX3_readHead 146 = .ok (.aload_n 1, 1) := by decide +kernel
theorem dX3_readHead_147 : decode cX3_readHead 147 = .ok (.getfield 66, 3) := by decide +kernel
theorem w_fl_X3_66 : Cond.fieldLink RX3 66 (TX9 0).1 (TX9 0).2.1 (TX9 0).2.2.1 ∈ g_tbl := g_tbl_in 311 (by decide +kernel) (by decide +kernel)
theorem fl_X3_66 : FL RX3 66 9 0 := ⟨RX9, TX9, 12, rfl, by decide, inX_X9, w_fl_X3_66⟩
theorem dX3_readHead_150 : decode cX3_readHead 150 = .ok (.getfield 72, 3) := by decide +kernel
theorem w_fl_X3_72 : Cond.fieldLink RX3 72 (TX6 0).1 (TX6 0).2.1 (TX6 0).2.2.1 ∈ g_tbl := g_tbl_in 262 (by decide +kernel) (by decide +kernel)
theorem fl_X3_72 : FL RX3 72 6 0 := ⟨RX6, TX6, 8, rfl, by decide, inX_X6, w_fl_X3_72⟩
theorem dX3_readHead_153 : decode cX3_readHead 153 = .ok (.iload 6, 2) := by decide +kernel
theorem dX3_readHead_155 : decode cX3_readHead 155 = .ok (.invokevirtual 78, 3) := by decide +kernel
theorem w_ml_X3_78 : Cond.methodLink RX3 78 yX3_readPlan ∈ g_tbl := g_tbl_in 764 (by decide +kernel) (by decide +kernel)
theorem w_cd_X3_readPlan : g_cw MX3_readPlan ∈ g_tbl := g_tbl_in 767 (by decide +kernel) (by decide +kernel)
theorem cl_X3_78 : CL RX3 78 2 MX3_readPlan := ⟨w_ml_X3_78, w_cd_X3_readPlan, w_ini_X3, by decide +kernel, by decide +kernel, by decide +kernel⟩
theorem w_im_X3_readPlan : Cond.instanceMethod yX3_readPlan ∈ g_tbl := g_tbl_in 766 (by decide +kernel) (by decide +kernel)
theorem w_se_X3_readPlan : Cond.selects RX3 yX3_readPlan yX3_readPlan ∈ g_tbl := g_tbl_in 20 (by decide +kernel) (by decide +kernel)
theorem dX3_readHead_158 : decode cX3_readHead 158 = .ok (.ifCond .ne 5, 3) := by decide +kernel
theorem dX3_readHead_163 : decode cX3_readHead 163 = .ok (.iload 7, 2) := by decide +kernel
theorem dX3_readHead_165 : decode cX3_readHead 165 = .ok (.ifCond .eq 30, 3) := by decide +kernel
theorem dX3_readHead_195 : decode cX3_readHead 195 = .ok (.iconst 0, 1) := by decide +kernel
theorem dX3_readHead_196 : decode cX3_readHead 196 = .ok (.istore 10, 2) := by decide +kernel
theorem dX3_readHead_198 : decode cX3_readHead 198 = .ok (.aload_n 1, 1) := by decide +kernel
theorem dX3_readHead_199 : decode cX3_readHead 199 = .ok (.iload_n 3, 1) := by decide +kernel
theorem dX3_readHead_200 : decode cX3_readHead 200 = .ok (.iload 4, 2) := by decide +kernel
theorem dX3_readHead_202 : decode cX3_readHead 202 = .ok (.iload 5, 2) := by decide +kernel
theorem dX3_readHead_204 : decode cX3_readHead 204 = .ok (.iload 10, 2) := by decide +kernel
theorem dX3_readHead_206 : decode cX3_readHead 206 = .ok (.invokevirtual 82, 3) := by decide +kernel
theorem w_ml_X3_82 : Cond.methodLink RX3 82 yX9_begin ∈ g_tbl := g_tbl_in 770 (by decide +kernel) (by decide +kernel)
theorem w_cd_X9_begin : g_cw MX9_begin ∈ g_tbl := g_tbl_in 461 (by decide +kernel) (by decide +kernel)
theorem cl_X3_82 : CL RX3 82 4 MX9_begin := ⟨w_ml_X3_82, w_cd_X9_begin, w_ini_X9, by decide +kernel, by decide +kernel, by decide +kernel⟩
theorem w_im_X9_begin : Cond.instanceMethod yX9_begin ∈ g_tbl := g_tbl_in 459 (by decide +kernel) (by decide +kernel)
theorem w_se_X9_begin : Cond.selects RX9 yX9_begin yX9_begin ∈ g_tbl := g_tbl_in 460 (by decide +kernel) (by decide +kernel)
theorem dX3_readHead_209 : decode cX3_readHead 209 = .ok (.aload_n 0, 1) := by decide +kernel
theorem dX3_readHead_210 : decode cX3_readHead 210 = .ok (.getfield 27, 3) := by decide +kernel
theorem dX3_readHead_213 : decode cX3_readHead 213 = .ok (.iload 9, 2) := by decide +kernel
theorem dX3_readHead_215 : decode cX3_readHead 215 = .ok (.iload_n 2, 1) := by decide +kernel
theorem dX3_readHead_216 : decode cX3_readHead 216 = .ok (.invokevirtual 86, 3) := by decide +kernel
theorem w_ml_X3_86 : Cond.methodLink RX3 86 yX0_start ∈ g_tbl := g_tbl_in 771 (by decide +kernel) (by decide +kernel)
theorem w_cd_X0_start : g_cw MX0_start ∈ g_tbl := g_tbl_in 774 (by decide +kernel) (by decide +kernel)
theorem cl_X3_86 : CL RX3 86 2 MX0_start := ⟨w_ml_X3_86, w_cd_X0_start, w_ini_X0, by decide +kernel, by decide +kernel, by decide +kernel⟩
theorem w_im_X0_start : Cond.instanceMethod yX0_start ∈ g_tbl := g_tbl_in 772 (by decide +kernel) (by decide +kernel)
theorem w_se_X0_start : Cond.selects RX0 yX0_start yX0_start ∈ g_tbl := g_tbl_in 773 (by decide +kernel) (by decide +kernel)
theorem dX3_readHead_219 : decode cX3_readHead 219 = .ok (.iload 7, 2) := by decide +kernel
theorem dX3_readHead_221 : decode cX3_readHead 221 = .ok (.ifCond .eq 8, 3) := by decide +kernel
theorem dX3_readHead_229 : decode cX3_readHead 229 = .ok (.iconst 1, 1) := by decide +kernel
theorem dX3_readHead_230 : decode cX3_readHead 230 = .ok (.goto 4, 3) := by decide +kernel
theorem dX3_readHead_234 : decode cX3_readHead 234 = .ok (.ireturn, 1) := by decide +kernel
theorem dX3_readHead_108 : decode cX3_readHead 108 = .ok (.iconst 1, 1) := by decide +kernel
theorem dX3_readHead_109 : decode cX3_readHead 109 = .ok (.goto 4, 3) := by decide +kernel
theorem dX3_readHead_131 : decode cX3_readHead 131 = .ok (.iconst 2, 1) := by decide +kernel
theorem dX3_readHead_132 : decode cX3_readHead 132 = .ok (.goto 4, 3) := by decide +kernel
theorem dX3_readHead_168 : decode cX3_readHead 168 = .ok (.aload_n 0, 1) := by decide +kernel
theorem dX3_readHead_169 : decode cX3_readHead 169 = .ok (.getfield 9, 3) := by decide +kernel
theorem dX3_readHead_172 : decode cX3_readHead 172 = .ok (.iload 8, 2) := by decide +kernel
theorem dX3_readHead_174 : decode cX3_readHead 174 = .ok (.invokevirtual 59, 3) := by decide +kernel
theorem dX3_readHead_177 : decode cX3_readHead 177 = .ok (.bipush 8, 2) := by decide +kernel
theorem dX3_readHead_179 : decode cX3_readHead 179 = .ok (.ishl, 1) := by decide +kernel
theorem dX3_readHead_180 : decode cX3_readHead 180 = .ok (.aload_n 0, 1) := by decide +kernel
theorem dX3_readHead_181 : decode cX3_readHead 181 = .ok (.getfield 9, 3) := by decide +kernel
theorem dX3_readHead_184 : decode cX3_readHead 184 = .ok (.iload 8, 2) := by decide +kernel
theorem dX3_readHead_186 : decode cX3_readHead 186 = .ok (.iconst 1, 1) := by decide +kernel
theorem dX3_readHead_187 : decode cX3_readHead 187 = .ok (.iadd, 1) := by decide +kernel
theorem dX3_readHead_188 : decode cX3_readHead 188 = .ok (.invokevirtual 59, 3) := by decide +kernel
theorem dX3_readHead_191 : decode cX3_readHead 191 = .ok (.ior, 1) := by decide +kernel
theorem dX3_readHead_192 : decode cX3_readHead 192 = .ok (.goto 4, 3) := by decide +kernel
theorem dX3_readHead_224 : decode cX3_readHead 224 = .ok (.iload 10, 2) := by decide +kernel
theorem dX3_readHead_226 : decode cX3_readHead 226 = .ok (.ifCond .le 7, 3) := by decide +kernel
theorem dX3_readHead_233 : decode cX3_readHead 233 = .ok (.iconst 0, 1) := by decide +kernel
set_option maxRecDepth 100000 in
set_option maxHeartbeats 4000000 in
theorem wk_X3_readHead (E : g_E) (e : Nat) (tp : Nat) (sd : Nat) (b1 : Nat) (b2 : Nat) (sh : Nat) (tpa : Nat) (w : Nat) (ps : Nat) (md : Nat) (p : Nat) (we : Nat) (inp : Nat) (ba : Nat) (gu : Nat) (te : Nat) (de : Nat) (mi : Nat) (tp_1 : Int32) (tpa_f : Nat → Int32) (b1_1 : Int32) (b1_2 : Int32) (b1_3 : Int32) (w_2 : Nat) (w_3 : Nat) (w_4 : Nat) (w_5 : Int32) (w_6 : Int32) (w_7 : Int32) (w_8 : Int32) (w_9 : Int32) (w_10 : Int32) (w_11 : Int32) (ps_5 : Int32) (ps_6 : Int32) (ps_7 : Int32) (p_2 : Nat) (te_f : Nat → Int32) (de_f : Nat → Int32) (we_f : Nat → Int32) (inp_f : Nat → Int32) (md_1 : Int64) (md_2 : Int64) (mi_f : Nat → Int64) (to_ : Int32) (hp0 : w_2 ≤ 2) (hp1 : w_3 ≤ 2) (hp2 : w_4 ≤ 600) (hp3 : p_2 ≤ 8) : Ev E MX3_readHead 3 68 0 0 [.ref e, .ref w, .int to_] [(e, .inr (3, [.ref tp, .ref sd, .ref b1, .ref b2, .ref sh])), (tp, .inr (2, [.ref tpa, .int tp_1])), (tpa, .inl (E.2.2.1 1, 6000, .inl (nb tpa_f))), (b1, .inr (0, [.ref tp, .int b1_1, .int b1_2, .int b1_3])), (w, .inr (9, [.ref ps, .ref md, .int (nI w_2), .int (nI w_3), .int (nI w_4), .int w_5, .int w_6, .int w_7, .int w_8, .int w_9, .int w_10, .int w_11])), (ps, .inr (6, [.ref p, .ref we, .ref inp, .ref ba, .ref gu, .int ps_5, .int ps_6, .int ps_7])), (p, .inr (7, [.ref te, .ref de, .int (nI p_2)])), (te, .inl (E.2.2.1 0, 8, .inl te_f)), (de, .inl (E.2.2.1 0, 8, .inl de_f)), (we, .inl (E.2.2.1 0, 16, .inl we_f)), (inp, .inl (E.2.2.1 0, 128, .inl inp_f)), (md, .inr (5, [.ref mi, .long md_1, .long md_2])), (mi, .inl (E.2.2.1 3, 6, .inr (.inl mi_f)))] (fun v_ w_ => ∃ ztp_1 : Int32, ∃ ztpa_f : Nat → Int32, ∃ zb1_1 : Int32, ∃ zb1_2 : Int32, ∃ zb1_3 : Int32, ∃ zw_2 : Nat, ∃ zw_3 : Nat, ∃ zw_4 : Nat, ∃ zw_5 : Int32, ∃ zw_6 : Int32, ∃ zw_7 : Int32, ∃ zw_8 : Int32, ∃ zw_9 : Int32, ∃ zw_10 : Int32, ∃ zw_11 : Int32, ∃ zps_5 : Int32, ∃ zps_6 : Int32, ∃ zps_7 : Int32, ∃ zp_2 : Nat, ∃ zte_f : Nat → Int32, ∃ zde_f : Nat → Int32, ∃ zwe_f : Nat → Int32, ∃ zinp_f : Nat → Int32, ∃ zmd_1 : Int64, ∃ zmd_2 : Int64, ∃ zmi_f : Nat → Int64, ∃ zr : Int32, (zr = 0 ∨ zr = 1) ∧ (zw_2 ≤ 2) ∧ (zw_3 ≤ 2) ∧ (zw_4 ≤ 600) ∧ (zp_2 ≤ 8) ∧ v_ = some (.int zr) ∧ w_ = [(e, .inr (3, [.ref tp, .ref sd, .ref b1, .ref b2, .ref sh])), (tp, .inr (2, [.ref tpa, .int ztp_1])), (tpa, .inl (E.2.2.1 1, 6000, .inl (nb ztpa_f))), (b1, .inr (0, [.ref tp, .int zb1_1, .int zb1_2, .int zb1_3])), (w, .inr (9, [.ref ps, .ref md, .int (nI zw_2), .int (nI zw_3), .int (nI zw_4), .int zw_5, .int zw_6, .int zw_7, .int zw_8, .int zw_9, .int zw_10, .int zw_11])), (ps, .inr (6, [.ref p, .ref we, .ref inp, .ref ba, .ref gu, .int zps_5, .int zps_6, .int zps_7])), (p, .inr (7, [.ref te, .ref de, .int (nI zp_2)])), (te, .inl (E.2.2.1 0, 8, .inl zte_f)), (de, .inl (E.2.2.1 0, 8, .inl zde_f)), (we, .inl (E.2.2.1 0, 16, .inl zwe_f)), (inp, .inl (E.2.2.1 0, 128, .inl zinp_f)), (md, .inr (5, [.ref mi, .long zmd_1, .long zmd_2])), (mi, .inl (E.2.2.1 3, 6, .inr (.inl zmi_f)))]) := by
  refine Ev.intro (by decide) (Nat.le_of_ble_eq_true rfl) ?_
  intro X B hr hI
  have B : Bd E X cX3_readHead RX3 11 3 68 0 0 := B
  have hr : Rt E X (some .boolean) 0 0 (fun v_ w_ => ∃ ztp_1 : Int32, ∃ ztpa_f : Nat → Int32, ∃ zb1_1 : Int32, ∃ zb1_2 : Int32, ∃ zb1_3 : Int32, ∃ zw_2 : Nat, ∃ zw_3 : Nat, ∃ zw_4 : Nat, ∃ zw_5 : Int32, ∃ zw_6 : Int32, ∃ zw_7 : Int32, ∃ zw_8 : Int32, ∃ zw_9 : Int32, ∃ zw_10 : Int32, ∃ zw_11 : Int32, ∃ zps_5 : Int32, ∃ zps_6 : Int32, ∃ zps_7 : Int32, ∃ zp_2 : Nat, ∃ zte_f : Nat → Int32, ∃ zde_f : Nat → Int32, ∃ zwe_f : Nat → Int32, ∃ zinp_f : Nat → Int32, ∃ zmd_1 : Int64, ∃ zmd_2 : Int64, ∃ zmi_f : Nat → Int64, ∃ zr : Int32, (zr = 0 ∨ zr = 1) ∧ (zw_2 ≤ 2) ∧ (zw_3 ≤ 2) ∧ (zw_4 ≤ 600) ∧ (zp_2 ≤ 8) ∧ v_ = some (.int zr) ∧ w_ = [(e, .inr (3, [.ref tp, .ref sd, .ref b1, .ref b2, .ref sh])), (tp, .inr (2, [.ref tpa, .int ztp_1])), (tpa, .inl (E.2.2.1 1, 6000, .inl (nb ztpa_f))), (b1, .inr (0, [.ref tp, .int zb1_1, .int zb1_2, .int zb1_3])), (w, .inr (9, [.ref ps, .ref md, .int (nI zw_2), .int (nI zw_3), .int (nI zw_4), .int zw_5, .int zw_6, .int zw_7, .int zw_8, .int zw_9, .int zw_10, .int zw_11])), (ps, .inr (6, [.ref p, .ref we, .ref inp, .ref ba, .ref gu, .int zps_5, .int zps_6, .int zps_7])), (p, .inr (7, [.ref te, .ref de, .int (nI zp_2)])), (te, .inl (E.2.2.1 0, 8, .inl zte_f)), (de, .inl (E.2.2.1 0, 8, .inl zde_f)), (we, .inl (E.2.2.1 0, 16, .inl zwe_f)), (inp, .inl (E.2.2.1 0, 128, .inl zinp_f)), (md, .inr (5, [.ref mi, .long zmd_1, .long zmd_2])), (mi, .inl (E.2.2.1 3, 6, .inr (.inl zmi_f)))]) := hr
  show G E X 11 [(e, .inr (3, [.ref tp, .ref sd, .ref b1, .ref b2, .ref sh])), (tp, .inr (2, [.ref tpa, .int tp_1])), (tpa, .inl (E.2.2.1 1, 6000, .inl (nb tpa_f))), (b1, .inr (0, [.ref tp, .int b1_1, .int b1_2, .int b1_3])), (w, .inr (9, [.ref ps, .ref md, .int (nI w_2), .int (nI w_3), .int (nI w_4), .int w_5, .int w_6, .int w_7, .int w_8, .int w_9, .int w_10, .int w_11])), (ps, .inr (6, [.ref p, .ref we, .ref inp, .ref ba, .ref gu, .int ps_5, .int ps_6, .int ps_7])), (p, .inr (7, [.ref te, .ref de, .int (nI p_2)])), (te, .inl (E.2.2.1 0, 8, .inl te_f)), (de, .inl (E.2.2.1 0, 8, .inl de_f)), (we, .inl (E.2.2.1 0, 16, .inl we_f)), (inp, .inl (E.2.2.1 0, 128, .inl inp_f)), (md, .inr (5, [.ref mi, .long md_1, .long md_2])), (mi, .inl (E.2.2.1 3, 6, .inr (.inl mi_f)))] 0 0 [(0, .ref e), (1, .ref w), (2, .int to_)] 0 []
  refine g_aload_n B dX3_readHead_0 rfl 0 rfl ?_
  refine g_get B 0 0 fl_X3_9 rfl rfl dX3_readHead_1 ?_
  refine g_iconst (v := 1) B dX3_readHead_4 (by decide) ?_
  refine g_callV (st := []) (As := [.int 1]) (wr := [(e, .inr (3, [.ref tp, .ref sd, .ref b1, .ref b2, .ref sh])), (b1, .inr (0, [.ref tp, .int b1_1, .int b1_2, .int b1_3])), (w, .inr (9, [.ref ps, .ref md, .int (nI w_2), .int (nI w_3), .int (nI w_4), .int w_5, .int w_6, .int w_7, .int w_8, .int w_9, .int w_10, .int w_11])), (ps, .inr (6, [.ref p, .ref we, .ref inp, .ref ba, .ref gu, .int ps_5, .int ps_6, .int ps_7])), (p, .inr (7, [.ref te, .ref de, .int (nI p_2)])), (te, .inl (E.2.2.1 0, 8, .inl te_f)), (de, .inl (E.2.2.1 0, 8, .inl de_f)), (we, .inl (E.2.2.1 0, 16, .inl we_f)), (inp, .inl (E.2.2.1 0, 128, .inl inp_f)), (md, .inr (5, [.ref mi, .long md_1, .long md_2])), (mi, .inl (E.2.2.1 3, 6, .inr (.inl mi_f)))]) (nc' := 0) (ns' := 0) B cl_X3_59 w_im_X2_at w_se_X2_at (wk_X2_at E tp tpa 6000 tp_1 tpa_f 1 (by first | assumption | omega | decide)) rfl [1, 2] [0, 3, 4, 5, 6, 7, 8, 9, 10, 11, 12] rfl rfl (by decide) (by decide) (by decide) 0 rfl (fun q h => by cases h; rfl) rfl ⟨by decide, by decide⟩ rfl rfl (by decide) (by decide) rfl (Nat.le_of_ble_eq_true rfl) dX3_readHead_5 (fun v w hq => ?_)
  obtain ⟨zt_1_1034, za_f_1035, zr_1036, rfl, rfl⟩ := hq
  show G E X 11 [(e, .inr (3, [.ref tp, .ref sd, .ref b1, .ref b2, .ref sh])), (b1, .inr (0, [.ref tp, .int b1_1, .int b1_2, .int b1_3])), (w, .inr (9, [.ref ps, .ref md, .int (nI w_2), .int (nI w_3), .int (nI w_4), .int w_5, .int w_6, .int w_7, .int w_8, .int w_9, .int w_10, .int w_11])), (ps, .inr (6, [.ref p, .ref we, .ref inp, .ref ba, .ref gu, .int ps_5, .int ps_6, .int ps_7])), (p, .inr (7, [.ref te, .ref de, .int (nI p_2)])), (te, .inl (E.2.2.1 0, 8, .inl te_f)), (de, .inl (E.2.2.1 0, 8, .inl de_f)), (we, .inl (E.2.2.1 0, 16, .inl we_f)), (inp, .inl (E.2.2.1 0, 128, .inl inp_f)), (md, .inr (5, [.ref mi, .long md_1, .long md_2])), (mi, .inl (E.2.2.1 3, 6, .inr (.inl mi_f))), (tp, .inr (2, [.ref tpa, .int zt_1_1034])), (tpa, .inl (E.2.2.1 1, 6000, .inl (nb za_f_1035)))] 0 0 [(0, .ref e), (1, .ref w), (2, .int to_)] 8 [.int zr_1036]
  refine g_istore_n (lv' := [(3, .int zr_1036), (0, .ref e), (1, .ref w), (2, .int to_)]) B dX3_readHead_8 rfl (by decide) rfl ?_
  refine g_aload_n B dX3_readHead_9 rfl 1 rfl ?_
  refine g_get B 0 0 fl_X3_9 rfl rfl dX3_readHead_10 ?_
  refine g_iconst (v := 2) B dX3_readHead_13 (by decide) ?_
  refine g_callV (st := []) (As := [.int 2]) (wr := [(e, .inr (3, [.ref tp, .ref sd, .ref b1, .ref b2, .ref sh])), (b1, .inr (0, [.ref tp, .int b1_1, .int b1_2, .int b1_3])), (w, .inr (9, [.ref ps, .ref md, .int (nI w_2), .int (nI w_3), .int (nI w_4), .int w_5, .int w_6, .int w_7, .int w_8, .int w_9, .int w_10, .int w_11])), (ps, .inr (6, [.ref p, .ref we, .ref inp, .ref ba, .ref gu, .int ps_5, .int ps_6, .int ps_7])), (p, .inr (7, [.ref te, .ref de, .int (nI p_2)])), (te, .inl (E.2.2.1 0, 8, .inl te_f)), (de, .inl (E.2.2.1 0, 8, .inl de_f)), (we, .inl (E.2.2.1 0, 16, .inl we_f)), (inp, .inl (E.2.2.1 0, 128, .inl inp_f)), (md, .inr (5, [.ref mi, .long md_1, .long md_2])), (mi, .inl (E.2.2.1 3, 6, .inr (.inl mi_f)))]) (nc' := 0) (ns' := 0) B cl_X3_59 w_im_X2_at w_se_X2_at (wk_X2_at E tp tpa 6000 zt_1_1034 za_f_1035 2 (by first | assumption | omega | decide)) rfl [11, 12] [0, 1, 2, 3, 4, 5, 6, 7, 8, 9, 10] rfl rfl (by decide) (by decide) (by decide) 0 rfl (fun q h => by cases h; rfl) rfl ⟨by decide, by decide⟩ rfl rfl (by decide) (by decide) rfl (Nat.le_of_ble_eq_true rfl) dX3_readHead_14 (fun v w hq => ?_)
  obtain ⟨zt_1_1037, za_f_1038, zr_1039, rfl, rfl⟩ := hq
  show G E X 11 [(e, .inr (3, [.ref tp, .ref sd, .ref b1, .ref b2, .ref sh])), (b1, .inr (0, [.ref tp, .int b1_1, .int b1_2, .int b1_3])), (w, .inr (9, [.ref ps, .ref md, .int (nI w_2), .int (nI w_3), .int (nI w_4), .int w_5, .int w_6, .int w_7, .int w_8, .int w_9, .int w_10, .int w_11])), (ps, .inr (6, [.ref p, .ref we, .ref inp, .ref ba, .ref gu, .int ps_5, .int ps_6, .int ps_7])), (p, .inr (7, [.ref te, .ref de, .int (nI p_2)])), (te, .inl (E.2.2.1 0, 8, .inl te_f)), (de, .inl (E.2.2.1 0, 8, .inl de_f)), (we, .inl (E.2.2.1 0, 16, .inl we_f)), (inp, .inl (E.2.2.1 0, 128, .inl inp_f)), (md, .inr (5, [.ref mi, .long md_1, .long md_2])), (mi, .inl (E.2.2.1 3, 6, .inr (.inl mi_f))), (tp, .inr (2, [.ref tpa, .int zt_1_1037])), (tpa, .inl (E.2.2.1 1, 6000, .inl (nb za_f_1038)))] 0 0 [(3, .int zr_1036), (0, .ref e), (1, .ref w), (2, .int to_)] 17 [.int zr_1039]
  refine g_istore (lv' := [(4, .int zr_1039), (3, .int zr_1036), (0, .ref e), (1, .ref w), (2, .int to_)]) B dX3_readHead_17 (by decide) rfl ?_
  refine g_aload_n B dX3_readHead_19 rfl 2 rfl ?_
  refine g_get B 0 0 fl_X3_9 rfl rfl dX3_readHead_20 ?_
  refine g_iconst (v := 3) B dX3_readHead_23 (by decide) ?_
  refine g_callV (st := []) (As := [.int 3]) (wr := [(e, .inr (3, [.ref tp, .ref sd, .ref b1, .ref b2, .ref sh])), (b1, .inr (0, [.ref tp, .int b1_1, .int b1_2, .int b1_3])), (w, .inr (9, [.ref ps, .ref md, .int (nI w_2), .int (nI w_3), .int (nI w_4), .int w_5, .int w_6, .int w_7, .int w_8, .int w_9, .int w_10, .int w_11])), (ps, .inr (6, [.ref p, .ref we, .ref inp, .ref ba, .ref gu, .int ps_5, .int ps_6, .int ps_7])), (p, .inr (7, [.ref te, .ref de, .int (nI p_2)])), (te, .inl (E.2.2.1 0, 8, .inl te_f)), (de, .inl (E.2.2.1 0, 8, .inl de_f)), (we, .inl (E.2.2.1 0, 16, .inl we_f)), (inp, .inl (E.2.2.1 0, 128, .inl inp_f)), (md, .inr (5, [.ref mi, .long md_1, .long md_2])), (mi, .inl (E.2.2.1 3, 6, .inr (.inl mi_f)))]) (nc' := 0) (ns' := 0) B cl_X3_59 w_im_X2_at w_se_X2_at (wk_X2_at E tp tpa 6000 zt_1_1037 za_f_1038 3 (by first | assumption | omega | decide)) rfl [11, 12] [0, 1, 2, 3, 4, 5, 6, 7, 8, 9, 10] rfl rfl (by decide) (by decide) (by decide) 0 rfl (fun q h => by cases h; rfl) rfl ⟨by decide, by decide⟩ rfl rfl (by decide) (by decide) rfl (Nat.le_of_ble_eq_true rfl) dX3_readHead_24 (fun v w hq => ?_)
  obtain ⟨zt_1_1040, za_f_1041, zr_1042, rfl, rfl⟩ := hq
  show G E X 11 [(e, .inr (3, [.ref tp, .ref sd, .ref b1, .ref b2, .ref sh])), (b1, .inr (0, [.ref tp, .int b1_1, .int b1_2, .int b1_3])), (w, .inr (9, [.ref ps, .ref md, .int (nI w_2), .int (nI w_3), .int (nI w_4), .int w_5, .int w_6, .int w_7, .int w_8, .int w_9, .int w_10, .int w_11])), (ps, .inr (6, [.ref p, .ref we, .ref inp, .ref ba, .ref gu, .int ps_5, .int ps_6, .int ps_7])), (p, .inr (7, [.ref te, .ref de, .int (nI p_2)])), (te, .inl (E.2.2.1 0, 8, .inl te_f)), (de, .inl (E.2.2.1 0, 8, .inl de_f)), (we, .inl (E.2.2.1 0, 16, .inl we_f)), (inp, .inl (E.2.2.1 0, 128, .inl inp_f)), (md, .inr (5, [.ref mi, .long md_1, .long md_2])), (mi, .inl (E.2.2.1 3, 6, .inr (.inl mi_f))), (tp, .inr (2, [.ref tpa, .int zt_1_1040])), (tpa, .inl (E.2.2.1 1, 6000, .inl (nb za_f_1041)))] 0 0 [(4, .int zr_1039), (3, .int zr_1036), (0, .ref e), (1, .ref w), (2, .int to_)] 27 [.int zr_1042]
  refine g_bipush (v := 8) B dX3_readHead_27 (by decide) ?_
  refine g_ishl B dX3_readHead_29 ?_
  refine g_aload_n B dX3_readHead_30 rfl 2 rfl ?_
  refine g_get B 0 0 fl_X3_9 rfl rfl dX3_readHead_31 ?_
  refine g_iconst (v := 4) B dX3_readHead_34 (by decide) ?_
  refine g_callV (st := [.int (zr_1042 <<< (8 &&& 31))]) (As := [.int 4]) (wr := [(e, .inr (3, [.ref tp, .ref sd, .ref b1, .ref b2, .ref sh])), (b1, .inr (0, [.ref tp, .int b1_1, .int b1_2, .int b1_3])), (w, .inr (9, [.ref ps, .ref md, .int (nI w_2), .int (nI w_3), .int (nI w_4), .int w_5, .int w_6, .int w_7, .int w_8, .int w_9, .int w_10, .int w_11])), (ps, .inr (6, [.ref p, .ref we, .ref inp, .ref ba, .ref gu, .int ps_5, .int ps_6, .int ps_7])), (p, .inr (7, [.ref te, .ref de, .int (nI p_2)])), (te, .inl (E.2.2.1 0, 8, .inl te_f)), (de, .inl (E.2.2.1 0, 8, .inl de_f)), (we, .inl (E.2.2.1 0, 16, .inl we_f)), (inp, .inl (E.2.2.1 0, 128, .inl inp_f)), (md, .inr (5, [.ref mi, .long md_1, .long md_2])), (mi, .inl (E.2.2.1 3, 6, .inr (.inl mi_f)))]) (nc' := 0) (ns' := 0) B cl_X3_59 w_im_X2_at w_se_X2_at (wk_X2_at E tp tpa 6000 zt_1_1040 za_f_1041 4 (by first | assumption | omega | decide)) rfl [11, 12] [0, 1, 2, 3, 4, 5, 6, 7, 8, 9, 10] rfl rfl (by decide) (by decide) (by decide) 0 rfl (fun q h => by cases h; rfl) rfl ⟨by decide, by decide⟩ rfl rfl (by decide) (by decide) rfl (Nat.le_of_ble_eq_true rfl) dX3_readHead_35 (fun v w hq => ?_)
  obtain ⟨zt_1_1043, za_f_1044, zr_1045, rfl, rfl⟩ := hq
  show G E X 11 [(e, .inr (3, [.ref tp, .ref sd, .ref b1, .ref b2, .ref sh])), (b1, .inr (0, [.ref tp, .int b1_1, .int b1_2, .int b1_3])), (w, .inr (9, [.ref ps, .ref md, .int (nI w_2), .int (nI w_3), .int (nI w_4), .int w_5, .int w_6, .int w_7, .int w_8, .int w_9, .int w_10, .int w_11])), (ps, .inr (6, [.ref p, .ref we, .ref inp, .ref ba, .ref gu, .int ps_5, .int ps_6, .int ps_7])), (p, .inr (7, [.ref te, .ref de, .int (nI p_2)])), (te, .inl (E.2.2.1 0, 8, .inl te_f)), (de, .inl (E.2.2.1 0, 8, .inl de_f)), (we, .inl (E.2.2.1 0, 16, .inl we_f)), (inp, .inl (E.2.2.1 0, 128, .inl inp_f)), (md, .inr (5, [.ref mi, .long md_1, .long md_2])), (mi, .inl (E.2.2.1 3, 6, .inr (.inl mi_f))), (tp, .inr (2, [.ref tpa, .int zt_1_1043])), (tpa, .inl (E.2.2.1 1, 6000, .inl (nb za_f_1044)))] 0 0 [(4, .int zr_1039), (3, .int zr_1036), (0, .ref e), (1, .ref w), (2, .int to_)] 38 [.int zr_1045, .int (zr_1042 <<< (8 &&& 31))]
  refine g_ior B dX3_readHead_38 ?_
  refine g_topi (fun x_1046 ex_1046 => ?_)
  refine g_istore (lv' := [(5, .int x_1046), (4, .int zr_1039), (3, .int zr_1036), (0, .ref e), (1, .ref w), (2, .int to_)]) B dX3_readHead_39 (by decide) rfl ?_
  refine g_aload_n B dX3_readHead_41 rfl 3 rfl ?_
  refine g_get B 0 0 fl_X3_9 rfl rfl dX3_readHead_42 ?_
  refine g_iconst (v := 5) B dX3_readHead_45 (by decide) ?_
  refine g_callV (st := []) (As := [.int 5]) (wr := [(e, .inr (3, [.ref tp, .ref sd, .ref b1, .ref b2, .ref sh])), (b1, .inr (0, [.ref tp, .int b1_1, .int b1_2, .int b1_3])), (w, .inr (9, [.ref ps, .ref md, .int (nI w_2), .int (nI w_3), .int (nI w_4), .int w_5, .int w_6, .int w_7, .int w_8, .int w_9, .int w_10, .int w_11])), (ps, .inr (6, [.ref p, .ref we, .ref inp, .ref ba, .ref gu, .int ps_5, .int ps_6, .int ps_7])), (p, .inr (7, [.ref te, .ref de, .int (nI p_2)])), (te, .inl (E.2.2.1 0, 8, .inl te_f)), (de, .inl (E.2.2.1 0, 8, .inl de_f)), (we, .inl (E.2.2.1 0, 16, .inl we_f)), (inp, .inl (E.2.2.1 0, 128, .inl inp_f)), (md, .inr (5, [.ref mi, .long md_1, .long md_2])), (mi, .inl (E.2.2.1 3, 6, .inr (.inl mi_f)))]) (nc' := 0) (ns' := 0) B cl_X3_59 w_im_X2_at w_se_X2_at (wk_X2_at E tp tpa 6000 zt_1_1043 za_f_1044 5 (by first | assumption | omega | decide)) rfl [11, 12] [0, 1, 2, 3, 4, 5, 6, 7, 8, 9, 10] rfl rfl (by decide) (by decide) (by decide) 0 rfl (fun q h => by cases h; rfl) rfl ⟨by decide, by decide⟩ rfl rfl (by decide) (by decide) rfl (Nat.le_of_ble_eq_true rfl) dX3_readHead_46 (fun v w hq => ?_)
  obtain ⟨zt_1_1047, za_f_1048, zr_1049, rfl, rfl⟩ := hq
  show G E X 11 [(e, .inr (3, [.ref tp, .ref sd, .ref b1, .ref b2, .ref sh])), (b1, .inr (0, [.ref tp, .int b1_1, .int b1_2, .int b1_3])), (w, .inr (9, [.ref ps, .ref md, .int (nI w_2), .int (nI w_3), .int (nI w_4), .int w_5, .int w_6, .int w_7, .int w_8, .int w_9, .int w_10, .int w_11])), (ps, .inr (6, [.ref p, .ref we, .ref inp, .ref ba, .ref gu, .int ps_5, .int ps_6, .int ps_7])), (p, .inr (7, [.ref te, .ref de, .int (nI p_2)])), (te, .inl (E.2.2.1 0, 8, .inl te_f)), (de, .inl (E.2.2.1 0, 8, .inl de_f)), (we, .inl (E.2.2.1 0, 16, .inl we_f)), (inp, .inl (E.2.2.1 0, 128, .inl inp_f)), (md, .inr (5, [.ref mi, .long md_1, .long md_2])), (mi, .inl (E.2.2.1 3, 6, .inr (.inl mi_f))), (tp, .inr (2, [.ref tpa, .int zt_1_1047])), (tpa, .inl (E.2.2.1 1, 6000, .inl (nb za_f_1048)))] 0 0 [(5, .int x_1046), (4, .int zr_1039), (3, .int zr_1036), (0, .ref e), (1, .ref w), (2, .int to_)] 49 [.int zr_1049]
  refine g_istore (lv' := [(6, .int zr_1049), (5, .int x_1046), (4, .int zr_1039), (3, .int zr_1036), (0, .ref e), (1, .ref w), (2, .int to_)]) B dX3_readHead_49 (by decide) rfl ?_
  refine g_aload_n B dX3_readHead_51 rfl 4 rfl ?_
  refine g_get B 0 0 fl_X3_9 rfl rfl dX3_readHead_52 ?_
  refine g_iconst (v := 0) B dX3_readHead_55 (by decide) ?_
  refine g_callV (st := []) (As := [.int 0]) (wr := [(e, .inr (3, [.ref tp, .ref sd, .ref b1, .ref b2, .ref sh])), (b1, .inr (0, [.ref tp, .int b1_1, .int b1_2, .int b1_3])), (w, .inr (9, [.ref ps, .ref md, .int (nI w_2), .int (nI w_3), .int (nI w_4), .int w_5, .int w_6, .int w_7, .int w_8, .int w_9, .int w_10, .int w_11])), (ps, .inr (6, [.ref p, .ref we, .ref inp, .ref ba, .ref gu, .int ps_5, .int ps_6, .int ps_7])), (p, .inr (7, [.ref te, .ref de, .int (nI p_2)])), (te, .inl (E.2.2.1 0, 8, .inl te_f)), (de, .inl (E.2.2.1 0, 8, .inl de_f)), (we, .inl (E.2.2.1 0, 16, .inl we_f)), (inp, .inl (E.2.2.1 0, 128, .inl inp_f)), (md, .inr (5, [.ref mi, .long md_1, .long md_2])), (mi, .inl (E.2.2.1 3, 6, .inr (.inl mi_f)))]) (nc' := 0) (ns' := 0) B cl_X3_59 w_im_X2_at w_se_X2_at (wk_X2_at E tp tpa 6000 zt_1_1047 za_f_1048 0 (by first | assumption | omega | decide)) rfl [11, 12] [0, 1, 2, 3, 4, 5, 6, 7, 8, 9, 10] rfl rfl (by decide) (by decide) (by decide) 0 rfl (fun q h => by cases h; rfl) rfl ⟨by decide, by decide⟩ rfl rfl (by decide) (by decide) rfl (Nat.le_of_ble_eq_true rfl) dX3_readHead_56 (fun v w hq => ?_)
  obtain ⟨zt_1_1050, za_f_1051, zr_1052, rfl, rfl⟩ := hq
  show G E X 11 [(e, .inr (3, [.ref tp, .ref sd, .ref b1, .ref b2, .ref sh])), (b1, .inr (0, [.ref tp, .int b1_1, .int b1_2, .int b1_3])), (w, .inr (9, [.ref ps, .ref md, .int (nI w_2), .int (nI w_3), .int (nI w_4), .int w_5, .int w_6, .int w_7, .int w_8, .int w_9, .int w_10, .int w_11])), (ps, .inr (6, [.ref p, .ref we, .ref inp, .ref ba, .ref gu, .int ps_5, .int ps_6, .int ps_7])), (p, .inr (7, [.ref te, .ref de, .int (nI p_2)])), (te, .inl (E.2.2.1 0, 8, .inl te_f)), (de, .inl (E.2.2.1 0, 8, .inl de_f)), (we, .inl (E.2.2.1 0, 16, .inl we_f)), (inp, .inl (E.2.2.1 0, 128, .inl inp_f)), (md, .inr (5, [.ref mi, .long md_1, .long md_2])), (mi, .inl (E.2.2.1 3, 6, .inr (.inl mi_f))), (tp, .inr (2, [.ref tpa, .int zt_1_1050])), (tpa, .inl (E.2.2.1 1, 6000, .inl (nb za_f_1051)))] 0 0 [(6, .int zr_1049), (5, .int x_1046), (4, .int zr_1039), (3, .int zr_1036), (0, .ref e), (1, .ref w), (2, .int to_)] 59 [.int zr_1052]
  refine g_bipush (v := 83) B dX3_readHead_59 (by decide) ?_
  refine g_icmp_ne (tgt := 99) B dX3_readHead_61 (by decide) (fun c61_1053 => ?_) (fun c61_1053 => ?_)
  · refine g_iconst (v := 0) B dX3_readHead_99 (by decide) ?_
    refine g_sub (ws' := [(e, .inr (3, [.ref tp, .ref sd, .ref b1, .ref b2, .ref sh])), (tp, .inr (2, [.ref tpa, .int zt_1_1050])), (tpa, .inl (E.2.2.1 1, 6000, .inl (nb za_f_1051))), (b1, .inr (0, [.ref tp, .int b1_1, .int b1_2, .int b1_3])), (w, .inr (9, [.ref ps, .ref md, .int (nI w_2), .int (nI w_3), .int (nI w_4), .int w_5, .int w_6, .int w_7, .int w_8, .int w_9, .int w_10, .int w_11])), (ps, .inr (6, [.ref p, .ref we, .ref inp, .ref ba, .ref gu, .int ps_5, .int ps_6, .int ps_7])), (p, .inr (7, [.ref te, .ref de, .int (nI p_2)])), (te, .inl (E.2.2.1 0, 8, .inl te_f)), (de, .inl (E.2.2.1 0, 8, .inl de_f)), (we, .inl (E.2.2.1 0, 16, .inl we_f)), (inp, .inl (E.2.2.1 0, 128, .inl inp_f)), (md, .inr (5, [.ref mi, .long md_1, .long md_2])), (mi, .inl (E.2.2.1 3, 6, .inr (.inl mi_f)))]) [0, 11, 12, 1, 2, 3, 4, 5, 6, 7, 8, 9, 10] (by decide) rfl ?_
    exact g_zret B hr (by decide) dX3_readHead_100 (by decide) (by decide) ⟨zt_1_1050, za_f_1051, b1_1, b1_2, b1_3, w_2, w_3, w_4, w_5, w_6, w_7, w_8, w_9, w_10, w_11, ps_5, ps_6, ps_7, p_2, te_f, de_f, we_f, inp_f, md_1, md_2, mi_f, 0, (Or.inl rfl), (by first | assumption | omega | decide), (by first | assumption | omega | decide), (by first | assumption | omega | decide), (by first | assumption | omega | decide), rfl, rfl⟩
  · refine g_iload_n B dX3_readHead_64 rfl 3 rfl ?_
    refine g_callS (st := []) (As := [.int zr_1036]) (wr := [(e, .inr (3, [.ref tp, .ref sd, .ref b1, .ref b2, .ref sh])), (b1, .inr (0, [.ref tp, .int b1_1, .int b1_2, .int b1_3])), (w, .inr (9, [.ref ps, .ref md, .int (nI w_2), .int (nI w_3), .int (nI w_4), .int w_5, .int w_6, .int w_7, .int w_8, .int w_9, .int w_10, .int w_11])), (ps, .inr (6, [.ref p, .ref we, .ref inp, .ref ba, .ref gu, .int ps_5, .int ps_6, .int ps_7])), (p, .inr (7, [.ref te, .ref de, .int (nI p_2)])), (te, .inl (E.2.2.1 0, 8, .inl te_f)), (de, .inl (E.2.2.1 0, 8, .inl de_f)), (we, .inl (E.2.2.1 0, 16, .inl we_f)), (inp, .inl (E.2.2.1 0, 128, .inl inp_f)), (md, .inr (5, [.ref mi, .long md_1, .long md_2])), (mi, .inl (E.2.2.1 3, 6, .inr (.inl mi_f))), (tp, .inr (2, [.ref tpa, .int zt_1_1050])), (tpa, .inl (E.2.2.1 1, 6000, .inl (nb za_f_1051)))]) (nc' := 0) (ns' := 0) B cl_X3_62 w_sm_X3_areFlags (wk_X3_areFlags E zr_1036 ) rfl [] [0, 1, 2, 3, 4, 5, 6, 7, 8, 9, 10, 11, 12] rfl rfl (by decide) (by decide) (by decide) ⟨by decide, by decide⟩ rfl rfl (by decide) (by decide) rfl (Nat.le_of_ble_eq_true rfl) dX3_readHead_65 (fun v w hq => ?_)
    obtain ⟨zr_1054, hf_1055, rfl, rfl⟩ := hq
    show G E X 11 [(e, .inr (3, [.ref tp, .ref sd, .ref b1, .ref b2, .ref sh])), (b1, .inr (0, [.ref tp, .int b1_1, .int b1_2, .int b1_3])), (w, .inr (9, [.ref ps, .ref md, .int (nI w_2), .int (nI w_3), .int (nI w_4), .int w_5, .int w_6, .int w_7, .int w_8, .int w_9, .int w_10, .int w_11])), (ps, .inr (6, [.ref p, .ref we, .ref inp, .ref ba, .ref gu, .int ps_5, .int ps_6, .int ps_7])), (p, .inr (7, [.ref te, .ref de, .int (nI p_2)])), (te, .inl (E.2.2.1 0, 8, .inl te_f)), (de, .inl (E.2.2.1 0, 8, .inl de_f)), (we, .inl (E.2.2.1 0, 16, .inl we_f)), (inp, .inl (E.2.2.1 0, 128, .inl inp_f)), (md, .inr (5, [.ref mi, .long md_1, .long md_2])), (mi, .inl (E.2.2.1 3, 6, .inr (.inl mi_f))), (tp, .inr (2, [.ref tpa, .int zt_1_1050])), (tpa, .inl (E.2.2.1 1, 6000, .inl (nb za_f_1051)))] 0 0 [(6, .int zr_1049), (5, .int x_1046), (4, .int zr_1039), (3, .int zr_1036), (0, .ref e), (1, .ref w), (2, .int to_)] 68 [.int zr_1054]
    refine g_if_eq (tgt := 99) B dX3_readHead_68 (by decide) (fun c68_1056 => ?_) (fun c68_1056 => ?_)
    · refine g_iconst (v := 0) B dX3_readHead_99 (by decide) ?_
      refine g_sub (ws' := [(e, .inr (3, [.ref tp, .ref sd, .ref b1, .ref b2, .ref sh])), (tp, .inr (2, [.ref tpa, .int zt_1_1050])), (tpa, .inl (E.2.2.1 1, 6000, .inl (nb za_f_1051))), (b1, .inr (0, [.ref tp, .int b1_1, .int b1_2, .int b1_3])), (w, .inr (9, [.ref ps, .ref md, .int (nI w_2), .int (nI w_3), .int (nI w_4), .int w_5, .int w_6, .int w_7, .int w_8, .int w_9, .int w_10, .int w_11])), (ps, .inr (6, [.ref p, .ref we, .ref inp, .ref ba, .ref gu, .int ps_5, .int ps_6, .int ps_7])), (p, .inr (7, [.ref te, .ref de, .int (nI p_2)])), (te, .inl (E.2.2.1 0, 8, .inl te_f)), (de, .inl (E.2.2.1 0, 8, .inl de_f)), (we, .inl (E.2.2.1 0, 16, .inl we_f)), (inp, .inl (E.2.2.1 0, 128, .inl inp_f)), (md, .inr (5, [.ref mi, .long md_1, .long md_2])), (mi, .inl (E.2.2.1 3, 6, .inr (.inl mi_f)))]) [0, 11, 12, 1, 2, 3, 4, 5, 6, 7, 8, 9, 10] (by decide) rfl ?_
      exact g_zret B hr (by decide) dX3_readHead_100 (by decide) (by decide) ⟨zt_1_1050, za_f_1051, b1_1, b1_2, b1_3, w_2, w_3, w_4, w_5, w_6, w_7, w_8, w_9, w_10, w_11, ps_5, ps_6, ps_7, p_2, te_f, de_f, we_f, inp_f, md_1, md_2, mi_f, 0, (Or.inl rfl), (by first | assumption | omega | decide), (by first | assumption | omega | decide), (by first | assumption | omega | decide), (by first | assumption | omega | decide), rfl, rfl⟩
    · refine g_iload B dX3_readHead_71 2 rfl ?_
      refine g_bipush (v := 23) B dX3_readHead_73 (by decide) ?_
      refine g_icmp_gt (tgt := 99) B dX3_readHead_75 (by decide) (fun c75_1057 => ?_) (fun c75_1057 => ?_)
      · refine g_iconst (v := 0) B dX3_readHead_99 (by decide) ?_
        refine g_sub (ws' := [(e, .inr (3, [.ref tp, .ref sd, .ref b1, .ref b2, .ref sh])), (tp, .inr (2, [.ref tpa, .int zt_1_1050])), (tpa, .inl (E.2.2.1 1, 6000, .inl (nb za_f_1051))), (b1, .inr (0, [.ref tp, .int b1_1, .int b1_2, .int b1_3])), (w, .inr (9, [.ref ps, .ref md, .int (nI w_2), .int (nI w_3), .int (nI w_4), .int w_5, .int w_6, .int w_7, .int w_8, .int w_9, .int w_10, .int w_11])), (ps, .inr (6, [.ref p, .ref we, .ref inp, .ref ba, .ref gu, .int ps_5, .int ps_6, .int ps_7])), (p, .inr (7, [.ref te, .ref de, .int (nI p_2)])), (te, .inl (E.2.2.1 0, 8, .inl te_f)), (de, .inl (E.2.2.1 0, 8, .inl de_f)), (we, .inl (E.2.2.1 0, 16, .inl we_f)), (inp, .inl (E.2.2.1 0, 128, .inl inp_f)), (md, .inr (5, [.ref mi, .long md_1, .long md_2])), (mi, .inl (E.2.2.1 3, 6, .inr (.inl mi_f)))]) [0, 11, 12, 1, 2, 3, 4, 5, 6, 7, 8, 9, 10] (by decide) rfl ?_
        exact g_zret B hr (by decide) dX3_readHead_100 (by decide) (by decide) ⟨zt_1_1050, za_f_1051, b1_1, b1_2, b1_3, w_2, w_3, w_4, w_5, w_6, w_7, w_8, w_9, w_10, w_11, ps_5, ps_6, ps_7, p_2, te_f, de_f, we_f, inp_f, md_1, md_2, mi_f, 0, (Or.inl rfl), (by first | assumption | omega | decide), (by first | assumption | omega | decide), (by first | assumption | omega | decide), (by first | assumption | omega | decide), rfl, rfl⟩
      · refine g_iload B dX3_readHead_78 1 rfl ?_
        refine g_iconst (v := 1) B dX3_readHead_80 (by decide) ?_
        refine g_icmp_lt (tgt := 99) B dX3_readHead_81 (by decide) (fun c81_1058 => ?_) (fun c81_1058 => ?_)
        · refine g_iconst (v := 0) B dX3_readHead_99 (by decide) ?_
          refine g_sub (ws' := [(e, .inr (3, [.ref tp, .ref sd, .ref b1, .ref b2, .ref sh])), (tp, .inr (2, [.ref tpa, .int zt_1_1050])), (tpa, .inl (E.2.2.1 1, 6000, .inl (nb za_f_1051))), (b1, .inr (0, [.ref tp, .int b1_1, .int b1_2, .int b1_3])), (w, .inr (9, [.ref ps, .ref md, .int (nI w_2), .int (nI w_3), .int (nI w_4), .int w_5, .int w_6, .int w_7, .int w_8, .int w_9, .int w_10, .int w_11])), (ps, .inr (6, [.ref p, .ref we, .ref inp, .ref ba, .ref gu, .int ps_5, .int ps_6, .int ps_7])), (p, .inr (7, [.ref te, .ref de, .int (nI p_2)])), (te, .inl (E.2.2.1 0, 8, .inl te_f)), (de, .inl (E.2.2.1 0, 8, .inl de_f)), (we, .inl (E.2.2.1 0, 16, .inl we_f)), (inp, .inl (E.2.2.1 0, 128, .inl inp_f)), (md, .inr (5, [.ref mi, .long md_1, .long md_2])), (mi, .inl (E.2.2.1 3, 6, .inr (.inl mi_f)))]) [0, 11, 12, 1, 2, 3, 4, 5, 6, 7, 8, 9, 10] (by decide) rfl ?_
          exact g_zret B hr (by decide) dX3_readHead_100 (by decide) (by decide) ⟨zt_1_1050, za_f_1051, b1_1, b1_2, b1_3, w_2, w_3, w_4, w_5, w_6, w_7, w_8, w_9, w_10, w_11, ps_5, ps_6, ps_7, p_2, te_f, de_f, we_f, inp_f, md_1, md_2, mi_f, 0, (Or.inl rfl), (by first | assumption | omega | decide), (by first | assumption | omega | decide), (by first | assumption | omega | decide), (by first | assumption | omega | decide), rfl, rfl⟩
        · refine g_iload B dX3_readHead_84 1 rfl ?_
          refine g_sipush (v := 600) B dX3_readHead_86 (by decide) ?_
          refine g_icmp_gt (tgt := 99) B dX3_readHead_89 (by decide) (fun c89_1059 => ?_) (fun c89_1059 => ?_)
          · refine g_iconst (v := 0) B dX3_readHead_99 (by decide) ?_
            refine g_sub (ws' := [(e, .inr (3, [.ref tp, .ref sd, .ref b1, .ref b2, .ref sh])), (tp, .inr (2, [.ref tpa, .int zt_1_1050])), (tpa, .inl (E.2.2.1 1, 6000, .inl (nb za_f_1051))), (b1, .inr (0, [.ref tp, .int b1_1, .int b1_2, .int b1_3])), (w, .inr (9, [.ref ps, .ref md, .int (nI w_2), .int (nI w_3), .int (nI w_4), .int w_5, .int w_6, .int w_7, .int w_8, .int w_9, .int w_10, .int w_11])), (ps, .inr (6, [.ref p, .ref we, .ref inp, .ref ba, .ref gu, .int ps_5, .int ps_6, .int ps_7])), (p, .inr (7, [.ref te, .ref de, .int (nI p_2)])), (te, .inl (E.2.2.1 0, 8, .inl te_f)), (de, .inl (E.2.2.1 0, 8, .inl de_f)), (we, .inl (E.2.2.1 0, 16, .inl we_f)), (inp, .inl (E.2.2.1 0, 128, .inl inp_f)), (md, .inr (5, [.ref mi, .long md_1, .long md_2])), (mi, .inl (E.2.2.1 3, 6, .inr (.inl mi_f)))]) [0, 11, 12, 1, 2, 3, 4, 5, 6, 7, 8, 9, 10] (by decide) rfl ?_
            exact g_zret B hr (by decide) dX3_readHead_100 (by decide) (by decide) ⟨zt_1_1050, za_f_1051, b1_1, b1_2, b1_3, w_2, w_3, w_4, w_5, w_6, w_7, w_8, w_9, w_10, w_11, ps_5, ps_6, ps_7, p_2, te_f, de_f, we_f, inp_f, md_1, md_2, mi_f, 0, (Or.inl rfl), (by first | assumption | omega | decide), (by first | assumption | omega | decide), (by first | assumption | omega | decide), (by first | assumption | omega | decide), rfl, rfl⟩
          · refine g_iload B dX3_readHead_92 0 rfl ?_
            refine g_bipush (v := 8) B dX3_readHead_94 (by decide) ?_
            refine g_icmp_le (tgt := 101) B dX3_readHead_96 (by decide) (fun c96_1060 => ?_) (fun c96_1060 => ?_)
            · refine g_iload_n B dX3_readHead_101 rfl 3 rfl ?_
              refine g_bipush (v := 8) B dX3_readHead_102 (by decide) ?_
              refine g_iand B dX3_readHead_104 ?_
              refine g_if_eq (tgt := 112) B dX3_readHead_105 (by decide) (fun c105_1061 => ?_) (fun c105_1061 => ?_)
              · refine g_iconst (v := 0) B dX3_readHead_112 (by decide) ?_
                refine g_istore (lv' := [(7, .int 0), (6, .int zr_1049), (5, .int x_1046), (4, .int zr_1039), (3, .int zr_1036), (0, .ref e), (1, .ref w), (2, .int to_)]) B dX3_readHead_113 (by decide) rfl ?_
                refine g_bipush (v := 6) B dX3_readHead_115 (by decide) ?_
                refine g_iconst (v := 2) B dX3_readHead_117 (by decide) ?_
                refine g_iload B dX3_readHead_118 1 rfl ?_
                refine g_imul B dX3_readHead_120 ?_
                refine g_iadd B dX3_readHead_121 ?_
                refine g_istore (lv' := [(8, .int (6 + (2 * zr_1049))), (7, .int 0), (6, .int zr_1049), (5, .int x_1046), (4, .int zr_1039), (3, .int zr_1036), (0, .ref e), (1, .ref w), (2, .int to_)]) B dX3_readHead_122 (by decide) rfl ?_
                refine g_iload B dX3_readHead_124 0 rfl ?_
                refine g_iload B dX3_readHead_126 1 rfl ?_
                refine g_if_eq (tgt := 135) B dX3_readHead_128 (by decide) (fun c128 => ?_) (fun h => absurd (by decide) h)
                refine g_iconst (v := 0) B dX3_readHead_135 (by decide) ?_
                refine g_iadd B dX3_readHead_136 ?_
                refine g_topi (fun x_1062 ex_1062 => ?_)
                refine g_istore (lv' := [(9, .int x_1062), (8, .int (6 + (2 * zr_1049))), (7, .int 0), (6, .int zr_1049), (5, .int x_1046), (4, .int zr_1039), (3, .int zr_1036), (0, .ref e), (1, .ref w), (2, .int to_)]) B dX3_readHead_137 (by decide) rfl ?_
                refine g_iload B dX3_readHead_139 0 rfl ?_
                refine g_iload_n B dX3_readHead_141 rfl 9 rfl ?_
                refine g_icmp_gt (tgt := 161) B dX3_readHead_142 (by decide) (fun c142_1063 => ?_) (fun c142_1063 => ?_)
                · refine g_iconst (v := 0) B dX3_readHead_161 (by decide) ?_
                  refine g_sub (ws' := [(e, .inr (3, [.ref tp, .ref sd, .ref b1, .ref b2, .ref sh])), (tp, .inr (2, [.ref tpa, .int zt_1_1050])), (tpa, .inl (E.2.2.1 1, 6000, .inl (nb za_f_1051))), (b1, .inr (0, [.ref tp, .int b1_1, .int b1_2, .int b1_3])), (w, .inr (9, [.ref ps, .ref md, .int (nI w_2), .int (nI w_3), .int (nI w_4), .int w_5, .int w_6, .int w_7, .int w_8, .int w_9, .int w_10, .int w_11])), (ps, .inr (6, [.ref p, .ref we, .ref inp, .ref ba, .ref gu, .int ps_5, .int ps_6, .int ps_7])), (p, .inr (7, [.ref te, .ref de, .int (nI p_2)])), (te, .inl (E.2.2.1 0, 8, .inl te_f)), (de, .inl (E.2.2.1 0, 8, .inl de_f)), (we, .inl (E.2.2.1 0, 16, .inl we_f)), (inp, .inl (E.2.2.1 0, 128, .inl inp_f)), (md, .inr (5, [.ref mi, .long md_1, .long md_2])), (mi, .inl (E.2.2.1 3, 6, .inr (.inl mi_f)))]) [0, 11, 12, 1, 2, 3, 4, 5, 6, 7, 8, 9, 10] (by decide) rfl ?_
                  exact g_zret B hr (by decide) dX3_readHead_162 (by decide) (by decide) ⟨zt_1_1050, za_f_1051, b1_1, b1_2, b1_3, w_2, w_3, w_4, w_5, w_6, w_7, w_8, w_9, w_10, w_11, ps_5, ps_6, ps_7, p_2, te_f, de_f, we_f, inp_f, md_1, md_2, mi_f, 0, (Or.inl rfl), (by first | assumption | omega | decide), (by first | assumption | omega | decide), (by first | assumption | omega | decide), (by first | assumption | omega | decide), rfl, rfl⟩
                · refine g_aload_n B dX3_readHead_145 rfl 7 rfl ?_
                  refine g_aload_n B dX3_readHead_146 rfl 8 rfl ?_
                  refine g_get B 2 0 fl_X3_66 rfl rfl dX3_readHead_147 ?_
                  refine g_get B 3 0 fl_X3_72 rfl rfl dX3_readHead_150 ?_
                  refine g_iload B dX3_readHead_153 3 rfl ?_
                  refine g_callV (st := []) (As := [.ref p, .int zr_1049]) (wr := [(b1, .inr (0, [.ref tp, .int b1_1, .int b1_2, .int b1_3])), (w, .inr (9, [.ref ps, .ref md, .int (nI w_2), .int (nI w_3), .int (nI w_4), .int w_5, .int w_6, .int w_7, .int w_8, .int w_9, .int w_10, .int w_11])), (ps, .inr (6, [.ref p, .ref we, .ref inp, .ref ba, .ref gu, .int ps_5, .int ps_6, .int ps_7])), (we, .inl (E.2.2.1 0, 16, .inl we_f)), (inp, .inl (E.2.2.1 0, 128, .inl inp_f)), (md, .inr (5, [.ref mi, .long md_1, .long md_2])), (mi, .inl (E.2.2.1 3, 6, .inr (.inl mi_f)))]) (nc' := 0) (ns' := 0) B cl_X3_78 w_im_X3_readPlan w_se_X3_readPlan (wk_X3_readPlan E e tp sd b1 b2 sh tpa p te de zt_1_1050 za_f_1051 p_2 te_f de_f zr_1049 (by first | assumption | omega | decide)) rfl [0, 11, 12, 4, 5, 6] [1, 2, 3, 7, 8, 9, 10] rfl rfl (by decide) (by decide) (by decide) 0 rfl (fun q h => by cases h; rfl) rfl ⟨by decide, by decide⟩ rfl rfl (by decide) (by decide) rfl (Nat.le_of_ble_eq_true rfl) dX3_readHead_155 (fun v w hq => ?_)
                  obtain ⟨ztp_1_1064, ztpa_f_1065, zp_2_1066, zte_f_1067, zde_f_1068, zr_1069, hf_1070, hf_1071, rfl, rfl⟩ := hq
                  show G E X 11 [(b1, .inr (0, [.ref tp, .int b1_1, .int b1_2, .int b1_3])), (w, .inr (9, [.ref ps, .ref md, .int (nI w_2), .int (nI w_3), .int (nI w_4), .int w_5, .int w_6, .int w_7, .int w_8, .int w_9, .int w_10, .int w_11])), (ps, .inr (6, [.ref p, .ref we, .ref inp, .ref ba, .ref gu, .int ps_5, .int ps_6, .int ps_7])), (we, .inl (E.2.2.1 0, 16, .inl we_f)), (inp, .inl (E.2.2.1 0, 128, .inl inp_f)), (md, .inr (5, [.ref mi, .long md_1, .long md_2])), (mi, .inl (E.2.2.1 3, 6, .inr (.inl mi_f))), (e, .inr (3, [.ref tp, .ref sd, .ref b1, .ref b2, .ref sh])), (tp, .inr (2, [.ref tpa, .int ztp_1_1064])), (tpa, .inl (E.2.2.1 1, 6000, .inl (nb ztpa_f_1065))), (p, .inr (7, [.ref te, .ref de, .int (nI zp_2_1066)])), (te, .inl (E.2.2.1 0, 8, .inl zte_f_1067)), (de, .inl (E.2.2.1 0, 8, .inl zde_f_1068))] 0 0 [(9, .int x_1062), (8, .int (6 + (2 * zr_1049))), (7, .int 0), (6, .int zr_1049), (5, .int x_1046), (4, .int zr_1039), (3, .int zr_1036), (0, .ref e), (1, .ref w), (2, .int to_)] 158 [.int zr_1069]
                  refine g_if_ne (tgt := 163) B dX3_readHead_158 (by decide) (fun c158_1072 => ?_) (fun c158_1072 => ?_)
                  · refine g_iload B dX3_readHead_163 2 rfl ?_
                    refine g_if_eq (tgt := 195) B dX3_readHead_165 (by decide) (fun c165 => ?_) (fun h => absurd (by decide) h)
                    refine g_iconst (v := 0) B dX3_readHead_195 (by decide) ?_
                    refine g_istore (lv' := [(10, .int 0), (9, .int x_1062), (8, .int (6 + (2 * zr_1049))), (7, .int 0), (6, .int zr_1049), (5, .int x_1046), (4, .int zr_1039), (3, .int zr_1036), (0, .ref e), (1, .ref w), (2, .int to_)]) B dX3_readHead_196 (by decide) rfl ?_
                    refine g_aload_n B dX3_readHead_198 rfl 9 rfl ?_
                    refine g_iload_n B dX3_readHead_199 rfl 7 rfl ?_
                    refine g_iload B dX3_readHead_200 6 rfl ?_
                    refine g_iload B dX3_readHead_202 5 rfl ?_
                    refine g_iload B dX3_readHead_204 0 rfl ?_
                    obtain ⟨nf_1073, hnf_1073, rfl⟩ := fr_of (x := x_1046) c81_1058 c89_1059
                    refine g_callV (st := []) (As := [.int zr_1036, .int zr_1039, .int (nI nf_1073), .int 0]) (wr := [(b1, .inr (0, [.ref tp, .int b1_1, .int b1_2, .int b1_3])), (e, .inr (3, [.ref tp, .ref sd, .ref b1, .ref b2, .ref sh])), (tp, .inr (2, [.ref tpa, .int ztp_1_1064])), (tpa, .inl (E.2.2.1 1, 6000, .inl (nb ztpa_f_1065))), (p, .inr (7, [.ref te, .ref de, .int (nI zp_2_1066)])), (te, .inl (E.2.2.1 0, 8, .inl zte_f_1067)), (de, .inl (E.2.2.1 0, 8, .inl zde_f_1068))]) (nc' := 0) (ns' := 0) B cl_X3_82 w_im_X9_begin w_se_X9_begin (wk_X9_begin E w ps md p we inp ba gu mi nf_1073 w_2 w_3 w_4 w_5 w_6 w_7 w_8 w_9 w_10 w_11 ps_5 ps_6 ps_7 we_f inp_f md_1 md_2 mi_f zr_1036 zr_1039 0 (by first | assumption | omega | decide) (by first | assumption | omega | decide) (by first | assumption | omega | decide) (by first | assumption | omega | decide)) rfl [1, 2, 3, 4, 5, 6] [0, 7, 8, 9, 10, 11, 12] rfl rfl (by decide) (by decide) (by decide) 0 rfl (fun q h => by cases h; rfl) rfl ⟨by decide, by decide⟩ rfl rfl (by decide) (by decide) rfl (Nat.le_of_ble_eq_true rfl) dX3_readHead_206 (fun v w hq => ?_)
                    obtain ⟨zw_2_1074, zw_3_1075, zw_4_1076, zw_5_1077, zw_6_1078, zw_7_1079, zw_8_1080, zw_9_1081, zw_10_1082, zw_11_1083, zps_5_1084, zps_6_1085, zps_7_1086, zwe_f_1087, zinp_f_1088, zmd_1_1089, zmd_2_1090, zmi_f_1091, hf_1092, hf_1093, hf_1094, rfl, rfl⟩ := hq
                    show G E X 11 [(b1, .inr (0, [.ref tp, .int b1_1, .int b1_2, .int b1_3])), (e, .inr (3, [.ref tp, .ref sd, .ref b1, .ref b2, .ref sh])), (tp, .inr (2, [.ref tpa, .int ztp_1_1064])), (tpa, .inl (E.2.2.1 1, 6000, .inl (nb ztpa_f_1065))), (p, .inr (7, [.ref te, .ref de, .int (nI zp_2_1066)])), (te, .inl (E.2.2.1 0, 8, .inl zte_f_1067)), (de, .inl (E.2.2.1 0, 8, .inl zde_f_1068)), (w, .inr (9, [.ref ps, .ref md, .int (nI zw_2_1074), .int (nI zw_3_1075), .int (nI zw_4_1076), .int zw_5_1077, .int zw_6_1078, .int zw_7_1079, .int zw_8_1080, .int zw_9_1081, .int zw_10_1082, .int zw_11_1083])), (ps, .inr (6, [.ref p, .ref we, .ref inp, .ref ba, .ref gu, .int zps_5_1084, .int zps_6_1085, .int zps_7_1086])), (we, .inl (E.2.2.1 0, 16, .inl zwe_f_1087)), (inp, .inl (E.2.2.1 0, 128, .inl zinp_f_1088)), (md, .inr (5, [.ref mi, .long zmd_1_1089, .long zmd_2_1090])), (mi, .inl (E.2.2.1 3, 6, .inr (.inl zmi_f_1091)))] 0 0 [(10, .int 0), (9, .int x_1062), (8, .int (6 + (2 * zr_1049))), (7, .int 0), (6, .int zr_1049), (5, .int (nI nf_1073)), (4, .int zr_1039), (3, .int zr_1036), (0, .ref e), (1, .ref w), (2, .int to_)] 209 []
                    refine g_aload_n B dX3_readHead_209 rfl 8 rfl ?_
                    refine g_get B 1 2 fl_X3_27 rfl rfl dX3_readHead_210 ?_
                    refine g_iload B dX3_readHead_213 1 rfl ?_
                    refine g_iload_n B dX3_readHead_215 rfl 10 rfl ?_
                    refine g_callV (st := []) (As := [.int x_1062, .int to_]) (wr := [(e, .inr (3, [.ref tp, .ref sd, .ref b1, .ref b2, .ref sh])), (tp, .inr (2, [.ref tpa, .int ztp_1_1064])), (tpa, .inl (E.2.2.1 1, 6000, .inl (nb ztpa_f_1065))), (p, .inr (7, [.ref te, .ref de, .int (nI zp_2_1066)])), (te, .inl (E.2.2.1 0, 8, .inl zte_f_1067)), (de, .inl (E.2.2.1 0, 8, .inl zde_f_1068)), (w, .inr (9, [.ref ps, .ref md, .int (nI zw_2_1074), .int (nI zw_3_1075), .int (nI zw_4_1076), .int zw_5_1077, .int zw_6_1078, .int zw_7_1079, .int zw_8_1080, .int zw_9_1081, .int zw_10_1082, .int zw_11_1083])), (ps, .inr (6, [.ref p, .ref we, .ref inp, .ref ba, .ref gu, .int zps_5_1084, .int zps_6_1085, .int zps_7_1086])), (we, .inl (E.2.2.1 0, 16, .inl zwe_f_1087)), (inp, .inl (E.2.2.1 0, 128, .inl zinp_f_1088)), (md, .inr (5, [.ref mi, .long zmd_1_1089, .long zmd_2_1090])), (mi, .inl (E.2.2.1 3, 6, .inr (.inl zmi_f_1091)))]) (nc' := 0) (ns' := 0) B cl_X3_86 w_im_X0_start w_se_X0_start (wk_X0_start E b1 tp b1_1 b1_2 b1_3 x_1062 to_ ) rfl [0] [1, 2, 3, 4, 5, 6, 7, 8, 9, 10, 11, 12] rfl rfl (by decide) (by decide) (by decide) 0 rfl (fun q h => by cases h; rfl) rfl ⟨by decide, by decide⟩ rfl rfl (by decide) (by decide) rfl (Nat.le_of_ble_eq_true rfl) dX3_readHead_216 (fun v w hq => ?_)
                    obtain ⟨zb_1_1095, zb_2_1096, zb_3_1097, rfl, rfl⟩ := hq
                    show G E X 11 [(e, .inr (3, [.ref tp, .ref sd, .ref b1, .ref b2, .ref sh])), (tp, .inr (2, [.ref tpa, .int ztp_1_1064])), (tpa, .inl (E.2.2.1 1, 6000, .inl (nb ztpa_f_1065))), (p, .inr (7, [.ref te, .ref de, .int (nI zp_2_1066)])), (te, .inl (E.2.2.1 0, 8, .inl zte_f_1067)), (de, .inl (E.2.2.1 0, 8, .inl zde_f_1068)), (w, .inr (9, [.ref ps, .ref md, .int (nI zw_2_1074), .int (nI zw_3_1075), .int (nI zw_4_1076), .int zw_5_1077, .int zw_6_1078, .int zw_7_1079, .int zw_8_1080, .int zw_9_1081, .int zw_10_1082, .int zw_11_1083])), (ps, .inr (6, [.ref p, .ref we, .ref inp, .ref ba, .ref gu, .int zps_5_1084, .int zps_6_1085, .int zps_7_1086])), (we, .inl (E.2.2.1 0, 16, .inl zwe_f_1087)), (inp, .inl (E.2.2.1 0, 128, .inl zinp_f_1088)), (md, .inr (5, [.ref mi, .long zmd_1_1089, .long zmd_2_1090])), (mi, .inl (E.2.2.1 3, 6, .inr (.inl zmi_f_1091))), (b1, .inr (0, [.ref tp, .int zb_1_1095, .int zb_2_1096, .int zb_3_1097]))] 0 0 [(10, .int 0), (9, .int x_1062), (8, .int (6 + (2 * zr_1049))), (7, .int 0), (6, .int zr_1049), (5, .int (nI nf_1073)), (4, .int zr_1039), (3, .int zr_1036), (0, .ref e), (1, .ref w), (2, .int to_)] 219 []
                    refine g_iload B dX3_readHead_219 3 rfl ?_
                    refine g_if_eq (tgt := 229) B dX3_readHead_221 (by decide) (fun c221 => ?_) (fun h => absurd (by decide) h)
                    refine g_iconst (v := 1) B dX3_readHead_229 (by decide) ?_
                    refine g_goto (tgt := 234) B dX3_readHead_230 (by decide) ?_
                    refine g_sub (ws' := [(e, .inr (3, [.ref tp, .ref sd, .ref b1, .ref b2, .ref sh])), (tp, .inr (2, [.ref tpa, .int ztp_1_1064])), (tpa, .inl (E.2.2.1 1, 6000, .inl (nb ztpa_f_1065))), (b1, .inr (0, [.ref tp, .int zb_1_1095, .int zb_2_1096, .int zb_3_1097])), (w, .inr (9, [.ref ps, .ref md, .int (nI zw_2_1074), .int (nI zw_3_1075), .int (nI zw_4_1076), .int zw_5_1077, .int zw_6_1078, .int zw_7_1079, .int zw_8_1080, .int zw_9_1081, .int zw_10_1082, .int zw_11_1083])), (ps, .inr (6, [.ref p, .ref we, .ref inp, .ref ba, .ref gu, .int zps_5_1084, .int zps_6_1085, .int zps_7_1086])), (p, .inr (7, [.ref te, .ref de, .int (nI zp_2_1066)])), (te, .inl (E.2.2.1 0, 8, .inl zte_f_1067)), (de, .inl (E.2.2.1 0, 8, .inl zde_f_1068)), (we, .inl (E.2.2.1 0, 16, .inl zwe_f_1087)), (inp, .inl (E.2.2.1 0, 128, .inl zinp_f_1088)), (md, .inr (5, [.ref mi, .long zmd_1_1089, .long zmd_2_1090])), (mi, .inl (E.2.2.1 3, 6, .inr (.inl zmi_f_1091)))]) [0, 1, 2, 12, 6, 7, 3, 4, 5, 8, 9, 10, 11] (by decide) rfl ?_
                    exact g_zret B hr (by decide) dX3_readHead_234 (by decide) (by decide) ⟨ztp_1_1064, ztpa_f_1065, zb_1_1095, zb_2_1096, zb_3_1097, zw_2_1074, zw_3_1075, zw_4_1076, zw_5_1077, zw_6_1078, zw_7_1079, zw_8_1080, zw_9_1081, zw_10_1082, zw_11_1083, zps_5_1084, zps_6_1085, zps_7_1086, zp_2_1066, zte_f_1067, zde_f_1068, zwe_f_1087, zinp_f_1088, zmd_1_1089, zmd_2_1090, zmi_f_1091, 1, (Or.inr rfl), (by first | assumption | omega | decide), (by first | assumption | omega | decide), (by first | assumption | omega | decide), (by first | assumption | omega | decide), rfl, rfl⟩
                  · refine g_iconst (v := 0) B dX3_readHead_161 (by decide) ?_
                    refine g_sub (ws' := [(e, .inr (3, [.ref tp, .ref sd, .ref b1, .ref b2, .ref sh])), (tp, .inr (2, [.ref tpa, .int ztp_1_1064])), (tpa, .inl (E.2.2.1 1, 6000, .inl (nb ztpa_f_1065))), (b1, .inr (0, [.ref tp, .int b1_1, .int b1_2, .int b1_3])), (w, .inr (9, [.ref ps, .ref md, .int (nI w_2), .int (nI w_3), .int (nI w_4), .int w_5, .int w_6, .int w_7, .int w_8, .int w_9, .int w_10, .int w_11])), (ps, .inr (6, [.ref p, .ref we, .ref inp, .ref ba, .ref gu, .int ps_5, .int ps_6, .int ps_7])), (p, .inr (7, [.ref te, .ref de, .int (nI zp_2_1066)])), (te, .inl (E.2.2.1 0, 8, .inl zte_f_1067)), (de, .inl (E.2.2.1 0, 8, .inl zde_f_1068)), (we, .inl (E.2.2.1 0, 16, .inl we_f)), (inp, .inl (E.2.2.1 0, 128, .inl inp_f)), (md, .inr (5, [.ref mi, .long md_1, .long md_2])), (mi, .inl (E.2.2.1 3, 6, .inr (.inl mi_f)))]) [7, 8, 9, 0, 1, 2, 10, 11, 12, 3, 4, 5, 6] (by decide) rfl ?_
                    exact g_zret B hr (by decide) dX3_readHead_162 (by decide) (by decide) ⟨ztp_1_1064, ztpa_f_1065, b1_1, b1_2, b1_3, w_2, w_3, w_4, w_5, w_6, w_7, w_8, w_9, w_10, w_11, ps_5, ps_6, ps_7, zp_2_1066, zte_f_1067, zde_f_1068, we_f, inp_f, md_1, md_2, mi_f, 0, (Or.inl rfl), (by first | assumption | omega | decide), (by first | assumption | omega | decide), (by first | assumption | omega | decide), (by first | assumption | omega | decide), rfl, rfl⟩
              · refine g_iconst (v := 1) B dX3_readHead_108 (by decide) ?_
                refine g_goto (tgt := 113) B dX3_readHead_109 (by decide) ?_
                refine g_istore (lv' := [(7, .int 1), (6, .int zr_1049), (5, .int x_1046), (4, .int zr_1039), (3, .int zr_1036), (0, .ref e), (1, .ref w), (2, .int to_)]) B dX3_readHead_113 (by decide) rfl ?_
                refine g_bipush (v := 6) B dX3_readHead_115 (by decide) ?_
                refine g_iconst (v := 2) B dX3_readHead_117 (by decide) ?_
                refine g_iload B dX3_readHead_118 1 rfl ?_
                refine g_imul B dX3_readHead_120 ?_
                refine g_iadd B dX3_readHead_121 ?_
                refine g_istore (lv' := [(8, .int (6 + (2 * zr_1049))), (7, .int 1), (6, .int zr_1049), (5, .int x_1046), (4, .int zr_1039), (3, .int zr_1036), (0, .ref e), (1, .ref w), (2, .int to_)]) B dX3_readHead_122 (by decide) rfl ?_
                refine g_iload B dX3_readHead_124 0 rfl ?_
                refine g_iload B dX3_readHead_126 1 rfl ?_
                refine g_if_eq (tgt := 135) B dX3_readHead_128 (by decide) (fun h => absurd h (by decide)) (fun c128 => ?_)
                refine g_iconst (v := 2) B dX3_readHead_131 (by decide) ?_
                refine g_goto (tgt := 136) B dX3_readHead_132 (by decide) ?_
                refine g_iadd B dX3_readHead_136 ?_
                refine g_topi (fun x_1098 ex_1098 => ?_)
                refine g_istore (lv' := [(9, .int x_1098), (8, .int (6 + (2 * zr_1049))), (7, .int 1), (6, .int zr_1049), (5, .int x_1046), (4, .int zr_1039), (3, .int zr_1036), (0, .ref e), (1, .ref w), (2, .int to_)]) B dX3_readHead_137 (by decide) rfl ?_
                refine g_iload B dX3_readHead_139 0 rfl ?_
                refine g_iload_n B dX3_readHead_141 rfl 9 rfl ?_
                refine g_icmp_gt (tgt := 161) B dX3_readHead_142 (by decide) (fun c142_1099 => ?_) (fun c142_1099 => ?_)
                · refine g_iconst (v := 0) B dX3_readHead_161 (by decide) ?_
                  refine g_sub (ws' := [(e, .inr (3, [.ref tp, .ref sd, .ref b1, .ref b2, .ref sh])), (tp, .inr (2, [.ref tpa, .int zt_1_1050])), (tpa, .inl (E.2.2.1 1, 6000, .inl (nb za_f_1051))), (b1, .inr (0, [.ref tp, .int b1_1, .int b1_2, .int b1_3])), (w, .inr (9, [.ref ps, .ref md, .int (nI w_2), .int (nI w_3), .int (nI w_4), .int w_5, .int w_6, .int w_7, .int w_8, .int w_9, .int w_10, .int w_11])), (ps, .inr (6, [.ref p, .ref we, .ref inp, .ref ba, .ref gu, .int ps_5, .int ps_6, .int ps_7])), (p, .inr (7, [.ref te, .ref de, .int (nI p_2)])), (te, .inl (E.2.2.1 0, 8, .inl te_f)), (de, .inl (E.2.2.1 0, 8, .inl de_f)), (we, .inl (E.2.2.1 0, 16, .inl we_f)), (inp, .inl (E.2.2.1 0, 128, .inl inp_f)), (md, .inr (5, [.ref mi, .long md_1, .long md_2])), (mi, .inl (E.2.2.1 3, 6, .inr (.inl mi_f)))]) [0, 11, 12, 1, 2, 3, 4, 5, 6, 7, 8, 9, 10] (by decide) rfl ?_
                  exact g_zret B hr (by decide) dX3_readHead_162 (by decide) (by decide) ⟨zt_1_1050, za_f_1051, b1_1, b1_2, b1_3, w_2, w_3, w_4, w_5, w_6, w_7, w_8, w_9, w_10, w_11, ps_5, ps_6, ps_7, p_2, te_f, de_f, we_f, inp_f, md_1, md_2, mi_f, 0, (Or.inl rfl), (by first | assumption | omega | decide), (by first | assumption | omega | decide), (by first | assumption | omega | decide), (by first | assumption | omega | decide), rfl, rfl⟩
                · refine g_aload_n B dX3_readHead_145 rfl 7 rfl ?_
                  refine g_aload_n B dX3_readHead_146 rfl 8 rfl ?_
                  refine g_get B 2 0 fl_X3_66 rfl rfl dX3_readHead_147 ?_
                  refine g_get B 3 0 fl_X3_72 rfl rfl dX3_readHead_150 ?_
                  refine g_iload B dX3_readHead_153 3 rfl ?_
                  refine g_callV (st := []) (As := [.ref p, .int zr_1049]) (wr := [(b1, .inr (0, [.ref tp, .int b1_1, .int b1_2, .int b1_3])), (w, .inr (9, [.ref ps, .ref md, .int (nI w_2), .int (nI w_3), .int (nI w_4), .int w_5, .int w_6, .int w_7, .int w_8, .int w_9, .int w_10, .int w_11])), (ps, .inr (6, [.ref p, .ref we, .ref inp, .ref ba, .ref gu, .int ps_5, .int ps_6, .int ps_7])), (we, .inl (E.2.2.1 0, 16, .inl we_f)), (inp, .inl (E.2.2.1 0, 128, .inl inp_f)), (md, .inr (5, [.ref mi, .long md_1, .long md_2])), (mi, .inl (E.2.2.1 3, 6, .inr (.inl mi_f)))]) (nc' := 0) (ns' := 0) B cl_X3_78 w_im_X3_readPlan w_se_X3_readPlan (wk_X3_readPlan E e tp sd b1 b2 sh tpa p te de zt_1_1050 za_f_1051 p_2 te_f de_f zr_1049 (by first | assumption | omega | decide)) rfl [0, 11, 12, 4, 5, 6] [1, 2, 3, 7, 8, 9, 10] rfl rfl (by decide) (by decide) (by decide) 0 rfl (fun q h => by cases h; rfl) rfl ⟨by decide, by decide⟩ rfl rfl (by decide) (by decide) rfl (Nat.le_of_ble_eq_true rfl) dX3_readHead_155 (fun v w hq => ?_)
                  obtain ⟨ztp_1_1100, ztpa_f_1101, zp_2_1102, zte_f_1103, zde_f_1104, zr_1105, hf_1106, hf_1107, rfl, rfl⟩ := hq
                  show G E X 11 [(b1, .inr (0, [.ref tp, .int b1_1, .int b1_2, .int b1_3])), (w, .inr (9, [.ref ps, .ref md, .int (nI w_2), .int (nI w_3), .int (nI w_4), .int w_5, .int w_6, .int w_7, .int w_8, .int w_9, .int w_10, .int w_11])), (ps, .inr (6, [.ref p, .ref we, .ref inp, .ref ba, .ref gu, .int ps_5, .int ps_6, .int ps_7])), (we, .inl (E.2.2.1 0, 16, .inl we_f)), (inp, .inl (E.2.2.1 0, 128, .inl inp_f)), (md, .inr (5, [.ref mi, .long md_1, .long md_2])), (mi, .inl (E.2.2.1 3, 6, .inr (.inl mi_f))), (e, .inr (3, [.ref tp, .ref sd, .ref b1, .ref b2, .ref sh])), (tp, .inr (2, [.ref tpa, .int ztp_1_1100])), (tpa, .inl (E.2.2.1 1, 6000, .inl (nb ztpa_f_1101))), (p, .inr (7, [.ref te, .ref de, .int (nI zp_2_1102)])), (te, .inl (E.2.2.1 0, 8, .inl zte_f_1103)), (de, .inl (E.2.2.1 0, 8, .inl zde_f_1104))] 0 0 [(9, .int x_1098), (8, .int (6 + (2 * zr_1049))), (7, .int 1), (6, .int zr_1049), (5, .int x_1046), (4, .int zr_1039), (3, .int zr_1036), (0, .ref e), (1, .ref w), (2, .int to_)] 158 [.int zr_1105]
                  refine g_if_ne (tgt := 163) B dX3_readHead_158 (by decide) (fun c158_1108 => ?_) (fun c158_1108 => ?_)
                  · refine g_iload B dX3_readHead_163 2 rfl ?_
                    refine g_if_eq (tgt := 195) B dX3_readHead_165 (by decide) (fun h => absurd h (by decide)) (fun c165 => ?_)
                    refine g_aload_n B dX3_readHead_168 rfl 7 rfl ?_
                    refine g_get B 7 0 fl_X3_9 rfl rfl dX3_readHead_169 ?_
                    refine g_iload B dX3_readHead_172 1 rfl ?_
                    refine g_callV (st := []) (As := [.int (6 + (2 * zr_1049))]) (wr := [(b1, .inr (0, [.ref tp, .int b1_1, .int b1_2, .int b1_3])), (w, .inr (9, [.ref ps, .ref md, .int (nI w_2), .int (nI w_3), .int (nI w_4), .int w_5, .int w_6, .int w_7, .int w_8, .int w_9, .int w_10, .int w_11])), (ps, .inr (6, [.ref p, .ref we, .ref inp, .ref ba, .ref gu, .int ps_5, .int ps_6, .int ps_7])), (we, .inl (E.2.2.1 0, 16, .inl we_f)), (inp, .inl (E.2.2.1 0, 128, .inl inp_f)), (md, .inr (5, [.ref mi, .long md_1, .long md_2])), (mi, .inl (E.2.2.1 3, 6, .inr (.inl mi_f))), (e, .inr (3, [.ref tp, .ref sd, .ref b1, .ref b2, .ref sh])), (p, .inr (7, [.ref te, .ref de, .int (nI zp_2_1102)])), (te, .inl (E.2.2.1 0, 8, .inl zte_f_1103)), (de, .inl (E.2.2.1 0, 8, .inl zde_f_1104))]) (nc' := 0) (ns' := 0) B cl_X3_59 w_im_X2_at w_se_X2_at (wk_X2_at E tp tpa 6000 ztp_1_1100 ztpa_f_1101 (6 + (2 * zr_1049)) (by first | assumption | omega | decide)) rfl [8, 9] [0, 1, 2, 3, 4, 5, 6, 7, 10, 11, 12] rfl rfl (by decide) (by decide) (by decide) 0 rfl (fun q h => by cases h; rfl) rfl ⟨by decide, by decide⟩ rfl rfl (by decide) (by decide) rfl (Nat.le_of_ble_eq_true rfl) dX3_readHead_174 (fun v w hq => ?_)
                    obtain ⟨zt_1_1109, za_f_1110, zr_1111, rfl, rfl⟩ := hq
                    show G E X 11 [(b1, .inr (0, [.ref tp, .int b1_1, .int b1_2, .int b1_3])), (w, .inr (9, [.ref ps, .ref md, .int (nI w_2), .int (nI w_3), .int (nI w_4), .int w_5, .int w_6, .int w_7, .int w_8, .int w_9, .int w_10, .int w_11])), (ps, .inr (6, [.ref p, .ref we, .ref inp, .ref ba, .ref gu, .int ps_5, .int ps_6, .int ps_7])), (we, .inl (E.2.2.1 0, 16, .inl we_f)), (inp, .inl (E.2.2.1 0, 128, .inl inp_f)), (md, .inr (5, [.ref mi, .long md_1, .long md_2])), (mi, .inl (E.2.2.1 3, 6, .inr (.inl mi_f))), (e, .inr (3, [.ref tp, .ref sd, .ref b1, .ref b2, .ref sh])), (p, .inr (7, [.ref te, .ref de, .int (nI zp_2_1102)])), (te, .inl (E.2.2.1 0, 8, .inl zte_f_1103)), (de, .inl (E.2.2.1 0, 8, .inl zde_f_1104)), (tp, .inr (2, [.ref tpa, .int zt_1_1109])), (tpa, .inl (E.2.2.1 1, 6000, .inl (nb za_f_1110)))] 0 0 [(9, .int x_1098), (8, .int (6 + (2 * zr_1049))), (7, .int 1), (6, .int zr_1049), (5, .int x_1046), (4, .int zr_1039), (3, .int zr_1036), (0, .ref e), (1, .ref w), (2, .int to_)] 177 [.int zr_1111]
                    refine g_bipush (v := 8) B dX3_readHead_177 (by decide) ?_
                    refine g_ishl B dX3_readHead_179 ?_
                    refine g_aload_n B dX3_readHead_180 rfl 7 rfl ?_
                    refine g_get B 7 0 fl_X3_9 rfl rfl dX3_readHead_181 ?_
                    refine g_iload B dX3_readHead_184 1 rfl ?_
                    refine g_iconst (v := 1) B dX3_readHead_186 (by decide) ?_
                    refine g_iadd B dX3_readHead_187 ?_
                    refine g_callV (st := [.int (zr_1111 <<< (8 &&& 31))]) (As := [.int ((6 + (2 * zr_1049)) + 1)]) (wr := [(b1, .inr (0, [.ref tp, .int b1_1, .int b1_2, .int b1_3])), (w, .inr (9, [.ref ps, .ref md, .int (nI w_2), .int (nI w_3), .int (nI w_4), .int w_5, .int w_6, .int w_7, .int w_8, .int w_9, .int w_10, .int w_11])), (ps, .inr (6, [.ref p, .ref we, .ref inp, .ref ba, .ref gu, .int ps_5, .int ps_6, .int ps_7])), (we, .inl (E.2.2.1 0, 16, .inl we_f)), (inp, .inl (E.2.2.1 0, 128, .inl inp_f)), (md, .inr (5, [.ref mi, .long md_1, .long md_2])), (mi, .inl (E.2.2.1 3, 6, .inr (.inl mi_f))), (e, .inr (3, [.ref tp, .ref sd, .ref b1, .ref b2, .ref sh])), (p, .inr (7, [.ref te, .ref de, .int (nI zp_2_1102)])), (te, .inl (E.2.2.1 0, 8, .inl zte_f_1103)), (de, .inl (E.2.2.1 0, 8, .inl zde_f_1104))]) (nc' := 0) (ns' := 0) B cl_X3_59 w_im_X2_at w_se_X2_at (wk_X2_at E tp tpa 6000 zt_1_1109 za_f_1110 ((6 + (2 * zr_1049)) + 1) (by first | assumption | omega | decide)) rfl [11, 12] [0, 1, 2, 3, 4, 5, 6, 7, 8, 9, 10] rfl rfl (by decide) (by decide) (by decide) 0 rfl (fun q h => by cases h; rfl) rfl ⟨by decide, by decide⟩ rfl rfl (by decide) (by decide) rfl (Nat.le_of_ble_eq_true rfl) dX3_readHead_188 (fun v w hq => ?_)
                    obtain ⟨zt_1_1112, za_f_1113, zr_1114, rfl, rfl⟩ := hq
                    show G E X 11 [(b1, .inr (0, [.ref tp, .int b1_1, .int b1_2, .int b1_3])), (w, .inr (9, [.ref ps, .ref md, .int (nI w_2), .int (nI w_3), .int (nI w_4), .int w_5, .int w_6, .int w_7, .int w_8, .int w_9, .int w_10, .int w_11])), (ps, .inr (6, [.ref p, .ref we, .ref inp, .ref ba, .ref gu, .int ps_5, .int ps_6, .int ps_7])), (we, .inl (E.2.2.1 0, 16, .inl we_f)), (inp, .inl (E.2.2.1 0, 128, .inl inp_f)), (md, .inr (5, [.ref mi, .long md_1, .long md_2])), (mi, .inl (E.2.2.1 3, 6, .inr (.inl mi_f))), (e, .inr (3, [.ref tp, .ref sd, .ref b1, .ref b2, .ref sh])), (p, .inr (7, [.ref te, .ref de, .int (nI zp_2_1102)])), (te, .inl (E.2.2.1 0, 8, .inl zte_f_1103)), (de, .inl (E.2.2.1 0, 8, .inl zde_f_1104)), (tp, .inr (2, [.ref tpa, .int zt_1_1112])), (tpa, .inl (E.2.2.1 1, 6000, .inl (nb za_f_1113)))] 0 0 [(9, .int x_1098), (8, .int (6 + (2 * zr_1049))), (7, .int 1), (6, .int zr_1049), (5, .int x_1046), (4, .int zr_1039), (3, .int zr_1036), (0, .ref e), (1, .ref w), (2, .int to_)] 191 [.int zr_1114, .int (zr_1111 <<< (8 &&& 31))]
                    refine g_ior B dX3_readHead_191 ?_
                    refine g_goto (tgt := 196) B dX3_readHead_192 (by decide) ?_
                    refine g_topi (fun x_1115 ex_1115 => ?_)
                    refine g_istore (lv' := [(10, .int x_1115), (9, .int x_1098), (8, .int (6 + (2 * zr_1049))), (7, .int 1), (6, .int zr_1049), (5, .int x_1046), (4, .int zr_1039), (3, .int zr_1036), (0, .ref e), (1, .ref w), (2, .int to_)]) B dX3_readHead_196 (by decide) rfl ?_
                    refine g_aload_n B dX3_readHead_198 rfl 9 rfl ?_
                    refine g_iload_n B dX3_readHead_199 rfl 7 rfl ?_
                    refine g_iload B dX3_readHead_200 6 rfl ?_
                    refine g_iload B dX3_readHead_202 5 rfl ?_
                    refine g_iload B dX3_readHead_204 0 rfl ?_
                    obtain ⟨nf_1116, hnf_1116, rfl⟩ := fr_of (x := x_1046) c81_1058 c89_1059
                    refine g_callV (st := []) (As := [.int zr_1036, .int zr_1039, .int (nI nf_1116), .int x_1115]) (wr := [(b1, .inr (0, [.ref tp, .int b1_1, .int b1_2, .int b1_3])), (e, .inr (3, [.ref tp, .ref sd, .ref b1, .ref b2, .ref sh])), (p, .inr (7, [.ref te, .ref de, .int (nI zp_2_1102)])), (te, .inl (E.2.2.1 0, 8, .inl zte_f_1103)), (de, .inl (E.2.2.1 0, 8, .inl zde_f_1104)), (tp, .inr (2, [.ref tpa, .int zt_1_1112])), (tpa, .inl (E.2.2.1 1, 6000, .inl (nb za_f_1113)))]) (nc' := 0) (ns' := 0) B cl_X3_82 w_im_X9_begin w_se_X9_begin (wk_X9_begin E w ps md p we inp ba gu mi nf_1116 w_2 w_3 w_4 w_5 w_6 w_7 w_8 w_9 w_10 w_11 ps_5 ps_6 ps_7 we_f inp_f md_1 md_2 mi_f zr_1036 zr_1039 x_1115 (by first | assumption | omega | decide) (by first | assumption | omega | decide) (by first | assumption | omega | decide) (by first | assumption | omega | decide)) rfl [1, 2, 3, 4, 5, 6] [0, 7, 8, 9, 10, 11, 12] rfl rfl (by decide) (by decide) (by decide) 0 rfl (fun q h => by cases h; rfl) rfl ⟨by decide, by decide⟩ rfl rfl (by decide) (by decide) rfl (Nat.le_of_ble_eq_true rfl) dX3_readHead_206 (fun v w hq => ?_)
                    obtain ⟨zw_2_1117, zw_3_1118, zw_4_1119, zw_5_1120, zw_6_1121, zw_7_1122, zw_8_1123, zw_9_1124, zw_10_1125, zw_11_1126, zps_5_1127, zps_6_1128, zps_7_1129, zwe_f_1130, zinp_f_1131, zmd_1_1132, zmd_2_1133, zmi_f_1134, hf_1135, hf_1136, hf_1137, rfl, rfl⟩ := hq
                    show G E X 11 [(b1, .inr (0, [.ref tp, .int b1_1, .int b1_2, .int b1_3])), (e, .inr (3, [.ref tp, .ref sd, .ref b1, .ref b2, .ref sh])), (p, .inr (7, [.ref te, .ref de, .int (nI zp_2_1102)])), (te, .inl (E.2.2.1 0, 8, .inl zte_f_1103)), (de, .inl (E.2.2.1 0, 8, .inl zde_f_1104)), (tp, .inr (2, [.ref tpa, .int zt_1_1112])), (tpa, .inl (E.2.2.1 1, 6000, .inl (nb za_f_1113))), (w, .inr (9, [.ref ps, .ref md, .int (nI zw_2_1117), .int (nI zw_3_1118), .int (nI zw_4_1119), .int zw_5_1120, .int zw_6_1121, .int zw_7_1122, .int zw_8_1123, .int zw_9_1124, .int zw_10_1125, .int zw_11_1126])), (ps, .inr (6, [.ref p, .ref we, .ref inp, .ref ba, .ref gu, .int zps_5_1127, .int zps_6_1128, .int zps_7_1129])), (we, .inl (E.2.2.1 0, 16, .inl zwe_f_1130)), (inp, .inl (E.2.2.1 0, 128, .inl zinp_f_1131)), (md, .inr (5, [.ref mi, .long zmd_1_1132, .long zmd_2_1133])), (mi, .inl (E.2.2.1 3, 6, .inr (.inl zmi_f_1134)))] 0 0 [(10, .int x_1115), (9, .int x_1098), (8, .int (6 + (2 * zr_1049))), (7, .int 1), (6, .int zr_1049), (5, .int (nI nf_1116)), (4, .int zr_1039), (3, .int zr_1036), (0, .ref e), (1, .ref w), (2, .int to_)] 209 []
                    refine g_aload_n B dX3_readHead_209 rfl 8 rfl ?_
                    refine g_get B 1 2 fl_X3_27 rfl rfl dX3_readHead_210 ?_
                    refine g_iload B dX3_readHead_213 1 rfl ?_
                    refine g_iload_n B dX3_readHead_215 rfl 10 rfl ?_
                    refine g_callV (st := []) (As := [.int x_1098, .int to_]) (wr := [(e, .inr (3, [.ref tp, .ref sd, .ref b1, .ref b2, .ref sh])), (p, .inr (7, [.ref te, .ref de, .int (nI zp_2_1102)])), (te, .inl (E.2.2.1 0, 8, .inl zte_f_1103)), (de, .inl (E.2.2.1 0, 8, .inl zde_f_1104)), (tp, .inr (2, [.ref tpa, .int zt_1_1112])), (tpa, .inl (E.2.2.1 1, 6000, .inl (nb za_f_1113))), (w, .inr (9, [.ref ps, .ref md, .int (nI zw_2_1117), .int (nI zw_3_1118), .int (nI zw_4_1119), .int zw_5_1120, .int zw_6_1121, .int zw_7_1122, .int zw_8_1123, .int zw_9_1124, .int zw_10_1125, .int zw_11_1126])), (ps, .inr (6, [.ref p, .ref we, .ref inp, .ref ba, .ref gu, .int zps_5_1127, .int zps_6_1128, .int zps_7_1129])), (we, .inl (E.2.2.1 0, 16, .inl zwe_f_1130)), (inp, .inl (E.2.2.1 0, 128, .inl zinp_f_1131)), (md, .inr (5, [.ref mi, .long zmd_1_1132, .long zmd_2_1133])), (mi, .inl (E.2.2.1 3, 6, .inr (.inl zmi_f_1134)))]) (nc' := 0) (ns' := 0) B cl_X3_86 w_im_X0_start w_se_X0_start (wk_X0_start E b1 tp b1_1 b1_2 b1_3 x_1098 to_ ) rfl [0] [1, 2, 3, 4, 5, 6, 7, 8, 9, 10, 11, 12] rfl rfl (by decide) (by decide) (by decide) 0 rfl (fun q h => by cases h; rfl) rfl ⟨by decide, by decide⟩ rfl rfl (by decide) (by decide) rfl (Nat.le_of_ble_eq_true rfl) dX3_readHead_216 (fun v w hq => ?_)
                    obtain ⟨zb_1_1138, zb_2_1139, zb_3_1140, rfl, rfl⟩ := hq
                    show G E X 11 [(e, .inr (3, [.ref tp, .ref sd, .ref b1, .ref b2, .ref sh])), (p, .inr (7, [.ref te, .ref de, .int (nI zp_2_1102)])), (te, .inl (E.2.2.1 0, 8, .inl zte_f_1103)), (de, .inl (E.2.2.1 0, 8, .inl zde_f_1104)), (tp, .inr (2, [.ref tpa, .int zt_1_1112])), (tpa, .inl (E.2.2.1 1, 6000, .inl (nb za_f_1113))), (w, .inr (9, [.ref ps, .ref md, .int (nI zw_2_1117), .int (nI zw_3_1118), .int (nI zw_4_1119), .int zw_5_1120, .int zw_6_1121, .int zw_7_1122, .int zw_8_1123, .int zw_9_1124, .int zw_10_1125, .int zw_11_1126])), (ps, .inr (6, [.ref p, .ref we, .ref inp, .ref ba, .ref gu, .int zps_5_1127, .int zps_6_1128, .int zps_7_1129])), (we, .inl (E.2.2.1 0, 16, .inl zwe_f_1130)), (inp, .inl (E.2.2.1 0, 128, .inl zinp_f_1131)), (md, .inr (5, [.ref mi, .long zmd_1_1132, .long zmd_2_1133])), (mi, .inl (E.2.2.1 3, 6, .inr (.inl zmi_f_1134))), (b1, .inr (0, [.ref tp, .int zb_1_1138, .int zb_2_1139, .int zb_3_1140]))] 0 0 [(10, .int x_1115), (9, .int x_1098), (8, .int (6 + (2 * zr_1049))), (7, .int 1), (6, .int zr_1049), (5, .int (nI nf_1116)), (4, .int zr_1039), (3, .int zr_1036), (0, .ref e), (1, .ref w), (2, .int to_)] 219 []
                    refine g_iload B dX3_readHead_219 3 rfl ?_
                    refine g_if_eq (tgt := 229) B dX3_readHead_221 (by decide) (fun h => absurd h (by decide)) (fun c221 => ?_)
                    refine g_iload B dX3_readHead_224 0 rfl ?_
                    refine g_if_le (tgt := 233) B dX3_readHead_226 (by decide) (fun c226_1141 => ?_) (fun c226_1141 => ?_)
                    · refine g_iconst (v := 0) B dX3_readHead_233 (by decide) ?_
                      refine g_sub (ws' := [(e, .inr (3, [.ref tp, .ref sd, .ref b1, .ref b2, .ref sh])), (tp, .inr (2, [.ref tpa, .int zt_1_1112])), (tpa, .inl (E.2.2.1 1, 6000, .inl (nb za_f_1113))), (b1, .inr (0, [.ref tp, .int zb_1_1138, .int zb_2_1139, .int zb_3_1140])), (w, .inr (9, [.ref ps, .ref md, .int (nI zw_2_1117), .int (nI zw_3_1118), .int (nI zw_4_1119), .int zw_5_1120, .int zw_6_1121, .int zw_7_1122, .int zw_8_1123, .int zw_9_1124, .int zw_10_1125, .int zw_11_1126])), (ps, .inr (6, [.ref p, .ref we, .ref inp, .ref ba, .ref gu, .int zps_5_1127, .int zps_6_1128, .int zps_7_1129])), (p, .inr (7, [.ref te, .ref de, .int (nI zp_2_1102)])), (te, .inl (E.2.2.1 0, 8, .inl zte_f_1103)), (de, .inl (E.2.2.1 0, 8, .inl zde_f_1104)), (we, .inl (E.2.2.1 0, 16, .inl zwe_f_1130)), (inp, .inl (E.2.2.1 0, 128, .inl zinp_f_1131)), (md, .inr (5, [.ref mi, .long zmd_1_1132, .long zmd_2_1133])), (mi, .inl (E.2.2.1 3, 6, .inr (.inl zmi_f_1134)))]) [0, 4, 5, 12, 6, 7, 1, 2, 3, 8, 9, 10, 11] (by decide) rfl ?_
                      exact g_zret B hr (by decide) dX3_readHead_234 (by decide) (by decide) ⟨zt_1_1112, za_f_1113, zb_1_1138, zb_2_1139, zb_3_1140, zw_2_1117, zw_3_1118, zw_4_1119, zw_5_1120, zw_6_1121, zw_7_1122, zw_8_1123, zw_9_1124, zw_10_1125, zw_11_1126, zps_5_1127, zps_6_1128, zps_7_1129, zp_2_1102, zte_f_1103, zde_f_1104, zwe_f_1130, zinp_f_1131, zmd_1_1132, zmd_2_1133, zmi_f_1134, 0, (Or.inl rfl), (by first | assumption | omega | decide), (by first | assumption | omega | decide), (by first | assumption | omega | decide), (by first | assumption | omega | decide), rfl, rfl⟩
                    · refine g_iconst (v := 1) B dX3_readHead_229 (by decide) ?_
                      refine g_goto (tgt := 234) B dX3_readHead_230 (by decide) ?_
                      refine g_sub (ws' := [(e, .inr (3, [.ref tp, .ref sd, .ref b1, .ref b2, .ref sh])), (tp, .inr (2, [.ref tpa, .int zt_1_1112])), (tpa, .inl (E.2.2.1 1, 6000, .inl (nb za_f_1113))), (b1, .inr (0, [.ref tp, .int zb_1_1138, .int zb_2_1139, .int zb_3_1140])), (w, .inr (9, [.ref ps, .ref md, .int (nI zw_2_1117), .int (nI zw_3_1118), .int (nI zw_4_1119), .int zw_5_1120, .int zw_6_1121, .int zw_7_1122, .int zw_8_1123, .int zw_9_1124, .int zw_10_1125, .int zw_11_1126])), (ps, .inr (6, [.ref p, .ref we, .ref inp, .ref ba, .ref gu, .int zps_5_1127, .int zps_6_1128, .int zps_7_1129])), (p, .inr (7, [.ref te, .ref de, .int (nI zp_2_1102)])), (te, .inl (E.2.2.1 0, 8, .inl zte_f_1103)), (de, .inl (E.2.2.1 0, 8, .inl zde_f_1104)), (we, .inl (E.2.2.1 0, 16, .inl zwe_f_1130)), (inp, .inl (E.2.2.1 0, 128, .inl zinp_f_1131)), (md, .inr (5, [.ref mi, .long zmd_1_1132, .long zmd_2_1133])), (mi, .inl (E.2.2.1 3, 6, .inr (.inl zmi_f_1134)))]) [0, 4, 5, 12, 6, 7, 1, 2, 3, 8, 9, 10, 11] (by decide) rfl ?_
                      exact g_zret B hr (by decide) dX3_readHead_234 (by decide) (by decide) ⟨zt_1_1112, za_f_1113, zb_1_1138, zb_2_1139, zb_3_1140, zw_2_1117, zw_3_1118, zw_4_1119, zw_5_1120, zw_6_1121, zw_7_1122, zw_8_1123, zw_9_1124, zw_10_1125, zw_11_1126, zps_5_1127, zps_6_1128, zps_7_1129, zp_2_1102, zte_f_1103, zde_f_1104, zwe_f_1130, zinp_f_1131, zmd_1_1132, zmd_2_1133, zmi_f_1134, 1, (Or.inr rfl), (by first | assumption | omega | decide), (by first | assumption | omega | decide), (by first | assumption | omega | decide), (by first | assumption | omega | decide), rfl, rfl⟩
                  · refine g_iconst (v := 0) B dX3_readHead_161 (by decide) ?_
                    refine g_sub (ws' := [(e, .inr (3, [.ref tp, .ref sd, .ref b1, .ref b2, .ref sh])), (tp, .inr (2, [.ref tpa, .int ztp_1_1100])), (tpa, .inl (E.2.2.1 1, 6000, .inl (nb ztpa_f_1101))), (b1, .inr (0, [.ref tp, .int b1_1, .int b1_2, .int b1_3])), (w, .inr (9, [.ref ps, .ref md, .int (nI w_2), .int (nI w_3), .int (nI w_4), .int w_5, .int w_6, .int w_7, .int w_8, .int w_9, .int w_10, .int w_11])), (ps, .inr (6, [.ref p, .ref we, .ref inp, .ref ba, .ref gu, .int ps_5, .int ps_6, .int ps_7])), (p, .inr (7, [.ref te, .ref de, .int (nI zp_2_1102)])), (te, .inl (E.2.2.1 0, 8, .inl zte_f_1103)), (de, .inl (E.2.2.1 0, 8, .inl zde_f_1104)), (we, .inl (E.2.2.1 0, 16, .inl we_f)), (inp, .inl (E.2.2.1 0, 128, .inl inp_f)), (md, .inr (5, [.ref mi, .long md_1, .long md_2])), (mi, .inl (E.2.2.1 3, 6, .inr (.inl mi_f)))]) [7, 8, 9, 0, 1, 2, 10, 11, 12, 3, 4, 5, 6] (by decide) rfl ?_
                    exact g_zret B hr (by decide) dX3_readHead_162 (by decide) (by decide) ⟨ztp_1_1100, ztpa_f_1101, b1_1, b1_2, b1_3, w_2, w_3, w_4, w_5, w_6, w_7, w_8, w_9, w_10, w_11, ps_5, ps_6, ps_7, zp_2_1102, zte_f_1103, zde_f_1104, we_f, inp_f, md_1, md_2, mi_f, 0, (Or.inl rfl), (by first | assumption | omega | decide), (by first | assumption | omega | decide), (by first | assumption | omega | decide), (by first | assumption | omega | decide), rfl, rfl⟩
            · refine g_iconst (v := 0) B dX3_readHead_99 (by decide) ?_
              refine g_sub (ws' := [(e, .inr (3, [.ref tp, .ref sd, .ref b1, .ref b2, .ref sh])), (tp, .inr (2, [.ref tpa, .int zt_1_1050])), (tpa, .inl (E.2.2.1 1, 6000, .inl (nb za_f_1051))), (b1, .inr (0, [.ref tp, .int b1_1, .int b1_2, .int b1_3])), (w, .inr (9, [.ref ps, .ref md, .int (nI w_2), .int (nI w_3), .int (nI w_4), .int w_5, .int w_6, .int w_7, .int w_8, .int w_9, .int w_10, .int w_11])), (ps, .inr (6, [.ref p, .ref we, .ref inp, .ref ba, .ref gu, .int ps_5, .int ps_6, .int ps_7])), (p, .inr (7, [.ref te, .ref de, .int (nI p_2)])), (te, .inl (E.2.2.1 0, 8, .inl te_f)), (de, .inl (E.2.2.1 0, 8, .inl de_f)), (we, .inl (E.2.2.1 0, 16, .inl we_f)), (inp, .inl (E.2.2.1 0, 128, .inl inp_f)), (md, .inr (5, [.ref mi, .long md_1, .long md_2])), (mi, .inl (E.2.2.1 3, 6, .inr (.inl mi_f)))]) [0, 11, 12, 1, 2, 3, 4, 5, 6, 7, 8, 9, 10] (by decide) rfl ?_
              exact g_zret B hr (by decide) dX3_readHead_100 (by decide) (by decide) ⟨zt_1_1050, za_f_1051, b1_1, b1_2, b1_3, w_2, w_3, w_4, w_5, w_6, w_7, w_8, w_9, w_10, w_11, ps_5, ps_6, ps_7, p_2, te_f, de_f, we_f, inp_f, md_1, md_2, mi_f, 0, (Or.inl rfl), (by first | assumption | omega | decide), (by first | assumption | omega | decide), (by first | assumption | omega | decide), (by first | assumption | omega | decide), rfl, rfl⟩
