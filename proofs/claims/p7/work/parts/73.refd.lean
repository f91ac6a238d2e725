abbrev MJ6_numberOfLeadingZeros_0f7a4 : g_M := (yJ6_numberOfLeadingZeros_0f7a4, cJ6_numberOfLeadingZeros_0f7a4, 2, (some .int))
theorem dJ6_numberOfLeadingZeros_0f7a4_0 : decode cJ6_numberOfLeadingZeros_0f7a4 0 = .ok (.iload_n 0, 1) := by decide +kernel
theorem dJ6_numberOfLeadingZeros_0f7a4_1 : decode cJ6_numberOfLeadingZeros_0f7a4 1 = .ok (.ifCond .gt 14, 3) := by decide +kernel
theorem dJ6_numberOfLeadingZeros_0f7a4_15 : decode cJ6_numberOfLeadingZeros_0f7a4 15 = .ok (.bipush 31, 2) := by decide +kernel
theorem dJ6_numberOfLeadingZeros_0f7a4_17 : decode cJ6_numberOfLeadingZeros_0f7a4 17 = .ok (.istore_n 1, 1) := by decide +kernel
theorem dJ6_numberOfLeadingZeros_0f7a4_18 : decode cJ6_numberOfLeadingZeros_0f7a4 18 = .ok (.iload_n 0, 1) := by decide +kernel
theorem dJ6_numberOfLeadingZeros_0f7a4_19 : decode cJ6_numberOfLeadingZeros_0f7a4 19 = .ok (.ldc_w 264, 3) := by decide +kernel
theorem w_k_J6_264 : Cond.constant RJ6 264 65536 ∈ g_tbl := g_tbl_in 1054 (by decide +kernel) (by decide +kernel)
theorem dJ6_numberOfLeadingZeros_0f7a4_22 : decode cJ6_numberOfLeadingZeros_0f7a4 22 = .ok (.if_icmp .lt 11, 3) := by decide +kernel
theorem dJ6_numberOfLeadingZeros_0f7a4_33 : decode cJ6_numberOfLeadingZeros_0f7a4 33 = .ok (.iload_n 0, 1) := by decide +kernel
theorem dJ6_numberOfLeadingZeros_0f7a4_34 : decode cJ6_numberOfLeadingZeros_0f7a4 34 = .ok (.sipush 256, 3) := by decide +kernel
theorem dJ6_numberOfLeadingZeros_0f7a4_37 : decode cJ6_numberOfLeadingZeros_0f7a4 37 = .ok (.if_icmp .lt 11, 3) := by decide +kernel
theorem dJ6_numberOfLeadingZeros_0f7a4_48 : decode cJ6_numberOfLeadingZeros_0f7a4 48 = .ok (.iload_n 0, 1) := by decide +kernel
theorem dJ6_numberOfLeadingZeros_0f7a4_49 : decode cJ6_numberOfLeadingZeros_0f7a4 49 = .ok (.bipush 16, 2) := by decide +kernel
theorem dJ6_numberOfLeadingZeros_0f7a4_51 : decode cJ6_numberOfLeadingZeros_0f7a4 51 = .ok (.if_icmp .lt 10, 3) := by decide +kernel
theorem dJ6_numberOfLeadingZeros_0f7a4_61 : decode cJ6_numberOfLeadingZeros_0f7a4 61 = .ok (.iload_n 0, 1) := by decide +kernel
theorem dJ6_numberOfLeadingZeros_0f7a4_62 : decode cJ6_numberOfLeadingZeros_0f7a4 62 = .ok (.iconst 4, 1) := by decide +kernel
theorem dJ6_numberOfLeadingZeros_0f7a4_63 : decode cJ6_numberOfLeadingZeros_0f7a4 63 = .ok (.if_icmp .lt 10, 3) := by decide +kernel
theorem dJ6_numberOfLeadingZeros_0f7a4_73 : decode cJ6_numberOfLeadingZeros_0f7a4 73 = .ok (.iload_n 1, 1) := by decide +kernel
theorem dJ6_numberOfLeadingZeros_0f7a4_74 : decode cJ6_numberOfLeadingZeros_0f7a4 74 = .ok (.iload_n 0, 1) := by decide +kernel
theorem dJ6_numberOfLeadingZeros_0f7a4_75 : decode cJ6_numberOfLeadingZeros_0f7a4 75 = .ok (.iconst 1, 1) := by decide +kernel
theorem dJ6_numberOfLeadingZeros_0f7a4_76 : decode cJ6_numberOfLeadingZeros_0f7a4 76 = .ok (.iushr, 1) := by decide +kernel
theorem dJ6_numberOfLeadingZeros_0f7a4_77 : decode cJ6_numberOfLeadingZeros_0f7a4 77 = .ok (.isub, 1) := by decide +kernel
theorem dJ6_numberOfLeadingZeros_0f7a4_78 : decode cJ6_numberOfLeadingZeros_0f7a4 78 = .ok (.ireturn, 1) := by decide +kernel
theorem dJ6_numberOfLeadingZeros_0f7a4_66 : decode cJ6_numberOfLeadingZeros_0f7a4 66 = .ok (.iinc 1 (-2), 3) := by decide +kernel
theorem dJ6_numberOfLeadingZeros_0f7a4_69 : decode cJ6_numberOfLeadingZeros_0f7a4 69 = .ok (.iload_n 0, 1) := by decide +kernel
theorem dJ6_numberOfLeadingZeros_0f7a4_70 : decode cJ6_numberOfLeadingZeros_0f7a4 70 = .ok (.iconst 2, 1) := by decide +kernel
theorem dJ6_numberOfLeadingZeros_0f7a4_71 : decode cJ6_numberOfLeadingZeros_0f7a4 71 = .ok (.iushr, 1) := by decide +kernel
theorem dJ6_numberOfLeadingZeros_0f7a4_72 : decode cJ6_numberOfLeadingZeros_0f7a4 72 = .ok (.istore_n 0, 1) := by decide +kernel
theorem dJ6_numberOfLeadingZeros_0f7a4_54 : decode cJ6_numberOfLeadingZeros_0f7a4 54 = .ok (.iinc 1 (-4), 3) := by decide +kernel
theorem dJ6_numberOfLeadingZeros_0f7a4_57 : decode cJ6_numberOfLeadingZeros_0f7a4 57 = .ok (.iload_n 0, 1) := by decide +kernel
theorem dJ6_numberOfLeadingZeros_0f7a4_58 : decode cJ6_numberOfLeadingZeros_0f7a4 58 = .ok (.iconst 4, 1) := by decide +kernel
theorem dJ6_numberOfLeadingZeros_0f7a4_59 : decode cJ6_numberOfLeadingZeros_0f7a4 59 = .ok (.iushr, 1) := by decide +kernel
theorem dJ6_numberOfLeadingZeros_0f7a4_60 : decode cJ6_numberOfLeadingZeros_0f7a4 60 = .ok (.istore_n 0, 1) := by decide +kernel
theorem dJ6_numberOfLeadingZeros_0f7a4_40 : decode cJ6_numberOfLeadingZeros_0f7a4 40 = .ok (.iinc 1 (-8), 3) := by decide +kernel
theorem dJ6_numberOfLeadingZeros_0f7a4_43 : decode cJ6_numberOfLeadingZeros_0f7a4 43 = .ok (.iload_n 0, 1) := by decide +kernel
theorem dJ6_numberOfLeadingZeros_0f7a4_44 : decode cJ6_numberOfLeadingZeros_0f7a4 44 = .ok (.bipush 8, 2) := by decide +kernel
theorem dJ6_numberOfLeadingZeros_0f7a4_46 : decode cJ6_numberOfLeadingZeros_0f7a4 46 = .ok (.iushr, 1) := by decide +kernel
theorem dJ6_numberOfLeadingZeros_0f7a4_47 : decode cJ6_numberOfLeadingZeros_0f7a4 47 = .ok (.istore_n 0, 1) := by decide +kernel
theorem dJ6_numberOfLeadingZeros_0f7a4_25 : decode cJ6_numberOfLeadingZeros_0f7a4 25 = .ok (.iinc 1 (-16), 3) := by decide +kernel
theorem dJ6_numberOfLeadingZeros_0f7a4_28 : decode cJ6_numberOfLeadingZeros_0f7a4 28 = .ok (.iload_n 0, 1) := by decide +kernel
theorem dJ6_numberOfLeadingZeros_0f7a4_29 : decode cJ6_numberOfLeadingZeros_0f7a4 29 = .ok (.bipush 16, 2) := by decide +kernel
theorem dJ6_numberOfLeadingZeros_0f7a4_31 : decode cJ6_numberOfLeadingZeros_0f7a4 31 = .ok (.iushr, 1) := by decide +kernel
theorem dJ6_numberOfLeadingZeros_0f7a4_32 : decode cJ6_numberOfLeadingZeros_0f7a4 32 = .ok (.istore_n 0, 1) := by decide +kernel
theorem dJ6_numberOfLeadingZeros_0f7a4_4 : decode cJ6_numberOfLeadingZeros_0f7a4 4 = .ok (.iload_n 0, 1) := by decide +kernel
theorem dJ6_numberOfLeadingZeros_0f7a4_5 : decode cJ6_numberOfLeadingZeros_0f7a4 5 = .ok (.ifCond .ne 8, 3) := by decide +kernel
theorem dJ6_numberOfLeadingZeros_0f7a4_13 : decode cJ6_numberOfLeadingZeros_0f7a4 13 = .ok (.iconst 0, 1) := by decide +kernel
theorem dJ6_numberOfLeadingZeros_0f7a4_14 : decode cJ6_numberOfLeadingZeros_0f7a4 14 = .ok (.ireturn, 1) := by decide +kernel
theorem dJ6_numberOfLeadingZeros_0f7a4_8 : decode cJ6_numberOfLeadingZeros_0f7a4 8 = .ok (.bipush 32, 2) := by decide +kernel
theorem dJ6_numberOfLeadingZeros_0f7a4_10 : decode cJ6_numberOfLeadingZeros_0f7a4 10 = .ok (.goto 4, 3) := by decide +kernel
set_option maxRecDepth 100000 in
set_option maxHeartbeats 4000000 in
theorem wr_nlz_w (E : g_E) (x : Int32)  : Ev E MJ6_numberOfLeadingZeros_0f7a4 0 0 0 0 [.int x] [] (fun v_ w_ => ∃ zr : Nat, (zr ≤ 32) ∧ v_ = some (.int (nI zr)) ∧ w_ = []) := by
  refine Ev.intro (by decide) (Nat.le_of_ble_eq_true rfl) ?_
  intro X B hr hI
  have B : Bd E X cJ6_numberOfLeadingZeros_0f7a4 RJ6 2 0 0 0 0 := B
  have hr : Rt E X (some .int) 0 0 (fun v_ w_ => ∃ zr : Nat, (zr ≤ 32) ∧ v_ = some (.int (nI zr)) ∧ w_ = []) := hr
  show G E X 2 [] 0 0 [(0, .int x)] 0 []
  refine g_iload_n B dJ6_numberOfLeadingZeros_0f7a4_0 rfl 0 rfl ?_
  refine g_if_gt (tgt := 15) B dJ6_numberOfLeadingZeros_0f7a4_1 (by decide) (fun c1_2673 => ?_) (fun c1_2673 => ?_)
  · have hp := c1_2673
    obtain ⟨j_2674, hj_2674, rfl⟩ := nI_of (x := x) (fun q => Int32.lt_irrefl (Int32.lt_trans q hp))
    have h0j_2674 : 0 < j_2674 := (nI_ltI (a := 0) (b := j_2674) (by omega) (by omega)).mp hp
    refine g_bipush (v := 31) B dJ6_numberOfLeadingZeros_0f7a4_15 (by decide) ?_
    refine g_istore_n (lv' := [(1, .int 31), (0, .int (nI j_2674))]) B dJ6_numberOfLeadingZeros_0f7a4_17 rfl (by decide) rfl ?_
    refine g_iload_n B dJ6_numberOfLeadingZeros_0f7a4_18 rfl 1 rfl ?_
    refine g_ldcw (v := 65536) B w_k_J6_264 dJ6_numberOfLeadingZeros_0f7a4_19 ?_
    refine g_icmp_lt (tgt := 33) B dJ6_numberOfLeadingZeros_0f7a4_22 (by decide) (fun c22_2675 => ?_) (fun c22_2675 => ?_)
    · have hn_2676 : j_2674 < 65536 := (nI_ltI (a := j_2674) (b := 65536) (by omega) (by omega)).mp c22_2675
      refine g_iload_n B dJ6_numberOfLeadingZeros_0f7a4_33 rfl 1 rfl ?_
      refine g_sipush (v := 256) B dJ6_numberOfLeadingZeros_0f7a4_34 (by decide) ?_
      refine g_icmp_lt (tgt := 48) B dJ6_numberOfLeadingZeros_0f7a4_37 (by decide) (fun c37_2678 => ?_) (fun c37_2678 => ?_)
      · have hn_2679 : j_2674 < 256 := (nI_ltI (a := j_2674) (b := 256) (by omega) (by omega)).mp c37_2678
        refine g_iload_n B dJ6_numberOfLeadingZeros_0f7a4_48 rfl 1 rfl ?_
        refine g_bipush (v := 16) B dJ6_numberOfLeadingZeros_0f7a4_49 (by decide) ?_
        refine g_icmp_lt (tgt := 61) B dJ6_numberOfLeadingZeros_0f7a4_51 (by decide) (fun c51_2681 => ?_) (fun c51_2681 => ?_)
        · have hn_2682 : j_2674 < 16 := (nI_ltI (a := j_2674) (b := 16) (by omega) (by omega)).mp c51_2681
          refine g_iload_n B dJ6_numberOfLeadingZeros_0f7a4_61 rfl 1 rfl ?_
          refine g_iconst (v := 4) B dJ6_numberOfLeadingZeros_0f7a4_62 (by decide) ?_
          refine g_icmp_lt (tgt := 73) B dJ6_numberOfLeadingZeros_0f7a4_63 (by decide) (fun c63_2684 => ?_) (fun c63_2684 => ?_)
          · have hn_2685 : j_2674 < 4 := (nI_ltI (a := j_2674) (b := 4) (by omega) (by omega)).mp c63_2684
            refine g_iload_n B dJ6_numberOfLeadingZeros_0f7a4_73 rfl 0 rfl ?_
            refine g_iload_n B dJ6_numberOfLeadingZeros_0f7a4_74 rfl 1 rfl ?_
            refine g_iconst (v := 1) B dJ6_numberOfLeadingZeros_0f7a4_75 (by decide) ?_
            refine g_iushr B dJ6_numberOfLeadingZeros_0f7a4_76 ?_
            refine g_ri (x' := nI (j_2674 / 2)) (pk_ushrN (n := j_2674) (by omega) 1 1 (by decide)) ?_
            refine g_isub B dJ6_numberOfLeadingZeros_0f7a4_77 ?_
            refine g_ri (x' := nI (31 - (j_2674 / 2))) (pk_sub (a := 31) (b := (j_2674 / 2)) (by omega)) ?_
            exact g_iret B hr dJ6_numberOfLeadingZeros_0f7a4_78 (by decide) (by decide) ⟨(31 - (j_2674 / 2)), (by first | assumption | omega | decide | exact hCF _ (by omega)), rfl, rfl⟩
          · have hn_2686 : 4 ≤ j_2674 := Nat.not_lt.mp (fun q => c63_2684 ((nI_ltI (a := j_2674) (b := 4) (by omega) (by omega)).mpr q))
            refine g_iinc (v := 29) (lv' := [(1, .int 29), (0, .int (nI j_2674))]) B dJ6_numberOfLeadingZeros_0f7a4_66 0 rfl (by decide) (by decide) rfl ?_
            refine g_iload_n B dJ6_numberOfLeadingZeros_0f7a4_69 rfl 1 rfl ?_
            refine g_iconst (v := 2) B dJ6_numberOfLeadingZeros_0f7a4_70 (by decide) ?_
            refine g_iushr B dJ6_numberOfLeadingZeros_0f7a4_71 ?_
            refine g_ri (x' := nI (j_2674 / 4)) (pk_ushrN (n := j_2674) (by omega) 2 2 (by decide)) ?_
            refine g_istore_n (lv' := [(0, .int (nI (j_2674 / 4))), (1, .int 29)]) B dJ6_numberOfLeadingZeros_0f7a4_72 rfl (by decide) rfl ?_
            refine g_iload_n B dJ6_numberOfLeadingZeros_0f7a4_73 rfl 1 rfl ?_
            refine g_iload_n B dJ6_numberOfLeadingZeros_0f7a4_74 rfl 0 rfl ?_
            refine g_iconst (v := 1) B dJ6_numberOfLeadingZeros_0f7a4_75 (by decide) ?_
            refine g_iushr B dJ6_numberOfLeadingZeros_0f7a4_76 ?_
            refine g_ri (x' := nI ((j_2674 / 4) / 2)) (pk_ushrN (n := (j_2674 / 4)) (by omega) 1 1 (by decide)) ?_
            refine g_isub B dJ6_numberOfLeadingZeros_0f7a4_77 ?_
            refine g_ri (x' := nI (29 - ((j_2674 / 4) / 2))) (pk_sub (a := 29) (b := ((j_2674 / 4) / 2)) (by omega)) ?_
            exact g_iret B hr dJ6_numberOfLeadingZeros_0f7a4_78 (by decide) (by decide) ⟨(29 - ((j_2674 / 4) / 2)), (by first | assumption | omega | decide | exact hCF _ (by omega)), rfl, rfl⟩
        · have hn_2683 : 16 ≤ j_2674 := Nat.not_lt.mp (fun q => c51_2681 ((nI_ltI (a := j_2674) (b := 16) (by omega) (by omega)).mpr q))
          refine g_iinc (v := 27) (lv' := [(1, .int 27), (0, .int (nI j_2674))]) B dJ6_numberOfLeadingZeros_0f7a4_54 0 rfl (by decide) (by decide) rfl ?_
          refine g_iload_n B dJ6_numberOfLeadingZeros_0f7a4_57 rfl 1 rfl ?_
          refine g_iconst (v := 4) B dJ6_numberOfLeadingZeros_0f7a4_58 (by decide) ?_
          refine g_iushr B dJ6_numberOfLeadingZeros_0f7a4_59 ?_
          refine g_ri (x' := nI (j_2674 / 16)) (pk_ushrN (n := j_2674) (by omega) 4 4 (by decide)) ?_
          refine g_istore_n (lv' := [(0, .int (nI (j_2674 / 16))), (1, .int 27)]) B dJ6_numberOfLeadingZeros_0f7a4_60 rfl (by decide) rfl ?_
          refine g_iload_n B dJ6_numberOfLeadingZeros_0f7a4_61 rfl 0 rfl ?_
          refine g_iconst (v := 4) B dJ6_numberOfLeadingZeros_0f7a4_62 (by decide) ?_
          refine g_icmp_lt (tgt := 73) B dJ6_numberOfLeadingZeros_0f7a4_63 (by decide) (fun c63_2687 => ?_) (fun c63_2687 => ?_)
          · have hn_2688 : (j_2674 / 16) < 4 := (nI_ltI (a := (j_2674 / 16)) (b := 4) (by omega) (by omega)).mp c63_2687
            refine g_iload_n B dJ6_numberOfLeadingZeros_0f7a4_73 rfl 1 rfl ?_
            refine g_iload_n B dJ6_numberOfLeadingZeros_0f7a4_74 rfl 0 rfl ?_
            refine g_iconst (v := 1) B dJ6_numberOfLeadingZeros_0f7a4_75 (by decide) ?_
            refine g_iushr B dJ6_numberOfLeadingZeros_0f7a4_76 ?_
            refine g_ri (x' := nI ((j_2674 / 16) / 2)) (pk_ushrN (n := (j_2674 / 16)) (by omega) 1 1 (by decide)) ?_
            refine g_isub B dJ6_numberOfLeadingZeros_0f7a4_77 ?_
            refine g_ri (x' := nI (27 - ((j_2674 / 16) / 2))) (pk_sub (a := 27) (b := ((j_2674 / 16) / 2)) (by omega)) ?_
            exact g_iret B hr dJ6_numberOfLeadingZeros_0f7a4_78 (by decide) (by decide) ⟨(27 - ((j_2674 / 16) / 2)), (by first | assumption | omega | decide | exact hCF _ (by omega)), rfl, rfl⟩
          · have hn_2689 : 4 ≤ (j_2674 / 16) := Nat.not_lt.mp (fun q => c63_2687 ((nI_ltI (a := (j_2674 / 16)) (b := 4) (by omega) (by omega)).mpr q))
            refine g_iinc (v := 25) (lv' := [(1, .int 25), (0, .int (nI (j_2674 / 16)))]) B dJ6_numberOfLeadingZeros_0f7a4_66 1 rfl (by decide) (by decide) rfl ?_
            refine g_iload_n B dJ6_numberOfLeadingZeros_0f7a4_69 rfl 1 rfl ?_
            refine g_iconst (v := 2) B dJ6_numberOfLeadingZeros_0f7a4_70 (by decide) ?_
            refine g_iushr B dJ6_numberOfLeadingZeros_0f7a4_71 ?_
            refine g_ri (x' := nI ((j_2674 / 16) / 4)) (pk_ushrN (n := (j_2674 / 16)) (by omega) 2 2 (by decide)) ?_
            refine g_istore_n (lv' := [(0, .int (nI ((j_2674 / 16) / 4))), (1, .int 25)]) B dJ6_numberOfLeadingZeros_0f7a4_72 rfl (by decide) rfl ?_
            refine g_iload_n B dJ6_numberOfLeadingZeros_0f7a4_73 rfl 1 rfl ?_
            refine g_iload_n B dJ6_numberOfLeadingZeros_0f7a4_74 rfl 0 rfl ?_
            refine g_iconst (v := 1) B dJ6_numberOfLeadingZeros_0f7a4_75 (by decide) ?_
            refine g_iushr B dJ6_numberOfLeadingZeros_0f7a4_76 ?_
            refine g_ri (x' := nI (((j_2674 / 16) / 4) / 2)) (pk_ushrN (n := ((j_2674 / 16) / 4)) (by omega) 1 1 (by decide)) ?_
            refine g_isub B dJ6_numberOfLeadingZeros_0f7a4_77 ?_
            refine g_ri (x' := nI (25 - (((j_2674 / 16) / 4) / 2))) (pk_sub (a := 25) (b := (((j_2674 / 16) / 4) / 2)) (by omega)) ?_
            exact g_iret B hr dJ6_numberOfLeadingZeros_0f7a4_78 (by decide) (by decide) ⟨(25 - (((j_2674 / 16) / 4) / 2)), (by first | assumption | omega | decide | exact hCF _ (by omega)), rfl, rfl⟩
      · have hn_2680 : 256 ≤ j_2674 := Nat.not_lt.mp (fun q => c37_2678 ((nI_ltI (a := j_2674) (b := 256) (by omega) (by omega)).mpr q))
        refine g_iinc (v := 23) (lv' := [(1, .int 23), (0, .int (nI j_2674))]) B dJ6_numberOfLeadingZeros_0f7a4_40 0 rfl (by decide) (by decide) rfl ?_
        refine g_iload_n B dJ6_numberOfLeadingZeros_0f7a4_43 rfl 1 rfl ?_
        refine g_bipush (v := 8) B dJ6_numberOfLeadingZeros_0f7a4_44 (by decide) ?_
        refine g_iushr B dJ6_numberOfLeadingZeros_0f7a4_46 ?_
        refine g_ri (x' := nI (j_2674 / 256)) (pk_ushrN (n := j_2674) (by omega) 8 8 (by decide)) ?_
        refine g_istore_n (lv' := [(0, .int (nI (j_2674 / 256))), (1, .int 23)]) B dJ6_numberOfLeadingZeros_0f7a4_47 rfl (by decide) rfl ?_
        refine g_iload_n B dJ6_numberOfLeadingZeros_0f7a4_48 rfl 0 rfl ?_
        refine g_bipush (v := 16) B dJ6_numberOfLeadingZeros_0f7a4_49 (by decide) ?_
        refine g_icmp_lt (tgt := 61) B dJ6_numberOfLeadingZeros_0f7a4_51 (by decide) (fun c51_2690 => ?_) (fun c51_2690 => ?_)
        · have hn_2691 : (j_2674 / 256) < 16 := (nI_ltI (a := (j_2674 / 256)) (b := 16) (by omega) (by omega)).mp c51_2690
          refine g_iload_n B dJ6_numberOfLeadingZeros_0f7a4_61 rfl 0 rfl ?_
          refine g_iconst (v := 4) B dJ6_numberOfLeadingZeros_0f7a4_62 (by decide) ?_
          refine g_icmp_lt (tgt := 73) B dJ6_numberOfLeadingZeros_0f7a4_63 (by decide) (fun c63_2693 => ?_) (fun c63_2693 => ?_)
          · have hn_2694 : (j_2674 / 256) < 4 := (nI_ltI (a := (j_2674 / 256)) (b := 4) (by omega) (by omega)).mp c63_2693
            refine g_iload_n B dJ6_numberOfLeadingZeros_0f7a4_73 rfl 1 rfl ?_
            refine g_iload_n B dJ6_numberOfLeadingZeros_0f7a4_74 rfl 0 rfl ?_
            refine g_iconst (v := 1) B dJ6_numberOfLeadingZeros_0f7a4_75 (by decide) ?_
            refine g_iushr B dJ6_numberOfLeadingZeros_0f7a4_76 ?_
            refine g_ri (x' := nI ((j_2674 / 256) / 2)) (pk_ushrN (n := (j_2674 / 256)) (by omega) 1 1 (by decide)) ?_
            refine g_isub B dJ6_numberOfLeadingZeros_0f7a4_77 ?_
            refine g_ri (x' := nI (23 - ((j_2674 / 256) / 2))) (pk_sub (a := 23) (b := ((j_2674 / 256) / 2)) (by omega)) ?_
            exact g_iret B hr dJ6_numberOfLeadingZeros_0f7a4_78 (by decide) (by decide) ⟨(23 - ((j_2674 / 256) / 2)), (by first | assumption | omega | decide | exact hCF _ (by omega)), rfl, rfl⟩
          · have hn_2695 : 4 ≤ (j_2674 / 256) := Nat.not_lt.mp (fun q => c63_2693 ((nI_ltI (a := (j_2674 / 256)) (b := 4) (by omega) (by omega)).mpr q))
            refine g_iinc (v := 21) (lv' := [(1, .int 21), (0, .int (nI (j_2674 / 256)))]) B dJ6_numberOfLeadingZeros_0f7a4_66 1 rfl (by decide) (by decide) rfl ?_
            refine g_iload_n B dJ6_numberOfLeadingZeros_0f7a4_69 rfl 1 rfl ?_
            refine g_iconst (v := 2) B dJ6_numberOfLeadingZeros_0f7a4_70 (by decide) ?_
            refine g_iushr B dJ6_numberOfLeadingZeros_0f7a4_71 ?_
            refine g_ri (x' := nI ((j_2674 / 256) / 4)) (pk_ushrN (n := (j_2674 / 256)) (by omega) 2 2 (by decide)) ?_
            refine g_istore_n (lv' := [(0, .int (nI ((j_2674 / 256) / 4))), (1, .int 21)]) B dJ6_numberOfLeadingZeros_0f7a4_72 rfl (by decide) rfl ?_
            refine g_iload_n B dJ6_numberOfLeadingZeros_0f7a4_73 rfl 1 rfl ?_
            refine g_iload_n B dJ6_numberOfLeadingZeros_0f7a4_74 rfl 0 rfl ?_
            refine g_iconst (v := 1) B dJ6_numberOfLeadingZeros_0f7a4_75 (by decide) ?_
            refine g_iushr B dJ6_numberOfLeadingZeros_0f7a4_76 ?_
            refine g_ri (x' := nI (((j_2674 / 256) / 4) / 2)) (pk_ushrN (n := ((j_2674 / 256) / 4)) (by omega) 1 1 (by decide)) ?_
            refine g_isub B dJ6_numberOfLeadingZeros_0f7a4_77 ?_
            refine g_ri (x' := nI (21 - (((j_2674 / 256) / 4) / 2))) (pk_sub (a := 21) (b := (((j_2674 / 256) / 4) / 2)) (by omega)) ?_
            exact g_iret B hr dJ6_numberOfLeadingZeros_0f7a4_78 (by decide) (by decide) ⟨(21 - (((j_2674 / 256) / 4) / 2)), (by first | assumption | omega | decide | exact hCF _ (by omega)), rfl, rfl⟩
        · have hn_2692 : 16 ≤ (j_2674 / 256) := Nat.not_lt.mp (fun q => c51_2690 ((nI_ltI (a := (j_2674 / 256)) (b := 16) (by omega) (by omega)).mpr q))
          refine g_iinc (v := 19) (lv' := [(1, .int 19), (0, .int (nI (j_2674 / 256)))]) B dJ6_numberOfLeadingZeros_0f7a4_54 1 rfl (by decide) (by decide) rfl ?_
          refine g_iload_n B dJ6_numberOfLeadingZeros_0f7a4_57 rfl 1 rfl ?_
          refine g_iconst (v := 4) B dJ6_numberOfLeadingZeros_0f7a4_58 (by decide) ?_
          refine g_iushr B dJ6_numberOfLeadingZeros_0f7a4_59 ?_
          refine g_ri (x' := nI ((j_2674 / 256) / 16)) (pk_ushrN (n := (j_2674 / 256)) (by omega) 4 4 (by decide)) ?_
          refine g_istore_n (lv' := [(0, .int (nI ((j_2674 / 256) / 16))), (1, .int 19)]) B dJ6_numberOfLeadingZeros_0f7a4_60 rfl (by decide) rfl ?_
          refine g_iload_n B dJ6_numberOfLeadingZeros_0f7a4_61 rfl 0 rfl ?_
          refine g_iconst (v := 4) B dJ6_numberOfLeadingZeros_0f7a4_62 (by decide) ?_
          refine g_icmp_lt (tgt := 73) B dJ6_numberOfLeadingZeros_0f7a4_63 (by decide) (fun c63_2696 => ?_) (fun c63_2696 => ?_)
          · have hn_2697 : ((j_2674 / 256) / 16) < 4 := (nI_ltI (a := ((j_2674 / 256) / 16)) (b := 4) (by omega) (by omega)).mp c63_2696
            refine g_iload_n B dJ6_numberOfLeadingZeros_0f7a4_73 rfl 1 rfl ?_
            refine g_iload_n B dJ6_numberOfLeadingZeros_0f7a4_74 rfl 0 rfl ?_
            refine g_iconst (v := 1) B dJ6_numberOfLeadingZeros_0f7a4_75 (by decide) ?_
            refine g_iushr B dJ6_numberOfLeadingZeros_0f7a4_76 ?_
            refine g_ri (x' := nI (((j_2674 / 256) / 16) / 2)) (pk_ushrN (n := ((j_2674 / 256) / 16)) (by omega) 1 1 (by decide)) ?_
            refine g_isub B dJ6_numberOfLeadingZeros_0f7a4_77 ?_
            refine g_ri (x' := nI (19 - (((j_2674 / 256) / 16) / 2))) (pk_sub (a := 19) (b := (((j_2674 / 256) / 16) / 2)) (by omega)) ?_
            exact g_iret B hr dJ6_numberOfLeadingZeros_0f7a4_78 (by decide) (by decide) ⟨(19 - (((j_2674 / 256) / 16) / 2)), (by first | assumption | omega | decide | exact hCF _ (by omega)), rfl, rfl⟩
          · have hn_2698 : 4 ≤ ((j_2674 / 256) / 16) := Nat.not_lt.mp (fun q => c63_2696 ((nI_ltI (a := ((j_2674 / 256) / 16)) (b := 4) (by omega) (by omega)).mpr q))
            refine g_iinc (v := 17) (lv' := [(1, .int 17), (0, .int (nI ((j_2674 / 256) / 16)))]) B dJ6_numberOfLeadingZeros_0f7a4_66 1 rfl (by decide) (by decide) rfl ?_
            refine g_iload_n B dJ6_numberOfLeadingZeros_0f7a4_69 rfl 1 rfl ?_
            refine g_iconst (v := 2) B dJ6_numberOfLeadingZeros_0f7a4_70 (by decide) ?_
            refine g_iushr B dJ6_numberOfLeadingZeros_0f7a4_71 ?_
            refine g_ri (x' := nI (((j_2674 / 256) / 16) / 4)) (pk_ushrN (n := ((j_2674 / 256) / 16)) (by omega) 2 2 (by decide)) ?_
            refine g_istore_n (lv' := [(0, .int (nI (((j_2674 / 256) / 16) / 4))), (1, .int 17)]) B dJ6_numberOfLeadingZeros_0f7a4_72 rfl (by decide) rfl ?_
            refine g_iload_n B dJ6_numberOfLeadingZeros_0f7a4_73 rfl 1 rfl ?_
            refine g_iload_n B dJ6_numberOfLeadingZeros_0f7a4_74 rfl 0 rfl ?_
            refine g_iconst (v := 1) B dJ6_numberOfLeadingZeros_0f7a4_75 (by decide) ?_
            refine g_iushr B dJ6_numberOfLeadingZeros_0f7a4_76 ?_
            refine g_ri (x' := nI ((((j_2674 / 256) / 16) / 4) / 2)) (pk_ushrN (n := (((j_2674 / 256) / 16) / 4)) (by omega) 1 1 (by decide)) ?_
            refine g_isub B dJ6_numberOfLeadingZeros_0f7a4_77 ?_
            refine g_ri (x' := nI (17 - ((((j_2674 / 256) / 16) / 4) / 2))) (pk_sub (a := 17) (b := ((((j_2674 / 256) / 16) / 4) / 2)) (by omega)) ?_
            exact g_iret B hr dJ6_numberOfLeadingZeros_0f7a4_78 (by decide) (by decide) ⟨(17 - ((((j_2674 / 256) / 16) / 4) / 2)), (by first | assumption | omega | decide | exact hCF _ (by omega)), rfl, rfl⟩
    · have hn_2677 : 65536 ≤ j_2674 := Nat.not_lt.mp (fun q => c22_2675 ((nI_ltI (a := j_2674) (b := 65536) (by omega) (by omega)).mpr q))
      refine g_iinc (v := 15) (lv' := [(1, .int 15), (0, .int (nI j_2674))]) B dJ6_numberOfLeadingZeros_0f7a4_25 0 rfl (by decide) (by decide) rfl ?_
      refine g_iload_n B dJ6_numberOfLeadingZeros_0f7a4_28 rfl 1 rfl ?_
      refine g_bipush (v := 16) B dJ6_numberOfLeadingZeros_0f7a4_29 (by decide) ?_
      refine g_iushr B dJ6_numberOfLeadingZeros_0f7a4_31 ?_
      refine g_ri (x' := nI (j_2674 / 65536)) (pk_ushrN (n := j_2674) (by omega) 16 16 (by decide)) ?_
      refine g_istore_n (lv' := [(0, .int (nI (j_2674 / 65536))), (1, .int 15)]) B dJ6_numberOfLeadingZeros_0f7a4_32 rfl (by decide) rfl ?_
      refine g_iload_n B dJ6_numberOfLeadingZeros_0f7a4_33 rfl 0 rfl ?_
      refine g_sipush (v := 256) B dJ6_numberOfLeadingZeros_0f7a4_34 (by decide) ?_
      refine g_icmp_lt (tgt := 48) B dJ6_numberOfLeadingZeros_0f7a4_37 (by decide) (fun c37_2699 => ?_) (fun c37_2699 => ?_)
      · have hn_2700 : (j_2674 / 65536) < 256 := (nI_ltI (a := (j_2674 / 65536)) (b := 256) (by omega) (by omega)).mp c37_2699
        refine g_iload_n B dJ6_numberOfLeadingZeros_0f7a4_48 rfl 0 rfl ?_
        refine g_bipush (v := 16) B dJ6_numberOfLeadingZeros_0f7a4_49 (by decide) ?_
        refine g_icmp_lt (tgt := 61) B dJ6_numberOfLeadingZeros_0f7a4_51 (by decide) (fun c51_2702 => ?_) (fun c51_2702 => ?_)
        · have hn_2703 : (j_2674 / 65536) < 16 := (nI_ltI (a := (j_2674 / 65536)) (b := 16) (by omega) (by omega)).mp c51_2702
          refine g_iload_n B dJ6_numberOfLeadingZeros_0f7a4_61 rfl 0 rfl ?_
          refine g_iconst (v := 4) B dJ6_numberOfLeadingZeros_0f7a4_62 (by decide) ?_
          refine g_icmp_lt (tgt := 73) B dJ6_numberOfLeadingZeros_0f7a4_63 (by decide) (fun c63_2705 => ?_) (fun c63_2705 => ?_)
          · have hn_2706 : (j_2674 / 65536) < 4 := (nI_ltI (a := (j_2674 / 65536)) (b := 4) (by omega) (by omega)).mp c63_2705
            refine g_iload_n B dJ6_numberOfLeadingZeros_0f7a4_73 rfl 1 rfl ?_
            refine g_iload_n B dJ6_numberOfLeadingZeros_0f7a4_74 rfl 0 rfl ?_
            refine g_iconst (v := 1) B dJ6_numberOfLeadingZeros_0f7a4_75 (by decide) ?_
            refine g_iushr B dJ6_numberOfLeadingZeros_0f7a4_76 ?_
            refine g_ri (x' := nI ((j_2674 / 65536) / 2)) (pk_ushrN (n := (j_2674 / 65536)) (by omega) 1 1 (by decide)) ?_
            refine g_isub B dJ6_numberOfLeadingZeros_0f7a4_77 ?_
            refine g_ri (x' := nI (15 - ((j_2674 / 65536) / 2))) (pk_sub (a := 15) (b := ((j_2674 / 65536) / 2)) (by omega)) ?_
            exact g_iret B hr dJ6_numberOfLeadingZeros_0f7a4_78 (by decide) (by decide) ⟨(15 - ((j_2674 / 65536) / 2)), (by first | assumption | omega | decide | exact hCF _ (by omega)), rfl, rfl⟩
          · have hn_2707 : 4 ≤ (j_2674 / 65536) := Nat.not_lt.mp (fun q => c63_2705 ((nI_ltI (a := (j_2674 / 65536)) (b := 4) (by omega) (by omega)).mpr q))
            refine g_iinc (v := 13) (lv' := [(1, .int 13), (0, .int (nI (j_2674 / 65536)))]) B dJ6_numberOfLeadingZeros_0f7a4_66 1 rfl (by decide) (by decide) rfl ?_
            refine g_iload_n B dJ6_numberOfLeadingZeros_0f7a4_69 rfl 1 rfl ?_
            refine g_iconst (v := 2) B dJ6_numberOfLeadingZeros_0f7a4_70 (by decide) ?_
            refine g_iushr B dJ6_numberOfLeadingZeros_0f7a4_71 ?_
            refine g_ri (x' := nI ((j_2674 / 65536) / 4)) (pk_ushrN (n := (j_2674 / 65536)) (by omega) 2 2 (by decide)) ?_
            refine g_istore_n (lv' := [(0, .int (nI ((j_2674 / 65536) / 4))), (1, .int 13)]) B dJ6_numberOfLeadingZeros_0f7a4_72 rfl (by decide) rfl ?_
            refine g_iload_n B dJ6_numberOfLeadingZeros_0f7a4_73 rfl 1 rfl ?_
            refine g_iload_n B dJ6_numberOfLeadingZeros_0f7a4_74 rfl 0 rfl ?_
            refine g_iconst (v := 1) B dJ6_numberOfLeadingZeros_0f7a4_75 (by decide) ?_
            refine g_iushr B dJ6_numberOfLeadingZeros_0f7a4_76 ?_
            refine g_ri (x' := nI (((j_2674 / 65536) / 4) / 2)) (pk_ushrN (n := ((j_2674 / 65536) / 4)) (by omega) 1 1 (by decide)) ?_
            refine g_isub B dJ6_numberOfLeadingZeros_0f7a4_77 ?_
            refine g_ri (x' := nI (13 - (((j_2674 / 65536) / 4) / 2))) (pk_sub (a := 13) (b := (((j_2674 / 65536) / 4) / 2)) (by omega)) ?_
            exact g_iret B hr dJ6_numberOfLeadingZeros_0f7a4_78 (by decide) (by decide) ⟨(13 - (((j_2674 / 65536) / 4) / 2)), (by first | assumption | omega | decide | exact hCF _ (by omega)), rfl, rfl⟩
        · have hn_2704 : 16 ≤ (j_2674 / 65536) := Nat.not_lt.mp (fun q => c51_2702 ((nI_ltI (a := (j_2674 / 65536)) (b := 16) (by omega) (by omega)).mpr q))
          refine g_iinc (v := 11) (lv' := [(1, .int 11), (0, .int (nI (j_2674 / 65536)))]) B dJ6_numberOfLeadingZeros_0f7a4_54 1 rfl (by decide) (by decide) rfl ?_
          refine g_iload_n B dJ6_numberOfLeadingZeros_0f7a4_57 rfl 1 rfl ?_
          refine g_iconst (v := 4) B dJ6_numberOfLeadingZeros_0f7a4_58 (by decide) ?_
          refine g_iushr B dJ6_numberOfLeadingZeros_0f7a4_59 ?_
          refine g_ri (x' := nI ((j_2674 / 65536) / 16)) (pk_ushrN (n := (j_2674 / 65536)) (by omega) 4 4 (by decide)) ?_
          refine g_istore_n (lv' := [(0, .int (nI ((j_2674 / 65536) / 16))), (1, .int 11)]) B dJ6_numberOfLeadingZeros_0f7a4_60 rfl (by decide) rfl ?_
          refine g_iload_n B dJ6_numberOfLeadingZeros_0f7a4_61 rfl 0 rfl ?_
          refine g_iconst (v := 4) B dJ6_numberOfLeadingZeros_0f7a4_62 (by decide) ?_
          refine g_icmp_lt (tgt := 73) B dJ6_numberOfLeadingZeros_0f7a4_63 (by decide) (fun c63_2708 => ?_) (fun c63_2708 => ?_)
          · have hn_2709 : ((j_2674 / 65536) / 16) < 4 := (nI_ltI (a := ((j_2674 / 65536) / 16)) (b := 4) (by omega) (by omega)).mp c63_2708
            refine g_iload_n B dJ6_numberOfLeadingZeros_0f7a4_73 rfl 1 rfl ?_
            refine g_iload_n B dJ6_numberOfLeadingZeros_0f7a4_74 rfl 0 rfl ?_
            refine g_iconst (v := 1) B dJ6_numberOfLeadingZeros_0f7a4_75 (by decide) ?_
            refine g_iushr B dJ6_numberOfLeadingZeros_0f7a4_76 ?_
            refine g_ri (x' := nI (((j_2674 / 65536) / 16) / 2)) (pk_ushrN (n := ((j_2674 / 65536) / 16)) (by omega) 1 1 (by decide)) ?_
            refine g_isub B dJ6_numberOfLeadingZeros_0f7a4_77 ?_
            refine g_ri (x' := nI (11 - (((j_2674 / 65536) / 16) / 2))) (pk_sub (a := 11) (b := (((j_2674 / 65536) / 16) / 2)) (by omega)) ?_
            exact g_iret B hr dJ6_numberOfLeadingZeros_0f7a4_78 (by decide) (by decide) ⟨(11 - (((j_2674 / 65536) / 16) / 2)), (by first | assumption | omega | decide | exact hCF _ (by omega)), rfl, rfl⟩
          · have hn_2710 : 4 ≤ ((j_2674 / 65536) / 16) := Nat.not_lt.mp (fun q => c63_2708 ((nI_ltI (a := ((j_2674 / 65536) / 16)) (b := 4) (by omega) (by omega)).mpr q))
            refine g_iinc (v := 9) (lv' := [(1, .int 9), (0, .int (nI ((j_2674 / 65536) / 16)))]) B dJ6_numberOfLeadingZeros_0f7a4_66 1 rfl (by decide) (by decide) rfl ?_
            refine g_iload_n B dJ6_numberOfLeadingZeros_0f7a4_69 rfl 1 rfl ?_
            refine g_iconst (v := 2) B dJ6_numberOfLeadingZeros_0f7a4_70 (by decide) ?_
            refine g_iushr B dJ6_numberOfLeadingZeros_0f7a4_71 ?_
            refine g_ri (x' := nI (((j_2674 / 65536) / 16) / 4)) (pk_ushrN (n := ((j_2674 / 65536) / 16)) (by omega) 2 2 (by decide)) ?_
            refine g_istore_n (lv' := [(0, .int (nI (((j_2674 / 65536) / 16) / 4))), (1, .int 9)]) B dJ6_numberOfLeadingZeros_0f7a4_72 rfl (by decide) rfl ?_
            refine g_iload_n B dJ6_numberOfLeadingZeros_0f7a4_73 rfl 1 rfl ?_
            refine g_iload_n B dJ6_numberOfLeadingZeros_0f7a4_74 rfl 0 rfl ?_
            refine g_iconst (v := 1) B dJ6_numberOfLeadingZeros_0f7a4_75 (by decide) ?_
            refine g_iushr B dJ6_numberOfLeadingZeros_0f7a4_76 ?_
            refine g_ri (x' := nI ((((j_2674 / 65536) / 16) / 4) / 2)) (pk_ushrN (n := (((j_2674 / 65536) / 16) / 4)) (by omega) 1 1 (by decide)) ?_
            refine g_isub B dJ6_numberOfLeadingZeros_0f7a4_77 ?_
            refine g_ri (x' := nI (9 - ((((j_2674 / 65536) / 16) / 4) / 2))) (pk_sub (a := 9) (b := ((((j_2674 / 65536) / 16) / 4) / 2)) (by omega)) ?_
            exact g_iret B hr dJ6_numberOfLeadingZeros_0f7a4_78 (by decide) (by decide) ⟨(9 - ((((j_2674 / 65536) / 16) / 4) / 2)), (by first | assumption | omega | decide | exact hCF _ (by omega)), rfl, rfl⟩
      · have hn_2701 : 256 ≤ (j_2674 / 65536) := Nat.not_lt.mp (fun q => c37_2699 ((nI_ltI (a := (j_2674 / 65536)) (b := 256) (by omega) (by omega)).mpr q))
        refine g_iinc (v := 7) (lv' := [(1, .int 7), (0, .int (nI (j_2674 / 65536)))]) B dJ6_numberOfLeadingZeros_0f7a4_40 1 rfl (by decide) (by decide) rfl ?_
        refine g_iload_n B dJ6_numberOfLeadingZeros_0f7a4_43 rfl 1 rfl ?_
        refine g_bipush (v := 8) B dJ6_numberOfLeadingZeros_0f7a4_44 (by decide) ?_
        refine g_iushr B dJ6_numberOfLeadingZeros_0f7a4_46 ?_
        refine g_ri (x' := nI ((j_2674 / 65536) / 256)) (pk_ushrN (n := (j_2674 / 65536)) (by omega) 8 8 (by decide)) ?_
        refine g_istore_n (lv' := [(0, .int (nI ((j_2674 / 65536) / 256))), (1, .int 7)]) B dJ6_numberOfLeadingZeros_0f7a4_47 rfl (by decide) rfl ?_
        refine g_iload_n B dJ6_numberOfLeadingZeros_0f7a4_48 rfl 0 rfl ?_
        refine g_bipush (v := 16) B dJ6_numberOfLeadingZeros_0f7a4_49 (by decide) ?_
        refine g_icmp_lt (tgt := 61) B dJ6_numberOfLeadingZeros_0f7a4_51 (by decide) (fun c51_2711 => ?_) (fun c51_2711 => ?_)
        · have hn_2712 : ((j_2674 / 65536) / 256) < 16 := (nI_ltI (a := ((j_2674 / 65536) / 256)) (b := 16) (by omega) (by omega)).mp c51_2711
          refine g_iload_n B dJ6_numberOfLeadingZeros_0f7a4_61 rfl 0 rfl ?_
          refine g_iconst (v := 4) B dJ6_numberOfLeadingZeros_0f7a4_62 (by decide) ?_
          refine g_icmp_lt (tgt := 73) B dJ6_numberOfLeadingZeros_0f7a4_63 (by decide) (fun c63_2714 => ?_) (fun c63_2714 => ?_)
          · have hn_2715 : ((j_2674 / 65536) / 256) < 4 := (nI_ltI (a := ((j_2674 / 65536) / 256)) (b := 4) (by omega) (by omega)).mp c63_2714
            refine g_iload_n B dJ6_numberOfLeadingZeros_0f7a4_73 rfl 1 rfl ?_
            refine g_iload_n B dJ6_numberOfLeadingZeros_0f7a4_74 rfl 0 rfl ?_
            refine g_iconst (v := 1) B dJ6_numberOfLeadingZeros_0f7a4_75 (by decide) ?_
            refine g_iushr B dJ6_numberOfLeadingZeros_0f7a4_76 ?_
            refine g_ri (x' := nI (((j_2674 / 65536) / 256) / 2)) (pk_ushrN (n := ((j_2674 / 65536) / 256)) (by omega) 1 1 (by decide)) ?_
            refine g_isub B dJ6_numberOfLeadingZeros_0f7a4_77 ?_
            refine g_ri (x' := nI (7 - (((j_2674 / 65536) / 256) / 2))) (pk_sub (a := 7) (b := (((j_2674 / 65536) / 256) / 2)) (by omega)) ?_
            exact g_iret B hr dJ6_numberOfLeadingZeros_0f7a4_78 (by decide) (by decide) ⟨(7 - (((j_2674 / 65536) / 256) / 2)), (by first | assumption | omega | decide | exact hCF _ (by omega)), rfl, rfl⟩
          · have hn_2716 : 4 ≤ ((j_2674 / 65536) / 256) := Nat.not_lt.mp (fun q => c63_2714 ((nI_ltI (a := ((j_2674 / 65536) / 256)) (b := 4) (by omega) (by omega)).mpr q))
            refine g_iinc (v := 5) (lv' := [(1, .int 5), (0, .int (nI ((j_2674 / 65536) / 256)))]) B dJ6_numberOfLeadingZeros_0f7a4_66 1 rfl (by decide) (by decide) rfl ?_
            refine g_iload_n B dJ6_numberOfLeadingZeros_0f7a4_69 rfl 1 rfl ?_
            refine g_iconst (v := 2) B dJ6_numberOfLeadingZeros_0f7a4_70 (by decide) ?_
            refine g_iushr B dJ6_numberOfLeadingZeros_0f7a4_71 ?_
            refine g_ri (x' := nI (((j_2674 / 65536) / 256) / 4)) (pk_ushrN (n := ((j_2674 / 65536) / 256)) (by omega) 2 2 (by decide)) ?_
            refine g_istore_n (lv' := [(0, .int (nI (((j_2674 / 65536) / 256) / 4))), (1, .int 5)]) B dJ6_numberOfLeadingZeros_0f7a4_72 rfl (by decide) rfl ?_
            refine g_iload_n B dJ6_numberOfLeadingZeros_0f7a4_73 rfl 1 rfl ?_
            refine g_iload_n B dJ6_numberOfLeadingZeros_0f7a4_74 rfl 0 rfl ?_
            refine g_iconst (v := 1) B dJ6_numberOfLeadingZeros_0f7a4_75 (by decide) ?_
            refine g_iushr B dJ6_numberOfLeadingZeros_0f7a4_76 ?_
            refine g_ri (x' := nI ((((j_2674 / 65536) / 256) / 4) / 2)) (pk_ushrN (n := (((j_2674 / 65536) / 256) / 4)) (by omega) 1 1 (by decide)) ?_
            refine g_isub B dJ6_numberOfLeadingZeros_0f7a4_77 ?_
            refine g_ri (x' := nI (5 - ((((j_2674 / 65536) / 256) / 4) / 2))) (pk_sub (a := 5) (b := ((((j_2674 / 65536) / 256) / 4) / 2)) (by omega)) ?_
            exact g_iret B hr dJ6_numberOfLeadingZeros_0f7a4_78 (by decide) (by decide) ⟨(5 - ((((j_2674 / 65536) / 256) / 4) / 2)), (by first | assumption | omega | decide | exact hCF _ (by omega)), rfl, rfl⟩
        · have hn_2713 : 16 ≤ ((j_2674 / 65536) / 256) := Nat.not_lt.mp (fun q => c51_2711 ((nI_ltI (a := ((j_2674 / 65536) / 256)) (b := 16) (by omega) (by omega)).mpr q))
          refine g_iinc (v := 3) (lv' := [(1, .int 3), (0, .int (nI ((j_2674 / 65536) / 256)))]) B dJ6_numberOfLeadingZeros_0f7a4_54 1 rfl (by decide) (by decide) rfl ?_
          refine g_iload_n B dJ6_numberOfLeadingZeros_0f7a4_57 rfl 1 rfl ?_
          refine g_iconst (v := 4) B dJ6_numberOfLeadingZeros_0f7a4_58 (by decide) ?_
          refine g_iushr B dJ6_numberOfLeadingZeros_0f7a4_59 ?_
          refine g_ri (x' := nI (((j_2674 / 65536) / 256) / 16)) (pk_ushrN (n := ((j_2674 / 65536) / 256)) (by omega) 4 4 (by decide)) ?_
          refine g_istore_n (lv' := [(0, .int (nI (((j_2674 / 65536) / 256) / 16))), (1, .int 3)]) B dJ6_numberOfLeadingZeros_0f7a4_60 rfl (by decide) rfl ?_
          refine g_iload_n B dJ6_numberOfLeadingZeros_0f7a4_61 rfl 0 rfl ?_
          refine g_iconst (v := 4) B dJ6_numberOfLeadingZeros_0f7a4_62 (by decide) ?_
          refine g_icmp_lt (tgt := 73) B dJ6_numberOfLeadingZeros_0f7a4_63 (by decide) (fun c63_2717 => ?_) (fun c63_2717 => ?_)
          · have hn_2718 : (((j_2674 / 65536) / 256) / 16) < 4 := (nI_ltI (a := (((j_2674 / 65536) / 256) / 16)) (b := 4) (by omega) (by omega)).mp c63_2717
            refine g_iload_n B dJ6_numberOfLeadingZeros_0f7a4_73 rfl 1 rfl ?_
            refine g_iload_n B dJ6_numberOfLeadingZeros_0f7a4_74 rfl 0 rfl ?_
            refine g_iconst (v := 1) B dJ6_numberOfLeadingZeros_0f7a4_75 (by decide) ?_
            refine g_iushr B dJ6_numberOfLeadingZeros_0f7a4_76 ?_
            refine g_ri (x' := nI ((((j_2674 / 65536) / 256) / 16) / 2)) (pk_ushrN (n := (((j_2674 / 65536) / 256) / 16)) (by omega) 1 1 (by decide)) ?_
            refine g_isub B dJ6_numberOfLeadingZeros_0f7a4_77 ?_
            refine g_ri (x' := nI (3 - ((((j_2674 / 65536) / 256) / 16) / 2))) (pk_sub (a := 3) (b := ((((j_2674 / 65536) / 256) / 16) / 2)) (by omega)) ?_
            exact g_iret B hr dJ6_numberOfLeadingZeros_0f7a4_78 (by decide) (by decide) ⟨(3 - ((((j_2674 / 65536) / 256) / 16) / 2)), (by first | assumption | omega | decide | exact hCF _ (by omega)), rfl, rfl⟩
          · have hn_2719 : 4 ≤ (((j_2674 / 65536) / 256) / 16) := Nat.not_lt.mp (fun q => c63_2717 ((nI_ltI (a := (((j_2674 / 65536) / 256) / 16)) (b := 4) (by omega) (by omega)).mpr q))
            refine g_iinc (v := 1) (lv' := [(1, .int 1), (0, .int (nI (((j_2674 / 65536) / 256) / 16)))]) B dJ6_numberOfLeadingZeros_0f7a4_66 1 rfl (by decide) (by decide) rfl ?_
            refine g_iload_n B dJ6_numberOfLeadingZeros_0f7a4_69 rfl 1 rfl ?_
            refine g_iconst (v := 2) B dJ6_numberOfLeadingZeros_0f7a4_70 (by decide) ?_
            refine g_iushr B dJ6_numberOfLeadingZeros_0f7a4_71 ?_
            refine g_ri (x' := nI ((((j_2674 / 65536) / 256) / 16) / 4)) (pk_ushrN (n := (((j_2674 / 65536) / 256) / 16)) (by omega) 2 2 (by decide)) ?_
            refine g_istore_n (lv' := [(0, .int (nI ((((j_2674 / 65536) / 256) / 16) / 4))), (1, .int 1)]) B dJ6_numberOfLeadingZeros_0f7a4_72 rfl (by decide) rfl ?_
            refine g_iload_n B dJ6_numberOfLeadingZeros_0f7a4_73 rfl 1 rfl ?_
            refine g_iload_n B dJ6_numberOfLeadingZeros_0f7a4_74 rfl 0 rfl ?_
            refine g_iconst (v := 1) B dJ6_numberOfLeadingZeros_0f7a4_75 (by decide) ?_
            refine g_iushr B dJ6_numberOfLeadingZeros_0f7a4_76 ?_
            refine g_ri (x' := nI (((((j_2674 / 65536) / 256) / 16) / 4) / 2)) (pk_ushrN (n := ((((j_2674 / 65536) / 256) / 16) / 4)) (by omega) 1 1 (by decide)) ?_
            refine g_isub B dJ6_numberOfLeadingZeros_0f7a4_77 ?_
            refine g_ri (x' := nI (1 - (((((j_2674 / 65536) / 256) / 16) / 4) / 2))) (pk_sub (a := 1) (b := (((((j_2674 / 65536) / 256) / 16) / 4) / 2)) (by omega)) ?_
            exact g_iret B hr dJ6_numberOfLeadingZeros_0f7a4_78 (by decide) (by decide) ⟨(1 - (((((j_2674 / 65536) / 256) / 16) / 4) / 2)), (by first | assumption | omega | decide | exact hCF _ (by omega)), rfl, rfl⟩
  · refine g_iload_n B dJ6_numberOfLeadingZeros_0f7a4_4 rfl 0 rfl ?_
    refine g_if_ne (tgt := 13) B dJ6_numberOfLeadingZeros_0f7a4_5 (by decide) (fun c5_2720 => ?_) (fun c5_2720 => ?_)
    · refine g_iconst (v := 0) B dJ6_numberOfLeadingZeros_0f7a4_13 (by decide) ?_
      exact g_iret B hr dJ6_numberOfLeadingZeros_0f7a4_14 (by decide) (by decide) ⟨0, (by first | assumption | omega | decide | exact hCF _ (by omega)), rfl, rfl⟩
    · refine g_bipush (v := 32) B dJ6_numberOfLeadingZeros_0f7a4_8 (by decide) ?_
      refine g_goto (tgt := 14) B dJ6_numberOfLeadingZeros_0f7a4_10 (by decide) ?_
      exact g_iret B hr dJ6_numberOfLeadingZeros_0f7a4_14 (by decide) (by decide) ⟨32, (by first | assumption | omega | decide | exact hCF _ (by omega)), rfl, rfl⟩
set_option maxRecDepth 100000 in
set_option maxHeartbeats 4000000 in
theorem wr_nlz_n (E : g_E) (a : Nat) (h0 : 0 < a) (h1 : a < 2147483648) : Ev E MJ6_numberOfLeadingZeros_0f7a4 0 0 0 0 [.int (nI a)] [] (fun v_ w_ => ∃ zr : Nat, (zr ≤ 31) ∧ (1 ≤ zr) ∧ (a ≤ 1023 → 22 ≤ zr) ∧ (a ≤ 131071 → 15 ≤ zr) ∧ v_ = some (.int (nI zr)) ∧ w_ = []) := by
  refine Ev.intro (by decide) (Nat.le_of_ble_eq_true rfl) ?_
  intro X B hr hI
  have B : Bd E X cJ6_numberOfLeadingZeros_0f7a4 RJ6 2 0 0 0 0 := B
  have hr : Rt E X (some .int) 0 0 (fun v_ w_ => ∃ zr : Nat, (zr ≤ 31) ∧ (1 ≤ zr) ∧ (a ≤ 1023 → 22 ≤ zr) ∧ (a ≤ 131071 → 15 ≤ zr) ∧ v_ = some (.int (nI zr)) ∧ w_ = []) := hr
  show G E X 2 [] 0 0 [(0, .int (nI a))] 0 []
  refine g_iload_n B dJ6_numberOfLeadingZeros_0f7a4_0 rfl 0 rfl ?_
  refine g_if_gt (tgt := 15) B dJ6_numberOfLeadingZeros_0f7a4_1 (by decide) (fun c1_2721 => ?_) (fun c1_2721 => ?_)
  · have hn_2722 : 0 < a := (nI_ltI (a := 0) (b := a) (by omega) (by omega)).mp c1_2721
    refine g_bipush (v := 31) B dJ6_numberOfLeadingZeros_0f7a4_15 (by decide) ?_
    refine g_istore_n (lv' := [(1, .int 31), (0, .int (nI a))]) B dJ6_numberOfLeadingZeros_0f7a4_17 rfl (by decide) rfl ?_
    refine g_iload_n B dJ6_numberOfLeadingZeros_0f7a4_18 rfl 1 rfl ?_
    refine g_ldcw (v := 65536) B w_k_J6_264 dJ6_numberOfLeadingZeros_0f7a4_19 ?_
    refine g_icmp_lt (tgt := 33) B dJ6_numberOfLeadingZeros_0f7a4_22 (by decide) (fun c22_2724 => ?_) (fun c22_2724 => ?_)
    · have hn_2725 : a < 65536 := (nI_ltI (a := a) (b := 65536) (by omega) (by omega)).mp c22_2724
      refine g_iload_n B dJ6_numberOfLeadingZeros_0f7a4_33 rfl 1 rfl ?_
      refine g_sipush (v := 256) B dJ6_numberOfLeadingZeros_0f7a4_34 (by decide) ?_
      refine g_icmp_lt (tgt := 48) B dJ6_numberOfLeadingZeros_0f7a4_37 (by decide) (fun c37_2727 => ?_) (fun c37_2727 => ?_)
      · have hn_2728 : a < 256 := (nI_ltI (a := a) (b := 256) (by omega) (by omega)).mp c37_2727
        refine g_iload_n B dJ6_numberOfLeadingZeros_0f7a4_48 rfl 1 rfl ?_
        refine g_bipush (v := 16) B dJ6_numberOfLeadingZeros_0f7a4_49 (by decide) ?_
        refine g_icmp_lt (tgt := 61) B dJ6_numberOfLeadingZeros_0f7a4_51 (by decide) (fun c51_2730 => ?_) (fun c51_2730 => ?_)
        · have hn_2731 : a < 16 := (nI_ltI (a := a) (b := 16) (by omega) (by omega)).mp c51_2730
          refine g_iload_n B dJ6_numberOfLeadingZeros_0f7a4_61 rfl 1 rfl ?_
          refine g_iconst (v := 4) B dJ6_numberOfLeadingZeros_0f7a4_62 (by decide) ?_
          refine g_icmp_lt (tgt := 73) B dJ6_numberOfLeadingZeros_0f7a4_63 (by decide) (fun c63_2733 => ?_) (fun c63_2733 => ?_)
          · have hn_2734 : a < 4 := (nI_ltI (a := a) (b := 4) (by omega) (by omega)).mp c63_2733
            refine g_iload_n B dJ6_numberOfLeadingZeros_0f7a4_73 rfl 0 rfl ?_
            refine g_iload_n B dJ6_numberOfLeadingZeros_0f7a4_74 rfl 1 rfl ?_
            refine g_iconst (v := 1) B dJ6_numberOfLeadingZeros_0f7a4_75 (by decide) ?_
            refine g_iushr B dJ6_numberOfLeadingZeros_0f7a4_76 ?_
            refine g_ri (x' := nI (a / 2)) (pk_ushrN (n := a) (by omega) 1 1 (by decide)) ?_
            refine g_isub B dJ6_numberOfLeadingZeros_0f7a4_77 ?_
            refine g_ri (x' := nI (31 - (a / 2))) (pk_sub (a := 31) (b := (a / 2)) (by omega)) ?_
            exact g_iret B hr dJ6_numberOfLeadingZeros_0f7a4_78 (by decide) (by decide) ⟨(31 - (a / 2)), (by first | assumption | omega | decide | exact hCF _ (by omega)), (by first | assumption | omega | decide | exact hCF _ (by omega)), (by first | assumption | omega | decide | exact hCF _ (by omega)), (by first | assumption | omega | decide | exact hCF _ (by omega)), rfl, rfl⟩
          · have hn_2735 : 4 ≤ a := Nat.not_lt.mp (fun q => c63_2733 ((nI_ltI (a := a) (b := 4) (by omega) (by omega)).mpr q))
            refine g_iinc (v := 29) (lv' := [(1, .int 29), (0, .int (nI a))]) B dJ6_numberOfLeadingZeros_0f7a4_66 0 rfl (by decide) (by decide) rfl ?_
            refine g_iload_n B dJ6_numberOfLeadingZeros_0f7a4_69 rfl 1 rfl ?_
            refine g_iconst (v := 2) B dJ6_numberOfLeadingZeros_0f7a4_70 (by decide) ?_
            refine g_iushr B dJ6_numberOfLeadingZeros_0f7a4_71 ?_
            refine g_ri (x' := nI (a / 4)) (pk_ushrN (n := a) (by omega) 2 2 (by decide)) ?_
            refine g_istore_n (lv' := [(0, .int (nI (a / 4))), (1, .int 29)]) B dJ6_numberOfLeadingZeros_0f7a4_72 rfl (by decide) rfl ?_
            refine g_iload_n B dJ6_numberOfLeadingZeros_0f7a4_73 rfl 1 rfl ?_
            refine g_iload_n B dJ6_numberOfLeadingZeros_0f7a4_74 rfl 0 rfl ?_
            refine g_iconst (v := 1) B dJ6_numberOfLeadingZeros_0f7a4_75 (by decide) ?_
            refine g_iushr B dJ6_numberOfLeadingZeros_0f7a4_76 ?_
            refine g_ri (x' := nI ((a / 4) / 2)) (pk_ushrN (n := (a / 4)) (by omega) 1 1 (by decide)) ?_
            refine g_isub B dJ6_numberOfLeadingZeros_0f7a4_77 ?_
            refine g_ri (x' := nI (29 - ((a / 4) / 2))) (pk_sub (a := 29) (b := ((a / 4) / 2)) (by omega)) ?_
            exact g_iret B hr dJ6_numberOfLeadingZeros_0f7a4_78 (by decide) (by decide) ⟨(29 - ((a / 4) / 2)), (by first | assumption | omega | decide | exact hCF _ (by omega)), (by first | assumption | omega | decide | exact hCF _ (by omega)), (by first | assumption | omega | decide | exact hCF _ (by omega)), (by first | assumption | omega | decide | exact hCF _ (by omega)), rfl, rfl⟩
        · have hn_2732 : 16 ≤ a := Nat.not_lt.mp (fun q => c51_2730 ((nI_ltI (a := a) (b := 16) (by omega) (by omega)).mpr q))
          refine g_iinc (v := 27) (lv' := [(1, .int 27), (0, .int (nI a))]) B dJ6_numberOfLeadingZeros_0f7a4_54 0 rfl (by decide) (by decide) rfl ?_
          refine g_iload_n B dJ6_numberOfLeadingZeros_0f7a4_57 rfl 1 rfl ?_
          refine g_iconst (v := 4) B dJ6_numberOfLeadingZeros_0f7a4_58 (by decide) ?_
          refine g_iushr B dJ6_numberOfLeadingZeros_0f7a4_59 ?_
          refine g_ri (x' := nI (a / 16)) (pk_ushrN (n := a) (by omega) 4 4 (by decide)) ?_
          refine g_istore_n (lv' := [(0, .int (nI (a / 16))), (1, .int 27)]) B dJ6_numberOfLeadingZeros_0f7a4_60 rfl (by decide) rfl ?_
          refine g_iload_n B dJ6_numberOfLeadingZeros_0f7a4_61 rfl 0 rfl ?_
          refine g_iconst (v := 4) B dJ6_numberOfLeadingZeros_0f7a4_62 (by decide) ?_
          refine g_icmp_lt (tgt := 73) B dJ6_numberOfLeadingZeros_0f7a4_63 (by decide) (fun c63_2736 => ?_) (fun c63_2736 => ?_)
          · have hn_2737 : (a / 16) < 4 := (nI_ltI (a := (a / 16)) (b := 4) (by omega) (by omega)).mp c63_2736
            refine g_iload_n B dJ6_numberOfLeadingZeros_0f7a4_73 rfl 1 rfl ?_
            refine g_iload_n B dJ6_numberOfLeadingZeros_0f7a4_74 rfl 0 rfl ?_
            refine g_iconst (v := 1) B dJ6_numberOfLeadingZeros_0f7a4_75 (by decide) ?_
            refine g_iushr B dJ6_numberOfLeadingZeros_0f7a4_76 ?_
            refine g_ri (x' := nI ((a / 16) / 2)) (pk_ushrN (n := (a / 16)) (by omega) 1 1 (by decide)) ?_
            refine g_isub B dJ6_numberOfLeadingZeros_0f7a4_77 ?_
            refine g_ri (x' := nI (27 - ((a / 16) / 2))) (pk_sub (a := 27) (b := ((a / 16) / 2)) (by omega)) ?_
            exact g_iret B hr dJ6_numberOfLeadingZeros_0f7a4_78 (by decide) (by decide) ⟨(27 - ((a / 16) / 2)), (by first | assumption | omega | decide | exact hCF _ (by omega)), (by first | assumption | omega | decide | exact hCF _ (by omega)), (by first | assumption | omega | decide | exact hCF _ (by omega)), (by first | assumption | omega | decide | exact hCF _ (by omega)), rfl, rfl⟩
          · have hn_2738 : 4 ≤ (a / 16) := Nat.not_lt.mp (fun q => c63_2736 ((nI_ltI (a := (a / 16)) (b := 4) (by omega) (by omega)).mpr q))
            refine g_iinc (v := 25) (lv' := [(1, .int 25), (0, .int (nI (a / 16)))]) B dJ6_numberOfLeadingZeros_0f7a4_66 1 rfl (by decide) (by decide) rfl ?_
            refine g_iload_n B dJ6_numberOfLeadingZeros_0f7a4_69 rfl 1 rfl ?_
            refine g_iconst (v := 2) B dJ6_numberOfLeadingZeros_0f7a4_70 (by decide) ?_
            refine g_iushr B dJ6_numberOfLeadingZeros_0f7a4_71 ?_
            refine g_ri (x' := nI ((a / 16) / 4)) (pk_ushrN (n := (a / 16)) (by omega) 2 2 (by decide)) ?_
            refine g_istore_n (lv' := [(0, .int (nI ((a / 16) / 4))), (1, .int 25)]) B dJ6_numberOfLeadingZeros_0f7a4_72 rfl (by decide) rfl ?_
            refine g_iload_n B dJ6_numberOfLeadingZeros_0f7a4_73 rfl 1 rfl ?_
            refine g_iload_n B dJ6_numberOfLeadingZeros_0f7a4_74 rfl 0 rfl ?_
            refine g_iconst (v := 1) B dJ6_numberOfLeadingZeros_0f7a4_75 (by decide) ?_
            refine g_iushr B dJ6_numberOfLeadingZeros_0f7a4_76 ?_
            refine g_ri (x' := nI (((a / 16) / 4) / 2)) (pk_ushrN (n := ((a / 16) / 4)) (by omega) 1 1 (by decide)) ?_
            refine g_isub B dJ6_numberOfLeadingZeros_0f7a4_77 ?_
            refine g_ri (x' := nI (25 - (((a / 16) / 4) / 2))) (pk_sub (a := 25) (b := (((a / 16) / 4) / 2)) (by omega)) ?_
            exact g_iret B hr dJ6_numberOfLeadingZeros_0f7a4_78 (by decide) (by decide) ⟨(25 - (((a / 16) / 4) / 2)), (by first | assumption | omega | decide | exact hCF _ (by omega)), (by first | assumption | omega | decide | exact hCF _ (by omega)), (by first | assumption | omega | decide | exact hCF _ (by omega)), (by first | assumption | omega | decide | exact hCF _ (by omega)), rfl, rfl⟩
      · have hn_2729 : 256 ≤ a := Nat.not_lt.mp (fun q => c37_2727 ((nI_ltI (a := a) (b := 256) (by omega) (by omega)).mpr q))
        refine g_iinc (v := 23) (lv' := [(1, .int 23), (0, .int (nI a))]) B dJ6_numberOfLeadingZeros_0f7a4_40 0 rfl (by decide) (by decide) rfl ?_
        refine g_iload_n B dJ6_numberOfLeadingZeros_0f7a4_43 rfl 1 rfl ?_
        refine g_bipush (v := 8) B dJ6_numberOfLeadingZeros_0f7a4_44 (by decide) ?_
        refine g_iushr B dJ6_numberOfLeadingZeros_0f7a4_46 ?_
        refine g_ri (x' := nI (a / 256)) (pk_ushrN (n := a) (by omega) 8 8 (by decide)) ?_
        refine g_istore_n (lv' := [(0, .int (nI (a / 256))), (1, .int 23)]) B dJ6_numberOfLeadingZeros_0f7a4_47 rfl (by decide) rfl ?_
        refine g_iload_n B dJ6_numberOfLeadingZeros_0f7a4_48 rfl 0 rfl ?_
        refine g_bipush (v := 16) B dJ6_numberOfLeadingZeros_0f7a4_49 (by decide) ?_
        refine g_icmp_lt (tgt := 61) B dJ6_numberOfLeadingZeros_0f7a4_51 (by decide) (fun c51_2739 => ?_) (fun c51_2739 => ?_)
        · have hn_2740 : (a / 256) < 16 := (nI_ltI (a := (a / 256)) (b := 16) (by omega) (by omega)).mp c51_2739
          refine g_iload_n B dJ6_numberOfLeadingZeros_0f7a4_61 rfl 0 rfl ?_
          refine g_iconst (v := 4) B dJ6_numberOfLeadingZeros_0f7a4_62 (by decide) ?_
          refine g_icmp_lt (tgt := 73) B dJ6_numberOfLeadingZeros_0f7a4_63 (by decide) (fun c63_2742 => ?_) (fun c63_2742 => ?_)
          · have hn_2743 : (a / 256) < 4 := (nI_ltI (a := (a / 256)) (b := 4) (by omega) (by omega)).mp c63_2742
            refine g_iload_n B dJ6_numberOfLeadingZeros_0f7a4_73 rfl 1 rfl ?_
            refine g_iload_n B dJ6_numberOfLeadingZeros_0f7a4_74 rfl 0 rfl ?_
            refine g_iconst (v := 1) B dJ6_numberOfLeadingZeros_0f7a4_75 (by decide) ?_
            refine g_iushr B dJ6_numberOfLeadingZeros_0f7a4_76 ?_
            refine g_ri (x' := nI ((a / 256) / 2)) (pk_ushrN (n := (a / 256)) (by omega) 1 1 (by decide)) ?_
            refine g_isub B dJ6_numberOfLeadingZeros_0f7a4_77 ?_
            refine g_ri (x' := nI (23 - ((a / 256) / 2))) (pk_sub (a := 23) (b := ((a / 256) / 2)) (by omega)) ?_
            exact g_iret B hr dJ6_numberOfLeadingZeros_0f7a4_78 (by decide) (by decide) ⟨(23 - ((a / 256) / 2)), (by first | assumption | omega | decide | exact hCF _ (by omega)), (by first | assumption | omega | decide | exact hCF _ (by omega)), (by first | assumption | omega | decide | exact hCF _ (by omega)), (by first | assumption | omega | decide | exact hCF _ (by omega)), rfl, rfl⟩
          · have hn_2744 : 4 ≤ (a / 256) := Nat.not_lt.mp (fun q => c63_2742 ((nI_ltI (a := (a / 256)) (b := 4) (by omega) (by omega)).mpr q))
            refine g_iinc (v := 21) (lv' := [(1, .int 21), (0, .int (nI (a / 256)))]) B dJ6_numberOfLeadingZeros_0f7a4_66 1 rfl (by decide) (by decide) rfl ?_
            refine g_iload_n B dJ6_numberOfLeadingZeros_0f7a4_69 rfl 1 rfl ?_
            refine g_iconst (v := 2) B dJ6_numberOfLeadingZeros_0f7a4_70 (by decide) ?_
            refine g_iushr B dJ6_numberOfLeadingZeros_0f7a4_71 ?_
            refine g_ri (x' := nI ((a / 256) / 4)) (pk_ushrN (n := (a / 256)) (by omega) 2 2 (by decide)) ?_
            refine g_istore_n (lv' := [(0, .int (nI ((a / 256) / 4))), (1, .int 21)]) B dJ6_numberOfLeadingZeros_0f7a4_72 rfl (by decide) rfl ?_
            refine g_iload_n B dJ6_numberOfLeadingZeros_0f7a4_73 rfl 1 rfl ?_
            refine g_iload_n B dJ6_numberOfLeadingZeros_0f7a4_74 rfl 0 rfl ?_
            refine g_iconst (v := 1) B dJ6_numberOfLeadingZeros_0f7a4_75 (by decide) ?_
            refine g_iushr B dJ6_numberOfLeadingZeros_0f7a4_76 ?_
            refine g_ri (x' := nI (((a / 256) / 4) / 2)) (pk_ushrN (n := ((a / 256) / 4)) (by omega) 1 1 (by decide)) ?_
            refine g_isub B dJ6_numberOfLeadingZeros_0f7a4_77 ?_
            refine g_ri (x' := nI (21 - (((a / 256) / 4) / 2))) (pk_sub (a := 21) (b := (((a / 256) / 4) / 2)) (by omega)) ?_
            exact g_iret B hr dJ6_numberOfLeadingZeros_0f7a4_78 (by decide) (by decide) ⟨(21 - (((a / 256) / 4) / 2)), (by first | assumption | omega | decide | exact hCF _ (by omega)), (by first | assumption | omega | decide | exact hCF _ (by omega)), (by first | assumption | omega | decide | exact hCF _ (by omega)), (by first | assumption | omega | decide | exact hCF _ (by omega)), rfl, rfl⟩
        · have hn_2741 : 16 ≤ (a / 256) := Nat.not_lt.mp (fun q => c51_2739 ((nI_ltI (a := (a / 256)) (b := 16) (by omega) (by omega)).mpr q))
          refine g_iinc (v := 19) (lv' := [(1, .int 19), (0, .int (nI (a / 256)))]) B dJ6_numberOfLeadingZeros_0f7a4_54 1 rfl (by decide) (by decide) rfl ?_
          refine g_iload_n B dJ6_numberOfLeadingZeros_0f7a4_57 rfl 1 rfl ?_
          refine g_iconst (v := 4) B dJ6_numberOfLeadingZeros_0f7a4_58 (by decide) ?_
          refine g_iushr B dJ6_numberOfLeadingZeros_0f7a4_59 ?_
          refine g_ri (x' := nI ((a / 256) / 16)) (pk_ushrN (n := (a / 256)) (by omega) 4 4 (by decide)) ?_
          refine g_istore_n (lv' := [(0, .int (nI ((a / 256) / 16))), (1, .int 19)]) B dJ6_numberOfLeadingZeros_0f7a4_60 rfl (by decide) rfl ?_
          refine g_iload_n B dJ6_numberOfLeadingZeros_0f7a4_61 rfl 0 rfl ?_
          refine g_iconst (v := 4) B dJ6_numberOfLeadingZeros_0f7a4_62 (by decide) ?_
          refine g_icmp_lt (tgt := 73) B dJ6_numberOfLeadingZeros_0f7a4_63 (by decide) (fun c63_2745 => ?_) (fun c63_2745 => ?_)
          · have hn_2746 : ((a / 256) / 16) < 4 := (nI_ltI (a := ((a / 256) / 16)) (b := 4) (by omega) (by omega)).mp c63_2745
            refine g_iload_n B dJ6_numberOfLeadingZeros_0f7a4_73 rfl 1 rfl ?_
            refine g_iload_n B dJ6_numberOfLeadingZeros_0f7a4_74 rfl 0 rfl ?_
            refine g_iconst (v := 1) B dJ6_numberOfLeadingZeros_0f7a4_75 (by decide) ?_
            refine g_iushr B dJ6_numberOfLeadingZeros_0f7a4_76 ?_
            refine g_ri (x' := nI (((a / 256) / 16) / 2)) (pk_ushrN (n := ((a / 256) / 16)) (by omega) 1 1 (by decide)) ?_
            refine g_isub B dJ6_numberOfLeadingZeros_0f7a4_77 ?_
            refine g_ri (x' := nI (19 - (((a / 256) / 16) / 2))) (pk_sub (a := 19) (b := (((a / 256) / 16) / 2)) (by omega)) ?_
            exact g_iret B hr dJ6_numberOfLeadingZeros_0f7a4_78 (by decide) (by decide) ⟨(19 - (((a / 256) / 16) / 2)), (by first | assumption | omega | decide | exact hCF _ (by omega)), (by first | assumption | omega | decide | exact hCF _ (by omega)), (by first | assumption | omega | decide | exact hCF _ (by omega)), (by first | assumption | omega | decide | exact hCF _ (by omega)), rfl, rfl⟩
          · have hn_2747 : 4 ≤ ((a / 256) / 16) := Nat.not_lt.mp (fun q => c63_2745 ((nI_ltI (a := ((a / 256) / 16)) (b := 4) (by omega) (by omega)).mpr q))
            refine g_iinc (v := 17) (lv' := [(1, .int 17), (0, .int (nI ((a / 256) / 16)))]) B dJ6_numberOfLeadingZeros_0f7a4_66 1 rfl (by decide) (by decide) rfl ?_
            refine g_iload_n B dJ6_numberOfLeadingZeros_0f7a4_69 rfl 1 rfl ?_
            refine g_iconst (v := 2) B dJ6_numberOfLeadingZeros_0f7a4_70 (by decide) ?_
            refine g_iushr B dJ6_numberOfLeadingZeros_0f7a4_71 ?_
            refine g_ri (x' := nI (((a / 256) / 16) / 4)) (pk_ushrN (n := ((a / 256) / 16)) (by omega) 2 2 (by decide)) ?_
            refine g_istore_n (lv' := [(0, .int (nI (((a / 256) / 16) / 4))), (1, .int 17)]) B dJ6_numberOfLeadingZeros_0f7a4_72 rfl (by decide) rfl ?_
            refine g_iload_n B dJ6_numberOfLeadingZeros_0f7a4_73 rfl 1 rfl ?_
            refine g_iload_n B dJ6_numberOfLeadingZeros_0f7a4_74 rfl 0 rfl ?_
            refine g_iconst (v := 1) B dJ6_numberOfLeadingZeros_0f7a4_75 (by decide) ?_
            refine g_iushr B dJ6_numberOfLeadingZeros_0f7a4_76 ?_
            refine g_ri (x' := nI ((((a / 256) / 16) / 4) / 2)) (pk_ushrN (n := (((a / 256) / 16) / 4)) (by omega) 1 1 (by decide)) ?_
            refine g_isub B dJ6_numberOfLeadingZeros_0f7a4_77 ?_
            refine g_ri (x' := nI (17 - ((((a / 256) / 16) / 4) / 2))) (pk_sub (a := 17) (b := ((((a / 256) / 16) / 4) / 2)) (by omega)) ?_
            exact g_iret B hr dJ6_numberOfLeadingZeros_0f7a4_78 (by decide) (by decide) ⟨(17 - ((((a / 256) / 16) / 4) / 2)), (by first | assumption | omega | decide | exact hCF _ (by omega)), (by first | assumption | omega | decide | exact hCF _ (by omega)), (by first | assumption | omega | decide | exact hCF _ (by omega)), (by first | assumption | omega | decide | exact hCF _ (by omega)), rfl, rfl⟩
    · have hn_2726 : 65536 ≤ a := Nat.not_lt.mp (fun q => c22_2724 ((nI_ltI (a := a) (b := 65536) (by omega) (by omega)).mpr q))
      refine g_iinc (v := 15) (lv' := [(1, .int 15), (0, .int (nI a))]) B dJ6_numberOfLeadingZeros_0f7a4_25 0 rfl (by decide) (by decide) rfl ?_
      refine g_iload_n B dJ6_numberOfLeadingZeros_0f7a4_28 rfl 1 rfl ?_
      refine g_bipush (v := 16) B dJ6_numberOfLeadingZeros_0f7a4_29 (by decide) ?_
      refine g_iushr B dJ6_numberOfLeadingZeros_0f7a4_31 ?_
      refine g_ri (x' := nI (a / 65536)) (pk_ushrN (n := a) (by omega) 16 16 (by decide)) ?_
      refine g_istore_n (lv' := [(0, .int (nI (a / 65536))), (1, .int 15)]) B dJ6_numberOfLeadingZeros_0f7a4_32 rfl (by decide) rfl ?_
      refine g_iload_n B dJ6_numberOfLeadingZeros_0f7a4_33 rfl 0 rfl ?_
      refine g_sipush (v := 256) B dJ6_numberOfLeadingZeros_0f7a4_34 (by decide) ?_
      refine g_icmp_lt (tgt := 48) B dJ6_numberOfLeadingZeros_0f7a4_37 (by decide) (fun c37_2748 => ?_) (fun c37_2748 => ?_)
      · have hn_2749 : (a / 65536) < 256 := (nI_ltI (a := (a / 65536)) (b := 256) (by omega) (by omega)).mp c37_2748
        refine g_iload_n B dJ6_numberOfLeadingZeros_0f7a4_48 rfl 0 rfl ?_
        refine g_bipush (v := 16) B dJ6_numberOfLeadingZeros_0f7a4_49 (by decide) ?_
        refine g_icmp_lt (tgt := 61) B dJ6_numberOfLeadingZeros_0f7a4_51 (by decide) (fun c51_2751 => ?_) (fun c51_2751 => ?_)
        · have hn_2752 : (a / 65536) < 16 := (nI_ltI (a := (a / 65536)) (b := 16) (by omega) (by omega)).mp c51_2751
          refine g_iload_n B dJ6_numberOfLeadingZeros_0f7a4_61 rfl 0 rfl ?_
          refine g_iconst (v := 4) B dJ6_numberOfLeadingZeros_0f7a4_62 (by decide) ?_
          refine g_icmp_lt (tgt := 73) B dJ6_numberOfLeadingZeros_0f7a4_63 (by decide) (fun c63_2754 => ?_) (fun c63_2754 => ?_)
          · have hn_2755 : (a / 65536) < 4 := (nI_ltI (a := (a / 65536)) (b := 4) (by omega) (by omega)).mp c63_2754
            refine g_iload_n B dJ6_numberOfLeadingZeros_0f7a4_73 rfl 1 rfl ?_
            refine g_iload_n B dJ6_numberOfLeadingZeros_0f7a4_74 rfl 0 rfl ?_
            refine g_iconst (v := 1) B dJ6_numberOfLeadingZeros_0f7a4_75 (by decide) ?_
            refine g_iushr B dJ6_numberOfLeadingZeros_0f7a4_76 ?_
            refine g_ri (x' := nI ((a / 65536) / 2)) (pk_ushrN (n := (a / 65536)) (by omega) 1 1 (by decide)) ?_
            refine g_isub B dJ6_numberOfLeadingZeros_0f7a4_77 ?_
            refine g_ri (x' := nI (15 - ((a / 65536) / 2))) (pk_sub (a := 15) (b := ((a / 65536) / 2)) (by omega)) ?_
            exact g_iret B hr dJ6_numberOfLeadingZeros_0f7a4_78 (by decide) (by decide) ⟨(15 - ((a / 65536) / 2)), (by first | assumption | omega | decide | exact hCF _ (by omega)), (by first | assumption | omega | decide | exact hCF _ (by omega)), (by first | assumption | omega | decide | exact hCF _ (by omega)), (by first | assumption | omega | decide | exact hCF _ (by omega)), rfl, rfl⟩
          · have hn_2756 : 4 ≤ (a / 65536) := Nat.not_lt.mp (fun q => c63_2754 ((nI_ltI (a := (a / 65536)) (b := 4) (by omega) (by omega)).mpr q))
            refine g_iinc (v := 13) (lv' := [(1, .int 13), (0, .int (nI (a / 65536)))]) B dJ6_numberOfLeadingZeros_0f7a4_66 1 rfl (by decide) (by decide) rfl ?_
            refine g_iload_n B dJ6_numberOfLeadingZeros_0f7a4_69 rfl 1 rfl ?_
            refine g_iconst (v := 2) B dJ6_numberOfLeadingZeros_0f7a4_70 (by decide) ?_
            refine g_iushr B dJ6_numberOfLeadingZeros_0f7a4_71 ?_
            refine g_ri (x' := nI ((a / 65536) / 4)) (pk_ushrN (n := (a / 65536)) (by omega) 2 2 (by decide)) ?_
            refine g_istore_n (lv' := [(0, .int (nI ((a / 65536) / 4))), (1, .int 13)]) B dJ6_numberOfLeadingZeros_0f7a4_72 rfl (by decide) rfl ?_
            refine g_iload_n B dJ6_numberOfLeadingZeros_0f7a4_73 rfl 1 rfl ?_
            refine g_iload_n B dJ6_numberOfLeadingZeros_0f7a4_74 rfl 0 rfl ?_
            refine g_iconst (v := 1) B dJ6_numberOfLeadingZeros_0f7a4_75 (by decide) ?_
            refine g_iushr B dJ6_numberOfLeadingZeros_0f7a4_76 ?_
            refine g_ri (x' := nI (((a / 65536) / 4) / 2)) (pk_ushrN (n := ((a / 65536) / 4)) (by omega) 1 1 (by decide)) ?_
            refine g_isub B dJ6_numberOfLeadingZeros_0f7a4_77 ?_
            refine g_ri (x' := nI (13 - (((a / 65536) / 4) / 2))) (pk_sub (a := 13) (b := (((a / 65536) / 4) / 2)) (by omega)) ?_
            exact g_iret B hr dJ6_numberOfLeadingZeros_0f7a4_78 (by decide) (by decide) ⟨(13 - (((a / 65536) / 4) / 2)), (by first | assumption | omega | decide | exact hCF _ (by omega)), (by first | assumption | omega | decide | exact hCF _ (by omega)), (by first | assumption | omega | decide | exact hCF _ (by omega)), (by first | assumption | omega | decide | exact hCF _ (by omega)), rfl, rfl⟩
        · have hn_2753 : 16 ≤ (a / 65536) := Nat.not_lt.mp (fun q => c51_2751 ((nI_ltI (a := (a / 65536)) (b := 16) (by omega) (by omega)).mpr q))
          refine g_iinc (v := 11) (lv' := [(1, .int 11), (0, .int (nI (a / 65536)))]) B dJ6_numberOfLeadingZeros_0f7a4_54 1 rfl (by decide) (by decide) rfl ?_
          refine g_iload_n B dJ6_numberOfLeadingZeros_0f7a4_57 rfl 1 rfl ?_
          refine g_iconst (v := 4) B dJ6_numberOfLeadingZeros_0f7a4_58 (by decide) ?_
          refine g_iushr B dJ6_numberOfLeadingZeros_0f7a4_59 ?_
          refine g_ri (x' := nI ((a / 65536) / 16)) (pk_ushrN (n := (a / 65536)) (by omega) 4 4 (by decide)) ?_
          refine g_istore_n (lv' := [(0, .int (nI ((a / 65536) / 16))), (1, .int 11)]) B dJ6_numberOfLeadingZeros_0f7a4_60 rfl (by decide) rfl ?_
          refine g_iload_n B dJ6_numberOfLeadingZeros_0f7a4_61 rfl 0 rfl ?_
          refine g_iconst (v := 4) B dJ6_numberOfLeadingZeros_0f7a4_62 (by decide) ?_
          refine g_icmp_lt (tgt := 73) B dJ6_numberOfLeadingZeros_0f7a4_63 (by decide) (fun c63_2757 => ?_) (fun c63_2757 => ?_)
          · have hn_2758 : ((a / 65536) / 16) < 4 := (nI_ltI (a := ((a / 65536) / 16)) (b := 4) (by omega) (by omega)).mp c63_2757
            refine g_iload_n B dJ6_numberOfLeadingZeros_0f7a4_73 rfl 1 rfl ?_
            refine g_iload_n B dJ6_numberOfLeadingZeros_0f7a4_74 rfl 0 rfl ?_
            refine g_iconst (v := 1) B dJ6_numberOfLeadingZeros_0f7a4_75 (by decide) ?_
            refine g_iushr B dJ6_numberOfLeadingZeros_0f7a4_76 ?_
            refine g_ri (x' := nI (((a / 65536) / 16) / 2)) (pk_ushrN (n := ((a / 65536) / 16)) (by omega) 1 1 (by decide)) ?_
            refine g_isub B dJ6_numberOfLeadingZeros_0f7a4_77 ?_
            refine g_ri (x' := nI (11 - (((a / 65536) / 16) / 2))) (pk_sub (a := 11) (b := (((a / 65536) / 16) / 2)) (by omega)) ?_
            exact g_iret B hr dJ6_numberOfLeadingZeros_0f7a4_78 (by decide) (by decide) ⟨(11 - (((a / 65536) / 16) / 2)), (by first | assumption | omega | decide | exact hCF _ (by omega)), (by first | assumption | omega | decide | exact hCF _ (by omega)), (by first | assumption | omega | decide | exact hCF _ (by omega)), (by first | assumption | omega | decide | exact hCF _ (by omega)), rfl, rfl⟩
          · have hn_2759 : 4 ≤ ((a / 65536) / 16) := Nat.not_lt.mp (fun q => c63_2757 ((nI_ltI (a := ((a / 65536) / 16)) (b := 4) (by omega) (by omega)).mpr q))
            refine g_iinc (v := 9) (lv' := [(1, .int 9), (0, .int (nI ((a / 65536) / 16)))]) B dJ6_numberOfLeadingZeros_0f7a4_66 1 rfl (by decide) (by decide) rfl ?_
            refine g_iload_n B dJ6_numberOfLeadingZeros_0f7a4_69 rfl 1 rfl ?_
            refine g_iconst (v := 2) B dJ6_numberOfLeadingZeros_0f7a4_70 (by decide) ?_
            refine g_iushr B dJ6_numberOfLeadingZeros_0f7a4_71 ?_
            refine g_ri (x' := nI (((a / 65536) / 16) / 4)) (pk_ushrN (n := ((a / 65536) / 16)) (by omega) 2 2 (by decide)) ?_
            refine g_istore_n (lv' := [(0, .int (nI (((a / 65536) / 16) / 4))), (1, .int 9)]) B dJ6_numberOfLeadingZeros_0f7a4_72 rfl (by decide) rfl ?_
            refine g_iload_n B dJ6_numberOfLeadingZeros_0f7a4_73 rfl 1 rfl ?_
            refine g_iload_n B dJ6_numberOfLeadingZeros_0f7a4_74 rfl 0 rfl ?_
            refine g_iconst (v := 1) B dJ6_numberOfLeadingZeros_0f7a4_75 (by decide) ?_
            refine g_iushr B dJ6_numberOfLeadingZeros_0f7a4_76 ?_
            refine g_ri (x' := nI ((((a / 65536) / 16) / 4) / 2)) (pk_ushrN (n := (((a / 65536) / 16) / 4)) (by omega) 1 1 (by decide)) ?_
            refine g_isub B dJ6_numberOfLeadingZeros_0f7a4_77 ?_
            refine g_ri (x' := nI (9 - ((((a / 65536) / 16) / 4) / 2))) (pk_sub (a := 9) (b := ((((a / 65536) / 16) / 4) / 2)) (by omega)) ?_
            exact g_iret B hr dJ6_numberOfLeadingZeros_0f7a4_78 (by decide) (by decide) ⟨(9 - ((((a / 65536) / 16) / 4) / 2)), (by first | assumption | omega | decide | exact hCF _ (by omega)), (by first | assumption | omega | decide | exact hCF _ (by omega)), (by first | assumption | omega | decide | exact hCF _ (by omega)), (by first | assumption | omega | decide | exact hCF _ (by omega)), rfl, rfl⟩
      · have hn_2750 : 256 ≤ (a / 65536) := Nat.not_lt.mp (fun q => c37_2748 ((nI_ltI (a := (a / 65536)) (b := 256) (by omega) (by omega)).mpr q))
        refine g_iinc (v := 7) (lv' := [(1, .int 7), (0, .int (nI (a / 65536)))]) B dJ6_numberOfLeadingZeros_0f7a4_40 1 rfl (by decide) (by decide) rfl ?_
        refine g_iload_n B dJ6_numberOfLeadingZeros_0f7a4_43 rfl 1 rfl ?_
        refine g_bipush (v := 8) B dJ6_numberOfLeadingZeros_0f7a4_44 (by decide) ?_
        refine g_iushr B dJ6_numberOfLeadingZeros_0f7a4_46 ?_
        refine g_ri (x' := nI ((a / 65536) / 256)) (pk_ushrN (n := (a / 65536)) (by omega) 8 8 (by decide)) ?_
        refine g_istore_n (lv' := [(0, .int (nI ((a / 65536) / 256))), (1, .int 7)]) B dJ6_numberOfLeadingZeros_0f7a4_47 rfl (by decide) rfl ?_
        refine g_iload_n B dJ6_numberOfLeadingZeros_0f7a4_48 rfl 0 rfl ?_
        refine g_bipush (v := 16) B dJ6_numberOfLeadingZeros_0f7a4_49 (by decide) ?_
        refine g_icmp_lt (tgt := 61) B dJ6_numberOfLeadingZeros_0f7a4_51 (by decide) (fun c51_2760 => ?_) (fun c51_2760 => ?_)
        · have hn_2761 : ((a / 65536) / 256) < 16 := (nI_ltI (a := ((a / 65536) / 256)) (b := 16) (by omega) (by omega)).mp c51_2760
          refine g_iload_n B dJ6_numberOfLeadingZeros_0f7a4_61 rfl 0 rfl ?_
          refine g_iconst (v := 4) B dJ6_numberOfLeadingZeros_0f7a4_62 (by decide) ?_
          refine g_icmp_lt (tgt := 73) B dJ6_numberOfLeadingZeros_0f7a4_63 (by decide) (fun c63_2763 => ?_) (fun c63_2763 => ?_)
          · have hn_2764 : ((a / 65536) / 256) < 4 := (nI_ltI (a := ((a / 65536) / 256)) (b := 4) (by omega) (by omega)).mp c63_2763
            refine g_iload_n B dJ6_numberOfLeadingZeros_0f7a4_73 rfl 1 rfl ?_
            refine g_iload_n B dJ6_numberOfLeadingZeros_0f7a4_74 rfl 0 rfl ?_
            refine g_iconst (v := 1) B dJ6_numberOfLeadingZeros_0f7a4_75 (by decide) ?_
            refine g_iushr B dJ6_numberOfLeadingZeros_0f7a4_76 ?_
            refine g_ri (x' := nI (((a / 65536) / 256) / 2)) (pk_ushrN (n := ((a / 65536) / 256)) (by omega) 1 1 (by decide)) ?_
            refine g_isub B dJ6_numberOfLeadingZeros_0f7a4_77 ?_
            refine g_ri (x' := nI (7 - (((a / 65536) / 256) / 2))) (pk_sub (a := 7) (b := (((a / 65536) / 256) / 2)) (by omega)) ?_
            exact g_iret B hr dJ6_numberOfLeadingZeros_0f7a4_78 (by decide) (by decide) ⟨(7 - (((a / 65536) / 256) / 2)), (by first | assumption | omega | decide | exact hCF _ (by omega)), (by first | assumption | omega | decide | exact hCF _ (by omega)), (by first | assumption | omega | decide | exact hCF _ (by omega)), (by first | assumption | omega | decide | exact hCF _ (by omega)), rfl, rfl⟩
          · have hn_2765 : 4 ≤ ((a / 65536) / 256) := Nat.not_lt.mp (fun q => c63_2763 ((nI_ltI (a := ((a / 65536) / 256)) (b := 4) (by omega) (by omega)).mpr q))
            refine g_iinc (v := 5) (lv' := [(1, .int 5), (0, .int (nI ((a / 65536) / 256)))]) B dJ6_numberOfLeadingZeros_0f7a4_66 1 rfl (by decide) (by decide) rfl ?_
            refine g_iload_n B dJ6_numberOfLeadingZeros_0f7a4_69 rfl 1 rfl ?_
            refine g_iconst (v := 2) B dJ6_numberOfLeadingZeros_0f7a4_70 (by decide) ?_
            refine g_iushr B dJ6_numberOfLeadingZeros_0f7a4_71 ?_
            refine g_ri (x' := nI (((a / 65536) / 256) / 4)) (pk_ushrN (n := ((a / 65536) / 256)) (by omega) 2 2 (by decide)) ?_
            refine g_istore_n (lv' := [(0, .int (nI (((a / 65536) / 256) / 4))), (1, .int 5)]) B dJ6_numberOfLeadingZeros_0f7a4_72 rfl (by decide) rfl ?_
            refine g_iload_n B dJ6_numberOfLeadingZeros_0f7a4_73 rfl 1 rfl ?_
            refine g_iload_n B dJ6_numberOfLeadingZeros_0f7a4_74 rfl 0 rfl ?_
            refine g_iconst (v := 1) B dJ6_numberOfLeadingZeros_0f7a4_75 (by decide) ?_
            refine g_iushr B dJ6_numberOfLeadingZeros_0f7a4_76 ?_
            refine g_ri (x' := nI ((((a / 65536) / 256) / 4) / 2)) (pk_ushrN (n := (((a / 65536) / 256) / 4)) (by omega) 1 1 (by decide)) ?_
            refine g_isub B dJ6_numberOfLeadingZeros_0f7a4_77 ?_
            refine g_ri (x' := nI (5 - ((((a / 65536) / 256) / 4) / 2))) (pk_sub (a := 5) (b := ((((a / 65536) / 256) / 4) / 2)) (by omega)) ?_
            exact g_iret B hr dJ6_numberOfLeadingZeros_0f7a4_78 (by decide) (by decide) ⟨(5 - ((((a / 65536) / 256) / 4) / 2)), (by first | assumption | omega | decide | exact hCF _ (by omega)), (by first | assumption | omega | decide | exact hCF _ (by omega)), (by first | assumption | omega | decide | exact hCF _ (by omega)), (by first | assumption | omega | decide | exact hCF _ (by omega)), rfl, rfl⟩
        · have hn_2762 : 16 ≤ ((a / 65536) / 256) := Nat.not_lt.mp (fun q => c51_2760 ((nI_ltI (a := ((a / 65536) / 256)) (b := 16) (by omega) (by omega)).mpr q))
          refine g_iinc (v := 3) (lv' := [(1, .int 3), (0, .int (nI ((a / 65536) / 256)))]) B dJ6_numberOfLeadingZeros_0f7a4_54 1 rfl (by decide) (by decide) rfl ?_
          refine g_iload_n B dJ6_numberOfLeadingZeros_0f7a4_57 rfl 1 rfl ?_
          refine g_iconst (v := 4) B dJ6_numberOfLeadingZeros_0f7a4_58 (by decide) ?_
          refine g_iushr B dJ6_numberOfLeadingZeros_0f7a4_59 ?_
          refine g_ri (x' := nI (((a / 65536) / 256) / 16)) (pk_ushrN (n := ((a / 65536) / 256)) (by omega) 4 4 (by decide)) ?_
          refine g_istore_n (lv' := [(0, .int (nI (((a / 65536) / 256) / 16))), (1, .int 3)]) B dJ6_numberOfLeadingZeros_0f7a4_60 rfl (by decide) rfl ?_
          refine g_iload_n B dJ6_numberOfLeadingZeros_0f7a4_61 rfl 0 rfl ?_
          refine g_iconst (v := 4) B dJ6_numberOfLeadingZeros_0f7a4_62 (by decide) ?_
          refine g_icmp_lt (tgt := 73) B dJ6_numberOfLeadingZeros_0f7a4_63 (by decide) (fun c63_2766 => ?_) (fun c63_2766 => ?_)
          · have hn_2767 : (((a / 65536) / 256) / 16) < 4 := (nI_ltI (a := (((a / 65536) / 256) / 16)) (b := 4) (by omega) (by omega)).mp c63_2766
            refine g_iload_n B dJ6_numberOfLeadingZeros_0f7a4_73 rfl 1 rfl ?_
            refine g_iload_n B dJ6_numberOfLeadingZeros_0f7a4_74 rfl 0 rfl ?_
            refine g_iconst (v := 1) B dJ6_numberOfLeadingZeros_0f7a4_75 (by decide) ?_
            refine g_iushr B dJ6_numberOfLeadingZeros_0f7a4_76 ?_
            refine g_ri (x' := nI ((((a / 65536) / 256) / 16) / 2)) (pk_ushrN (n := (((a / 65536) / 256) / 16)) (by omega) 1 1 (by decide)) ?_
            refine g_isub B dJ6_numberOfLeadingZeros_0f7a4_77 ?_
            refine g_ri (x' := nI (3 - ((((a / 65536) / 256) / 16) / 2))) (pk_sub (a := 3) (b := ((((a / 65536) / 256) / 16) / 2)) (by omega)) ?_
            exact g_iret B hr dJ6_numberOfLeadingZeros_0f7a4_78 (by decide) (by decide) ⟨(3 - ((((a / 65536) / 256) / 16) / 2)), (by first | assumption | omega | decide | exact hCF _ (by omega)), (by first | assumption | omega | decide | exact hCF _ (by omega)), (by first | assumption | omega | decide | exact hCF _ (by omega)), (by first | assumption | omega | decide | exact hCF _ (by omega)), rfl, rfl⟩
          · have hn_2768 : 4 ≤ (((a / 65536) / 256) / 16) := Nat.not_lt.mp (fun q => c63_2766 ((nI_ltI (a := (((a / 65536) / 256) / 16)) (b := 4) (by omega) (by omega)).mpr q))
            refine g_iinc (v := 1) (lv' := [(1, .int 1), (0, .int (nI (((a / 65536) / 256) / 16)))]) B dJ6_numberOfLeadingZeros_0f7a4_66 1 rfl (by decide) (by decide) rfl ?_
            refine g_iload_n B dJ6_numberOfLeadingZeros_0f7a4_69 rfl 1 rfl ?_
            refine g_iconst (v := 2) B dJ6_numberOfLeadingZeros_0f7a4_70 (by decide) ?_
            refine g_iushr B dJ6_numberOfLeadingZeros_0f7a4_71 ?_
            refine g_ri (x' := nI ((((a / 65536) / 256) / 16) / 4)) (pk_ushrN (n := (((a / 65536) / 256) / 16)) (by omega) 2 2 (by decide)) ?_
            refine g_istore_n (lv' := [(0, .int (nI ((((a / 65536) / 256) / 16) / 4))), (1, .int 1)]) B dJ6_numberOfLeadingZeros_0f7a4_72 rfl (by decide) rfl ?_
            refine g_iload_n B dJ6_numberOfLeadingZeros_0f7a4_73 rfl 1 rfl ?_
            refine g_iload_n B dJ6_numberOfLeadingZeros_0f7a4_74 rfl 0 rfl ?_
            refine g_iconst (v := 1) B dJ6_numberOfLeadingZeros_0f7a4_75 (by decide) ?_
            refine g_iushr B dJ6_numberOfLeadingZeros_0f7a4_76 ?_
            refine g_ri (x' := nI (((((a / 65536) / 256) / 16) / 4) / 2)) (pk_ushrN (n := ((((a / 65536) / 256) / 16) / 4)) (by omega) 1 1 (by decide)) ?_
            refine g_isub B dJ6_numberOfLeadingZeros_0f7a4_77 ?_
            refine g_ri (x' := nI (1 - (((((a / 65536) / 256) / 16) / 4) / 2))) (pk_sub (a := 1) (b := (((((a / 65536) / 256) / 16) / 4) / 2)) (by omega)) ?_
            exact g_iret B hr dJ6_numberOfLeadingZeros_0f7a4_78 (by decide) (by decide) ⟨(1 - (((((a / 65536) / 256) / 16) / 4) / 2)), (by first | assumption | omega | decide | exact hCF _ (by omega)), (by first | assumption | omega | decide | exact hCF _ (by omega)), (by first | assumption | omega | decide | exact hCF _ (by omega)), (by first | assumption | omega | decide | exact hCF _ (by omega)), rfl, rfl⟩
  · have hn_2723 : a ≤ 0 := Nat.not_lt.mp (fun q => c1_2721 ((nI_ltI (a := 0) (b := a) (by omega) (by omega)).mpr q))
    refine g_iload_n B dJ6_numberOfLeadingZeros_0f7a4_4 rfl 0 rfl ?_
    refine g_if_ne (tgt := 13) B dJ6_numberOfLeadingZeros_0f7a4_5 (by decide) (fun c5_2769 => ?_) (fun c5_2769 => ?_)
    · have hn_2770 : ¬ a = 0 := fun q => c5_2769 ((nI_eq (a := a) (b := 0) (by omega) (by omega)).mpr q)
      refine g_iconst (v := 0) B dJ6_numberOfLeadingZeros_0f7a4_13 (by decide) ?_
      exact g_iret B hr dJ6_numberOfLeadingZeros_0f7a4_14 (by decide) (by decide) ⟨0, (by first | assumption | omega | decide | exact hCF _ (by omega)), (by first | assumption | omega | decide | exact hCF _ (by omega)), (by first | assumption | omega | decide | exact hCF _ (by omega)), (by first | assumption | omega | decide | exact hCF _ (by omega)), rfl, rfl⟩
    · have hn_2771 : a = 0 := (nI_eq (a := a) (b := 0) (by omega) (by omega)).mp c5_2769
      refine g_bipush (v := 32) B dJ6_numberOfLeadingZeros_0f7a4_8 (by decide) ?_
      refine g_goto (tgt := 14) B dJ6_numberOfLeadingZeros_0f7a4_10 (by decide) ?_
      exact g_iret B hr dJ6_numberOfLeadingZeros_0f7a4_14 (by decide) (by decide) ⟨32, (by first | assumption | omega | decide | exact hCF _ (by omega)), (by first | assumption | omega | decide | exact hCF _ (by omega)), (by first | assumption | omega | decide | exact hCF _ (by omega)), (by first | assumption | omega | decide | exact hCF _ (by omega)), rfl, rfl⟩
abbrev MJ13_numberOfLeadingZeros_95d88 : g_M := (yJ13_numberOfLeadingZeros_95d88, cJ13_numberOfLeadingZeros_95d88, 3, (some .int))
theorem dJ13_numberOfLeadingZeros_95d88_0 : decode cJ13_numberOfLeadingZeros_95d88 0 = .ok (.lload_n 0, 1) := by decide +kernel
theorem dJ13_numberOfLeadingZeros_95d88_1 : decode cJ13_numberOfLeadingZeros_95d88 1 = .ok (.bipush 32, 2) := by decide +kernel
theorem dJ13_numberOfLeadingZeros_95d88_3 : decode cJ13_numberOfLeadingZeros_95d88 3 = .ok (.lushr, 1) := by decide +kernel
theorem dJ13_numberOfLeadingZeros_95d88_4 : decode cJ13_numberOfLeadingZeros_95d88 4 = .ok (.l2i, 1) := by decide +kernel
theorem dJ13_numberOfLeadingZeros_95d88_5 : decode cJ13_numberOfLeadingZeros_95d88 5 = .ok (.istore_n 2, 1) := by decide +kernel
theorem dJ13_numberOfLeadingZeros_95d88_6 : decode cJ13_numberOfLeadingZeros_95d88 6 = .ok (.iload_n 2, 1) := by decide +kernel
theorem dJ13_numberOfLeadingZeros_95d88_7 : decode cJ13_numberOfLeadingZeros_95d88 7 = .ok (.ifCond .ne 14, 3) := by decide +kernel
theorem dJ13_numberOfLeadingZeros_95d88_21 : decode cJ13_numberOfLeadingZeros_95d88 21 = .ok (.iload_n 2, 1) := by decide +kernel
theorem dJ13_numberOfLeadingZeros_95d88_22 : decode cJ13_numberOfLeadingZeros_95d88 22 = .ok (.invokestatic 308, 3) := by decide +kernel
theorem w_ml_J13_308 : Cond.methodLink RJ13 308 yJ6_numberOfLeadingZeros_0f7a4 ∈ g_tbl := g_tbl_in 1110 (by decide +kernel) (by decide +kernel)
theorem w_cd_J6_numberOfLeadingZeros_0f7a4 : g_cw MJ6_numberOfLeadingZeros_0f7a4 ∈ g_tbl := g_tbl_in 1112 (by decide +kernel) (by decide +kernel)
theorem w_ini_J6 : Cond.initialized RJ6 ∈ g_tbl := g_tbl_in 82 (by decide +kernel) (by decide +kernel)
theorem cl_J13_308 : CL RJ13 308 1 MJ6_numberOfLeadingZeros_0f7a4 := ⟨w_ml_J13_308, w_cd_J6_numberOfLeadingZeros_0f7a4, w_ini_J6, by decide +kernel, by decide +kernel, by decide +kernel⟩
theorem w_sm_J6_numberOfLeadingZeros_0f7a4 : Cond.static yJ6_numberOfLeadingZeros_0f7a4 ∈ g_tbl := g_tbl_in 1111 (by decide +kernel) (by decide +kernel)
theorem dJ13_numberOfLeadingZeros_95d88_25 : decode cJ13_numberOfLeadingZeros_95d88 25 = .ok (.ireturn, 1) := by decide +kernel
theorem dJ13_numberOfLeadingZeros_95d88_10 : decode cJ13_numberOfLeadingZeros_95d88 10 = .ok (.bipush 32, 2) := by decide +kernel
theorem dJ13_numberOfLeadingZeros_95d88_12 : decode cJ13_numberOfLeadingZeros_95d88 12 = .ok (.lload_n 0, 1) := by decide +kernel
theorem dJ13_numberOfLeadingZeros_95d88_13 : decode cJ13_numberOfLeadingZeros_95d88 13 = .ok (.l2i, 1) := by decide +kernel
theorem dJ13_numberOfLeadingZeros_95d88_14 : decode cJ13_numberOfLeadingZeros_95d88 14 = .ok (.invokestatic 308, 3) := by decide +kernel
theorem dJ13_numberOfLeadingZeros_95d88_17 : decode cJ13_numberOfLeadingZeros_95d88 17 = .ok (.iadd, 1) := by decide +kernel
theorem dJ13_numberOfLeadingZeros_95d88_18 : decode cJ13_numberOfLeadingZeros_95d88 18 = .ok (.goto 7, 3) := by decide +kernel
set_option maxRecDepth 100000 in
set_option maxHeartbeats 4000000 in
theorem wr_nlz8_w (E : g_E) (x : Int64)  : Ev E MJ13_numberOfLeadingZeros_95d88 1 21 0 0 [.long x] [] (fun v_ w_ => ∃ zr : Nat, (zr ≤ 64) ∧ v_ = some (.int (nI zr)) ∧ w_ = []) := by
  refine Ev.intro (by decide) (Nat.le_of_ble_eq_true rfl) ?_
  intro X B hr hI
  have B : Bd E X cJ13_numberOfLeadingZeros_95d88 RJ13 3 1 21 0 0 := B
  have hr : Rt E X (some .int) 0 0 (fun v_ w_ => ∃ zr : Nat, (zr ≤ 64) ∧ v_ = some (.int (nI zr)) ∧ w_ = []) := hr
  show G E X 3 [] 0 0 [(0, .long x)] 0 []
  refine g_lload_n B dJ13_numberOfLeadingZeros_95d88_0 rfl 0 rfl ?_
  refine g_bipush (v := 32) B dJ13_numberOfLeadingZeros_95d88_1 (by decide) ?_
  refine g_lushr B dJ13_numberOfLeadingZeros_95d88_3 ?_
  refine g_l2i B dJ13_numberOfLeadingZeros_95d88_4 ?_
  refine g_istore_n (lv' := [(2, .int (Int64.toInt32 ((Int64.toUInt64 x >>> ((Int32.toInt64 32).toUInt64 &&& Int64.toUInt64 63)).toInt64))), (0, .long x)]) B dJ13_numberOfLeadingZeros_95d88_5 rfl (by decide) rfl ?_
  refine g_iload_n B dJ13_numberOfLeadingZeros_95d88_6 rfl 0 rfl ?_
  refine g_if_ne (tgt := 21) B dJ13_numberOfLeadingZeros_95d88_7 (by decide) (fun c7_2772 => ?_) (fun c7_2772 => ?_)
  · refine g_iload_n B dJ13_numberOfLeadingZeros_95d88_21 rfl 0 rfl ?_
    refine g_callS (st := []) (As := [.int (Int64.toInt32 ((Int64.toUInt64 x >>> ((Int32.toInt64 32).toUInt64 &&& Int64.toUInt64 63)).toInt64))]) (wr := []) (nc' := 0) (ns' := 0) B cl_J13_308 w_sm_J6_numberOfLeadingZeros_0f7a4 (wr_nlz_w E (Int64.toInt32 ((Int64.toUInt64 x >>> ((Int32.toInt64 32).toUInt64 &&& Int64.toUInt64 63)).toInt64)) ) rfl [] [] rfl rfl (by decide) (by decide) (by decide) ⟨by decide, by decide⟩ rfl rfl (by decide) (by decide) rfl (Nat.le_of_ble_eq_true rfl) dJ13_numberOfLeadingZeros_95d88_22 (fun v w hq => ?_)
    obtain ⟨zr_2773, hf_2774, rfl, rfl⟩ := hq
    show G E X 3 [] 0 0 [(2, .int (Int64.toInt32 ((Int64.toUInt64 x >>> ((Int32.toInt64 32).toUInt64 &&& Int64.toUInt64 63)).toInt64))), (0, .long x)] 25 [.int (nI zr_2773)]
    exact g_iret B hr dJ13_numberOfLeadingZeros_95d88_25 (by decide) (by decide) ⟨zr_2773, (by first | assumption | omega | decide | exact hCF _ (by omega)), rfl, rfl⟩
  · refine g_bipush (v := 32) B dJ13_numberOfLeadingZeros_95d88_10 (by decide) ?_
    refine g_lload_n B dJ13_numberOfLeadingZeros_95d88_12 rfl 1 rfl ?_
    refine g_l2i B dJ13_numberOfLeadingZeros_95d88_13 ?_
    refine g_callS (st := [.int 32]) (As := [.int (Int64.toInt32 x)]) (wr := []) (nc' := 0) (ns' := 0) B cl_J13_308 w_sm_J6_numberOfLeadingZeros_0f7a4 (wr_nlz_w E (Int64.toInt32 x) ) rfl [] [] rfl rfl (by decide) (by decide) (by decide) ⟨by decide, by decide⟩ rfl rfl (by decide) (by decide) rfl (Nat.le_of_ble_eq_true rfl) dJ13_numberOfLeadingZeros_95d88_14 (fun v w hq => ?_)
    obtain ⟨zr_2775, hf_2776, rfl, rfl⟩ := hq
    show G E X 3 [] 0 0 [(2, .int (Int64.toInt32 ((Int64.toUInt64 x >>> ((Int32.toInt64 32).toUInt64 &&& Int64.toUInt64 63)).toInt64))), (0, .long x)] 17 [.int (nI zr_2775), .int 32]
    refine g_iadd B dJ13_numberOfLeadingZeros_95d88_17 ?_
    refine g_ri (x' := nI (32 + zr_2775)) (nI_add 32 zr_2775) ?_
    refine g_goto (tgt := 25) B dJ13_numberOfLeadingZeros_95d88_18 (by decide) ?_
    exact g_iret B hr dJ13_numberOfLeadingZeros_95d88_25 (by decide) (by decide) ⟨(32 + zr_2775), (by first | assumption | omega | decide | exact hCF _ (by omega)), rfl, rfl⟩
set_option maxRecDepth 100000 in
set_option maxHeartbeats 4000000 in
theorem wr_nlz8_n (E : g_E) (a : Nat) (h0 : 0 < a) (h1 : a < 2147483648) : Ev E MJ13_numberOfLeadingZeros_95d88 1 21 0 0 [.long (lN a)] [] (fun v_ w_ => ∃ zr : Nat, (zr ≤ 63) ∧ (33 ≤ zr) ∧ (a ≤ 1023 → 54 ≤ zr) ∧ (a ≤ 131071 → 47 ≤ zr) ∧ v_ = some (.int (nI zr)) ∧ w_ = []) := by
  refine Ev.intro (by decide) (Nat.le_of_ble_eq_true rfl) ?_
  intro X B hr hI
  have B : Bd E X cJ13_numberOfLeadingZeros_95d88 RJ13 3 1 21 0 0 := B
  have hr : Rt E X (some .int) 0 0 (fun v_ w_ => ∃ zr : Nat, (zr ≤ 63) ∧ (33 ≤ zr) ∧ (a ≤ 1023 → 54 ≤ zr) ∧ (a ≤ 131071 → 47 ≤ zr) ∧ v_ = some (.int (nI zr)) ∧ w_ = []) := hr
  show G E X 3 [] 0 0 [(0, .long (lN a))] 0 []
  refine g_lload_n B dJ13_numberOfLeadingZeros_95d88_0 rfl 0 rfl ?_
  refine g_bipush (v := 32) B dJ13_numberOfLeadingZeros_95d88_1 (by decide) ?_
  refine g_lushr B dJ13_numberOfLeadingZeros_95d88_3 ?_
  refine g_rl (x' := lN (a / 4294967296)) (pf_ushr (a := a) (d := 32) (by decide) (by omega)) ?_
  refine g_l2i B dJ13_numberOfLeadingZeros_95d88_4 ?_
  refine g_ri (x' := nI (a / 4294967296)) (lN_i (a / 4294967296)) ?_
  refine g_istore_n (lv' := [(2, .int (nI (a / 4294967296))), (0, .long (lN a))]) B dJ13_numberOfLeadingZeros_95d88_5 rfl (by decide) rfl ?_
  refine g_iload_n B dJ13_numberOfLeadingZeros_95d88_6 rfl 0 rfl ?_
  refine g_if_ne (tgt := 21) B dJ13_numberOfLeadingZeros_95d88_7 (by decide) (fun c7_2777 => ?_) (fun c7_2777 => ?_)
  · have hn_2778 : ¬ (a / 4294967296) = 0 := fun q => c7_2777 ((nI_eq (a := (a / 4294967296)) (b := 0) (by omega) (by omega)).mpr q)
    refine g_iload_n B dJ13_numberOfLeadingZeros_95d88_21 rfl 0 rfl ?_
    refine g_callS (st := []) (As := [.int (nI (a / 4294967296))]) (wr := []) (nc' := 0) (ns' := 0) B cl_J13_308 w_sm_J6_numberOfLeadingZeros_0f7a4 (wr_nlz_n E (a / 4294967296) (by first | assumption | omega | decide | exact hCF _ (by omega)) (by first | assumption | omega | decide | exact hCF _ (by omega))) rfl [] [] rfl rfl (by decide) (by decide) (by decide) ⟨by decide, by decide⟩ rfl rfl (by decide) (by decide) rfl (Nat.le_of_ble_eq_true rfl) dJ13_numberOfLeadingZeros_95d88_22 (fun v w hq => ?_)
    obtain ⟨zr_2780, hf_2781, hf_2782, hf_2783, hf_2784, rfl, rfl⟩ := hq
    show G E X 3 [] 0 0 [(2, .int (nI (a / 4294967296))), (0, .long (lN a))] 25 [.int (nI zr_2780)]
    exact g_iret B hr dJ13_numberOfLeadingZeros_95d88_25 (by decide) (by decide) ⟨zr_2780, (by first | assumption | omega | decide | exact hCF _ (by omega)), (by first | assumption | omega | decide | exact hCF _ (by omega)), (by first | assumption | omega | decide | exact hCF _ (by omega)), (by first | assumption | omega | decide | exact hCF _ (by omega)), rfl, rfl⟩
  · have hn_2779 : (a / 4294967296) = 0 := (nI_eq (a := (a / 4294967296)) (b := 0) (by omega) (by omega)).mp c7_2777
    refine g_bipush (v := 32) B dJ13_numberOfLeadingZeros_95d88_10 (by decide) ?_
    refine g_lload_n B dJ13_numberOfLeadingZeros_95d88_12 rfl 1 rfl ?_
    refine g_l2i B dJ13_numberOfLeadingZeros_95d88_13 ?_
    refine g_ri (x' := nI a) (lN_i a) ?_
    refine g_callS (st := [.int 32]) (As := [.int (nI a)]) (wr := []) (nc' := 0) (ns' := 0) B cl_J13_308 w_sm_J6_numberOfLeadingZeros_0f7a4 (wr_nlz_n E a (by first | assumption | omega | decide | exact hCF _ (by omega)) (by first | assumption | omega | decide | exact hCF _ (by omega))) rfl [] [] rfl rfl (by decide) (by decide) (by decide) ⟨by decide, by decide⟩ rfl rfl (by decide) (by decide) rfl (Nat.le_of_ble_eq_true rfl) dJ13_numberOfLeadingZeros_95d88_14 (fun v w hq => ?_)
    obtain ⟨zr_2785, hf_2786, hf_2787, hf_2788, hf_2789, rfl, rfl⟩ := hq
    show G E X 3 [] 0 0 [(2, .int (nI (a / 4294967296))), (0, .long (lN a))] 17 [.int (nI zr_2785), .int 32]
    refine g_iadd B dJ13_numberOfLeadingZeros_95d88_17 ?_
    refine g_ri (x' := nI (32 + zr_2785)) (nI_add 32 zr_2785) ?_
    refine g_goto (tgt := 25) B dJ13_numberOfLeadingZeros_95d88_18 (by decide) ?_
    exact g_iret B hr dJ13_numberOfLeadingZeros_95d88_25 (by decide) (by decide) ⟨(32 + zr_2785), (by first | assumption | omega | decide | exact hCF _ (by omega)), (by first | assumption | omega | decide | exact hCF _ (by omega)), (by first | assumption | omega | decide | exact hCF _ (by omega)), (by first | assumption | omega | decide | exact hCF _ (by omega)), rfl, rfl⟩
abbrev MX11_length : g_M := (yX11_length, cX11_length, 2, (some .int))
theorem dX11_length_0 : decode cX11_length 0 = .ok (.bipush 64, 2) := by decide +kernel
theorem dX11_length_2 : decode cX11_length 2 = .ok (.lload_n 0, 1) := by decide +kernel
theorem dX11_length_3 : decode cX11_length 3 = .ok (.invokestatic 160, 3) := by decide +kernel
theorem w_ml_X11_160 : Cond.methodLink RX11 160 yJ13_numberOfLeadingZeros_95d88 ∈ g_tbl := g_tbl_in 1107 (by decide +kernel) (by decide +kernel)
theorem w_cd_J13_numberOfLeadingZeros_95d88 : g_cw MJ13_numberOfLeadingZeros_95d88 ∈ g_tbl := g_tbl_in 1109 (by decide +kernel) (by decide +kernel)
theorem w_ini_J13 : Cond.initialized RJ13 ∈ g_tbl := g_tbl_in 83 (by decide +kernel) (by decide +kernel)
theorem cl_X11_160 : CL RX11 160 1 MJ13_numberOfLeadingZeros_95d88 := ⟨w_ml_X11_160, w_cd_J13_numberOfLeadingZeros_95d88, w_ini_J13, by decide +kernel, by decide +kernel, by decide +kernel⟩
theorem w_sm_J13_numberOfLeadingZeros_95d88 : Cond.static yJ13_numberOfLeadingZeros_95d88 ∈ g_tbl := g_tbl_in 1108 (by decide +kernel) (by decide +kernel)
theorem dX11_length_6 : decode cX11_length 6 = .ok (.isub, 1) := by decide +kernel
theorem dX11_length_7 : decode cX11_length 7 = .ok (.ireturn, 1) := by decide +kernel
set_option maxRecDepth 100000 in
set_option maxHeartbeats 4000000 in
theorem wr_length_w (E : g_E) (x : Int64)  : Ev E MX11_length 2 43 0 0 [.long x] [] (fun v_ w_ => ∃ zr : Nat, (zr ≤ 64) ∧ v_ = some (.int (nI zr)) ∧ w_ = []) := by
  refine Ev.intro (by decide) (Nat.le_of_ble_eq_true rfl) ?_
  intro X B hr hI
  have B : Bd E X cX11_length RX11 2 2 43 0 0 := B
  have hr : Rt E X (some .int) 0 0 (fun v_ w_ => ∃ zr : Nat, (zr ≤ 64) ∧ v_ = some (.int (nI zr)) ∧ w_ = []) := hr
  show G E X 2 [] 0 0 [(0, .long x)] 0 []
  refine g_bipush (v := 64) B dX11_length_0 (by decide) ?_
  refine g_lload_n B dX11_length_2 rfl 0 rfl ?_
  refine g_callS (st := [.int 64]) (As := [.long x]) (wr := []) (nc' := 0) (ns' := 0) B cl_X11_160 w_sm_J13_numberOfLeadingZeros_95d88 (wr_nlz8_w E x ) rfl [] [] rfl rfl (by decide) (by decide) (by decide) ⟨by decide, by decide⟩ rfl rfl (by decide) (by decide) rfl (Nat.le_of_ble_eq_true rfl) dX11_length_3 (fun v w hq => ?_)
  obtain ⟨zr_2790, hf_2791, rfl, rfl⟩ := hq
  show G E X 2 [] 0 0 [(0, .long x)] 6 [.int (nI zr_2790), .int 64]
  refine g_isub B dX11_length_6 ?_
  refine g_ri (x' := nI (64 - zr_2790)) (pk_sub (a := 64) (b := zr_2790) (by omega)) ?_
  exact g_iret B hr dX11_length_7 (by decide) (by decide) ⟨(64 - zr_2790), (by first | assumption | omega | decide | exact hCF _ (by omega)), rfl, rfl⟩
set_option maxRecDepth 100000 in
set_option maxHeartbeats 4000000 in
theorem wr_length_n (E : g_E) (a : Nat) (h0 : 0 < a) (h1 : a < 2147483648) : Ev E MX11_length 2 43 0 0 [.long (lN a)] [] (fun v_ w_ => ∃ zr : Nat, (zr ≤ 31) ∧ (1 ≤ zr) ∧ (a ≤ 1023 → zr ≤ 10) ∧ (a ≤ 131071 → zr ≤ 17) ∧ v_ = some (.int (nI zr)) ∧ w_ = []) := by
  refine Ev.intro (by decide) (Nat.le_of_ble_eq_true rfl) ?_
  intro X B hr hI
  have B : Bd E X cX11_length RX11 2 2 43 0 0 := B
  have hr : Rt E X (some .int) 0 0 (fun v_ w_ => ∃ zr : Nat, (zr ≤ 31) ∧ (1 ≤ zr) ∧ (a ≤ 1023 → zr ≤ 10) ∧ (a ≤ 131071 → zr ≤ 17) ∧ v_ = some (.int (nI zr)) ∧ w_ = []) := hr
  show G E X 2 [] 0 0 [(0, .long (lN a))] 0 []
  refine g_bipush (v := 64) B dX11_length_0 (by decide) ?_
  refine g_lload_n B dX11_length_2 rfl 0 rfl ?_
  refine g_callS (st := [.int 64]) (As := [.long (lN a)]) (wr := []) (nc' := 0) (ns' := 0) B cl_X11_160 w_sm_J13_numberOfLeadingZeros_95d88 (wr_nlz8_n E a (by first | assumption | omega | decide | exact hCF _ (by omega)) (by first | assumption | omega | decide | exact hCF _ (by omega))) rfl [] [] rfl rfl (by decide) (by decide) (by decide) ⟨by decide, by decide⟩ rfl rfl (by decide) (by decide) rfl (Nat.le_of_ble_eq_true rfl) dX11_length_3 (fun v w hq => ?_)
  obtain ⟨zr_2792, hf_2793, hf_2794, hf_2795, hf_2796, rfl, rfl⟩ := hq
  show G E X 2 [] 0 0 [(0, .long (lN a))] 6 [.int (nI zr_2792), .int 64]
  refine g_isub B dX11_length_6 ?_
  refine g_ri (x' := nI (64 - zr_2792)) (pk_sub (a := 64) (b := zr_2792) (by omega)) ?_
  exact g_iret B hr dX11_length_7 (by decide) (by decide) ⟨(64 - zr_2792), (by first | assumption | omega | decide | exact hCF _ (by omega)), (by first | assumption | omega | decide | exact hCF _ (by omega)), (by first | assumption | omega | decide | exact hCF _ (by omega)), (by first | assumption | omega | decide | exact hCF _ (by omega)), rfl, rfl⟩
abbrev MX11_bit : g_M := (yX11_bit, cX11_bit, 2, none)
theorem dX11_bit_0 : decode cX11_bit 0 = .ok (.aload_n 0, 1) := by decide +kernel
theorem dX11_bit_1 : decode cX11_bit 1 = .ok (.getfield 70, 3) := by decide +kernel
theorem dX11_bit_4 : decode cX11_bit 4 = .ok (.aload_n 0, 1) := by decide +kernel
theorem dX11_bit_5 : decode cX11_bit 5 = .ok (.getfield 153, 3) := by decide +kernel
theorem w_fl_X11_153 : Cond.fieldLink RX11 153 (TX11 31).1 (TX11 31).2.1 (TX11 31).2.2.1 ∈ g_tbl := g_tbl_in 911 (by decide +kernel) (by decide +kernel)
theorem fl_X11_153 : FL RX11 153 11 31 := ⟨RX11, TX11, 50, rfl, by decide, inX_X11, w_fl_X11_153⟩
theorem dX11_bit_8 : decode cX11_bit 8 = .ok (.iload_n 1, 1) := by decide +kernel
theorem dX11_bit_9 : decode cX11_bit 9 = .ok (.i2b, 1) := by decide +kernel
theorem dX11_bit_10 : decode cX11_bit 10 = .ok (.bastore, 1) := by decide +kernel
theorem dX11_bit_11 : decode cX11_bit 11 = .ok (.aload_n 0, 1) := by decide +kernel
theorem dX11_bit_12 : decode cX11_bit 12 = .ok (.dup, 1) := by decide +kernel
theorem dX11_bit_13 : decode cX11_bit 13 = .ok (.getfield 153, 3) := by decide +kernel
theorem dX11_bit_16 : decode cX11_bit 16 = .ok (.iconst 1, 1) := by decide +kernel
theorem dX11_bit_17 : decode cX11_bit 17 = .ok (.iadd, 1) := by decide +kernel
theorem dX11_bit_18 : decode cX11_bit 18 = .ok (.putfield 153, 3) := by decide +kernel
theorem pf_X11_31 : PF 11 31 .int false := fun C T N h => by cases h; exact ⟨⟨tyX11, tyX11_ok⟩, nmX11, by decide +kernel, rfl, rfl⟩
theorem dX11_bit_21 : decode cX11_bit 21 = .ok (.return_, 1) := by decide +kernel
set_option maxRecDepth 100000 in
set_option maxHeartbeats 4000000 in
theorem wr_X11_bit (E : g_E) (m : Nat) (r : Nat → Nat) (m_1 : Nat) (m_4 : Nat) (m_9 : Nat) (m_10 : Nat) (m_14 : Nat) (m_15 : Nat) (m_25 : Int32) (m_26 : Int32) (m_27 : Int64) (m_28 : Nat) (m_29 : Nat) (m_31 : Nat) (m_32 : Nat) (m_33 : Nat) (m_35 : Nat) (m_36 : Nat) (m_37 : Int32) (m_38 : Nat) (m_39 : Int32) (m_40 : Int32) (m_42 : Nat) (r30_f : Nat → Int32) (b : Int32) (h0 : m_31 < 160000) (hb0 : m_31 ≤ 160000) : Ev E MX11_bit 0 0 0 0 [.ref m, .int b] [(m, .inr (11, mkF r m_1 m_4 m_9 m_10 m_14 m_15 m_25 m_26 m_27 m_28 m_29 m_31 m_32 m_33 m_35 m_36 m_37 m_38 m_39 m_40 m_42)), ((r 30), .inl (E.2.2.1 1, 160000, .inl (nb r30_f)))] (fun v_ w_ => ∃ zm_31 : Nat, ∃ zr30_f : Nat → Int32, (zm_31 ≤ 160000) ∧ (zm_31 = m_31 + 1) ∧ v_ = none ∧ w_ = [(m, .inr (11, mkF r m_1 m_4 m_9 m_10 m_14 m_15 m_25 m_26 m_27 m_28 m_29 zm_31 m_32 m_33 m_35 m_36 m_37 m_38 m_39 m_40 m_42)), ((r 30), .inl (E.2.2.1 1, 160000, .inl (nb zr30_f)))]) := by
  refine Ev.intro (by decide) (Nat.le_of_ble_eq_true rfl) ?_
  intro X B hr hI
  have B : Bd E X cX11_bit RX11 2 0 0 0 0 := B
  have hr : Rt E X none 0 0 (fun v_ w_ => ∃ zm_31 : Nat, ∃ zr30_f : Nat → Int32, (zm_31 ≤ 160000) ∧ (zm_31 = m_31 + 1) ∧ v_ = none ∧ w_ = [(m, .inr (11, mkF r m_1 m_4 m_9 m_10 m_14 m_15 m_25 m_26 m_27 m_28 m_29 zm_31 m_32 m_33 m_35 m_36 m_37 m_38 m_39 m_40 m_42)), ((r 30), .inl (E.2.2.1 1, 160000, .inl (nb zr30_f)))]) := hr
  show G E X 2 [(m, .inr (11, mkF r m_1 m_4 m_9 m_10 m_14 m_15 m_25 m_26 m_27 m_28 m_29 m_31 m_32 m_33 m_35 m_36 m_37 m_38 m_39 m_40 m_42)), ((r 30), .inl (E.2.2.1 1, 160000, .inl (nb r30_f)))] 0 0 [(0, .ref m), (1, .int b)] 0 []
  refine g_aload_n B dX11_bit_0 rfl 0 rfl ?_
  refine g_get B 0 30 fl_X11_70 rfl mf_30 dX11_bit_1 ?_
  refine g_aload_n B dX11_bit_4 rfl 0 rfl ?_
  refine g_get B 0 31 fl_X11_153 rfl mf_31 dX11_bit_5 ?_
  refine g_iload_n B dX11_bit_8 rfl 1 rfl ?_
  refine g_i2b B dX11_bit_9 ?_
  refine g_bast (ws' := [(m, .inr (11, mkF r m_1 m_4 m_9 m_10 m_14 m_15 m_25 m_26 m_27 m_28 m_29 m_31 m_32 m_33 m_35 m_36 m_37 m_38 m_39 m_40 m_42)), ((r 30), .inl (E.2.2.1 1, 160000, .inl (nb (upd r30_f (Int32.toNatClampNeg (nI m_31)) (Int8.toInt32 (Int32.toInt8 b))))))]) B 1 rfl (vp_in_nI (by omega) (by omega)) (by rw [nb_upd]; rfl) dX11_bit_10 ?_
  refine g_aload_n B dX11_bit_11 rfl 0 rfl ?_
  refine g_dup B dX11_bit_12 rfl ?_
  refine g_get B 0 31 fl_X11_153 rfl mf_31 dX11_bit_13 ?_
  refine g_iconst (v := 1) B dX11_bit_16 (by decide) ?_
  refine g_iadd B dX11_bit_17 ?_
  refine g_ri (x' := nI (m_31 + 1)) (nI_add m_31 1) ?_
  refine g_putM (ws' := [(m, .inr (11, mkF r m_1 m_4 m_9 m_10 m_14 m_15 m_25 m_26 m_27 m_28 m_29 (m_31 + 1) m_32 m_33 m_35 m_36 m_37 m_38 m_39 m_40 m_42)), ((r 30), .inl (E.2.2.1 1, 160000, .inl (nb (upd r30_f (Int32.toNatClampNeg (nI m_31)) (Int8.toInt32 (Int32.toInt8 b))))))]) (fs' := mkF r m_1 m_4 m_9 m_10 m_14 m_15 m_25 m_26 m_27 m_28 m_29 (m_31 + 1) m_32 m_33 m_35 m_36 m_37 m_38 m_39 m_40 m_42) B 0 31 fl_X11_153 pf_X11_31 rfl (mlt (by decide)) rfl rfl (ms_31 rfl) rfl dX11_bit_18 ?_
  exact g_vret B hr dX11_bit_21 (by decide) (by decide) ⟨(m_31 + 1), (upd r30_f (Int32.toNatClampNeg (nI m_31)) (Int8.toInt32 (Int32.toInt8 b))), (by first | assumption | omega | decide | exact hCF _ (by omega)), (by first | assumption | omega | decide | exact hCF _ (by omega)), rfl, rfl⟩
abbrev MX11_bits : g_M := (yX11_bits, cX11_bits, 5, none)
theorem dX11_bits_0 : decode cX11_bits 0 = .ok (.iload_n 3, 1) := by decide +kernel
theorem dX11_bits_1 : decode cX11_bits 1 = .ok (.iconst 1, 1) := by decide +kernel
theorem dX11_bits_2 : decode cX11_bits 2 = .ok (.isub, 1) := by decide +kernel
theorem dX11_bits_3 : decode cX11_bits 3 = .ok (.istore 4, 2) := by decide +kernel
theorem dX11_bits_5 : decode cX11_bits 5 = .ok (.iload 4, 2) := by decide +kernel
theorem dX11_bits_7 : decode cX11_bits 7 = .ok (.ifCond .lt 20, 3) := by decide +kernel
theorem dX11_bits_10 : decode cX11_bits 10 = .ok (.aload_n 0, 1) := by decide +kernel
theorem dX11_bits_11 : decode cX11_bits 11 = .ok (.lload_n 1, 1) := by decide +kernel
theorem dX11_bits_12 : decode cX11_bits 12 = .ok (.iload 4, 2) := by decide +kernel
theorem dX11_bits_14 : decode cX11_bits 14 = .ok (.lshr, 1) := by decide +kernel
theorem dX11_bits_15 : decode cX11_bits 15 = .ok (.lconst 1, 1) := by decide +kernel
theorem dX11_bits_16 : decode cX11_bits 16 = .ok (.land, 1) := by decide +kernel
theorem dX11_bits_17 : decode cX11_bits 17 = .ok (.l2i, 1) := by decide +kernel
theorem dX11_bits_18 : decode cX11_bits 18 = .ok (.invokevirtual 156, 3) := by decide +kernel
theorem w_ml_X11_156 : Cond.methodLink RX11 156 yX11_bit ∈ g_tbl := g_tbl_in 1117 (by decide +kernel) (by decide +kernel)
theorem w_cd_X11_bit : g_cw MX11_bit ∈ g_tbl := g_tbl_in 1120 (by decide +kernel) (by decide +kernel)
theorem cl_X11_156 : CL RX11 156 1 MX11_bit := ⟨w_ml_X11_156, w_cd_X11_bit, w_ini_X11, by decide +kernel, by decide +kernel, by decide +kernel⟩
theorem w_im_X11_bit : Cond.instanceMethod yX11_bit ∈ g_tbl := g_tbl_in 1119 (by decide +kernel) (by decide +kernel)
theorem w_se_X11_bit : Cond.selects RX11 yX11_bit yX11_bit ∈ g_tbl := g_tbl_in 43 (by decide +kernel) (by decide +kernel)
theorem dX11_bits_21 : decode cX11_bits 21 = .ok (.iinc 4 (-1), 3) := by decide +kernel
theorem dX11_bits_24 : decode cX11_bits 24 = .ok (.goto (-19), 3) := by decide +kernel
set_option maxRecDepth 100000 in
set_option maxHeartbeats 4000000 in
theorem lp_wr_X11_bits_5 (E : g_E) (m : Nat) (r : Nat → Nat) (m_1 : Nat) (m_4 : Nat) (m_9 : Nat) (m_10 : Nat) (m_14 : Nat) (m_15 : Nat) (m_25 : Int32) (m_26 : Int32) (m_27 : Int64) (m_28 : Nat) (m_29 : Nat) (m_31 : Nat) (m_32 : Nat) (m_33 : Nat) (m_35 : Nat) (m_36 : Nat) (m_37 : Int32) (m_38 : Nat) (m_39 : Int32) (m_40 : Int32) (m_42 : Nat) (r30_f : Nat → Int32) (n : Nat) (v : Int64) (h0 : m_31 + n ≤ 160000) (hb0 : m_31 ≤ 160000)   {X : g_X} (B : Bd E X cX11_bits RX11 5 1 21 0 0) (hr : Rt E X none 0 0 (fun v_ w_ => ∃ zm_31 : Nat, ∃ zr30_f : Nat → Int32, (zm_31 ≤ 160000) ∧ (zm_31 = m_31 + n) ∧ v_ = none ∧ w_ = [(m, .inr (11, mkF r m_1 m_4 m_9 m_10 m_14 m_15 m_25 m_26 m_27 m_28 m_29 zm_31 m_32 m_33 m_35 m_36 m_37 m_38 m_39 m_40 m_42)), ((r 30), .inl (E.2.2.1 1, 160000, .inl (nb zr30_f)))])) (K : ∀ (pm_31 : Nat) (pr30_f : Nat → Int32) (l4 : Nat), (pm_31 ≤ 160000) → (pm_31 + l4 = m_31 + n) → (l4 < 1) → G E X 5 [(m, .inr (11, mkF r m_1 m_4 m_9 m_10 m_14 m_15 m_25 m_26 m_27 m_28 m_29 pm_31 m_32 m_33 m_35 m_36 m_37 m_38 m_39 m_40 m_42)), ((r 30), .inl (E.2.2.1 1, 160000, .inl (nb pr30_f)))] 0 0 [(0, .ref m), (1, .long v), (3, .int (nI n)), (4, .int (nI l4 - 1))] 27 []) : ∀ (fuel : Nat) (pm_31 : Nat) (pr30_f : Nat → Int32) (l4 : Nat), (pm_31 ≤ 160000) → (pm_31 + l4 = m_31 + n) → (l4) < fuel → G E X 5 [(m, .inr (11, mkF r m_1 m_4 m_9 m_10 m_14 m_15 m_25 m_26 m_27 m_28 m_29 pm_31 m_32 m_33 m_35 m_36 m_37 m_38 m_39 m_40 m_42)), ((r 30), .inl (E.2.2.1 1, 160000, .inl (nb pr30_f)))] 0 0 [(0, .ref m), (1, .long v), (3, .int (nI n)), (4, .int (nI l4 - 1))] 5 [] := by
  intro fuel
  induction fuel with
  | zero => intro pm_31 pr30_f l4 _ _ h; exact absurd h (Nat.not_lt_zero _)
  | succ fuel ih =>
    intro pm_31 pr30_f l4 hv0 hv1 hm
    refine g_iload B dX11_bits_5 3 rfl ?_
    refine g_if_lt (tgt := 27) B dX11_bits_7 (by decide) (fun c7_2797 => ?_) (fun c7_2797 => ?_)
    · have hn_2799 : l4 < 1 := (dn_lt (l := l4) (by omega)).mp c7_2797
      exact K pm_31 pr30_f l4 (by first | assumption | omega | decide | exact hCF _ (by omega)) (by first | assumption | omega | decide | exact hCF _ (by omega)) (by first | assumption | omega | decide | exact hCF _ (by omega))
    · obtain ⟨j_2798, rfl⟩ : ∃ j_2798, l4 = j_2798 + 1 := ⟨l4 - 1, by have hq : ¬ l4 < 1 := fun q => c7_2797 ((dn_lt (l := l4) (by omega)).mpr q); omega⟩
      rw [nI_pred j_2798]
      refine g_aload_n B dX11_bits_10 rfl 0 rfl ?_
      refine g_lload_n B dX11_bits_11 rfl 1 rfl ?_
      refine g_iload B dX11_bits_12 3 rfl ?_
      refine g_lshr B dX11_bits_14 ?_
      refine g_lconst (v := 1) B dX11_bits_15 (by decide) ?_
      refine g_land B dX11_bits_16 ?_
      refine g_l2i B dX11_bits_17 ?_
      refine g_callV (st := []) (As := [.int (Int64.toInt32 ((v >>> (Int32.toInt64 (nI j_2798) &&& 63)) &&& 1))]) (wr := []) (nc' := 0) (ns' := 0) B cl_X11_156 w_im_X11_bit w_se_X11_bit (wr_X11_bit E m r m_1 m_4 m_9 m_10 m_14 m_15 m_25 m_26 m_27 m_28 m_29 pm_31 m_32 m_33 m_35 m_36 m_37 m_38 m_39 m_40 m_42 pr30_f (Int64.toInt32 ((v >>> (Int32.toInt64 (nI j_2798) &&& 63)) &&& 1)) (by first | assumption | omega | decide | exact hCF _ (by omega)) (by first | assumption | omega | decide | exact hCF _ (by omega))) rfl [0, 1] [] rfl rfl (by decide) (by decide) (by decide) 0 rfl (fun q h => by cases h; rfl) rfl ⟨by decide, by decide⟩ rfl rfl (by decide) (by decide) rfl (Nat.le_of_ble_eq_true rfl) dX11_bits_18 (fun v w hq => ?_)
      obtain ⟨zm_31_2800, zr30_f_2801, hf_2802, hf_2803, rfl, rfl⟩ := hq
      show G E X 5 [(m, .inr (11, mkF r m_1 m_4 m_9 m_10 m_14 m_15 m_25 m_26 m_27 m_28 m_29 zm_31_2800 m_32 m_33 m_35 m_36 m_37 m_38 m_39 m_40 m_42)), ((r 30), .inl (E.2.2.1 1, 160000, .inl (nb zr30_f_2801)))] 0 0 [(0, .ref m), (1, .long v), (3, .int (nI n)), (4, .int (nI j_2798))] 21 []
      refine g_iinc (v := (nI j_2798 - 1)) (lv' := [(4, .int (nI j_2798 - 1)), (0, .ref m), (1, .long v), (3, .int (nI n))]) B dX11_bits_21 3 rfl (i_m1 _) (by decide) rfl ?_
      refine g_goto (tgt := 5) B dX11_bits_24 (by decide) ?_
      refine g_lvsub (lv' := [(0, .ref m), (1, .long v), (3, .int (nI n)), (4, .int (nI j_2798 - 1))]) [1, 2, 3, 0] rfl ?_
      exact ih zm_31_2800 zr30_f_2801 j_2798 (by first | assumption | omega | decide | exact hCF _ (by omega)) (by first | assumption | omega | decide | exact hCF _ (by omega)) (by omega)
theorem dX11_bits_27 : decode cX11_bits 27 = .ok (.return_, 1) := by decide +kernel
set_option maxRecDepth 100000 in
set_option maxHeartbeats 4000000 in
theorem wr_X11_bits (E : g_E) (m : Nat) (r : Nat → Nat) (m_1 : Nat) (m_4 : Nat) (m_9 : Nat) (m_10 : Nat) (m_14 : Nat) (m_15 : Nat) (m_25 : Int32) (m_26 : Int32) (m_27 : Int64) (m_28 : Nat) (m_29 : Nat) (m_31 : Nat) (m_32 : Nat) (m_33 : Nat) (m_35 : Nat) (m_36 : Nat) (m_37 : Int32) (m_38 : Nat) (m_39 : Int32) (m_40 : Int32) (m_42 : Nat) (r30_f : Nat → Int32) (n : Nat) (v : Int64) (h0 : m_31 + n ≤ 160000) (hb0 : m_31 ≤ 160000) : Ev E MX11_bits 1 21 0 0 [.ref m, .long v, .int (nI n)] [(m, .inr (11, mkF r m_1 m_4 m_9 m_10 m_14 m_15 m_25 m_26 m_27 m_28 m_29 m_31 m_32 m_33 m_35 m_36 m_37 m_38 m_39 m_40 m_42)), ((r 30), .inl (E.2.2.1 1, 160000, .inl (nb r30_f)))] (fun v_ w_ => ∃ zm_31 : Nat, ∃ zr30_f : Nat → Int32, (zm_31 ≤ 160000) ∧ (zm_31 = m_31 + n) ∧ v_ = none ∧ w_ = [(m, .inr (11, mkF r m_1 m_4 m_9 m_10 m_14 m_15 m_25 m_26 m_27 m_28 m_29 zm_31 m_32 m_33 m_35 m_36 m_37 m_38 m_39 m_40 m_42)), ((r 30), .inl (E.2.2.1 1, 160000, .inl (nb zr30_f)))]) := by
  refine Ev.intro (by decide) (Nat.le_of_ble_eq_true rfl) ?_
  intro X B hr hI
  have B : Bd E X cX11_bits RX11 5 1 21 0 0 := B
  have hr : Rt E X none 0 0 (fun v_ w_ => ∃ zm_31 : Nat, ∃ zr30_f : Nat → Int32, (zm_31 ≤ 160000) ∧ (zm_31 = m_31 + n) ∧ v_ = none ∧ w_ = [(m, .inr (11, mkF r m_1 m_4 m_9 m_10 m_14 m_15 m_25 m_26 m_27 m_28 m_29 zm_31 m_32 m_33 m_35 m_36 m_37 m_38 m_39 m_40 m_42)), ((r 30), .inl (E.2.2.1 1, 160000, .inl (nb zr30_f)))]) := hr
  show G E X 5 [(m, .inr (11, mkF r m_1 m_4 m_9 m_10 m_14 m_15 m_25 m_26 m_27 m_28 m_29 m_31 m_32 m_33 m_35 m_36 m_37 m_38 m_39 m_40 m_42)), ((r 30), .inl (E.2.2.1 1, 160000, .inl (nb r30_f)))] 0 0 [(0, .ref m), (1, .long v), (3, .int (nI n))] 0 []
  refine g_iload_n B dX11_bits_0 rfl 2 rfl ?_
  refine g_iconst (v := 1) B dX11_bits_1 (by decide) ?_
  refine g_isub B dX11_bits_2 ?_
  refine g_istore (lv' := [(4, .int (nI n - 1)), (0, .ref m), (1, .long v), (3, .int (nI n))]) B dX11_bits_3 (by decide) rfl ?_
  refine g_lvsub (lv' := [(0, .ref m), (1, .long v), (3, .int (nI n)), (4, .int (nI n - 1))]) [1, 2, 3, 0] rfl ?_
  refine lp_wr_X11_bits_5 E m r m_1 m_4 m_9 m_10 m_14 m_15 m_25 m_26 m_27 m_28 m_29 m_31 m_32 m_33 m_35 m_36 m_37 m_38 m_39 m_40 m_42 r30_f n v h0 hb0   B hr (fun y_2804pm_31 y_2804pr30_f y_2804l4 y_2804k0 y_2804k1 y_2804k2 => ?_) _ m_31 r30_f n (by first | assumption | omega | decide | exact hCF _ (by omega)) (by first | assumption | omega | decide | exact hCF _ (by omega)) (Nat.lt_succ_self _)
  show G E X 5 [(m, .inr (11, mkF r m_1 m_4 m_9 m_10 m_14 m_15 m_25 m_26 m_27 m_28 m_29 y_2804pm_31 m_32 m_33 m_35 m_36 m_37 m_38 m_39 m_40 m_42)), ((r 30), .inl (E.2.2.1 1, 160000, .inl (nb y_2804pr30_f)))] 0 0 [(0, .ref m), (1, .long v), (3, .int (nI n)), (4, .int (nI y_2804l4 - 1))] 27 []
  exact g_vret B hr dX11_bits_27 (by decide) (by decide) ⟨y_2804pm_31, y_2804pr30_f, (by first | assumption | omega | decide | exact hCF _ (by omega)), (by first | assumption | omega | decide | exact hCF _ (by omega)), rfl, rfl⟩
abbrev MX11_putG : g_M := (yX11_putG, cX11_putG, 4, none)
theorem dX11_putG_0 : decode cX11_putG 0 = .ok (.lload_n 1, 1) := by decide +kernel
theorem dX11_putG_1 : decode cX11_putG 1 = .ok (.invokestatic 166, 3) := by decide +kernel
theorem w_ml_X11_166 : Cond.methodLink RX11 166 yX11_length ∈ g_tbl := g_tbl_in 1104 (by decide +kernel) (by decide +kernel)
theorem w_cd_X11_length : g_cw MX11_length ∈ g_tbl := g_tbl_in 1106 (by decide +kernel) (by decide +kernel)
theorem cl_X11_166 : CL RX11 166 1 MX11_length := ⟨w_ml_X11_166, w_cd_X11_length, w_ini_X11, by decide +kernel, by decide +kernel, by decide +kernel⟩
theorem w_sm_X11_length : Cond.static yX11_length ∈ g_tbl := g_tbl_in 1105 (by decide +kernel) (by decide +kernel)
theorem dX11_putG_4 : decode cX11_putG 4 = .ok (.istore_n 3, 1) := by decide +kernel
theorem dX11_putG_5 : decode cX11_putG 5 = .ok (.aload_n 0, 1) := by decide +kernel
theorem dX11_putG_6 : decode cX11_putG 6 = .ok (.iload_n 3, 1) := by decide +kernel
theorem dX11_putG_7 : decode cX11_putG 7 = .ok (.iconst 1, 1) := by decide +kernel
theorem dX11_putG_8 : decode cX11_putG 8 = .ok (.isub, 1) := by decide +kernel
theorem dX11_putG_9 : decode cX11_putG 9 = .ok (.i2l, 1) := by decide +kernel
theorem dX11_putG_10 : decode cX11_putG 10 = .ok (.iconst 5, 1) := by decide +kernel
theorem dX11_putG_11 : decode cX11_putG 11 = .ok (.invokevirtual 169, 3) := by decide +kernel
theorem w_ml_X11_169 : Cond.methodLink RX11 169 yX11_bits ∈ g_tbl := g_tbl_in 1113 (by decide +kernel) (by decide +kernel)
theorem w_cd_X11_bits : g_cw MX11_bits ∈ g_tbl := g_tbl_in 1116 (by decide +kernel) (by decide +kernel)
theorem cl_X11_169 : CL RX11 169 2 MX11_bits := ⟨w_ml_X11_169, w_cd_X11_bits, w_ini_X11, by decide +kernel, by decide +kernel, by decide +kernel⟩
theorem w_im_X11_bits : Cond.instanceMethod yX11_bits ∈ g_tbl := g_tbl_in 1115 (by decide +kernel) (by decide +kernel)
theorem w_se_X11_bits : Cond.selects RX11 yX11_bits yX11_bits ∈ g_tbl := g_tbl_in 42 (by decide +kernel) (by decide +kernel)
theorem dX11_putG_14 : decode cX11_putG 14 = .ok (.aload_n 0, 1) := by decide +kernel
theorem dX11_putG_15 : decode cX11_putG 15 = .ok (.lload_n 1, 1) := by decide +kernel
theorem dX11_putG_16 : decode cX11_putG 16 = .ok (.iload_n 3, 1) := by decide +kernel
theorem dX11_putG_17 : decode cX11_putG 17 = .ok (.iconst 1, 1) := by decide +kernel
theorem dX11_putG_18 : decode cX11_putG 18 = .ok (.isub, 1) := by decide +kernel
theorem dX11_putG_19 : decode cX11_putG 19 = .ok (.invokevirtual 169, 3) := by decide +kernel
theorem dX11_putG_22 : decode cX11_putG 22 = .ok (.return_, 1) := by decide +kernel
set_option maxRecDepth 100000 in
set_option maxHeartbeats 4000000 in
theorem wr_X11_putG (E : g_E) (m : Nat) (r : Nat → Nat) (m_1 : Nat) (m_4 : Nat) (m_9 : Nat) (m_10 : Nat) (m_14 : Nat) (m_15 : Nat) (m_25 : Int32) (m_26 : Int32) (m_27 : Int64) (m_28 : Nat) (m_29 : Nat) (m_31 : Nat) (m_32 : Nat) (m_33 : Nat) (m_35 : Nat) (m_36 : Nat) (m_37 : Int32) (m_38 : Nat) (m_39 : Int32) (m_40 : Int32) (m_42 : Nat) (r30_f : Nat → Int32) (a : Nat) (h0 : 0 < a) (h1 : a < 2147483648) (h2 : m_31 + 35 ≤ 160000) (hb0 : m_31 ≤ 160000) : Ev E MX11_putG 3 64 0 0 [.ref m, .long (lN a)] [(m, .inr (11, mkF r m_1 m_4 m_9 m_10 m_14 m_15 m_25 m_26 m_27 m_28 m_29 m_31 m_32 m_33 m_35 m_36 m_37 m_38 m_39 m_40 m_42)), ((r 30), .inl (E.2.2.1 1, 160000, .inl (nb r30_f)))] (fun v_ w_ => ∃ zm_31 : Nat, ∃ zr30_f : Nat → Int32, (zm_31 ≤ 160000) ∧ (zm_31 ≤ m_31 + 35) ∧ (a ≤ 1023 → zm_31 ≤ m_31 + 14) ∧ (m_31 ≤ zm_31) ∧ v_ = none ∧ w_ = [(m, .inr (11, mkF r m_1 m_4 m_9 m_10 m_14 m_15 m_25 m_26 m_27 m_28 m_29 zm_31 m_32 m_33 m_35 m_36 m_37 m_38 m_39 m_40 m_42)), ((r 30), .inl (E.2.2.1 1, 160000, .inl (nb zr30_f)))]) := by
  refine Ev.intro (by decide) (Nat.le_of_ble_eq_true rfl) ?_
  intro X B hr hI
  have B : Bd E X cX11_putG RX11 4 3 64 0 0 := B
  have hr : Rt E X none 0 0 (fun v_ w_ => ∃ zm_31 : Nat, ∃ zr30_f : Nat → Int32, (zm_31 ≤ 160000) ∧ (zm_31 ≤ m_31 + 35) ∧ (a ≤ 1023 → zm_31 ≤ m_31 + 14) ∧ (m_31 ≤ zm_31) ∧ v_ = none ∧ w_ = [(m, .inr (11, mkF r m_1 m_4 m_9 m_10 m_14 m_15 m_25 m_26 m_27 m_28 m_29 zm_31 m_32 m_33 m_35 m_36 m_37 m_38 m_39 m_40 m_42)), ((r 30), .inl (E.2.2.1 1, 160000, .inl (nb zr30_f)))]) := hr
  show G E X 4 [(m, .inr (11, mkF r m_1 m_4 m_9 m_10 m_14 m_15 m_25 m_26 m_27 m_28 m_29 m_31 m_32 m_33 m_35 m_36 m_37 m_38 m_39 m_40 m_42)), ((r 30), .inl (E.2.2.1 1, 160000, .inl (nb r30_f)))] 0 0 [(0, .ref m), (1, .long (lN a))] 0 []
  refine g_lload_n B dX11_putG_0 rfl 1 rfl ?_
  refine g_callS (st := []) (As := [.long (lN a)]) (wr := [(m, .inr (11, mkF r m_1 m_4 m_9 m_10 m_14 m_15 m_25 m_26 m_27 m_28 m_29 m_31 m_32 m_33 m_35 m_36 m_37 m_38 m_39 m_40 m_42)), ((r 30), .inl (E.2.2.1 1, 160000, .inl (nb r30_f)))]) (nc' := 0) (ns' := 0) B cl_X11_166 w_sm_X11_length (wr_length_n E a (by first | assumption | omega | decide | exact hCF _ (by omega)) (by first | assumption | omega | decide | exact hCF _ (by omega))) rfl [] [0, 1] rfl rfl (by decide) (by decide) (by decide) ⟨by decide, by decide⟩ rfl rfl (by decide) (by decide) rfl (Nat.le_of_ble_eq_true rfl) dX11_putG_1 (fun v w hq => ?_)
  obtain ⟨zr_2805, hf_2806, hf_2807, hf_2808, hf_2809, rfl, rfl⟩ := hq
  show G E X 4 [(m, .inr (11, mkF r m_1 m_4 m_9 m_10 m_14 m_15 m_25 m_26 m_27 m_28 m_29 m_31 m_32 m_33 m_35 m_36 m_37 m_38 m_39 m_40 m_42)), ((r 30), .inl (E.2.2.1 1, 160000, .inl (nb r30_f)))] 0 0 [(0, .ref m), (1, .long (lN a))] 4 [.int (nI zr_2805)]
  refine g_istore_n (lv' := [(3, .int (nI zr_2805)), (0, .ref m), (1, .long (lN a))]) B dX11_putG_4 rfl (by decide) rfl ?_
  refine g_aload_n B dX11_putG_5 rfl 1 rfl ?_
  refine g_iload_n B dX11_putG_6 rfl 0 rfl ?_
  refine g_iconst (v := 1) B dX11_putG_7 (by decide) ?_
  refine g_isub B dX11_putG_8 ?_
  refine g_ri (x' := nI (zr_2805 - 1)) (pk_sub (a := zr_2805) (b := 1) (by omega)) ?_
  refine g_i2l B dX11_putG_9 ?_
  refine g_rl (x' := lN (zr_2805 - 1)) (nI_l (n := (zr_2805 - 1)) (by omega)) ?_
  refine g_iconst (v := 5) B dX11_putG_10 (by decide) ?_
  refine g_callV (st := []) (As := [.long (lN (zr_2805 - 1)), .int 5]) (wr := []) (nc' := 0) (ns' := 0) B cl_X11_169 w_im_X11_bits w_se_X11_bits (wr_X11_bits E m r m_1 m_4 m_9 m_10 m_14 m_15 m_25 m_26 m_27 m_28 m_29 m_31 m_32 m_33 m_35 m_36 m_37 m_38 m_39 m_40 m_42 r30_f 5 (lN (zr_2805 - 1)) (by first | assumption | omega | decide | exact hCF _ (by omega)) (by first | assumption | omega | decide | exact hCF _ (by omega))) rfl [0, 1] [] rfl rfl (by decide) (by decide) (by decide) 0 rfl (fun q h => by cases h; rfl) rfl ⟨by decide, by decide⟩ rfl rfl (by decide) (by decide) rfl (Nat.le_of_ble_eq_true rfl) dX11_putG_11 (fun v w hq => ?_)
  obtain ⟨zm_31_2810, zr30_f_2811, hf_2812, hf_2813, rfl, rfl⟩ := hq
  show G E X 4 [(m, .inr (11, mkF r m_1 m_4 m_9 m_10 m_14 m_15 m_25 m_26 m_27 m_28 m_29 zm_31_2810 m_32 m_33 m_35 m_36 m_37 m_38 m_39 m_40 m_42)), ((r 30), .inl (E.2.2.1 1, 160000, .inl (nb zr30_f_2811)))] 0 0 [(3, .int (nI zr_2805)), (0, .ref m), (1, .long (lN a))] 14 []
  refine g_aload_n B dX11_putG_14 rfl 1 rfl ?_
  refine g_lload_n B dX11_putG_15 rfl 2 rfl ?_
  refine g_iload_n B dX11_putG_16 rfl 0 rfl ?_
  refine g_iconst (v := 1) B dX11_putG_17 (by decide) ?_
  refine g_isub B dX11_putG_18 ?_
  refine g_ri (x' := nI (zr_2805 - 1)) (pk_sub (a := zr_2805) (b := 1) (by omega)) ?_
  refine g_callV (st := []) (As := [.long (lN a), .int (nI (zr_2805 - 1))]) (wr := []) (nc' := 0) (ns' := 0) B cl_X11_169 w_im_X11_bits w_se_X11_bits (wr_X11_bits E m r m_1 m_4 m_9 m_10 m_14 m_15 m_25 m_26 m_27 m_28 m_29 zm_31_2810 m_32 m_33 m_35 m_36 m_37 m_38 m_39 m_40 m_42 zr30_f_2811 (zr_2805 - 1) (lN a) (by first | assumption | omega | decide | exact hCF _ (by omega)) (by first | assumption | omega | decide | exact hCF _ (by omega))) rfl [0, 1] [] rfl rfl (by decide) (by decide) (by decide) 0 rfl (fun q h => by cases h; rfl) rfl ⟨by decide, by decide⟩ rfl rfl (by decide) (by decide) rfl (Nat.le_of_ble_eq_true rfl) dX11_putG_19 (fun v w hq => ?_)
  obtain ⟨zm_31_2814, zr30_f_2815, hf_2816, hf_2817, rfl, rfl⟩ := hq
  show G E X 4 [(m, .inr (11, mkF r m_1 m_4 m_9 m_10 m_14 m_15 m_25 m_26 m_27 m_28 m_29 zm_31_2814 m_32 m_33 m_35 m_36 m_37 m_38 m_39 m_40 m_42)), ((r 30), .inl (E.2.2.1 1, 160000, .inl (nb zr30_f_2815)))] 0 0 [(3, .int (nI zr_2805)), (0, .ref m), (1, .long (lN a))] 22 []
  exact g_vret B hr dX11_putG_22 (by decide) (by decide) ⟨zm_31_2814, zr30_f_2815, (by first | assumption | omega | decide | exact hCF _ (by omega)), (by first | assumption | omega | decide | exact hCF _ (by omega)), (by first | assumption | omega | decide | exact hCF _ (by omega)), (by first | assumption | omega | decide | exact hCF _ (by omega)), rfl, rfl⟩
abbrev MX11_putSide : g_M := (yX11_putSide, cX11_putSide, 5, none)
theorem dX11_putSide_0 : decode cX11_putSide 0 = .ok (.iload_n 3, 1) := by decide +kernel
theorem dX11_putSide_1 : decode cX11_putSide 1 = .ok (.iconst 1, 1) := by decide +kernel
theorem dX11_putSide_2 : decode cX11_putSide 2 = .ok (.isub, 1) := by decide +kernel
theorem dX11_putSide_3 : decode cX11_putSide 3 = .ok (.istore 4, 2) := by decide +kernel
theorem dX11_putSide_5 : decode cX11_putSide 5 = .ok (.iload 4, 2) := by decide +kernel
theorem dX11_putSide_7 : decode cX11_putSide 7 = .ok (.ifCond .lt 36, 3) := by decide +kernel
theorem dX11_putSide_10 : decode cX11_putSide 10 = .ok (.aload_n 0, 1) := by decide +kernel
theorem dX11_putSide_11 : decode cX11_putSide 11 = .ok (.getfield 74, 3) := by decide +kernel
theorem dX11_putSide_14 : decode cX11_putSide 14 = .ok (.aload_n 0, 1) := by decide +kernel
theorem dX11_putSide_15 : decode cX11_putSide 15 = .ok (.getfield 172, 3) := by decide +kernel
theorem w_fl_X11_172 : Cond.fieldLink RX11 172 (TX11 35).1 (TX11 35).2.1 (TX11 35).2.2.1 ∈ g_tbl := g_tbl_in 915 (by decide +kernel) (by decide +kernel)
theorem fl_X11_172 : FL RX11 172 11 35 := ⟨RX11, TX11, 50, rfl, by decide, inX_X11, w_fl_X11_172⟩
theorem dX11_putSide_18 : decode cX11_putSide 18 = .ok (.lload_n 1, 1) := by decide +kernel
theorem dX11_putSide_19 : decode cX11_putSide 19 = .ok (.iload 4, 2) := by decide +kernel
theorem dX11_putSide_21 : decode cX11_putSide 21 = .ok (.lshr, 1) := by decide +kernel
theorem dX11_putSide_22 : decode cX11_putSide 22 = .ok (.lconst 1, 1) := by decide +kernel
theorem dX11_putSide_23 : decode cX11_putSide 23 = .ok (.land, 1) := by decide +kernel
theorem dX11_putSide_24 : decode cX11_putSide 24 = .ok (.l2i, 1) := by decide +kernel
theorem dX11_putSide_25 : decode cX11_putSide 25 = .ok (.i2b, 1) := by decide +kernel
theorem dX11_putSide_26 : decode cX11_putSide 26 = .ok (.bastore, 1) := by decide +kernel
theorem dX11_putSide_27 : decode cX11_putSide 27 = .ok (.aload_n 0, 1) := by decide +kernel
theorem dX11_putSide_28 : decode cX11_putSide 28 = .ok (.dup, 1) := by decide +kernel
theorem dX11_putSide_29 : decode cX11_putSide 29 = .ok (.getfield 172, 3) := by decide +kernel
theorem dX11_putSide_32 : decode cX11_putSide 32 = .ok (.iconst 1, 1) := by decide +kernel
theorem dX11_putSide_33 : decode cX11_putSide 33 = .ok (.iadd, 1) := by decide +kernel
theorem dX11_putSide_34 : decode cX11_putSide 34 = .ok (.putfield 172, 3) := by decide +kernel
theorem pf_X11_35 : PF 11 35 .int false := fun C T N h => by cases h; exact ⟨⟨tyX11, tyX11_ok⟩, nmX11, by decide +kernel, rfl, rfl⟩
theorem dX11_putSide_37 : decode cX11_putSide 37 = .ok (.iinc 4 (-1), 3) := by decide +kernel
theorem dX11_putSide_40 : decode cX11_putSide 40 = .ok (.goto (-35), 3) := by decide +kernel
set_option maxRecDepth 100000 in
set_option maxHeartbeats 4000000 in
theorem lp_wr_X11_putSide_5 (E : g_E) (m : Nat) (r : Nat → Nat) (m_1 : Nat) (m_4 : Nat) (m_9 : Nat) (m_10 : Nat) (m_14 : Nat) (m_15 : Nat) (m_25 : Int32) (m_26 : Int32) (m_27 : Int64) (m_28 : Nat) (m_29 : Nat) (m_31 : Nat) (m_32 : Nat) (m_33 : Nat) (m_35 : Nat) (m_36 : Nat) (m_37 : Int32) (m_38 : Nat) (m_39 : Int32) (m_40 : Int32) (m_42 : Nat) (r34_f : Nat → Int32) (n : Nat) (v : Int64) (h0 : m_35 + n ≤ 50000) (hb0 : m_35 ≤ 50000)   {X : g_X} (B : Bd E X cX11_putSide RX11 5 0 0 0 0) (hr : Rt E X none 0 0 (fun v_ w_ => ∃ zm_35 : Nat, ∃ zr34_f : Nat → Int32, (zm_35 ≤ 50000) ∧ (zm_35 = m_35 + n) ∧ v_ = none ∧ w_ = [(m, .inr (11, mkF r m_1 m_4 m_9 m_10 m_14 m_15 m_25 m_26 m_27 m_28 m_29 m_31 m_32 m_33 zm_35 m_36 m_37 m_38 m_39 m_40 m_42)), ((r 34), .inl (E.2.2.1 1, 50000, .inl (nb zr34_f)))])) (K : ∀ (pm_35 : Nat) (pr34_f : Nat → Int32) (l4 : Nat), (pm_35 ≤ 50000) → (pm_35 + l4 = m_35 + n) → (l4 < 1) → G E X 5 [(m, .inr (11, mkF r m_1 m_4 m_9 m_10 m_14 m_15 m_25 m_26 m_27 m_28 m_29 m_31 m_32 m_33 pm_35 m_36 m_37 m_38 m_39 m_40 m_42)), ((r 34), .inl (E.2.2.1 1, 50000, .inl (nb pr34_f)))] 0 0 [(0, .ref m), (1, .long v), (3, .int (nI n)), (4, .int (nI l4 - 1))] 43 []) : ∀ (fuel : Nat) (pm_35 : Nat) (pr34_f : Nat → Int32) (l4 : Nat), (pm_35 ≤ 50000) → (pm_35 + l4 = m_35 + n) → (l4) < fuel → G E X 5 [(m, .inr (11, mkF r m_1 m_4 m_9 m_10 m_14 m_15 m_25 m_26 m_27 m_28 m_29 m_31 m_32 m_33 pm_35 m_36 m_37 m_38 m_39 m_40 m_42)), ((r 34), .inl (E.2.2.1 1, 50000, .inl (nb pr34_f)))] 0 0 [(0, .ref m), (1, .long v), (3, .int (nI n)), (4, .int (nI l4 - 1))] 5 [] := by
  intro fuel
  induction fuel with
  | zero => intro pm_35 pr34_f l4 _ _ h; exact absurd h (Nat.not_lt_zero _)
  | succ fuel ih =>
    intro pm_35 pr34_f l4 hv0 hv1 hm
    refine g_iload B dX11_putSide_5 3 rfl ?_
    refine g_if_lt (tgt := 43) B dX11_putSide_7 (by decide) (fun c7_2818 => ?_) (fun c7_2818 => ?_)
    · have hn_2820 : l4 < 1 := (dn_lt (l := l4) (by omega)).mp c7_2818
      exact K pm_35 pr34_f l4 (by first | assumption | omega | decide | exact hCF _ (by omega)) (by first | assumption | omega | decide | exact hCF _ (by omega)) (by first | assumption | omega | decide | exact hCF _ (by omega))
    · obtain ⟨j_2819, rfl⟩ : ∃ j_2819, l4 = j_2819 + 1 := ⟨l4 - 1, by have hq : ¬ l4 < 1 := fun q => c7_2818 ((dn_lt (l := l4) (by omega)).mpr q); omega⟩
      rw [nI_pred j_2819]
      refine g_aload_n B dX11_putSide_10 rfl 0 rfl ?_
      refine g_get B 0 34 fl_X11_74 rfl mf_34 dX11_putSide_11 ?_
      refine g_aload_n B dX11_putSide_14 rfl 0 rfl ?_
      refine g_get B 0 35 fl_X11_172 rfl mf_35 dX11_putSide_15 ?_
      refine g_lload_n B dX11_putSide_18 rfl 1 rfl ?_
      refine g_iload B dX11_putSide_19 3 rfl ?_
      refine g_lshr B dX11_putSide_21 ?_
      refine g_lconst (v := 1) B dX11_putSide_22 (by decide) ?_
      refine g_land B dX11_putSide_23 ?_
      refine g_l2i B dX11_putSide_24 ?_
      refine g_i2b B dX11_putSide_25 ?_
      refine g_bast (ws' := [(m, .inr (11, mkF r m_1 m_4 m_9 m_10 m_14 m_15 m_25 m_26 m_27 m_28 m_29 m_31 m_32 m_33 pm_35 m_36 m_37 m_38 m_39 m_40 m_42)), ((r 34), .inl (E.2.2.1 1, 50000, .inl (nb (upd pr34_f (Int32.toNatClampNeg (nI pm_35)) (Int8.toInt32 (Int32.toInt8 (Int64.toInt32 ((v >>> (Int32.toInt64 (nI j_2819) &&& 63)) &&& 1))))))))]) B 1 rfl (vp_in_nI (by omega) (by omega)) (by rw [nb_upd]; rfl) dX11_putSide_26 ?_
      refine g_aload_n B dX11_putSide_27 rfl 0 rfl ?_
      refine g_dup B dX11_putSide_28 rfl ?_
      refine g_get B 0 35 fl_X11_172 rfl mf_35 dX11_putSide_29 ?_
      refine g_iconst (v := 1) B dX11_putSide_32 (by decide) ?_
      refine g_iadd B dX11_putSide_33 ?_
      refine g_ri (x' := nI (pm_35 + 1)) (nI_add pm_35 1) ?_
      refine g_putM (ws' := [(m, .inr (11, mkF r m_1 m_4 m_9 m_10 m_14 m_15 m_25 m_26 m_27 m_28 m_29 m_31 m_32 m_33 (pm_35 + 1) m_36 m_37 m_38 m_39 m_40 m_42)), ((r 34), .inl (E.2.2.1 1, 50000, .inl (nb (upd pr34_f (Int32.toNatClampNeg (nI pm_35)) (Int8.toInt32 (Int32.toInt8 (Int64.toInt32 ((v >>> (Int32.toInt64 (nI j_2819) &&& 63)) &&& 1))))))))]) (fs' := mkF r m_1 m_4 m_9 m_10 m_14 m_15 m_25 m_26 m_27 m_28 m_29 m_31 m_32 m_33 (pm_35 + 1) m_36 m_37 m_38 m_39 m_40 m_42) B 0 35 fl_X11_172 pf_X11_35 rfl (mlt (by decide)) rfl rfl (ms_35 rfl) rfl dX11_putSide_34 ?_
      refine g_iinc (v := (nI j_2819 - 1)) (lv' := [(4, .int (nI j_2819 - 1)), (0, .ref m), (1, .long v), (3, .int (nI n))]) B dX11_putSide_37 3 rfl (i_m1 _) (by decide) rfl ?_
      refine g_goto (tgt := 5) B dX11_putSide_40 (by decide) ?_
      refine g_lvsub (lv' := [(0, .ref m), (1, .long v), (3, .int (nI n)), (4, .int (nI j_2819 - 1))]) [1, 2, 3, 0] rfl ?_
      exact ih (pm_35 + 1) (upd pr34_f (Int32.toNatClampNeg (nI pm_35)) (Int8.toInt32 (Int32.toInt8 (Int64.toInt32 ((v >>> (Int32.toInt64 (nI j_2819) &&& 63)) &&& 1))))) j_2819 (by first | assumption | omega | decide | exact hCF _ (by omega)) (by first | assumption | omega | decide | exact hCF _ (by omega)) (by omega)
theorem dX11_putSide_43 : decode cX11_putSide 43 = .ok (.return_, 1) := by decide +kernel
set_option maxRecDepth 100000 in
set_option maxHeartbeats 4000000 in
theorem wr_X11_putSide (E : g_E) (m : Nat) (r : Nat → Nat) (m_1 : Nat) (m_4 : Nat) (m_9 : Nat) (m_10 : Nat) (m_14 : Nat) (m_15 : Nat) (m_25 : Int32) (m_26 : Int32) (m_27 : Int64) (m_28 : Nat) (m_29 : Nat) (m_31 : Nat) (m_32 : Nat) (m_33 : Nat) (m_35 : Nat) (m_36 : Nat) (m_37 : Int32) (m_38 : Nat) (m_39 : Int32) (m_40 : Int32) (m_42 : Nat) (r34_f : Nat → Int32) (n : Nat) (v : Int64) (h0 : m_35 + n ≤ 50000) (hb0 : m_35 ≤ 50000) : Ev E MX11_putSide 0 0 0 0 [.ref m, .long v, .int (nI n)] [(m, .inr (11, mkF r m_1 m_4 m_9 m_10 m_14 m_15 m_25 m_26 m_27 m_28 m_29 m_31 m_32 m_33 m_35 m_36 m_37 m_38 m_39 m_40 m_42)), ((r 34), .inl (E.2.2.1 1, 50000, .inl (nb r34_f)))] (fun v_ w_ => ∃ zm_35 : Nat, ∃ zr34_f : Nat → Int32, (zm_35 ≤ 50000) ∧ (zm_35 = m_35 + n) ∧ v_ = none ∧ w_ = [(m, .inr (11, mkF r m_1 m_4 m_9 m_10 m_14 m_15 m_25 m_26 m_27 m_28 m_29 m_31 m_32 m_33 zm_35 m_36 m_37 m_38 m_39 m_40 m_42)), ((r 34), .inl (E.2.2.1 1, 50000, .inl (nb zr34_f)))]) := by
  refine Ev.intro (by decide) (Nat.le_of_ble_eq_true rfl) ?_
  intro X B hr hI
  have B : Bd E X cX11_putSide RX11 5 0 0 0 0 := B
  have hr : Rt E X none 0 0 (fun v_ w_ => ∃ zm_35 : Nat, ∃ zr34_f : Nat → Int32, (zm_35 ≤ 50000) ∧ (zm_35 = m_35 + n) ∧ v_ = none ∧ w_ = [(m, .inr (11, mkF r m_1 m_4 m_9 m_10 m_14 m_15 m_25 m_26 m_27 m_28 m_29 m_31 m_32 m_33 zm_35 m_36 m_37 m_38 m_39 m_40 m_42)), ((r 34), .inl (E.2.2.1 1, 50000, .inl (nb zr34_f)))]) := hr
  show G E X 5 [(m, .inr (11, mkF r m_1 m_4 m_9 m_10 m_14 m_15 m_25 m_26 m_27 m_28 m_29 m_31 m_32 m_33 m_35 m_36 m_37 m_38 m_39 m_40 m_42)), ((r 34), .inl (E.2.2.1 1, 50000, .inl (nb r34_f)))] 0 0 [(0, .ref m), (1, .long v), (3, .int (nI n))] 0 []
  refine g_iload_n B dX11_putSide_0 rfl 2 rfl ?_
  refine g_iconst (v := 1) B dX11_putSide_1 (by decide) ?_
  refine g_isub B dX11_putSide_2 ?_
  refine g_istore (lv' := [(4, .int (nI n - 1)), (0, .ref m), (1, .long v), (3, .int (nI n))]) B dX11_putSide_3 (by decide) rfl ?_
  refine g_lvsub (lv' := [(0, .ref m), (1, .long v), (3, .int (nI n)), (4, .int (nI n - 1))]) [1, 2, 3, 0] rfl ?_
  refine lp_wr_X11_putSide_5 E m r m_1 m_4 m_9 m_10 m_14 m_15 m_25 m_26 m_27 m_28 m_29 m_31 m_32 m_33 m_35 m_36 m_37 m_38 m_39 m_40 m_42 r34_f n v h0 hb0   B hr (fun y_2821pm_35 y_2821pr34_f y_2821l4 y_2821k0 y_2821k1 y_2821k2 => ?_) _ m_35 r34_f n (by first | assumption | omega | decide | exact hCF _ (by omega)) (by first | assumption | omega | decide | exact hCF _ (by omega)) (Nat.lt_succ_self _)
  show G E X 5 [(m, .inr (11, mkF r m_1 m_4 m_9 m_10 m_14 m_15 m_25 m_26 m_27 m_28 m_29 m_31 m_32 m_33 y_2821pm_35 m_36 m_37 m_38 m_39 m_40 m_42)), ((r 34), .inl (E.2.2.1 1, 50000, .inl (nb y_2821pr34_f)))] 0 0 [(0, .ref m), (1, .long v), (3, .int (nI n)), (4, .int (nI y_2821l4 - 1))] 43 []
  exact g_vret B hr dX11_putSide_43 (by decide) (by decide) ⟨y_2821pm_35, y_2821pr34_f, (by first | assumption | omega | decide | exact hCF _ (by omega)), (by first | assumption | omega | decide | exact hCF _ (by omega)), rfl, rfl⟩
abbrev MX11_putT : g_M := (yX11_putT, cX11_putT, 8, none)
theorem dX11_putT_0 : decode cX11_putT 0 = .ok (.lload_n 3, 1) := by decide +kernel
theorem dX11_putT_1 : decode cX11_putT 1 = .ok (.invokestatic 166, 3) := by decide +kernel
theorem dX11_putT_4 : decode cX11_putT 4 = .ok (.iconst 1, 1) := by decide +kernel
theorem dX11_putT_5 : decode cX11_putT 5 = .ok (.isub, 1) := by decide +kernel
theorem dX11_putT_6 : decode cX11_putT 6 = .ok (.istore 5, 2) := by decide +kernel
theorem dX11_putT_8 : decode cX11_putT 8 = .ok (.ldc2_w 132, 3) := by decide +kernel
theorem dX11_putT_11 : decode cX11_putT 11 = .ok (.iload 5, 2) := by decide +kernel
theorem dX11_putT_13 : decode cX11_putT 13 = .ok (.lshl, 1) := by decide +kernel
theorem dX11_putT_14 : decode cX11_putT 14 = .ok (.lload_n 3, 1) := by decide +kernel
theorem dX11_putT_15 : decode cX11_putT 15 = .ok (.lsub, 1) := by decide +kernel
theorem dX11_putT_16 : decode cX11_putT 16 = .ok (.lstore 6, 2) := by decide +kernel
theorem dX11_putT_18 : decode cX11_putT 18 = .ok (.lload_n 1, 1) := by decide +kernel
theorem dX11_putT_19 : decode cX11_putT 19 = .ok (.lload 6, 2) := by decide +kernel
theorem dX11_putT_21 : decode cX11_putT 21 = .ok (.lcmp, 1) := by decide +kernel
theorem dX11_putT_22 : decode cX11_putT 22 = .ok (.ifCond .ge 13, 3) := by decide +kernel
theorem dX11_putT_35 : decode cX11_putT 35 = .ok (.aload_n 0, 1) := by decide +kernel
theorem dX11_putT_36 : decode cX11_putT 36 = .ok (.lload_n 1, 1) := by decide +kernel
theorem dX11_putT_37 : decode cX11_putT 37 = .ok (.lload 6, 2) := by decide +kernel
theorem dX11_putT_39 : decode cX11_putT 39 = .ok (.ladd, 1) := by decide +kernel
theorem dX11_putT_40 : decode cX11_putT 40 = .ok (.iload 5, 2) := by decide +kernel
theorem dX11_putT_42 : decode cX11_putT 42 = .ok (.iconst 1, 1) := by decide +kernel
theorem dX11_putT_43 : decode cX11_putT 43 = .ok (.iadd, 1) := by decide +kernel
theorem dX11_putT_44 : decode cX11_putT 44 = .ok (.invokevirtual 175, 3) := by decide +kernel
theorem w_ml_X11_175 : Cond.methodLink RX11 175 yX11_putSide ∈ g_tbl := g_tbl_in 1155 (by decide +kernel) (by decide +kernel)
theorem w_cd_X11_putSide : g_cw MX11_putSide ∈ g_tbl := g_tbl_in 1158 (by decide +kernel) (by decide +kernel)
theorem cl_X11_175 : CL RX11 175 2 MX11_putSide := ⟨w_ml_X11_175, w_cd_X11_putSide, w_ini_X11, by decide +kernel, by decide +kernel, by decide +kernel⟩
theorem w_im_X11_putSide : Cond.instanceMethod yX11_putSide ∈ g_tbl := g_tbl_in 1157 (by decide +kernel) (by decide +kernel)
theorem w_se_X11_putSide : Cond.selects RX11 yX11_putSide yX11_putSide ∈ g_tbl := g_tbl_in 51 (by decide +kernel) (by decide +kernel)
theorem dX11_putT_47 : decode cX11_putT 47 = .ok (.return_, 1) := by decide +kernel
theorem dX11_putT_25 : decode cX11_putT 25 = .ok (.aload_n 0, 1) := by decide +kernel
theorem dX11_putT_26 : decode cX11_putT 26 = .ok (.lload_n 1, 1) := by decide +kernel
theorem dX11_putT_27 : decode cX11_putT 27 = .ok (.iload 5, 2) := by decide +kernel
theorem dX11_putT_29 : decode cX11_putT 29 = .ok (.invokevirtual 175, 3) := by decide +kernel
theorem dX11_putT_32 : decode cX11_putT 32 = .ok (.goto 15, 3) := by decide +kernel
set_option maxRecDepth 100000 in
set_option maxHeartbeats 4000000 in
theorem wr_X11_putT (E : g_E) (m : Nat) (r : Nat → Nat) (m_1 : Nat) (m_4 : Nat) (m_9 : Nat) (m_10 : Nat) (m_14 : Nat) (m_15 : Nat) (m_25 : Int32) (m_26 : Int32) (m_27 : Int64) (m_28 : Nat) (m_29 : Nat) (m_31 : Nat) (m_32 : Nat) (m_33 : Nat) (m_35 : Nat) (m_36 : Nat) (m_37 : Int32) (m_38 : Nat) (m_39 : Int32) (m_40 : Int32) (m_42 : Nat) (r34_f : Nat → Int32) (a : Nat) (o : Int64) (h0 : 0 < a) (h1 : a ≤ 65536) (h2 : m_35 + 17 ≤ 50000) (hb0 : m_35 ≤ 50000) : Ev E MX11_putT 3 64 0 0 [.ref m, .long o, .long (lN a)] [(m, .inr (11, mkF r m_1 m_4 m_9 m_10 m_14 m_15 m_25 m_26 m_27 m_28 m_29 m_31 m_32 m_33 m_35 m_36 m_37 m_38 m_39 m_40 m_42)), ((r 34), .inl (E.2.2.1 1, 50000, .inl (nb r34_f)))] (fun v_ w_ => ∃ zm_35 : Nat, ∃ zr34_f : Nat → Int32, (zm_35 ≤ 50000) ∧ (zm_35 ≤ m_35 + 17) ∧ v_ = none ∧ w_ = [(m, .inr (11, mkF r m_1 m_4 m_9 m_10 m_14 m_15 m_25 m_26 m_27 m_28 m_29 m_31 m_32 m_33 zm_35 m_36 m_37 m_38 m_39 m_40 m_42)), ((r 34), .inl (E.2.2.1 1, 50000, .inl (nb zr34_f)))]) := by
  refine Ev.intro (by decide) (Nat.le_of_ble_eq_true rfl) ?_
  intro X B hr hI
  have B : Bd E X cX11_putT RX11 8 3 64 0 0 := B
  have hr : Rt E X none 0 0 (fun v_ w_ => ∃ zm_35 : Nat, ∃ zr34_f : Nat → Int32, (zm_35 ≤ 50000) ∧ (zm_35 ≤ m_35 + 17) ∧ v_ = none ∧ w_ = [(m, .inr (11, mkF r m_1 m_4 m_9 m_10 m_14 m_15 m_25 m_26 m_27 m_28 m_29 m_31 m_32 m_33 zm_35 m_36 m_37 m_38 m_39 m_40 m_42)), ((r 34), .inl (E.2.2.1 1, 50000, .inl (nb zr34_f)))]) := hr
  show G E X 8 [(m, .inr (11, mkF r m_1 m_4 m_9 m_10 m_14 m_15 m_25 m_26 m_27 m_28 m_29 m_31 m_32 m_33 m_35 m_36 m_37 m_38 m_39 m_40 m_42)), ((r 34), .inl (E.2.2.1 1, 50000, .inl (nb r34_f)))] 0 0 [(0, .ref m), (1, .long o), (3, .long (lN a))] 0 []
  refine g_lload_n B dX11_putT_0 rfl 2 rfl ?_
  refine g_callS (st := []) (As := [.long (lN a)]) (wr := [(m, .inr (11, mkF r m_1 m_4 m_9 m_10 m_14 m_15 m_25 m_26 m_27 m_28 m_29 m_31 m_32 m_33 m_35 m_36 m_37 m_38 m_39 m_40 m_42)), ((r 34), .inl (E.2.2.1 1, 50000, .inl (nb r34_f)))]) (nc' := 0) (ns' := 0) B cl_X11_166 w_sm_X11_length (wr_length_n E a (by first | assumption | omega | decide | exact hCF _ (by omega)) (by first | assumption | omega | decide | exact hCF _ (by omega))) rfl [] [0, 1] rfl rfl (by decide) (by decide) (by decide) ⟨by decide, by decide⟩ rfl rfl (by decide) (by decide) rfl (Nat.le_of_ble_eq_true rfl) dX11_putT_1 (fun v w hq => ?_)
  obtain ⟨zr_2822, hf_2823, hf_2824, hf_2825, hf_2826, rfl, rfl⟩ := hq
  show G E X 8 [(m, .inr (11, mkF r m_1 m_4 m_9 m_10 m_14 m_15 m_25 m_26 m_27 m_28 m_29 m_31 m_32 m_33 m_35 m_36 m_37 m_38 m_39 m_40 m_42)), ((r 34), .inl (E.2.2.1 1, 50000, .inl (nb r34_f)))] 0 0 [(0, .ref m), (1, .long o), (3, .long (lN a))] 4 [.int (nI zr_2822)]
  refine g_iconst (v := 1) B dX11_putT_4 (by decide) ?_
  refine g_isub B dX11_putT_5 ?_
  refine g_ri (x' := nI (zr_2822 - 1)) (pk_sub (a := zr_2822) (b := 1) (by omega)) ?_
  refine g_istore (lv' := [(5, .int (nI (zr_2822 - 1))), (0, .ref m), (1, .long o), (3, .long (lN a))]) B dX11_putT_6 (by decide) rfl ?_
  refine g_ldc2 (v := 2) B w_k_X11_132 dX11_putT_8 ?_
  refine g_iload B dX11_putT_11 0 rfl ?_
  refine g_lshl B dX11_putT_13 ?_
  refine g_lload_n B dX11_putT_14 rfl 3 rfl ?_
  refine g_lsub B dX11_putT_15 ?_
  refine g_lstore (lv' := [(6, .long ((2 <<< (Int32.toInt64 (nI (zr_2822 - 1)) &&& 63)) - lN a)), (5, .int (nI (zr_2822 - 1))), (0, .ref m), (1, .long o), (3, .long (lN a))]) B dX11_putT_16 (by decide) rfl ?_
  refine g_lload_n B dX11_putT_18 rfl 3 rfl ?_
  refine g_lload B dX11_putT_19 0 rfl ?_
  refine g_lcmp B dX11_putT_21 ?_
  refine g_if_ge (tgt := 35) B dX11_putT_22 (by decide) (fun c22_2827 => ?_) (fun c22_2827 => ?_)
  · refine g_aload_n B dX11_putT_35 rfl 2 rfl ?_
    refine g_lload_n B dX11_putT_36 rfl 3 rfl ?_
    refine g_lload B dX11_putT_37 0 rfl ?_
    refine g_ladd B dX11_putT_39 ?_
    refine g_iload B dX11_putT_40 1 rfl ?_
    refine g_iconst (v := 1) B dX11_putT_42 (by decide) ?_
    refine g_iadd B dX11_putT_43 ?_
    refine g_ri (x' := nI ((zr_2822 - 1) + 1)) (nI_add (zr_2822 - 1) 1) ?_
    refine g_callV (st := []) (As := [.long (o + ((2 <<< (Int32.toInt64 (nI (zr_2822 - 1)) &&& 63)) - lN a)), .int (nI ((zr_2822 - 1) + 1))]) (wr := []) (nc' := 0) (ns' := 0) B cl_X11_175 w_im_X11_putSide w_se_X11_putSide (wr_X11_putSide E m r m_1 m_4 m_9 m_10 m_14 m_15 m_25 m_26 m_27 m_28 m_29 m_31 m_32 m_33 m_35 m_36 m_37 m_38 m_39 m_40 m_42 r34_f ((zr_2822 - 1) + 1) (o + ((2 <<< (Int32.toInt64 (nI (zr_2822 - 1)) &&& 63)) - lN a)) (by first | assumption | omega | decide | exact hCF _ (by omega)) (by first | assumption | omega | decide | exact hCF _ (by omega))) rfl [0, 1] [] rfl rfl (by decide) (by decide) (by decide) 0 rfl (fun q h => by cases h; rfl) rfl ⟨by decide, by decide⟩ rfl rfl (by decide) (by decide) rfl (Nat.le_of_ble_eq_true rfl) dX11_putT_44 (fun v w hq => ?_)
    obtain ⟨zm_35_2828, zr34_f_2829, hf_2830, hf_2831, rfl, rfl⟩ := hq
    show G E X 8 [(m, .inr (11, mkF r m_1 m_4 m_9 m_10 m_14 m_15 m_25 m_26 m_27 m_28 m_29 m_31 m_32 m_33 zm_35_2828 m_36 m_37 m_38 m_39 m_40 m_42)), ((r 34), .inl (E.2.2.1 1, 50000, .inl (nb zr34_f_2829)))] 0 0 [(6, .long ((2 <<< (Int32.toInt64 (nI (zr_2822 - 1)) &&& 63)) - lN a)), (5, .int (nI (zr_2822 - 1))), (0, .ref m), (1, .long o), (3, .long (lN a))] 47 []
    exact g_vret B hr dX11_putT_47 (by decide) (by decide) ⟨zm_35_2828, zr34_f_2829, (by first | assumption | omega | decide | exact hCF _ (by omega)), (by first | assumption | omega | decide | exact hCF _ (by omega)), rfl, rfl⟩
  · refine g_aload_n B dX11_putT_25 rfl 2 rfl ?_
    refine g_lload_n B dX11_putT_26 rfl 3 rfl ?_
    refine g_iload B dX11_putT_27 1 rfl ?_
    refine g_callV (st := []) (As := [.long o, .int (nI (zr_2822 - 1))]) (wr := []) (nc' := 0) (ns' := 0) B cl_X11_175 w_im_X11_putSide w_se_X11_putSide (wr_X11_putSide E m r m_1 m_4 m_9 m_10 m_14 m_15 m_25 m_26 m_27 m_28 m_29 m_31 m_32 m_33 m_35 m_36 m_37 m_38 m_39 m_40 m_42 r34_f (zr_2822 - 1) o (by first | assumption | omega | decide | exact hCF _ (by omega)) (by first | assumption | omega | decide | exact hCF _ (by omega))) rfl [0, 1] [] rfl rfl (by decide) (by decide) (by decide) 0 rfl (fun q h => by cases h; rfl) rfl ⟨by decide, by decide⟩ rfl rfl (by decide) (by decide) rfl (Nat.le_of_ble_eq_true rfl) dX11_putT_29 (fun v w hq => ?_)
    obtain ⟨zm_35_2832, zr34_f_2833, hf_2834, hf_2835, rfl, rfl⟩ := hq
    show G E X 8 [(m, .inr (11, mkF r m_1 m_4 m_9 m_10 m_14 m_15 m_25 m_26 m_27 m_28 m_29 m_31 m_32 m_33 zm_35_2832 m_36 m_37 m_38 m_39 m_40 m_42)), ((r 34), .inl (E.2.2.1 1, 50000, .inl (nb zr34_f_2833)))] 0 0 [(6, .long ((2 <<< (Int32.toInt64 (nI (zr_2822 - 1)) &&& 63)) - lN a)), (5, .int (nI (zr_2822 - 1))), (0, .ref m), (1, .long o), (3, .long (lN a))] 32 []
    refine g_goto (tgt := 47) B dX11_putT_32 (by decide) ?_
    exact g_vret B hr dX11_putT_47 (by decide) (by decide) ⟨zm_35_2832, zr34_f_2833, (by first | assumption | omega | decide | exact hCF _ (by omega)), (by first | assumption | omega | decide | exact hCF _ (by omega)), rfl, rfl⟩
