abbrev MJ6_numberOfLeadingZeros_0f7a4 : g_M := (yJ6_numberOfLeadingZeros_0f7a4, cJ6_numberOfLeadingZeros_0f7a4, 2, (some .int))
theorem dJ6_numberOfLeadingZeros_0f7a4_0 : decode cJ6_numberOfLeadingZeros_0f7a4 0 = .ok (.iload_n 0, 1) := by decide +kernel
theorem dJ6_numberOfLeadingZeros_0f7a4_1 : decode cJ6_numberOfLeadingZeros_0f7a4 1 = .ok (.ifCond .gt 14, 3) := by decide +kernel
theorem dJ6_numberOfLeadingZeros_0f7a4_15 : decode cJ6_numberOfLeadingZeros_0f7a4 15 = .ok (.bipush 31, 2) := by decide +kernel
theorem dJ6_numberOfLeadingZeros_0f7a4_17 : decode cJ6_numberOfLeadingZeros_0f7a4 17 = .ok (.istore_n 1, 1) := by decide +kernel
theorem dJ6_numberOfLeadingZeros_0f7a4_18 : decode cJ6_numberOfLeadingZeros_0f7a4 18 = .ok (.iload_n 0, 1) := by decide +kernel
theorem dJ6_numberOfLeadingZeros_0f7a4_19 : decode cJ6_numberOfLeadingZeros_0f7a4 19 = .ok (.ldc_w 264, 3) := by decide +kernel
theorem w_k_J6_264 : Cond.constant RJ6 264 65536 ∈ g_tbl := g_tbl_in 1054 (by decide +kernel) (by decide +kernel)
theorem dJ6_numberOfLeadingZeros_0f7a4_22 : decode cJ6_numberOfLeadingZeros_0f7a4 22 = .ok (.if_icmp .lt 11, 3) := by decide +kernel
theorem dJ6_numberOfLeadingZeros_0f7a4_33 : decode cJ6_numberOfLeadingZeros_0f7a4 33 = .ok (.iload_n 0, 1) := by decide +kernel
theorem dJ6_numberOfLeadingZeros_0f7a4_34 : decode cJ6_numberOfLeadingZeros_0f7a4 34 = .ok (.sipush 256, 3) := by decide +kernel
theorem dJ6_numberOfLeadingZeros_0f7a4_37 : decode cJ6_numberOfLeadingZeros_0f7a4 37 = .ok (.if_icmp .lt 11, 3) := by decide +kernel
theorem dJ6_numberOfLeadingZeros_0f7a4_48 : decode cJ6_numberOfLeadingZeros_0f7a4 48 = .ok (.iload_n 0, 1) := by decide +kernel
theorem dJ6_numberOfLeadingZeros_0f7a4_49 : decode cJ6_numberOfLeadingZeros_0f7a4 49 = .ok (.bipush 16, 2) := by decide +kernel
theorem dJ6_numberOfLeadingZeros_0f7a4_51 : decode cJ6_numberOfLeadingZeros_0f7a4 51 = .ok (.if_icmp .lt 10, 3) := by decide +kernel
theorem dJ6_numberOfLeadingZeros_0f7a4_61 : decode cJ6_numberOfLeadingZeros_0f7a4 61 = .ok (.iload_n 0, 1) := by decide +kernel
theorem dJ6_numberOfLeadingZeros_0f7a4_62 : decode cJ6_numberOfLeadingZeros_0f7a4 62 = .ok (.iconst 4, 1) := by decide +kernel
theorem dJ6_numberOfLeadingZeros_0f7a4_63 : decode cJ6_numberOfLeadingZeros_0f7a4 63 = .ok (.if_icmp .lt 10, 3) := by decide +kernel
theorem dJ6_numberOfLeadingZeros_0f7a4_73 : decode cJ6_numberOfLeadingZeros_0f7a4 73 = .ok (.iload_n 1, 1) := by decide +kernel
theorem dJ6_numberOfLeadingZeros_0f7a4_74 : decode cJ6_numberOfLeadingZeros_0f7a4 74 = .ok (.iload_n 0, 1) := by decide +kernel
theorem dJ6_numberOfLeadingZeros_0f7a4_75 : decode cJ6_numberOfLeadingZeros_0f7a4 75 = .ok (.iconst 1, 1) := by decide +kernel
theorem dJ6_numberOfLeadingZeros_0f7a4_76 : decode cJ6_numberOfLeadingZeros_0f7a4 76 = .ok (.iushr, 1) := by decide +kernel
theorem dJ6_numberOfLeadingZeros_0f7a4_77 : decode cJ6_numberOfLeadingZeros_0f7a4 77 = .ok (.isub, 1) := by decide +kernel
theorem dJ6_numberOfLeadingZeros_0f7a4_78 : decode cJ6_numberOfLeadingZeros_0f7a4 78 = .ok (.ireturn, 1) := by decide +kernel
theorem dJ6_numberOfLeadingZeros_0f7a4_66 : decode cJ6_numberOfLeadingZeros_0f7a4 66 = .ok (.iinc 1 (-2), 3) := by decide +kernel
theorem dJ6_numberOfLeadingZeros_0f7a4_69 : decode cJ6_numberOfLeadingZeros_0f7a4 69 = .ok (.iload_n 0, 1) := by decide +kernel
theorem dJ6_numberOfLeadingZeros_0f7a4_70 : decode cJ6_numberOfLeadingZeros_0f7a4 70 = .ok (.iconst 2, 1) := by decide +kernel
theorem dJ6_numberOfLeadingZeros_0f7a4_71 : decode cJ6_numberOfLeadingZeros_0f7a4 71 = .ok (.iushr, 1) := by decide +kernel
theorem dJ6_numberOfLeadingZeros_0f7a4_72 : decode cJ6_numberOfLeadingZeros_0f7a4 72 = .ok (.istore_n 0, 1) := by decide +kernel
theorem dJ6_numberOfLeadingZeros_0f7a4_54 : decode cJ6_numberOfLeadingZeros_0f7a4 54 = .ok (.iinc 1 (-4), 3) := by decide +kernel
theorem dJ6_numberOfLeadingZeros_0f7a4_57 : decode cJ6_numberOfLeadingZeros_0f7a4 57 = .ok (.iload_n 0, 1) := by decide +kernel
theorem dJ6_numberOfLeadingZeros_0f7a4_58 : decode cJ6_numberOfLeadingZeros_0f7a4 58 = .ok (.iconst 4, 1) := by decide +kernel
theorem dJ6_numberOfLeadingZeros_0f7a4_59 : decode cJ6_numberOfLeadingZeros_0f7a4 59 = .ok (.iushr, 1) := by decide +kernel
theorem dJ6_numberOfLeadingZeros_0f7a4_60 : decode cJ6_numberOfLeadingZeros_0f7a4 60 = .ok (.istore_n 0, 1) := by decide +kernel
theorem dJ6_numberOfLeadingZeros_0f7a4_40 : decode cJ6_numberOfLeadingZeros_0f7a4 40 = .ok (.iinc 1 (-8), 3) := by decide +kernel
theorem dJ6_numberOfLeadingZeros_0f7a4_43 : decode cJ6_numberOfLeadingZeros_0f7a4 43 = .ok (.iload_n 0, 1) := by decide +kernel
theorem dJ6_numberOfLeadingZeros_0f7a4_44 : decode cJ6_numberOfLeadingZeros_0f7a4 44 = .ok (.bipush 8, 2) := by decide +kernel
theorem dJ6_numberOfLeadingZeros_0f7a4_46 : decode cJ6_numberOfLeadingZeros_0f7a4 46 = .ok (.iushr, 1) := by decide +kernel
theorem dJ6_numberOfLeadingZeros_0f7a4_47 : decode cJ6_numberOfLeadingZeros_0f7a4 47 = .ok (.istore_n 0, 1) := by decide +kernel
theorem dJ6_numberOfLeadingZeros_0f7a4_25 : decode cJ6_numberOfLeadingZeros_0f7a4 25 = .ok (.iinc 1 (-16), 3) := by decide +kernel
theorem dJ6_numberOfLeadingZeros_0f7a4_28 : decode cJ6_numberOfLeadingZeros_0f7a4 28 = .ok (.iload_n 0, 1) := by decide +kernel
theorem dJ6_numberOfLeadingZeros_0f7a4_29 : decode cJ6_numberOfLeadingZeros_0f7a4 29 = .ok (.bipush 16, 2) := by decide +kernel
theorem dJ6_numberOfLeadingZeros_0f7a4_31 : decode cJ6_numberOfLeadingZeros_0f7a4 31 = .ok (.iushr, 1) := by decide +kernel
theorem dJ6_numberOfLeadingZeros_0f7a4_32 : decode cJ6_numberOfLeadingZeros_0f7a4 32 = .ok (.istore_n 0, 1) := by decide +kernel
theorem dJ6_numberOfLeadingZeros_0f7a4_4 : decode cJ6_numberOfLeadingZeros_0f7a4 4 = .ok (.iload_n 0, 1) := by decide +kernel
theorem dJ6_numberOfLeadingZeros_0f7a4_5 : decode cJ6_numberOfLeadingZeros_0f7a4 5 = .ok (.ifCond .ne 8, 3) := by decide +kernel
theorem dJ6_numberOfLeadingZeros_0f7a4_13 : decode cJ6_numberOfLeadingZeros_0f7a4 13 = .ok (.iconst 0, 1) := by decide +kernel
theorem dJ6_numberOfLeadingZeros_0f7a4_14 : decode cJ6_numberOfLeadingZeros_0f7a4 14 = .ok (.ireturn, 1) := by decide +kernel
theorem dJ6_numberOfLeadingZeros_0f7a4_8 : decode cJ6_numberOfLeadingZeros_0f7a4 8 = .ok (.bipush 32, 2) := by decide +kernel
theorem dJ6_numberOfLeadingZeros_0f7a4_10 : decode cJ6_numberOfLeadingZeros_0f7a4 10 = .ok (.goto 4, 3) := by decide +kernel
set_option maxRecDepth 100000 in
def fn_wr_nlz_w (x : Int32) (β : Type) (k_ : Nat → β) : β := (if 0 < x then (fnL (Int32.toNatClampNeg x) (fun j_2290 => (if j_2290 < 65536 then (if j_2290 < 256 then (if j_2290 < 16 then (if j_2290 < 4 then (k_ (31 - (j_2290 / 2))) else (k_ (29 - ((j_2290 / 4) / 2)))) else (if (j_2290 / 16) < 4 then (k_ (27 - ((j_2290 / 16) / 2))) else (k_ (25 - (((j_2290 / 16) / 4) / 2))))) else (if (j_2290 / 256) < 16 then (if (j_2290 / 256) < 4 then (k_ (23 - ((j_2290 / 256) / 2))) else (k_ (21 - (((j_2290 / 256) / 4) / 2)))) else (if ((j_2290 / 256) / 16) < 4 then (k_ (19 - (((j_2290 / 256) / 16) / 2))) else (k_ (17 - ((((j_2290 / 256) / 16) / 4) / 2)))))) else (if (j_2290 / 65536) < 256 then (if (j_2290 / 65536) < 16 then (if (j_2290 / 65536) < 4 then (k_ (15 - ((j_2290 / 65536) / 2))) else (k_ (13 - (((j_2290 / 65536) / 4) / 2)))) else (if ((j_2290 / 65536) / 16) < 4 then (k_ (11 - (((j_2290 / 65536) / 16) / 2))) else (k_ (9 - ((((j_2290 / 65536) / 16) / 4) / 2))))) else (if ((j_2290 / 65536) / 256) < 16 then (if ((j_2290 / 65536) / 256) < 4 then (k_ (7 - (((j_2290 / 65536) / 256) / 2))) else (k_ (5 - ((((j_2290 / 65536) / 256) / 4) / 2)))) else (if (((j_2290 / 65536) / 256) / 16) < 4 then (k_ (3 - ((((j_2290 / 65536) / 256) / 16) / 2))) else (k_ (1 - (((((j_2290 / 65536) / 256) / 16) / 4) / 2))))))))) else (if x = 0 then (k_ 32) else (k_ 0)))
set_option maxRecDepth 100000 in
theorem fn_wr_nlz_w_s {x : Int32} {β : Type} {k_ : Nat → β} : fn_wr_nlz_w x β k_ = (if 0 < x then (fnL (Int32.toNatClampNeg x) (fun j_2290 => (if j_2290 < 65536 then (if j_2290 < 256 then (if j_2290 < 16 then (if j_2290 < 4 then (k_ (31 - (j_2290 / 2))) else (k_ (29 - ((j_2290 / 4) / 2)))) else (if (j_2290 / 16) < 4 then (k_ (27 - ((j_2290 / 16) / 2))) else (k_ (25 - (((j_2290 / 16) / 4) / 2))))) else (if (j_2290 / 256) < 16 then (if (j_2290 / 256) < 4 then (k_ (23 - ((j_2290 / 256) / 2))) else (k_ (21 - (((j_2290 / 256) / 4) / 2)))) else (if ((j_2290 / 256) / 16) < 4 then (k_ (19 - (((j_2290 / 256) / 16) / 2))) else (k_ (17 - ((((j_2290 / 256) / 16) / 4) / 2)))))) else (if (j_2290 / 65536) < 256 then (if (j_2290 / 65536) < 16 then (if (j_2290 / 65536) < 4 then (k_ (15 - ((j_2290 / 65536) / 2))) else (k_ (13 - (((j_2290 / 65536) / 4) / 2)))) else (if ((j_2290 / 65536) / 16) < 4 then (k_ (11 - (((j_2290 / 65536) / 16) / 2))) else (k_ (9 - ((((j_2290 / 65536) / 16) / 4) / 2))))) else (if ((j_2290 / 65536) / 256) < 16 then (if ((j_2290 / 65536) / 256) < 4 then (k_ (7 - (((j_2290 / 65536) / 256) / 2))) else (k_ (5 - ((((j_2290 / 65536) / 256) / 4) / 2)))) else (if (((j_2290 / 65536) / 256) / 16) < 4 then (k_ (3 - ((((j_2290 / 65536) / 256) / 16) / 2))) else (k_ (1 - (((((j_2290 / 65536) / 256) / 16) / 4) / 2))))))))) else (if x = 0 then (k_ 32) else (k_ 0))) := rfl
set_option maxRecDepth 100000 in
set_option maxHeartbeats 4000000 in
theorem wr_nlz_w (E : g_E) (x : Int32)  : Ev E MJ6_numberOfLeadingZeros_0f7a4 0 0 0 0 [.int x] [] (fun v_ w_ => ∃ zr : Nat, (zr ≤ 32) ∧ (∀ (β : Type) (k_ : Nat → β), fn_wr_nlz_w x β k_ = k_ zr) ∧ v_ = some (.int (nI zr)) ∧ w_ = []) := by
  refine Ev.intro (by decide) (Nat.le_of_ble_eq_true rfl) ?_
  intro X B hr hI
  have B : Bd E X cJ6_numberOfLeadingZeros_0f7a4 RJ6 2 0 0 0 0 := B
  have hr : Rt E X (some .int) 0 0 (fun v_ w_ => ∃ zr : Nat, (zr ≤ 32) ∧ (∀ (β : Type) (k_ : Nat → β), fn_wr_nlz_w x β k_ = k_ zr) ∧ v_ = some (.int (nI zr)) ∧ w_ = []) := hr
  have e_ := fun (β : Type) (k_ : Nat → β) => fn_wr_nlz_w_s (β := β) (k_ := k_) (x := x)
  show G E X 2 [] 0 0 [(0, .int x)] 0 []
  refine g_iload_n B dJ6_numberOfLeadingZeros_0f7a4_0 rfl 0 rfl ?_
  refine g_if_gt (tgt := 15) B dJ6_numberOfLeadingZeros_0f7a4_1 (by decide) (fun c1_2289 => ?_) (fun c1_2289 => ?_)
  · replace e_ := fun β k_ => (e_ β k_).trans (if_pos c1_2289)
    have hp := c1_2289
    obtain ⟨j_2290, hj_2290, rfl⟩ := nI_of (x := x) (fun q => Int32.lt_irrefl (Int32.lt_trans q hp))
    have h0j_2290 : 0 < j_2290 := (nI_ltI (a := 0) (b := j_2290) (by omega) (by omega)).mp hp
    replace e_ := fun β k_ => (e_ β k_).trans (fnL_eq (x := j_2290) (nI_clamp (by omega)) _)
    refine g_bipush (v := 31) B dJ6_numberOfLeadingZeros_0f7a4_15 (by decide) ?_
    refine g_istore_n (lv' := [(1, .int 31), (0, .int (nI j_2290))]) B dJ6_numberOfLeadingZeros_0f7a4_17 rfl (by decide) rfl ?_
    refine g_iload_n B dJ6_numberOfLeadingZeros_0f7a4_18 rfl 1 rfl ?_
    refine g_ldcw (v := 65536) B w_k_J6_264 dJ6_numberOfLeadingZeros_0f7a4_19 ?_
    refine g_icmp_lt (tgt := 33) B dJ6_numberOfLeadingZeros_0f7a4_22 (by decide) (fun c22_2291 => ?_) (fun c22_2291 => ?_)
    · have hn_2292 : j_2290 < 65536 := (nI_ltI (a := j_2290) (b := 65536) (by omega) (by omega)).mp c22_2291
      replace e_ := fun β k_ => (e_ β k_).trans (if_pos hn_2292)
      refine g_iload_n B dJ6_numberOfLeadingZeros_0f7a4_33 rfl 1 rfl ?_
      refine g_sipush (v := 256) B dJ6_numberOfLeadingZeros_0f7a4_34 (by decide) ?_
      refine g_icmp_lt (tgt := 48) B dJ6_numberOfLeadingZeros_0f7a4_37 (by decide) (fun c37_2294 => ?_) (fun c37_2294 => ?_)
      · have hn_2295 : j_2290 < 256 := (nI_ltI (a := j_2290) (b := 256) (by omega) (by omega)).mp c37_2294
        replace e_ := fun β k_ => (e_ β k_).trans (if_pos hn_2295)
        refine g_iload_n B dJ6_numberOfLeadingZeros_0f7a4_48 rfl 1 rfl ?_
        refine g_bipush (v := 16) B dJ6_numberOfLeadingZeros_0f7a4_49 (by decide) ?_
        refine g_icmp_lt (tgt := 61) B dJ6_numberOfLeadingZeros_0f7a4_51 (by decide) (fun c51_2297 => ?_) (fun c51_2297 => ?_)
        · have hn_2298 : j_2290 < 16 := (nI_ltI (a := j_2290) (b := 16) (by omega) (by omega)).mp c51_2297
          replace e_ := fun β k_ => (e_ β k_).trans (if_pos hn_2298)
          refine g_iload_n B dJ6_numberOfLeadingZeros_0f7a4_61 rfl 1 rfl ?_
          refine g_iconst (v := 4) B dJ6_numberOfLeadingZeros_0f7a4_62 (by decide) ?_
          refine g_icmp_lt (tgt := 73) B dJ6_numberOfLeadingZeros_0f7a4_63 (by decide) (fun c63_2300 => ?_) (fun c63_2300 => ?_)
          · have hn_2301 : j_2290 < 4 := (nI_ltI (a := j_2290) (b := 4) (by omega) (by omega)).mp c63_2300
            replace e_ := fun β k_ => (e_ β k_).trans (if_pos hn_2301)
            refine g_iload_n B dJ6_numberOfLeadingZeros_0f7a4_73 rfl 0 rfl ?_
            refine g_iload_n B dJ6_numberOfLeadingZeros_0f7a4_74 rfl 1 rfl ?_
            refine g_iconst (v := 1) B dJ6_numberOfLeadingZeros_0f7a4_75 (by decide) ?_
            refine g_iushr B dJ6_numberOfLeadingZeros_0f7a4_76 ?_
            refine g_ri (x' := nI (j_2290 / 2)) (pk_ushrN (n := j_2290) (by omega) 1 1 (by decide)) ?_
            refine g_isub B dJ6_numberOfLeadingZeros_0f7a4_77 ?_
            refine g_ri (x' := nI (31 - (j_2290 / 2))) (pk_sub (a := 31) (b := (j_2290 / 2)) (by omega)) ?_
            exact g_iret B hr dJ6_numberOfLeadingZeros_0f7a4_78 (by decide) (by decide) ⟨(31 - (j_2290 / 2)), (by first | assumption | omega | decide | exact hCF _ (by omega)), e_, rfl, rfl⟩
          · have hn_2302 : 4 ≤ j_2290 := Nat.not_lt.mp (fun q => c63_2300 ((nI_ltI (a := j_2290) (b := 4) (by omega) (by omega)).mpr q))
            replace e_ := fun β k_ => (e_ β k_).trans (if_neg (Nat.not_lt.mpr hn_2302))
            refine g_iinc (v := 29) (lv' := [(1, .int 29), (0, .int (nI j_2290))]) B dJ6_numberOfLeadingZeros_0f7a4_66 0 rfl (by decide) (by decide) rfl ?_
            refine g_iload_n B dJ6_numberOfLeadingZeros_0f7a4_69 rfl 1 rfl ?_
            refine g_iconst (v := 2) B dJ6_numberOfLeadingZeros_0f7a4_70 (by decide) ?_
            refine g_iushr B dJ6_numberOfLeadingZeros_0f7a4_71 ?_
            refine g_ri (x' := nI (j_2290 / 4)) (pk_ushrN (n := j_2290) (by omega) 2 2 (by decide)) ?_
            refine g_istore_n (lv' := [(0, .int (nI (j_2290 / 4))), (1, .int 29)]) B dJ6_numberOfLeadingZeros_0f7a4_72 rfl (by decide) rfl ?_
            refine g_iload_n B dJ6_numberOfLeadingZeros_0f7a4_73 rfl 1 rfl ?_
            refine g_iload_n B dJ6_numberOfLeadingZeros_0f7a4_74 rfl 0 rfl ?_
            refine g_iconst (v := 1) B dJ6_numberOfLeadingZeros_0f7a4_75 (by decide) ?_
            refine g_iushr B dJ6_numberOfLeadingZeros_0f7a4_76 ?_
            refine g_ri (x' := nI ((j_2290 / 4) / 2)) (pk_ushrN (n := (j_2290 / 4)) (by omega) 1 1 (by decide)) ?_
            refine g_isub B dJ6_numberOfLeadingZeros_0f7a4_77 ?_
            refine g_ri (x' := nI (29 - ((j_2290 / 4) / 2))) (pk_sub (a := 29) (b := ((j_2290 / 4) / 2)) (by omega)) ?_
            exact g_iret B hr dJ6_numberOfLeadingZeros_0f7a4_78 (by decide) (by decide) ⟨(29 - ((j_2290 / 4) / 2)), (by first | assumption | omega | decide | exact hCF _ (by omega)), e_, rfl, rfl⟩
        · have hn_2299 : 16 ≤ j_2290 := Nat.not_lt.mp (fun q => c51_2297 ((nI_ltI (a := j_2290) (b := 16) (by omega) (by omega)).mpr q))
          replace e_ := fun β k_ => (e_ β k_).trans (if_neg (Nat.not_lt.mpr hn_2299))
          refine g_iinc (v := 27) (lv' := [(1, .int 27), (0, .int (nI j_2290))]) B dJ6_numberOfLeadingZeros_0f7a4_54 0 rfl (by decide) (by decide) rfl ?_
          refine g_iload_n B dJ6_numberOfLeadingZeros_0f7a4_57 rfl 1 rfl ?_
          refine g_iconst (v := 4) B dJ6_numberOfLeadingZeros_0f7a4_58 (by decide) ?_
          refine g_iushr B dJ6_numberOfLeadingZeros_0f7a4_59 ?_
          refine g_ri (x' := nI (j_2290 / 16)) (pk_ushrN (n := j_2290) (by omega) 4 4 (by decide)) ?_
          refine g_istore_n (lv' := [(0, .int (nI (j_2290 / 16))), (1, .int 27)]) B dJ6_numberOfLeadingZeros_0f7a4_60 rfl (by decide) rfl ?_
          refine g_iload_n B dJ6_numberOfLeadingZeros_0f7a4_61 rfl 0 rfl ?_
          refine g_iconst (v := 4) B dJ6_numberOfLeadingZeros_0f7a4_62 (by decide) ?_
          refine g_icmp_lt (tgt := 73) B dJ6_numberOfLeadingZeros_0f7a4_63 (by decide) (fun c63_2303 => ?_) (fun c63_2303 => ?_)
          · have hn_2304 : (j_2290 / 16) < 4 := (nI_ltI (a := (j_2290 / 16)) (b := 4) (by omega) (by omega)).mp c63_2303
            replace e_ := fun β k_ => (e_ β k_).trans (if_pos hn_2304)
            refine g_iload_n B dJ6_numberOfLeadingZeros_0f7a4_73 rfl 1 rfl ?_
            refine g_iload_n B dJ6_numberOfLeadingZeros_0f7a4_74 rfl 0 rfl ?_
            refine g_iconst (v := 1) B dJ6_numberOfLeadingZeros_0f7a4_75 (by decide) ?_
            refine g_iushr B dJ6_numberOfLeadingZeros_0f7a4_76 ?_
            refine g_ri (x' := nI ((j_2290 / 16) / 2)) (pk_ushrN (n := (j_2290 / 16)) (by omega) 1 1 (by decide)) ?_
            refine g_isub B dJ6_numberOfLeadingZeros_0f7a4_77 ?_
            refine g_ri (x' := nI (27 - ((j_2290 / 16) / 2))) (pk_sub (a := 27) (b := ((j_2290 / 16) / 2)) (by omega)) ?_
            exact g_iret B hr dJ6_numberOfLeadingZeros_0f7a4_78 (by decide) (by decide) ⟨(27 - ((j_2290 / 16) / 2)), (by first | assumption | omega | decide | exact hCF _ (by omega)), e_, rfl, rfl⟩
          · have hn_2305 : 4 ≤ (j_2290 / 16) := Nat.not_lt.mp (fun q => c63_2303 ((nI_ltI (a := (j_2290 / 16)) (b := 4) (by omega) (by omega)).mpr q))
            replace e_ := fun β k_ => (e_ β k_).trans (if_neg (Nat.not_lt.mpr hn_2305))
            refine g_iinc (v := 25) (lv' := [(1, .int 25), (0, .int (nI (j_2290 / 16)))]) B dJ6_numberOfLeadingZeros_0f7a4_66 1 rfl (by decide) (by decide) rfl ?_
            refine g_iload_n B dJ6_numberOfLeadingZeros_0f7a4_69 rfl 1 rfl ?_
            refine g_iconst (v := 2) B dJ6_numberOfLeadingZeros_0f7a4_70 (by decide) ?_
            refine g_iushr B dJ6_numberOfLeadingZeros_0f7a4_71 ?_
            refine g_ri (x' := nI ((j_2290 / 16) / 4)) (pk_ushrN (n := (j_2290 / 16)) (by omega) 2 2 (by decide)) ?_
            refine g_istore_n (lv' := [(0, .int (nI ((j_2290 / 16) / 4))), (1, .int 25)]) B dJ6_numberOfLeadingZeros_0f7a4_72 rfl (by decide) rfl ?_
            refine g_iload_n B dJ6_numberOfLeadingZeros_0f7a4_73 rfl 1 rfl ?_
            refine g_iload_n B dJ6_numberOfLeadingZeros_0f7a4_74 rfl 0 rfl ?_
            refine g_iconst (v := 1) B dJ6_numberOfLeadingZeros_0f7a4_75 (by decide) ?_
            refine g_iushr B dJ6_numberOfLeadingZeros_0f7a4_76 ?_
            refine g_ri (x' := nI (((j_2290 / 16) / 4) / 2)) (pk_ushrN (n := ((j_2290 / 16) / 4)) (by omega) 1 1 (by decide)) ?_
            refine g_isub B dJ6_numberOfLeadingZeros_0f7a4_77 ?_
            refine g_ri (x' := nI (25 - (((j_2290 / 16) / 4) / 2))) (pk_sub (a := 25) (b := (((j_2290 / 16) / 4) / 2)) (by omega)) ?_
            exact g_iret B hr dJ6_numberOfLeadingZeros_0f7a4_78 (by decide) (by decide) ⟨(25 - (((j_2290 / 16) / 4) / 2)), (by first | assumption | omega | decide | exact hCF _ (by omega)), e_, rfl, rfl⟩
      · have hn_2296 : 256 ≤ j_2290 := Nat.not_lt.mp (fun q => c37_2294 ((nI_ltI (a := j_2290) (b := 256) (by omega) (by omega)).mpr q))
        replace e_ := fun β k_ => (e_ β k_).trans (if_neg (Nat.not_lt.mpr hn_2296))
        refine g_iinc (v := 23) (lv' := [(1, .int 23), (0, .int (nI j_2290))]) B dJ6_numberOfLeadingZeros_0f7a4_40 0 rfl (by decide) (by decide) rfl ?_
        refine g_iload_n B dJ6_numberOfLeadingZeros_0f7a4_43 rfl 1 rfl ?_
        refine g_bipush (v := 8) B dJ6_numberOfLeadingZeros_0f7a4_44 (by decide) ?_
        refine g_iushr B dJ6_numberOfLeadingZeros_0f7a4_46 ?_
        refine g_ri (x' := nI (j_2290 / 256)) (pk_ushrN (n := j_2290) (by omega) 8 8 (by decide)) ?_
        refine g_istore_n (lv' := [(0, .int (nI (j_2290 / 256))), (1, .int 23)]) B dJ6_numberOfLeadingZeros_0f7a4_47 rfl (by decide) rfl ?_
        refine g_iload_n B dJ6_numberOfLeadingZeros_0f7a4_48 rfl 0 rfl ?_
        refine g_bipush (v := 16) B dJ6_numberOfLeadingZeros_0f7a4_49 (by decide) ?_
        refine g_icmp_lt (tgt := 61) B dJ6_numberOfLeadingZeros_0f7a4_51 (by decide) (fun c51_2306 => ?_) (fun c51_2306 => ?_)
        · have hn_2307 : (j_2290 / 256) < 16 := (nI_ltI (a := (j_2290 / 256)) (b := 16) (by omega) (by omega)).mp c51_2306
          replace e_ := fun β k_ => (e_ β k_).trans (if_pos hn_2307)
          refine g_iload_n B dJ6_numberOfLeadingZeros_0f7a4_61 rfl 0 rfl ?_
          refine g_iconst (v := 4) B dJ6_numberOfLeadingZeros_0f7a4_62 (by decide) ?_
          refine g_icmp_lt (tgt := 73) B dJ6_numberOfLeadingZeros_0f7a4_63 (by decide) (fun c63_2309 => ?_) (fun c63_2309 => ?_)
          · have hn_2310 : (j_2290 / 256) < 4 := (nI_ltI (a := (j_2290 / 256)) (b := 4) (by omega) (by omega)).mp c63_2309
            replace e_ := fun β k_ => (e_ β k_).trans (if_pos hn_2310)
            refine g_iload_n B dJ6_numberOfLeadingZeros_0f7a4_73 rfl 1 rfl ?_
            refine g_iload_n B dJ6_numberOfLeadingZeros_0f7a4_74 rfl 0 rfl ?_
            refine g_iconst (v := 1) B dJ6_numberOfLeadingZeros_0f7a4_75 (by decide) ?_
            refine g_iushr B dJ6_numberOfLeadingZeros_0f7a4_76 ?_
            refine g_ri (x' := nI ((j_2290 / 256) / 2)) (pk_ushrN (n := (j_2290 / 256)) (by omega) 1 1 (by decide)) ?_
            refine g_isub B dJ6_numberOfLeadingZeros_0f7a4_77 ?_
            refine g_ri (x' := nI (23 - ((j_2290 / 256) / 2))) (pk_sub (a := 23) (b := ((j_2290 / 256) / 2)) (by omega)) ?_
            exact g_iret B hr dJ6_numberOfLeadingZeros_0f7a4_78 (by decide) (by decide) ⟨(23 - ((j_2290 / 256) / 2)), (by first | assumption | omega | decide | exact hCF _ (by omega)), e_, rfl, rfl⟩
          · have hn_2311 : 4 ≤ (j_2290 / 256) := Nat.not_lt.mp (fun q => c63_2309 ((nI_ltI (a := (j_2290 / 256)) (b := 4) (by omega) (by omega)).mpr q))
            replace e_ := fun β k_ => (e_ β k_).trans (if_neg (Nat.not_lt.mpr hn_2311))
            refine g_iinc (v := 21) (lv' := [(1, .int 21), (0, .int (nI (j_2290 / 256)))]) B dJ6_numberOfLeadingZeros_0f7a4_66 1 rfl (by decide) (by decide) rfl ?_
            refine g_iload_n B dJ6_numberOfLeadingZeros_0f7a4_69 rfl 1 rfl ?_
            refine g_iconst (v := 2) B dJ6_numberOfLeadingZeros_0f7a4_70 (by decide) ?_
            refine g_iushr B dJ6_numberOfLeadingZeros_0f7a4_71 ?_
            refine g_ri (x' := nI ((j_2290 / 256) / 4)) (pk_ushrN (n := (j_2290 / 256)) (by omega) 2 2 (by decide)) ?_
            refine g_istore_n (lv' := [(0, .int (nI ((j_2290 / 256) / 4))), (1, .int 21)]) B dJ6_numberOfLeadingZeros_0f7a4_72 rfl (by decide) rfl ?_
            refine g_iload_n B dJ6_numberOfLeadingZeros_0f7a4_73 rfl 1 rfl ?_
            refine g_iload_n B dJ6_numberOfLeadingZeros_0f7a4_74 rfl 0 rfl ?_
            refine g_iconst (v := 1) B dJ6_numberOfLeadingZeros_0f7a4_75 (by decide) ?_
            refine g_iushr B dJ6_numberOfLeadingZeros_0f7a4_76 ?_
            refine g_ri (x' := nI (((j_2290 / 256) / 4) / 2)) (pk_ushrN (n := ((j_2290 / 256) / 4)) (by omega) 1 1 (by decide)) ?_
            refine g_isub B dJ6_numberOfLeadingZeros_0f7a4_77 ?_
            refine g_ri (x' := nI (21 - (((j_2290 / 256) / 4) / 2))) (pk_sub (a := 21) (b := (((j_2290 / 256) / 4) / 2)) (by omega)) ?_
            exact g_iret B hr dJ6_numberOfLeadingZeros_0f7a4_78 (by decide) (by decide) ⟨(21 - (((j_2290 / 256) / 4) / 2)), (by first | assumption | omega | decide | exact hCF _ (by omega)), e_, rfl, rfl⟩
        · have hn_2308 : 16 ≤ (j_2290 / 256) := Nat.not_lt.mp (fun q => c51_2306 ((nI_ltI (a := (j_2290 / 256)) (b := 16) (by omega) (by omega)).mpr q))
          replace e_ := fun β k_ => (e_ β k_).trans (if_neg (Nat.not_lt.mpr hn_2308))
          refine g_iinc (v := 19) (lv' := [(1, .int 19), (0, .int (nI (j_2290 / 256)))]) B dJ6_numberOfLeadingZeros_0f7a4_54 1 rfl (by decide) (by decide) rfl ?_
          refine g_iload_n B dJ6_numberOfLeadingZeros_0f7a4_57 rfl 1 rfl ?_
          refine g_iconst (v := 4) B dJ6_numberOfLeadingZeros_0f7a4_58 (by decide) ?_
          refine g_iushr B dJ6_numberOfLeadingZeros_0f7a4_59 ?_
          refine g_ri (x' := nI ((j_2290 / 256) / 16)) (pk_ushrN (n := (j_2290 / 256)) (by omega) 4 4 (by decide)) ?_
          refine g_istore_n (lv' := [(0, .int (nI ((j_2290 / 256) / 16))), (1, .int 19)]) B dJ6_numberOfLeadingZeros_0f7a4_60 rfl (by decide) rfl ?_
          refine g_iload_n B dJ6_numberOfLeadingZeros_0f7a4_61 rfl 0 rfl ?_
          refine g_iconst (v := 4) B dJ6_numberOfLeadingZeros_0f7a4_62 (by decide) ?_
          refine g_icmp_lt (tgt := 73) B dJ6_numberOfLeadingZeros_0f7a4_63 (by decide) (fun c63_2312 => ?_) (fun c63_2312 => ?_)
          · have hn_2313 : ((j_2290 / 256) / 16) < 4 := (nI_ltI (a := ((j_2290 / 256) / 16)) (b := 4) (by omega) (by omega)).mp c63_2312
            replace e_ := fun β k_ => (e_ β k_).trans (if_pos hn_2313)
            refine g_iload_n B dJ6_numberOfLeadingZeros_0f7a4_73 rfl 1 rfl ?_
            refine g_iload_n B dJ6_numberOfLeadingZeros_0f7a4_74 rfl 0 rfl ?_
            refine g_iconst (v := 1) B dJ6_numberOfLeadingZeros_0f7a4_75 (by decide) ?_
            refine g_iushr B dJ6_numberOfLeadingZeros_0f7a4_76 ?_
            refine g_ri (x' := nI (((j_2290 / 256) / 16) / 2)) (pk_ushrN (n := ((j_2290 / 256) / 16)) (by omega) 1 1 (by decide)) ?_
            refine g_isub B dJ6_numberOfLeadingZeros_0f7a4_77 ?_
            refine g_ri (x' := nI (19 - (((j_2290 / 256) / 16) / 2))) (pk_sub (a := 19) (b := (((j_2290 / 256) / 16) / 2)) (by omega)) ?_
            exact g_iret B hr dJ6_numberOfLeadingZeros_0f7a4_78 (by decide) (by decide) ⟨(19 - (((j_2290 / 256) / 16) / 2)), (by first | assumption | omega | decide | exact hCF _ (by omega)), e_, rfl, rfl⟩
          · have hn_2314 : 4 ≤ ((j_2290 / 256) / 16) := Nat.not_lt.mp (fun q => c63_2312 ((nI_ltI (a := ((j_2290 / 256) / 16)) (b := 4) (by omega) (by omega)).mpr q))
            replace e_ := fun β k_ => (e_ β k_).trans (if_neg (Nat.not_lt.mpr hn_2314))
            refine g_iinc (v := 17) (lv' := [(1, .int 17), (0, .int (nI ((j_2290 / 256) / 16)))]) B dJ6_numberOfLeadingZeros_0f7a4_66 1 rfl (by decide) (by decide) rfl ?_
            refine g_iload_n B dJ6_numberOfLeadingZeros_0f7a4_69 rfl 1 rfl ?_
            refine g_iconst (v := 2) B dJ6_numberOfLeadingZeros_0f7a4_70 (by decide) ?_
            refine g_iushr B dJ6_numberOfLeadingZeros_0f7a4_71 ?_
            refine g_ri (x' := nI (((j_2290 / 256) / 16) / 4)) (pk_ushrN (n := ((j_2290 / 256) / 16)) (by omega) 2 2 (by decide)) ?_
            refine g_istore_n (lv' := [(0, .int (nI (((j_2290 / 256) / 16) / 4))), (1, .int 17)]) B dJ6_numberOfLeadingZeros_0f7a4_72 rfl (by decide) rfl ?_
            refine g_iload_n B dJ6_numberOfLeadingZeros_0f7a4_73 rfl 1 rfl ?_
            refine g_iload_n B dJ6_numberOfLeadingZeros_0f7a4_74 rfl 0 rfl ?_
            refine g_iconst (v := 1) B dJ6_numberOfLeadingZeros_0f7a4_75 (by decide) ?_
            refine g_iushr B dJ6_numberOfLeadingZeros_0f7a4_76 ?_
            refine g_ri (x' := nI ((((j_2290 / 256) / 16) / 4) / 2)) (pk_ushrN (n := (((j_2290 / 256) / 16) / 4)) (by omega) 1 1 (by decide)) ?_
            refine g_isub B dJ6_numberOfLeadingZeros_0f7a4_77 ?_
            refine g_ri (x' := nI (17 - ((((j_2290 / 256) / 16) / 4) / 2))) (pk_sub (a := 17) (b := ((((j_2290 / 256) / 16) / 4) / 2)) (by omega)) ?_
            exact g_iret B hr dJ6_numberOfLeadingZeros_0f7a4_78 (by decide) (by decide) ⟨(17 - ((((j_2290 / 256) / 16) / 4) / 2)), (by first | assumption | omega | decide | exact hCF _ (by omega)), e_, rfl, rfl⟩
    · have hn_2293 : 65536 ≤ j_2290 := Nat.not_lt.mp (fun q => c22_2291 ((nI_ltI (a := j_2290) (b := 65536) (by omega) (by omega)).mpr q))
      replace e_ := fun β k_ => (e_ β k_).trans (if_neg (Nat.not_lt.mpr hn_2293))
      refine g_iinc (v := 15) (lv' := [(1, .int 15), (0, .int (nI j_2290))]) B dJ6_numberOfLeadingZeros_0f7a4_25 0 rfl (by decide) (by decide) rfl ?_
      refine g_iload_n B dJ6_numberOfLeadingZeros_0f7a4_28 rfl 1 rfl ?_
      refine g_bipush (v := 16) B dJ6_numberOfLeadingZeros_0f7a4_29 (by decide) ?_
      refine g_iushr B dJ6_numberOfLeadingZeros_0f7a4_31 ?_
      refine g_ri (x' := nI (j_2290 / 65536)) (pk_ushrN (n := j_2290) (by omega) 16 16 (by decide)) ?_
      refine g_istore_n (lv' := [(0, .int (nI (j_2290 / 65536))), (1, .int 15)]) B dJ6_numberOfLeadingZeros_0f7a4_32 rfl (by decide) rfl ?_
      refine g_iload_n B dJ6_numberOfLeadingZeros_0f7a4_33 rfl 0 rfl ?_
      refine g_sipush (v := 256) B dJ6_numberOfLeadingZeros_0f7a4_34 (by decide) ?_
      refine g_icmp_lt (tgt := 48) B dJ6_numberOfLeadingZeros_0f7a4_37 (by decide) (fun c37_2315 => ?_) (fun c37_2315 => ?_)
      · have hn_2316 : (j_2290 / 65536) < 256 := (nI_ltI (a := (j_2290 / 65536)) (b := 256) (by omega) (by omega)).mp c37_2315
        replace e_ := fun β k_ => (e_ β k_).trans (if_pos hn_2316)
        refine g_iload_n B dJ6_numberOfLeadingZeros_0f7a4_48 rfl 0 rfl ?_
        refine g_bipush (v := 16) B dJ6_numberOfLeadingZeros_0f7a4_49 (by decide) ?_
        refine g_icmp_lt (tgt := 61) B dJ6_numberOfLeadingZeros_0f7a4_51 (by decide) (fun c51_2318 => ?_) (fun c51_2318 => ?_)
        · have hn_2319 : (j_2290 / 65536) < 16 := (nI_ltI (a := (j_2290 / 65536)) (b := 16) (by omega) (by omega)).mp c51_2318
          replace e_ := fun β k_ => (e_ β k_).trans (if_pos hn_2319)
          refine g_iload_n B dJ6_numberOfLeadingZeros_0f7a4_61 rfl 0 rfl ?_
          refine g_iconst (v := 4) B dJ6_numberOfLeadingZeros_0f7a4_62 (by decide) ?_
          refine g_icmp_lt (tgt := 73) B dJ6_numberOfLeadingZeros_0f7a4_63 (by decide) (fun c63_2321 => ?_) (fun c63_2321 => ?_)
          · have hn_2322 : (j_2290 / 65536) < 4 := (nI_ltI (a := (j_2290 / 65536)) (b := 4) (by omega) (by omega)).mp c63_2321
            replace e_ := fun β k_ => (e_ β k_).trans (if_pos hn_2322)
            refine g_iload_n B dJ6_numberOfLeadingZeros_0f7a4_73 rfl 1 rfl ?_
            refine g_iload_n B dJ6_numberOfLeadingZeros_0f7a4_74 rfl 0 rfl ?_
            refine g_iconst (v := 1) B dJ6_numberOfLeadingZeros_0f7a4_75 (by decide) ?_
            refine g_iushr B dJ6_numberOfLeadingZeros_0f7a4_76 ?_
            refine g_ri (x' := nI ((j_2290 / 65536) / 2)) (pk_ushrN (n := (j_2290 / 65536)) (by omega) 1 1 (by decide)) ?_
            refine g_isub B dJ6_numberOfLeadingZeros_0f7a4_77 ?_
            refine g_ri (x' := nI (15 - ((j_2290 / 65536) / 2))) (pk_sub (a := 15) (b := ((j_2290 / 65536) / 2)) (by omega)) ?_
            exact g_iret B hr dJ6_numberOfLeadingZeros_0f7a4_78 (by decide) (by decide) ⟨(15 - ((j_2290 / 65536) / 2)), (by first | assumption | omega | decide | exact hCF _ (by omega)), e_, rfl, rfl⟩
          · have hn_2323 : 4 ≤ (j_2290 / 65536) := Nat.not_lt.mp (fun q => c63_2321 ((nI_ltI (a := (j_2290 / 65536)) (b := 4) (by omega) (by omega)).mpr q))
            replace e_ := fun β k_ => (e_ β k_).trans (if_neg (Nat.not_lt.mpr hn_2323))
            refine g_iinc (v := 13) (lv' := [(1, .int 13), (0, .int (nI (j_2290 / 65536)))]) B dJ6_numberOfLeadingZeros_0f7a4_66 1 rfl (by decide) (by decide) rfl ?_
            refine g_iload_n B dJ6_numberOfLeadingZeros_0f7a4_69 rfl 1 rfl ?_
            refine g_iconst (v := 2) B dJ6_numberOfLeadingZeros_0f7a4_70 (by decide) ?_
            refine g_iushr B dJ6_numberOfLeadingZeros_0f7a4_71 ?_
            refine g_ri (x' := nI ((j_2290 / 65536) / 4)) (pk_ushrN (n := (j_2290 / 65536)) (by omega) 2 2 (by decide)) ?_
            refine g_istore_n (lv' := [(0, .int (nI ((j_2290 / 65536) / 4))), (1, .int 13)]) B dJ6_numberOfLeadingZeros_0f7a4_72 rfl (by decide) rfl ?_
            refine g_iload_n B dJ6_numberOfLeadingZeros_0f7a4_73 rfl 1 rfl ?_
            refine g_iload_n B dJ6_numberOfLeadingZeros_0f7a4_74 rfl 0 rfl ?_
            refine g_iconst (v := 1) B dJ6_numberOfLeadingZeros_0f7a4_75 (by decide) ?_
            refine g_iushr B dJ6_numberOfLeadingZeros_0f7a4_76 ?_
            refine g_ri (x' := nI (((j_2290 / 65536) / 4) / 2)) (pk_ushrN (n := ((j_2290 / 65536) / 4)) (by omega) 1 1 (by decide)) ?_
            refine g_isub B dJ6_numberOfLeadingZeros_0f7a4_77 ?_
            refine g_ri (x' := nI (13 - (((j_2290 / 65536) / 4) / 2))) (pk_sub (a := 13) (b := (((j_2290 / 65536) / 4) / 2)) (by omega)) ?_
            exact g_iret B hr dJ6_numberOfLeadingZeros_0f7a4_78 (by decide) (by decide) ⟨(13 - (((j_2290 / 65536) / 4) / 2)), (by first | assumption | omega | decide | exact hCF _ (by omega)), e_, rfl, rfl⟩
        · have hn_2320 : 16 ≤ (j_2290 / 65536) := Nat.not_lt.mp (fun q => c51_2318 ((nI_ltI (a := (j_2290 / 65536)) (b := 16) (by omega) (by omega)).mpr q))
          replace e_ := fun β k_ => (e_ β k_).trans (if_neg (Nat.not_lt.mpr hn_2320))
          refine g_iinc (v := 11) (lv' := [(1, .int 11), (0, .int (nI (j_2290 / 65536)))]) B dJ6_numberOfLeadingZeros_0f7a4_54 1 rfl (by decide) (by decide) rfl ?_
          refine g_iload_n B dJ6_numberOfLeadingZeros_0f7a4_57 rfl 1 rfl ?_
          refine g_iconst (v := 4) B dJ6_numberOfLeadingZeros_0f7a4_58 (by decide) ?_
          refine g_iushr B dJ6_numberOfLeadingZeros_0f7a4_59 ?_
          refine g_ri (x' := nI ((j_2290 / 65536) / 16)) (pk_ushrN (n := (j_2290 / 65536)) (by omega) 4 4 (by decide)) ?_
          refine g_istore_n (lv' := [(0, .int (nI ((j_2290 / 65536) / 16))), (1, .int 11)]) B dJ6_numberOfLeadingZeros_0f7a4_60 rfl (by decide) rfl ?_
          refine g_iload_n B dJ6_numberOfLeadingZeros_0f7a4_61 rfl 0 rfl ?_
          refine g_iconst (v := 4) B dJ6_numberOfLeadingZeros_0f7a4_62 (by decide) ?_
          refine g_icmp_lt (tgt := 73) B dJ6_numberOfLeadingZeros_0f7a4_63 (by decide) (fun c63_2324 => ?_) (fun c63_2324 => ?_)
          · have hn_2325 : ((j_2290 / 65536) / 16) < 4 := (nI_ltI (a := ((j_2290 / 65536) / 16)) (b := 4) (by omega) (by omega)).mp c63_2324
            replace e_ := fun β k_ => (e_ β k_).trans (if_pos hn_2325)
            refine g_iload_n B dJ6_numberOfLeadingZeros_0f7a4_73 rfl 1 rfl ?_
            refine g_iload_n B dJ6_numberOfLeadingZeros_0f7a4_74 rfl 0 rfl ?_
            refine g_iconst (v := 1) B dJ6_numberOfLeadingZeros_0f7a4_75 (by decide) ?_
            refine g_iushr B dJ6_numberOfLeadingZeros_0f7a4_76 ?_
            refine g_ri (x' := nI (((j_2290 / 65536) / 16) / 2)) (pk_ushrN (n := ((j_2290 / 65536) / 16)) (by omega) 1 1 (by decide)) ?_
            refine g_isub B dJ6_numberOfLeadingZeros_0f7a4_77 ?_
            refine g_ri (x' := nI (11 - (((j_2290 / 65536) / 16) / 2))) (pk_sub (a := 11) (b := (((j_2290 / 65536) / 16) / 2)) (by omega)) ?_
            exact g_iret B hr dJ6_numberOfLeadingZeros_0f7a4_78 (by decide) (by decide) ⟨(11 - (((j_2290 / 65536) / 16) / 2)), (by first | assumption | omega | decide | exact hCF _ (by omega)), e_, rfl, rfl⟩
          · have hn_2326 : 4 ≤ ((j_2290 / 65536) / 16) := Nat.not_lt.mp (fun q => c63_2324 ((nI_ltI (a := ((j_2290 / 65536) / 16)) (b := 4) (by omega) (by omega)).mpr q))
            replace e_ := fun β k_ => (e_ β k_).trans (if_neg (Nat.not_lt.mpr hn_2326))
            refine g_iinc (v := 9) (lv' := [(1, .int 9), (0, .int (nI ((j_2290 / 65536) / 16)))]) B dJ6_numberOfLeadingZeros_0f7a4_66 1 rfl (by decide) (by decide) rfl ?_
            refine g_iload_n B dJ6_numberOfLeadingZeros_0f7a4_69 rfl 1 rfl ?_
            refine g_iconst (v := 2) B dJ6_numberOfLeadingZeros_0f7a4_70 (by decide) ?_
            refine g_iushr B dJ6_numberOfLeadingZeros_0f7a4_71 ?_
            refine g_ri (x' := nI (((j_2290 / 65536) / 16) / 4)) (pk_ushrN (n := ((j_2290 / 65536) / 16)) (by omega) 2 2 (by decide)) ?_
            refine g_istore_n (lv' := [(0, .int (nI (((j_2290 / 65536) / 16) / 4))), (1, .int 9)]) B dJ6_numberOfLeadingZeros_0f7a4_72 rfl (by decide) rfl ?_
            refine g_iload_n B dJ6_numberOfLeadingZeros_0f7a4_73 rfl 1 rfl ?_
            refine g_iload_n B dJ6_numberOfLeadingZeros_0f7a4_74 rfl 0 rfl ?_
            refine g_iconst (v := 1) B dJ6_numberOfLeadingZeros_0f7a4_75 (by decide) ?_
            refine g_iushr B dJ6_numberOfLeadingZeros_0f7a4_76 ?_
            refine g_ri (x' := nI ((((j_2290 / 65536) / 16) / 4) / 2)) (pk_ushrN (n := (((j_2290 / 65536) / 16) / 4)) (by omega) 1 1 (by decide)) ?_
            refine g_isub B dJ6_numberOfLeadingZeros_0f7a4_77 ?_
            refine g_ri (x' := nI (9 - ((((j_2290 / 65536) / 16) / 4) / 2))) (pk_sub (a := 9) (b := ((((j_2290 / 65536) / 16) / 4) / 2)) (by omega)) ?_
            exact g_iret B hr dJ6_numberOfLeadingZeros_0f7a4_78 (by decide) (by decide) ⟨(9 - ((((j_2290 / 65536) / 16) / 4) / 2)), (by first | assumption | omega | decide | exact hCF _ (by omega)), e_, rfl, rfl⟩
      · have hn_2317 : 256 ≤ (j_2290 / 65536) := Nat.not_lt.mp (fun q => c37_2315 ((nI_ltI (a := (j_2290 / 65536)) (b := 256) (by omega) (by omega)).mpr q))
        replace e_ := fun β k_ => (e_ β k_).trans (if_neg (Nat.not_lt.mpr hn_2317))
        refine g_iinc (v := 7) (lv' := [(1, .int 7), (0, .int (nI (j_2290 / 65536)))]) B dJ6_numberOfLeadingZeros_0f7a4_40 1 rfl (by decide) (by decide) rfl ?_
        refine g_iload_n B dJ6_numberOfLeadingZeros_0f7a4_43 rfl 1 rfl ?_
        refine g_bipush (v := 8) B dJ6_numberOfLeadingZeros_0f7a4_44 (by decide) ?_
        refine g_iushr B dJ6_numberOfLeadingZeros_0f7a4_46 ?_
        refine g_ri (x' := nI ((j_2290 / 65536) / 256)) (pk_ushrN (n := (j_2290 / 65536)) (by omega) 8 8 (by decide)) ?_
        refine g_istore_n (lv' := [(0, .int (nI ((j_2290 / 65536) / 256))), (1, .int 7)]) B dJ6_numberOfLeadingZeros_0f7a4_47 rfl (by decide) rfl ?_
        refine g_iload_n B dJ6_numberOfLeadingZeros_0f7a4_48 rfl 0 rfl ?_
        refine g_bipush (v := 16) B dJ6_numberOfLeadingZeros_0f7a4_49 (by decide) ?_
        refine g_icmp_lt (tgt := 61) B dJ6_numberOfLeadingZeros_0f7a4_51 (by decide) (fun c51_2327 => ?_) (fun c51_2327 => ?_)
        · have hn_2328 : ((j_2290 / 65536) / 256) < 16 := (nI_ltI (a := ((j_2290 / 65536) / 256)) (b := 16) (by omega) (by omega)).mp c51_2327
          replace e_ := fun β k_ => (e_ β k_).trans (if_pos hn_2328)
          refine g_iload_n B dJ6_numberOfLeadingZeros_0f7a4_61 rfl 0 rfl ?_
          refine g_iconst (v := 4) B dJ6_numberOfLeadingZeros_0f7a4_62 (by decide) ?_
          refine g_icmp_lt (tgt := 73) B dJ6_numberOfLeadingZeros_0f7a4_63 (by decide) (fun c63_2330 => ?_) (fun c63_2330 => ?_)
          · have hn_2331 : ((j_2290 / 65536) / 256) < 4 := (nI_ltI (a := ((j_2290 / 65536) / 256)) (b := 4) (by omega) (by omega)).mp c63_2330
            replace e_ := fun β k_ => (e_ β k_).trans (if_pos hn_2331)
            refine g_iload_n B dJ6_numberOfLeadingZeros_0f7a4_73 rfl 1 rfl ?_
            refine g_iload_n B dJ6_numberOfLeadingZeros_0f7a4_74 rfl 0 rfl ?_
            refine g_iconst (v := 1) B dJ6_numberOfLeadingZeros_0f7a4_75 (by decide) ?_
            refine g_iushr B dJ6_numberOfLeadingZeros_0f7a4_76 ?_
            refine g_ri (x' := nI (((j_2290 / 65536) / 256) / 2)) (pk_ushrN (n := ((j_2290 / 65536) / 256)) (by omega) 1 1 (by decide)) ?_
            refine g_isub B dJ6_numberOfLeadingZeros_0f7a4_77 ?_
            refine g_ri (x' := nI (7 - (((j_2290 / 65536) / 256) / 2))) (pk_sub (a := 7) (b := (((j_2290 / 65536) / 256) / 2)) (by omega)) ?_
            exact g_iret B hr dJ6_numberOfLeadingZeros_0f7a4_78 (by decide) (by decide) ⟨(7 - (((j_2290 / 65536) / 256) / 2)), (by first | assumption | omega | decide | exact hCF _ (by omega)), e_, rfl, rfl⟩
          · have hn_2332 : 4 ≤ ((j_2290 / 65536) / 256) := Nat.not_lt.mp (fun q => c63_2330 ((nI_ltI (a := ((j_2290 / 65536) / 256)) (b := 4) (by omega) (by omega)).mpr q))
            replace e_ := fun β k_ => (e_ β k_).trans (if_neg (Nat.not_lt.mpr hn_2332))
            refine g_iinc (v := 5) (lv' := [(1, .int 5), (0, .int (nI ((j_2290 / 65536) / 256)))]) B dJ6_numberOfLeadingZeros_0f7a4_66 1 rfl (by decide) (by decide) rfl ?_
            refine g_iload_n B dJ6_numberOfLeadingZeros_0f7a4_69 rfl 1 rfl ?_
            refine g_iconst (v := 2) B dJ6_numberOfLeadingZeros_0f7a4_70 (by decide) ?_
            refine g_iushr B dJ6_numberOfLeadingZeros_0f7a4_71 ?_
            refine g_ri (x' := nI (((j_2290 / 65536) / 256) / 4)) (pk_ushrN (n := ((j_2290 / 65536) / 256)) (by omega) 2 2 (by decide)) ?_
            refine g_istore_n (lv' := [(0, .int (nI (((j_2290 / 65536) / 256) / 4))), (1, .int 5)]) B dJ6_numberOfLeadingZeros_0f7a4_72 rfl (by decide) rfl ?_
            refine g_iload_n B dJ6_numberOfLeadingZeros_0f7a4_73 rfl 1 rfl ?_
            refine g_iload_n B dJ6_numberOfLeadingZeros_0f7a4_74 rfl 0 rfl ?_
            refine g_iconst (v := 1) B dJ6_numberOfLeadingZeros_0f7a4_75 (by decide) ?_
            refine g_iushr B dJ6_numberOfLeadingZeros_0f7a4_76 ?_
            refine g_ri (x' := nI ((((j_2290 / 65536) / 256) / 4) / 2)) (pk_ushrN (n := (((j_2290 / 65536) / 256) / 4)) (by omega) 1 1 (by decide)) ?_
            refine g_isub B dJ6_numberOfLeadingZeros_0f7a4_77 ?_
            refine g_ri (x' := nI (5 - ((((j_2290 / 65536) / 256) / 4) / 2))) (pk_sub (a := 5) (b := ((((j_2290 / 65536) / 256) / 4) / 2)) (by omega)) ?_
            exact g_iret B hr dJ6_numberOfLeadingZeros_0f7a4_78 (by decide) (by decide) ⟨(5 - ((((j_2290 / 65536) / 256) / 4) / 2)), (by first | assumption | omega | decide | exact hCF _ (by omega)), e_, rfl, rfl⟩
        · have hn_2329 : 16 ≤ ((j_2290 / 65536) / 256) := Nat.not_lt.mp (fun q => c51_2327 ((nI_ltI (a := ((j_2290 / 65536) / 256)) (b := 16) (by omega) (by omega)).mpr q))
          replace e_ := fun β k_ => (e_ β k_).trans (if_neg (Nat.not_lt.mpr hn_2329))
          refine g_iinc (v := 3) (lv' := [(1, .int 3), (0, .int (nI ((j_2290 / 65536) / 256)))]) B dJ6_numberOfLeadingZeros_0f7a4_54 1 rfl (by decide) (by decide) rfl ?_
          refine g_iload_n B dJ6_numberOfLeadingZeros_0f7a4_57 rfl 1 rfl ?_
          refine g_iconst (v := 4) B dJ6_numberOfLeadingZeros_0f7a4_58 (by decide) ?_
          refine g_iushr B dJ6_numberOfLeadingZeros_0f7a4_59 ?_
          refine g_ri (x' := nI (((j_2290 / 65536) / 256) / 16)) (pk_ushrN (n := ((j_2290 / 65536) / 256)) (by omega) 4 4 (by decide)) ?_
          refine g_istore_n (lv' := [(0, .int (nI (((j_2290 / 65536) / 256) / 16))), (1, .int 3)]) B dJ6_numberOfLeadingZeros_0f7a4_60 rfl (by decide) rfl ?_
          refine g_iload_n B dJ6_numberOfLeadingZeros_0f7a4_61 rfl 0 rfl ?_
          refine g_iconst (v := 4) B dJ6_numberOfLeadingZeros_0f7a4_62 (by decide) ?_
          refine g_icmp_lt (tgt := 73) B dJ6_numberOfLeadingZeros_0f7a4_63 (by decide) (fun c63_2333 => ?_) (fun c63_2333 => ?_)
          · have hn_2334 : (((j_2290 / 65536) / 256) / 16) < 4 := (nI_ltI (a := (((j_2290 / 65536) / 256) / 16)) (b := 4) (by omega) (by omega)).mp c63_2333
            replace e_ := fun β k_ => (e_ β k_).trans (if_pos hn_2334)
            refine g_iload_n B dJ6_numberOfLeadingZeros_0f7a4_73 rfl 1 rfl ?_
            refine g_iload_n B dJ6_numberOfLeadingZeros_0f7a4_74 rfl 0 rfl ?_
            refine g_iconst (v := 1) B dJ6_numberOfLeadingZeros_0f7a4_75 (by decide) ?_
            refine g_iushr B dJ6_numberOfLeadingZeros_0f7a4_76 ?_
            refine g_ri (x' := nI ((((j_2290 / 65536) / 256) / 16) / 2)) (pk_ushrN (n := (((j_2290 / 65536) / 256) / 16)) (by omega) 1 1 (by decide)) ?_
            refine g_isub B dJ6_numberOfLeadingZeros_0f7a4_77 ?_
            refine g_ri (x' := nI (3 - ((((j_2290 / 65536) / 256) / 16) / 2))) (pk_sub (a := 3) (b := ((((j_2290 / 65536) / 256) / 16) / 2)) (by omega)) ?_
            exact g_iret B hr dJ6_numberOfLeadingZeros_0f7a4_78 (by decide) (by decide) ⟨(3 - ((((j_2290 / 65536) / 256) / 16) / 2)), (by first | assumption | omega | decide | exact hCF _ (by omega)), e_, rfl, rfl⟩
          · have hn_2335 : 4 ≤ (((j_2290 / 65536) / 256) / 16) := Nat.not_lt.mp (fun q => c63_2333 ((nI_ltI (a := (((j_2290 / 65536) / 256) / 16)) (b := 4) (by omega) (by omega)).mpr q))
            replace e_ := fun β k_ => (e_ β k_).trans (if_neg (Nat.not_lt.mpr hn_2335))
            refine g_iinc (v := 1) (lv' := [(1, .int 1), (0, .int (nI (((j_2290 / 65536) / 256) / 16)))]) B dJ6_numberOfLeadingZeros_0f7a4_66 1 rfl (by decide) (by decide) rfl ?_
            refine g_iload_n B dJ6_numberOfLeadingZeros_0f7a4_69 rfl 1 rfl ?_
            refine g_iconst (v := 2) B dJ6_numberOfLeadingZeros_0f7a4_70 (by decide) ?_
            refine g_iushr B dJ6_numberOfLeadingZeros_0f7a4_71 ?_
            refine g_ri (x' := nI ((((j_2290 / 65536) / 256) / 16) / 4)) (pk_ushrN (n := (((j_2290 / 65536) / 256) / 16)) (by omega) 2 2 (by decide)) ?_
            refine g_istore_n (lv' := [(0, .int (nI ((((j_2290 / 65536) / 256) / 16) / 4))), (1, .int 1)]) B dJ6_numberOfLeadingZeros_0f7a4_72 rfl (by decide) rfl ?_
            refine g_iload_n B dJ6_numberOfLeadingZeros_0f7a4_73 rfl 1 rfl ?_
            refine g_iload_n B dJ6_numberOfLeadingZeros_0f7a4_74 rfl 0 rfl ?_
            refine g_iconst (v := 1) B dJ6_numberOfLeadingZeros_0f7a4_75 (by decide) ?_
            refine g_iushr B dJ6_numberOfLeadingZeros_0f7a4_76 ?_
            refine g_ri (x' := nI (((((j_2290 / 65536) / 256) / 16) / 4) / 2)) (pk_ushrN (n := ((((j_2290 / 65536) / 256) / 16) / 4)) (by omega) 1 1 (by decide)) ?_
            refine g_isub B dJ6_numberOfLeadingZeros_0f7a4_77 ?_
            refine g_ri (x' := nI (1 - (((((j_2290 / 65536) / 256) / 16) / 4) / 2))) (pk_sub (a := 1) (b := (((((j_2290 / 65536) / 256) / 16) / 4) / 2)) (by omega)) ?_
            exact g_iret B hr dJ6_numberOfLeadingZeros_0f7a4_78 (by decide) (by decide) ⟨(1 - (((((j_2290 / 65536) / 256) / 16) / 4) / 2)), (by first | assumption | omega | decide | exact hCF _ (by omega)), e_, rfl, rfl⟩
  · replace e_ := fun β k_ => (e_ β k_).trans (if_neg c1_2289)
    refine g_iload_n B dJ6_numberOfLeadingZeros_0f7a4_4 rfl 0 rfl ?_
    refine g_if_ne (tgt := 13) B dJ6_numberOfLeadingZeros_0f7a4_5 (by decide) (fun c5_2336 => ?_) (fun c5_2336 => ?_)
    · replace e_ := fun β k_ => (e_ β k_).trans (if_neg c5_2336)
      refine g_iconst (v := 0) B dJ6_numberOfLeadingZeros_0f7a4_13 (by decide) ?_
      exact g_iret B hr dJ6_numberOfLeadingZeros_0f7a4_14 (by decide) (by decide) ⟨0, (by first | assumption | omega | decide | exact hCF _ (by omega)), e_, rfl, rfl⟩
    · replace e_ := fun β k_ => (e_ β k_).trans (if_pos c5_2336)
      refine g_bipush (v := 32) B dJ6_numberOfLeadingZeros_0f7a4_8 (by decide) ?_
      refine g_goto (tgt := 14) B dJ6_numberOfLeadingZeros_0f7a4_10 (by decide) ?_
      exact g_iret B hr dJ6_numberOfLeadingZeros_0f7a4_14 (by decide) (by decide) ⟨32, (by first | assumption | omega | decide | exact hCF _ (by omega)), e_, rfl, rfl⟩
set_option maxRecDepth 100000 in
def fn_wr_nlz_n (a : Nat) (β : Type) (k_ : Nat → β) : β := (if 0 < a then (if a < 65536 then (if a < 256 then (if a < 16 then (if a < 4 then (k_ (31 - (a / 2))) else (k_ (29 - ((a / 4) / 2)))) else (if (a / 16) < 4 then (k_ (27 - ((a / 16) / 2))) else (k_ (25 - (((a / 16) / 4) / 2))))) else (if (a / 256) < 16 then (if (a / 256) < 4 then (k_ (23 - ((a / 256) / 2))) else (k_ (21 - (((a / 256) / 4) / 2)))) else (if ((a / 256) / 16) < 4 then (k_ (19 - (((a / 256) / 16) / 2))) else (k_ (17 - ((((a / 256) / 16) / 4) / 2)))))) else (if (a / 65536) < 256 then (if (a / 65536) < 16 then (if (a / 65536) < 4 then (k_ (15 - ((a / 65536) / 2))) else (k_ (13 - (((a / 65536) / 4) / 2)))) else (if ((a / 65536) / 16) < 4 then (k_ (11 - (((a / 65536) / 16) / 2))) else (k_ (9 - ((((a / 65536) / 16) / 4) / 2))))) else (if ((a / 65536) / 256) < 16 then (if ((a / 65536) / 256) < 4 then (k_ (7 - (((a / 65536) / 256) / 2))) else (k_ (5 - ((((a / 65536) / 256) / 4) / 2)))) else (if (((a / 65536) / 256) / 16) < 4 then (k_ (3 - ((((a / 65536) / 256) / 16) / 2))) else (k_ (1 - (((((a / 65536) / 256) / 16) / 4) / 2))))))) else (if a = 0 then (k_ 32) else (k_ 0)))
set_option maxRecDepth 100000 in
theorem fn_wr_nlz_n_s {a : Nat} {β : Type} {k_ : Nat → β} : fn_wr_nlz_n a β k_ = (if 0 < a then (if a < 65536 then (if a < 256 then (if a < 16 then (if a < 4 then (k_ (31 - (a / 2))) else (k_ (29 - ((a / 4) / 2)))) else (if (a / 16) < 4 then (k_ (27 - ((a / 16) / 2))) else (k_ (25 - (((a / 16) / 4) / 2))))) else (if (a / 256) < 16 then (if (a / 256) < 4 then (k_ (23 - ((a / 256) / 2))) else (k_ (21 - (((a / 256) / 4) / 2)))) else (if ((a / 256) / 16) < 4 then (k_ (19 - (((a / 256) / 16) / 2))) else (k_ (17 - ((((a / 256) / 16) / 4) / 2)))))) else (if (a / 65536) < 256 then (if (a / 65536) < 16 then (if (a / 65536) < 4 then (k_ (15 - ((a / 65536) / 2))) else (k_ (13 - (((a / 65536) / 4) / 2)))) else (if ((a / 65536) / 16) < 4 then (k_ (11 - (((a / 65536) / 16) / 2))) else (k_ (9 - ((((a / 65536) / 16) / 4) / 2))))) else (if ((a / 65536) / 256) < 16 then (if ((a / 65536) / 256) < 4 then (k_ (7 - (((a / 65536) / 256) / 2))) else (k_ (5 - ((((a / 65536) / 256) / 4) / 2)))) else (if (((a / 65536) / 256) / 16) < 4 then (k_ (3 - ((((a / 65536) / 256) / 16) / 2))) else (k_ (1 - (((((a / 65536) / 256) / 16) / 4) / 2))))))) else (if a = 0 then (k_ 32) else (k_ 0))) := rfl
set_option maxRecDepth 100000 in
set_option maxHeartbeats 4000000 in
theorem wr_nlz_n (E : g_E) (a : Nat) (h0 : 0 < a) (h1 : a < 2147483648) : Ev E MJ6_numberOfLeadingZeros_0f7a4 0 0 0 0 [.int (nI a)] [] (fun v_ w_ => ∃ zr : Nat, (zr ≤ 31) ∧ (1 ≤ zr) ∧ (a ≤ 1023 → 22 ≤ zr) ∧ (a ≤ 131071 → 15 ≤ zr) ∧ (∀ (β : Type) (k_ : Nat → β), fn_wr_nlz_n a β k_ = k_ zr) ∧ v_ = some (.int (nI zr)) ∧ w_ = []) := by
  refine Ev.intro (by decide) (Nat.le_of_ble_eq_true rfl) ?_
  intro X B hr hI
  have B : Bd E X cJ6_numberOfLeadingZeros_0f7a4 RJ6 2 0 0 0 0 := B
  have hr : Rt E X (some .int) 0 0 (fun v_ w_ => ∃ zr : Nat, (zr ≤ 31) ∧ (1 ≤ zr) ∧ (a ≤ 1023 → 22 ≤ zr) ∧ (a ≤ 131071 → 15 ≤ zr) ∧ (∀ (β : Type) (k_ : Nat → β), fn_wr_nlz_n a β k_ = k_ zr) ∧ v_ = some (.int (nI zr)) ∧ w_ = []) := hr
  have e_ := fun (β : Type) (k_ : Nat → β) => fn_wr_nlz_n_s (β := β) (k_ := k_) (a := a)
  show G E X 2 [] 0 0 [(0, .int (nI a))] 0 []
  refine g_iload_n B dJ6_numberOfLeadingZeros_0f7a4_0 rfl 0 rfl ?_
  refine g_if_gt (tgt := 15) B dJ6_numberOfLeadingZeros_0f7a4_1 (by decide) (fun c1_2337 => ?_) (fun c1_2337 => ?_)
  · have hn_2338 : 0 < a := (nI_ltI (a := 0) (b := a) (by omega) (by omega)).mp c1_2337
    replace e_ := fun β k_ => (e_ β k_).trans (if_pos hn_2338)
    refine g_bipush (v := 31) B dJ6_numberOfLeadingZeros_0f7a4_15 (by decide) ?_
    refine g_istore_n (lv' := [(1, .int 31), (0, .int (nI a))]) B dJ6_numberOfLeadingZeros_0f7a4_17 rfl (by decide) rfl ?_
    refine g_iload_n B dJ6_numberOfLeadingZeros_0f7a4_18 rfl 1 rfl ?_
    refine g_ldcw (v := 65536) B w_k_J6_264 dJ6_numberOfLeadingZeros_0f7a4_19 ?_
    refine g_icmp_lt (tgt := 33) B dJ6_numberOfLeadingZeros_0f7a4_22 (by decide) (fun c22_2340 => ?_) (fun c22_2340 => ?_)
    · have hn_2341 : a < 65536 := (nI_ltI (a := a) (b := 65536) (by omega) (by omega)).mp c22_2340
      replace e_ := fun β k_ => (e_ β k_).trans (if_pos hn_2341)
      refine g_iload_n B dJ6_numberOfLeadingZeros_0f7a4_33 rfl 1 rfl ?_
      refine g_sipush (v := 256) B dJ6_numberOfLeadingZeros_0f7a4_34 (by decide) ?_
      refine g_icmp_lt (tgt := 48) B dJ6_numberOfLeadingZeros_0f7a4_37 (by decide) (fun c37_2343 => ?_) (fun c37_2343 => ?_)
      · have hn_2344 : a < 256 := (nI_ltI (a := a) (b := 256) (by omega) (by omega)).mp c37_2343
        replace e_ := fun β k_ => (e_ β k_).trans (if_pos hn_2344)
        refine g_iload_n B dJ6_numberOfLeadingZeros_0f7a4_48 rfl 1 rfl ?_
        refine g_bipush (v := 16) B dJ6_numberOfLeadingZeros_0f7a4_49 (by decide) ?_
        refine g_icmp_lt (tgt := 61) B dJ6_numberOfLeadingZeros_0f7a4_51 (by decide) (fun c51_2346 => ?_) (fun c51_2346 => ?_)
        · have hn_2347 : a < 16 := (nI_ltI (a := a) (b := 16) (by omega) (by omega)).mp c51_2346
          replace e_ := fun β k_ => (e_ β k_).trans (if_pos hn_2347)
          refine g_iload_n B dJ6_numberOfLeadingZeros_0f7a4_61 rfl 1 rfl ?_
          refine g_iconst (v := 4) B dJ6_numberOfLeadingZeros_0f7a4_62 (by decide) ?_
          refine g_icmp_lt (tgt := 73) B dJ6_numberOfLeadingZeros_0f7a4_63 (by decide) (fun c63_2349 => ?_) (fun c63_2349 => ?_)
          · have hn_2350 : a < 4 := (nI_ltI (a := a) (b := 4) (by omega) (by omega)).mp c63_2349
            replace e_ := fun β k_ => (e_ β k_).trans (if_pos hn_2350)
            refine g_iload_n B dJ6_numberOfLeadingZeros_0f7a4_73 rfl 0 rfl ?_
            refine g_iload_n B dJ6_numberOfLeadingZeros_0f7a4_74 rfl 1 rfl ?_
            refine g_iconst (v := 1) B dJ6_numberOfLeadingZeros_0f7a4_75 (by decide) ?_
            refine g_iushr B dJ6_numberOfLeadingZeros_0f7a4_76 ?_
            refine g_ri (x' := nI (a / 2)) (pk_ushrN (n := a) (by omega) 1 1 (by decide)) ?_
            refine g_isub B dJ6_numberOfLeadingZeros_0f7a4_77 ?_
            refine g_ri (x' := nI (31 - (a / 2))) (pk_sub (a := 31) (b := (a / 2)) (by omega)) ?_
            exact g_iret B hr dJ6_numberOfLeadingZeros_0f7a4_78 (by decide) (by decide) ⟨(31 - (a / 2)), (by first | assumption | omega | decide | exact hCF _ (by omega)), (by first | assumption | omega | decide | exact hCF _ (by omega)), (by first | assumption | omega | decide | exact hCF _ (by omega)), (by first | assumption | omega | decide | exact hCF _ (by omega)), e_, rfl, rfl⟩
          · have hn_2351 : 4 ≤ a := Nat.not_lt.mp (fun q => c63_2349 ((nI_ltI (a := a) (b := 4) (by omega) (by omega)).mpr q))
            replace e_ := fun β k_ => (e_ β k_).trans (if_neg (Nat.not_lt.mpr hn_2351))
            refine g_iinc (v := 29) (lv' := [(1, .int 29), (0, .int (nI a))]) B dJ6_numberOfLeadingZeros_0f7a4_66 0 rfl (by decide) (by decide) rfl ?_
            refine g_iload_n B dJ6_numberOfLeadingZeros_0f7a4_69 rfl 1 rfl ?_
            refine g_iconst (v := 2) B dJ6_numberOfLeadingZeros_0f7a4_70 (by decide) ?_
            refine g_iushr B dJ6_numberOfLeadingZeros_0f7a4_71 ?_
            refine g_ri (x' := nI (a / 4)) (pk_ushrN (n := a) (by omega) 2 2 (by decide)) ?_
            refine g_istore_n (lv' := [(0, .int (nI (a / 4))), (1, .int 29)]) B dJ6_numberOfLeadingZeros_0f7a4_72 rfl (by decide) rfl ?_
            refine g_iload_n B dJ6_numberOfLeadingZeros_0f7a4_73 rfl 1 rfl ?_
            refine g_iload_n B dJ6_numberOfLeadingZeros_0f7a4_74 rfl 0 rfl ?_
            refine g_iconst (v := 1) B dJ6_numberOfLeadingZeros_0f7a4_75 (by decide) ?_
            refine g_iushr B dJ6_numberOfLeadingZeros_0f7a4_76 ?_
            refine g_ri (x' := nI ((a / 4) / 2)) (pk_ushrN (n := (a / 4)) (by omega) 1 1 (by decide)) ?_
            refine g_isub B dJ6_numberOfLeadingZeros_0f7a4_77 ?_
            refine g_ri (x' := nI (29 - ((a / 4) / 2))) (pk_sub (a := 29) (b := ((a / 4) / 2)) (by omega)) ?_
            exact g_iret B hr dJ6_numberOfLeadingZeros_0f7a4_78 (by decide) (by decide) ⟨(29 - ((a / 4) / 2)), (by first | assumption | omega | decide | exact hCF _ (by omega)), (by first | assumption | omega | decide | exact hCF _ (by omega)), (by first | assumption | omega | decide | exact hCF _ (by omega)), (by first | assumption | omega | decide | exact hCF _ (by omega)), e_, rfl, rfl⟩
        · have hn_2348 : 16 ≤ a := Nat.not_lt.mp (fun q => c51_2346 ((nI_ltI (a := a) (b := 16) (by omega) (by omega)).mpr q))
          replace e_ := fun β k_ => (e_ β k_).trans (if_neg (Nat.not_lt.mpr hn_2348))
          refine g_iinc (v := 27) (lv' := [(1, .int 27), (0, .int (nI a))]) B dJ6_numberOfLeadingZeros_0f7a4_54 0 rfl (by decide) (by decide) rfl ?_
          refine g_iload_n B dJ6_numberOfLeadingZeros_0f7a4_57 rfl 1 rfl ?_
          refine g_iconst (v := 4) B dJ6_numberOfLeadingZeros_0f7a4_58 (by decide) ?_
          refine g_iushr B dJ6_numberOfLeadingZeros_0f7a4_59 ?_
          refine g_ri (x' := nI (a / 16)) (pk_ushrN (n := a) (by omega) 4 4 (by decide)) ?_
          refine g_istore_n (lv' := [(0, .int (nI (a / 16))), (1, .int 27)]) B dJ6_numberOfLeadingZeros_0f7a4_60 rfl (by decide) rfl ?_
          refine g_iload_n B dJ6_numberOfLeadingZeros_0f7a4_61 rfl 0 rfl ?_
          refine g_iconst (v := 4) B dJ6_numberOfLeadingZeros_0f7a4_62 (by decide) ?_
          refine g_icmp_lt (tgt := 73) B dJ6_numberOfLeadingZeros_0f7a4_63 (by decide) (fun c63_2352 => ?_) (fun c63_2352 => ?_)
          · have hn_2353 : (a / 16) < 4 := (nI_ltI (a := (a / 16)) (b := 4) (by omega) (by omega)).mp c63_2352
            replace e_ := fun β k_ => (e_ β k_).trans (if_pos hn_2353)
            refine g_iload_n B dJ6_numberOfLeadingZeros_0f7a4_73 rfl 1 rfl ?_
            refine g_iload_n B dJ6_numberOfLeadingZeros_0f7a4_74 rfl 0 rfl ?_
            refine g_iconst (v := 1) B dJ6_numberOfLeadingZeros_0f7a4_75 (by decide) ?_
            refine g_iushr B dJ6_numberOfLeadingZeros_0f7a4_76 ?_
            refine g_ri (x' := nI ((a / 16) / 2)) (pk_ushrN (n := (a / 16)) (by omega) 1 1 (by decide)) ?_
            refine g_isub B dJ6_numberOfLeadingZeros_0f7a4_77 ?_
            refine g_ri (x' := nI (27 - ((a / 16) / 2))) (pk_sub (a := 27) (b := ((a / 16) / 2)) (by omega)) ?_
            exact g_iret B hr dJ6_numberOfLeadingZeros_0f7a4_78 (by decide) (by decide) ⟨(27 - ((a / 16) / 2)), (by first | assumption | omega | decide | exact hCF _ (by omega)), (by first | assumption | omega | decide | exact hCF _ (by omega)), (by first | assumption | omega | decide | exact hCF _ (by omega)), (by first | assumption | omega | decide | exact hCF _ (by omega)), e_, rfl, rfl⟩
          · have hn_2354 : 4 ≤ (a / 16) := Nat.not_lt.mp (fun q => c63_2352 ((nI_ltI (a := (a / 16)) (b := 4) (by omega) (by omega)).mpr q))
            replace e_ := fun β k_ => (e_ β k_).trans (if_neg (Nat.not_lt.mpr hn_2354))
            refine g_iinc (v := 25) (lv' := [(1, .int 25), (0, .int (nI (a / 16)))]) B dJ6_numberOfLeadingZeros_0f7a4_66 1 rfl (by decide) (by decide) rfl ?_
            refine g_iload_n B dJ6_numberOfLeadingZeros_0f7a4_69 rfl 1 rfl ?_
            refine g_iconst (v := 2) B dJ6_numberOfLeadingZeros_0f7a4_70 (by decide) ?_
            refine g_iushr B dJ6_numberOfLeadingZeros_0f7a4_71 ?_
            refine g_ri (x' := nI ((a / 16) / 4)) (pk_ushrN (n := (a / 16)) (by omega) 2 2 (by decide)) ?_
            refine g_istore_n (lv' := [(0, .int (nI ((a / 16) / 4))), (1, .int 25)]) B dJ6_numberOfLeadingZeros_0f7a4_72 rfl (by decide) rfl ?_
            refine g_iload_n B dJ6_numberOfLeadingZeros_0f7a4_73 rfl 1 rfl ?_
            refine g_iload_n B dJ6_numberOfLeadingZeros_0f7a4_74 rfl 0 rfl ?_
            refine g_iconst (v := 1) B dJ6_numberOfLeadingZeros_0f7a4_75 (by decide) ?_
            refine g_iushr B dJ6_numberOfLeadingZeros_0f7a4_76 ?_
            refine g_ri (x' := nI (((a / 16) / 4) / 2)) (pk_ushrN (n := ((a / 16) / 4)) (by omega) 1 1 (by decide)) ?_
            refine g_isub B dJ6_numberOfLeadingZeros_0f7a4_77 ?_
            refine g_ri (x' := nI (25 - (((a / 16) / 4) / 2))) (pk_sub (a := 25) (b := (((a / 16) / 4) / 2)) (by omega)) ?_
            exact g_iret B hr dJ6_numberOfLeadingZeros_0f7a4_78 (by decide) (by decide) ⟨(25 - (((a / 16) / 4) / 2)), (by first | assumption | omega | decide | exact hCF _ (by omega)), (by first | assumption | omega | decide | exact hCF _ (by omega)), (by first | assumption | omega | decide | exact hCF _ (by omega)), (by first | assumption | omega | decide | exact hCF _ (by omega)), e_, rfl, rfl⟩
      · have hn_2345 : 256 ≤ a := Nat.not_lt.mp (fun q => c37_2343 ((nI_ltI (a := a) (b := 256) (by omega) (by omega)).mpr q))
        replace e_ := fun β k_ => (e_ β k_).trans (if_neg (Nat.not_lt.mpr hn_2345))
        refine g_iinc (v := 23) (lv' := [(1, .int 23), (0, .int (nI a))]) B dJ6_numberOfLeadingZeros_0f7a4_40 0 rfl (by decide) (by decide) rfl ?_
        refine g_iload_n B dJ6_numberOfLeadingZeros_0f7a4_43 rfl 1 rfl ?_
        refine g_bipush (v := 8) B dJ6_numberOfLeadingZeros_0f7a4_44 (by decide) ?_
        refine g_iushr B dJ6_numberOfLeadingZeros_0f7a4_46 ?_
        refine g_ri (x' := nI (a / 256)) (pk_ushrN (n := a) (by omega) 8 8 (by decide)) ?_
        refine g_istore_n (lv' := [(0, .int (nI (a / 256))), (1, .int 23)]) B dJ6_numberOfLeadingZeros_0f7a4_47 rfl (by decide) rfl ?_
        refine g_iload_n B dJ6_numberOfLeadingZeros_0f7a4_48 rfl 0 rfl ?_
        refine g_bipush (v := 16) B dJ6_numberOfLeadingZeros_0f7a4_49 (by decide) ?_
        refine g_icmp_lt (tgt := 61) B dJ6_numberOfLeadingZeros_0f7a4_51 (by decide) (fun c51_2355 => ?_) (fun c51_2355 => ?_)
        · have hn_2356 : (a / 256) < 16 := (nI_ltI (a := (a / 256)) (b := 16) (by omega) (by omega)).mp c51_2355
          replace e_ := fun β k_ => (e_ β k_).trans (if_pos hn_2356)
          refine g_iload_n B dJ6_numberOfLeadingZeros_0f7a4_61 rfl 0 rfl ?_
          refine g_iconst (v := 4) B dJ6_numberOfLeadingZeros_0f7a4_62 (by decide) ?_
          refine g_icmp_lt (tgt := 73) B dJ6_numberOfLeadingZeros_0f7a4_63 (by decide) (fun c63_2358 => ?_) (fun c63_2358 => ?_)
          · have hn_2359 : (a / 256) < 4 := (nI_ltI (a := (a / 256)) (b := 4) (by omega) (by omega)).mp c63_2358
            replace e_ := fun β k_ => (e_ β k_).trans (if_pos hn_2359)
            refine g_iload_n B dJ6_numberOfLeadingZeros_0f7a4_73 rfl 1 rfl ?_
            refine g_iload_n B dJ6_numberOfLeadingZeros_0f7a4_74 rfl 0 rfl ?_
            refine g_iconst (v := 1) B dJ6_numberOfLeadingZeros_0f7a4_75 (by decide) ?_
            refine g_iushr B dJ6_numberOfLeadingZeros_0f7a4_76 ?_
            refine g_ri (x' := nI ((a / 256) / 2)) (pk_ushrN (n := (a / 256)) (by omega) 1 1 (by decide)) ?_
            refine g_isub B dJ6_numberOfLeadingZeros_0f7a4_77 ?_
            refine g_ri (x' := nI (23 - ((a / 256) / 2))) (pk_sub (a := 23) (b := ((a / 256) / 2)) (by omega)) ?_
            exact g_iret B hr dJ6_numberOfLeadingZeros_0f7a4_78 (by decide) (by decide) ⟨(23 - ((a / 256) / 2)), (by first | assumption | omega | decide | exact hCF _ (by omega)), (by first | assumption | omega | decide | exact hCF _ (by omega)), (by first | assumption | omega | decide | exact hCF _ (by omega)), (by first | assumption | omega | decide | exact hCF _ (by omega)), e_, rfl, rfl⟩
          · have hn_2360 : 4 ≤ (a / 256) := Nat.not_lt.mp (fun q => c63_2358 ((nI_ltI (a := (a / 256)) (b := 4) (by omega) (by omega)).mpr q))
            replace e_ := fun β k_ => (e_ β k_).trans (if_neg (Nat.not_lt.mpr hn_2360))
            refine g_iinc (v := 21) (lv' := [(1, .int 21), (0, .int (nI (a / 256)))]) B dJ6_numberOfLeadingZeros_0f7a4_66 1 rfl (by decide) (by decide) rfl ?_
            refine g_iload_n B dJ6_numberOfLeadingZeros_0f7a4_69 rfl 1 rfl ?_
            refine g_iconst (v := 2) B dJ6_numberOfLeadingZeros_0f7a4_70 (by decide) ?_
            refine g_iushr B dJ6_numberOfLeadingZeros_0f7a4_71 ?_
            refine g_ri (x' := nI ((a / 256) / 4)) (pk_ushrN (n := (a / 256)) (by omega) 2 2 (by decide)) ?_
            refine g_istore_n (lv' := [(0, .int (nI ((a / 256) / 4))), (1, .int 21)]) B dJ6_numberOfLeadingZeros_0f7a4_72 rfl (by decide) rfl ?_
            refine g_iload_n B dJ6_numberOfLeadingZeros_0f7a4_73 rfl 1 rfl ?_
            refine g_iload_n B dJ6_numberOfLeadingZeros_0f7a4_74 rfl 0 rfl ?_
            refine g_iconst (v := 1) B dJ6_numberOfLeadingZeros_0f7a4_75 (by decide) ?_
            refine g_iushr B dJ6_numberOfLeadingZeros_0f7a4_76 ?_
            refine g_ri (x' := nI (((a / 256) / 4) / 2)) (pk_ushrN (n := ((a / 256) / 4)) (by omega) 1 1 (by decide)) ?_
            refine g_isub B dJ6_numberOfLeadingZeros_0f7a4_77 ?_
            refine g_ri (x' := nI (21 - (((a / 256) / 4) / 2))) (pk_sub (a := 21) (b := (((a / 256) / 4) / 2)) (by omega)) ?_
            exact g_iret B hr dJ6_numberOfLeadingZeros_0f7a4_78 (by decide) (by decide) ⟨(21 - (((a / 256) / 4) / 2)), (by first | assumption | omega | decide | exact hCF _ (by omega)), (by first | assumption | omega | decide | exact hCF _ (by omega)), (by first | assumption | omega | decide | exact hCF _ (by omega)), (by first | assumption | omega | decide | exact hCF _ (by omega)), e_, rfl, rfl⟩
        · have hn_2357 : 16 ≤ (a / 256) := Nat.not_lt.mp (fun q => c51_2355 ((nI_ltI (a := (a / 256)) (b := 16) (by omega) (by omega)).mpr q))
          replace e_ := fun β k_ => (e_ β k_).trans (if_neg (Nat.not_lt.mpr hn_2357))
          refine g_iinc (v := 19) (lv' := [(1, .int 19), (0, .int (nI (a / 256)))]) B dJ6_numberOfLeadingZeros_0f7a4_54 1 rfl (by decide) (by decide) rfl ?_
          refine g_iload_n B dJ6_numberOfLeadingZeros_0f7a4_57 rfl 1 rfl ?_
          refine g_iconst (v := 4) B dJ6_numberOfLeadingZeros_0f7a4_58 (by decide) ?_
          refine g_iushr B dJ6_numberOfLeadingZeros_0f7a4_59 ?_
          refine g_ri (x' := nI ((a / 256) / 16)) (pk_ushrN (n := (a / 256)) (by omega) 4 4 (by decide)) ?_
          refine g_istore_n (lv' := [(0, .int (nI ((a / 256) / 16))), (1, .int 19)]) B dJ6_numberOfLeadingZeros_0f7a4_60 rfl (by decide) rfl ?_
          refine g_iload_n B dJ6_numberOfLeadingZeros_0f7a4_61 rfl 0 rfl ?_
          refine g_iconst (v := 4) B dJ6_numberOfLeadingZeros_0f7a4_62 (by decide) ?_
          refine g_icmp_lt (tgt := 73) B dJ6_numberOfLeadingZeros_0f7a4_63 (by decide) (fun c63_2361 => ?_) (fun c63_2361 => ?_)
          · have hn_2362 : ((a / 256) / 16) < 4 := (nI_ltI (a := ((a / 256) / 16)) (b := 4) (by omega) (by omega)).mp c63_2361
            replace e_ := fun β k_ => (e_ β k_).trans (if_pos hn_2362)
            refine g_iload_n B dJ6_numberOfLeadingZeros_0f7a4_73 rfl 1 rfl ?_
            refine g_iload_n B dJ6_numberOfLeadingZeros_0f7a4_74 rfl 0 rfl ?_
            refine g_iconst (v := 1) B dJ6_numberOfLeadingZeros_0f7a4_75 (by decide) ?_
            refine g_iushr B dJ6_numberOfLeadingZeros_0f7a4_76 ?_
            refine g_ri (x' := nI (((a / 256) / 16) / 2)) (pk_ushrN (n := ((a / 256) / 16)) (by omega) 1 1 (by decide)) ?_
            refine g_isub B dJ6_numberOfLeadingZeros_0f7a4_77 ?_
            refine g_ri (x' := nI (19 - (((a / 256) / 16) / 2))) (pk_sub (a := 19) (b := (((a / 256) / 16) / 2)) (by omega)) ?_
            exact g_iret B hr dJ6_numberOfLeadingZeros_0f7a4_78 (by decide) (by decide) ⟨(19 - (((a / 256) / 16) / 2)), (by first | assumption | omega | decide | exact hCF _ (by omega)), (by first | assumption | omega | decide | exact hCF _ (by omega)), (by first | assumption | omega | decide | exact hCF _ (by omega)), (by first | assumption | omega | decide | exact hCF _ (by omega)), e_, rfl, rfl⟩
          · have hn_2363 : 4 ≤ ((a / 256) / 16) := Nat.not_lt.mp (fun q => c63_2361 ((nI_ltI (a := ((a / 256) / 16)) (b := 4) (by omega) (by omega)).mpr q))
            replace e_ := fun β k_ => (e_ β k_).trans (if_neg (Nat.not_lt.mpr hn_2363))
            refine g_iinc (v := 17) (lv' := [(1, .int 17), (0, .int (nI ((a / 256) / 16)))]) B dJ6_numberOfLeadingZeros_0f7a4_66 1 rfl (by decide) (by decide) rfl ?_
            refine g_iload_n B dJ6_numberOfLeadingZeros_0f7a4_69 rfl 1 rfl ?_
            refine g_iconst (v := 2) B dJ6_numberOfLeadingZeros_0f7a4_70 (by decide) ?_
            refine g_iushr B dJ6_numberOfLeadingZeros_0f7a4_71 ?_
            refine g_ri (x' := nI (((a / 256) / 16) / 4)) (pk_ushrN (n := ((a / 256) / 16)) (by omega) 2 2 (by decide)) ?_
            refine g_istore_n (lv' := [(0, .int (nI (((a / 256) / 16) / 4))), (1, .int 17)]) B dJ6_numberOfLeadingZeros_0f7a4_72 rfl (by decide) rfl ?_
            refine g_iload_n B dJ6_numberOfLeadingZeros_0f7a4_73 rfl 1 rfl ?_
            refine g_iload_n B dJ6_numberOfLeadingZeros_0f7a4_74 rfl 0 rfl ?_
            refine g_iconst (v := 1) B dJ6_numberOfLeadingZeros_0f7a4_75 (by decide) ?_
            refine g_iushr B dJ6_numberOfLeadingZeros_0f7a4_76 ?_
            refine g_ri (x' := nI ((((a / 256) / 16) / 4) / 2)) (pk_ushrN (n := (((a / 256) / 16) / 4)) (by omega) 1 1 (by decide)) ?_
            refine g_isub B dJ6_numberOfLeadingZeros_0f7a4_77 ?_
            refine g_ri (x' := nI (17 - ((((a / 256) / 16) / 4) / 2))) (pk_sub (a := 17) (b := ((((a / 256) / 16) / 4) / 2)) (by omega)) ?_
            exact g_iret B hr dJ6_numberOfLeadingZeros_0f7a4_78 (by decide) (by decide) ⟨(17 - ((((a / 256) / 16) / 4) / 2)), (by first | assumption | omega | decide | exact hCF _ (by omega)), (by first | assumption | omega | decide | exact hCF _ (by omega)), (by first | assumption | omega | decide | exact hCF _ (by omega)), (by first | assumption | omega | decide | exact hCF _ (by omega)), e_, rfl, rfl⟩
    · have hn_2342 : 65536 ≤ a := Nat.not_lt.mp (fun q => c22_2340 ((nI_ltI (a := a) (b := 65536) (by omega) (by omega)).mpr q))
      replace e_ := fun β k_ => (e_ β k_).trans (if_neg (Nat.not_lt.mpr hn_2342))
      refine g_iinc (v := 15) (lv' := [(1, .int 15), (0, .int (nI a))]) B dJ6_numberOfLeadingZeros_0f7a4_25 0 rfl (by decide) (by decide) rfl ?_
      refine g_iload_n B dJ6_numberOfLeadingZeros_0f7a4_28 rfl 1 rfl ?_
      refine g_bipush (v := 16) B dJ6_numberOfLeadingZeros_0f7a4_29 (by decide) ?_
      refine g_iushr B dJ6_numberOfLeadingZeros_0f7a4_31 ?_
      refine g_ri (x' := nI (a / 65536)) (pk_ushrN (n := a) (by omega) 16 16 (by decide)) ?_
      refine g_istore_n (lv' := [(0, .int (nI (a / 65536))), (1, .int 15)]) B dJ6_numberOfLeadingZeros_0f7a4_32 rfl (by decide) rfl ?_
      refine g_iload_n B dJ6_numberOfLeadingZeros_0f7a4_33 rfl 0 rfl ?_
      refine g_sipush (v := 256) B dJ6_numberOfLeadingZeros_0f7a4_34 (by decide) ?_
      refine g_icmp_lt (tgt := 48) B dJ6_numberOfLeadingZeros_0f7a4_37 (by decide) (fun c37_2364 => ?_) (fun c37_2364 => ?_)
      · have hn_2365 : (a / 65536) < 256 := (nI_ltI (a := (a / 65536)) (b := 256) (by omega) (by omega)).mp c37_2364
        replace e_ := fun β k_ => (e_ β k_).trans (if_pos hn_2365)
        refine g_iload_n B dJ6_numberOfLeadingZeros_0f7a4_48 rfl 0 rfl ?_
        refine g_bipush (v := 16) B dJ6_numberOfLeadingZeros_0f7a4_49 (by decide) ?_
        refine g_icmp_lt (tgt := 61) B dJ6_numberOfLeadingZeros_0f7a4_51 (by decide) (fun c51_2367 => ?_) (fun c51_2367 => ?_)
        · have hn_2368 : (a / 65536) < 16 := (nI_ltI (a := (a / 65536)) (b := 16) (by omega) (by omega)).mp c51_2367
          replace e_ := fun β k_ => (e_ β k_).trans (if_pos hn_2368)
          refine g_iload_n B dJ6_numberOfLeadingZeros_0f7a4_61 rfl 0 rfl ?_
          refine g_iconst (v := 4) B dJ6_numberOfLeadingZeros_0f7a4_62 (by decide) ?_
          refine g_icmp_lt (tgt := 73) B dJ6_numberOfLeadingZeros_0f7a4_63 (by decide) (fun c63_2370 => ?_) (fun c63_2370 => ?_)
          · have hn_2371 : (a / 65536) < 4 := (nI_ltI (a := (a / 65536)) (b := 4) (by omega) (by omega)).mp c63_2370
            replace e_ := fun β k_ => (e_ β k_).trans (if_pos hn_2371)
            refine g_iload_n B dJ6_numberOfLeadingZeros_0f7a4_73 rfl 1 rfl ?_
            refine g_iload_n B dJ6_numberOfLeadingZeros_0f7a4_74 rfl 0 rfl ?_
            refine g_iconst (v := 1) B dJ6_numberOfLeadingZeros_0f7a4_75 (by decide) ?_
            refine g_iushr B dJ6_numberOfLeadingZeros_0f7a4_76 ?_
            refine g_ri (x' := nI ((a / 65536) / 2)) (pk_ushrN (n := (a / 65536)) (by omega) 1 1 (by decide)) ?_
            refine g_isub B dJ6_numberOfLeadingZeros_0f7a4_77 ?_
            refine g_ri (x' := nI (15 - ((a / 65536) / 2))) (pk_sub (a := 15) (b := ((a / 65536) / 2)) (by omega)) ?_
            exact g_iret B hr dJ6_numberOfLeadingZeros_0f7a4_78 (by decide) (by decide) ⟨(15 - ((a / 65536) / 2)), (by first | assumption | omega | decide | exact hCF _ (by omega)), (by first | assumption | omega | decide | exact hCF _ (by omega)), (by first | assumption | omega | decide | exact hCF _ (by omega)), (by first | assumption | omega | decide | exact hCF _ (by omega)), e_, rfl, rfl⟩
          · have hn_2372 : 4 ≤ (a / 65536) := Nat.not_lt.mp (fun q => c63_2370 ((nI_ltI (a := (a / 65536)) (b := 4) (by omega) (by omega)).mpr q))
            replace e_ := fun β k_ => (e_ β k_).trans (if_neg (Nat.not_lt.mpr hn_2372))
            refine g_iinc (v := 13) (lv' := [(1, .int 13), (0, .int (nI (a / 65536)))]) B dJ6_numberOfLeadingZeros_0f7a4_66 1 rfl (by decide) (by decide) rfl ?_
            refine g_iload_n B dJ6_numberOfLeadingZeros_0f7a4_69 rfl 1 rfl ?_
            refine g_iconst (v := 2) B dJ6_numberOfLeadingZeros_0f7a4_70 (by decide) ?_
            refine g_iushr B dJ6_numberOfLeadingZeros_0f7a4_71 ?_
            refine g_ri (x' := nI ((a / 65536) / 4)) (pk_ushrN (n := (a / 65536)) (by omega) 2 2 (by decide)) ?_
            refine g_istore_n (lv' := [(0, .int (nI ((a / 65536) / 4))), (1, .int 13)]) B dJ6_numberOfLeadingZeros_0f7a4_72 rfl (by decide) rfl ?_
            refine g_iload_n B dJ6_numberOfLeadingZeros_0f7a4_73 rfl 1 rfl ?_
            refine g_iload_n B dJ6_numberOfLeadingZeros_0f7a4_74 rfl 0 rfl ?_
            refine g_iconst (v := 1) B dJ6_numberOfLeadingZeros_0f7a4_75 (by decide) ?_
            refine g_iushr B dJ6_numberOfLeadingZeros_0f7a4_76 ?_
            refine g_ri (x' := nI (((a / 65536) / 4) / 2)) (pk_ushrN (n := ((a / 65536) / 4)) (by omega) 1 1 (by decide)) ?_
            refine g_isub B dJ6_numberOfLeadingZeros_0f7a4_77 ?_
            refine g_ri (x' := nI (13 - (((a / 65536) / 4) / 2))) (pk_sub (a := 13) (b := (((a / 65536) / 4) / 2)) (by omega)) ?_
            exact g_iret B hr dJ6_numberOfLeadingZeros_0f7a4_78 (by decide) (by decide) ⟨(13 - (((a / 65536) / 4) / 2)), (by first | assumption | omega | decide | exact hCF _ (by omega)), (by first | assumption | omega | decide | exact hCF _ (by omega)), (by first | assumption | omega | decide | exact hCF _ (by omega)), (by first | assumption | omega | decide | exact hCF _ (by omega)), e_, rfl, rfl⟩
        · have hn_2369 : 16 ≤ (a / 65536) := Nat.not_lt.mp (fun q => c51_2367 ((nI_ltI (a := (a / 65536)) (b := 16) (by omega) (by omega)).mpr q))
          replace e_ := fun β k_ => (e_ β k_).trans (if_neg (Nat.not_lt.mpr hn_2369))
          refine g_iinc (v := 11) (lv' := [(1, .int 11), (0, .int (nI (a / 65536)))]) B dJ6_numberOfLeadingZeros_0f7a4_54 1 rfl (by decide) (by decide) rfl ?_
          refine g_iload_n B dJ6_numberOfLeadingZeros_0f7a4_57 rfl 1 rfl ?_
          refine g_iconst (v := 4) B dJ6_numberOfLeadingZeros_0f7a4_58 (by decide) ?_
          refine g_iushr B dJ6_numberOfLeadingZeros_0f7a4_59 ?_
          refine g_ri (x' := nI ((a / 65536) / 16)) (pk_ushrN (n := (a / 65536)) (by omega) 4 4 (by decide)) ?_
          refine g_istore_n (lv' := [(0, .int (nI ((a / 65536) / 16))), (1, .int 11)]) B dJ6_numberOfLeadingZeros_0f7a4_60 rfl (by decide) rfl ?_
          refine g_iload_n B dJ6_numberOfLeadingZeros_0f7a4_61 rfl 0 rfl ?_
          refine g_iconst (v := 4) B dJ6_numberOfLeadingZeros_0f7a4_62 (by decide) ?_
          refine g_icmp_lt (tgt := 73) B dJ6_numberOfLeadingZeros_0f7a4_63 (by decide) (fun c63_2373 => ?_) (fun c63_2373 => ?_)
          · have hn_2374 : ((a / 65536) / 16) < 4 := (nI_ltI (a := ((a / 65536) / 16)) (b := 4) (by omega) (by omega)).mp c63_2373
            replace e_ := fun β k_ => (e_ β k_).trans (if_pos hn_2374)
            refine g_iload_n B dJ6_numberOfLeadingZeros_0f7a4_73 rfl 1 rfl ?_
            refine g_iload_n B dJ6_numberOfLeadingZeros_0f7a4_74 rfl 0 rfl ?_
            refine g_iconst (v := 1) B dJ6_numberOfLeadingZeros_0f7a4_75 (by decide) ?_
            refine g_iushr B dJ6_numberOfLeadingZeros_0f7a4_76 ?_
            refine g_ri (x' := nI (((a / 65536) / 16) / 2)) (pk_ushrN (n := ((a / 65536) / 16)) (by omega) 1 1 (by decide)) ?_
            refine g_isub B dJ6_numberOfLeadingZeros_0f7a4_77 ?_
            refine g_ri (x' := nI (11 - (((a / 65536) / 16) / 2))) (pk_sub (a := 11) (b := (((a / 65536) / 16) / 2)) (by omega)) ?_
            exact g_iret B hr dJ6_numberOfLeadingZeros_0f7a4_78 (by decide) (by decide) ⟨(11 - (((a / 65536) / 16) / 2)), (by first | assumption | omega | decide | exact hCF _ (by omega)), (by first | assumption | omega | decide | exact hCF _ (by omega)), (by first | assumption | omega | decide | exact hCF _ (by omega)), (by first | assumption | omega | decide | exact hCF _ (by omega)), e_, rfl, rfl⟩
          · have hn_2375 : 4 ≤ ((a / 65536) / 16) := Nat.not_lt.mp (fun q => c63_2373 ((nI_ltI (a := ((a / 65536) / 16)) (b := 4) (by omega) (by omega)).mpr q))
            replace e_ := fun β k_ => (e_ β k_).trans (if_neg (Nat.not_lt.mpr hn_2375))
            refine g_iinc (v := 9) (lv' := [(1, .int 9), (0, .int (nI ((a / 65536) / 16)))]) B dJ6_numberOfLeadingZeros_0f7a4_66 1 rfl (by decide) (by decide) rfl ?_
            refine g_iload_n B dJ6_numberOfLeadingZeros_0f7a4_69 rfl 1 rfl ?_
            refine g_iconst (v := 2) B dJ6_numberOfLeadingZeros_0f7a4_70 (by decide) ?_
            refine g_iushr B dJ6_numberOfLeadingZeros_0f7a4_71 ?_
            refine g_ri (x' := nI (((a / 65536) / 16) / 4)) (pk_ushrN (n := ((a / 65536) / 16)) (by omega) 2 2 (by decide)) ?_
            refine g_istore_n (lv' := [(0, .int (nI (((a / 65536) / 16) / 4))), (1, .int 9)]) B dJ6_numberOfLeadingZeros_0f7a4_72 rfl (by decide) rfl ?_
            refine g_iload_n B dJ6_numberOfLeadingZeros_0f7a4_73 rfl 1 rfl ?_
            refine g_iload_n B dJ6_numberOfLeadingZeros_0f7a4_74 rfl 0 rfl ?_
            refine g_iconst (v := 1) B dJ6_numberOfLeadingZeros_0f7a4_75 (by decide) ?_
            refine g_iushr B dJ6_numberOfLeadingZeros_0f7a4_76 ?_
            refine g_ri (x' := nI ((((a / 65536) / 16) / 4) / 2)) (pk_ushrN (n := (((a / 65536) / 16) / 4)) (by omega) 1 1 (by decide)) ?_
            refine g_isub B dJ6_numberOfLeadingZeros_0f7a4_77 ?_
            refine g_ri (x' := nI (9 - ((((a / 65536) / 16) / 4) / 2))) (pk_sub (a := 9) (b := ((((a / 65536) / 16) / 4) / 2)) (by omega)) ?_
            exact g_iret B hr dJ6_numberOfLeadingZeros_0f7a4_78 (by decide) (by decide) ⟨(9 - ((((a / 65536) / 16) / 4) / 2)), (by first | assumption | omega | decide | exact hCF _ (by omega)), (by first | assumption | omega | decide | exact hCF _ (by omega)), (by first | assumption | omega | decide | exact hCF _ (by omega)), (by first | assumption | omega | decide | exact hCF _ (by omega)), e_, rfl, rfl⟩
      · have hn_2366 : 256 ≤ (a / 65536) := Nat.not_lt.mp (fun q => c37_2364 ((nI_ltI (a := (a / 65536)) (b := 256) (by omega) (by omega)).mpr q))
        replace e_ := fun β k_ => (e_ β k_).trans (if_neg (Nat.not_lt.mpr hn_2366))
        refine g_iinc (v := 7) (lv' := [(1, .int 7), (0, .int (nI (a / 65536)))]) B dJ6_numberOfLeadingZeros_0f7a4_40 1 rfl (by decide) (by decide) rfl ?_
        refine g_iload_n B dJ6_numberOfLeadingZeros_0f7a4_43 rfl 1 rfl ?_
        refine g_bipush (v := 8) B dJ6_numberOfLeadingZeros_0f7a4_44 (by decide) ?_
        refine g_iushr B dJ6_numberOfLeadingZeros_0f7a4_46 ?_
        refine g_ri (x' := nI ((a / 65536) / 256)) (pk_ushrN (n := (a / 65536)) (by omega) 8 8 (by decide)) ?_
        refine g_istore_n (lv' := [(0, .int (nI ((a / 65536) / 256))), (1, .int 7)]) B dJ6_numberOfLeadingZeros_0f7a4_47 rfl (by decide) rfl ?_
        refine g_iload_n B dJ6_numberOfLeadingZeros_0f7a4_48 rfl 0 rfl ?_
        refine g_bipush (v := 16) B dJ6_numberOfLeadingZeros_0f7a4_49 (by decide) ?_
        refine g_icmp_lt (tgt := 61) B dJ6_numberOfLeadingZeros_0f7a4_51 (by decide) (fun c51_2376 => ?_) (fun c51_2376 => ?_)
        · have hn_2377 : ((a / 65536) / 256) < 16 := (nI_ltI (a := ((a / 65536) / 256)) (b := 16) (by omega) (by omega)).mp c51_2376
          replace e_ := fun β k_ => (e_ β k_).trans (if_pos hn_2377)
          refine g_iload_n B dJ6_numberOfLeadingZeros_0f7a4_61 rfl 0 rfl ?_
          refine g_iconst (v := 4) B dJ6_numberOfLeadingZeros_0f7a4_62 (by decide) ?_
          refine g_icmp_lt (tgt := 73) B dJ6_numberOfLeadingZeros_0f7a4_63 (by decide) (fun c63_2379 => ?_) (fun c63_2379 => ?_)
          · have hn_2380 : ((a / 65536) / 256) < 4 := (nI_ltI (a := ((a / 65536) / 256)) (b := 4) (by omega) (by omega)).mp c63_2379
            replace e_ := fun β k_ => (e_ β k_).trans (if_pos hn_2380)
            refine g_iload_n B dJ6_numberOfLeadingZeros_0f7a4_73 rfl 1 rfl ?_
            refine g_iload_n B dJ6_numberOfLeadingZeros_0f7a4_74 rfl 0 rfl ?_
            refine g_iconst (v := 1) B dJ6_numberOfLeadingZeros_0f7a4_75 (by decide) ?_
            refine g_iushr B dJ6_numberOfLeadingZeros_0f7a4_76 ?_
            refine g_ri (x' := nI (((a / 65536) / 256) / 2)) (pk_ushrN (n := ((a / 65536) / 256)) (by omega) 1 1 (by decide)) ?_
            refine g_isub B dJ6_numberOfLeadingZeros_0f7a4_77 ?_
            refine g_ri (x' := nI (7 - (((a / 65536) / 256) / 2))) (pk_sub (a := 7) (b := (((a / 65536) / 256) / 2)) (by omega)) ?_
            exact g_iret B hr dJ6_numberOfLeadingZeros_0f7a4_78 (by decide) (by decide) ⟨(7 - (((a / 65536) / 256) / 2)), (by first | assumption | omega | decide | exact hCF _ (by omega)), (by first | assumption | omega | decide | exact hCF _ (by omega)), (by first | assumption | omega | decide | exact hCF _ (by omega)), (by first | assumption | omega | decide | exact hCF _ (by omega)), e_, rfl, rfl⟩
          · have hn_2381 : 4 ≤ ((a / 65536) / 256) := Nat.not_lt.mp (fun q => c63_2379 ((nI_ltI (a := ((a / 65536) / 256)) (b := 4) (by omega) (by omega)).mpr q))
            replace e_ := fun β k_ => (e_ β k_).trans (if_neg (Nat.not_lt.mpr hn_2381))
            refine g_iinc (v := 5) (lv' := [(1, .int 5), (0, .int (nI ((a / 65536) / 256)))]) B dJ6_numberOfLeadingZeros_0f7a4_66 1 rfl (by decide) (by decide) rfl ?_
            refine g_iload_n B dJ6_numberOfLeadingZeros_0f7a4_69 rfl 1 rfl ?_
            refine g_iconst (v := 2) B dJ6_numberOfLeadingZeros_0f7a4_70 (by decide) ?_
            refine g_iushr B dJ6_numberOfLeadingZeros_0f7a4_71 ?_
            refine g_ri (x' := nI (((a / 65536) / 256) / 4)) (pk_ushrN (n := ((a / 65536) / 256)) (by omega) 2 2 (by decide)) ?_
            refine g_istore_n (lv' := [(0, .int (nI (((a / 65536) / 256) / 4))), (1, .int 5)]) B dJ6_numberOfLeadingZeros_0f7a4_72 rfl (by decide) rfl ?_
            refine g_iload_n B dJ6_numberOfLeadingZeros_0f7a4_73 rfl 1 rfl ?_
            refine g_iload_n B dJ6_numberOfLeadingZeros_0f7a4_74 rfl 0 rfl ?_
            refine g_iconst (v := 1) B dJ6_numberOfLeadingZeros_0f7a4_75 (by decide) ?_
            refine g_iushr B dJ6_numberOfLeadingZeros_0f7a4_76 ?_
            refine g_ri (x' := nI ((((a / 65536) / 256) / 4) / 2)) (pk_ushrN (n := (((a / 65536) / 256) / 4)) (by omega) 1 1 (by decide)) ?_
            refine g_isub B dJ6_numberOfLeadingZeros_0f7a4_77 ?_
            refine g_ri (x' := nI (5 - ((((a / 65536) / 256) / 4) / 2))) (pk_sub (a := 5) (b := ((((a / 65536) / 256) / 4) / 2)) (by omega)) ?_
            exact g_iret B hr dJ6_numberOfLeadingZeros_0f7a4_78 (by decide) (by decide) ⟨(5 - ((((a / 65536) / 256) / 4) / 2)), (by first | assumption | omega | decide | exact hCF _ (by omega)), (by first | assumption | omega | decide | exact hCF _ (by omega)), (by first | assumption | omega | decide | exact hCF _ (by omega)), (by first | assumption | omega | decide | exact hCF _ (by omega)), e_, rfl, rfl⟩
        · have hn_2378 : 16 ≤ ((a / 65536) / 256) := Nat.not_lt.mp (fun q => c51_2376 ((nI_ltI (a := ((a / 65536) / 256)) (b := 16) (by omega) (by omega)).mpr q))
          replace e_ := fun β k_ => (e_ β k_).trans (if_neg (Nat.not_lt.mpr hn_2378))
          refine g_iinc (v := 3) (lv' := [(1, .int 3), (0, .int (nI ((a / 65536) / 256)))]) B dJ6_numberOfLeadingZeros_0f7a4_54 1 rfl (by decide) (by decide) rfl ?_
          refine g_iload_n B dJ6_numberOfLeadingZeros_0f7a4_57 rfl 1 rfl ?_
          refine g_iconst (v := 4) B dJ6_numberOfLeadingZeros_0f7a4_58 (by decide) ?_
          refine g_iushr B dJ6_numberOfLeadingZeros_0f7a4_59 ?_
          refine g_ri (x' := nI (((a / 65536) / 256) / 16)) (pk_ushrN (n := ((a / 65536) / 256)) (by omega) 4 4 (by decide)) ?_
          refine g_istore_n (lv' := [(0, .int (nI (((a / 65536) / 256) / 16))), (1, .int 3)]) B dJ6_numberOfLeadingZeros_0f7a4_60 rfl (by decide) rfl ?_
          refine g_iload_n B dJ6_numberOfLeadingZeros_0f7a4_61 rfl 0 rfl ?_
          refine g_iconst (v := 4) B dJ6_numberOfLeadingZeros_0f7a4_62 (by decide) ?_
          refine g_icmp_lt (tgt := 73) B dJ6_numberOfLeadingZeros_0f7a4_63 (by decide) (fun c63_2382 => ?_) (fun c63_2382 => ?_)
          · have hn_2383 : (((a / 65536) / 256) / 16) < 4 := (nI_ltI (a := (((a / 65536) / 256) / 16)) (b := 4) (by omega) (by omega)).mp c63_2382
            replace e_ := fun β k_ => (e_ β k_).trans (if_pos hn_2383)
            refine g_iload_n B dJ6_numberOfLeadingZeros_0f7a4_73 rfl 1 rfl ?_
            refine g_iload_n B dJ6_numberOfLeadingZeros_0f7a4_74 rfl 0 rfl ?_
            refine g_iconst (v := 1) B dJ6_numberOfLeadingZeros_0f7a4_75 (by decide) ?_
            refine g_iushr B dJ6_numberOfLeadingZeros_0f7a4_76 ?_
            refine g_ri (x' := nI ((((a / 65536) / 256) / 16) / 2)) (pk_ushrN (n := (((a / 65536) / 256) / 16)) (by omega) 1 1 (by decide)) ?_
            refine g_isub B dJ6_numberOfLeadingZeros_0f7a4_77 ?_
            refine g_ri (x' := nI (3 - ((((a / 65536) / 256) / 16) / 2))) (pk_sub (a := 3) (b := ((((a / 65536) / 256) / 16) / 2)) (by omega)) ?_
            exact g_iret B hr dJ6_numberOfLeadingZeros_0f7a4_78 (by decide) (by decide) ⟨(3 - ((((a / 65536) / 256) / 16) / 2)), (by first | assumption | omega | decide | exact hCF _ (by omega)), (by first | assumption | omega | decide | exact hCF _ (by omega)), (by first | assumption | omega | decide | exact hCF _ (by omega)), (by first | assumption | omega | decide | exact hCF _ (by omega)), e_, rfl, rfl⟩
          · have hn_2384 : 4 ≤ (((a / 65536) / 256) / 16) := Nat.not_lt.mp (fun q => c63_2382 ((nI_ltI (a := (((a / 65536) / 256) / 16)) (b := 4) (by omega) (by omega)).mpr q))
            replace e_ := fun β k_ => (e_ β k_).trans (if_neg (Nat.not_lt.mpr hn_2384))
            refine g_iinc (v := 1) (lv' := [(1, .int 1), (0, .int (nI (((a / 65536) / 256) / 16)))]) B dJ6_numberOfLeadingZeros_0f7a4_66 1 rfl (by decide) (by decide) rfl ?_
            refine g_iload_n B dJ6_numberOfLeadingZeros_0f7a4_69 rfl 1 rfl ?_
            refine g_iconst (v := 2) B dJ6_numberOfLeadingZeros_0f7a4_70 (by decide) ?_
            refine g_iushr B dJ6_numberOfLeadingZeros_0f7a4_71 ?_
            refine g_ri (x' := nI ((((a / 65536) / 256) / 16) / 4)) (pk_ushrN (n := (((a / 65536) / 256) / 16)) (by omega) 2 2 (by decide)) ?_
            refine g_istore_n (lv' := [(0, .int (nI ((((a / 65536) / 256) / 16) / 4))), (1, .int 1)]) B dJ6_numberOfLeadingZeros_0f7a4_72 rfl (by decide) rfl ?_
            refine g_iload_n B dJ6_numberOfLeadingZeros_0f7a4_73 rfl 1 rfl ?_
            refine g_iload_n B dJ6_numberOfLeadingZeros_0f7a4_74 rfl 0 rfl ?_
            refine g_iconst (v := 1) B dJ6_numberOfLeadingZeros_0f7a4_75 (by decide) ?_
            refine g_iushr B dJ6_numberOfLeadingZeros_0f7a4_76 ?_
            refine g_ri (x' := nI (((((a / 65536) / 256) / 16) / 4) / 2)) (pk_ushrN (n := ((((a / 65536) / 256) / 16) / 4)) (by omega) 1 1 (by decide)) ?_
            refine g_isub B dJ6_numberOfLeadingZeros_0f7a4_77 ?_
            refine g_ri (x' := nI (1 - (((((a / 65536) / 256) / 16) / 4) / 2))) (pk_sub (a := 1) (b := (((((a / 65536) / 256) / 16) / 4) / 2)) (by omega)) ?_
            exact g_iret B hr dJ6_numberOfLeadingZeros_0f7a4_78 (by decide) (by decide) ⟨(1 - (((((a / 65536) / 256) / 16) / 4) / 2)), (by first | assumption | omega | decide | exact hCF _ (by omega)), (by first | assumption | omega | decide | exact hCF _ (by omega)), (by first | assumption | omega | decide | exact hCF _ (by omega)), (by first | assumption | omega | decide | exact hCF _ (by omega)), e_, rfl, rfl⟩
  · have hn_2339 : a ≤ 0 := Nat.not_lt.mp (fun q => c1_2337 ((nI_ltI (a := 0) (b := a) (by omega) (by omega)).mpr q))
    replace e_ := fun β k_ => (e_ β k_).trans (if_neg (Nat.not_lt.mpr hn_2339))
    refine g_iload_n B dJ6_numberOfLeadingZeros_0f7a4_4 rfl 0 rfl ?_
    refine g_if_ne (tgt := 13) B dJ6_numberOfLeadingZeros_0f7a4_5 (by decide) (fun c5_2385 => ?_) (fun c5_2385 => ?_)
    · have hn_2386 : ¬ a = 0 := fun q => c5_2385 ((nI_eq (a := a) (b := 0) (by omega) (by omega)).mpr q)
      replace e_ := fun β k_ => (e_ β k_).trans (if_neg hn_2386)
      refine g_iconst (v := 0) B dJ6_numberOfLeadingZeros_0f7a4_13 (by decide) ?_
      exact g_iret B hr dJ6_numberOfLeadingZeros_0f7a4_14 (by decide) (by decide) ⟨0, (by first | assumption | omega | decide | exact hCF _ (by omega)), (by first | assumption | omega | decide | exact hCF _ (by omega)), (by first | assumption | omega | decide | exact hCF _ (by omega)), (by first | assumption | omega | decide | exact hCF _ (by omega)), e_, rfl, rfl⟩
    · have hn_2387 : a = 0 := (nI_eq (a := a) (b := 0) (by omega) (by omega)).mp c5_2385
      replace e_ := fun β k_ => (e_ β k_).trans (if_pos hn_2387)
      refine g_bipush (v := 32) B dJ6_numberOfLeadingZeros_0f7a4_8 (by decide) ?_
      refine g_goto (tgt := 14) B dJ6_numberOfLeadingZeros_0f7a4_10 (by decide) ?_
      exact g_iret B hr dJ6_numberOfLeadingZeros_0f7a4_14 (by decide) (by decide) ⟨32, (by first | assumption | omega | decide | exact hCF _ (by omega)), (by first | assumption | omega | decide | exact hCF _ (by omega)), (by first | assumption | omega | decide | exact hCF _ (by omega)), (by first | assumption | omega | decide | exact hCF _ (by omega)), e_, rfl, rfl⟩
abbrev MJ13_numberOfLeadingZeros_95d88 : g_M := (yJ13_numberOfLeadingZeros_95d88, cJ13_numberOfLeadingZeros_95d88, 3, (some .int))
theorem dJ13_numberOfLeadingZeros_95d88_0 : decode cJ13_numberOfLeadingZeros_95d88 0 = .ok (.lload_n 0, 1) := by decide +kernel
theorem dJ13_numberOfLeadingZeros_95d88_1 : decode cJ13_numberOfLeadingZeros_95d88 1 = .ok (.bipush 32, 2) := by decide +kernel
theorem dJ13_numberOfLeadingZeros_95d88_3 : decode cJ13_numberOfLeadingZeros_95d88 3 = .ok (.lushr, 1) := by decide +kernel
theorem dJ13_numberOfLeadingZeros_95d88_4 : decode cJ13_numberOfLeadingZeros_95d88 4 = .ok (.l2i, 1) := by decide +kernel
theorem dJ13_numberOfLeadingZeros_95d88_5 : decode cJ13_numberOfLeadingZeros_95d88 5 = .ok (.istore_n 2, 1) := by decide +kernel
theorem dJ13_numberOfLeadingZeros_95d88_6 : decode cJ13_numberOfLeadingZeros_95d88 6 = .ok (.iload_n 2, 1) := by decide +kernel
theorem dJ13_numberOfLeadingZeros_95d88_7 : decode cJ13_numberOfLeadingZeros_95d88 7 = .ok (.ifCond .ne 14, 3) := by decide +kernel
theorem dJ13_numberOfLeadingZeros_95d88_21 : decode cJ13_numberOfLeadingZeros_95d88 21 = .ok (.iload_n 2, 1) := by decide +kernel
theorem dJ13_numberOfLeadingZeros_95d88_22 : decode cJ13_numberOfLeadingZeros_95d88 22 = .ok (.invokestatic 308, 3) := by decide +kernel
theorem w_ml_J13_308 : Cond.methodLink RJ13 308 yJ6_numberOfLeadingZeros_0f7a4 ∈ g_tbl := g_tbl_in 1110 (by decide +kernel) (by decide +kernel)
theorem w_cd_J6_numberOfLeadingZeros_0f7a4 : g_cw MJ6_numberOfLeadingZeros_0f7a4 ∈ g_tbl := g_tbl_in 1112 (by decide +kernel) (by decide +kernel)
theorem w_ini_J6 : Cond.initialized RJ6 ∈ g_tbl := g_tbl_in 82 (by decide +kernel) (by decide +kernel)
theorem cl_J13_308 : CL RJ13 308 1 MJ6_numberOfLeadingZeros_0f7a4 := ⟨w_ml_J13_308, w_cd_J6_numberOfLeadingZeros_0f7a4, w_ini_J6, by decide +kernel, by decide +kernel, by decide +kernel⟩
theorem w_sm_J6_numberOfLeadingZeros_0f7a4 : Cond.static yJ6_numberOfLeadingZeros_0f7a4 ∈ g_tbl := g_tbl_in 1111 (by decide +kernel) (by decide +kernel)
theorem dJ13_numberOfLeadingZeros_95d88_25 : decode cJ13_numberOfLeadingZeros_95d88 25 = .ok (.ireturn, 1) := by decide +kernel
theorem dJ13_numberOfLeadingZeros_95d88_10 : decode cJ13_numberOfLeadingZeros_95d88 10 = .ok (.bipush 32, 2) := by decide +kernel
theorem dJ13_numberOfLeadingZeros_95d88_12 : decode cJ13_numberOfLeadingZeros_95d88 12 = .ok (.lload_n 0, 1) := by decide +kernel
theorem dJ13_numberOfLeadingZeros_95d88_13 : decode cJ13_numberOfLeadingZeros_95d88 13 = .ok (.l2i, 1) := by decide +kernel
theorem dJ13_numberOfLeadingZeros_95d88_14 : decode cJ13_numberOfLeadingZeros_95d88 14 = .ok (.invokestatic 308, 3) := by decide +kernel
theorem dJ13_numberOfLeadingZeros_95d88_17 : decode cJ13_numberOfLeadingZeros_95d88 17 = .ok (.iadd, 1) := by decide +kernel
theorem dJ13_numberOfLeadingZeros_95d88_18 : decode cJ13_numberOfLeadingZeros_95d88 18 = .ok (.goto 7, 3) := by decide +kernel
set_option maxRecDepth 100000 in
def fn_wr_nlz8_w (x : Int64) (β : Type) (k_ : Nat → β) : β := (if (Int64.toInt32 ((Int64.toUInt64 x >>> ((Int32.toInt64 32).toUInt64 &&& Int64.toUInt64 63)).toInt64)) = 0 then (fn_wr_nlz_w (Int64.toInt32 x) β (fun zr_2392 => (k_ (32 + zr_2392)))) else (fn_wr_nlz_w (Int64.toInt32 ((Int64.toUInt64 x >>> ((Int32.toInt64 32).toUInt64 &&& Int64.toUInt64 63)).toInt64)) β (fun zr_2389 => (k_ zr_2389))))
set_option maxRecDepth 100000 in
theorem fn_wr_nlz8_w_s {x : Int64} {β : Type} {k_ : Nat → β} : fn_wr_nlz8_w x β k_ = (if (Int64.toInt32 ((Int64.toUInt64 x >>> ((Int32.toInt64 32).toUInt64 &&& Int64.toUInt64 63)).toInt64)) = 0 then (fn_wr_nlz_w (Int64.toInt32 x) β (fun zr_2392 => (k_ (32 + zr_2392)))) else (fn_wr_nlz_w (Int64.toInt32 ((Int64.toUInt64 x >>> ((Int32.toInt64 32).toUInt64 &&& Int64.toUInt64 63)).toInt64)) β (fun zr_2389 => (k_ zr_2389)))) := rfl
set_option maxRecDepth 100000 in
set_option maxHeartbeats 4000000 in
theorem wr_nlz8_w (E : g_E) (x : Int64)  : Ev E MJ13_numberOfLeadingZeros_95d88 1 21 0 0 [.long x] [] (fun v_ w_ => ∃ zr : Nat, (zr ≤ 64) ∧ (∀ (β : Type) (k_ : Nat → β), fn_wr_nlz8_w x β k_ = k_ zr) ∧ v_ = some (.int (nI zr)) ∧ w_ = []) := by
  refine Ev.intro (by decide) (Nat.le_of_ble_eq_true rfl) ?_
  intro X B hr hI
  have B : Bd E X cJ13_numberOfLeadingZeros_95d88 RJ13 3 1 21 0 0 := B
  have hr : Rt E X (some .int) 0 0 (fun v_ w_ => ∃ zr : Nat, (zr ≤ 64) ∧ (∀ (β : Type) (k_ : Nat → β), fn_wr_nlz8_w x β k_ = k_ zr) ∧ v_ = some (.int (nI zr)) ∧ w_ = []) := hr
  have e_ := fun (β : Type) (k_ : Nat → β) => fn_wr_nlz8_w_s (β := β) (k_ := k_) (x := x)
  show G E X 3 [] 0 0 [(0, .long x)] 0 []
  refine g_lload_n B dJ13_numberOfLeadingZeros_95d88_0 rfl 0 rfl ?_
  refine g_bipush (v := 32) B dJ13_numberOfLeadingZeros_95d88_1 (by decide) ?_
  refine g_lushr B dJ13_numberOfLeadingZeros_95d88_3 ?_
  refine g_l2i B dJ13_numberOfLeadingZeros_95d88_4 ?_
  refine g_istore_n (lv' := [(2, .int (Int64.toInt32 ((Int64.toUInt64 x >>> ((Int32.toInt64 32).toUInt64 &&& Int64.toUInt64 63)).toInt64))), (0, .long x)]) B dJ13_numberOfLeadingZeros_95d88_5 rfl (by decide) rfl ?_
  refine g_iload_n B dJ13_numberOfLeadingZeros_95d88_6 rfl 0 rfl ?_
  refine g_if_ne (tgt := 21) B dJ13_numberOfLeadingZeros_95d88_7 (by decide) (fun c7_2388 => ?_) (fun c7_2388 => ?_)
  · replace e_ := fun β k_ => (e_ β k_).trans (if_neg c7_2388)
    refine g_iload_n B dJ13_numberOfLeadingZeros_95d88_21 rfl 0 rfl ?_
    refine g_callS (st := []) (As := [.int (Int64.toInt32 ((Int64.toUInt64 x >>> ((Int32.toInt64 32).toUInt64 &&& Int64.toUInt64 63)).toInt64))]) (wr := []) (nc' := 0) (ns' := 0) B cl_J13_308 w_sm_J6_numberOfLeadingZeros_0f7a4 (wr_nlz_w E (Int64.toInt32 ((Int64.toUInt64 x >>> ((Int32.toInt64 32).toUInt64 &&& Int64.toUInt64 63)).toInt64)) ) rfl [] [] rfl rfl (by decide) (by decide) (by decide) ⟨by decide, by decide⟩ rfl rfl (by decide) (by decide) rfl (Nat.le_of_ble_eq_true rfl) dJ13_numberOfLeadingZeros_95d88_22 (fun v w hq => ?_)
    obtain ⟨zr_2389, hf_2390, hz_2391, rfl, rfl⟩ := hq
    replace e_ := fun β k_ => (e_ β k_).trans (hz_2391 β _)
    show G E X 3 [] 0 0 [(2, .int (Int64.toInt32 ((Int64.toUInt64 x >>> ((Int32.toInt64 32).toUInt64 &&& Int64.toUInt64 63)).toInt64))), (0, .long x)] 25 [.int (nI zr_2389)]
    exact g_iret B hr dJ13_numberOfLeadingZeros_95d88_25 (by decide) (by decide) ⟨zr_2389, (by first | assumption | omega | decide | exact hCF _ (by omega)), e_, rfl, rfl⟩
  · replace e_ := fun β k_ => (e_ β k_).trans (if_pos c7_2388)
    refine g_bipush (v := 32) B dJ13_numberOfLeadingZeros_95d88_10 (by decide) ?_
    refine g_lload_n B dJ13_numberOfLeadingZeros_95d88_12 rfl 1 rfl ?_
    refine g_l2i B dJ13_numberOfLeadingZeros_95d88_13 ?_
    refine g_callS (st := [.int 32]) (As := [.int (Int64.toInt32 x)]) (wr := []) (nc' := 0) (ns' := 0) B cl_J13_308 w_sm_J6_numberOfLeadingZeros_0f7a4 (wr_nlz_w E (Int64.toInt32 x) ) rfl [] [] rfl rfl (by decide) (by decide) (by decide) ⟨by decide, by decide⟩ rfl rfl (by decide) (by decide) rfl (Nat.le_of_ble_eq_true rfl) dJ13_numberOfLeadingZeros_95d88_14 (fun v w hq => ?_)
    obtain ⟨zr_2392, hf_2393, hz_2394, rfl, rfl⟩ := hq
    replace e_ := fun β k_ => (e_ β k_).trans (hz_2394 β _)
    show G E X 3 [] 0 0 [(2, .int (Int64.toInt32 ((Int64.toUInt64 x >>> ((Int32.toInt64 32).toUInt64 &&& Int64.toUInt64 63)).toInt64))), (0, .long x)] 17 [.int (nI zr_2392), .int 32]
    refine g_iadd B dJ13_numberOfLeadingZeros_95d88_17 ?_
    refine g_ri (x' := nI (32 + zr_2392)) (nI_add 32 zr_2392) ?_
    refine g_goto (tgt := 25) B dJ13_numberOfLeadingZeros_95d88_18 (by decide) ?_
    exact g_iret B hr dJ13_numberOfLeadingZeros_95d88_25 (by decide) (by decide) ⟨(32 + zr_2392), (by first | assumption | omega | decide | exact hCF _ (by omega)), e_, rfl, rfl⟩
set_option maxRecDepth 100000 in
def fn_wr_nlz8_n (a : Nat) (β : Type) (k_ : Nat → β) : β := (if (a / 4294967296) = 0 then (fn_wr_nlz_n a β (fun zr_2404 => (k_ (32 + zr_2404)))) else (fn_wr_nlz_n (a / 4294967296) β (fun zr_2398 => (k_ zr_2398))))
set_option maxRecDepth 100000 in
theorem fn_wr_nlz8_n_s {a : Nat} {β : Type} {k_ : Nat → β} : fn_wr_nlz8_n a β k_ = (if (a / 4294967296) = 0 then (fn_wr_nlz_n a β (fun zr_2404 => (k_ (32 + zr_2404)))) else (fn_wr_nlz_n (a / 4294967296) β (fun zr_2398 => (k_ zr_2398)))) := rfl
set_option maxRecDepth 100000 in
set_option maxHeartbeats 4000000 in
theorem wr_nlz8_n (E : g_E) (a : Nat) (h0 : 0 < a) (h1 : a < 2147483648) : Ev E MJ13_numberOfLeadingZeros_95d88 1 21 0 0 [.long (lN a)] [] (fun v_ w_ => ∃ zr : Nat, (zr ≤ 63) ∧ (33 ≤ zr) ∧ (a ≤ 1023 → 54 ≤ zr) ∧ (a ≤ 131071 → 47 ≤ zr) ∧ (∀ (β : Type) (k_ : Nat → β), fn_wr_nlz8_n a β k_ = k_ zr) ∧ v_ = some (.int (nI zr)) ∧ w_ = []) := by
  refine Ev.intro (by decide) (Nat.le_of_ble_eq_true rfl) ?_
  intro X B hr hI
  have B : Bd E X cJ13_numberOfLeadingZeros_95d88 RJ13 3 1 21 0 0 := B
  have hr : Rt E X (some .int) 0 0 (fun v_ w_ => ∃ zr : Nat, (zr ≤ 63) ∧ (33 ≤ zr) ∧ (a ≤ 1023 → 54 ≤ zr) ∧ (a ≤ 131071 → 47 ≤ zr) ∧ (∀ (β : Type) (k_ : Nat → β), fn_wr_nlz8_n a β k_ = k_ zr) ∧ v_ = some (.int (nI zr)) ∧ w_ = []) := hr
  have e_ := fun (β : Type) (k_ : Nat → β) => fn_wr_nlz8_n_s (β := β) (k_ := k_) (a := a)
  show G E X 3 [] 0 0 [(0, .long (lN a))] 0 []
  refine g_lload_n B dJ13_numberOfLeadingZeros_95d88_0 rfl 0 rfl ?_
  refine g_bipush (v := 32) B dJ13_numberOfLeadingZeros_95d88_1 (by decide) ?_
  refine g_lushr B dJ13_numberOfLeadingZeros_95d88_3 ?_
  refine g_rl (x' := lN (a / 4294967296)) (pf_ushr (a := a) (d := 32) (by decide) (by omega)) ?_
  refine g_l2i B dJ13_numberOfLeadingZeros_95d88_4 ?_
  refine g_ri (x' := nI (a / 4294967296)) (lN_i (a / 4294967296)) ?_
  refine g_istore_n (lv' := [(2, .int (nI (a / 4294967296))), (0, .long (lN a))]) B dJ13_numberOfLeadingZeros_95d88_5 rfl (by decide) rfl ?_
  refine g_iload_n B dJ13_numberOfLeadingZeros_95d88_6 rfl 0 rfl ?_
  refine g_if_ne (tgt := 21) B dJ13_numberOfLeadingZeros_95d88_7 (by decide) (fun c7_2395 => ?_) (fun c7_2395 => ?_)
  · have hn_2396 : ¬ (a / 4294967296) = 0 := fun q => c7_2395 ((nI_eq (a := (a / 4294967296)) (b := 0) (by omega) (by omega)).mpr q)
    replace e_ := fun β k_ => (e_ β k_).trans (if_neg hn_2396)
    refine g_iload_n B dJ13_numberOfLeadingZeros_95d88_21 rfl 0 rfl ?_
    refine g_callS (st := []) (As := [.int (nI (a / 4294967296))]) (wr := []) (nc' := 0) (ns' := 0) B cl_J13_308 w_sm_J6_numberOfLeadingZeros_0f7a4 (wr_nlz_n E (a / 4294967296) (by first | assumption | omega | decide | exact hCF _ (by omega)) (by first | assumption | omega | decide | exact hCF _ (by omega))) rfl [] [] rfl rfl (by decide) (by decide) (by decide) ⟨by decide, by decide⟩ rfl rfl (by decide) (by decide) rfl (Nat.le_of_ble_eq_true rfl) dJ13_numberOfLeadingZeros_95d88_22 (fun v w hq => ?_)
    obtain ⟨zr_2398, hf_2399, hf_2400, hf_2401, hf_2402, hz_2403, rfl, rfl⟩ := hq
    replace e_ := fun β k_ => (e_ β k_).trans (hz_2403 β _)
    show G E X 3 [] 0 0 [(2, .int (nI (a / 4294967296))), (0, .long (lN a))] 25 [.int (nI zr_2398)]
    exact g_iret B hr dJ13_numberOfLeadingZeros_95d88_25 (by decide) (by decide) ⟨zr_2398, (by first | assumption | omega | decide | exact hCF _ (by omega)), (by first | assumption | omega | decide | exact hCF _ (by omega)), (by first | assumption | omega | decide | exact hCF _ (by omega)), (by first | assumption | omega | decide | exact hCF _ (by omega)), e_, rfl, rfl⟩
  · have hn_2397 : (a / 4294967296) = 0 := (nI_eq (a := (a / 4294967296)) (b := 0) (by omega) (by omega)).mp c7_2395
    replace e_ := fun β k_ => (e_ β k_).trans (if_pos hn_2397)
    refine g_bipush (v := 32) B dJ13_numberOfLeadingZeros_95d88_10 (by decide) ?_
    refine g_lload_n B dJ13_numberOfLeadingZeros_95d88_12 rfl 1 rfl ?_
    refine g_l2i B dJ13_numberOfLeadingZeros_95d88_13 ?_
    refine g_ri (x' := nI a) (lN_i a) ?_
    refine g_callS (st := [.int 32]) (As := [.int (nI a)]) (wr := []) (nc' := 0) (ns' := 0) B cl_J13_308 w_sm_J6_numberOfLeadingZeros_0f7a4 (wr_nlz_n E a (by first | assumption | omega | decide | exact hCF _ (by omega)) (by first | assumption | omega | decide | exact hCF _ (by omega))) rfl [] [] rfl rfl (by decide) (by decide) (by decide) ⟨by decide, by decide⟩ rfl rfl (by decide) (by decide) rfl (Nat.le_of_ble_eq_true rfl) dJ13_numberOfLeadingZeros_95d88_14 (fun v w hq => ?_)
    obtain ⟨zr_2404, hf_2405, hf_2406, hf_2407, hf_2408, hz_2409, rfl, rfl⟩ := hq
    replace e_ := fun β k_ => (e_ β k_).trans (hz_2409 β _)
    show G E X 3 [] 0 0 [(2, .int (nI (a / 4294967296))), (0, .long (lN a))] 17 [.int (nI zr_2404), .int 32]
    refine g_iadd B dJ13_numberOfLeadingZeros_95d88_17 ?_
    refine g_ri (x' := nI (32 + zr_2404)) (nI_add 32 zr_2404) ?_
    refine g_goto (tgt := 25) B dJ13_numberOfLeadingZeros_95d88_18 (by decide) ?_
    exact g_iret B hr dJ13_numberOfLeadingZeros_95d88_25 (by decide) (by decide) ⟨(32 + zr_2404), (by first | assumption | omega | decide | exact hCF _ (by omega)), (by first | assumption | omega | decide | exact hCF _ (by omega)), (by first | assumption | omega | decide | exact hCF _ (by omega)), (by first | assumption | omega | decide | exact hCF _ (by omega)), e_, rfl, rfl⟩
abbrev MX11_length : g_M := (yX11_length, cX11_length, 2, (some .int))
theorem dX11_length_0 : decode cX11_length 0 = .ok (.bipush 64, 2) := by decide +kernel
theorem dX11_length_2 : decode cX11_length 2 = .ok (.lload_n 0, 1) := by decide +kernel
theorem dX11_length_3 : decode cX11_length 3 = .ok (.invokestatic 160, 3) := by decide +kernel
theorem w_ml_X11_160 : Cond.methodLink RX11 160 yJ13_numberOfLeadingZeros_95d88 ∈ g_tbl := g_tbl_in 1107 (by decide +kernel) (by decide +kernel)
theorem w_cd_J13_numberOfLeadingZeros_95d88 : g_cw MJ13_numberOfLeadingZeros_95d88 ∈ g_tbl := g_tbl_in 1109 (by decide +kernel) (by decide +kernel)
theorem w_ini_J13 : Cond.initialized RJ13 ∈ g_tbl := g_tbl_in 83 (by decide +kernel) (by decide +kernel)
theorem cl_X11_160 : CL RX11 160 1 MJ13_numberOfLeadingZeros_95d88 := ⟨w_ml_X11_160, w_cd_J13_numberOfLeadingZeros_95d88, w_ini_J13, by decide +kernel, by decide +kernel, by decide +kernel⟩
theorem w_sm_J13_numberOfLeadingZeros_95d88 : Cond.static yJ13_numberOfLeadingZeros_95d88 ∈ g_tbl := g_tbl_in 1108 (by decide +kernel) (by decide +kernel)
theorem dX11_length_6 : decode cX11_length 6 = .ok (.isub, 1) := by decide +kernel
theorem dX11_length_7 : decode cX11_length 7 = .ok (.ireturn, 1) := by decide +kernel
set_option maxRecDepth 100000 in
def fn_wr_length_w (x : Int64) (β : Type) (k_ : Nat → β) : β := (fn_wr_nlz8_w x β (fun zr_2410 => (k_ (64 - zr_2410))))
set_option maxRecDepth 100000 in
theorem fn_wr_length_w_s {x : Int64} {β : Type} {k_ : Nat → β} : fn_wr_length_w x β k_ = (fn_wr_nlz8_w x β (fun zr_2410 => (k_ (64 - zr_2410)))) := rfl
set_option maxRecDepth 100000 in
set_option maxHeartbeats 4000000 in
theorem wr_length_w (E : g_E) (x : Int64)  : Ev E MX11_length 2 43 0 0 [.long x] [] (fun v_ w_ => ∃ zr : Nat, (zr ≤ 64) ∧ (∀ (β : Type) (k_ : Nat → β), fn_wr_length_w x β k_ = k_ zr) ∧ v_ = some (.int (nI zr)) ∧ w_ = []) := by
  refine Ev.intro (by decide) (Nat.le_of_ble_eq_true rfl) ?_
  intro X B hr hI
  have B : Bd E X cX11_length RX11 2 2 43 0 0 := B
  have hr : Rt E X (some .int) 0 0 (fun v_ w_ => ∃ zr : Nat, (zr ≤ 64) ∧ (∀ (β : Type) (k_ : Nat → β), fn_wr_length_w x β k_ = k_ zr) ∧ v_ = some (.int (nI zr)) ∧ w_ = []) := hr
  have e_ := fun (β : Type) (k_ : Nat → β) => fn_wr_length_w_s (β := β) (k_ := k_) (x := x)
  show G E X 2 [] 0 0 [(0, .long x)] 0 []
  refine g_bipush (v := 64) B dX11_length_0 (by decide) ?_
  refine g_lload_n B dX11_length_2 rfl 0 rfl ?_
  refine g_callS (st := [.int 64]) (As := [.long x]) (wr := []) (nc' := 0) (ns' := 0) B cl_X11_160 w_sm_J13_numberOfLeadingZeros_95d88 (wr_nlz8_w E x ) rfl [] [] rfl rfl (by decide) (by decide) (by decide) ⟨by decide, by decide⟩ rfl rfl (by decide) (by decide) rfl (Nat.le_of_ble_eq_true rfl) dX11_length_3 (fun v w hq => ?_)
  obtain ⟨zr_2410, hf_2411, hz_2412, rfl, rfl⟩ := hq
  replace e_ := fun β k_ => (e_ β k_).trans (hz_2412 β _)
  show G E X 2 [] 0 0 [(0, .long x)] 6 [.int (nI zr_2410), .int 64]
  refine g_isub B dX11_length_6 ?_
  refine g_ri (x' := nI (64 - zr_2410)) (pk_sub (a := 64) (b := zr_2410) (by omega)) ?_
  exact g_iret B hr dX11_length_7 (by decide) (by decide) ⟨(64 - zr_2410), (by first | assumption | omega | decide | exact hCF _ (by omega)), e_, rfl, rfl⟩
set_option maxRecDepth 100000 in
def fn_wr_length_n (a : Nat) (β : Type) (k_ : Nat → β) : β := (fn_wr_nlz8_n a β (fun zr_2413 => (k_ (64 - zr_2413))))
set_option maxRecDepth 100000 in
theorem fn_wr_length_n_s {a : Nat} {β : Type} {k_ : Nat → β} : fn_wr_length_n a β k_ = (fn_wr_nlz8_n a β (fun zr_2413 => (k_ (64 - zr_2413)))) := rfl
set_option maxRecDepth 100000 in
set_option maxHeartbeats 4000000 in
theorem wr_length_n (E : g_E) (a : Nat) (h0 : 0 < a) (h1 : a < 2147483648) : Ev E MX11_length 2 43 0 0 [.long (lN a)] [] (fun v_ w_ => ∃ zr : Nat, (zr ≤ 31) ∧ (1 ≤ zr) ∧ (a ≤ 1023 → zr ≤ 10) ∧ (a ≤ 131071 → zr ≤ 17) ∧ (∀ (β : Type) (k_ : Nat → β), fn_wr_length_n a β k_ = k_ zr) ∧ v_ = some (.int (nI zr)) ∧ w_ = []) := by
  refine Ev.intro (by decide) (Nat.le_of_ble_eq_true rfl) ?_
  intro X B hr hI
  have B : Bd E X cX11_length RX11 2 2 43 0 0 := B
  have hr : Rt E X (some .int) 0 0 (fun v_ w_ => ∃ zr : Nat, (zr ≤ 31) ∧ (1 ≤ zr) ∧ (a ≤ 1023 → zr ≤ 10) ∧ (a ≤ 131071 → zr ≤ 17) ∧ (∀ (β : Type) (k_ : Nat → β), fn_wr_length_n a β k_ = k_ zr) ∧ v_ = some (.int (nI zr)) ∧ w_ = []) := hr
  have e_ := fun (β : Type) (k_ : Nat → β) => fn_wr_length_n_s (β := β) (k_ := k_) (a := a)
  show G E X 2 [] 0 0 [(0, .long (lN a))] 0 []
  refine g_bipush (v := 64) B dX11_length_0 (by decide) ?_
  refine g_lload_n B dX11_length_2 rfl 0 rfl ?_
  refine g_callS (st := [.int 64]) (As := [.long (lN a)]) (wr := []) (nc' := 0) (ns' := 0) B cl_X11_160 w_sm_J13_numberOfLeadingZeros_95d88 (wr_nlz8_n E a (by first | assumption | omega | decide | exact hCF _ (by omega)) (by first | assumption | omega | decide | exact hCF _ (by omega))) rfl [] [] rfl rfl (by decide) (by decide) (by decide) ⟨by decide, by decide⟩ rfl rfl (by decide) (by decide) rfl (Nat.le_of_ble_eq_true rfl) dX11_length_3 (fun v w hq => ?_)
  obtain ⟨zr_2413, hf_2414, hf_2415, hf_2416, hf_2417, hz_2418, rfl, rfl⟩ := hq
  replace e_ := fun β k_ => (e_ β k_).trans (hz_2418 β _)
  show G E X 2 [] 0 0 [(0, .long (lN a))] 6 [.int (nI zr_2413), .int 64]
  refine g_isub B dX11_length_6 ?_
  refine g_ri (x' := nI (64 - zr_2413)) (pk_sub (a := 64) (b := zr_2413) (by omega)) ?_
  exact g_iret B hr dX11_length_7 (by decide) (by decide) ⟨(64 - zr_2413), (by first | assumption | omega | decide | exact hCF _ (by omega)), (by first | assumption | omega | decide | exact hCF _ (by omega)), (by first | assumption | omega | decide | exact hCF _ (by omega)), (by first | assumption | omega | decide | exact hCF _ (by omega)), e_, rfl, rfl⟩
abbrev MX11_bit : g_M := (yX11_bit, cX11_bit, 2, none)
theorem dX11_bit_0 : decode cX11_bit 0 = .ok (.aload_n 0, 1) := by decide +kernel
theorem dX11_bit_1 : decode cX11_bit 1 = .ok (.getfield 70, 3) := by decide +kernel
theorem dX11_bit_4 : decode cX11_bit 4 = .ok (.aload_n 0, 1) := by decide +kernel
theorem dX11_bit_5 : decode cX11_bit 5 = .ok (.getfield 153, 3) := by decide +kernel
theorem w_fl_X11_153 : Cond.fieldLink RX11 153 (TX11 31).1 (TX11 31).2.1 (TX11 31).2.2.1 ∈ g_tbl := g_tbl_in 911 (by decide +kernel) (by decide +kernel)
theorem fl_X11_153 : FL RX11 153 11 31 := ⟨RX11, TX11, 50, rfl, by decide, inX_X11, w_fl_X11_153⟩
theorem dX11_bit_8 : decode cX11_bit 8 = .ok (.iload_n 1, 1) := by decide +kernel
theorem dX11_bit_9 : decode cX11_bit 9 = .ok (.i2b, 1) := by decide +kernel
theorem dX11_bit_10 : decode cX11_bit 10 = .ok (.bastore, 1) := by decide +kernel
theorem dX11_bit_11 : decode cX11_bit 11 = .ok (.aload_n 0, 1) := by decide +kernel
theorem dX11_bit_12 : decode cX11_bit 12 = .ok (.dup, 1) := by decide +kernel
theorem dX11_bit_13 : decode cX11_bit 13 = .ok (.getfield 153, 3) := by decide +kernel
theorem dX11_bit_16 : decode cX11_bit 16 = .ok (.iconst 1, 1) := by decide +kernel
theorem dX11_bit_17 : decode cX11_bit 17 = .ok (.iadd, 1) := by decide +kernel
theorem dX11_bit_18 : decode cX11_bit 18 = .ok (.putfield 153, 3) := by decide +kernel
theorem pf_X11_31 : PF 11 31 .int false := fun C T N h => by cases h; exact ⟨⟨tyX11, tyX11_ok⟩, nmX11, by decide +kernel, rfl, rfl⟩
theorem dX11_bit_21 : decode cX11_bit 21 = .ok (.return_, 1) := by decide +kernel
set_option maxRecDepth 100000 in
def fn_wr_X11_bit (m_31 : Nat) (r30_f : Nat → Int32) (b : Int32) (β : Type) (k_ : Nat → (Nat → Int32) → β) : β := (k_ (m_31 + 1) (upd r30_f m_31 (Int8.toInt32 (Int32.toInt8 b))))
set_option maxRecDepth 100000 in
theorem fn_wr_X11_bit_s {m_31 : Nat} {r30_f : Nat → Int32} {b : Int32} {β : Type} {k_ : Nat → (Nat → Int32) → β} : fn_wr_X11_bit m_31 r30_f b β k_ = (k_ (m_31 + 1) (upd r30_f m_31 (Int8.toInt32 (Int32.toInt8 b)))) := rfl
set_option maxRecDepth 100000 in
set_option maxHeartbeats 4000000 in
theorem wr_X11_bit (E : g_E) (m : Nat) (r : Nat → Nat) (m_1 : Nat) (m_4 : Nat) (m_9 : Nat) (m_10 : Nat) (m_14 : Nat) (m_15 : Nat) (m_25 : Int32) (m_26 : Int32) (m_27 : Int64) (m_28 : Nat) (m_29 : Nat) (m_31 : Nat) (m_32 : Nat) (m_33 : Nat) (m_35 : Nat) (m_36 : Nat) (m_37 : Int32) (m_38 : Nat) (m_39 : Int32) (m_40 : Int32) (m_42 : Nat) (r30_f : Nat → Int32) (b : Int32) (h0 : m_31 < 160000) (hb0 : m_31 ≤ 160000) : Ev E MX11_bit 0 0 0 0 [.ref m, .int b] [(m, .inr (11, mkF r m_1 m_4 m_9 m_10 m_14 m_15 m_25 m_26 m_27 m_28 m_29 m_31 m_32 m_33 m_35 m_36 m_37 m_38 m_39 m_40 m_42)), ((r 30), .inl (E.2.2.1 1, 160000, .inl (nb r30_f)))] (fun v_ w_ => ∃ zm_31 : Nat, ∃ zr30_f : Nat → Int32, (zm_31 ≤ 160000) ∧ (zm_31 = m_31 + 1) ∧ (∀ (β : Type) (k_ : Nat → (Nat → Int32) → β), fn_wr_X11_bit m_31 r30_f b β k_ = k_ zm_31 zr30_f) ∧ v_ = none ∧ w_ = [(m, .inr (11, mkF r m_1 m_4 m_9 m_10 m_14 m_15 m_25 m_26 m_27 m_28 m_29 zm_31 m_32 m_33 m_35 m_36 m_37 m_38 m_39 m_40 m_42)), ((r 30), .inl (E.2.2.1 1, 160000, .inl (nb zr30_f)))]) := by
  refine Ev.intro (by decide) (Nat.le_of_ble_eq_true rfl) ?_
  intro X B hr hI
  have B : Bd E X cX11_bit RX11 2 0 0 0 0 := B
  have hr : Rt E X none 0 0 (fun v_ w_ => ∃ zm_31 : Nat, ∃ zr30_f : Nat → Int32, (zm_31 ≤ 160000) ∧ (zm_31 = m_31 + 1) ∧ (∀ (β : Type) (k_ : Nat → (Nat → Int32) → β), fn_wr_X11_bit m_31 r30_f b β k_ = k_ zm_31 zr30_f) ∧ v_ = none ∧ w_ = [(m, .inr (11, mkF r m_1 m_4 m_9 m_10 m_14 m_15 m_25 m_26 m_27 m_28 m_29 zm_31 m_32 m_33 m_35 m_36 m_37 m_38 m_39 m_40 m_42)), ((r 30), .inl (E.2.2.1 1, 160000, .inl (nb zr30_f)))]) := hr
  have e_ := fun (β : Type) (k_ : Nat → (Nat → Int32) → β) => fn_wr_X11_bit_s (β := β) (k_ := k_) (m_31 := m_31) (r30_f := r30_f) (b := b)
  show G E X 2 [(m, .inr (11, mkF r m_1 m_4 m_9 m_10 m_14 m_15 m_25 m_26 m_27 m_28 m_29 m_31 m_32 m_33 m_35 m_36 m_37 m_38 m_39 m_40 m_42)), ((r 30), .inl (E.2.2.1 1, 160000, .inl (nb r30_f)))] 0 0 [(0, .ref m), (1, .int b)] 0 []
  refine g_aload_n B dX11_bit_0 rfl 0 rfl ?_
  refine g_get B 0 30 fl_X11_70 rfl mf_30 dX11_bit_1 ?_
  refine g_aload_n B dX11_bit_4 rfl 0 rfl ?_
  refine g_get B 0 31 fl_X11_153 rfl mf_31 dX11_bit_5 ?_
  refine g_iload_n B dX11_bit_8 rfl 1 rfl ?_
  refine g_i2b B dX11_bit_9 ?_
  refine g_bast (ws' := [(m, .inr (11, mkF r m_1 m_4 m_9 m_10 m_14 m_15 m_25 m_26 m_27 m_28 m_29 m_31 m_32 m_33 m_35 m_36 m_37 m_38 m_39 m_40 m_42)), ((r 30), .inl (E.2.2.1 1, 160000, .inl (nb (upd r30_f m_31 (Int8.toInt32 (Int32.toInt8 b))))))]) B 1 rfl (vp_in_nI (by omega) (by omega)) (by rw [nb_upd, nI_clamp (n := m_31) (by omega)]; rfl) dX11_bit_10 ?_
  refine g_aload_n B dX11_bit_11 rfl 0 rfl ?_
  refine g_dup B dX11_bit_12 rfl ?_
  refine g_get B 0 31 fl_X11_153 rfl mf_31 dX11_bit_13 ?_
  refine g_iconst (v := 1) B dX11_bit_16 (by decide) ?_
  refine g_iadd B dX11_bit_17 ?_
  refine g_ri (x' := nI (m_31 + 1)) (nI_add m_31 1) ?_
  refine g_putM (ws' := [(m, .inr (11, mkF r m_1 m_4 m_9 m_10 m_14 m_15 m_25 m_26 m_27 m_28 m_29 (m_31 + 1) m_32 m_33 m_35 m_36 m_37 m_38 m_39 m_40 m_42)), ((r 30), .inl (E.2.2.1 1, 160000, .inl (nb (upd r30_f m_31 (Int8.toInt32 (Int32.toInt8 b))))))]) (fs' := mkF r m_1 m_4 m_9 m_10 m_14 m_15 m_25 m_26 m_27 m_28 m_29 (m_31 + 1) m_32 m_33 m_35 m_36 m_37 m_38 m_39 m_40 m_42) B 0 31 fl_X11_153 pf_X11_31 rfl (mlt (by decide)) rfl rfl (ms_31 rfl) rfl dX11_bit_18 ?_
  exact g_vret B hr dX11_bit_21 (by decide) (by decide) ⟨(m_31 + 1), (upd r30_f m_31 (Int8.toInt32 (Int32.toInt8 b))), (by first | assumption | omega | decide | exact hCF _ (by omega)), (by first | assumption | omega | decide | exact hCF _ (by omega)), e_, rfl, rfl⟩
abbrev MX11_bits : g_M := (yX11_bits, cX11_bits, 5, none)
theorem dX11_bits_0 : decode cX11_bits 0 = .ok (.iload_n 3, 1) := by decide +kernel
theorem dX11_bits_1 : decode cX11_bits 1 = .ok (.iconst 1, 1) := by decide +kernel
theorem dX11_bits_2 : decode cX11_bits 2 = .ok (.isub, 1) := by decide +kernel
theorem dX11_bits_3 : decode cX11_bits 3 = .ok (.istore 4, 2) := by decide +kernel
theorem dX11_bits_5 : decode cX11_bits 5 = .ok (.iload 4, 2) := by decide +kernel
theorem dX11_bits_7 : decode cX11_bits 7 = .ok (.ifCond .lt 20, 3) := by decide +kernel
theorem dX11_bits_10 : decode cX11_bits 10 = .ok (.aload_n 0, 1) := by decide +kernel
theorem dX11_bits_11 : decode cX11_bits 11 = .ok (.lload_n 1, 1) := by decide +kernel
theorem dX11_bits_12 : decode cX11_bits 12 = .ok (.iload 4, 2) := by decide +kernel
theorem dX11_bits_14 : decode cX11_bits 14 = .ok (.lshr, 1) := by decide +kernel
theorem dX11_bits_15 : decode cX11_bits 15 = .ok (.lconst 1, 1) := by decide +kernel
theorem dX11_bits_16 : decode cX11_bits 16 = .ok (.land, 1) := by decide +kernel
theorem dX11_bits_17 : decode cX11_bits 17 = .ok (.l2i, 1) := by decide +kernel
theorem dX11_bits_18 : decode cX11_bits 18 = .ok (.invokevirtual 156, 3) := by decide +kernel
theorem w_ml_X11_156 : Cond.methodLink RX11 156 yX11_bit ∈ g_tbl := g_tbl_in 1117 (by decide +kernel) (by decide +kernel)
theorem w_cd_X11_bit : g_cw MX11_bit ∈ g_tbl := g_tbl_in 1120 (by decide +kernel) (by decide +kernel)
theorem cl_X11_156 : CL RX11 156 1 MX11_bit := ⟨w_ml_X11_156, w_cd_X11_bit, w_ini_X11, by decide +kernel, by decide +kernel, by decide +kernel⟩
theorem w_im_X11_bit : Cond.instanceMethod yX11_bit ∈ g_tbl := g_tbl_in 1119 (by decide +kernel) (by decide +kernel)
theorem w_se_X11_bit : Cond.selects RX11 yX11_bit yX11_bit ∈ g_tbl := g_tbl_in 43 (by decide +kernel) (by decide +kernel)
theorem dX11_bits_21 : decode cX11_bits 21 = .ok (.iinc 4 (-1), 3) := by decide +kernel
theorem dX11_bits_24 : decode cX11_bits 24 = .ok (.goto (-19), 3) := by decide +kernel
set_option maxRecDepth 100000 in
def lf_wr_X11_bits_5 (v : Int64) (β : Type) (kx_ : Nat → (Nat → Int32) → Nat → β)  : Nat → Nat → (Nat → Int32) → Nat → β
  | 0, pm_31, pr30_f, l4 => kx_ pm_31 pr30_f l4
  | fuel + 1, pm_31, pr30_f, l4 => (if l4 < 1 then (kx_ pm_31 pr30_f l4) else (fnL (l4 - 1) (fun j_2420 => (fn_wr_X11_bit pm_31 pr30_f (Int64.toInt32 ((v >>> (Int32.toInt64 (nI j_2420) &&& 63)) &&& 1)) β (fun zm_31_2422 zr30_f_2423 => (lf_wr_X11_bits_5 v β kx_ fuel zm_31_2422 zr30_f_2423 j_2420))))))
set_option maxRecDepth 100000 in
theorem lf_wr_X11_bits_5_s {v : Int64} {β : Type} {kx_ : Nat → (Nat → Int32) → Nat → β}  {fuel : Nat} {pm_31 : Nat} {pr30_f : Nat → Int32} {l4 : Nat} : lf_wr_X11_bits_5 v β kx_  (fuel + 1) pm_31 pr30_f l4 = (if l4 < 1 then (kx_ pm_31 pr30_f l4) else (fnL (l4 - 1) (fun j_2420 => (fn_wr_X11_bit pm_31 pr30_f (Int64.toInt32 ((v >>> (Int32.toInt64 (nI j_2420) &&& 63)) &&& 1)) β (fun zm_31_2422 zr30_f_2423 => (lf_wr_X11_bits_5 v β kx_ fuel zm_31_2422 zr30_f_2423 j_2420)))))) := rfl
set_option maxRecDepth 100000 in
set_option maxHeartbeats 4000000 in
theorem lp_wr_X11_bits_5 (E : g_E) (m : Nat) (r : Nat → Nat) (m_1 : Nat) (m_4 : Nat) (m_9 : Nat) (m_10 : Nat) (m_14 : Nat) (m_15 : Nat) (m_25 : Int32) (m_26 : Int32) (m_27 : Int64) (m_28 : Nat) (m_29 : Nat) (m_31 : Nat) (m_32 : Nat) (m_33 : Nat) (m_35 : Nat) (m_36 : Nat) (m_37 : Int32) (m_38 : Nat) (m_39 : Int32) (m_40 : Int32) (m_42 : Nat) (r30_f : Nat → Int32) (n : Nat) (v : Int64) (h0 : m_31 + n ≤ 160000) (hb0 : m_31 ≤ 160000)   {X : g_X} {rr : (β : Type) → (Nat → (Nat → Int32) → β) → β} (kx_ : (β : Type) → (Nat → (Nat → Int32) → β) → Nat → (Nat → Int32) → Nat → β) (B : Bd E X cX11_bits RX11 5 1 21 0 0) (hr : Rt E X none 0 0 (fun v_ w_ => ∃ zm_31 : Nat, ∃ zr30_f : Nat → Int32, (zm_31 ≤ 160000) ∧ (zm_31 = m_31 + n) ∧ (∀ (β : Type) (k_ : Nat → (Nat → Int32) → β), rr β k_ = k_ zm_31 zr30_f) ∧ v_ = none ∧ w_ = [(m, .inr (11, mkF r m_1 m_4 m_9 m_10 m_14 m_15 m_25 m_26 m_27 m_28 m_29 zm_31 m_32 m_33 m_35 m_36 m_37 m_38 m_39 m_40 m_42)), ((r 30), .inl (E.2.2.1 1, 160000, .inl (nb zr30_f)))])) (K : ∀ (pm_31 : Nat) (pr30_f : Nat → Int32) (l4 : Nat), (pm_31 ≤ 160000) → (pm_31 + l4 = m_31 + n) → (l4 < 1) → (∀ (β : Type) (k_ : Nat → (Nat → Int32) → β), rr β k_ = kx_ β k_ pm_31 pr30_f l4) → G E X 5 [(m, .inr (11, mkF r m_1 m_4 m_9 m_10 m_14 m_15 m_25 m_26 m_27 m_28 m_29 pm_31 m_32 m_33 m_35 m_36 m_37 m_38 m_39 m_40 m_42)), ((r 30), .inl (E.2.2.1 1, 160000, .inl (nb pr30_f)))] 0 0 [(0, .ref m), (1, .long v), (3, .int (nI n)), (4, .int (nI l4 - 1))] 27 []) : ∀ (fuel : Nat) (pm_31 : Nat) (pr30_f : Nat → Int32) (l4 : Nat), (pm_31 ≤ 160000) → (pm_31 + l4 = m_31 + n) → (l4) < fuel → (∀ (β : Type) (k_ : Nat → (Nat → Int32) → β), rr β k_ = lf_wr_X11_bits_5 v β (kx_ β k_) fuel pm_31 pr30_f l4) → G E X 5 [(m, .inr (11, mkF r m_1 m_4 m_9 m_10 m_14 m_15 m_25 m_26 m_27 m_28 m_29 pm_31 m_32 m_33 m_35 m_36 m_37 m_38 m_39 m_40 m_42)), ((r 30), .inl (E.2.2.1 1, 160000, .inl (nb pr30_f)))] 0 0 [(0, .ref m), (1, .long v), (3, .int (nI n)), (4, .int (nI l4 - 1))] 5 [] := by
  intro fuel
  induction fuel with
  | zero => intro pm_31 pr30_f l4 _ _ h _; exact absurd h (Nat.not_lt_zero _)
  | succ fuel ih =>
    intro pm_31 pr30_f l4 hv0 hv1 hm e_
    replace e_ := fun β k_ => (e_ β k_).trans lf_wr_X11_bits_5_s
    refine g_iload B dX11_bits_5 3 rfl ?_
    refine g_if_lt (tgt := 27) B dX11_bits_7 (by decide) (fun c7_2419 => ?_) (fun c7_2419 => ?_)
    · have hn_2421 : l4 < 1 := (dn_lt (l := l4) (by omega)).mp c7_2419
      replace e_ := fun β k_ => (e_ β k_).trans (if_pos hn_2421)
      exact K pm_31 pr30_f l4 (by first | assumption | omega | decide | exact hCF _ (by omega)) (by first | assumption | omega | decide | exact hCF _ (by omega)) (by first | assumption | omega | decide | exact hCF _ (by omega)) e_
    · obtain ⟨j_2420, rfl⟩ : ∃ j_2420, l4 = j_2420 + 1 := ⟨l4 - 1, by have hq : ¬ l4 < 1 := fun q => c7_2419 ((dn_lt (l := l4) (by omega)).mpr q); omega⟩
      rw [nI_pred j_2420]
      replace e_ := fun β k_ => (e_ β k_).trans (if_neg (by omega))
      replace e_ := fun β k_ => (e_ β k_).trans (fnL_eq rfl _)
      refine g_aload_n B dX11_bits_10 rfl 0 rfl ?_
      refine g_lload_n B dX11_bits_11 rfl 1 rfl ?_
      refine g_iload B dX11_bits_12 3 rfl ?_
      refine g_lshr B dX11_bits_14 ?_
      refine g_lconst (v := 1) B dX11_bits_15 (by decide) ?_
      refine g_land B dX11_bits_16 ?_
      refine g_l2i B dX11_bits_17 ?_
      refine g_callV (st := []) (As := [.int (Int64.toInt32 ((v >>> (Int32.toInt64 (nI j_2420) &&& 63)) &&& 1))]) (wr := []) (nc' := 0) (ns' := 0) B cl_X11_156 w_im_X11_bit w_se_X11_bit (wr_X11_bit E m r m_1 m_4 m_9 m_10 m_14 m_15 m_25 m_26 m_27 m_28 m_29 pm_31 m_32 m_33 m_35 m_36 m_37 m_38 m_39 m_40 m_42 pr30_f (Int64.toInt32 ((v >>> (Int32.toInt64 (nI j_2420) &&& 63)) &&& 1)) (by first | assumption | omega | decide | exact hCF _ (by omega)) (by first | assumption | omega | decide | exact hCF _ (by omega))) rfl [0, 1] [] rfl rfl (by decide) (by decide) (by decide) 0 rfl (fun q h => by cases h; rfl) rfl ⟨by decide, by decide⟩ rfl rfl (by decide) (by decide) rfl (Nat.le_of_ble_eq_true rfl) dX11_bits_18 (fun v w hq => ?_)
      obtain ⟨zm_31_2422, zr30_f_2423, hf_2424, hf_2425, hz_2426, rfl, rfl⟩ := hq
      replace e_ := fun β k_ => (e_ β k_).trans (hz_2426 β _)
      show G E X 5 [(m, .inr (11, mkF r m_1 m_4 m_9 m_10 m_14 m_15 m_25 m_26 m_27 m_28 m_29 zm_31_2422 m_32 m_33 m_35 m_36 m_37 m_38 m_39 m_40 m_42)), ((r 30), .inl (E.2.2.1 1, 160000, .inl (nb zr30_f_2423)))] 0 0 [(0, .ref m), (1, .long v), (3, .int (nI n)), (4, .int (nI j_2420))] 21 []
      refine g_iinc (v := (nI j_2420 - 1)) (lv' := [(4, .int (nI j_2420 - 1)), (0, .ref m), (1, .long v), (3, .int (nI n))]) B dX11_bits_21 3 rfl (i_m1 _) (by decide) rfl ?_
      refine g_goto (tgt := 5) B dX11_bits_24 (by decide) ?_
      refine g_lvsub (lv' := [(0, .ref m), (1, .long v), (3, .int (nI n)), (4, .int (nI j_2420 - 1))]) [1, 2, 3, 0] rfl ?_
      exact ih zm_31_2422 zr30_f_2423 j_2420 (by first | assumption | omega | decide | exact hCF _ (by omega)) (by first | assumption | omega | decide | exact hCF _ (by omega)) (by omega) e_
theorem dX11_bits_27 : decode cX11_bits 27 = .ok (.return_, 1) := by decide +kernel
set_option maxRecDepth 100000 in
def fn_wr_X11_bits (m_31 : Nat) (r30_f : Nat → Int32) (n : Nat) (v : Int64) (β : Type) (k_ : Nat → (Nat → Int32) → β) : β := (lf_wr_X11_bits_5 v β (fun y_2427pm_31 y_2427pr30_f y_2427l4 => (k_ y_2427pm_31 y_2427pr30_f)) ((n) + 1) m_31 r30_f n)
set_option maxRecDepth 100000 in
theorem fn_wr_X11_bits_s {m_31 : Nat} {r30_f : Nat → Int32} {n : Nat} {v : Int64} {β : Type} {k_ : Nat → (Nat → Int32) → β} : fn_wr_X11_bits m_31 r30_f n v β k_ = (lf_wr_X11_bits_5 v β (fun y_2427pm_31 y_2427pr30_f y_2427l4 => (k_ y_2427pm_31 y_2427pr30_f)) ((n) + 1) m_31 r30_f n) := rfl
set_option maxRecDepth 100000 in
set_option maxHeartbeats 4000000 in
theorem wr_X11_bits (E : g_E) (m : Nat) (r : Nat → Nat) (m_1 : Nat) (m_4 : Nat) (m_9 : Nat) (m_10 : Nat) (m_14 : Nat) (m_15 : Nat) (m_25 : Int32) (m_26 : Int32) (m_27 : Int64) (m_28 : Nat) (m_29 : Nat) (m_31 : Nat) (m_32 : Nat) (m_33 : Nat) (m_35 : Nat) (m_36 : Nat) (m_37 : Int32) (m_38 : Nat) (m_39 : Int32) (m_40 : Int32) (m_42 : Nat) (r30_f : Nat → Int32) (n : Nat) (v : Int64) (h0 : m_31 + n ≤ 160000) (hb0 : m_31 ≤ 160000) : Ev E MX11_bits 1 21 0 0 [.ref m, .long v, .int (nI n)] [(m, .inr (11, mkF r m_1 m_4 m_9 m_10 m_14 m_15 m_25 m_26 m_27 m_28 m_29 m_31 m_32 m_33 m_35 m_36 m_37 m_38 m_39 m_40 m_42)), ((r 30), .inl (E.2.2.1 1, 160000, .inl (nb r30_f)))] (fun v_ w_ => ∃ zm_31 : Nat, ∃ zr30_f : Nat → Int32, (zm_31 ≤ 160000) ∧ (zm_31 = m_31 + n) ∧ (∀ (β : Type) (k_ : Nat → (Nat → Int32) → β), fn_wr_X11_bits m_31 r30_f n v β k_ = k_ zm_31 zr30_f) ∧ v_ = none ∧ w_ = [(m, .inr (11, mkF r m_1 m_4 m_9 m_10 m_14 m_15 m_25 m_26 m_27 m_28 m_29 zm_31 m_32 m_33 m_35 m_36 m_37 m_38 m_39 m_40 m_42)), ((r 30), .inl (E.2.2.1 1, 160000, .inl (nb zr30_f)))]) := by
  refine Ev.intro (by decide) (Nat.le_of_ble_eq_true rfl) ?_
  intro X B hr hI
  have B : Bd E X cX11_bits RX11 5 1 21 0 0 := B
  have hr : Rt E X none 0 0 (fun v_ w_ => ∃ zm_31 : Nat, ∃ zr30_f : Nat → Int32, (zm_31 ≤ 160000) ∧ (zm_31 = m_31 + n) ∧ (∀ (β : Type) (k_ : Nat → (Nat → Int32) → β), fn_wr_X11_bits m_31 r30_f n v β k_ = k_ zm_31 zr30_f) ∧ v_ = none ∧ w_ = [(m, .inr (11, mkF r m_1 m_4 m_9 m_10 m_14 m_15 m_25 m_26 m_27 m_28 m_29 zm_31 m_32 m_33 m_35 m_36 m_37 m_38 m_39 m_40 m_42)), ((r 30), .inl (E.2.2.1 1, 160000, .inl (nb zr30_f)))]) := hr
  have e_ := fun (β : Type) (k_ : Nat → (Nat → Int32) → β) => fn_wr_X11_bits_s (β := β) (k_ := k_) (m_31 := m_31) (r30_f := r30_f) (n := n) (v := v)
  show G E X 5 [(m, .inr (11, mkF r m_1 m_4 m_9 m_10 m_14 m_15 m_25 m_26 m_27 m_28 m_29 m_31 m_32 m_33 m_35 m_36 m_37 m_38 m_39 m_40 m_42)), ((r 30), .inl (E.2.2.1 1, 160000, .inl (nb r30_f)))] 0 0 [(0, .ref m), (1, .long v), (3, .int (nI n))] 0 []
  refine g_iload_n B dX11_bits_0 rfl 2 rfl ?_
  refine g_iconst (v := 1) B dX11_bits_1 (by decide) ?_
  refine g_isub B dX11_bits_2 ?_
  refine g_istore (lv' := [(4, .int (nI n - 1)), (0, .ref m), (1, .long v), (3, .int (nI n))]) B dX11_bits_3 (by decide) rfl ?_
  refine g_lvsub (lv' := [(0, .ref m), (1, .long v), (3, .int (nI n)), (4, .int (nI n - 1))]) [1, 2, 3, 0] rfl ?_
  refine lp_wr_X11_bits_5 E m r m_1 m_4 m_9 m_10 m_14 m_15 m_25 m_26 m_27 m_28 m_29 m_31 m_32 m_33 m_35 m_36 m_37 m_38 m_39 m_40 m_42 r30_f n v h0 hb0   _ B hr (fun y_2427pm_31 y_2427pr30_f y_2427l4 y_2427k0 y_2427k1 y_2427k2 e_ => ?_) _ m_31 r30_f n (by first | assumption | omega | decide | exact hCF _ (by omega)) (by first | assumption | omega | decide | exact hCF _ (by omega)) (Nat.lt_succ_self _) e_
  show G E X 5 [(m, .inr (11, mkF r m_1 m_4 m_9 m_10 m_14 m_15 m_25 m_26 m_27 m_28 m_29 y_2427pm_31 m_32 m_33 m_35 m_36 m_37 m_38 m_39 m_40 m_42)), ((r 30), .inl (E.2.2.1 1, 160000, .inl (nb y_2427pr30_f)))] 0 0 [(0, .ref m), (1, .long v), (3, .int (nI n)), (4, .int (nI y_2427l4 - 1))] 27 []
  exact g_vret B hr dX11_bits_27 (by decide) (by decide) ⟨y_2427pm_31, y_2427pr30_f, (by first | assumption | omega | decide | exact hCF _ (by omega)), (by first | assumption | omega | decide | exact hCF _ (by omega)), e_, rfl, rfl⟩
abbrev MX11_putG : g_M := (yX11_putG, cX11_putG, 4, none)
theorem dX11_putG_0 : decode cX11_putG 0 = .ok (.lload_n 1, 1) := by decide +kernel
theorem dX11_putG_1 : decode cX11_putG 1 = .ok (.invokestatic 166, 3) := by decide +kernel
theorem w_ml_X11_166 : Cond.methodLink RX11 166 yX11_length ∈ g_tbl := g_tbl_in 1104 (by decide +kernel) (by decide +kernel)
theorem w_cd_X11_length : g_cw MX11_length ∈ g_tbl := g_tbl_in 1106 (by decide +kernel) (by decide +kernel)
theorem cl_X11_166 : CL RX11 166 1 MX11_length := ⟨w_ml_X11_166, w_cd_X11_length, w_ini_X11, by decide +kernel, by decide +kernel, by decide +kernel⟩
theorem w_sm_X11_length : Cond.static yX11_length ∈ g_tbl := g_tbl_in 1105 (by decide +kernel) (by decide +kernel)
theorem dX11_putG_4 : decode cX11_putG 4 = .ok (.istore_n 3, 1) := by decide +kernel
theorem dX11_putG_5 : decode cX11_putG 5 = .ok (.aload_n 0, 1) := by decide +kernel
theorem dX11_putG_6 : decode cX11_putG 6 = .ok (.iload_n 3, 1) := by decide +kernel
theorem dX11_putG_7 : decode cX11_putG 7 = .ok (.iconst 1, 1) := by decide +kernel
theorem dX11_putG_8 : decode cX11_putG 8 = .ok (.isub, 1) := by decide +kernel
theorem dX11_putG_9 : decode cX11_putG 9 = .ok (.i2l, 1) := by decide +kernel
theorem dX11_putG_10 : decode cX11_putG 10 = .ok (.iconst 5, 1) := by decide +kernel
theorem dX11_putG_11 : decode cX11_putG 11 = .ok (.invokevirtual 169, 3) := by decide +kernel
theorem w_ml_X11_169 : Cond.methodLink RX11 169 yX11_bits ∈ g_tbl := g_tbl_in 1113 (by decide +kernel) (by decide +kernel)
theorem w_cd_X11_bits : g_cw MX11_bits ∈ g_tbl := g_tbl_in 1116 (by decide +kernel) (by decide +kernel)
theorem cl_X11_169 : CL RX11 169 2 MX11_bits := ⟨w_ml_X11_169, w_cd_X11_bits, w_ini_X11, by decide +kernel, by decide +kernel, by decide +kernel⟩
theorem w_im_X11_bits : Cond.instanceMethod yX11_bits ∈ g_tbl := g_tbl_in 1115 (by decide +kernel) (by decide +kernel)
theorem w_se_X11_bits : Cond.selects RX11 yX11_bits yX11_bits ∈ g_tbl := g_tbl_in 42 (by decide +kernel) (by decide +kernel)
theorem dX11_putG_14 : decode cX11_putG 14 = .ok (.aload_n 0, 1) := by decide +kernel
theorem dX11_putG_15 : decode cX11_putG 15 = .ok (.lload_n 1, 1) := by decide +kernel
theorem dX11_putG_16 : decode cX11_putG 16 = .ok (.iload_n 3, 1) := by decide +kernel
theorem dX11_putG_17 : decode cX11_putG 17 = .ok (.iconst 1, 1) := by decide +kernel
theorem dX11_putG_18 : decode cX11_putG 18 = .ok (.isub, 1) := by decide +kernel
theorem dX11_putG_19 : decode cX11_putG 19 = .ok (.invokevirtual 169, 3) := by decide +kernel
theorem dX11_putG_22 : decode cX11_putG 22 = .ok (.return_, 1) := by decide +kernel
set_option maxRecDepth 100000 in
def fn_wr_X11_putG (m_31 : Nat) (r30_f : Nat → Int32) (a : Nat) (β : Type) (k_ : Nat → (Nat → Int32) → β) : β := (fn_wr_length_n a β (fun zr_2428 => (fn_wr_X11_bits m_31 r30_f 5 (lN (zr_2428 - 1)) β (fun zm_31_2434 zr30_f_2435 => (fn_wr_X11_bits zm_31_2434 zr30_f_2435 (zr_2428 - 1) (lN a) β (fun zm_31_2439 zr30_f_2440 => (k_ zm_31_2439 zr30_f_2440)))))))
set_option maxRecDepth 100000 in
theorem fn_wr_X11_putG_s {m_31 : Nat} {r30_f : Nat → Int32} {a : Nat} {β : Type} {k_ : Nat → (Nat → Int32) → β} : fn_wr_X11_putG m_31 r30_f a β k_ = (fn_wr_length_n a β (fun zr_2428 => (fn_wr_X11_bits m_31 r30_f 5 (lN (zr_2428 - 1)) β (fun zm_31_2434 zr30_f_2435 => (fn_wr_X11_bits zm_31_2434 zr30_f_2435 (zr_2428 - 1) (lN a) β (fun zm_31_2439 zr30_f_2440 => (k_ zm_31_2439 zr30_f_2440))))))) := rfl
set_option maxRecDepth 100000 in
set_option maxHeartbeats 4000000 in
theorem wr_X11_putG (E : g_E) (m : Nat) (r : Nat → Nat) (m_1 : Nat) (m_4 : Nat) (m_9 : Nat) (m_10 : Nat) (m_14 : Nat) (m_15 : Nat) (m_25 : Int32) (m_26 : Int32) (m_27 : Int64) (m_28 : Nat) (m_29 : Nat) (m_31 : Nat) (m_32 : Nat) (m_33 : Nat) (m_35 : Nat) (m_36 : Nat) (m_37 : Int32) (m_38 : Nat) (m_39 : Int32) (m_40 : Int32) (m_42 : Nat) (r30_f : Nat → Int32) (a : Nat) (h0 : 0 < a) (h1 : a < 2147483648) (h2 : m_31 + 35 ≤ 160000) (hb0 : m_31 ≤ 160000) : Ev E MX11_putG 3 64 0 0 [.ref m, .long (lN a)] [(m, .inr (11, mkF r m_1 m_4 m_9 m_10 m_14 m_15 m_25 m_26 m_27 m_28 m_29 m_31 m_32 m_33 m_35 m_36 m_37 m_38 m_39 m_40 m_42)), ((r 30), .inl (E.2.2.1 1, 160000, .inl (nb r30_f)))] (fun v_ w_ => ∃ zm_31 : Nat, ∃ zr30_f : Nat → Int32, (zm_31 ≤ 160000) ∧ (zm_31 ≤ m_31 + 35) ∧ (a ≤ 1023 → zm_31 ≤ m_31 + 14) ∧ (m_31 ≤ zm_31) ∧ (∀ (β : Type) (k_ : Nat → (Nat → Int32) → β), fn_wr_X11_putG m_31 r30_f a β k_ = k_ zm_31 zr30_f) ∧ v_ = none ∧ w_ = [(m, .inr (11, mkF r m_1 m_4 m_9 m_10 m_14 m_15 m_25 m_26 m_27 m_28 m_29 zm_31 m_32 m_33 m_35 m_36 m_37 m_38 m_39 m_40 m_42)), ((r 30), .inl (E.2.2.1 1, 160000, .inl (nb zr30_f)))]) := by
  refine Ev.intro (by decide) (Nat.le_of_ble_eq_true rfl) ?_
  intro X B hr hI
  have B : Bd E X cX11_putG RX11 4 3 64 0 0 := B
  have hr : Rt E X none 0 0 (fun v_ w_ => ∃ zm_31 : Nat, ∃ zr30_f : Nat → Int32, (zm_31 ≤ 160000) ∧ (zm_31 ≤ m_31 + 35) ∧ (a ≤ 1023 → zm_31 ≤ m_31 + 14) ∧ (m_31 ≤ zm_31) ∧ (∀ (β : Type) (k_ : Nat → (Nat → Int32) → β), fn_wr_X11_putG m_31 r30_f a β k_ = k_ zm_31 zr30_f) ∧ v_ = none ∧ w_ = [(m, .inr (11, mkF r m_1 m_4 m_9 m_10 m_14 m_15 m_25 m_26 m_27 m_28 m_29 zm_31 m_32 m_33 m_35 m_36 m_37 m_38 m_39 m_40 m_42)), ((r 30), .inl (E.2.2.1 1, 160000, .inl (nb zr30_f)))]) := hr
  have e_ := fun (β : Type) (k_ : Nat → (Nat → Int32) → β) => fn_wr_X11_putG_s (β := β) (k_ := k_) (m_31 := m_31) (r30_f := r30_f) (a := a)
  show G E X 4 [(m, .inr (11, mkF r m_1 m_4 m_9 m_10 m_14 m_15 m_25 m_26 m_27 m_28 m_29 m_31 m_32 m_33 m_35 m_36 m_37 m_38 m_39 m_40 m_42)), ((r 30), .inl (E.2.2.1 1, 160000, .inl (nb r30_f)))] 0 0 [(0, .ref m), (1, .long (lN a))] 0 []
  refine g_lload_n B dX11_putG_0 rfl 1 rfl ?_
  refine g_callS (st := []) (As := [.long (lN a)]) (wr := [(m, .inr (11, mkF r m_1 m_4 m_9 m_10 m_14 m_15 m_25 m_26 m_27 m_28 m_29 m_31 m_32 m_33 m_35 m_36 m_37 m_38 m_39 m_40 m_42)), ((r 30), .inl (E.2.2.1 1, 160000, .inl (nb r30_f)))]) (nc' := 0) (ns' := 0) B cl_X11_166 w_sm_X11_length (wr_length_n E a (by first | assumption | omega | decide | exact hCF _ (by omega)) (by first | assumption | omega | decide | exact hCF _ (by omega))) rfl [] [0, 1] rfl rfl (by decide) (by decide) (by decide) ⟨by decide, by decide⟩ rfl rfl (by decide) (by decide) rfl (Nat.le_of_ble_eq_true rfl) dX11_putG_1 (fun v w hq => ?_)
  obtain ⟨zr_2428, hf_2429, hf_2430, hf_2431, hf_2432, hz_2433, rfl, rfl⟩ := hq
  replace e_ := fun β k_ => (e_ β k_).trans (hz_2433 β _)
  show G E X 4 [(m, .inr (11, mkF r m_1 m_4 m_9 m_10 m_14 m_15 m_25 m_26 m_27 m_28 m_29 m_31 m_32 m_33 m_35 m_36 m_37 m_38 m_39 m_40 m_42)), ((r 30), .inl (E.2.2.1 1, 160000, .inl (nb r30_f)))] 0 0 [(0, .ref m), (1, .long (lN a))] 4 [.int (nI zr_2428)]
  refine g_istore_n (lv' := [(3, .int (nI zr_2428)), (0, .ref m), (1, .long (lN a))]) B dX11_putG_4 rfl (by decide) rfl ?_
  refine g_aload_n B dX11_putG_5 rfl 1 rfl ?_
  refine g_iload_n B dX11_putG_6 rfl 0 rfl ?_
  refine g_iconst (v := 1) B dX11_putG_7 (by decide) ?_
  refine g_isub B dX11_putG_8 ?_
  refine g_ri (x' := nI (zr_2428 - 1)) (pk_sub (a := zr_2428) (b := 1) (by omega)) ?_
  refine g_i2l B dX11_putG_9 ?_
  refine g_rl (x' := lN (zr_2428 - 1)) (nI_l (n := (zr_2428 - 1)) (by omega)) ?_
  refine g_iconst (v := 5) B dX11_putG_10 (by decide) ?_
  refine g_callV (st := []) (As := [.long (lN (zr_2428 - 1)), .int 5]) (wr := []) (nc' := 0) (ns' := 0) B cl_X11_169 w_im_X11_bits w_se_X11_bits (wr_X11_bits E m r m_1 m_4 m_9 m_10 m_14 m_15 m_25 m_26 m_27 m_28 m_29 m_31 m_32 m_33 m_35 m_36 m_37 m_38 m_39 m_40 m_42 r30_f 5 (lN (zr_2428 - 1)) (by first | assumption | omega | decide | exact hCF _ (by omega)) (by first | assumption | omega | decide | exact hCF _ (by omega))) rfl [0, 1] [] rfl rfl (by decide) (by decide) (by decide) 0 rfl (fun q h => by cases h; rfl) rfl ⟨by decide, by decide⟩ rfl rfl (by decide) (by decide) rfl (Nat.le_of_ble_eq_true rfl) dX11_putG_11 (fun v w hq => ?_)
  obtain ⟨zm_31_2434, zr30_f_2435, hf_2436, hf_2437, hz_2438, rfl, rfl⟩ := hq
  replace e_ := fun β k_ => (e_ β k_).trans (hz_2438 β _)
  show G E X 4 [(m, .inr (11, mkF r m_1 m_4 m_9 m_10 m_14 m_15 m_25 m_26 m_27 m_28 m_29 zm_31_2434 m_32 m_33 m_35 m_36 m_37 m_38 m_39 m_40 m_42)), ((r 30), .inl (E.2.2.1 1, 160000, .inl (nb zr30_f_2435)))] 0 0 [(3, .int (nI zr_2428)), (0, .ref m), (1, .long (lN a))] 14 []
  refine g_aload_n B dX11_putG_14 rfl 1 rfl ?_
  refine g_lload_n B dX11_putG_15 rfl 2 rfl ?_
  refine g_iload_n B dX11_putG_16 rfl 0 rfl ?_
  refine g_iconst (v := 1) B dX11_putG_17 (by decide) ?_
  refine g_isub B dX11_putG_18 ?_
  refine g_ri (x' := nI (zr_2428 - 1)) (pk_sub (a := zr_2428) (b := 1) (by omega)) ?_
  refine g_callV (st := []) (As := [.long (lN a), .int (nI (zr_2428 - 1))]) (wr := []) (nc' := 0) (ns' := 0) B cl_X11_169 w_im_X11_bits w_se_X11_bits (wr_X11_bits E m r m_1 m_4 m_9 m_10 m_14 m_15 m_25 m_26 m_27 m_28 m_29 zm_31_2434 m_32 m_33 m_35 m_36 m_37 m_38 m_39 m_40 m_42 zr30_f_2435 (zr_2428 - 1) (lN a) (by first | assumption | omega | decide | exact hCF _ (by omega)) (by first | assumption | omega | decide | exact hCF _ (by omega))) rfl [0, 1] [] rfl rfl (by decide) (by decide) (by decide) 0 rfl (fun q h => by cases h; rfl) rfl ⟨by decide, by decide⟩ rfl rfl (by decide) (by decide) rfl (Nat.le_of_ble_eq_true rfl) dX11_putG_19 (fun v w hq => ?_)
  obtain ⟨zm_31_2439, zr30_f_2440, hf_2441, hf_2442, hz_2443, rfl, rfl⟩ := hq
  replace e_ := fun β k_ => (e_ β k_).trans (hz_2443 β _)
  show G E X 4 [(m, .inr (11, mkF r m_1 m_4 m_9 m_10 m_14 m_15 m_25 m_26 m_27 m_28 m_29 zm_31_2439 m_32 m_33 m_35 m_36 m_37 m_38 m_39 m_40 m_42)), ((r 30), .inl (E.2.2.1 1, 160000, .inl (nb zr30_f_2440)))] 0 0 [(3, .int (nI zr_2428)), (0, .ref m), (1, .long (lN a))] 22 []
  exact g_vret B hr dX11_putG_22 (by decide) (by decide) ⟨zm_31_2439, zr30_f_2440, (by first | assumption | omega | decide | exact hCF _ (by omega)), (by first | assumption | omega | decide | exact hCF _ (by omega)), (by first | assumption | omega | decide | exact hCF _ (by omega)), (by first | assumption | omega | decide | exact hCF _ (by omega)), e_, rfl, rfl⟩
abbrev MX11_putSide : g_M := (yX11_putSide, cX11_putSide, 5, none)
theorem dX11_putSide_0 : decode cX11_putSide 0 = .ok (.iload_n 3, 1) := by decide +kernel
theorem dX11_putSide_1 : decode cX11_putSide 1 = .ok (.iconst 1, 1) := by decide +kernel
theorem dX11_putSide_2 : decode cX11_putSide 2 = .ok (.isub, 1) := by decide +kernel
theorem dX11_putSide_3 : decode cX11_putSide 3 = .ok (.istore 4, 2) := by decide +kernel
theorem dX11_putSide_5 : decode cX11_putSide 5 = .ok (.iload 4, 2) := by decide +kernel
theorem dX11_putSide_7 : decode cX11_putSide 7 = .ok (.ifCond .lt 36, 3) := by decide +kernel
theorem dX11_putSide_10 : decode cX11_putSide 10 = .ok (.aload_n 0, 1) := by decide +kernel
theorem dX11_putSide_11 : decode cX11_putSide 11 = .ok (.getfield 74, 3) := by decide +kernel
theorem dX11_putSide_14 : decode cX11_putSide 14 = .ok (.aload_n 0, 1) := by decide +kernel
theorem dX11_putSide_15 : decode cX11_putSide 15 = .ok (.getfield 172, 3) := by decide +kernel
theorem w_fl_X11_172 : Cond.fieldLink RX11 172 (TX11 35).1 (TX11 35).2.1 (TX11 35).2.2.1 ∈ g_tbl := g_tbl_in 915 (by decide +kernel) (by decide +kernel)
theorem fl_X11_172 : FL RX11 172 11 35 := ⟨RX11, TX11, 50, rfl, by decide, inX_X11, w_fl_X11_172⟩
theorem dX11_putSide_18 : decode cX11_putSide 18 = .ok (.lload_n 1, 1) := by decide +kernel
theorem dX11_putSide_19 : decode cX11_putSide 19 = .ok (.iload 4, 2) := by decide +kernel
theorem dX11_putSide_21 : decode cX11_putSide 21 = .ok (.lshr, 1) := by decide +kernel
theorem dX11_putSide_22 : decode cX11_putSide 22 = .ok (.lconst 1, 1) := by decide +kernel
theorem dX11_putSide_23 : decode cX11_putSide 23 = .ok (.land, 1) := by decide +kernel
theorem dX11_putSide_24 : decode cX11_putSide 24 = .ok (.l2i, 1) := by decide +kernel
theorem dX11_putSide_25 : decode cX11_putSide 25 = .ok (.i2b, 1) := by decide +kernel
theorem dX11_putSide_26 : decode cX11_putSide 26 = .ok (.bastore, 1) := by decide +kernel
theorem dX11_putSide_27 : decode cX11_putSide 27 = .ok (.aload_n 0, 1) := by decide +kernel
theorem dX11_putSide_28 : decode cX11_putSide 28 = .ok (.dup, 1) := by decide +kernel
theorem dX11_putSide_29 : decode cX11_putSide 29 = .ok (.getfield 172, 3) := by decide +kernel
theorem dX11_putSide_32 : decode cX11_putSide 32 = .ok (.iconst 1, 1) := by decide +kernel
theorem dX11_putSide_33 : decode cX11_putSide 33 = .ok (.iadd, 1) := by decide +kernel
theorem dX11_putSide_34 : decode cX11_putSide 34 = .ok (.putfield 172, 3) := by decide +kernel
theorem pf_X11_35 : PF 11 35 .int false := fun C T N h => by cases h; exact ⟨⟨tyX11, tyX11_ok⟩, nmX11, by decide +kernel, rfl, rfl⟩
theorem dX11_putSide_37 : decode cX11_putSide 37 = .ok (.iinc 4 (-1), 3) := by decide +kernel
theorem dX11_putSide_40 : decode cX11_putSide 40 = .ok (.goto (-35), 3) := by decide +kernel
set_option maxRecDepth 100000 in
def lf_wr_X11_putSide_5 (v : Int64) (β : Type) (kx_ : Nat → (Nat → Int32) → Nat → β)  : Nat → Nat → (Nat → Int32) → Nat → β
  | 0, pm_35, pr34_f, l4 => kx_ pm_35 pr34_f l4
  | fuel + 1, pm_35, pr34_f, l4 => (if l4 < 1 then (kx_ pm_35 pr34_f l4) else (fnL (l4 - 1) (fun j_2445 => (lf_wr_X11_putSide_5 v β kx_ fuel (pm_35 + 1) (upd pr34_f pm_35 (Int8.toInt32 (Int32.toInt8 (Int64.toInt32 ((v >>> (Int32.toInt64 (nI j_2445) &&& 63)) &&& 1))))) j_2445))))
set_option maxRecDepth 100000 in
theorem lf_wr_X11_putSide_5_s {v : Int64} {β : Type} {kx_ : Nat → (Nat → Int32) → Nat → β}  {fuel : Nat} {pm_35 : Nat} {pr34_f : Nat → Int32} {l4 : Nat} : lf_wr_X11_putSide_5 v β kx_  (fuel + 1) pm_35 pr34_f l4 = (if l4 < 1 then (kx_ pm_35 pr34_f l4) else (fnL (l4 - 1) (fun j_2445 => (lf_wr_X11_putSide_5 v β kx_ fuel (pm_35 + 1) (upd pr34_f pm_35 (Int8.toInt32 (Int32.toInt8 (Int64.toInt32 ((v >>> (Int32.toInt64 (nI j_2445) &&& 63)) &&& 1))))) j_2445)))) := rfl
set_option maxRecDepth 100000 in
set_option maxHeartbeats 4000000 in
theorem lp_wr_X11_putSide_5 (E : g_E) (m : Nat) (r : Nat → Nat) (m_1 : Nat) (m_4 : Nat) (m_9 : Nat) (m_10 : Nat) (m_14 : Nat) (m_15 : Nat) (m_25 : Int32) (m_26 : Int32) (m_27 : Int64) (m_28 : Nat) (m_29 : Nat) (m_31 : Nat) (m_32 : Nat) (m_33 : Nat) (m_35 : Nat) (m_36 : Nat) (m_37 : Int32) (m_38 : Nat) (m_39 : Int32) (m_40 : Int32) (m_42 : Nat) (r34_f : Nat → Int32) (n : Nat) (v : Int64) (h0 : m_35 + n ≤ 50000) (hb0 : m_35 ≤ 50000)   {X : g_X} {rr : (β : Type) → (Nat → (Nat → Int32) → β) → β} (kx_ : (β : Type) → (Nat → (Nat → Int32) → β) → Nat → (Nat → Int32) → Nat → β) (B : Bd E X cX11_putSide RX11 5 0 0 0 0) (hr : Rt E X none 0 0 (fun v_ w_ => ∃ zm_35 : Nat, ∃ zr34_f : Nat → Int32, (zm_35 ≤ 50000) ∧ (zm_35 = m_35 + n) ∧ (∀ (β : Type) (k_ : Nat → (Nat → Int32) → β), rr β k_ = k_ zm_35 zr34_f) ∧ v_ = none ∧ w_ = [(m, .inr (11, mkF r m_1 m_4 m_9 m_10 m_14 m_15 m_25 m_26 m_27 m_28 m_29 m_31 m_32 m_33 zm_35 m_36 m_37 m_38 m_39 m_40 m_42)), ((r 34), .inl (E.2.2.1 1, 50000, .inl (nb zr34_f)))])) (K : ∀ (pm_35 : Nat) (pr34_f : Nat → Int32) (l4 : Nat), (pm_35 ≤ 50000) → (pm_35 + l4 = m_35 + n) → (l4 < 1) → (∀ (β : Type) (k_ : Nat → (Nat → Int32) → β), rr β k_ = kx_ β k_ pm_35 pr34_f l4) → G E X 5 [(m, .inr (11, mkF r m_1 m_4 m_9 m_10 m_14 m_15 m_25 m_26 m_27 m_28 m_29 m_31 m_32 m_33 pm_35 m_36 m_37 m_38 m_39 m_40 m_42)), ((r 34), .inl (E.2.2.1 1, 50000, .inl (nb pr34_f)))] 0 0 [(0, .ref m), (1, .long v), (3, .int (nI n)), (4, .int (nI l4 - 1))] 43 []) : ∀ (fuel : Nat) (pm_35 : Nat) (pr34_f : Nat → Int32) (l4 : Nat), (pm_35 ≤ 50000) → (pm_35 + l4 = m_35 + n) → (l4) < fuel → (∀ (β : Type) (k_ : Nat → (Nat → Int32) → β), rr β k_ = lf_wr_X11_putSide_5 v β (kx_ β k_) fuel pm_35 pr34_f l4) → G E X 5 [(m, .inr (11, mkF r m_1 m_4 m_9 m_10 m_14 m_15 m_25 m_26 m_27 m_28 m_29 m_31 m_32 m_33 pm_35 m_36 m_37 m_38 m_39 m_40 m_42)), ((r 34), .inl (E.2.2.1 1, 50000, .inl (nb pr34_f)))] 0 0 [(0, .ref m), (1, .long v), (3, .int (nI n)), (4, .int (nI l4 - 1))] 5 [] := by
  intro fuel
  induction fuel with
  | zero => intro pm_35 pr34_f l4 _ _ h _; exact absurd h (Nat.not_lt_zero _)
  | succ fuel ih =>
    intro pm_35 pr34_f l4 hv0 hv1 hm e_
    replace e_ := fun β k_ => (e_ β k_).trans lf_wr_X11_putSide_5_s
    refine g_iload B dX11_putSide_5 3 rfl ?_
    refine g_if_lt (tgt := 43) B dX11_putSide_7 (by decide) (fun c7_2444 => ?_) (fun c7_2444 => ?_)
    · have hn_2446 : l4 < 1 := (dn_lt (l := l4) (by omega)).mp c7_2444
      replace e_ := fun β k_ => (e_ β k_).trans (if_pos hn_2446)
      exact K pm_35 pr34_f l4 (by first | assumption | omega | decide | exact hCF _ (by omega)) (by first | assumption | omega | decide | exact hCF _ (by omega)) (by first | assumption | omega | decide | exact hCF _ (by omega)) e_
    · obtain ⟨j_2445, rfl⟩ : ∃ j_2445, l4 = j_2445 + 1 := ⟨l4 - 1, by have hq : ¬ l4 < 1 := fun q => c7_2444 ((dn_lt (l := l4) (by omega)).mpr q); omega⟩
      rw [nI_pred j_2445]
      replace e_ := fun β k_ => (e_ β k_).trans (if_neg (by omega))
      replace e_ := fun β k_ => (e_ β k_).trans (fnL_eq rfl _)
      refine g_aload_n B dX11_putSide_10 rfl 0 rfl ?_
      refine g_get B 0 34 fl_X11_74 rfl mf_34 dX11_putSide_11 ?_
      refine g_aload_n B dX11_putSide_14 rfl 0 rfl ?_
      refine g_get B 0 35 fl_X11_172 rfl mf_35 dX11_putSide_15 ?_
      refine g_lload_n B dX11_putSide_18 rfl 1 rfl ?_
      refine g_iload B dX11_putSide_19 3 rfl ?_
      refine g_lshr B dX11_putSide_21 ?_
      refine g_lconst (v := 1) B dX11_putSide_22 (by decide) ?_
      refine g_land B dX11_putSide_23 ?_
      refine g_l2i B dX11_putSide_24 ?_
      refine g_i2b B dX11_putSide_25 ?_
      refine g_bast (ws' := [(m, .inr (11, mkF r m_1 m_4 m_9 m_10 m_14 m_15 m_25 m_26 m_27 m_28 m_29 m_31 m_32 m_33 pm_35 m_36 m_37 m_38 m_39 m_40 m_42)), ((r 34), .inl (E.2.2.1 1, 50000, .inl (nb (upd pr34_f pm_35 (Int8.toInt32 (Int32.toInt8 (Int64.toInt32 ((v >>> (Int32.toInt64 (nI j_2445) &&& 63)) &&& 1))))))))]) B 1 rfl (vp_in_nI (by omega) (by omega)) (by rw [nb_upd, nI_clamp (n := pm_35) (by omega)]; rfl) dX11_putSide_26 ?_
      refine g_aload_n B dX11_putSide_27 rfl 0 rfl ?_
      refine g_dup B dX11_putSide_28 rfl ?_
      refine g_get B 0 35 fl_X11_172 rfl mf_35 dX11_putSide_29 ?_
      refine g_iconst (v := 1) B dX11_putSide_32 (by decide) ?_
      refine g_iadd B dX11_putSide_33 ?_
      refine g_ri (x' := nI (pm_35 + 1)) (nI_add pm_35 1) ?_
      refine g_putM (ws' := [(m, .inr (11, mkF r m_1 m_4 m_9 m_10 m_14 m_15 m_25 m_26 m_27 m_28 m_29 m_31 m_32 m_33 (pm_35 + 1) m_36 m_37 m_38 m_39 m_40 m_42)), ((r 34), .inl (E.2.2.1 1, 50000, .inl (nb (upd pr34_f pm_35 (Int8.toInt32 (Int32.toInt8 (Int64.toInt32 ((v >>> (Int32.toInt64 (nI j_2445) &&& 63)) &&& 1))))))))]) (fs' := mkF r m_1 m_4 m_9 m_10 m_14 m_15 m_25 m_26 m_27 m_28 m_29 m_31 m_32 m_33 (pm_35 + 1) m_36 m_37 m_38 m_39 m_40 m_42) B 0 35 fl_X11_172 pf_X11_35 rfl (mlt (by decide)) rfl rfl (ms_35 rfl) rfl dX11_putSide_34 ?_
      refine g_iinc (v := (nI j_2445 - 1)) (lv' := [(4, .int (nI j_2445 - 1)), (0, .ref m), (1, .long v), (3, .int (nI n))]) B dX11_putSide_37 3 rfl (i_m1 _) (by decide) rfl ?_
      refine g_goto (tgt := 5) B dX11_putSide_40 (by decide) ?_
      refine g_lvsub (lv' := [(0, .ref m), (1, .long v), (3, .int (nI n)), (4, .int (nI j_2445 - 1))]) [1, 2, 3, 0] rfl ?_
      exact ih (pm_35 + 1) (upd pr34_f pm_35 (Int8.toInt32 (Int32.toInt8 (Int64.toInt32 ((v >>> (Int32.toInt64 (nI j_2445) &&& 63)) &&& 1))))) j_2445 (by first | assumption | omega | decide | exact hCF _ (by omega)) (by first | assumption | omega | decide | exact hCF _ (by omega)) (by omega) e_
theorem dX11_putSide_43 : decode cX11_putSide 43 = .ok (.return_, 1) := by decide +kernel
set_option maxRecDepth 100000 in
def fn_wr_X11_putSide (m_35 : Nat) (r34_f : Nat → Int32) (n : Nat) (v : Int64) (β : Type) (k_ : Nat → (Nat → Int32) → β) : β := (lf_wr_X11_putSide_5 v β (fun y_2447pm_35 y_2447pr34_f y_2447l4 => (k_ y_2447pm_35 y_2447pr34_f)) ((n) + 1) m_35 r34_f n)
set_option maxRecDepth 100000 in
theorem fn_wr_X11_putSide_s {m_35 : Nat} {r34_f : Nat → Int32} {n : Nat} {v : Int64} {β : Type} {k_ : Nat → (Nat → Int32) → β} : fn_wr_X11_putSide m_35 r34_f n v β k_ = (lf_wr_X11_putSide_5 v β (fun y_2447pm_35 y_2447pr34_f y_2447l4 => (k_ y_2447pm_35 y_2447pr34_f)) ((n) + 1) m_35 r34_f n) := rfl
set_option maxRecDepth 100000 in
set_option maxHeartbeats 4000000 in
theorem wr_X11_putSide (E : g_E) (m : Nat) (r : Nat → Nat) (m_1 : Nat) (m_4 : Nat) (m_9 : Nat) (m_10 : Nat) (m_14 : Nat) (m_15 : Nat) (m_25 : Int32) (m_26 : Int32) (m_27 : Int64) (m_28 : Nat) (m_29 : Nat) (m_31 : Nat) (m_32 : Nat) (m_33 : Nat) (m_35 : Nat) (m_36 : Nat) (m_37 : Int32) (m_38 : Nat) (m_39 : Int32) (m_40 : Int32) (m_42 : Nat) (r34_f : Nat → Int32) (n : Nat) (v : Int64) (h0 : m_35 + n ≤ 50000) (hb0 : m_35 ≤ 50000) : Ev E MX11_putSide 0 0 0 0 [.ref m, .long v, .int (nI n)] [(m, .inr (11, mkF r m_1 m_4 m_9 m_10 m_14 m_15 m_25 m_26 m_27 m_28 m_29 m_31 m_32 m_33 m_35 m_36 m_37 m_38 m_39 m_40 m_42)), ((r 34), .inl (E.2.2.1 1, 50000, .inl (nb r34_f)))] (fun v_ w_ => ∃ zm_35 : Nat, ∃ zr34_f : Nat → Int32, (zm_35 ≤ 50000) ∧ (zm_35 = m_35 + n) ∧ (∀ (β : Type) (k_ : Nat → (Nat → Int32) → β), fn_wr_X11_putSide m_35 r34_f n v β k_ = k_ zm_35 zr34_f) ∧ v_ = none ∧ w_ = [(m, .inr (11, mkF r m_1 m_4 m_9 m_10 m_14 m_15 m_25 m_26 m_27 m_28 m_29 m_31 m_32 m_33 zm_35 m_36 m_37 m_38 m_39 m_40 m_42)), ((r 34), .inl (E.2.2.1 1, 50000, .inl (nb zr34_f)))]) := by
  refine Ev.intro (by decide) (Nat.le_of_ble_eq_true rfl) ?_
  intro X B hr hI
  have B : Bd E X cX11_putSide RX11 5 0 0 0 0 := B
  have hr : Rt E X none 0 0 (fun v_ w_ => ∃ zm_35 : Nat, ∃ zr34_f : Nat → Int32, (zm_35 ≤ 50000) ∧ (zm_35 = m_35 + n) ∧ (∀ (β : Type) (k_ : Nat → (Nat → Int32) → β), fn_wr_X11_putSide m_35 r34_f n v β k_ = k_ zm_35 zr34_f) ∧ v_ = none ∧ w_ = [(m, .inr (11, mkF r m_1 m_4 m_9 m_10 m_14 m_15 m_25 m_26 m_27 m_28 m_29 m_31 m_32 m_33 zm_35 m_36 m_37 m_38 m_39 m_40 m_42)), ((r 34), .inl (E.2.2.1 1, 50000, .inl (nb zr34_f)))]) := hr
  have e_ := fun (β : Type) (k_ : Nat → (Nat → Int32) → β) => fn_wr_X11_putSide_s (β := β) (k_ := k_) (m_35 := m_35) (r34_f := r34_f) (n := n) (v := v)
  show G E X 5 [(m, .inr (11, mkF r m_1 m_4 m_9 m_10 m_14 m_15 m_25 m_26 m_27 m_28 m_29 m_31 m_32 m_33 m_35 m_36 m_37 m_38 m_39 m_40 m_42)), ((r 34), .inl (E.2.2.1 1, 50000, .inl (nb r34_f)))] 0 0 [(0, .ref m), (1, .long v), (3, .int (nI n))] 0 []
  refine g_iload_n B dX11_putSide_0 rfl 2 rfl ?_
  refine g_iconst (v := 1) B dX11_putSide_1 (by decide) ?_
  refine g_isub B dX11_putSide_2 ?_
  refine g_istore (lv' := [(4, .int (nI n - 1)), (0, .ref m), (1, .long v), (3, .int (nI n))]) B dX11_putSide_3 (by decide) rfl ?_
  refine g_lvsub (lv' := [(0, .ref m), (1, .long v), (3, .int (nI n)), (4, .int (nI n - 1))]) [1, 2, 3, 0] rfl ?_
  refine lp_wr_X11_putSide_5 E m r m_1 m_4 m_9 m_10 m_14 m_15 m_25 m_26 m_27 m_28 m_29 m_31 m_32 m_33 m_35 m_36 m_37 m_38 m_39 m_40 m_42 r34_f n v h0 hb0   _ B hr (fun y_2447pm_35 y_2447pr34_f y_2447l4 y_2447k0 y_2447k1 y_2447k2 e_ => ?_) _ m_35 r34_f n (by first | assumption | omega | decide | exact hCF _ (by omega)) (by first | assumption | omega | decide | exact hCF _ (by omega)) (Nat.lt_succ_self _) e_
  show G E X 5 [(m, .inr (11, mkF r m_1 m_4 m_9 m_10 m_14 m_15 m_25 m_26 m_27 m_28 m_29 m_31 m_32 m_33 y_2447pm_35 m_36 m_37 m_38 m_39 m_40 m_42)), ((r 34), .inl (E.2.2.1 1, 50000, .inl (nb y_2447pr34_f)))] 0 0 [(0, .ref m), (1, .long v), (3, .int (nI n)), (4, .int (nI y_2447l4 - 1))] 43 []
  exact g_vret B hr dX11_putSide_43 (by decide) (by decide) ⟨y_2447pm_35, y_2447pr34_f, (by first | assumption | omega | decide | exact hCF _ (by omega)), (by first | assumption | omega | decide | exact hCF _ (by omega)), e_, rfl, rfl⟩
abbrev MX11_putT : g_M := (yX11_putT, cX11_putT, 8, none)
theorem dX11_putT_0 : decode cX11_putT 0 = .ok (.lload_n 3, 1) := by decide +kernel
theorem dX11_putT_1 : decode cX11_putT 1 = .ok (.invokestatic 166, 3) := by decide +kernel
theorem dX11_putT_4 : decode cX11_putT 4 = .ok (.iconst 1, 1) := by decide +kernel
theorem dX11_putT_5 : decode cX11_putT 5 = .ok (.isub, 1) := by decide +kernel
theorem dX11_putT_6 : decode cX11_putT 6 = .ok (.istore 5, 2) := by decide +kernel
theorem dX11_putT_8 : decode cX11_putT 8 = .ok (.ldc2_w 132, 3) := by decide +kernel
theorem dX11_putT_11 : decode cX11_putT 11 = .ok (.iload 5, 2) := by decide +kernel
theorem dX11_putT_13 : decode cX11_putT 13 = .ok (.lshl, 1) := by decide +kernel
theorem dX11_putT_14 : decode cX11_putT 14 = .ok (.lload_n 3, 1) := by decide +kernel
theorem dX11_putT_15 : decode cX11_putT 15 = .ok (.lsub, 1) := by decide +kernel
theorem dX11_putT_16 : decode cX11_putT 16 = .ok (.lstore 6, 2) := by decide +kernel
theorem dX11_putT_18 : decode cX11_putT 18 = .ok (.lload_n 1, 1) := by decide +kernel
theorem dX11_putT_19 : decode cX11_putT 19 = .ok (.lload 6, 2) := by decide +kernel
theorem dX11_putT_21 : decode cX11_putT 21 = .ok (.lcmp, 1) := by decide +kernel
theorem dX11_putT_22 : decode cX11_putT 22 = .ok (.ifCond .ge 13, 3) := by decide +kernel
theorem dX11_putT_35 : decode cX11_putT 35 = .ok (.aload_n 0, 1) := by decide +kernel
theorem dX11_putT_36 : decode cX11_putT 36 = .ok (.lload_n 1, 1) := by decide +kernel
theorem dX11_putT_37 : decode cX11_putT 37 = .ok (.lload 6, 2) := by decide +kernel
theorem dX11_putT_39 : decode cX11_putT 39 = .ok (.ladd, 1) := by decide +kernel
theorem dX11_putT_40 : decode cX11_putT 40 = .ok (.iload 5, 2) := by decide +kernel
theorem dX11_putT_42 : decode cX11_putT 42 = .ok (.iconst 1, 1) := by decide +kernel
theorem dX11_putT_43 : decode cX11_putT 43 = .ok (.iadd, 1) := by decide +kernel
theorem dX11_putT_44 : decode cX11_putT 44 = .ok (.invokevirtual 175, 3) := by decide +kernel
theorem w_ml_X11_175 : Cond.methodLink RX11 175 yX11_putSide ∈ g_tbl := g_tbl_in 1155 (by decide +kernel) (by decide +kernel)
theorem w_cd_X11_putSide : g_cw MX11_putSide ∈ g_tbl := g_tbl_in 1158 (by decide +kernel) (by decide +kernel)
theorem cl_X11_175 : CL RX11 175 2 MX11_putSide := ⟨w_ml_X11_175, w_cd_X11_putSide, w_ini_X11, by decide +kernel, by decide +kernel, by decide +kernel⟩
theorem w_im_X11_putSide : Cond.instanceMethod yX11_putSide ∈ g_tbl := g_tbl_in 1157 (by decide +kernel) (by decide +kernel)
theorem w_se_X11_putSide : Cond.selects RX11 yX11_putSide yX11_putSide ∈ g_tbl := g_tbl_in 51 (by decide +kernel) (by decide +kernel)
theorem dX11_putT_47 : decode cX11_putT 47 = .ok (.return_, 1) := by decide +kernel
theorem dX11_putT_25 : decode cX11_putT 25 = .ok (.aload_n 0, 1) := by decide +kernel
theorem dX11_putT_26 : decode cX11_putT 26 = .ok (.lload_n 1, 1) := by decide +kernel
theorem dX11_putT_27 : decode cX11_putT 27 = .ok (.iload 5, 2) := by decide +kernel
theorem dX11_putT_29 : decode cX11_putT 29 = .ok (.invokevirtual 175, 3) := by decide +kernel
theorem dX11_putT_32 : decode cX11_putT 32 = .ok (.goto 15, 3) := by decide +kernel
set_option maxRecDepth 100000 in
def fn_wr_X11_putT (m_35 : Nat) (r34_f : Nat → Int32) (a : Nat) (o : Int64) (β : Type) (k_ : Nat → (Nat → Int32) → β) : β := (fn_wr_length_n a β (fun zr_2448 => (if 0 ≤ (lg_cmp o (((2 : Int64) <<< (Int32.toInt64 (nI (zr_2448 - 1)) &&& 63)) - lN a)) then (fn_wr_X11_putSide m_35 r34_f ((zr_2448 - 1) + 1) (o + (((2 : Int64) <<< (Int32.toInt64 (nI (zr_2448 - 1)) &&& 63)) - lN a)) β (fun zm_35_2455 zr34_f_2456 => (k_ zm_35_2455 zr34_f_2456))) else (fn_wr_X11_putSide m_35 r34_f (zr_2448 - 1) o β (fun zm_35_2460 zr34_f_2461 => (k_ zm_35_2460 zr34_f_2461))))))
set_option maxRecDepth 100000 in
theorem fn_wr_X11_putT_s {m_35 : Nat} {r34_f : Nat → Int32} {a : Nat} {o : Int64} {β : Type} {k_ : Nat → (Nat → Int32) → β} : fn_wr_X11_putT m_35 r34_f a o β k_ = (fn_wr_length_n a β (fun zr_2448 => (if 0 ≤ (lg_cmp o (((2 : Int64) <<< (Int32.toInt64 (nI (zr_2448 - 1)) &&& 63)) - lN a)) then (fn_wr_X11_putSide m_35 r34_f ((zr_2448 - 1) + 1) (o + (((2 : Int64) <<< (Int32.toInt64 (nI (zr_2448 - 1)) &&& 63)) - lN a)) β (fun zm_35_2455 zr34_f_2456 => (k_ zm_35_2455 zr34_f_2456))) else (fn_wr_X11_putSide m_35 r34_f (zr_2448 - 1) o β (fun zm_35_2460 zr34_f_2461 => (k_ zm_35_2460 zr34_f_2461)))))) := rfl
set_option maxRecDepth 100000 in
set_option maxHeartbeats 4000000 in
theorem wr_X11_putT (E : g_E) (m : Nat) (r : Nat → Nat) (m_1 : Nat) (m_4 : Nat) (m_9 : Nat) (m_10 : Nat) (m_14 : Nat) (m_15 : Nat) (m_25 : Int32) (m_26 : Int32) (m_27 : Int64) (m_28 : Nat) (m_29 : Nat) (m_31 : Nat) (m_32 : Nat) (m_33 : Nat) (m_35 : Nat) (m_36 : Nat) (m_37 : Int32) (m_38 : Nat) (m_39 : Int32) (m_40 : Int32) (m_42 : Nat) (r34_f : Nat → Int32) (a : Nat) (o : Int64) (h0 : 0 < a) (h1 : a ≤ 65536) (h2 : m_35 + 17 ≤ 50000) (hb0 : m_35 ≤ 50000) : Ev E MX11_putT 3 64 0 0 [.ref m, .long o, .long (lN a)] [(m, .inr (11, mkF r m_1 m_4 m_9 m_10 m_14 m_15 m_25 m_26 m_27 m_28 m_29 m_31 m_32 m_33 m_35 m_36 m_37 m_38 m_39 m_40 m_42)), ((r 34), .inl (E.2.2.1 1, 50000, .inl (nb r34_f)))] (fun v_ w_ => ∃ zm_35 : Nat, ∃ zr34_f : Nat → Int32, (zm_35 ≤ 50000) ∧ (zm_35 ≤ m_35 + 17) ∧ (∀ (β : Type) (k_ : Nat → (Nat → Int32) → β), fn_wr_X11_putT m_35 r34_f a o β k_ = k_ zm_35 zr34_f) ∧ v_ = none ∧ w_ = [(m, .inr (11, mkF r m_1 m_4 m_9 m_10 m_14 m_15 m_25 m_26 m_27 m_28 m_29 m_31 m_32 m_33 zm_35 m_36 m_37 m_38 m_39 m_40 m_42)), ((r 34), .inl (E.2.2.1 1, 50000, .inl (nb zr34_f)))]) := by
  refine Ev.intro (by decide) (Nat.le_of_ble_eq_true rfl) ?_
  intro X B hr hI
  have B : Bd E X cX11_putT RX11 8 3 64 0 0 := B
  have hr : Rt E X none 0 0 (fun v_ w_ => ∃ zm_35 : Nat, ∃ zr34_f : Nat → Int32, (zm_35 ≤ 50000) ∧ (zm_35 ≤ m_35 + 17) ∧ (∀ (β : Type) (k_ : Nat → (Nat → Int32) → β), fn_wr_X11_putT m_35 r34_f a o β k_ = k_ zm_35 zr34_f) ∧ v_ = none ∧ w_ = [(m, .inr (11, mkF r m_1 m_4 m_9 m_10 m_14 m_15 m_25 m_26 m_27 m_28 m_29 m_31 m_32 m_33 zm_35 m_36 m_37 m_38 m_39 m_40 m_42)), ((r 34), .inl (E.2.2.1 1, 50000, .inl (nb zr34_f)))]) := hr
  have e_ := fun (β : Type) (k_ : Nat → (Nat → Int32) → β) => fn_wr_X11_putT_s (β := β) (k_ := k_) (m_35 := m_35) (r34_f := r34_f) (a := a) (o := o)
  show G E X 8 [(m, .inr (11, mkF r m_1 m_4 m_9 m_10 m_14 m_15 m_25 m_26 m_27 m_28 m_29 m_31 m_32 m_33 m_35 m_36 m_37 m_38 m_39 m_40 m_42)), ((r 34), .inl (E.2.2.1 1, 50000, .inl (nb r34_f)))] 0 0 [(0, .ref m), (1, .long o), (3, .long (lN a))] 0 []
  refine g_lload_n B dX11_putT_0 rfl 2 rfl ?_
  refine g_callS (st := []) (As := [.long (lN a)]) (wr := [(m, .inr (11, mkF r m_1 m_4 m_9 m_10 m_14 m_15 m_25 m_26 m_27 m_28 m_29 m_31 m_32 m_33 m_35 m_36 m_37 m_38 m_39 m_40 m_42)), ((r 34), .inl (E.2.2.1 1, 50000, .inl (nb r34_f)))]) (nc' := 0) (ns' := 0) B cl_X11_166 w_sm_X11_length (wr_length_n E a (by first | assumption | omega | decide | exact hCF _ (by omega)) (by first | assumption | omega | decide | exact hCF _ (by omega))) rfl [] [0, 1] rfl rfl (by decide) (by decide) (by decide) ⟨by decide, by decide⟩ rfl rfl (by decide) (by decide) rfl (Nat.le_of_ble_eq_true rfl) dX11_putT_1 (fun v w hq => ?_)
  obtain ⟨zr_2448, hf_2449, hf_2450, hf_2451, hf_2452, hz_2453, rfl, rfl⟩ := hq
  replace e_ := fun β k_ => (e_ β k_).trans (hz_2453 β _)
  show G E X 8 [(m, .inr (11, mkF r m_1 m_4 m_9 m_10 m_14 m_15 m_25 m_26 m_27 m_28 m_29 m_31 m_32 m_33 m_35 m_36 m_37 m_38 m_39 m_40 m_42)), ((r 34), .inl (E.2.2.1 1, 50000, .inl (nb r34_f)))] 0 0 [(0, .ref m), (1, .long o), (3, .long (lN a))] 4 [.int (nI zr_2448)]
  refine g_iconst (v := 1) B dX11_putT_4 (by decide) ?_
  refine g_isub B dX11_putT_5 ?_
  refine g_ri (x' := nI (zr_2448 - 1)) (pk_sub (a := zr_2448) (b := 1) (by omega)) ?_
  refine g_istore (lv' := [(5, .int (nI (zr_2448 - 1))), (0, .ref m), (1, .long o), (3, .long (lN a))]) B dX11_putT_6 (by decide) rfl ?_
  refine g_ldc2 (v := 2) B w_k_X11_132 dX11_putT_8 ?_
  refine g_iload B dX11_putT_11 0 rfl ?_
  refine g_lshl B dX11_putT_13 ?_
  refine g_lload_n B dX11_putT_14 rfl 3 rfl ?_
  refine g_lsub B dX11_putT_15 ?_
  refine g_lstore (lv' := [(6, .long (((2 : Int64) <<< (Int32.toInt64 (nI (zr_2448 - 1)) &&& 63)) - lN a)), (5, .int (nI (zr_2448 - 1))), (0, .ref m), (1, .long o), (3, .long (lN a))]) B dX11_putT_16 (by decide) rfl ?_
  refine g_lload_n B dX11_putT_18 rfl 3 rfl ?_
  refine g_lload B dX11_putT_19 0 rfl ?_
  refine g_lcmp B dX11_putT_21 ?_
  refine g_if_ge (tgt := 35) B dX11_putT_22 (by decide) (fun c22_2454 => ?_) (fun c22_2454 => ?_)
  · replace e_ := fun β k_ => (e_ β k_).trans (if_pos c22_2454)
    refine g_aload_n B dX11_putT_35 rfl 2 rfl ?_
    refine g_lload_n B dX11_putT_36 rfl 3 rfl ?_
    refine g_lload B dX11_putT_37 0 rfl ?_
    refine g_ladd B dX11_putT_39 ?_
    refine g_iload B dX11_putT_40 1 rfl ?_
    refine g_iconst (v := 1) B dX11_putT_42 (by decide) ?_
    refine g_iadd B dX11_putT_43 ?_
    refine g_ri (x' := nI ((zr_2448 - 1) + 1)) (nI_add (zr_2448 - 1) 1) ?_
    refine g_callV (st := []) (As := [.long (o + (((2 : Int64) <<< (Int32.toInt64 (nI (zr_2448 - 1)) &&& 63)) - lN a)), .int (nI ((zr_2448 - 1) + 1))]) (wr := []) (nc' := 0) (ns' := 0) B cl_X11_175 w_im_X11_putSide w_se_X11_putSide (wr_X11_putSide E m r m_1 m_4 m_9 m_10 m_14 m_15 m_25 m_26 m_27 m_28 m_29 m_31 m_32 m_33 m_35 m_36 m_37 m_38 m_39 m_40 m_42 r34_f ((zr_2448 - 1) + 1) (o + (((2 : Int64) <<< (Int32.toInt64 (nI (zr_2448 - 1)) &&& 63)) - lN a)) (by first | assumption | omega | decide | exact hCF _ (by omega)) (by first | assumption | omega | decide | exact hCF _ (by omega))) rfl [0, 1] [] rfl rfl (by decide) (by decide) (by decide) 0 rfl (fun q h => by cases h; rfl) rfl ⟨by decide, by decide⟩ rfl rfl (by decide) (by decide) rfl (Nat.le_of_ble_eq_true rfl) dX11_putT_44 (fun v w hq => ?_)
    obtain ⟨zm_35_2455, zr34_f_2456, hf_2457, hf_2458, hz_2459, rfl, rfl⟩ := hq
    replace e_ := fun β k_ => (e_ β k_).trans (hz_2459 β _)
    show G E X 8 [(m, .inr (11, mkF r m_1 m_4 m_9 m_10 m_14 m_15 m_25 m_26 m_27 m_28 m_29 m_31 m_32 m_33 zm_35_2455 m_36 m_37 m_38 m_39 m_40 m_42)), ((r 34), .inl (E.2.2.1 1, 50000, .inl (nb zr34_f_2456)))] 0 0 [(6, .long (((2 : Int64) <<< (Int32.toInt64 (nI (zr_2448 - 1)) &&& 63)) - lN a)), (5, .int (nI (zr_2448 - 1))), (0, .ref m), (1, .long o), (3, .long (lN a))] 47 []
    exact g_vret B hr dX11_putT_47 (by decide) (by decide) ⟨zm_35_2455, zr34_f_2456, (by first | assumption | omega | decide | exact hCF _ (by omega)), (by first | assumption | omega | decide | exact hCF _ (by omega)), e_, rfl, rfl⟩
  · replace e_ := fun β k_ => (e_ β k_).trans (if_neg c22_2454)
    refine g_aload_n B dX11_putT_25 rfl 2 rfl ?_
    refine g_lload_n B dX11_putT_26 rfl 3 rfl ?_
    refine g_iload B dX11_putT_27 1 rfl ?_
    refine g_callV (st := []) (As := [.long o, .int (nI (zr_2448 - 1))]) (wr := []) (nc' := 0) (ns' := 0) B cl_X11_175 w_im_X11_putSide w_se_X11_putSide (wr_X11_putSide E m r m_1 m_4 m_9 m_10 m_14 m_15 m_25 m_26 m_27 m_28 m_29 m_31 m_32 m_33 m_35 m_36 m_37 m_38 m_39 m_40 m_42 r34_f (zr_2448 - 1) o (by first | assumption | omega | decide | exact hCF _ (by omega)) (by first | assumption | omega | decide | exact hCF _ (by omega))) rfl [0, 1] [] rfl rfl (by decide) (by decide) (by decide) 0 rfl (fun q h => by cases h; rfl) rfl ⟨by decide, by decide⟩ rfl rfl (by decide) (by decide) rfl (Nat.le_of_ble_eq_true rfl) dX11_putT_29 (fun v w hq => ?_)
    obtain ⟨zm_35_2460, zr34_f_2461, hf_2462, hf_2463, hz_2464, rfl, rfl⟩ := hq
    replace e_ := fun β k_ => (e_ β k_).trans (hz_2464 β _)
    show G E X 8 [(m, .inr (11, mkF r m_1 m_4 m_9 m_10 m_14 m_15 m_25 m_26 m_27 m_28 m_29 m_31 m_32 m_33 zm_35_2460 m_36 m_37 m_38 m_39 m_40 m_42)), ((r 34), .inl (E.2.2.1 1, 50000, .inl (nb zr34_f_2461)))] 0 0 [(6, .long (((2 : Int64) <<< (Int32.toInt64 (nI (zr_2448 - 1)) &&& 63)) - lN a)), (5, .int (nI (zr_2448 - 1))), (0, .ref m), (1, .long o), (3, .long (lN a))] 32 []
    refine g_goto (tgt := 47) B dX11_putT_32 (by decide) ?_
    exact g_vret B hr dX11_putT_47 (by decide) (by decide) ⟨zm_35_2460, zr34_f_2461, (by first | assumption | omega | decide | exact hCF _ (by omega)), (by first | assumption | omega | decide | exact hCF _ (by omega)), e_, rfl, rfl⟩
