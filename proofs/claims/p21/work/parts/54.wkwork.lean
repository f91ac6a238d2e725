abbrev MX9_begin : g_M := (yX9_begin, cX9_begin, 5, none)
theorem dX9_begin_0 : decode cX9_begin 0 = .ok (.aload_n 0, 1) := by decide +kernel
theorem dX9_begin_1 : decode cX9_begin 1 = .ok (.iload_n 1, 1) := by decide +kernel
theorem dX9_begin_2 : decode cX9_begin 2 = .ok (.putfield 25, 3) := by decide +kernel
theorem w_fl_X9_25 : Cond.fieldLink RX9 25 (TX9 5).1 (TX9 5).2.1 (TX9 5).2.2.1 ∈ g_tbl := g_tbl_in 328 (by decide +kernel) (by decide +kernel)
theorem fl_X9_25 : FL RX9 25 9 5 := ⟨RX9, TX9, 12, rfl, by decide, inX_X9, w_fl_X9_25⟩
theorem pf_X9_5 : PF 9 5 .int false := fun C T N h => by cases h; exact ⟨⟨tyX9, tyX9_ok⟩, nmX9, by decide +kernel, rfl, rfl⟩
theorem dX9_begin_5 : decode cX9_begin 5 = .ok (.aload_n 0, 1) := by decide +kernel
theorem dX9_begin_6 : decode cX9_begin 6 = .ok (.iload_n 2, 1) := by decide +kernel
theorem dX9_begin_7 : decode cX9_begin 7 = .ok (.putfield 29, 3) := by decide +kernel
theorem w_fl_X9_29 : Cond.fieldLink RX9 29 (TX9 6).1 (TX9 6).2.1 (TX9 6).2.2.1 ∈ g_tbl := g_tbl_in 331 (by decide +kernel) (by decide +kernel)
theorem fl_X9_29 : FL RX9 29 9 6 := ⟨RX9, TX9, 12, rfl, by decide, inX_X9, w_fl_X9_29⟩
theorem pf_X9_6 : PF 9 6 .int false := fun C T N h => by cases h; exact ⟨⟨tyX9, tyX9_ok⟩, nmX9, by decide +kernel, rfl, rfl⟩
theorem dX9_begin_10 : decode cX9_begin 10 = .ok (.aload_n 0, 1) := by decide +kernel
theorem dX9_begin_11 : decode cX9_begin 11 = .ok (.iload_n 3, 1) := by decide +kernel
theorem dX9_begin_12 : decode cX9_begin 12 = .ok (.putfield 32, 3) := by decide +kernel
theorem w_fl_X9_32 : Cond.fieldLink RX9 32 (TX9 4).1 (TX9 4).2.1 (TX9 4).2.2.1 ∈ g_tbl := g_tbl_in 324 (by decide +kernel) (by decide +kernel)
theorem fl_X9_32 : FL RX9 32 9 4 := ⟨RX9, TX9, 12, rfl, by decide, inX_X9, w_fl_X9_32⟩
theorem pf_X9_4 : PF 9 4 .int false := fun C T N h => by cases h; exact ⟨⟨tyX9, tyX9_ok⟩, nmX9, by decide +kernel, rfl, rfl⟩
theorem dX9_begin_15 : decode cX9_begin 15 = .ok (.aload_n 0, 1) := by decide +kernel
theorem dX9_begin_16 : decode cX9_begin 16 = .ok (.iload 4, 2) := by decide +kernel
theorem dX9_begin_18 : decode cX9_begin 18 = .ok (.putfield 35, 3) := by decide +kernel
theorem w_fl_X9_35 : Cond.fieldLink RX9 35 (TX9 7).1 (TX9 7).2.1 (TX9 7).2.2.1 ∈ g_tbl := g_tbl_in 335 (by decide +kernel) (by decide +kernel)
theorem fl_X9_35 : FL RX9 35 9 7 := ⟨RX9, TX9, 12, rfl, by decide, inX_X9, w_fl_X9_35⟩
theorem pf_X9_7 : PF 9 7 .int false := fun C T N h => by cases h; exact ⟨⟨tyX9, tyX9_ok⟩, nmX9, by decide +kernel, rfl, rfl⟩
theorem dX9_begin_21 : decode cX9_begin 21 = .ok (.aload_n 0, 1) := by decide +kernel
theorem dX9_begin_22 : decode cX9_begin 22 = .ok (.aload_n 0, 1) := by decide +kernel
theorem dX9_begin_23 : decode cX9_begin 23 = .ok (.getfield 25, 3) := by decide +kernel
theorem dX9_begin_26 : decode cX9_begin 26 = .ok (.iconst 1, 1) := by decide +kernel
theorem dX9_begin_27 : decode cX9_begin 27 = .ok (.iand, 1) := by decide +kernel
theorem dX9_begin_28 : decode cX9_begin 28 = .ok (.ifCond .eq 7, 3) := by decide +kernel
theorem dX9_begin_35 : decode cX9_begin 35 = .ok (.iconst 1, 1) := by decide +kernel
theorem dX9_begin_36 : decode cX9_begin 36 = .ok (.putfield 38, 3) := by decide +kernel
theorem w_fl_X9_38 : Cond.fieldLink RX9 38 (TX9 2).1 (TX9 2).2.1 (TX9 2).2.2.1 ∈ g_tbl := g_tbl_in 317 (by decide +kernel) (by decide +kernel)
theorem fl_X9_38 : FL RX9 38 9 2 := ⟨RX9, TX9, 12, rfl, by decide, inX_X9, w_fl_X9_38⟩
theorem pf_X9_2 : PF 9 2 .int false := fun C T N h => by cases h; exact ⟨⟨tyX9, tyX9_ok⟩, nmX9, by decide +kernel, rfl, rfl⟩
theorem dX9_begin_39 : decode cX9_begin 39 = .ok (.aload_n 0, 1) := by decide +kernel
theorem dX9_begin_40 : decode cX9_begin 40 = .ok (.aload_n 0, 1) := by decide +kernel
theorem dX9_begin_41 : decode cX9_begin 41 = .ok (.getfield 38, 3) := by decide +kernel
theorem dX9_begin_44 : decode cX9_begin 44 = .ok (.iconst 2, 1) := by decide +kernel
theorem dX9_begin_45 : decode cX9_begin 45 = .ok (.if_icmp .ne 16, 3) := by decide +kernel
theorem dX9_begin_61 : decode cX9_begin 61 = .ok (.iconst 1, 1) := by decide +kernel
theorem dX9_begin_62 : decode cX9_begin 62 = .ok (.putfield 41, 3) := by decide +kernel
theorem w_fl_X9_41 : Cond.fieldLink RX9 41 (TX9 3).1 (TX9 3).2.1 (TX9 3).2.2.1 ∈ g_tbl := g_tbl_in 319 (by decide +kernel) (by decide +kernel)
theorem fl_X9_41 : FL RX9 41 9 3 := ⟨RX9, TX9, 12, rfl, by decide, inX_X9, w_fl_X9_41⟩
theorem pf_X9_3 : PF 9 3 .int false := fun C T N h => by cases h; exact ⟨⟨tyX9, tyX9_ok⟩, nmX9, by decide +kernel, rfl, rfl⟩
theorem dX9_begin_65 : decode cX9_begin 65 = .ok (.aload_n 0, 1) := by decide +kernel
theorem dX9_begin_66 : decode cX9_begin 66 = .ok (.iconst 0, 1) := by decide +kernel
theorem dX9_begin_67 : decode cX9_begin 67 = .ok (.putfield 44, 3) := by decide +kernel
theorem w_fl_X9_44 : Cond.fieldLink RX9 44 (TX9 8).1 (TX9 8).2.1 (TX9 8).2.2.1 ∈ g_tbl := g_tbl_in 337 (by decide +kernel) (by decide +kernel)
theorem fl_X9_44 : FL RX9 44 9 8 := ⟨RX9, TX9, 12, rfl, by decide, inX_X9, w_fl_X9_44⟩
theorem pf_X9_8 : PF 9 8 .int false := fun C T N h => by cases h; exact ⟨⟨tyX9, tyX9_ok⟩, nmX9, by decide +kernel, rfl, rfl⟩
theorem dX9_begin_70 : decode cX9_begin 70 = .ok (.aload_n 0, 1) := by decide +kernel
theorem dX9_begin_71 : decode cX9_begin 71 = .ok (.iconst 0, 1) := by decide +kernel
theorem dX9_begin_72 : decode cX9_begin 72 = .ok (.putfield 47, 3) := by decide +kernel
theorem w_fl_X9_47 : Cond.fieldLink RX9 47 (TX9 9).1 (TX9 9).2.1 (TX9 9).2.2.1 ∈ g_tbl := g_tbl_in 338 (by decide +kernel) (by decide +kernel)
theorem fl_X9_47 : FL RX9 47 9 9 := ⟨RX9, TX9, 12, rfl, by decide, inX_X9, w_fl_X9_47⟩
theorem pf_X9_9 : PF 9 9 .int false := fun C T N h => by cases h; exact ⟨⟨tyX9, tyX9_ok⟩, nmX9, by decide +kernel, rfl, rfl⟩
theorem dX9_begin_75 : decode cX9_begin 75 = .ok (.aload_n 0, 1) := by decide +kernel
theorem dX9_begin_76 : decode cX9_begin 76 = .ok (.iconst 0, 1) := by decide +kernel
theorem dX9_begin_77 : decode cX9_begin 77 = .ok (.putfield 50, 3) := by decide +kernel
theorem w_fl_X9_50 : Cond.fieldLink RX9 50 (TX9 10).1 (TX9 10).2.1 (TX9 10).2.2.1 ∈ g_tbl := g_tbl_in 339 (by decide +kernel) (by decide +kernel)
theorem fl_X9_50 : FL RX9 50 9 10 := ⟨RX9, TX9, 12, rfl, by decide, inX_X9, w_fl_X9_50⟩
theorem pf_X9_10 : PF 9 10 .int false := fun C T N h => by cases h; exact ⟨⟨tyX9, tyX9_ok⟩, nmX9, by decide +kernel, rfl, rfl⟩
theorem dX9_begin_80 : decode cX9_begin 80 = .ok (.aload_n 0, 1) := by decide +kernel
theorem dX9_begin_81 : decode cX9_begin 81 = .ok (.iconst 0, 1) := by decide +kernel
theorem dX9_begin_82 : decode cX9_begin 82 = .ok (.putfield 53, 3) := by decide +kernel
theorem w_fl_X9_53 : Cond.fieldLink RX9 53 (TX9 11).1 (TX9 11).2.1 (TX9 11).2.2.1 ∈ g_tbl := g_tbl_in 340 (by decide +kernel) (by decide +kernel)
theorem fl_X9_53 : FL RX9 53 9 11 := ⟨RX9, TX9, 12, rfl, by decide, inX_X9, w_fl_X9_53⟩
theorem pf_X9_11 : PF 9 11 .int false := fun C T N h => by cases h; exact ⟨⟨tyX9, tyX9_ok⟩, nmX9, by decide +kernel, rfl, rfl⟩
theorem dX9_begin_85 : decode cX9_begin 85 = .ok (.aload_n 0, 1) := by decide +kernel
theorem dX9_begin_86 : decode cX9_begin 86 = .ok (.getfield 12, 3) := by decide +kernel
theorem dX9_begin_89 : decode cX9_begin 89 = .ok (.aload_n 0, 1) := by decide +kernel
theorem dX9_begin_90 : decode cX9_begin 90 = .ok (.getfield 41, 3) := by decide +kernel
theorem dX9_begin_93 : decode cX9_begin 93 = .ok (.invokevirtual 56, 3) := by decide +kernel
theorem w_ml_X9_56 : Cond.methodLink RX9 56 yX6_begin ∈ g_tbl := g_tbl_in 462 (by decide +kernel) (by decide +kernel)
theorem w_cd_X6_begin : g_cw MX6_begin ∈ g_tbl := g_tbl_in 465 (by decide +kernel) (by decide +kernel)
theorem cl_X9_56 : CL RX9 56 1 MX6_begin := ⟨w_ml_X9_56, w_cd_X6_begin, w_ini_X6, by decide +kernel, by decide +kernel, by decide +kernel⟩
theorem w_im_X6_begin : Cond.instanceMethod yX6_begin ∈ g_tbl := g_tbl_in 463 (by decide +kernel) (by decide +kernel)
theorem w_se_X6_begin : Cond.selects RX6 yX6_begin yX6_begin ∈ g_tbl := g_tbl_in 464 (by decide +kernel) (by decide +kernel)
theorem dX9_begin_96 : decode cX9_begin 96 = .ok (.aload_n 0, 1) := by decide +kernel
theorem dX9_begin_97 : decode cX9_begin 97 = .ok (.getfield 21, 3) := by decide +kernel
theorem dX9_begin_100 : decode cX9_begin 100 = .ok (.invokevirtual 60, 3) := by decide +kernel
theorem w_ml_X9_60 : Cond.methodLink RX9 60 yX5_begin ∈ g_tbl := g_tbl_in 469 (by decide +kernel) (by decide +kernel)
theorem w_cd_X5_begin : g_cw MX5_begin ∈ g_tbl := g_tbl_in 472 (by decide +kernel) (by decide +kernel)
theorem cl_X9_60 : CL RX9 60 0 MX5_begin := ⟨w_ml_X9_60, w_cd_X5_begin, w_ini_X5, by decide +kernel, by decide +kernel, by decide +kernel⟩
theorem w_im_X5_begin : Cond.instanceMethod yX5_begin ∈ g_tbl := g_tbl_in 470 (by decide +kernel) (by decide +kernel)
theorem w_se_X5_begin : Cond.selects RX5 yX5_begin yX5_begin ∈ g_tbl := g_tbl_in 471 (by decide +kernel) (by decide +kernel)
theorem dX9_begin_103 : decode cX9_begin 103 = .ok (.return_, 1) := by decide +kernel
theorem dX9_begin_31 : decode cX9_begin 31 = .ok (.iconst 2, 1) := by decide +kernel
theorem dX9_begin_32 : decode cX9_begin 32 = .ok (.goto 4, 3) := by decide +kernel
theorem dX9_begin_48 : decode cX9_begin 48 = .ok (.aload_n 0, 1) := by decide +kernel
theorem dX9_begin_49 : decode cX9_begin 49 = .ok (.getfield 25, 3) := by decide +kernel
theorem dX9_begin_52 : decode cX9_begin 52 = .ok (.iconst 2, 1) := by decide +kernel
theorem dX9_begin_53 : decode cX9_begin 53 = .ok (.iand, 1) := by decide +kernel
theorem dX9_begin_54 : decode cX9_begin 54 = .ok (.ifCond .ne 7, 3) := by decide +kernel
theorem dX9_begin_57 : decode cX9_begin 57 = .ok (.iconst 2, 1) := by decide +kernel
theorem dX9_begin_58 : decode cX9_begin 58 = .ok (.goto 4, 3) := by decide +kernel
set_option maxRecDepth 100000 in
def fn_wk_X9_begin (nf : Nat) (we_f : Nat → Int32) (inp_f : Nat → Int32) (mi_f : Nat → Int64) (fl : Int32) (si : Int32) (er : Int32) (β : Type) (k_ : Nat → Nat → Nat → Int32 → Int32 → Int32 → Int32 → Int32 → Int32 → Int32 → Int32 → (Nat → Int32) → (Nat → Int32) → Int64 → Int64 → (Nat → Int64) → β) : β := (if (fl &&& 1) = 0 then (fn_wk_X6_begin we_f inp_f 1 β (fun zps_5_377 zwe_f_378 zinp_f_379 => (fn_wk_X5_begin mi_f β (fun zmd_1_381 zmd_2_382 zmi_f_383 => (k_ 1 1 nf fl si er 0 0 0 0 zps_5_377 zwe_f_378 zinp_f_379 zmd_1_381 zmd_2_382 zmi_f_383))))) else (if (fl &&& 2) = 0 then (fn_wk_X6_begin we_f inp_f 2 β (fun zps_5_394 zwe_f_395 zinp_f_396 => (fn_wk_X5_begin mi_f β (fun zmd_1_398 zmd_2_399 zmi_f_400 => (k_ 2 2 nf fl si er 0 0 0 0 zps_5_394 zwe_f_395 zinp_f_396 zmd_1_398 zmd_2_399 zmi_f_400))))) else (fn_wk_X6_begin we_f inp_f 1 β (fun zps_5_386 zwe_f_387 zinp_f_388 => (fn_wk_X5_begin mi_f β (fun zmd_1_390 zmd_2_391 zmi_f_392 => (k_ 2 1 nf fl si er 0 0 0 0 zps_5_386 zwe_f_387 zinp_f_388 zmd_1_390 zmd_2_391 zmi_f_392)))))))
set_option maxRecDepth 100000 in
theorem fn_wk_X9_begin_s {nf : Nat} {we_f : Nat → Int32} {inp_f : Nat → Int32} {mi_f : Nat → Int64} {fl : Int32} {si : Int32} {er : Int32} {β : Type} {k_ : Nat → Nat → Nat → Int32 → Int32 → Int32 → Int32 → Int32 → Int32 → Int32 → Int32 → (Nat → Int32) → (Nat → Int32) → Int64 → Int64 → (Nat → Int64) → β} : fn_wk_X9_begin nf we_f inp_f mi_f fl si er β k_ = (if (fl &&& 1) = 0 then (fn_wk_X6_begin we_f inp_f 1 β (fun zps_5_377 zwe_f_378 zinp_f_379 => (fn_wk_X5_begin mi_f β (fun zmd_1_381 zmd_2_382 zmi_f_383 => (k_ 1 1 nf fl si er 0 0 0 0 zps_5_377 zwe_f_378 zinp_f_379 zmd_1_381 zmd_2_382 zmi_f_383))))) else (if (fl &&& 2) = 0 then (fn_wk_X6_begin we_f inp_f 2 β (fun zps_5_394 zwe_f_395 zinp_f_396 => (fn_wk_X5_begin mi_f β (fun zmd_1_398 zmd_2_399 zmi_f_400 => (k_ 2 2 nf fl si er 0 0 0 0 zps_5_394 zwe_f_395 zinp_f_396 zmd_1_398 zmd_2_399 zmi_f_400))))) else (fn_wk_X6_begin we_f inp_f 1 β (fun zps_5_386 zwe_f_387 zinp_f_388 => (fn_wk_X5_begin mi_f β (fun zmd_1_390 zmd_2_391 zmi_f_392 => (k_ 2 1 nf fl si er 0 0 0 0 zps_5_386 zwe_f_387 zinp_f_388 zmd_1_390 zmd_2_391 zmi_f_392))))))) := rfl
set_option maxRecDepth 100000 in
set_option maxHeartbeats 4000000 in
theorem wk_X9_begin (E : g_E) (w : Nat) (ps : Nat) (md : Nat) (p : Nat) (we : Nat) (inp : Nat) (ba : Nat) (gu : Nat) (mi : Nat) (nf : Nat) (ps_6 : Int32) (ps_7 : Int32) (w_2 : Nat) (w_3 : Nat) (w_4 : Nat) (w_5 : Int32) (w_6 : Int32) (w_7 : Int32) (w_8 : Int32) (w_9 : Int32) (w_10 : Int32) (w_11 : Int32) (ps_5 : Int32) (we_f : Nat → Int32) (inp_f : Nat → Int32) (md_1 : Int64) (md_2 : Int64) (mi_f : Nat → Int64) (fl : Int32) (si : Int32) (er : Int32) (hnf : nf ≤ 600) (hp0 : w_2 ≤ 2) (hp1 : w_3 ≤ 2) (hp2 : w_4 ≤ 600) : Ev E MX9_begin 2 44 0 0 [.ref w, .int fl, .int si, .int (nI nf), .int er] [(w, .inr (9, [.ref ps, .ref md, .int (nI w_2), .int (nI w_3), .int (nI w_4), .int w_5, .int w_6, .int w_7, .int w_8, .int w_9, .int w_10, .int w_11])), (ps, .inr (6, [.ref p, .ref we, .ref inp, .ref ba, .ref gu, .int ps_5, .int ps_6, .int ps_7])), (we, .inl (E.2.2.1 0, 16, .inl we_f)), (inp, .inl (E.2.2.1 0, 128, .inl inp_f)), (md, .inr (5, [.ref mi, .long md_1, .long md_2])), (mi, .inl (E.2.2.1 3, 6, .inr (.inl mi_f)))] (fun v_ w_ => ∃ zw_2 : Nat, ∃ zw_3 : Nat, ∃ zw_4 : Nat, ∃ zw_5 : Int32, ∃ zw_6 : Int32, ∃ zw_7 : Int32, ∃ zw_8 : Int32, ∃ zw_9 : Int32, ∃ zw_10 : Int32, ∃ zw_11 : Int32, ∃ zps_5 : Int32, ∃ zwe_f : Nat → Int32, ∃ zinp_f : Nat → Int32, ∃ zmd_1 : Int64, ∃ zmd_2 : Int64, ∃ zmi_f : Nat → Int64, (zw_2 ≤ 2) ∧ (zw_3 ≤ 2) ∧ (zw_4 ≤ 600) ∧ (∀ (β : Type) (k_ : Nat → Nat → Nat → Int32 → Int32 → Int32 → Int32 → Int32 → Int32 → Int32 → Int32 → (Nat → Int32) → (Nat → Int32) → Int64 → Int64 → (Nat → Int64) → β), fn_wk_X9_begin nf we_f inp_f mi_f fl si er β k_ = k_ zw_2 zw_3 zw_4 zw_5 zw_6 zw_7 zw_8 zw_9 zw_10 zw_11 zps_5 zwe_f zinp_f zmd_1 zmd_2 zmi_f) ∧ v_ = none ∧ w_ = [(w, .inr (9, [.ref ps, .ref md, .int (nI zw_2), .int (nI zw_3), .int (nI zw_4), .int zw_5, .int zw_6, .int zw_7, .int zw_8, .int zw_9, .int zw_10, .int zw_11])), (ps, .inr (6, [.ref p, .ref we, .ref inp, .ref ba, .ref gu, .int zps_5, .int ps_6, .int ps_7])), (we, .inl (E.2.2.1 0, 16, .inl zwe_f)), (inp, .inl (E.2.2.1 0, 128, .inl zinp_f)), (md, .inr (5, [.ref mi, .long zmd_1, .long zmd_2])), (mi, .inl (E.2.2.1 3, 6, .inr (.inl zmi_f)))]) := by
  refine Ev.intro (by decide) (Nat.le_of_ble_eq_true rfl) ?_
  intro X B hr hI
  have B : Bd E X cX9_begin RX9 5 2 44 0 0 := B
  have hr : Rt E X none 0 0 (fun v_ w_ => ∃ zw_2 : Nat, ∃ zw_3 : Nat, ∃ zw_4 : Nat, ∃ zw_5 : Int32, ∃ zw_6 : Int32, ∃ zw_7 : Int32, ∃ zw_8 : Int32, ∃ zw_9 : Int32, ∃ zw_10 : Int32, ∃ zw_11 : Int32, ∃ zps_5 : Int32, ∃ zwe_f : Nat → Int32, ∃ zinp_f : Nat → Int32, ∃ zmd_1 : Int64, ∃ zmd_2 : Int64, ∃ zmi_f : Nat → Int64, (zw_2 ≤ 2) ∧ (zw_3 ≤ 2) ∧ (zw_4 ≤ 600) ∧ (∀ (β : Type) (k_ : Nat → Nat → Nat → Int32 → Int32 → Int32 → Int32 → Int32 → Int32 → Int32 → Int32 → (Nat → Int32) → (Nat → Int32) → Int64 → Int64 → (Nat → Int64) → β), fn_wk_X9_begin nf we_f inp_f mi_f fl si er β k_ = k_ zw_2 zw_3 zw_4 zw_5 zw_6 zw_7 zw_8 zw_9 zw_10 zw_11 zps_5 zwe_f zinp_f zmd_1 zmd_2 zmi_f) ∧ v_ = none ∧ w_ = [(w, .inr (9, [.ref ps, .ref md, .int (nI zw_2), .int (nI zw_3), .int (nI zw_4), .int zw_5, .int zw_6, .int zw_7, .int zw_8, .int zw_9, .int zw_10, .int zw_11])), (ps, .inr (6, [.ref p, .ref we, .ref inp, .ref ba, .ref gu, .int zps_5, .int ps_6, .int ps_7])), (we, .inl (E.2.2.1 0, 16, .inl zwe_f)), (inp, .inl (E.2.2.1 0, 128, .inl zinp_f)), (md, .inr (5, [.ref mi, .long zmd_1, .long zmd_2])), (mi, .inl (E.2.2.1 3, 6, .inr (.inl zmi_f)))]) := hr
  have e_ := fun (β : Type) (k_ : Nat → Nat → Nat → Int32 → Int32 → Int32 → Int32 → Int32 → Int32 → Int32 → Int32 → (Nat → Int32) → (Nat → Int32) → Int64 → Int64 → (Nat → Int64) → β) => fn_wk_X9_begin_s (β := β) (k_ := k_) (nf := nf) (we_f := we_f) (inp_f := inp_f) (mi_f := mi_f) (fl := fl) (si := si) (er := er)
  show G E X 5 [(w, .inr (9, [.ref ps, .ref md, .int (nI w_2), .int (nI w_3), .int (nI w_4), .int w_5, .int w_6, .int w_7, .int w_8, .int w_9, .int w_10, .int w_11])), (ps, .inr (6, [.ref p, .ref we, .ref inp, .ref ba, .ref gu, .int ps_5, .int ps_6, .int ps_7])), (we, .inl (E.2.2.1 0, 16, .inl we_f)), (inp, .inl (E.2.2.1 0, 128, .inl inp_f)), (md, .inr (5, [.ref mi, .long md_1, .long md_2])), (mi, .inl (E.2.2.1 3, 6, .inr (.inl mi_f)))] 0 0 [(0, .ref w), (1, .int fl), (2, .int si), (3, .int (nI nf)), (4, .int er)] 0 []
  refine g_aload_n B dX9_begin_0 rfl 0 rfl ?_
  refine g_iload_n B dX9_begin_1 rfl 1 rfl ?_
  refine g_put (ws' := [(w, .inr (9, [.ref ps, .ref md, .int (nI w_2), .int (nI w_3), .int (nI w_4), .int fl, .int w_6, .int w_7, .int w_8, .int w_9, .int w_10, .int w_11])), (ps, .inr (6, [.ref p, .ref we, .ref inp, .ref ba, .ref gu, .int ps_5, .int ps_6, .int ps_7])), (we, .inl (E.2.2.1 0, 16, .inl we_f)), (inp, .inl (E.2.2.1 0, 128, .inl inp_f)), (md, .inr (5, [.ref mi, .long md_1, .long md_2])), (mi, .inl (E.2.2.1 3, 6, .inr (.inl mi_f)))]) B 0 5 fl_X9_25 pf_X9_5 rfl (Nat.le_of_ble_eq_true rfl) rfl rfl rfl dX9_begin_2 ?_
  refine g_aload_n B dX9_begin_5 rfl 0 rfl ?_
  refine g_iload_n B dX9_begin_6 rfl 2 rfl ?_
  refine g_put (ws' := [(w, .inr (9, [.ref ps, .ref md, .int (nI w_2), .int (nI w_3), .int (nI w_4), .int fl, .int si, .int w_7, .int w_8, .int w_9, .int w_10, .int w_11])), (ps, .inr (6, [.ref p, .ref we, .ref inp, .ref ba, .ref gu, .int ps_5, .int ps_6, .int ps_7])), (we, .inl (E.2.2.1 0, 16, .inl we_f)), (inp, .inl (E.2.2.1 0, 128, .inl inp_f)), (md, .inr (5, [.ref mi, .long md_1, .long md_2])), (mi, .inl (E.2.2.1 3, 6, .inr (.inl mi_f)))]) B 0 6 fl_X9_29 pf_X9_6 rfl (Nat.le_of_ble_eq_true rfl) rfl rfl rfl dX9_begin_7 ?_
  refine g_aload_n B dX9_begin_10 rfl 0 rfl ?_
  refine g_iload_n B dX9_begin_11 rfl 3 rfl ?_
  refine g_put (ws' := [(w, .inr (9, [.ref ps, .ref md, .int (nI w_2), .int (nI w_3), .int (nI nf), .int fl, .int si, .int w_7, .int w_8, .int w_9, .int w_10, .int w_11])), (ps, .inr (6, [.ref p, .ref we, .ref inp, .ref ba, .ref gu, .int ps_5, .int ps_6, .int ps_7])), (we, .inl (E.2.2.1 0, 16, .inl we_f)), (inp, .inl (E.2.2.1 0, 128, .inl inp_f)), (md, .inr (5, [.ref mi, .long md_1, .long md_2])), (mi, .inl (E.2.2.1 3, 6, .inr (.inl mi_f)))]) B 0 4 fl_X9_32 pf_X9_4 rfl (Nat.le_of_ble_eq_true rfl) rfl rfl rfl dX9_begin_12 ?_
  refine g_aload_n B dX9_begin_15 rfl 0 rfl ?_
  refine g_iload B dX9_begin_16 4 rfl ?_
  refine g_put (ws' := [(w, .inr (9, [.ref ps, .ref md, .int (nI w_2), .int (nI w_3), .int (nI nf), .int fl, .int si, .int er, .int w_8, .int w_9, .int w_10, .int w_11])), (ps, .inr (6, [.ref p, .ref we, .ref inp, .ref ba, .ref gu, .int ps_5, .int ps_6, .int ps_7])), (we, .inl (E.2.2.1 0, 16, .inl we_f)), (inp, .inl (E.2.2.1 0, 128, .inl inp_f)), (md, .inr (5, [.ref mi, .long md_1, .long md_2])), (mi, .inl (E.2.2.1 3, 6, .inr (.inl mi_f)))]) B 0 7 fl_X9_35 pf_X9_7 rfl (Nat.le_of_ble_eq_true rfl) rfl rfl rfl dX9_begin_18 ?_
  refine g_aload_n B dX9_begin_21 rfl 0 rfl ?_
  refine g_aload_n B dX9_begin_22 rfl 0 rfl ?_
  refine g_get B 0 5 fl_X9_25 rfl rfl dX9_begin_23 ?_
  refine g_iconst (v := 1) B dX9_begin_26 (by decide) ?_
  refine g_iand B dX9_begin_27 ?_
  refine g_if_eq (tgt := 35) B dX9_begin_28 (by decide) (fun c28_376 => ?_) (fun c28_376 => ?_)
  · replace e_ := fun β k_ => (e_ β k_).trans (if_pos c28_376)
    refine g_iconst (v := 1) B dX9_begin_35 (by decide) ?_
    refine g_put (ws' := [(w, .inr (9, [.ref ps, .ref md, .int 1, .int (nI w_3), .int (nI nf), .int fl, .int si, .int er, .int w_8, .int w_9, .int w_10, .int w_11])), (ps, .inr (6, [.ref p, .ref we, .ref inp, .ref ba, .ref gu, .int ps_5, .int ps_6, .int ps_7])), (we, .inl (E.2.2.1 0, 16, .inl we_f)), (inp, .inl (E.2.2.1 0, 128, .inl inp_f)), (md, .inr (5, [.ref mi, .long md_1, .long md_2])), (mi, .inl (E.2.2.1 3, 6, .inr (.inl mi_f)))]) B 0 2 fl_X9_38 pf_X9_2 rfl (Nat.le_of_ble_eq_true rfl) rfl rfl rfl dX9_begin_36 ?_
    refine g_aload_n B dX9_begin_39 rfl 0 rfl ?_
    refine g_aload_n B dX9_begin_40 rfl 0 rfl ?_
    refine g_get B 0 2 fl_X9_38 rfl rfl dX9_begin_41 ?_
    refine g_iconst (v := 2) B dX9_begin_44 (by decide) ?_
    refine g_icmp_ne (tgt := 61) B dX9_begin_45 (by decide) (fun c45 => ?_) (fun h => absurd h (by decide))
    refine g_iconst (v := 1) B dX9_begin_61 (by decide) ?_
    refine g_put (ws' := [(w, .inr (9, [.ref ps, .ref md, .int 1, .int 1, .int (nI nf), .int fl, .int si, .int er, .int w_8, .int w_9, .int w_10, .int w_11])), (ps, .inr (6, [.ref p, .ref we, .ref inp, .ref ba, .ref gu, .int ps_5, .int ps_6, .int ps_7])), (we, .inl (E.2.2.1 0, 16, .inl we_f)), (inp, .inl (E.2.2.1 0, 128, .inl inp_f)), (md, .inr (5, [.ref mi, .long md_1, .long md_2])), (mi, .inl (E.2.2.1 3, 6, .inr (.inl mi_f)))]) B 0 3 fl_X9_41 pf_X9_3 rfl (Nat.le_of_ble_eq_true rfl) rfl rfl rfl dX9_begin_62 ?_
    refine g_aload_n B dX9_begin_65 rfl 0 rfl ?_
    refine g_iconst (v := 0) B dX9_begin_66 (by decide) ?_
    refine g_put (ws' := [(w, .inr (9, [.ref ps, .ref md, .int 1, .int 1, .int (nI nf), .int fl, .int si, .int er, .int 0, .int w_9, .int w_10, .int w_11])), (ps, .inr (6, [.ref p, .ref we, .ref inp, .ref ba, .ref gu, .int ps_5, .int ps_6, .int ps_7])), (we, .inl (E.2.2.1 0, 16, .inl we_f)), (inp, .inl (E.2.2.1 0, 128, .inl inp_f)), (md, .inr (5, [.ref mi, .long md_1, .long md_2])), (mi, .inl (E.2.2.1 3, 6, .inr (.inl mi_f)))]) B 0 8 fl_X9_44 pf_X9_8 rfl (Nat.le_of_ble_eq_true rfl) rfl rfl rfl dX9_begin_67 ?_
    refine g_aload_n B dX9_begin_70 rfl 0 rfl ?_
    refine g_iconst (v := 0) B dX9_begin_71 (by decide) ?_
    refine g_put (ws' := [(w, .inr (9, [.ref ps, .ref md, .int 1, .int 1, .int (nI nf), .int fl, .int si, .int er, .int 0, .int 0, .int w_10, .int w_11])), (ps, .inr (6, [.ref p, .ref we, .ref inp, .ref ba, .ref gu, .int ps_5, .int ps_6, .int ps_7])), (we, .inl (E.2.2.1 0, 16, .inl we_f)), (inp, .inl (E.2.2.1 0, 128, .inl inp_f)), (md, .inr (5, [.ref mi, .long md_1, .long md_2])), (mi, .inl (E.2.2.1 3, 6, .inr (.inl mi_f)))]) B 0 9 fl_X9_47 pf_X9_9 rfl (Nat.le_of_ble_eq_true rfl) rfl rfl rfl dX9_begin_72 ?_
    refine g_aload_n B dX9_begin_75 rfl 0 rfl ?_
    refine g_iconst (v := 0) B dX9_begin_76 (by decide) ?_
    refine g_put (ws' := [(w, .inr (9, [.ref ps, .ref md, .int 1, .int 1, .int (nI nf), .int fl, .int si, .int er, .int 0, .int 0, .int 0, .int w_11])), (ps, .inr (6, [.ref p, .ref we, .ref inp, .ref ba, .ref gu, .int ps_5, .int ps_6, .int ps_7])), (we, .inl (E.2.2.1 0, 16, .inl we_f)), (inp, .inl (E.2.2.1 0, 128, .inl inp_f)), (md, .inr (5, [.ref mi, .long md_1, .long md_2])), (mi, .inl (E.2.2.1 3, 6, .inr (.inl mi_f)))]) B 0 10 fl_X9_50 pf_X9_10 rfl (Nat.le_of_ble_eq_true rfl) rfl rfl rfl dX9_begin_77 ?_
    refine g_aload_n B dX9_begin_80 rfl 0 rfl ?_
    refine g_iconst (v := 0) B dX9_begin_81 (by decide) ?_
    refine g_put (ws' := [(w, .inr (9, [.ref ps, .ref md, .int 1, .int 1, .int (nI nf), .int fl, .int si, .int er, .int 0, .int 0, .int 0, .int 0])), (ps, .inr (6, [.ref p, .ref we, .ref inp, .ref ba, .ref gu, .int ps_5, .int ps_6, .int ps_7])), (we, .inl (E.2.2.1 0, 16, .inl we_f)), (inp, .inl (E.2.2.1 0, 128, .inl inp_f)), (md, .inr (5, [.ref mi, .long md_1, .long md_2])), (mi, .inl (E.2.2.1 3, 6, .inr (.inl mi_f)))]) B 0 11 fl_X9_53 pf_X9_11 rfl (Nat.le_of_ble_eq_true rfl) rfl rfl rfl dX9_begin_82 ?_
    refine g_aload_n B dX9_begin_85 rfl 0 rfl ?_
    refine g_get B 0 0 fl_X9_12 rfl rfl dX9_begin_86 ?_
    refine g_aload_n B dX9_begin_89 rfl 0 rfl ?_
    refine g_get B 0 3 fl_X9_41 rfl rfl dX9_begin_90 ?_
    refine g_callV (st := []) (As := [.int 1]) (wr := [(w, .inr (9, [.ref ps, .ref md, .int 1, .int 1, .int (nI nf), .int fl, .int si, .int er, .int 0, .int 0, .int 0, .int 0])), (md, .inr (5, [.ref mi, .long md_1, .long md_2])), (mi, .inl (E.2.2.1 3, 6, .inr (.inl mi_f)))]) (nc' := 0) (ns' := 0) B cl_X9_56 w_im_X6_begin w_se_X6_begin (wk_X6_begin E ps p we inp ba gu ps_6 ps_7 ps_5 we_f inp_f 1 ) rfl [1, 2, 3] [0, 4, 5] rfl rfl (by decide) (by decide) (by decide) 0 rfl (fun q h => by cases h; rfl) rfl ⟨by decide, by decide⟩ rfl rfl (by decide) (by decide) rfl (Nat.le_of_ble_eq_true rfl) dX9_begin_93 (fun v w hq => ?_)
    obtain ⟨zps_5_377, zwe_f_378, zinp_f_379, hz_380, rfl, rfl⟩ := hq
    replace e_ := fun β k_ => (e_ β k_).trans (hz_380 β _)
    show G E X 5 [(w, .inr (9, [.ref ps, .ref md, .int 1, .int 1, .int (nI nf), .int fl, .int si, .int er, .int 0, .int 0, .int 0, .int 0])), (md, .inr (5, [.ref mi, .long md_1, .long md_2])), (mi, .inl (E.2.2.1 3, 6, .inr (.inl mi_f))), (ps, .inr (6, [.ref p, .ref we, .ref inp, .ref ba, .ref gu, .int zps_5_377, .int ps_6, .int ps_7])), (we, .inl (E.2.2.1 0, 16, .inl zwe_f_378)), (inp, .inl (E.2.2.1 0, 128, .inl zinp_f_379))] 0 0 [(0, .ref w), (1, .int fl), (2, .int si), (3, .int (nI nf)), (4, .int er)] 96 []
    refine g_aload_n B dX9_begin_96 rfl 0 rfl ?_
    refine g_get B 0 1 fl_X9_21 rfl rfl dX9_begin_97 ?_
    refine g_callV (st := []) (As := []) (wr := [(w, .inr (9, [.ref ps, .ref md, .int 1, .int 1, .int (nI nf), .int fl, .int si, .int er, .int 0, .int 0, .int 0, .int 0])), (ps, .inr (6, [.ref p, .ref we, .ref inp, .ref ba, .ref gu, .int zps_5_377, .int ps_6, .int ps_7])), (we, .inl (E.2.2.1 0, 16, .inl zwe_f_378)), (inp, .inl (E.2.2.1 0, 128, .inl zinp_f_379))]) (nc' := 0) (ns' := 0) B cl_X9_60 w_im_X5_begin w_se_X5_begin (wk_X5_begin E md mi md_1 md_2 mi_f ) rfl [1, 2] [0, 3, 4, 5] rfl rfl (by decide) (by decide) (by decide) 0 rfl (fun q h => by cases h; rfl) rfl ⟨by decide, by decide⟩ rfl rfl (by decide) (by decide) rfl (Nat.le_of_ble_eq_true rfl) dX9_begin_100 (fun v w hq => ?_)
    obtain ⟨zmd_1_381, zmd_2_382, zmi_f_383, hz_384, rfl, rfl⟩ := hq
    replace e_ := fun β k_ => (e_ β k_).trans (hz_384 β _)
    show G E X 5 [(w, .inr (9, [.ref ps, .ref md, .int 1, .int 1, .int (nI nf), .int fl, .int si, .int er, .int 0, .int 0, .int 0, .int 0])), (ps, .inr (6, [.ref p, .ref we, .ref inp, .ref ba, .ref gu, .int zps_5_377, .int ps_6, .int ps_7])), (we, .inl (E.2.2.1 0, 16, .inl zwe_f_378)), (inp, .inl (E.2.2.1 0, 128, .inl zinp_f_379)), (md, .inr (5, [.ref mi, .long zmd_1_381, .long zmd_2_382])), (mi, .inl (E.2.2.1 3, 6, .inr (.inl zmi_f_383)))] 0 0 [(0, .ref w), (1, .int fl), (2, .int si), (3, .int (nI nf)), (4, .int er)] 103 []
    exact g_vret B hr dX9_begin_103 (by decide) (by decide) ⟨1, 1, nf, fl, si, er, 0, 0, 0, 0, zps_5_377, zwe_f_378, zinp_f_379, zmd_1_381, zmd_2_382, zmi_f_383, (by first | assumption | omega | decide), (by first | assumption | omega | decide), (by first | assumption | omega | decide), e_, rfl, rfl⟩
  · replace e_ := fun β k_ => (e_ β k_).trans (if_neg c28_376)
    refine g_iconst (v := 2) B dX9_begin_31 (by decide) ?_
    refine g_goto (tgt := 36) B dX9_begin_32 (by decide) ?_
    refine g_put (ws' := [(w, .inr (9, [.ref ps, .ref md, .int 2, .int (nI w_3), .int (nI nf), .int fl, .int si, .int er, .int w_8, .int w_9, .int w_10, .int w_11])), (ps, .inr (6, [.ref p, .ref we, .ref inp, .ref ba, .ref gu, .int ps_5, .int ps_6, .int ps_7])), (we, .inl (E.2.2.1 0, 16, .inl we_f)), (inp, .inl (E.2.2.1 0, 128, .inl inp_f)), (md, .inr (5, [.ref mi, .long md_1, .long md_2])), (mi, .inl (E.2.2.1 3, 6, .inr (.inl mi_f)))]) B 0 2 fl_X9_38 pf_X9_2 rfl (Nat.le_of_ble_eq_true rfl) rfl rfl rfl dX9_begin_36 ?_
    refine g_aload_n B dX9_begin_39 rfl 0 rfl ?_
    refine g_aload_n B dX9_begin_40 rfl 0 rfl ?_
    refine g_get B 0 2 fl_X9_38 rfl rfl dX9_begin_41 ?_
    refine g_iconst (v := 2) B dX9_begin_44 (by decide) ?_
    refine g_icmp_ne (tgt := 61) B dX9_begin_45 (by decide) (fun h => absurd (by decide) h) (fun c45 => ?_)
    refine g_aload_n B dX9_begin_48 rfl 0 rfl ?_
    refine g_get B 0 5 fl_X9_25 rfl rfl dX9_begin_49 ?_
    refine g_iconst (v := 2) B dX9_begin_52 (by decide) ?_
    refine g_iand B dX9_begin_53 ?_
    refine g_if_ne (tgt := 61) B dX9_begin_54 (by decide) (fun c54_385 => ?_) (fun c54_385 => ?_)
    · replace e_ := fun β k_ => (e_ β k_).trans (if_neg c54_385)
      refine g_iconst (v := 1) B dX9_begin_61 (by decide) ?_
      refine g_put (ws' := [(w, .inr (9, [.ref ps, .ref md, .int 2, .int 1, .int (nI nf), .int fl, .int si, .int er, .int w_8, .int w_9, .int w_10, .int w_11])), (ps, .inr (6, [.ref p, .ref we, .ref inp, .ref ba, .ref gu, .int ps_5, .int ps_6, .int ps_7])), (we, .inl (E.2.2.1 0, 16, .inl we_f)), (inp, .inl (E.2.2.1 0, 128, .inl inp_f)), (md, .inr (5, [.ref mi, .long md_1, .long md_2])), (mi, .inl (E.2.2.1 3, 6, .inr (.inl mi_f)))]) B 0 3 fl_X9_41 pf_X9_3 rfl (Nat.le_of_ble_eq_true rfl) rfl rfl rfl dX9_begin_62 ?_
      refine g_aload_n B dX9_begin_65 rfl 0 rfl ?_
      refine g_iconst (v := 0) B dX9_begin_66 (by decide) ?_
      refine g_put (ws' := [(w, .inr (9, [.ref ps, .ref md, .int 2, .int 1, .int (nI nf), .int fl, .int si, .int er, .int 0, .int w_9, .int w_10, .int w_11])), (ps, .inr (6, [.ref p, .ref we, .ref inp, .ref ba, .ref gu, .int ps_5, .int ps_6, .int ps_7])), (we, .inl (E.2.2.1 0, 16, .inl we_f)), (inp, .inl (E.2.2.1 0, 128, .inl inp_f)), (md, .inr (5, [.ref mi, .long md_1, .long md_2])), (mi, .inl (E.2.2.1 3, 6, .inr (.inl mi_f)))]) B 0 8 fl_X9_44 pf_X9_8 rfl (Nat.le_of_ble_eq_true rfl) rfl rfl rfl dX9_begin_67 ?_
      refine g_aload_n B dX9_begin_70 rfl 0 rfl ?_
      refine g_iconst (v := 0) B dX9_begin_71 (by decide) ?_
      refine g_put (ws' := [(w, .inr (9, [.ref ps, .ref md, .int 2, .int 1, .int (nI nf), .int fl, .int si, .int er, .int 0, .int 0, .int w_10, .int w_11])), (ps, .inr (6, [.ref p, .ref we, .ref inp, .ref ba, .ref gu, .int ps_5, .int ps_6, .int ps_7])), (we, .inl (E.2.2.1 0, 16, .inl we_f)), (inp, .inl (E.2.2.1 0, 128, .inl inp_f)), (md, .inr (5, [.ref mi, .long md_1, .long md_2])), (mi, .inl (E.2.2.1 3, 6, .inr (.inl mi_f)))]) B 0 9 fl_X9_47 pf_X9_9 rfl (Nat.le_of_ble_eq_true rfl) rfl rfl rfl dX9_begin_72 ?_
      refine g_aload_n B dX9_begin_75 rfl 0 rfl ?_
      refine g_iconst (v := 0) B dX9_begin_76 (by decide) ?_
      refine g_put (ws' := [(w, .inr (9, [.ref ps, .ref md, .int 2, .int 1, .int (nI nf), .int fl, .int si, .int er, .int 0, .int 0, .int 0, .int w_11])), (ps, .inr (6, [.ref p, .ref we, .ref inp, .ref ba, .ref gu, .int ps_5, .int ps_6, .int ps_7])), (we, .inl (E.2.2.1 0, 16, .inl we_f)), (inp, .inl (E.2.2.1 0, 128, .inl inp_f)), (md, .inr (5, [.ref mi, .long md_1, .long md_2])), (mi, .inl (E.2.2.1 3, 6, .inr (.inl mi_f)))]) B 0 10 fl_X9_50 pf_X9_10 rfl (Nat.le_of_ble_eq_true rfl) rfl rfl rfl dX9_begin_77 ?_
      refine g_aload_n B dX9_begin_80 rfl 0 rfl ?_
      refine g_iconst (v := 0) B dX9_begin_81 (by decide) ?_
      refine g_put (ws' := [(w, .inr (9, [.ref ps, .ref md, .int 2, .int 1, .int (nI nf), .int fl, .int si, .int er, .int 0, .int 0, .int 0, .int 0])), (ps, .inr (6, [.ref p, .ref we, .ref inp, .ref ba, .ref gu, .int ps_5, .int ps_6, .int ps_7])), (we, .inl (E.2.2.1 0, 16, .inl we_f)), (inp, .inl (E.2.2.1 0, 128, .inl inp_f)), (md, .inr (5, [.ref mi, .long md_1, .long md_2])), (mi, .inl (E.2.2.1 3, 6, .inr (.inl mi_f)))]) B 0 11 fl_X9_53 pf_X9_11 rfl (Nat.le_of_ble_eq_true rfl) rfl rfl rfl dX9_begin_82 ?_
      refine g_aload_n B dX9_begin_85 rfl 0 rfl ?_
      refine g_get B 0 0 fl_X9_12 rfl rfl dX9_begin_86 ?_
      refine g_aload_n B dX9_begin_89 rfl 0 rfl ?_
      refine g_get B 0 3 fl_X9_41 rfl rfl dX9_begin_90 ?_
      refine g_callV (st := []) (As := [.int 1]) (wr := [(w, .inr (9, [.ref ps, .ref md, .int 2, .int 1, .int (nI nf), .int fl, .int si, .int er, .int 0, .int 0, .int 0, .int 0])), (md, .inr (5, [.ref mi, .long md_1, .long md_2])), (mi, .inl (E.2.2.1 3, 6, .inr (.inl mi_f)))]) (nc' := 0) (ns' := 0) B cl_X9_56 w_im_X6_begin w_se_X6_begin (wk_X6_begin E ps p we inp ba gu ps_6 ps_7 ps_5 we_f inp_f 1 ) rfl [1, 2, 3] [0, 4, 5] rfl rfl (by decide) (by decide) (by decide) 0 rfl (fun q h => by cases h; rfl) rfl ⟨by decide, by decide⟩ rfl rfl (by decide) (by decide) rfl (Nat.le_of_ble_eq_true rfl) dX9_begin_93 (fun v w hq => ?_)
      obtain ⟨zps_5_386, zwe_f_387, zinp_f_388, hz_389, rfl, rfl⟩ := hq
      replace e_ := fun β k_ => (e_ β k_).trans (hz_389 β _)
      show G E X 5 [(w, .inr (9, [.ref ps, .ref md, .int 2, .int 1, .int (nI nf), .int fl, .int si, .int er, .int 0, .int 0, .int 0, .int 0])), (md, .inr (5, [.ref mi, .long md_1, .long md_2])), (mi, .inl (E.2.2.1 3, 6, .inr (.inl mi_f))), (ps, .inr (6, [.ref p, .ref we, .ref inp, .ref ba, .ref gu, .int zps_5_386, .int ps_6, .int ps_7])), (we, .inl (E.2.2.1 0, 16, .inl zwe_f_387)), (inp, .inl (E.2.2.1 0, 128, .inl zinp_f_388))] 0 0 [(0, .ref w), (1, .int fl), (2, .int si), (3, .int (nI nf)), (4, .int er)] 96 []
      refine g_aload_n B dX9_begin_96 rfl 0 rfl ?_
      refine g_get B 0 1 fl_X9_21 rfl rfl dX9_begin_97 ?_
      refine g_callV (st := []) (As := []) (wr := [(w, .inr (9, [.ref ps, .ref md, .int 2, .int 1, .int (nI nf), .int fl, .int si, .int er, .int 0, .int 0, .int 0, .int 0])), (ps, .inr (6, [.ref p, .ref we, .ref inp, .ref ba, .ref gu, .int zps_5_386, .int ps_6, .int ps_7])), (we, .inl (E.2.2.1 0, 16, .inl zwe_f_387)), (inp, .inl (E.2.2.1 0, 128, .inl zinp_f_388))]) (nc' := 0) (ns' := 0) B cl_X9_60 w_im_X5_begin w_se_X5_begin (wk_X5_begin E md mi md_1 md_2 mi_f ) rfl [1, 2] [0, 3, 4, 5] rfl rfl (by decide) (by decide) (by decide) 0 rfl (fun q h => by cases h; rfl) rfl ⟨by decide, by decide⟩ rfl rfl (by decide) (by decide) rfl (Nat.le_of_ble_eq_true rfl) dX9_begin_100 (fun v w hq => ?_)
      obtain ⟨zmd_1_390, zmd_2_391, zmi_f_392, hz_393, rfl, rfl⟩ := hq
      replace e_ := fun β k_ => (e_ β k_).trans (hz_393 β _)
      show G E X 5 [(w, .inr (9, [.ref ps, .ref md, .int 2, .int 1, .int (nI nf), .int fl, .int si, .int er, .int 0, .int 0, .int 0, .int 0])), (ps, .inr (6, [.ref p, .ref we, .ref inp, .ref ba, .ref gu, .int zps_5_386, .int ps_6, .int ps_7])), (we, .inl (E.2.2.1 0, 16, .inl zwe_f_387)), (inp, .inl (E.2.2.1 0, 128, .inl zinp_f_388)), (md, .inr (5, [.ref mi, .long zmd_1_390, .long zmd_2_391])), (mi, .inl (E.2.2.1 3, 6, .inr (.inl zmi_f_392)))] 0 0 [(0, .ref w), (1, .int fl), (2, .int si), (3, .int (nI nf)), (4, .int er)] 103 []
      exact g_vret B hr dX9_begin_103 (by decide) (by decide) ⟨2, 1, nf, fl, si, er, 0, 0, 0, 0, zps_5_386, zwe_f_387, zinp_f_388, zmd_1_390, zmd_2_391, zmi_f_392, (by first | assumption | omega | decide), (by first | assumption | omega | decide), (by first | assumption | omega | decide), e_, rfl, rfl⟩
    · replace e_ := fun β k_ => (e_ β k_).trans (if_pos c54_385)
      refine g_iconst (v := 2) B dX9_begin_57 (by decide) ?_
      refine g_goto (tgt := 62) B dX9_begin_58 (by decide) ?_
      refine g_put (ws' := [(w, .inr (9, [.ref ps, .ref md, .int 2, .int 2, .int (nI nf), .int fl, .int si, .int er, .int w_8, .int w_9, .int w_10, .int w_11])), (ps, .inr (6, [.ref p, .ref we, .ref inp, .ref ba, .ref gu, .int ps_5, .int ps_6, .int ps_7])), (we, .inl (E.2.2.1 0, 16, .inl we_f)), (inp, .inl (E.2.2.1 0, 128, .inl inp_f)), (md, .inr (5, [.ref mi, .long md_1, .long md_2])), (mi, .inl (E.2.2.1 3, 6, .inr (.inl mi_f)))]) B 0 3 fl_X9_41 pf_X9_3 rfl (Nat.le_of_ble_eq_true rfl) rfl rfl rfl dX9_begin_62 ?_
      refine g_aload_n B dX9_begin_65 rfl 0 rfl ?_
      refine g_iconst (v := 0) B dX9_begin_66 (by decide) ?_
      refine g_put (ws' := [(w, .inr (9, [.ref ps, .ref md, .int 2, .int 2, .int (nI nf), .int fl, .int si, .int er, .int 0, .int w_9, .int w_10, .int w_11])), (ps, .inr (6, [.ref p, .ref we, .ref inp, .ref ba, .ref gu, .int ps_5, .int ps_6, .int ps_7])), (we, .inl (E.2.2.1 0, 16, .inl we_f)), (inp, .inl (E.2.2.1 0, 128, .inl inp_f)), (md, .inr (5, [.ref mi, .long md_1, .long md_2])), (mi, .inl (E.2.2.1 3, 6, .inr (.inl mi_f)))]) B 0 8 fl_X9_44 pf_X9_8 rfl (Nat.le_of_ble_eq_true rfl) rfl rfl rfl dX9_begin_67 ?_
      refine g_aload_n B dX9_begin_70 rfl 0 rfl ?_
      refine g_iconst (v := 0) B dX9_begin_71 (by decide) ?_
      refine g_put (ws' := [(w, .inr (9, [.ref ps, .ref md, .int 2, .int 2, .int (nI nf), .int fl, .int si, .int er, .int 0, .int 0, .int w_10, .int w_11])), (ps, .inr (6, [.ref p, .ref we, .ref inp, .ref ba, .ref gu, .int ps_5, .int ps_6, .int ps_7])), (we, .inl (E.2.2.1 0, 16, .inl we_f)), (inp, .inl (E.2.2.1 0, 128, .inl inp_f)), (md, .inr (5, [.ref mi, .long md_1, .long md_2])), (mi, .inl (E.2.2.1 3, 6, .inr (.inl mi_f)))]) B 0 9 fl_X9_47 pf_X9_9 rfl (Nat.le_of_ble_eq_true rfl) rfl rfl rfl dX9_begin_72 ?_
      refine g_aload_n B dX9_begin_75 rfl 0 rfl ?_
      refine g_iconst (v := 0) B dX9_begin_76 (by decide) ?_
      refine g_put (ws' := [(w, .inr (9, [.ref ps, .ref md, .int 2, .int 2, .int (nI nf), .int fl, .int si, .int er, .int 0, .int 0, .int 0, .int w_11])), (ps, .inr (6, [.ref p, .ref we, .ref inp, .ref ba, .ref gu, .int ps_5, .int ps_6, .int ps_7])), (we, .inl (E.2.2.1 0, 16, .inl we_f)), (inp, .inl (E.2.2.1 0, 128, .inl inp_f)), (md, .inr (5, [.ref mi, .long md_1, .long md_2])), (mi, .inl (E.2.2.1 3, 6, .inr (.inl mi_f)))]) B 0 10 fl_X9_50 pf_X9_10 rfl (Nat.le_of_ble_eq_true rfl) rfl rfl rfl dX9_begin_77 ?_
      refine g_aload_n B dX9_begin_80 rfl 0 rfl ?_
      refine g_iconst (v := 0) B dX9_begin_81 (by decide) ?_
      refine g_put (ws' := [(w, .inr (9, [.ref ps, .ref md, .int 2, .int 2, .int (nI nf), .int fl, .int si, .int er, .int 0, .int 0, .int 0, .int 0])), (ps, .inr (6, [.ref p, .ref we, .ref inp, .ref ba, .ref gu, .int ps_5, .int ps_6, .int ps_7])), (we, .inl (E.2.2.1 0, 16, .inl we_f)), (inp, .inl (E.2.2.1 0, 128, .inl inp_f)), (md, .inr (5, [.ref mi, .long md_1, .long md_2])), (mi, .inl (E.2.2.1 3, 6, .inr (.inl mi_f)))]) B 0 11 fl_X9_53 pf_X9_11 rfl (Nat.le_of_ble_eq_true rfl) rfl rfl rfl dX9_begin_82 ?_
      refine g_aload_n B dX9_begin_85 rfl 0 rfl ?_
      refine g_get B 0 0 fl_X9_12 rfl rfl dX9_begin_86 ?_
      refine g_aload_n B dX9_begin_89 rfl 0 rfl ?_
      refine g_get B 0 3 fl_X9_41 rfl rfl dX9_begin_90 ?_
      refine g_callV (st := []) (As := [.int 2]) (wr := [(w, .inr (9, [.ref ps, .ref md, .int 2, .int 2, .int (nI nf), .int fl, .int si, .int er, .int 0, .int 0, .int 0, .int 0])), (md, .inr (5, [.ref mi, .long md_1, .long md_2])), (mi, .inl (E.2.2.1 3, 6, .inr (.inl mi_f)))]) (nc' := 0) (ns' := 0) B cl_X9_56 w_im_X6_begin w_se_X6_begin (wk_X6_begin E ps p we inp ba gu ps_6 ps_7 ps_5 we_f inp_f 2 ) rfl [1, 2, 3] [0, 4, 5] rfl rfl (by decide) (by decide) (by decide) 0 rfl (fun q h => by cases h; rfl) rfl ⟨by decide, by decide⟩ rfl rfl (by decide) (by decide) rfl (Nat.le_of_ble_eq_true rfl) dX9_begin_93 (fun v w hq => ?_)
      obtain ⟨zps_5_394, zwe_f_395, zinp_f_396, hz_397, rfl, rfl⟩ := hq
      replace e_ := fun β k_ => (e_ β k_).trans (hz_397 β _)
      show G E X 5 [(w, .inr (9, [.ref ps, .ref md, .int 2, .int 2, .int (nI nf), .int fl, .int si, .int er, .int 0, .int 0, .int 0, .int 0])), (md, .inr (5, [.ref mi, .long md_1, .long md_2])), (mi, .inl (E.2.2.1 3, 6, .inr (.inl mi_f))), (ps, .inr (6, [.ref p, .ref we, .ref inp, .ref ba, .ref gu, .int zps_5_394, .int ps_6, .int ps_7])), (we, .inl (E.2.2.1 0, 16, .inl zwe_f_395)), (inp, .inl (E.2.2.1 0, 128, .inl zinp_f_396))] 0 0 [(0, .ref w), (1, .int fl), (2, .int si), (3, .int (nI nf)), (4, .int er)] 96 []
      refine g_aload_n B dX9_begin_96 rfl 0 rfl ?_
      refine g_get B 0 1 fl_X9_21 rfl rfl dX9_begin_97 ?_
      refine g_callV (st := []) (As := []) (wr := [(w, .inr (9, [.ref ps, .ref md, .int 2, .int 2, .int (nI nf), .int fl, .int si, .int er, .int 0, .int 0, .int 0, .int 0])), (ps, .inr (6, [.ref p, .ref we, .ref inp, .ref ba, .ref gu, .int zps_5_394, .int ps_6, .int ps_7])), (we, .inl (E.2.2.1 0, 16, .inl zwe_f_395)), (inp, .inl (E.2.2.1 0, 128, .inl zinp_f_396))]) (nc' := 0) (ns' := 0) B cl_X9_60 w_im_X5_begin w_se_X5_begin (wk_X5_begin E md mi md_1 md_2 mi_f ) rfl [1, 2] [0, 3, 4, 5] rfl rfl (by decide) (by decide) (by decide) 0 rfl (fun q h => by cases h; rfl) rfl ⟨by decide, by decide⟩ rfl rfl (by decide) (by decide) rfl (Nat.le_of_ble_eq_true rfl) dX9_begin_100 (fun v w hq => ?_)
      obtain ⟨zmd_1_398, zmd_2_399, zmi_f_400, hz_401, rfl, rfl⟩ := hq
      replace e_ := fun β k_ => (e_ β k_).trans (hz_401 β _)
      show G E X 5 [(w, .inr (9, [.ref ps, .ref md, .int 2, .int 2, .int (nI nf), .int fl, .int si, .int er, .int 0, .int 0, .int 0, .int 0])), (ps, .inr (6, [.ref p, .ref we, .ref inp, .ref ba, .ref gu, .int zps_5_394, .int ps_6, .int ps_7])), (we, .inl (E.2.2.1 0, 16, .inl zwe_f_395)), (inp, .inl (E.2.2.1 0, 128, .inl zinp_f_396)), (md, .inr (5, [.ref mi, .long zmd_1_398, .long zmd_2_399])), (mi, .inl (E.2.2.1 3, 6, .inr (.inl zmi_f_400)))] 0 0 [(0, .ref w), (1, .int fl), (2, .int si), (3, .int (nI nf)), (4, .int er)] 103 []
      exact g_vret B hr dX9_begin_103 (by decide) (by decide) ⟨2, 2, nf, fl, si, er, 0, 0, 0, 0, zps_5_394, zwe_f_395, zinp_f_396, zmd_1_398, zmd_2_399, zmi_f_400, (by first | assumption | omega | decide), (by first | assumption | omega | decide), (by first | assumption | omega | decide), e_, rfl, rfl⟩
abbrev MX9_mayBeSilent : g_M := (yX9_mayBeSilent, cX9_mayBeSilent, 1, (some .boolean))
theorem dX9_mayBeSilent_0 : decode cX9_mayBeSilent 0 = .ok (.aload_n 0, 1) := by decide +kernel
theorem dX9_mayBeSilent_1 : decode cX9_mayBeSilent 1 = .ok (.getfield 35, 3) := by decide +kernel
theorem dX9_mayBeSilent_4 : decode cX9_mayBeSilent 4 = .ok (.ifCond .ne 21, 3) := by decide +kernel
theorem dX9_mayBeSilent_25 : decode cX9_mayBeSilent 25 = .ok (.iconst 0, 1) := by decide +kernel
theorem dX9_mayBeSilent_26 : decode cX9_mayBeSilent 26 = .ok (.ireturn, 1) := by decide +kernel
theorem dX9_mayBeSilent_7 : decode cX9_mayBeSilent 7 = .ok (.aload_n 0, 1) := by decide +kernel
theorem dX9_mayBeSilent_8 : decode cX9_mayBeSilent 8 = .ok (.getfield 21, 3) := by decide +kernel
theorem dX9_mayBeSilent_11 : decode cX9_mayBeSilent 11 = .ok (.aload_n 0, 1) := by decide +kernel
theorem dX9_mayBeSilent_12 : decode cX9_mayBeSilent 12 = .ok (.getfield 41, 3) := by decide +kernel
theorem dX9_mayBeSilent_15 : decode cX9_mayBeSilent 15 = .ok (.invokevirtual 62, 3) := by decide +kernel
theorem w_ml_X9_62 : Cond.methodLink RX9 62 yX5_isQuiet ∈ g_tbl := g_tbl_in 554 (by decide +kernel) (by decide +kernel)
theorem w_cd_X5_isQuiet : g_cw MX5_isQuiet ∈ g_tbl := g_tbl_in 557 (by decide +kernel) (by decide +kernel)
theorem cl_X9_62 : CL RX9 62 1 MX5_isQuiet := ⟨w_ml_X9_62, w_cd_X5_isQuiet, w_ini_X5, by decide +kernel, by decide +kernel, by decide +kernel⟩
theorem w_im_X5_isQuiet : Cond.instanceMethod yX5_isQuiet ∈ g_tbl := g_tbl_in 555 (by decide +kernel) (by decide +kernel)
theorem w_se_X5_isQuiet : Cond.selects RX5 yX5_isQuiet yX5_isQuiet ∈ g_tbl := g_tbl_in 556 (by decide +kernel) (by decide +kernel)
theorem dX9_mayBeSilent_18 : decode cX9_mayBeSilent 18 = .ok (.ifCond .eq 7, 3) := by decide +kernel
theorem dX9_mayBeSilent_21 : decode cX9_mayBeSilent 21 = .ok (.iconst 1, 1) := by decide +kernel
theorem dX9_mayBeSilent_22 : decode cX9_mayBeSilent 22 = .ok (.goto 4, 3) := by decide +kernel
set_option maxRecDepth 100000 in
def fn_wk_X9_mayBeSilent (w_3 : Nat) (w_7 : Int32) (mi_f : Nat → Int64) (β : Type) (k_ : Int32 → β) : β := (if w_7 = 0 then (fn_wk_X5_isQuiet mi_f (nI w_3) β (fun zr_403 => (if zr_403 = 0 then (k_ 0) else (k_ 1)))) else (k_ 0))
set_option maxRecDepth 100000 in
theorem fn_wk_X9_mayBeSilent_s {w_3 : Nat} {w_7 : Int32} {mi_f : Nat → Int64} {β : Type} {k_ : Int32 → β} : fn_wk_X9_mayBeSilent w_3 w_7 mi_f β k_ = (if w_7 = 0 then (fn_wk_X5_isQuiet mi_f (nI w_3) β (fun zr_403 => (if zr_403 = 0 then (k_ 0) else (k_ 1)))) else (k_ 0)) := rfl
set_option maxRecDepth 100000 in
set_option maxHeartbeats 4000000 in
theorem wk_X9_mayBeSilent (E : g_E) (w : Nat) (ps : Nat) (md : Nat) (mi : Nat) (w_2 : Nat) (w_3 : Nat) (w_4 : Nat) (w_5 : Int32) (w_6 : Int32) (w_7 : Int32) (w_8 : Int32) (w_9 : Int32) (w_10 : Int32) (w_11 : Int32) (md_1 : Int64) (md_2 : Int64) (mi_f : Nat → Int64) (hk0 : w_2 ≤ 2) (hk1 : w_3 ≤ 2) (hk2 : w_4 ≤ 600) : Ev E MX9_mayBeSilent 2 44 0 0 [.ref w] [(w, .inr (9, [.ref ps, .ref md, .int (nI w_2), .int (nI w_3), .int (nI w_4), .int w_5, .int w_6, .int w_7, .int w_8, .int w_9, .int w_10, .int w_11])), (md, .inr (5, [.ref mi, .long md_1, .long md_2])), (mi, .inl (E.2.2.1 3, 6, .inr (.inl mi_f)))] (fun v_ w_ => ∃ zr : Int32, (zr = 0 ∨ zr = 1) ∧ (∀ (β : Type) (k_ : Int32 → β), fn_wk_X9_mayBeSilent w_3 w_7 mi_f β k_ = k_ zr) ∧ v_ = some (.int zr) ∧ w_ = [(w, .inr (9, [.ref ps, .ref md, .int (nI w_2), .int (nI w_3), .int (nI w_4), .int w_5, .int w_6, .int w_7, .int w_8, .int w_9, .int w_10, .int w_11])), (md, .inr (5, [.ref mi, .long md_1, .long md_2])), (mi, .inl (E.2.2.1 3, 6, .inr (.inl mi_f)))]) := by
  refine Ev.intro (by decide) (Nat.le_of_ble_eq_true rfl) ?_
  intro X B hr hI
  have B : Bd E X cX9_mayBeSilent RX9 1 2 44 0 0 := B
  have hr : Rt E X (some .boolean) 0 0 (fun v_ w_ => ∃ zr : Int32, (zr = 0 ∨ zr = 1) ∧ (∀ (β : Type) (k_ : Int32 → β), fn_wk_X9_mayBeSilent w_3 w_7 mi_f β k_ = k_ zr) ∧ v_ = some (.int zr) ∧ w_ = [(w, .inr (9, [.ref ps, .ref md, .int (nI w_2), .int (nI w_3), .int (nI w_4), .int w_5, .int w_6, .int w_7, .int w_8, .int w_9, .int w_10, .int w_11])), (md, .inr (5, [.ref mi, .long md_1, .long md_2])), (mi, .inl (E.2.2.1 3, 6, .inr (.inl mi_f)))]) := hr
  have e_ := fun (β : Type) (k_ : Int32 → β) => fn_wk_X9_mayBeSilent_s (β := β) (k_ := k_) (w_3 := w_3) (w_7 := w_7) (mi_f := mi_f)
  show G E X 1 [(w, .inr (9, [.ref ps, .ref md, .int (nI w_2), .int (nI w_3), .int (nI w_4), .int w_5, .int w_6, .int w_7, .int w_8, .int w_9, .int w_10, .int w_11])), (md, .inr (5, [.ref mi, .long md_1, .long md_2])), (mi, .inl (E.2.2.1 3, 6, .inr (.inl mi_f)))] 0 0 [(0, .ref w)] 0 []
  refine g_aload_n B dX9_mayBeSilent_0 rfl 0 rfl ?_
  refine g_get B 0 7 fl_X9_35 rfl rfl dX9_mayBeSilent_1 ?_
  refine g_if_ne (tgt := 25) B dX9_mayBeSilent_4 (by decide) (fun c4_402 => ?_) (fun c4_402 => ?_)
  · replace e_ := fun β k_ => (e_ β k_).trans (if_neg c4_402)
    refine g_iconst (v := 0) B dX9_mayBeSilent_25 (by decide) ?_
    exact g_zret B hr (by decide) dX9_mayBeSilent_26 (by decide) (by decide) ⟨0, (Or.inl rfl), e_, rfl, rfl⟩
  · replace e_ := fun β k_ => (e_ β k_).trans (if_pos c4_402)
    refine g_aload_n B dX9_mayBeSilent_7 rfl 0 rfl ?_
    refine g_get B 0 1 fl_X9_21 rfl rfl dX9_mayBeSilent_8 ?_
    refine g_aload_n B dX9_mayBeSilent_11 rfl 0 rfl ?_
    refine g_get B 0 3 fl_X9_41 rfl rfl dX9_mayBeSilent_12 ?_
    refine g_callV (st := []) (As := [.int (nI w_3)]) (wr := [(w, .inr (9, [.ref ps, .ref md, .int (nI w_2), .int (nI w_3), .int (nI w_4), .int w_5, .int w_6, .int w_7, .int w_8, .int w_9, .int w_10, .int w_11]))]) (nc' := 0) (ns' := 0) B cl_X9_62 w_im_X5_isQuiet w_se_X5_isQuiet (wk_X5_isQuiet E md mi md_1 md_2 mi_f (nI w_3) ) rfl [1, 2] [0] rfl rfl (by decide) (by decide) (by decide) 0 rfl (fun q h => by cases h; rfl) rfl ⟨by decide, by decide⟩ rfl rfl (by decide) (by decide) rfl (Nat.le_of_ble_eq_true rfl) dX9_mayBeSilent_15 (fun v w hq => ?_)
    obtain ⟨zr_403, hf_404, hz_405, rfl, rfl⟩ := hq
    replace e_ := fun β k_ => (e_ β k_).trans (hz_405 β _)
    show G E X 1 [(w, .inr (9, [.ref ps, .ref md, .int (nI w_2), .int (nI w_3), .int (nI w_4), .int w_5, .int w_6, .int w_7, .int w_8, .int w_9, .int w_10, .int w_11])), (md, .inr (5, [.ref mi, .long md_1, .long md_2])), (mi, .inl (E.2.2.1 3, 6, .inr (.inl mi_f)))] 0 0 [(0, .ref w)] 18 [.int zr_403]
    refine g_if_eq (tgt := 25) B dX9_mayBeSilent_18 (by decide) (fun c18_406 => ?_) (fun c18_406 => ?_)
    · replace e_ := fun β k_ => (e_ β k_).trans (if_pos c18_406)
      refine g_iconst (v := 0) B dX9_mayBeSilent_25 (by decide) ?_
      exact g_zret B hr (by decide) dX9_mayBeSilent_26 (by decide) (by decide) ⟨0, (Or.inl rfl), e_, rfl, rfl⟩
    · replace e_ := fun β k_ => (e_ β k_).trans (if_neg c18_406)
      refine g_iconst (v := 1) B dX9_mayBeSilent_21 (by decide) ?_
      refine g_goto (tgt := 26) B dX9_mayBeSilent_22 (by decide) ?_
      exact g_zret B hr (by decide) dX9_mayBeSilent_26 (by decide) (by decide) ⟨1, (Or.inr rfl), e_, rfl, rfl⟩
abbrev MX9_noteSilence : g_M := (yX9_noteSilence, cX9_noteSilence, 2, none)
theorem dX9_noteSilence_0 : decode cX9_noteSilence 0 = .ok (.iload_n 1, 1) := by decide +kernel
theorem dX9_noteSilence_1 : decode cX9_noteSilence 1 = .ok (.ifCond .le 23, 3) := by decide +kernel
theorem dX9_noteSilence_24 : decode cX9_noteSilence 24 = .ok (.return_, 1) := by decide +kernel
theorem dX9_noteSilence_4 : decode cX9_noteSilence 4 = .ok (.aload_n 0, 1) := by decide +kernel
theorem dX9_noteSilence_5 : decode cX9_noteSilence 5 = .ok (.dup, 1) := by decide +kernel
theorem dX9_noteSilence_6 : decode cX9_noteSilence 6 = .ok (.getfield 44, 3) := by decide +kernel
theorem dX9_noteSilence_9 : decode cX9_noteSilence 9 = .ok (.iconst 1, 1) := by decide +kernel
theorem dX9_noteSilence_10 : decode cX9_noteSilence 10 = .ok (.iadd, 1) := by decide +kernel
theorem dX9_noteSilence_11 : decode cX9_noteSilence 11 = .ok (.putfield 44, 3) := by decide +kernel
theorem dX9_noteSilence_14 : decode cX9_noteSilence 14 = .ok (.aload_n 0, 1) := by decide +kernel
theorem dX9_noteSilence_15 : decode cX9_noteSilence 15 = .ok (.dup, 1) := by decide +kernel
theorem dX9_noteSilence_16 : decode cX9_noteSilence 16 = .ok (.getfield 47, 3) := by decide +kernel
theorem dX9_noteSilence_19 : decode cX9_noteSilence 19 = .ok (.iload_n 1, 1) := by decide +kernel
theorem dX9_noteSilence_20 : decode cX9_noteSilence 20 = .ok (.iadd, 1) := by decide +kernel
theorem dX9_noteSilence_21 : decode cX9_noteSilence 21 = .ok (.putfield 47, 3) := by decide +kernel
set_option maxRecDepth 100000 in
def fn_wk_X9_noteSilence (w_8 : Int32) (w_9 : Int32) (n : Int32) (β : Type) (k_ : Int32 → Int32 → β) : β := (if n ≤ 0 then (k_ w_8 w_9) else (k_ (w_8 + 1) (w_9 + n)))
set_option maxRecDepth 100000 in
theorem fn_wk_X9_noteSilence_s {w_8 : Int32} {w_9 : Int32} {n : Int32} {β : Type} {k_ : Int32 → Int32 → β} : fn_wk_X9_noteSilence w_8 w_9 n β k_ = (if n ≤ 0 then (k_ w_8 w_9) else (k_ (w_8 + 1) (w_9 + n))) := rfl
set_option maxRecDepth 100000 in
set_option maxHeartbeats 4000000 in
theorem wk_X9_noteSilence (E : g_E) (w : Nat) (ps : Nat) (md : Nat) (w_2 : Nat) (w_3 : Nat) (w_4 : Nat) (w_5 : Int32) (w_6 : Int32) (w_7 : Int32) (w_10 : Int32) (w_11 : Int32) (w_8 : Int32) (w_9 : Int32) (n : Int32) (hk0 : w_2 ≤ 2) (hk1 : w_3 ≤ 2) (hk2 : w_4 ≤ 600) : Ev E MX9_noteSilence 0 0 0 0 [.ref w, .int n] [(w, .inr (9, [.ref ps, .ref md, .int (nI w_2), .int (nI w_3), .int (nI w_4), .int w_5, .int w_6, .int w_7, .int w_8, .int w_9, .int w_10, .int w_11]))] (fun v_ w_ => ∃ zw_8 : Int32, ∃ zw_9 : Int32, (∀ (β : Type) (k_ : Int32 → Int32 → β), fn_wk_X9_noteSilence w_8 w_9 n β k_ = k_ zw_8 zw_9) ∧ v_ = none ∧ w_ = [(w, .inr (9, [.ref ps, .ref md, .int (nI w_2), .int (nI w_3), .int (nI w_4), .int w_5, .int w_6, .int w_7, .int zw_8, .int zw_9, .int w_10, .int w_11]))]) := by
  refine Ev.intro (by decide) (Nat.le_of_ble_eq_true rfl) ?_
  intro X B hr hI
  have B : Bd E X cX9_noteSilence RX9 2 0 0 0 0 := B
  have hr : Rt E X none 0 0 (fun v_ w_ => ∃ zw_8 : Int32, ∃ zw_9 : Int32, (∀ (β : Type) (k_ : Int32 → Int32 → β), fn_wk_X9_noteSilence w_8 w_9 n β k_ = k_ zw_8 zw_9) ∧ v_ = none ∧ w_ = [(w, .inr (9, [.ref ps, .ref md, .int (nI w_2), .int (nI w_3), .int (nI w_4), .int w_5, .int w_6, .int w_7, .int zw_8, .int zw_9, .int w_10, .int w_11]))]) := hr
  have e_ := fun (β : Type) (k_ : Int32 → Int32 → β) => fn_wk_X9_noteSilence_s (β := β) (k_ := k_) (w_8 := w_8) (w_9 := w_9) (n := n)
  show G E X 2 [(w, .inr (9, [.ref ps, .ref md, .int (nI w_2), .int (nI w_3), .int (nI w_4), .int w_5, .int w_6, .int w_7, .int w_8, .int w_9, .int w_10, .int w_11]))] 0 0 [(0, .ref w), (1, .int n)] 0 []
  refine g_iload_n B dX9_noteSilence_0 rfl 1 rfl ?_
  refine g_if_le (tgt := 24) B dX9_noteSilence_1 (by decide) (fun c1_407 => ?_) (fun c1_407 => ?_)
  · replace e_ := fun β k_ => (e_ β k_).trans (if_pos c1_407)
    exact g_vret B hr dX9_noteSilence_24 (by decide) (by decide) ⟨w_8, w_9, e_, rfl, rfl⟩
  · replace e_ := fun β k_ => (e_ β k_).trans (if_neg c1_407)
    refine g_aload_n B dX9_noteSilence_4 rfl 0 rfl ?_
    refine g_dup B dX9_noteSilence_5 rfl ?_
    refine g_get B 0 8 fl_X9_44 rfl rfl dX9_noteSilence_6 ?_
    refine g_iconst (v := 1) B dX9_noteSilence_9 (by decide) ?_
    refine g_iadd B dX9_noteSilence_10 ?_
    refine g_put (ws' := [(w, .inr (9, [.ref ps, .ref md, .int (nI w_2), .int (nI w_3), .int (nI w_4), .int w_5, .int w_6, .int w_7, .int (w_8 + 1), .int w_9, .int w_10, .int w_11]))]) B 0 8 fl_X9_44 pf_X9_8 rfl (Nat.le_of_ble_eq_true rfl) rfl rfl rfl dX9_noteSilence_11 ?_
    refine g_aload_n B dX9_noteSilence_14 rfl 0 rfl ?_
    refine g_dup B dX9_noteSilence_15 rfl ?_
    refine g_get B 0 9 fl_X9_47 rfl rfl dX9_noteSilence_16 ?_
    refine g_iload_n B dX9_noteSilence_19 rfl 1 rfl ?_
    refine g_iadd B dX9_noteSilence_20 ?_
    refine g_put (ws' := [(w, .inr (9, [.ref ps, .ref md, .int (nI w_2), .int (nI w_3), .int (nI w_4), .int w_5, .int w_6, .int w_7, .int (w_8 + 1), .int (w_9 + n), .int w_10, .int w_11]))]) B 0 9 fl_X9_47 pf_X9_9 rfl (Nat.le_of_ble_eq_true rfl) rfl rfl rfl dX9_noteSilence_21 ?_
    exact g_vret B hr dX9_noteSilence_24 (by decide) (by decide) ⟨(w_8 + 1), (w_9 + n), e_, rfl, rfl⟩
abbrev MX9_noteOnes : g_M := (yX9_noteOnes, cX9_noteOnes, 3, none)
theorem dX9_noteOnes_0 : decode cX9_noteOnes 0 = .ok (.aload_n 0, 1) := by decide +kernel
theorem dX9_noteOnes_1 : decode cX9_noteOnes 1 = .ok (.aload_n 0, 1) := by decide +kernel
theorem dX9_noteOnes_2 : decode cX9_noteOnes 2 = .ok (.getfield 50, 3) := by decide +kernel
theorem dX9_noteOnes_5 : decode cX9_noteOnes 5 = .ok (.i2l, 1) := by decide +kernel
theorem dX9_noteOnes_6 : decode cX9_noteOnes 6 = .ok (.lload_n 1, 1) := by decide +kernel
theorem dX9_noteOnes_7 : decode cX9_noteOnes 7 = .ok (.ldc2_w 66, 3) := by decide +kernel
theorem w_k_X9_66 : Cond.constantLong RX9 66 2147483647 ∈ g_tbl := g_tbl_in 612 (by decide +kernel) (by decide +kernel)
theorem dX9_noteOnes_10 : decode cX9_noteOnes 10 = .ok (.invokestatic 68, 3) := by decide +kernel
theorem w_mlm_X9_68 : Cond.methodLink RX9 68 Lib.MathLoose.min_long.x ∈ g_tbl := g_tbl_in 613 (by decide +kernel) (by decide +kernel)
theorem dX9_noteOnes_13 : decode cX9_noteOnes 13 = .ok (.invokestatic 74, 3) := by decide +kernel
theorem w_mlm_X9_74 : Cond.methodLink RX9 74 Lib.MathLoose.max_long.x ∈ g_tbl := g_tbl_in 616 (by decide +kernel) (by decide +kernel)
theorem w_smm_max_JJ_J : Cond.static Lib.MathLoose.max_long.x ∈ g_tbl := g_tbl_in 617 (by decide +kernel) (by decide +kernel)
theorem w_cdm_max_JJ_J : Cond.code Lib.MathLoose.max_long.x Lib.MathLoose.max_long.code 4 (some .long) ∈ g_tbl := g_tbl_in 618 (by decide +kernel) (by decide +kernel)
theorem dX9_noteOnes_16 : decode cX9_noteOnes 16 = .ok (.l2i, 1) := by decide +kernel
theorem dX9_noteOnes_17 : decode cX9_noteOnes 17 = .ok (.putfield 50, 3) := by decide +kernel
theorem dX9_noteOnes_20 : decode cX9_noteOnes 20 = .ok (.return_, 1) := by decide +kernel
set_option maxRecDepth 100000 in
def fn_wk_X9_noteOnes (w_10 : Int32) (on : Int64) (β : Type) (k_ : Int32 → β) : β := (fnL (Int64.toInt32 (if (if 2147483647 < on then 2147483647 else on) < (Int32.toInt64 w_10) then (Int32.toInt64 w_10) else (if 2147483647 < on then 2147483647 else on))) (fun x_408 => (k_ x_408)))
set_option maxRecDepth 100000 in
theorem fn_wk_X9_noteOnes_s {w_10 : Int32} {on : Int64} {β : Type} {k_ : Int32 → β} : fn_wk_X9_noteOnes w_10 on β k_ = (fnL (Int64.toInt32 (if (if 2147483647 < on then 2147483647 else on) < (Int32.toInt64 w_10) then (Int32.toInt64 w_10) else (if 2147483647 < on then 2147483647 else on))) (fun x_408 => (k_ x_408))) := rfl
set_option maxRecDepth 100000 in
set_option maxHeartbeats 4000000 in
theorem wk_X9_noteOnes (E : g_E) (w : Nat) (ps : Nat) (md : Nat) (w_2 : Nat) (w_3 : Nat) (w_4 : Nat) (w_5 : Int32) (w_6 : Int32) (w_7 : Int32) (w_8 : Int32) (w_9 : Int32) (w_11 : Int32) (w_10 : Int32) (on : Int64) (hk0 : w_2 ≤ 2) (hk1 : w_3 ≤ 2) (hk2 : w_4 ≤ 600) : Ev E MX9_noteOnes 1 23 0 0 [.ref w, .long on] [(w, .inr (9, [.ref ps, .ref md, .int (nI w_2), .int (nI w_3), .int (nI w_4), .int w_5, .int w_6, .int w_7, .int w_8, .int w_9, .int w_10, .int w_11]))] (fun v_ w_ => ∃ zw_10 : Int32, (∀ (β : Type) (k_ : Int32 → β), fn_wk_X9_noteOnes w_10 on β k_ = k_ zw_10) ∧ v_ = none ∧ w_ = [(w, .inr (9, [.ref ps, .ref md, .int (nI w_2), .int (nI w_3), .int (nI w_4), .int w_5, .int w_6, .int w_7, .int w_8, .int w_9, .int zw_10, .int w_11]))]) := by
  refine Ev.intro (by decide) (Nat.le_of_ble_eq_true rfl) ?_
  intro X B hr hI
  have B : Bd E X cX9_noteOnes RX9 3 1 23 0 0 := B
  have hr : Rt E X none 0 0 (fun v_ w_ => ∃ zw_10 : Int32, (∀ (β : Type) (k_ : Int32 → β), fn_wk_X9_noteOnes w_10 on β k_ = k_ zw_10) ∧ v_ = none ∧ w_ = [(w, .inr (9, [.ref ps, .ref md, .int (nI w_2), .int (nI w_3), .int (nI w_4), .int w_5, .int w_6, .int w_7, .int w_8, .int w_9, .int zw_10, .int w_11]))]) := hr
  have e_ := fun (β : Type) (k_ : Int32 → β) => fn_wk_X9_noteOnes_s (β := β) (k_ := k_) (w_10 := w_10) (on := on)
  show G E X 3 [(w, .inr (9, [.ref ps, .ref md, .int (nI w_2), .int (nI w_3), .int (nI w_4), .int w_5, .int w_6, .int w_7, .int w_8, .int w_9, .int w_10, .int w_11]))] 0 0 [(0, .ref w), (1, .long on)] 0 []
  refine g_aload_n B dX9_noteOnes_0 rfl 0 rfl ?_
  refine g_aload_n B dX9_noteOnes_1 rfl 0 rfl ?_
  refine g_get B 0 10 fl_X9_50 rfl rfl dX9_noteOnes_2 ?_
  refine g_i2l B dX9_noteOnes_5 ?_
  refine g_lload_n B dX9_noteOnes_6 rfl 1 rfl ?_
  refine g_ldc2 (v := 2147483647) B w_k_X9_66 dX9_noteOnes_7 ?_
  refine g_mminl B w_mlm_X9_68 w_smm_min_JJ_J w_ini_Math w_cdm_min_JJ_J (by decide) (Nat.le_of_ble_eq_true rfl) (by decide) (by decide) dX9_noteOnes_10 ?_
  refine g_mmaxl B w_mlm_X9_74 w_smm_max_JJ_J w_ini_Math w_cdm_max_JJ_J (by decide) (Nat.le_of_ble_eq_true rfl) (by decide) (by decide) dX9_noteOnes_13 ?_
  refine g_l2i B dX9_noteOnes_16 ?_
  refine g_topi (fun x_408 ex_408 => ?_)
  replace e_ := fun β k_ => (e_ β k_).trans (fnL_eq (x := x_408) ex_408.symm _)
  refine g_put (ws' := [(w, .inr (9, [.ref ps, .ref md, .int (nI w_2), .int (nI w_3), .int (nI w_4), .int w_5, .int w_6, .int w_7, .int w_8, .int w_9, .int x_408, .int w_11]))]) B 0 10 fl_X9_50 pf_X9_10 rfl (Nat.le_of_ble_eq_true rfl) rfl rfl rfl dX9_noteOnes_17 ?_
  exact g_vret B hr dX9_noteOnes_20 (by decide) (by decide) ⟨x_408, e_, rfl, rfl⟩
abbrev MX9_noteOff : g_M := (yX9_noteOff, cX9_noteOff, 2, none)
theorem dX9_noteOff_0 : decode cX9_noteOff 0 = .ok (.aload_n 0, 1) := by decide +kernel
theorem dX9_noteOff_1 : decode cX9_noteOff 1 = .ok (.aload_n 0, 1) := by decide +kernel
theorem dX9_noteOff_2 : decode cX9_noteOff 2 = .ok (.getfield 53, 3) := by decide +kernel
theorem dX9_noteOff_5 : decode cX9_noteOff 5 = .ok (.iload_n 1, 1) := by decide +kernel
theorem dX9_noteOff_6 : decode cX9_noteOff 6 = .ok (.invokestatic 77, 3) := by decide +kernel
theorem w_mlm_X9_77 : Cond.methodLink RX9 77 Lib.Math.abs.name ∈ g_tbl := g_tbl_in 661 (by decide +kernel) (by decide +kernel)
theorem w_smm_abs_I_I : Cond.static Lib.Math.abs.name ∈ g_tbl := g_tbl_in 662 (by decide +kernel) (by decide +kernel)
theorem w_cdm_abs_I_I : Cond.code Lib.Math.abs.name Lib.Math.abs.code 1 (some .int) ∈ g_tbl := g_tbl_in 663 (by decide +kernel) (by decide +kernel)
theorem dX9_noteOff_9 : decode cX9_noteOff 9 = .ok (.invokestatic 81, 3) := by decide +kernel
theorem w_mlm_X9_81 : Cond.methodLink RX9 81 Lib.Math.max.name ∈ g_tbl := g_tbl_in 664 (by decide +kernel) (by decide +kernel)
theorem dX9_noteOff_12 : decode cX9_noteOff 12 = .ok (.putfield 53, 3) := by decide +kernel
theorem dX9_noteOff_15 : decode cX9_noteOff 15 = .ok (.return_, 1) := by decide +kernel
set_option maxRecDepth 100000 in
def fn_wk_X9_noteOff (w_11 : Int32) (of : Int32) (β : Type) (k_ : Int32 → β) : β := (k_ (if w_11 < (if 0 ≤ of then of else 0 - of) then (if 0 ≤ of then of else 0 - of) else w_11))
set_option maxRecDepth 100000 in
theorem fn_wk_X9_noteOff_s {w_11 : Int32} {of : Int32} {β : Type} {k_ : Int32 → β} : fn_wk_X9_noteOff w_11 of β k_ = (k_ (if w_11 < (if 0 ≤ of then of else 0 - of) then (if 0 ≤ of then of else 0 - of) else w_11)) := rfl
set_option maxRecDepth 100000 in
set_option maxHeartbeats 4000000 in
theorem wk_X9_noteOff (E : g_E) (w : Nat) (ps : Nat) (md : Nat) (w_2 : Nat) (w_3 : Nat) (w_4 : Nat) (w_5 : Int32) (w_6 : Int32) (w_7 : Int32) (w_8 : Int32) (w_9 : Int32) (w_10 : Int32) (w_11 : Int32) (of : Int32) (hk0 : w_2 ≤ 2) (hk1 : w_3 ≤ 2) (hk2 : w_4 ≤ 600) : Ev E MX9_noteOff 1 23 0 0 [.ref w, .int of] [(w, .inr (9, [.ref ps, .ref md, .int (nI w_2), .int (nI w_3), .int (nI w_4), .int w_5, .int w_6, .int w_7, .int w_8, .int w_9, .int w_10, .int w_11]))] (fun v_ w_ => ∃ zw_11 : Int32, (∀ (β : Type) (k_ : Int32 → β), fn_wk_X9_noteOff w_11 of β k_ = k_ zw_11) ∧ v_ = none ∧ w_ = [(w, .inr (9, [.ref ps, .ref md, .int (nI w_2), .int (nI w_3), .int (nI w_4), .int w_5, .int w_6, .int w_7, .int w_8, .int w_9, .int w_10, .int zw_11]))]) := by
  refine Ev.intro (by decide) (Nat.le_of_ble_eq_true rfl) ?_
  intro X B hr hI
  have B : Bd E X cX9_noteOff RX9 2 1 23 0 0 := B
  have hr : Rt E X none 0 0 (fun v_ w_ => ∃ zw_11 : Int32, (∀ (β : Type) (k_ : Int32 → β), fn_wk_X9_noteOff w_11 of β k_ = k_ zw_11) ∧ v_ = none ∧ w_ = [(w, .inr (9, [.ref ps, .ref md, .int (nI w_2), .int (nI w_3), .int (nI w_4), .int w_5, .int w_6, .int w_7, .int w_8, .int w_9, .int w_10, .int zw_11]))]) := hr
  have e_ := fun (β : Type) (k_ : Int32 → β) => fn_wk_X9_noteOff_s (β := β) (k_ := k_) (w_11 := w_11) (of := of)
  show G E X 2 [(w, .inr (9, [.ref ps, .ref md, .int (nI w_2), .int (nI w_3), .int (nI w_4), .int w_5, .int w_6, .int w_7, .int w_8, .int w_9, .int w_10, .int w_11]))] 0 0 [(0, .ref w), (1, .int of)] 0 []
  refine g_aload_n B dX9_noteOff_0 rfl 0 rfl ?_
  refine g_aload_n B dX9_noteOff_1 rfl 0 rfl ?_
  refine g_get B 0 11 fl_X9_53 rfl rfl dX9_noteOff_2 ?_
  refine g_iload_n B dX9_noteOff_5 rfl 1 rfl ?_
  refine g_mabs B w_mlm_X9_77 w_smm_abs_I_I w_ini_Math w_cdm_abs_I_I (by decide) (Nat.le_of_ble_eq_true rfl) (by decide) (by decide) dX9_noteOff_6 ?_
  refine g_mmax B w_mlm_X9_81 w_smm_max_II_I w_ini_Math w_cdm_max_II_I (by decide) (Nat.le_of_ble_eq_true rfl) (by decide) (by decide) dX9_noteOff_9 ?_
  refine g_put (ws' := [(w, .inr (9, [.ref ps, .ref md, .int (nI w_2), .int (nI w_3), .int (nI w_4), .int w_5, .int w_6, .int w_7, .int w_8, .int w_9, .int w_10, .int (if w_11 < (if 0 ≤ of then of else 0 - of) then (if 0 ≤ of then of else 0 - of) else w_11)]))]) B 0 11 fl_X9_53 pf_X9_11 rfl (Nat.le_of_ble_eq_true rfl) rfl rfl rfl dX9_noteOff_12 ?_
  exact g_vret B hr dX9_noteOff_15 (by decide) (by decide) ⟨(if w_11 < (if 0 ≤ of then of else 0 - of) then (if 0 ≤ of then of else 0 - of) else w_11), e_, rfl, rfl⟩
abbrev MX9_tell : g_M := (yX9_tell, cX9_tell, 2, (some .int))
theorem dX9_tell_0 : decode cX9_tell 0 = .ok (.iload_n 1, 1) := by decide +kernel
theorem dX9_tell_1 : decode cX9_tell 1 = .ok (.tableswitch 111 0 9 #[55, 60, 65, 70, 75, 86, 91, 96, 101, 106], 55) := by decide +kernel
theorem dX9_tell_56 : decode cX9_tell 56 = .ok (.aload_n 0, 1) := by decide +kernel
theorem dX9_tell_57 : decode cX9_tell 57 = .ok (.getfield 38, 3) := by decide +kernel
theorem dX9_tell_60 : decode cX9_tell 60 = .ok (.ireturn, 1) := by decide +kernel
theorem dX9_tell_61 : decode cX9_tell 61 = .ok (.aload_n 0, 1) := by decide +kernel
theorem dX9_tell_62 : decode cX9_tell 62 = .ok (.getfield 32, 3) := by decide +kernel
theorem dX9_tell_65 : decode cX9_tell 65 = .ok (.ireturn, 1) := by decide +kernel
theorem dX9_tell_66 : decode cX9_tell 66 = .ok (.aload_n 0, 1) := by decide +kernel
theorem dX9_tell_67 : decode cX9_tell 67 = .ok (.getfield 25, 3) := by decide +kernel
theorem dX9_tell_70 : decode cX9_tell 70 = .ok (.ireturn, 1) := by decide +kernel
theorem dX9_tell_71 : decode cX9_tell 71 = .ok (.aload_n 0, 1) := by decide +kernel
theorem dX9_tell_72 : decode cX9_tell 72 = .ok (.getfield 29, 3) := by decide +kernel
theorem dX9_tell_75 : decode cX9_tell 75 = .ok (.ireturn, 1) := by decide +kernel
theorem dX9_tell_76 : decode cX9_tell 76 = .ok (.aload_n 0, 1) := by decide +kernel
theorem dX9_tell_77 : decode cX9_tell 77 = .ok (.getfield 12, 3) := by decide +kernel
theorem dX9_tell_80 : decode cX9_tell 80 = .ok (.getfield 84, 3) := by decide +kernel
theorem w_fl_X9_84 : Cond.fieldLink RX9 84 (TX6 0).1 (TX6 0).2.1 (TX6 0).2.2.1 ∈ g_tbl := g_tbl_in 263 (by decide +kernel) (by decide +kernel)
theorem fl_X9_84 : FL RX9 84 6 0 := ⟨RX6, TX6, 8, rfl, by decide, inX_X6, w_fl_X9_84⟩
theorem dX9_tell_83 : decode cX9_tell 83 = .ok (.getfield 88, 3) := by decide +kernel
theorem w_fl_X9_88 : Cond.fieldLink RX9 88 (TX7 2).1 (TX7 2).2.1 (TX7 2).2.2.1 ∈ g_tbl := g_tbl_in 109 (by decide +kernel) (by decide +kernel)
theorem fl_X9_88 : FL RX9 88 7 2 := ⟨RX7, TX7, 3, rfl, by decide, inX_X7, w_fl_X9_88⟩
theorem dX9_tell_86 : decode cX9_tell 86 = .ok (.ireturn, 1) := by decide +kernel
theorem dX9_tell_87 : decode cX9_tell 87 = .ok (.aload_n 0, 1) := by decide +kernel
theorem dX9_tell_88 : decode cX9_tell 88 = .ok (.getfield 35, 3) := by decide +kernel
theorem dX9_tell_91 : decode cX9_tell 91 = .ok (.ireturn, 1) := by decide +kernel
theorem dX9_tell_92 : decode cX9_tell 92 = .ok (.aload_n 0, 1) := by decide +kernel
theorem dX9_tell_93 : decode cX9_tell 93 = .ok (.getfield 44, 3) := by decide +kernel
theorem dX9_tell_96 : decode cX9_tell 96 = .ok (.ireturn, 1) := by decide +kernel
theorem dX9_tell_97 : decode cX9_tell 97 = .ok (.aload_n 0, 1) := by decide +kernel
theorem dX9_tell_98 : decode cX9_tell 98 = .ok (.getfield 47, 3) := by decide +kernel
theorem dX9_tell_101 : decode cX9_tell 101 = .ok (.ireturn, 1) := by decide +kernel
theorem dX9_tell_102 : decode cX9_tell 102 = .ok (.aload_n 0, 1) := by decide +kernel
theorem dX9_tell_103 : decode cX9_tell 103 = .ok (.getfield 50, 3) := by decide +kernel
theorem dX9_tell_106 : decode cX9_tell 106 = .ok (.ireturn, 1) := by decide +kernel
theorem dX9_tell_107 : decode cX9_tell 107 = .ok (.aload_n 0, 1) := by decide +kernel
theorem dX9_tell_108 : decode cX9_tell 108 = .ok (.getfield 53, 3) := by decide +kernel
theorem dX9_tell_111 : decode cX9_tell 111 = .ok (.ireturn, 1) := by decide +kernel
theorem dX9_tell_112 : decode cX9_tell 112 = .ok (.iconst (-1), 1) := by decide +kernel
theorem dX9_tell_113 : decode cX9_tell 113 = .ok (.ireturn, 1) := by decide +kernel
set_option maxRecDepth 100000 in
def fn_wk_X9_tell (w_2 : Nat) (w_4 : Nat) (w_5 : Int32) (w_6 : Int32) (w_7 : Int32) (w_8 : Int32) (w_9 : Int32) (w_10 : Int32) (w_11 : Int32) (p_2 : Nat) (wh : Int32) (β : Type) (k_ : Int32 → β) : β := (if wh = 0 then (k_ (nI w_2)) else (if wh = 1 then (k_ (nI w_4)) else (if wh = 2 then (k_ w_5) else (if wh = 3 then (k_ w_6) else (if wh = 4 then (k_ (nI p_2)) else (if wh = 5 then (k_ w_7) else (if wh = 6 then (k_ w_8) else (if wh = 7 then (k_ w_9) else (if wh = 8 then (k_ w_10) else (if wh = 9 then (k_ w_11) else (k_ (-1))))))))))))
set_option maxRecDepth 100000 in
theorem fn_wk_X9_tell_s {w_2 : Nat} {w_4 : Nat} {w_5 : Int32} {w_6 : Int32} {w_7 : Int32} {w_8 : Int32} {w_9 : Int32} {w_10 : Int32} {w_11 : Int32} {p_2 : Nat} {wh : Int32} {β : Type} {k_ : Int32 → β} : fn_wk_X9_tell w_2 w_4 w_5 w_6 w_7 w_8 w_9 w_10 w_11 p_2 wh β k_ = (if wh = 0 then (k_ (nI w_2)) else (if wh = 1 then (k_ (nI w_4)) else (if wh = 2 then (k_ w_5) else (if wh = 3 then (k_ w_6) else (if wh = 4 then (k_ (nI p_2)) else (if wh = 5 then (k_ w_7) else (if wh = 6 then (k_ w_8) else (if wh = 7 then (k_ w_9) else (if wh = 8 then (k_ w_10) else (if wh = 9 then (k_ w_11) else (k_ (-1)))))))))))) := rfl
set_option maxRecDepth 100000 in
set_option maxHeartbeats 4000000 in
theorem wk_X9_tell (E : g_E) (w : Nat) (ps : Nat) (md : Nat) (p : Nat) (we : Nat) (inp : Nat) (ba : Nat) (gu : Nat) (te : Nat) (de : Nat) (w_2 : Nat) (w_3 : Nat) (w_4 : Nat) (w_5 : Int32) (w_6 : Int32) (w_7 : Int32) (w_8 : Int32) (w_9 : Int32) (w_10 : Int32) (w_11 : Int32) (ps_5 : Int32) (ps_6 : Int32) (ps_7 : Int32) (p_2 : Nat) (wh : Int32) (hk0 : w_2 ≤ 2) (hk1 : w_3 ≤ 2) (hk2 : w_4 ≤ 600) (hk3 : p_2 ≤ 8) : Ev E MX9_tell 0 0 0 0 [.ref w, .int wh] [(w, .inr (9, [.ref ps, .ref md, .int (nI w_2), .int (nI w_3), .int (nI w_4), .int w_5, .int w_6, .int w_7, .int w_8, .int w_9, .int w_10, .int w_11])), (ps, .inr (6, [.ref p, .ref we, .ref inp, .ref ba, .ref gu, .int ps_5, .int ps_6, .int ps_7])), (p, .inr (7, [.ref te, .ref de, .int (nI p_2)]))] (fun v_ w_ => ∃ zr : Int32, (∀ (β : Type) (k_ : Int32 → β), fn_wk_X9_tell w_2 w_4 w_5 w_6 w_7 w_8 w_9 w_10 w_11 p_2 wh β k_ = k_ zr) ∧ v_ = some (.int zr) ∧ w_ = [(w, .inr (9, [.ref ps, .ref md, .int (nI w_2), .int (nI w_3), .int (nI w_4), .int w_5, .int w_6, .int w_7, .int w_8, .int w_9, .int w_10, .int w_11])), (ps, .inr (6, [.ref p, .ref we, .ref inp, .ref ba, .ref gu, .int ps_5, .int ps_6, .int ps_7])), (p, .inr (7, [.ref te, .ref de, .int (nI p_2)]))]) := by
  refine Ev.intro (by decide) (Nat.le_of_ble_eq_true rfl) ?_
  intro X B hr hI
  have B : Bd E X cX9_tell RX9 2 0 0 0 0 := B
  have hr : Rt E X (some .int) 0 0 (fun v_ w_ => ∃ zr : Int32, (∀ (β : Type) (k_ : Int32 → β), fn_wk_X9_tell w_2 w_4 w_5 w_6 w_7 w_8 w_9 w_10 w_11 p_2 wh β k_ = k_ zr) ∧ v_ = some (.int zr) ∧ w_ = [(w, .inr (9, [.ref ps, .ref md, .int (nI w_2), .int (nI w_3), .int (nI w_4), .int w_5, .int w_6, .int w_7, .int w_8, .int w_9, .int w_10, .int w_11])), (ps, .inr (6, [.ref p, .ref we, .ref inp, .ref ba, .ref gu, .int ps_5, .int ps_6, .int ps_7])), (p, .inr (7, [.ref te, .ref de, .int (nI p_2)]))]) := hr
  have e_ := fun (β : Type) (k_ : Int32 → β) => fn_wk_X9_tell_s (β := β) (k_ := k_) (w_2 := w_2) (w_4 := w_4) (w_5 := w_5) (w_6 := w_6) (w_7 := w_7) (w_8 := w_8) (w_9 := w_9) (w_10 := w_10) (w_11 := w_11) (p_2 := p_2) (wh := wh)
  show G E X 2 [(w, .inr (9, [.ref ps, .ref md, .int (nI w_2), .int (nI w_3), .int (nI w_4), .int w_5, .int w_6, .int w_7, .int w_8, .int w_9, .int w_10, .int w_11])), (ps, .inr (6, [.ref p, .ref we, .ref inp, .ref ba, .ref gu, .int ps_5, .int ps_6, .int ps_7])), (p, .inr (7, [.ref te, .ref de, .int (nI p_2)]))] 0 0 [(0, .ref w), (1, .int wh)] 0 []
  refine g_iload_n B dX9_tell_0 rfl 1 rfl ?_
  by_cases sw_409 : wh = 0
  · replace e_ := fun β k_ => (e_ β k_).trans (if_pos sw_409)
    subst sw_409
    refine g_tableIn (off := 55) (tgt := 56) B dX9_tell_1 (by decide) (by decide) (by decide) (by decide) ?_
    refine g_aload_n B dX9_tell_56 rfl 0 rfl ?_
    refine g_get B 0 2 fl_X9_38 rfl rfl dX9_tell_57 ?_
    exact g_iret B hr dX9_tell_60 (by decide) (by decide) ⟨(nI w_2), e_, rfl, rfl⟩
  replace e_ := fun β k_ => (e_ β k_).trans (if_neg sw_409)
  by_cases sw_410 : wh = 1
  · replace e_ := fun β k_ => (e_ β k_).trans (if_pos sw_410)
    subst sw_410
    refine g_tableIn (off := 60) (tgt := 61) B dX9_tell_1 (by decide) (by decide) (by decide) (by decide) ?_
    refine g_aload_n B dX9_tell_61 rfl 0 rfl ?_
    refine g_get B 0 4 fl_X9_32 rfl rfl dX9_tell_62 ?_
    exact g_iret B hr dX9_tell_65 (by decide) (by decide) ⟨(nI w_4), e_, rfl, rfl⟩
  replace e_ := fun β k_ => (e_ β k_).trans (if_neg sw_410)
  by_cases sw_411 : wh = 2
  · replace e_ := fun β k_ => (e_ β k_).trans (if_pos sw_411)
    subst sw_411
    refine g_tableIn (off := 65) (tgt := 66) B dX9_tell_1 (by decide) (by decide) (by decide) (by decide) ?_
    refine g_aload_n B dX9_tell_66 rfl 0 rfl ?_
    refine g_get B 0 5 fl_X9_25 rfl rfl dX9_tell_67 ?_
    exact g_iret B hr dX9_tell_70 (by decide) (by decide) ⟨w_5, e_, rfl, rfl⟩
  replace e_ := fun β k_ => (e_ β k_).trans (if_neg sw_411)
  by_cases sw_412 : wh = 3
  · replace e_ := fun β k_ => (e_ β k_).trans (if_pos sw_412)
    subst sw_412
    refine g_tableIn (off := 70) (tgt := 71) B dX9_tell_1 (by decide) (by decide) (by decide) (by decide) ?_
    refine g_aload_n B dX9_tell_71 rfl 0 rfl ?_
    refine g_get B 0 6 fl_X9_29 rfl rfl dX9_tell_72 ?_
    exact g_iret B hr dX9_tell_75 (by decide) (by decide) ⟨w_6, e_, rfl, rfl⟩
  replace e_ := fun β k_ => (e_ β k_).trans (if_neg sw_412)
  by_cases sw_413 : wh = 4
  · replace e_ := fun β k_ => (e_ β k_).trans (if_pos sw_413)
    subst sw_413
    refine g_tableIn (off := 75) (tgt := 76) B dX9_tell_1 (by decide) (by decide) (by decide) (by decide) ?_
    refine g_aload_n B dX9_tell_76 rfl 0 rfl ?_
    refine g_get B 0 0 fl_X9_12 rfl rfl dX9_tell_77 ?_
    refine g_get B 1 0 fl_X9_84 rfl rfl dX9_tell_80 ?_
    refine g_get B 2 2 fl_X9_88 rfl rfl dX9_tell_83 ?_
    exact g_iret B hr dX9_tell_86 (by decide) (by decide) ⟨(nI p_2), e_, rfl, rfl⟩
  replace e_ := fun β k_ => (e_ β k_).trans (if_neg sw_413)
  by_cases sw_414 : wh = 5
  · replace e_ := fun β k_ => (e_ β k_).trans (if_pos sw_414)
    subst sw_414
    refine g_tableIn (off := 86) (tgt := 87) B dX9_tell_1 (by decide) (by decide) (by decide) (by decide) ?_
    refine g_aload_n B dX9_tell_87 rfl 0 rfl ?_
    refine g_get B 0 7 fl_X9_35 rfl rfl dX9_tell_88 ?_
    exact g_iret B hr dX9_tell_91 (by decide) (by decide) ⟨w_7, e_, rfl, rfl⟩
  replace e_ := fun β k_ => (e_ β k_).trans (if_neg sw_414)
  by_cases sw_415 : wh = 6
  · replace e_ := fun β k_ => (e_ β k_).trans (if_pos sw_415)
    subst sw_415
    refine g_tableIn (off := 91) (tgt := 92) B dX9_tell_1 (by decide) (by decide) (by decide) (by decide) ?_
    refine g_aload_n B dX9_tell_92 rfl 0 rfl ?_
    refine g_get B 0 8 fl_X9_44 rfl rfl dX9_tell_93 ?_
    exact g_iret B hr dX9_tell_96 (by decide) (by decide) ⟨w_8, e_, rfl, rfl⟩
  replace e_ := fun β k_ => (e_ β k_).trans (if_neg sw_415)
  by_cases sw_416 : wh = 7
  · replace e_ := fun β k_ => (e_ β k_).trans (if_pos sw_416)
    subst sw_416
    refine g_tableIn (off := 96) (tgt := 97) B dX9_tell_1 (by decide) (by decide) (by decide) (by decide) ?_
    refine g_aload_n B dX9_tell_97 rfl 0 rfl ?_
    refine g_get B 0 9 fl_X9_47 rfl rfl dX9_tell_98 ?_
    exact g_iret B hr dX9_tell_101 (by decide) (by decide) ⟨w_9, e_, rfl, rfl⟩
  replace e_ := fun β k_ => (e_ β k_).trans (if_neg sw_416)
  by_cases sw_417 : wh = 8
  · replace e_ := fun β k_ => (e_ β k_).trans (if_pos sw_417)
    subst sw_417
    refine g_tableIn (off := 101) (tgt := 102) B dX9_tell_1 (by decide) (by decide) (by decide) (by decide) ?_
    refine g_aload_n B dX9_tell_102 rfl 0 rfl ?_
    refine g_get B 0 10 fl_X9_50 rfl rfl dX9_tell_103 ?_
    exact g_iret B hr dX9_tell_106 (by decide) (by decide) ⟨w_10, e_, rfl, rfl⟩
  replace e_ := fun β k_ => (e_ β k_).trans (if_neg sw_417)
  by_cases sw_418 : wh = 9
  · replace e_ := fun β k_ => (e_ β k_).trans (if_pos sw_418)
    subst sw_418
    refine g_tableIn (off := 106) (tgt := 107) B dX9_tell_1 (by decide) (by decide) (by decide) (by decide) ?_
    refine g_aload_n B dX9_tell_107 rfl 0 rfl ?_
    refine g_get B 0 11 fl_X9_53 rfl rfl dX9_tell_108 ?_
    exact g_iret B hr dX9_tell_111 (by decide) (by decide) ⟨w_11, e_, rfl, rfl⟩
  replace e_ := fun β k_ => (e_ β k_).trans (if_neg sw_418)
  have so_419 : Int32.toInt wh < 0 ∨ 9 < Int32.toInt wh := by
    have nsw_409 := lv_neT (a := 0) sw_409 rfl
    have nsw_410 := lv_neT (a := 1) sw_410 rfl
    have nsw_411 := lv_neT (a := 2) sw_411 rfl
    have nsw_412 := lv_neT (a := 3) sw_412 rfl
    have nsw_413 := lv_neT (a := 4) sw_413 rfl
    have nsw_414 := lv_neT (a := 5) sw_414 rfl
    have nsw_415 := lv_neT (a := 6) sw_415 rfl
    have nsw_416 := lv_neT (a := 7) sw_416 rfl
    have nsw_417 := lv_neT (a := 8) sw_417 rfl
    have nsw_418 := lv_neT (a := 9) sw_418 rfl
    omega
  refine g_tableOut (tgt := 112) B dX9_tell_1 so_419 (by decide) ?_
  refine g_iconst (v := (-1)) B dX9_tell_112 (by decide) ?_
  exact g_iret B hr dX9_tell_113 (by decide) (by decide) ⟨(-1), e_, rfl, rfl⟩
def hasI (i : Int32) : Int32 := if i < 0 then 0 else if 1200 ≤ i then 0 else 1
theorem in_has {i : Int32} (h : ¬ hasI i = 0) : vp_in i 1200 := by
  unfold hasI at h
  split at h
  · exact absurd rfl h
  · rename_i h1
    split at h
    · exact absurd rfl h
    · rename_i h2
      exact in_lt (by decide) h1 (o_2 h2)
theorem fd_in {i : Int32} {n c : Nat} (k : Nat) (hk : k ≤ 1) (hn : n ≤ 600) (hc : c ≤ 2) (h0 : ¬ i < 0) (h1 : i < nI n) : vp_in (i * nI c + nI k) 1200 := by
  rcases pk_ix i (n := n) (by omega) with h | h | ⟨j, hj, rfl⟩
  · exact absurd h h0
  · exact absurd h1 (o_4 h)
  · rw [pk_mul, nI_add]
    have h2 : j * c ≤ j * 2 := Nat.mul_le_mul_left j hc
    exact vp_in_nI (by omega) (by decide)
theorem fd_in0 {i : Int32} {n c : Nat} (hn : n ≤ 600) (hc : c ≤ 2) (h0 : ¬ i < 0) (h1 : i < nI n) : vp_in (i * nI c) 1200 := by
  rcases pk_ix i (n := n) (by omega) with h | h | ⟨j, hj, rfl⟩
  · exact absurd h h0
  · exact absurd h1 (o_4 h)
  · rw [pk_mul]
    have h2 : j * c ≤ j * 2 := Nat.mul_le_mul_left j hc
    exact vp_in_nI (by omega) (by decide)
abbrev MX8_has : g_M := (yX8_has, cX8_has, 2, (some .boolean))
theorem dX8_has_0 : decode cX8_has 0 = .ok (.iload_n 1, 1) := by decide +kernel
theorem dX8_has_1 : decode cX8_has 1 = .ok (.ifCond .lt 14, 3) := by decide +kernel
theorem dX8_has_15 : decode cX8_has 15 = .ok (.iconst 0, 1) := by decide +kernel
theorem dX8_has_16 : decode cX8_has 16 = .ok (.ireturn, 1) := by decide +kernel
theorem dX8_has_4 : decode cX8_has 4 = .ok (.iload_n 1, 1) := by decide +kernel
theorem dX8_has_5 : decode cX8_has 5 = .ok (.sipush 1200, 3) := by decide +kernel
theorem dX8_has_8 : decode cX8_has 8 = .ok (.if_icmp .ge 7, 3) := by decide +kernel
theorem dX8_has_11 : decode cX8_has 11 = .ok (.iconst 1, 1) := by decide +kernel
theorem dX8_has_12 : decode cX8_has 12 = .ok (.goto 4, 3) := by decide +kernel
set_option maxRecDepth 100000 in
set_option maxHeartbeats 4000000 in
theorem ev_X8_has (E : g_E) (sh : Nat) (sv : Nat) (sr : Nat) (sl : Nat) (sp : Nat) (i : Int32)  : Ev E MX8_has 0 0 0 0 [.ref sh, .int i] [(sh, .inr (8, [.ref sv, .ref sr, .ref sl, .ref sp]))] (fun v_ w_ => v_ = some (.int (hasI i)) ∧ w_ = [(sh, .inr (8, [.ref sv, .ref sr, .ref sl, .ref sp]))]) := by
  refine Ev.intro (by decide) (Nat.le_of_ble_eq_true rfl) ?_
  intro X B hr hI
  have B : Bd E X cX8_has RX8 2 0 0 0 0 := B
  have hr : Rt E X (some .boolean) 0 0 (fun v_ w_ => v_ = some (.int (hasI i)) ∧ w_ = [(sh, .inr (8, [.ref sv, .ref sr, .ref sl, .ref sp]))]) := hr
  show G E X 2 [(sh, .inr (8, [.ref sv, .ref sr, .ref sl, .ref sp]))] 0 0 [(0, .ref sh), (1, .int i)] 0 []
  refine g_iload_n B dX8_has_0 rfl 1 rfl ?_
  refine g_if_lt (tgt := 15) B dX8_has_1 (by decide) (fun c1_420 => ?_) (fun c1_420 => ?_)
  · refine g_iconst (v := 0) B dX8_has_15 (by decide) ?_
    exact g_zret B hr (by decide) dX8_has_16 (by decide) (by decide) ⟨by simp [hasI, c1_420], rfl⟩
  · refine g_iload_n B dX8_has_4 rfl 1 rfl ?_
    refine g_sipush (v := 1200) B dX8_has_5 (by decide) ?_
    refine g_icmp_ge (tgt := 15) B dX8_has_8 (by decide) (fun c8_421 => ?_) (fun c8_421 => ?_)
    · refine g_iconst (v := 0) B dX8_has_15 (by decide) ?_
      exact g_zret B hr (by decide) dX8_has_16 (by decide) (by decide) ⟨by simp [hasI, c1_420, c8_421], rfl⟩
    · refine g_iconst (v := 1) B dX8_has_11 (by decide) ?_
      refine g_goto (tgt := 16) B dX8_has_12 (by decide) ?_
      exact g_zret B hr (by decide) dX8_has_16 (by decide) (by decide) ⟨by simp [hasI, c1_420, c8_421], rfl⟩
abbrev MX8_valueAt : g_M := (yX8_valueAt, cX8_valueAt, 2, (some .int))
theorem dX8_valueAt_0 : decode cX8_valueAt 0 = .ok (.aload_n 0, 1) := by decide +kernel
theorem dX8_valueAt_1 : decode cX8_valueAt 1 = .ok (.iload_n 1, 1) := by decide +kernel
theorem dX8_valueAt_2 : decode cX8_valueAt 2 = .ok (.invokevirtual 25, 3) := by decide +kernel
theorem w_ml_X8_25 : Cond.methodLink RX8 25 yX8_has ∈ g_tbl := g_tbl_in 509 (by decide +kernel) (by decide +kernel)
theorem w_cd_X8_has : g_cw MX8_has ∈ g_tbl := g_tbl_in 512 (by decide +kernel) (by decide +kernel)
theorem cl_X8_25 : CL RX8 25 1 MX8_has := ⟨w_ml_X8_25, w_cd_X8_has, w_ini_X8, by decide +kernel, by decide +kernel, by decide +kernel⟩
theorem w_im_X8_has : Cond.instanceMethod yX8_has ∈ g_tbl := g_tbl_in 510 (by decide +kernel) (by decide +kernel)
theorem w_se_X8_has : Cond.selects RX8 yX8_has yX8_has ∈ g_tbl := g_tbl_in 511 (by decide +kernel) (by decide +kernel)
theorem dX8_valueAt_5 : decode cX8_valueAt 5 = .ok (.ifCond .eq 12, 3) := by decide +kernel
theorem dX8_valueAt_17 : decode cX8_valueAt 17 = .ok (.iconst 0, 1) := by decide +kernel
theorem dX8_valueAt_18 : decode cX8_valueAt 18 = .ok (.ireturn, 1) := by decide +kernel
theorem dX8_valueAt_8 : decode cX8_valueAt 8 = .ok (.aload_n 0, 1) := by decide +kernel
theorem dX8_valueAt_9 : decode cX8_valueAt 9 = .ok (.getfield 9, 3) := by decide +kernel
theorem dX8_valueAt_12 : decode cX8_valueAt 12 = .ok (.iload_n 1, 1) := by decide +kernel
theorem dX8_valueAt_13 : decode cX8_valueAt 13 = .ok (.iaload, 1) := by decide +kernel
theorem dX8_valueAt_14 : decode cX8_valueAt 14 = .ok (.goto 4, 3) := by decide +kernel
set_option maxRecDepth 100000 in
def fn_wk_X8_valueAt (sv_f : Nat → Int32) (i : Int32) (β : Type) (k_ : Int32 → β) : β := (if hasI i = 0 then (k_ 0) else (k_ (sv_f (Int32.toNatClampNeg i))))
set_option maxRecDepth 100000 in
theorem fn_wk_X8_valueAt_s {sv_f : Nat → Int32} {i : Int32} {β : Type} {k_ : Int32 → β} : fn_wk_X8_valueAt sv_f i β k_ = (if hasI i = 0 then (k_ 0) else (k_ (sv_f (Int32.toNatClampNeg i)))) := rfl
set_option maxRecDepth 100000 in
set_option maxHeartbeats 4000000 in
theorem wk_X8_valueAt (E : g_E) (sh : Nat) (sv : Nat) (sr : Nat) (sl : Nat) (sp : Nat) (sv_f : Nat → Int32) (i : Int32)  : Ev E MX8_valueAt 1 21 0 0 [.ref sh, .int i] [(sh, .inr (8, [.ref sv, .ref sr, .ref sl, .ref sp])), (sv, .inl (E.2.2.1 0, 1200, .inl sv_f))] (fun v_ w_ => ∃ zr : Int32, (∀ (β : Type) (k_ : Int32 → β), fn_wk_X8_valueAt sv_f i β k_ = k_ zr) ∧ v_ = some (.int zr) ∧ w_ = [(sh, .inr (8, [.ref sv, .ref sr, .ref sl, .ref sp])), (sv, .inl (E.2.2.1 0, 1200, .inl sv_f))]) := by
  refine Ev.intro (by decide) (Nat.le_of_ble_eq_true rfl) ?_
  intro X B hr hI
  have B : Bd E X cX8_valueAt RX8 2 1 21 0 0 := B
  have hr : Rt E X (some .int) 0 0 (fun v_ w_ => ∃ zr : Int32, (∀ (β : Type) (k_ : Int32 → β), fn_wk_X8_valueAt sv_f i β k_ = k_ zr) ∧ v_ = some (.int zr) ∧ w_ = [(sh, .inr (8, [.ref sv, .ref sr, .ref sl, .ref sp])), (sv, .inl (E.2.2.1 0, 1200, .inl sv_f))]) := hr
  have e_ := fun (β : Type) (k_ : Int32 → β) => fn_wk_X8_valueAt_s (β := β) (k_ := k_) (sv_f := sv_f) (i := i)
  show G E X 2 [(sh, .inr (8, [.ref sv, .ref sr, .ref sl, .ref sp])), (sv, .inl (E.2.2.1 0, 1200, .inl sv_f))] 0 0 [(0, .ref sh), (1, .int i)] 0 []
  refine g_aload_n B dX8_valueAt_0 rfl 0 rfl ?_
  refine g_iload_n B dX8_valueAt_1 rfl 1 rfl ?_
  refine g_callV (st := []) (As := [.int i]) (wr := [(sv, .inl (E.2.2.1 0, 1200, .inl sv_f))]) (nc' := 0) (ns' := 0) B cl_X8_25 w_im_X8_has w_se_X8_has (ev_X8_has E sh sv sr sl sp i ) rfl [0] [1] rfl rfl (by decide) (by decide) (by decide) 0 rfl (fun q h => by cases h; rfl) rfl ⟨by decide, by decide⟩ rfl rfl (by decide) (by decide) rfl (Nat.le_of_ble_eq_true rfl) dX8_valueAt_2 (fun v w hq => ?_)
  obtain ⟨rfl, rfl⟩ := hq
  show G E X 2 [(sv, .inl (E.2.2.1 0, 1200, .inl sv_f)), (sh, .inr (8, [.ref sv, .ref sr, .ref sl, .ref sp]))] 0 0 [(0, .ref sh), (1, .int i)] 5 [.int (hasI i)]
  refine g_if_eq (tgt := 17) B dX8_valueAt_5 (by decide) (fun c5_423 => ?_) (fun c5_423 => ?_)
  · replace e_ := fun β k_ => (e_ β k_).trans (if_pos c5_423)
    refine g_iconst (v := 0) B dX8_valueAt_17 (by decide) ?_
    refine g_sub (ws' := [(sh, .inr (8, [.ref sv, .ref sr, .ref sl, .ref sp])), (sv, .inl (E.2.2.1 0, 1200, .inl sv_f))]) [1, 0] (by decide) rfl ?_
    exact g_iret B hr dX8_valueAt_18 (by decide) (by decide) ⟨0, e_, rfl, rfl⟩
  · replace e_ := fun β k_ => (e_ β k_).trans (if_neg c5_423)
    refine g_aload_n B dX8_valueAt_8 rfl 0 rfl ?_
    refine g_get B 1 0 fl_X8_9 rfl rfl dX8_valueAt_9 ?_
    refine g_iload_n B dX8_valueAt_12 rfl 1 rfl ?_
    refine g_iald B 0 rfl (in_has c5_423) dX8_valueAt_13 ?_
    refine g_goto (tgt := 18) B dX8_valueAt_14 (by decide) ?_
    refine g_sub (ws' := [(sh, .inr (8, [.ref sv, .ref sr, .ref sl, .ref sp])), (sv, .inl (E.2.2.1 0, 1200, .inl sv_f))]) [1, 0] (by decide) rfl ?_
    exact g_iret B hr dX8_valueAt_18 (by decide) (by decide) ⟨(sv_f (Int32.toNatClampNeg i)), e_, rfl, rfl⟩
abbrev MX8_restAt : g_M := (yX8_restAt, cX8_restAt, 2, (some .int))
theorem dX8_restAt_0 : decode cX8_restAt 0 = .ok (.aload_n 0, 1) := by decide +kernel
theorem dX8_restAt_1 : decode cX8_restAt 1 = .ok (.iload_n 1, 1) := by decide +kernel
theorem dX8_restAt_2 : decode cX8_restAt 2 = .ok (.invokevirtual 25, 3) := by decide +kernel
theorem dX8_restAt_5 : decode cX8_restAt 5 = .ok (.ifCond .eq 12, 3) := by decide +kernel
theorem dX8_restAt_17 : decode cX8_restAt 17 = .ok (.iconst 0, 1) := by decide +kernel
theorem dX8_restAt_18 : decode cX8_restAt 18 = .ok (.ireturn, 1) := by decide +kernel
theorem dX8_restAt_8 : decode cX8_restAt 8 = .ok (.aload_n 0, 1) := by decide +kernel
theorem dX8_restAt_9 : decode cX8_restAt 9 = .ok (.getfield 15, 3) := by decide +kernel
theorem dX8_restAt_12 : decode cX8_restAt 12 = .ok (.iload_n 1, 1) := by decide +kernel
theorem dX8_restAt_13 : decode cX8_restAt 13 = .ok (.iaload, 1) := by decide +kernel
theorem dX8_restAt_14 : decode cX8_restAt 14 = .ok (.goto 4, 3) := by decide +kernel
set_option maxRecDepth 100000 in
def fn_wk_X8_restAt (sr_f : Nat → Int32) (i : Int32) (β : Type) (k_ : Int32 → β) : β := (if hasI i = 0 then (k_ 0) else (k_ (sr_f (Int32.toNatClampNeg i))))
set_option maxRecDepth 100000 in
theorem fn_wk_X8_restAt_s {sr_f : Nat → Int32} {i : Int32} {β : Type} {k_ : Int32 → β} : fn_wk_X8_restAt sr_f i β k_ = (if hasI i = 0 then (k_ 0) else (k_ (sr_f (Int32.toNatClampNeg i)))) := rfl
set_option maxRecDepth 100000 in
set_option maxHeartbeats 4000000 in
theorem wk_X8_restAt (E : g_E) (sh : Nat) (sv : Nat) (sr : Nat) (sl : Nat) (sp : Nat) (sr_f : Nat → Int32) (i : Int32)  : Ev E MX8_restAt 1 21 0 0 [.ref sh, .int i] [(sh, .inr (8, [.ref sv, .ref sr, .ref sl, .ref sp])), (sr, .inl (E.2.2.1 0, 1200, .inl sr_f))] (fun v_ w_ => ∃ zr : Int32, (∀ (β : Type) (k_ : Int32 → β), fn_wk_X8_restAt sr_f i β k_ = k_ zr) ∧ v_ = some (.int zr) ∧ w_ = [(sh, .inr (8, [.ref sv, .ref sr, .ref sl, .ref sp])), (sr, .inl (E.2.2.1 0, 1200, .inl sr_f))]) := by
  refine Ev.intro (by decide) (Nat.le_of_ble_eq_true rfl) ?_
  intro X B hr hI
  have B : Bd E X cX8_restAt RX8 2 1 21 0 0 := B
  have hr : Rt E X (some .int) 0 0 (fun v_ w_ => ∃ zr : Int32, (∀ (β : Type) (k_ : Int32 → β), fn_wk_X8_restAt sr_f i β k_ = k_ zr) ∧ v_ = some (.int zr) ∧ w_ = [(sh, .inr (8, [.ref sv, .ref sr, .ref sl, .ref sp])), (sr, .inl (E.2.2.1 0, 1200, .inl sr_f))]) := hr
  have e_ := fun (β : Type) (k_ : Int32 → β) => fn_wk_X8_restAt_s (β := β) (k_ := k_) (sr_f := sr_f) (i := i)
  show G E X 2 [(sh, .inr (8, [.ref sv, .ref sr, .ref sl, .ref sp])), (sr, .inl (E.2.2.1 0, 1200, .inl sr_f))] 0 0 [(0, .ref sh), (1, .int i)] 0 []
  refine g_aload_n B dX8_restAt_0 rfl 0 rfl ?_
  refine g_iload_n B dX8_restAt_1 rfl 1 rfl ?_
  refine g_callV (st := []) (As := [.int i]) (wr := [(sr, .inl (E.2.2.1 0, 1200, .inl sr_f))]) (nc' := 0) (ns' := 0) B cl_X8_25 w_im_X8_has w_se_X8_has (ev_X8_has E sh sv sr sl sp i ) rfl [0] [1] rfl rfl (by decide) (by decide) (by decide) 0 rfl (fun q h => by cases h; rfl) rfl ⟨by decide, by decide⟩ rfl rfl (by decide) (by decide) rfl (Nat.le_of_ble_eq_true rfl) dX8_restAt_2 (fun v w hq => ?_)
  obtain ⟨rfl, rfl⟩ := hq
  show G E X 2 [(sr, .inl (E.2.2.1 0, 1200, .inl sr_f)), (sh, .inr (8, [.ref sv, .ref sr, .ref sl, .ref sp]))] 0 0 [(0, .ref sh), (1, .int i)] 5 [.int (hasI i)]
  refine g_if_eq (tgt := 17) B dX8_restAt_5 (by decide) (fun c5_425 => ?_) (fun c5_425 => ?_)
  · replace e_ := fun β k_ => (e_ β k_).trans (if_pos c5_425)
    refine g_iconst (v := 0) B dX8_restAt_17 (by decide) ?_
    refine g_sub (ws' := [(sh, .inr (8, [.ref sv, .ref sr, .ref sl, .ref sp])), (sr, .inl (E.2.2.1 0, 1200, .inl sr_f))]) [1, 0] (by decide) rfl ?_
    exact g_iret B hr dX8_restAt_18 (by decide) (by decide) ⟨0, e_, rfl, rfl⟩
  · replace e_ := fun β k_ => (e_ β k_).trans (if_neg c5_425)
    refine g_aload_n B dX8_restAt_8 rfl 0 rfl ?_
    refine g_get B 1 1 fl_X8_15 rfl rfl dX8_restAt_9 ?_
    refine g_iload_n B dX8_restAt_12 rfl 1 rfl ?_
    refine g_iald B 0 rfl (in_has c5_425) dX8_restAt_13 ?_
    refine g_goto (tgt := 18) B dX8_restAt_14 (by decide) ?_
    refine g_sub (ws' := [(sh, .inr (8, [.ref sv, .ref sr, .ref sl, .ref sp])), (sr, .inl (E.2.2.1 0, 1200, .inl sr_f))]) [1, 0] (by decide) rfl ?_
    exact g_iret B hr dX8_restAt_18 (by decide) (by decide) ⟨(sr_f (Int32.toNatClampNeg i)), e_, rfl, rfl⟩
abbrev MX8_putRest : g_M := (yX8_putRest, cX8_putRest, 3, none)
theorem dX8_putRest_0 : decode cX8_putRest 0 = .ok (.aload_n 0, 1) := by decide +kernel
theorem dX8_putRest_1 : decode cX8_putRest 1 = .ok (.iload_n 1, 1) := by decide +kernel
theorem dX8_putRest_2 : decode cX8_putRest 2 = .ok (.invokevirtual 25, 3) := by decide +kernel
theorem dX8_putRest_5 : decode cX8_putRest 5 = .ok (.ifCond .eq 10, 3) := by decide +kernel
theorem dX8_putRest_15 : decode cX8_putRest 15 = .ok (.return_, 1) := by decide +kernel
theorem dX8_putRest_8 : decode cX8_putRest 8 = .ok (.aload_n 0, 1) := by decide +kernel
theorem dX8_putRest_9 : decode cX8_putRest 9 = .ok (.getfield 15, 3) := by decide +kernel
theorem dX8_putRest_12 : decode cX8_putRest 12 = .ok (.iload_n 1, 1) := by decide +kernel
theorem dX8_putRest_13 : decode cX8_putRest 13 = .ok (.iload_n 2, 1) := by decide +kernel
theorem dX8_putRest_14 : decode cX8_putRest 14 = .ok (.iastore, 1) := by decide +kernel
set_option maxRecDepth 100000 in
def fn_wk_X8_putRest (sr_f : Nat → Int32) (i : Int32) (re : Int32) (β : Type) (k_ : (Nat → Int32) → β) : β := (if hasI i = 0 then (k_ sr_f) else (k_ (upd sr_f (Int32.toNatClampNeg i) re)))
set_option maxRecDepth 100000 in
theorem fn_wk_X8_putRest_s {sr_f : Nat → Int32} {i : Int32} {re : Int32} {β : Type} {k_ : (Nat → Int32) → β} : fn_wk_X8_putRest sr_f i re β k_ = (if hasI i = 0 then (k_ sr_f) else (k_ (upd sr_f (Int32.toNatClampNeg i) re))) := rfl
set_option maxRecDepth 100000 in
set_option maxHeartbeats 4000000 in
theorem wk_X8_putRest (E : g_E) (sh : Nat) (sv : Nat) (sr : Nat) (sl : Nat) (sp : Nat) (sr_f : Nat → Int32) (i : Int32) (re : Int32)  : Ev E MX8_putRest 1 21 0 0 [.ref sh, .int i, .int re] [(sh, .inr (8, [.ref sv, .ref sr, .ref sl, .ref sp])), (sr, .inl (E.2.2.1 0, 1200, .inl sr_f))] (fun v_ w_ => ∃ zsr_f : Nat → Int32, (∀ (β : Type) (k_ : (Nat → Int32) → β), fn_wk_X8_putRest sr_f i re β k_ = k_ zsr_f) ∧ v_ = none ∧ w_ = [(sh, .inr (8, [.ref sv, .ref sr, .ref sl, .ref sp])), (sr, .inl (E.2.2.1 0, 1200, .inl zsr_f))]) := by
  refine Ev.intro (by decide) (Nat.le_of_ble_eq_true rfl) ?_
  intro X B hr hI
  have B : Bd E X cX8_putRest RX8 3 1 21 0 0 := B
  have hr : Rt E X none 0 0 (fun v_ w_ => ∃ zsr_f : Nat → Int32, (∀ (β : Type) (k_ : (Nat → Int32) → β), fn_wk_X8_putRest sr_f i re β k_ = k_ zsr_f) ∧ v_ = none ∧ w_ = [(sh, .inr (8, [.ref sv, .ref sr, .ref sl, .ref sp])), (sr, .inl (E.2.2.1 0, 1200, .inl zsr_f))]) := hr
  have e_ := fun (β : Type) (k_ : (Nat → Int32) → β) => fn_wk_X8_putRest_s (β := β) (k_ := k_) (sr_f := sr_f) (i := i) (re := re)
  show G E X 3 [(sh, .inr (8, [.ref sv, .ref sr, .ref sl, .ref sp])), (sr, .inl (E.2.2.1 0, 1200, .inl sr_f))] 0 0 [(0, .ref sh), (1, .int i), (2, .int re)] 0 []
  refine g_aload_n B dX8_putRest_0 rfl 0 rfl ?_
  refine g_iload_n B dX8_putRest_1 rfl 1 rfl ?_
  refine g_callV (st := []) (As := [.int i]) (wr := [(sr, .inl (E.2.2.1 0, 1200, .inl sr_f))]) (nc' := 0) (ns' := 0) B cl_X8_25 w_im_X8_has w_se_X8_has (ev_X8_has E sh sv sr sl sp i ) rfl [0] [1] rfl rfl (by decide) (by decide) (by decide) 0 rfl (fun q h => by cases h; rfl) rfl ⟨by decide, by decide⟩ rfl rfl (by decide) (by decide) rfl (Nat.le_of_ble_eq_true rfl) dX8_putRest_2 (fun v w hq => ?_)
  obtain ⟨rfl, rfl⟩ := hq
  show G E X 3 [(sr, .inl (E.2.2.1 0, 1200, .inl sr_f)), (sh, .inr (8, [.ref sv, .ref sr, .ref sl, .ref sp]))] 0 0 [(0, .ref sh), (1, .int i), (2, .int re)] 5 [.int (hasI i)]
  refine g_if_eq (tgt := 15) B dX8_putRest_5 (by decide) (fun c5_427 => ?_) (fun c5_427 => ?_)
  · replace e_ := fun β k_ => (e_ β k_).trans (if_pos c5_427)
    refine g_sub (ws' := [(sh, .inr (8, [.ref sv, .ref sr, .ref sl, .ref sp])), (sr, .inl (E.2.2.1 0, 1200, .inl sr_f))]) [1, 0] (by decide) rfl ?_
    exact g_vret B hr dX8_putRest_15 (by decide) (by decide) ⟨sr_f, e_, rfl, rfl⟩
  · replace e_ := fun β k_ => (e_ β k_).trans (if_neg c5_427)
    refine g_aload_n B dX8_putRest_8 rfl 0 rfl ?_
    refine g_get B 1 1 fl_X8_15 rfl rfl dX8_putRest_9 ?_
    refine g_iload_n B dX8_putRest_12 rfl 1 rfl ?_
    refine g_iload_n B dX8_putRest_13 rfl 2 rfl ?_
    refine g_iast (ws' := [(sr, .inl (E.2.2.1 0, 1200, .inl (upd sr_f (Int32.toNatClampNeg i) re))), (sh, .inr (8, [.ref sv, .ref sr, .ref sl, .ref sp]))]) B 0 rfl (in_has c5_427) rfl dX8_putRest_14 ?_
    refine g_sub (ws' := [(sh, .inr (8, [.ref sv, .ref sr, .ref sl, .ref sp])), (sr, .inl (E.2.2.1 0, 1200, .inl (upd sr_f (Int32.toNatClampNeg i) re)))]) [1, 0] (by decide) rfl ?_
    exact g_vret B hr dX8_putRest_15 (by decide) (by decide) ⟨(upd sr_f (Int32.toNatClampNeg i) re), e_, rfl, rfl⟩
abbrev MX8_putRead : g_M := (yX8_putRead, cX8_putRead, 8, none)
theorem dX8_putRead_0 : decode cX8_putRead 0 = .ok (.aload_n 0, 1) := by decide +kernel
theorem dX8_putRead_1 : decode cX8_putRead 1 = .ok (.iload_n 1, 1) := by decide +kernel
theorem dX8_putRead_2 : decode cX8_putRead 2 = .ok (.invokevirtual 25, 3) := by decide +kernel
theorem dX8_putRead_5 : decode cX8_putRead 5 = .ok (.ifCond .eq 39, 3) := by decide +kernel
theorem dX8_putRead_44 : decode cX8_putRead 44 = .ok (.return_, 1) := by decide +kernel
theorem dX8_putRead_8 : decode cX8_putRead 8 = .ok (.aload_n 0, 1) := by decide +kernel
theorem dX8_putRead_9 : decode cX8_putRead 9 = .ok (.getfield 9, 3) := by decide +kernel
theorem dX8_putRead_12 : decode cX8_putRead 12 = .ok (.iload_n 1, 1) := by decide +kernel
theorem dX8_putRead_13 : decode cX8_putRead 13 = .ok (.iload_n 2, 1) := by decide +kernel
theorem dX8_putRead_14 : decode cX8_putRead 14 = .ok (.iastore, 1) := by decide +kernel
theorem dX8_putRead_15 : decode cX8_putRead 15 = .ok (.aload_n 0, 1) := by decide +kernel
theorem dX8_putRead_16 : decode cX8_putRead 16 = .ok (.getfield 15, 3) := by decide +kernel
theorem dX8_putRead_19 : decode cX8_putRead 19 = .ok (.iload_n 1, 1) := by decide +kernel
theorem dX8_putRead_20 : decode cX8_putRead 20 = .ok (.iload_n 3, 1) := by decide +kernel
theorem dX8_putRead_21 : decode cX8_putRead 21 = .ok (.iastore, 1) := by decide +kernel
theorem dX8_putRead_22 : decode cX8_putRead 22 = .ok (.aload_n 0, 1) := by decide +kernel
theorem dX8_putRead_23 : decode cX8_putRead 23 = .ok (.getfield 18, 3) := by decide +kernel
theorem dX8_putRead_26 : decode cX8_putRead 26 = .ok (.iload_n 1, 1) := by decide +kernel
theorem dX8_putRead_27 : decode cX8_putRead 27 = .ok (.lload 4, 2) := by decide +kernel
theorem dX8_putRead_29 : decode cX8_putRead 29 = .ok (.lastore, 1) := by decide +kernel
theorem dX8_putRead_30 : decode cX8_putRead 30 = .ok (.aload_n 0, 1) := by decide +kernel
theorem dX8_putRead_31 : decode cX8_putRead 31 = .ok (.getfield 22, 3) := by decide +kernel
theorem dX8_putRead_34 : decode cX8_putRead 34 = .ok (.iload_n 1, 1) := by decide +kernel
theorem dX8_putRead_35 : decode cX8_putRead 35 = .ok (.lload 6, 2) := by decide +kernel
theorem dX8_putRead_37 : decode cX8_putRead 37 = .ok (.lload 4, 2) := by decide +kernel
theorem dX8_putRead_39 : decode cX8_putRead 39 = .ok (.lsub, 1) := by decide +kernel
theorem dX8_putRead_40 : decode cX8_putRead 40 = .ok (.lconst 1, 1) := by decide +kernel
theorem dX8_putRead_41 : decode cX8_putRead 41 = .ok (.ladd, 1) := by decide +kernel
theorem dX8_putRead_42 : decode cX8_putRead 42 = .ok (.l2i, 1) := by decide +kernel
theorem dX8_putRead_43 : decode cX8_putRead 43 = .ok (.iastore, 1) := by decide +kernel
set_option maxRecDepth 100000 in
def fn_wk_X8_putRead (sv_f : Nat → Int32) (sr_f : Nat → Int32) (sl_f : Nat → Int64) (sp_f : Nat → Int32) (i : Int32) (va : Int32) (re : Int32) (lo_ : Int64) (hi_ : Int64) (β : Type) (k_ : (Nat → Int32) → (Nat → Int32) → (Nat → Int64) → (Nat → Int32) → β) : β := (if hasI i = 0 then (k_ sv_f sr_f sl_f sp_f) else (k_ (upd sv_f (Int32.toNatClampNeg i) va) (upd sr_f (Int32.toNatClampNeg i) re) (vp_updL sl_f (Int32.toNatClampNeg i) lo_) (upd sp_f (Int32.toNatClampNeg i) (Int64.toInt32 ((hi_ - lo_) + 1)))))
set_option maxRecDepth 100000 in
theorem fn_wk_X8_putRead_s {sv_f : Nat → Int32} {sr_f : Nat → Int32} {sl_f : Nat → Int64} {sp_f : Nat → Int32} {i : Int32} {va : Int32} {re : Int32} {lo_ : Int64} {hi_ : Int64} {β : Type} {k_ : (Nat → Int32) → (Nat → Int32) → (Nat → Int64) → (Nat → Int32) → β} : fn_wk_X8_putRead sv_f sr_f sl_f sp_f i va re lo_ hi_ β k_ = (if hasI i = 0 then (k_ sv_f sr_f sl_f sp_f) else (k_ (upd sv_f (Int32.toNatClampNeg i) va) (upd sr_f (Int32.toNatClampNeg i) re) (vp_updL sl_f (Int32.toNatClampNeg i) lo_) (upd sp_f (Int32.toNatClampNeg i) (Int64.toInt32 ((hi_ - lo_) + 1))))) := rfl
set_option maxRecDepth 100000 in
set_option maxHeartbeats 4000000 in
theorem wk_X8_putRead (E : g_E) (sh : Nat) (sv : Nat) (sr : Nat) (sl : Nat) (sp : Nat) (sv_f : Nat → Int32) (sr_f : Nat → Int32) (sl_f : Nat → Int64) (sp_f : Nat → Int32) (i : Int32) (va : Int32) (re : Int32) (lo_ : Int64) (hi_ : Int64)  : Ev E MX8_putRead 1 21 0 0 [.ref sh, .int i, .int va, .int re, .long lo_, .long hi_] [(sh, .inr (8, [.ref sv, .ref sr, .ref sl, .ref sp])), (sv, .inl (E.2.2.1 0, 1200, .inl sv_f)), (sr, .inl (E.2.2.1 0, 1200, .inl sr_f)), (sl, .inl (E.2.2.1 3, 1200, .inr (.inl sl_f))), (sp, .inl (E.2.2.1 0, 1200, .inl sp_f))] (fun v_ w_ => ∃ zsv_f : Nat → Int32, ∃ zsr_f : Nat → Int32, ∃ zsl_f : Nat → Int64, ∃ zsp_f : Nat → Int32, (∀ (β : Type) (k_ : (Nat → Int32) → (Nat → Int32) → (Nat → Int64) → (Nat → Int32) → β), fn_wk_X8_putRead sv_f sr_f sl_f sp_f i va re lo_ hi_ β k_ = k_ zsv_f zsr_f zsl_f zsp_f) ∧ v_ = none ∧ w_ = [(sh, .inr (8, [.ref sv, .ref sr, .ref sl, .ref sp])), (sv, .inl (E.2.2.1 0, 1200, .inl zsv_f)), (sr, .inl (E.2.2.1 0, 1200, .inl zsr_f)), (sl, .inl (E.2.2.1 3, 1200, .inr (.inl zsl_f))), (sp, .inl (E.2.2.1 0, 1200, .inl zsp_f))]) := by
  refine Ev.intro (by decide) (Nat.le_of_ble_eq_true rfl) ?_
  intro X B hr hI
  have B : Bd E X cX8_putRead RX8 8 1 21 0 0 := B
  have hr : Rt E X none 0 0 (fun v_ w_ => ∃ zsv_f : Nat → Int32, ∃ zsr_f : Nat → Int32, ∃ zsl_f : Nat → Int64, ∃ zsp_f : Nat → Int32, (∀ (β : Type) (k_ : (Nat → Int32) → (Nat → Int32) → (Nat → Int64) → (Nat → Int32) → β), fn_wk_X8_putRead sv_f sr_f sl_f sp_f i va re lo_ hi_ β k_ = k_ zsv_f zsr_f zsl_f zsp_f) ∧ v_ = none ∧ w_ = [(sh, .inr (8, [.ref sv, .ref sr, .ref sl, .ref sp])), (sv, .inl (E.2.2.1 0, 1200, .inl zsv_f)), (sr, .inl (E.2.2.1 0, 1200, .inl zsr_f)), (sl, .inl (E.2.2.1 3, 1200, .inr (.inl zsl_f))), (sp, .inl (E.2.2.1 0, 1200, .inl zsp_f))]) := hr
  have e_ := fun (β : Type) (k_ : (Nat → Int32) → (Nat → Int32) → (Nat → Int64) → (Nat → Int32) → β) => fn_wk_X8_putRead_s (β := β) (k_ := k_) (sv_f := sv_f) (sr_f := sr_f) (sl_f := sl_f) (sp_f := sp_f) (i := i) (va := va) (re := re) (lo_ := lo_) (hi_ := hi_)
  show G E X 8 [(sh, .inr (8, [.ref sv, .ref sr, .ref sl, .ref sp])), (sv, .inl (E.2.2.1 0, 1200, .inl sv_f)), (sr, .inl (E.2.2.1 0, 1200, .inl sr_f)), (sl, .inl (E.2.2.1 3, 1200, .inr (.inl sl_f))), (sp, .inl (E.2.2.1 0, 1200, .inl sp_f))] 0 0 [(0, .ref sh), (1, .int i), (2, .int va), (3, .int re), (4, .long lo_), (6, .long hi_)] 0 []
  refine g_aload_n B dX8_putRead_0 rfl 0 rfl ?_
  refine g_iload_n B dX8_putRead_1 rfl 1 rfl ?_
  refine g_callV (st := []) (As := [.int i]) (wr := [(sv, .inl (E.2.2.1 0, 1200, .inl sv_f)), (sr, .inl (E.2.2.1 0, 1200, .inl sr_f)), (sl, .inl (E.2.2.1 3, 1200, .inr (.inl sl_f))), (sp, .inl (E.2.2.1 0, 1200, .inl sp_f))]) (nc' := 0) (ns' := 0) B cl_X8_25 w_im_X8_has w_se_X8_has (ev_X8_has E sh sv sr sl sp i ) rfl [0] [1, 2, 3, 4] rfl rfl (by decide) (by decide) (by decide) 0 rfl (fun q h => by cases h; rfl) rfl ⟨by decide, by decide⟩ rfl rfl (by decide) (by decide) rfl (Nat.le_of_ble_eq_true rfl) dX8_putRead_2 (fun v w hq => ?_)
  obtain ⟨rfl, rfl⟩ := hq
  show G E X 8 [(sv, .inl (E.2.2.1 0, 1200, .inl sv_f)), (sr, .inl (E.2.2.1 0, 1200, .inl sr_f)), (sl, .inl (E.2.2.1 3, 1200, .inr (.inl sl_f))), (sp, .inl (E.2.2.1 0, 1200, .inl sp_f)), (sh, .inr (8, [.ref sv, .ref sr, .ref sl, .ref sp]))] 0 0 [(0, .ref sh), (1, .int i), (2, .int va), (3, .int re), (4, .long lo_), (6, .long hi_)] 5 [.int (hasI i)]
  refine g_if_eq (tgt := 44) B dX8_putRead_5 (by decide) (fun c5_429 => ?_) (fun c5_429 => ?_)
  · replace e_ := fun β k_ => (e_ β k_).trans (if_pos c5_429)
    refine g_sub (ws' := [(sh, .inr (8, [.ref sv, .ref sr, .ref sl, .ref sp])), (sv, .inl (E.2.2.1 0, 1200, .inl sv_f)), (sr, .inl (E.2.2.1 0, 1200, .inl sr_f)), (sl, .inl (E.2.2.1 3, 1200, .inr (.inl sl_f))), (sp, .inl (E.2.2.1 0, 1200, .inl sp_f))]) [4, 0, 1, 2, 3] (by decide) rfl ?_
    exact g_vret B hr dX8_putRead_44 (by decide) (by decide) ⟨sv_f, sr_f, sl_f, sp_f, e_, rfl, rfl⟩
  · replace e_ := fun β k_ => (e_ β k_).trans (if_neg c5_429)
    refine g_aload_n B dX8_putRead_8 rfl 0 rfl ?_
    refine g_get B 4 0 fl_X8_9 rfl rfl dX8_putRead_9 ?_
    refine g_iload_n B dX8_putRead_12 rfl 1 rfl ?_
    refine g_iload_n B dX8_putRead_13 rfl 2 rfl ?_
    refine g_iast (ws' := [(sv, .inl (E.2.2.1 0, 1200, .inl (upd sv_f (Int32.toNatClampNeg i) va))), (sr, .inl (E.2.2.1 0, 1200, .inl sr_f)), (sl, .inl (E.2.2.1 3, 1200, .inr (.inl sl_f))), (sp, .inl (E.2.2.1 0, 1200, .inl sp_f)), (sh, .inr (8, [.ref sv, .ref sr, .ref sl, .ref sp]))]) B 0 rfl (in_has c5_429) rfl dX8_putRead_14 ?_
    refine g_aload_n B dX8_putRead_15 rfl 0 rfl ?_
    refine g_get B 4 1 fl_X8_15 rfl rfl dX8_putRead_16 ?_
    refine g_iload_n B dX8_putRead_19 rfl 1 rfl ?_
    refine g_iload_n B dX8_putRead_20 rfl 3 rfl ?_
    refine g_iast (ws' := [(sv, .inl (E.2.2.1 0, 1200, .inl (upd sv_f (Int32.toNatClampNeg i) va))), (sr, .inl (E.2.2.1 0, 1200, .inl (upd sr_f (Int32.toNatClampNeg i) re))), (sl, .inl (E.2.2.1 3, 1200, .inr (.inl sl_f))), (sp, .inl (E.2.2.1 0, 1200, .inl sp_f)), (sh, .inr (8, [.ref sv, .ref sr, .ref sl, .ref sp]))]) B 1 rfl (in_has c5_429) rfl dX8_putRead_21 ?_
    refine g_aload_n B dX8_putRead_22 rfl 0 rfl ?_
    refine g_get B 4 2 fl_X8_18 rfl rfl dX8_putRead_23 ?_
    refine g_iload_n B dX8_putRead_26 rfl 1 rfl ?_
    refine g_lload B dX8_putRead_27 4 rfl ?_
    refine g_last (ws' := [(sv, .inl (E.2.2.1 0, 1200, .inl (upd sv_f (Int32.toNatClampNeg i) va))), (sr, .inl (E.2.2.1 0, 1200, .inl (upd sr_f (Int32.toNatClampNeg i) re))), (sl, .inl (E.2.2.1 3, 1200, .inr (.inl (vp_updL sl_f (Int32.toNatClampNeg i) lo_)))), (sp, .inl (E.2.2.1 0, 1200, .inl sp_f)), (sh, .inr (8, [.ref sv, .ref sr, .ref sl, .ref sp]))]) B 2 rfl (in_has c5_429) rfl dX8_putRead_29 ?_
    refine g_aload_n B dX8_putRead_30 rfl 0 rfl ?_
    refine g_get B 4 3 fl_X8_22 rfl rfl dX8_putRead_31 ?_
    refine g_iload_n B dX8_putRead_34 rfl 1 rfl ?_
    refine g_lload B dX8_putRead_35 5 rfl ?_
    refine g_lload B dX8_putRead_37 4 rfl ?_
    refine g_lsub B dX8_putRead_39 ?_
    refine g_lconst (v := 1) B dX8_putRead_40 (by decide) ?_
    refine g_ladd B dX8_putRead_41 ?_
    refine g_l2i B dX8_putRead_42 ?_
    refine g_iast (ws' := [(sv, .inl (E.2.2.1 0, 1200, .inl (upd sv_f (Int32.toNatClampNeg i) va))), (sr, .inl (E.2.2.1 0, 1200, .inl (upd sr_f (Int32.toNatClampNeg i) re))), (sl, .inl (E.2.2.1 3, 1200, .inr (.inl (vp_updL sl_f (Int32.toNatClampNeg i) lo_)))), (sp, .inl (E.2.2.1 0, 1200, .inl (upd sp_f (Int32.toNatClampNeg i) (Int64.toInt32 ((hi_ - lo_) + 1))))), (sh, .inr (8, [.ref sv, .ref sr, .ref sl, .ref sp]))]) B 3 rfl (in_has c5_429) rfl dX8_putRead_43 ?_
    refine g_sub (ws' := [(sh, .inr (8, [.ref sv, .ref sr, .ref sl, .ref sp])), (sv, .inl (E.2.2.1 0, 1200, .inl (upd sv_f (Int32.toNatClampNeg i) va))), (sr, .inl (E.2.2.1 0, 1200, .inl (upd sr_f (Int32.toNatClampNeg i) re))), (sl, .inl (E.2.2.1 3, 1200, .inr (.inl (vp_updL sl_f (Int32.toNatClampNeg i) lo_)))), (sp, .inl (E.2.2.1 0, 1200, .inl (upd sp_f (Int32.toNatClampNeg i) (Int64.toInt32 ((hi_ - lo_) + 1)))))]) [4, 0, 1, 2, 3] (by decide) rfl ?_
    exact g_vret B hr dX8_putRead_44 (by decide) (by decide) ⟨(upd sv_f (Int32.toNatClampNeg i) va), (upd sr_f (Int32.toNatClampNeg i) re), (vp_updL sl_f (Int32.toNatClampNeg i) lo_), (upd sp_f (Int32.toNatClampNeg i) (Int64.toInt32 ((hi_ - lo_) + 1))), e_, rfl, rfl⟩
theorem fd_nat {i : Int32} {n c : Nat} (hn : n ≤ 600) (hc : c ≤ 2) (h0 : ¬ i < 0) (h1 : i < nI n) : ∃ k : Nat, k ≤ 1200 ∧ i * nI c = nI k := by
  rcases pk_ix i (n := n) (by omega) with h | h | ⟨j, hj, rfl⟩
  · exact absurd h h0
  · exact absurd h1 (o_4 h)
  · have h2 : j * c ≤ j * 2 := Nat.mul_le_mul_left j hc
    exact ⟨j * c, by omega, pk_mul j c⟩
theorem fd_all {n c : Nat} (hn : n ≤ 600) (hc : c ≤ 2) : n * c ≤ 1200 := by
  have h2 : n * c ≤ n * 2 := Nat.mul_le_mul_left n hc
  omega
abbrev MX8_fold : g_M := (yX8_fold, cX8_fold, 10, none)
theorem dX8_fold_0 : decode cX8_fold 0 = .ok (.iconst 0, 1) := by decide +kernel
theorem dX8_fold_1 : decode cX8_fold 1 = .ok (.istore_n 3, 1) := by decide +kernel
theorem dX8_fold_2 : decode cX8_fold 2 = .ok (.iload_n 3, 1) := by decide +kernel
theorem dX8_fold_3 : decode cX8_fold 3 = .ok (.aload_n 1, 1) := by decide +kernel
theorem dX8_fold_4 : decode cX8_fold 4 = .ok (.getfield 29, 3) := by decide +kernel
theorem w_fl_X8_29 : Cond.fieldLink RX8 29 (TX9 4).1 (TX9 4).2.1 (TX9 4).2.2.1 ∈ g_tbl := g_tbl_in 327 (by decide +kernel) (by decide +kernel)
theorem fl_X8_29 : FL RX8 29 9 4 := ⟨RX9, TX9, 12, rfl, by decide, inX_X9, w_fl_X8_29⟩
theorem dX8_fold_7 : decode cX8_fold 7 = .ok (.if_icmp .ge 162, 3) := by decide +kernel
theorem dX8_fold_10 : decode cX8_fold 10 = .ok (.iload_n 3, 1) := by decide +kernel
theorem dX8_fold_11 : decode cX8_fold 11 = .ok (.aload_n 1, 1) := by decide +kernel
theorem dX8_fold_12 : decode cX8_fold 12 = .ok (.getfield 35, 3) := by decide +kernel
theorem w_fl_X8_35 : Cond.fieldLink RX8 35 (TX9 2).1 (TX9 2).2.1 (TX9 2).2.2.1 ∈ g_tbl := g_tbl_in 318 (by decide +kernel) (by decide +kernel)
theorem fl_X8_35 : FL RX8 35 9 2 := ⟨RX9, TX9, 12, rfl, by decide, inX_X9, w_fl_X8_35⟩
theorem dX8_fold_15 : decode cX8_fold 15 = .ok (.imul, 1) := by decide +kernel
theorem dX8_fold_16 : decode cX8_fold 16 = .ok (.istore 4, 2) := by decide +kernel
theorem dX8_fold_18 : decode cX8_fold 18 = .ok (.iload_n 3, 1) := by decide +kernel
theorem dX8_fold_19 : decode cX8_fold 19 = .ok (.aload_n 1, 1) := by decide +kernel
theorem dX8_fold_20 : decode cX8_fold 20 = .ok (.getfield 38, 3) := by decide +kernel
theorem w_fl_X8_38 : Cond.fieldLink RX8 38 (TX9 3).1 (TX9 3).2.1 (TX9 3).2.2.1 ∈ g_tbl := g_tbl_in 322 (by decide +kernel) (by decide +kernel)
theorem fl_X8_38 : FL RX8 38 9 3 := ⟨RX9, TX9, 12, rfl, by decide, inX_X9, w_fl_X8_38⟩
theorem dX8_fold_23 : decode cX8_fold 23 = .ok (.imul, 1) := by decide +kernel
theorem dX8_fold_24 : decode cX8_fold 24 = .ok (.istore 5, 2) := by decide +kernel
theorem dX8_fold_26 : decode cX8_fold 26 = .ok (.iload 4, 2) := by decide +kernel
theorem dX8_fold_28 : decode cX8_fold 28 = .ok (.aload_n 1, 1) := by decide +kernel
theorem dX8_fold_29 : decode cX8_fold 29 = .ok (.getfield 35, 3) := by decide +kernel
theorem dX8_fold_32 : decode cX8_fold 32 = .ok (.iadd, 1) := by decide +kernel
theorem dX8_fold_33 : decode cX8_fold 33 = .ok (.aload_n 2, 1) := by decide +kernel
theorem dX8_fold_34 : decode cX8_fold 34 = .ok (.arraylength, 1) := by decide +kernel
theorem dX8_fold_35 : decode cX8_fold 35 = .ok (.if_icmp .gt 18, 3) := by decide +kernel
theorem dX8_fold_53 : decode cX8_fold 53 = .ok (.return_, 1) := by decide +kernel
theorem dX8_fold_38 : decode cX8_fold 38 = .ok (.iload 5, 2) := by decide +kernel
theorem dX8_fold_40 : decode cX8_fold 40 = .ok (.aload_n 1, 1) := by decide +kernel
theorem dX8_fold_41 : decode cX8_fold 41 = .ok (.getfield 38, 3) := by decide +kernel
theorem dX8_fold_44 : decode cX8_fold 44 = .ok (.iadd, 1) := by decide +kernel
theorem dX8_fold_45 : decode cX8_fold 45 = .ok (.aload_n 0, 1) := by decide +kernel
theorem dX8_fold_46 : decode cX8_fold 46 = .ok (.getfield 9, 3) := by decide +kernel
theorem dX8_fold_49 : decode cX8_fold 49 = .ok (.arraylength, 1) := by decide +kernel
theorem dX8_fold_50 : decode cX8_fold 50 = .ok (.if_icmp .le 4, 3) := by decide +kernel
theorem dX8_fold_54 : decode cX8_fold 54 = .ok (.aload_n 2, 1) := by decide +kernel
theorem dX8_fold_55 : decode cX8_fold 55 = .ok (.iload 4, 2) := by decide +kernel
theorem dX8_fold_57 : decode cX8_fold 57 = .ok (.iaload, 1) := by decide +kernel
theorem dX8_fold_58 : decode cX8_fold 58 = .ok (.aload_n 1, 1) := by decide +kernel
theorem dX8_fold_59 : decode cX8_fold 59 = .ok (.getfield 41, 3) := by decide +kernel
theorem w_fl_X8_41 : Cond.fieldLink RX8 41 (TX9 6).1 (TX9 6).2.1 (TX9 6).2.2.1 ∈ g_tbl := g_tbl_in 333 (by decide +kernel) (by decide +kernel)
theorem fl_X8_41 : FL RX8 41 9 6 := ⟨RX9, TX9, 12, rfl, by decide, inX_X9, w_fl_X8_41⟩
theorem dX8_fold_62 : decode cX8_fold 62 = .ok (.ishr, 1) := by decide +kernel
theorem dX8_fold_63 : decode cX8_fold 63 = .ok (.istore 6, 2) := by decide +kernel
theorem dX8_fold_65 : decode cX8_fold 65 = .ok (.aload_n 0, 1) := by decide +kernel
theorem dX8_fold_66 : decode cX8_fold 66 = .ok (.getfield 9, 3) := by decide +kernel
theorem dX8_fold_69 : decode cX8_fold 69 = .ok (.iload 5, 2) := by decide +kernel
theorem dX8_fold_71 : decode cX8_fold 71 = .ok (.iload 6, 2) := by decide +kernel
theorem dX8_fold_73 : decode cX8_fold 73 = .ok (.iastore, 1) := by decide +kernel
theorem dX8_fold_74 : decode cX8_fold 74 = .ok (.aload_n 1, 1) := by decide +kernel
theorem dX8_fold_75 : decode cX8_fold 75 = .ok (.getfield 38, 3) := by decide +kernel
theorem dX8_fold_78 : decode cX8_fold 78 = .ok (.iconst 2, 1) := by decide +kernel
theorem dX8_fold_79 : decode cX8_fold 79 = .ok (.if_icmp .ne 84, 3) := by decide +kernel
theorem dX8_fold_163 : decode cX8_fold 163 = .ok (.iinc 3 1, 3) := by decide +kernel
theorem dX8_fold_166 : decode cX8_fold 166 = .ok (.goto (-164), 3) := by decide +kernel
theorem dX8_fold_82 : decode cX8_fold 82 = .ok (.aload_n 2, 1) := by decide +kernel
theorem dX8_fold_83 : decode cX8_fold 83 = .ok (.iload 4, 2) := by decide +kernel
theorem dX8_fold_85 : decode cX8_fold 85 = .ok (.iconst 1, 1) := by decide +kernel
theorem dX8_fold_86 : decode cX8_fold 86 = .ok (.iadd, 1) := by decide +kernel
theorem dX8_fold_87 : decode cX8_fold 87 = .ok (.iaload, 1) := by decide +kernel
theorem dX8_fold_88 : decode cX8_fold 88 = .ok (.aload_n 1, 1) := by decide +kernel
theorem dX8_fold_89 : decode cX8_fold 89 = .ok (.getfield 41, 3) := by decide +kernel
theorem dX8_fold_92 : decode cX8_fold 92 = .ok (.ishr, 1) := by decide +kernel
theorem dX8_fold_93 : decode cX8_fold 93 = .ok (.istore 7, 2) := by decide +kernel
theorem dX8_fold_95 : decode cX8_fold 95 = .ok (.aload_n 1, 1) := by decide +kernel
theorem dX8_fold_96 : decode cX8_fold 96 = .ok (.getfield 44, 3) := by decide +kernel
theorem w_fl_X8_44 : Cond.fieldLink RX8 44 (TX9 5).1 (TX9 5).2.1 (TX9 5).2.2.1 ∈ g_tbl := g_tbl_in 330 (by decide +kernel) (by decide +kernel)
theorem fl_X8_44 : FL RX8 44 9 5 := ⟨RX9, TX9, 12, rfl, by decide, inX_X9, w_fl_X8_44⟩
theorem dX8_fold_99 : decode cX8_fold 99 = .ok (.iconst 4, 1) := by decide +kernel
theorem dX8_fold_100 : decode cX8_fold 100 = .ok (.iand, 1) := by decide +kernel
theorem dX8_fold_101 : decode cX8_fold 101 = .ok (.ifCond .eq 7, 3) := by decide +kernel
theorem dX8_fold_108 : decode cX8_fold 108 = .ok (.iconst 0, 1) := by decide +kernel
theorem dX8_fold_109 : decode cX8_fold 109 = .ok (.istore 8, 2) := by decide +kernel
theorem dX8_fold_111 : decode cX8_fold 111 = .ok (.iload 6, 2) := by decide +kernel
theorem dX8_fold_113 : decode cX8_fold 113 = .ok (.iload 7, 2) := by decide +kernel
theorem dX8_fold_115 : decode cX8_fold 115 = .ok (.isub, 1) := by decide +kernel
theorem dX8_fold_116 : decode cX8_fold 116 = .ok (.istore 9, 2) := by decide +kernel
theorem dX8_fold_118 : decode cX8_fold 118 = .ok (.aload_n 0, 1) := by decide +kernel
theorem dX8_fold_119 : decode cX8_fold 119 = .ok (.getfield 9, 3) := by decide +kernel
theorem dX8_fold_122 : decode cX8_fold 122 = .ok (.iload 5, 2) := by decide +kernel
theorem dX8_fold_124 : decode cX8_fold 124 = .ok (.iload 8, 2) := by decide +kernel
theorem dX8_fold_126 : decode cX8_fold 126 = .ok (.ifCond .eq 8, 3) := by decide +kernel
theorem dX8_fold_134 : decode cX8_fold 134 = .ok (.iload 6, 2) := by decide +kernel
theorem dX8_fold_136 : decode cX8_fold 136 = .ok (.iastore, 1) := by decide +kernel
theorem dX8_fold_137 : decode cX8_fold 137 = .ok (.aload_n 0, 1) := by decide +kernel
theorem dX8_fold_138 : decode cX8_fold 138 = .ok (.getfield 9, 3) := by decide +kernel
theorem dX8_fold_141 : decode cX8_fold 141 = .ok (.iload 5, 2) := by decide +kernel
theorem dX8_fold_143 : decode cX8_fold 143 = .ok (.iconst 1, 1) := by decide +kernel
theorem dX8_fold_144 : decode cX8_fold 144 = .ok (.iadd, 1) := by decide +kernel
theorem dX8_fold_145 : decode cX8_fold 145 = .ok (.iload 8, 2) := by decide +kernel
theorem dX8_fold_147 : decode cX8_fold 147 = .ok (.ifCond .eq 13, 3) := by decide +kernel
theorem dX8_fold_160 : decode cX8_fold 160 = .ok (.iload 7, 2) := by decide +kernel
theorem dX8_fold_162 : decode cX8_fold 162 = .ok (.iastore, 1) := by decide +kernel
theorem dX8_fold_104 : decode cX8_fold 104 = .ok (.iconst 1, 1) := by decide +kernel
theorem dX8_fold_105 : decode cX8_fold 105 = .ok (.goto 4, 3) := by decide +kernel
theorem dX8_fold_129 : decode cX8_fold 129 = .ok (.iload 9, 2) := by decide +kernel
theorem dX8_fold_131 : decode cX8_fold 131 = .ok (.goto 5, 3) := by decide +kernel
theorem dX8_fold_150 : decode cX8_fold 150 = .ok (.iload 7, 2) := by decide +kernel
theorem dX8_fold_152 : decode cX8_fold 152 = .ok (.iload 9, 2) := by decide +kernel
theorem dX8_fold_154 : decode cX8_fold 154 = .ok (.iconst 1, 1) := by decide +kernel
theorem dX8_fold_155 : decode cX8_fold 155 = .ok (.ishr, 1) := by decide +kernel
theorem dX8_fold_156 : decode cX8_fold 156 = .ok (.iadd, 1) := by decide +kernel
theorem dX8_fold_157 : decode cX8_fold 157 = .ok (.goto 5, 3) := by decide +kernel
set_option maxRecDepth 100000 in
def lf_wk_X8_fold_2 (w_2 : Nat) (w_3 : Nat) (w_4 : Nat) (w_5 : Int32) (w_6 : Int32) (sm_f : Nat → Int32) (β : Type) (kx_ : (Nat → Int32) → Int32 → β) (k_ : (Nat → Int32) → β) : Nat → (Nat → Int32) → Int32 → β
  | 0, sv_f, l3 => kx_ sv_f l3
  | fuel + 1, sv_f, l3 => (if nI w_4 ≤ l3 then (kx_ sv_f l3) else (if 1200 < ((l3 * nI w_2) + nI w_2) then (k_ sv_f) else (if ((l3 * nI w_3) + nI w_3) ≤ 1200 then (if nI w_3 = 2 then (if (w_5 &&& 4) = 0 then (fnL (((sm_f (Int32.toNatClampNeg (l3 * nI w_2))) >>> (w_6 &&& 31)) - ((sm_f (Int32.toNatClampNeg ((l3 * nI w_2) + 1))) >>> (w_6 &&& 31))) (fun x_435 => (lf_wk_X8_fold_2 w_2 w_3 w_4 w_5 w_6 sm_f β kx_ k_ fuel (upd (upd (upd sv_f (Int32.toNatClampNeg (l3 * nI w_3)) ((sm_f (Int32.toNatClampNeg (l3 * nI w_2))) >>> (w_6 &&& 31))) (Int32.toNatClampNeg (l3 * nI w_3)) ((sm_f (Int32.toNatClampNeg (l3 * nI w_2))) >>> (w_6 &&& 31))) (Int32.toNatClampNeg ((l3 * nI w_3) + 1)) ((sm_f (Int32.toNatClampNeg ((l3 * nI w_2) + 1))) >>> (w_6 &&& 31))) (l3 + 1)))) else (fnL (((sm_f (Int32.toNatClampNeg (l3 * nI w_2))) >>> (w_6 &&& 31)) - ((sm_f (Int32.toNatClampNeg ((l3 * nI w_2) + 1))) >>> (w_6 &&& 31))) (fun x_436 => (lf_wk_X8_fold_2 w_2 w_3 w_4 w_5 w_6 sm_f β kx_ k_ fuel (upd (upd (upd sv_f (Int32.toNatClampNeg (l3 * nI w_3)) ((sm_f (Int32.toNatClampNeg (l3 * nI w_2))) >>> (w_6 &&& 31))) (Int32.toNatClampNeg (l3 * nI w_3)) x_436) (Int32.toNatClampNeg ((l3 * nI w_3) + 1)) (((sm_f (Int32.toNatClampNeg ((l3 * nI w_2) + 1))) >>> (w_6 &&& 31)) + (x_436 >>> (1 &&& 31)))) (l3 + 1))))) else (lf_wk_X8_fold_2 w_2 w_3 w_4 w_5 w_6 sm_f β kx_ k_ fuel (upd sv_f (Int32.toNatClampNeg (l3 * nI w_3)) ((sm_f (Int32.toNatClampNeg (l3 * nI w_2))) >>> (w_6 &&& 31))) (l3 + 1))) else (k_ sv_f))))
set_option maxRecDepth 100000 in
theorem lf_wk_X8_fold_2_s {w_2 : Nat} {w_3 : Nat} {w_4 : Nat} {w_5 : Int32} {w_6 : Int32} {sm_f : Nat → Int32} {β : Type} {kx_ : (Nat → Int32) → Int32 → β} {k_ : (Nat → Int32) → β} {fuel : Nat} {sv_f : Nat → Int32} {l3 : Int32} : lf_wk_X8_fold_2 w_2 w_3 w_4 w_5 w_6 sm_f β kx_ k_ (fuel + 1) sv_f l3 = (if nI w_4 ≤ l3 then (kx_ sv_f l3) else (if 1200 < ((l3 * nI w_2) + nI w_2) then (k_ sv_f) else (if ((l3 * nI w_3) + nI w_3) ≤ 1200 then (if nI w_3 = 2 then (if (w_5 &&& 4) = 0 then (fnL (((sm_f (Int32.toNatClampNeg (l3 * nI w_2))) >>> (w_6 &&& 31)) - ((sm_f (Int32.toNatClampNeg ((l3 * nI w_2) + 1))) >>> (w_6 &&& 31))) (fun x_435 => (lf_wk_X8_fold_2 w_2 w_3 w_4 w_5 w_6 sm_f β kx_ k_ fuel (upd (upd (upd sv_f (Int32.toNatClampNeg (l3 * nI w_3)) ((sm_f (Int32.toNatClampNeg (l3 * nI w_2))) >>> (w_6 &&& 31))) (Int32.toNatClampNeg (l3 * nI w_3)) ((sm_f (Int32.toNatClampNeg (l3 * nI w_2))) >>> (w_6 &&& 31))) (Int32.toNatClampNeg ((l3 * nI w_3) + 1)) ((sm_f (Int32.toNatClampNeg ((l3 * nI w_2) + 1))) >>> (w_6 &&& 31))) (l3 + 1)))) else (fnL (((sm_f (Int32.toNatClampNeg (l3 * nI w_2))) >>> (w_6 &&& 31)) - ((sm_f (Int32.toNatClampNeg ((l3 * nI w_2) + 1))) >>> (w_6 &&& 31))) (fun x_436 => (lf_wk_X8_fold_2 w_2 w_3 w_4 w_5 w_6 sm_f β kx_ k_ fuel (upd (upd (upd sv_f (Int32.toNatClampNeg (l3 * nI w_3)) ((sm_f (Int32.toNatClampNeg (l3 * nI w_2))) >>> (w_6 &&& 31))) (Int32.toNatClampNeg (l3 * nI w_3)) x_436) (Int32.toNatClampNeg ((l3 * nI w_3) + 1)) (((sm_f (Int32.toNatClampNeg ((l3 * nI w_2) + 1))) >>> (w_6 &&& 31)) + (x_436 >>> (1 &&& 31)))) (l3 + 1))))) else (lf_wk_X8_fold_2 w_2 w_3 w_4 w_5 w_6 sm_f β kx_ k_ fuel (upd sv_f (Int32.toNatClampNeg (l3 * nI w_3)) ((sm_f (Int32.toNatClampNeg (l3 * nI w_2))) >>> (w_6 &&& 31))) (l3 + 1))) else (k_ sv_f)))) := rfl
set_option maxRecDepth 100000 in
set_option maxHeartbeats 4000000 in
theorem lp_wk_X8_fold_2 (E : g_E) (w : Nat) (ps : Nat) (md : Nat) (sh : Nat) (sv : Nat) (sr : Nat) (sl : Nat) (sp : Nat) (sm : Nat) (w_2 : Nat) (w_3 : Nat) (w_4 : Nat) (w_5 : Int32) (w_6 : Int32) (w_7 : Int32) (w_8 : Int32) (w_9 : Int32) (w_10 : Int32) (w_11 : Int32) (sm_f : Nat → Int32) (hk0 : w_2 ≤ 2) (hk1 : w_3 ≤ 2) (hk2 : w_4 ≤ 600) {X : g_X} {rr : (β : Type) → ((Nat → Int32) → β) → β} (kx_ : (β : Type) → ((Nat → Int32) → β) → (Nat → Int32) → Int32 → β) (B : Bd E X cX8_fold RX8 10 0 0 0 0) (hr : Rt E X none 0 0 (fun v_ w_ => ∃ zsv_f : Nat → Int32, (∀ (β : Type) (k_ : (Nat → Int32) → β), rr β k_ = k_ zsv_f) ∧ v_ = none ∧ w_ = [(w, .inr (9, [.ref ps, .ref md, .int (nI w_2), .int (nI w_3), .int (nI w_4), .int w_5, .int w_6, .int w_7, .int w_8, .int w_9, .int w_10, .int w_11])), (sh, .inr (8, [.ref sv, .ref sr, .ref sl, .ref sp])), (sv, .inl (E.2.2.1 0, 1200, .inl zsv_f)), (sm, .inl (E.2.2.1 0, 1200, .inl sm_f))])) (K : ∀ (sv_f : Nat → Int32) (l3 : Int32), (∀ (β : Type) (k_ : (Nat → Int32) → β), rr β k_ = kx_ β k_ sv_f l3) → G E X 10 [(w, .inr (9, [.ref ps, .ref md, .int (nI w_2), .int (nI w_3), .int (nI w_4), .int w_5, .int w_6, .int w_7, .int w_8, .int w_9, .int w_10, .int w_11])), (sh, .inr (8, [.ref sv, .ref sr, .ref sl, .ref sp])), (sv, .inl (E.2.2.1 0, 1200, .inl sv_f)), (sm, .inl (E.2.2.1 0, 1200, .inl sm_f))] 0 0 [(0, .ref sh), (1, .ref w), (2, .ref sm), (3, .int l3)] 169 []) : ∀ (n : Nat) (sv_f : Nat → Int32) (l3 : Int32), ¬ l3 < 0 → (Int32.toInt (nI w_4) - Int32.toInt l3).toNat < n → (∀ (β : Type) (k_ : (Nat → Int32) → β), rr β k_ = lf_wk_X8_fold_2 w_2 w_3 w_4 w_5 w_6 sm_f β (kx_ β k_) k_ n sv_f l3) → G E X 10 [(w, .inr (9, [.ref ps, .ref md, .int (nI w_2), .int (nI w_3), .int (nI w_4), .int w_5, .int w_6, .int w_7, .int w_8, .int w_9, .int w_10, .int w_11])), (sh, .inr (8, [.ref sv, .ref sr, .ref sl, .ref sp])), (sv, .inl (E.2.2.1 0, 1200, .inl sv_f)), (sm, .inl (E.2.2.1 0, 1200, .inl sm_f))] 0 0 [(0, .ref sh), (1, .ref w), (2, .ref sm), (3, .int l3)] 2 [] := by
  intro n
  induction n with
  | zero => intro sv_f l3 _ h _; exact absurd h (Nat.not_lt_zero _)
  | succ n ih =>
    intro sv_f l3 hv0 hm e_
    replace e_ := fun β k_ => (e_ β k_).trans lf_wk_X8_fold_2_s
    refine g_iload_n B dX8_fold_2 rfl 3 rfl ?_
    refine g_aload_n B dX8_fold_3 rfl 1 rfl ?_
    refine g_get B 0 4 fl_X8_29 rfl rfl dX8_fold_4 ?_
    refine g_icmp_ge (tgt := 169) B dX8_fold_7 (by decide) (fun c7_430 => ?_) (fun c7_430 => ?_)
    · replace e_ := fun β k_ => (e_ β k_).trans (if_pos c7_430)
      exact K sv_f l3 e_
    · replace e_ := fun β k_ => (e_ β k_).trans (if_neg c7_430)
      refine g_iload_n B dX8_fold_10 rfl 3 rfl ?_
      refine g_aload_n B dX8_fold_11 rfl 1 rfl ?_
      refine g_get B 0 2 fl_X8_35 rfl rfl dX8_fold_12 ?_
      refine g_imul B dX8_fold_15 ?_
      refine g_istore (lv' := [(4, .int (l3 * nI w_2)), (0, .ref sh), (1, .ref w), (2, .ref sm), (3, .int l3)]) B dX8_fold_16 (by decide) rfl ?_
      refine g_iload_n B dX8_fold_18 rfl 4 rfl ?_
      refine g_aload_n B dX8_fold_19 rfl 2 rfl ?_
      refine g_get B 0 3 fl_X8_38 rfl rfl dX8_fold_20 ?_
      refine g_imul B dX8_fold_23 ?_
      refine g_istore (lv' := [(5, .int (l3 * nI w_3)), (4, .int (l3 * nI w_2)), (0, .ref sh), (1, .ref w), (2, .ref sm), (3, .int l3)]) B dX8_fold_24 (by decide) rfl ?_
      refine g_iload B dX8_fold_26 1 rfl ?_
      refine g_aload_n B dX8_fold_28 rfl 3 rfl ?_
      refine g_get B 0 2 fl_X8_35 rfl rfl dX8_fold_29 ?_
      refine g_iadd B dX8_fold_32 ?_
      refine g_aload_n B dX8_fold_33 rfl 4 rfl ?_
      refine g_alen (v := nI 1200) B 3 (by decide) rfl rfl dX8_fold_34 ?_
      refine g_ri (x' := 1200) (by decide) ?_
      refine g_icmp_gt (tgt := 53) B dX8_fold_35 (by decide) (fun c35_431 => ?_) (fun c35_431 => ?_)
      · replace e_ := fun β k_ => (e_ β k_).trans (if_pos c35_431)
        exact g_vret B hr dX8_fold_53 (by decide) (by decide) ⟨sv_f, e_, rfl, rfl⟩
      · replace e_ := fun β k_ => (e_ β k_).trans (if_neg c35_431)
        refine g_iload B dX8_fold_38 0 rfl ?_
        refine g_aload_n B dX8_fold_40 rfl 3 rfl ?_
        refine g_get B 0 3 fl_X8_38 rfl rfl dX8_fold_41 ?_
        refine g_iadd B dX8_fold_44 ?_
        refine g_aload_n B dX8_fold_45 rfl 2 rfl ?_
        refine g_get B 1 0 fl_X8_9 rfl rfl dX8_fold_46 ?_
        refine g_alen (v := nI 1200) B 2 (by decide) rfl rfl dX8_fold_49 ?_
        refine g_ri (x' := 1200) (by decide) ?_
        refine g_icmp_le (tgt := 54) B dX8_fold_50 (by decide) (fun c50_432 => ?_) (fun c50_432 => ?_)
        · replace e_ := fun β k_ => (e_ β k_).trans (if_pos c50_432)
          refine g_aload_n B dX8_fold_54 rfl 4 rfl ?_
          refine g_iload B dX8_fold_55 1 rfl ?_
          refine g_iald B 3 rfl (fd_in0 hk2 hk0 hv0 (o_2 c7_430)) dX8_fold_57 ?_
          refine g_aload_n B dX8_fold_58 rfl 3 rfl ?_
          refine g_get B 0 6 fl_X8_41 rfl rfl dX8_fold_59 ?_
          refine g_ishr B dX8_fold_62 ?_
          refine g_istore (lv' := [(6, .int ((sm_f (Int32.toNatClampNeg (l3 * nI w_2))) >>> (w_6 &&& 31))), (5, .int (l3 * nI w_3)), (4, .int (l3 * nI w_2)), (0, .ref sh), (1, .ref w), (2, .ref sm), (3, .int l3)]) B dX8_fold_63 (by decide) rfl ?_
          refine g_aload_n B dX8_fold_65 rfl 3 rfl ?_
          refine g_get B 1 0 fl_X8_9 rfl rfl dX8_fold_66 ?_
          refine g_iload B dX8_fold_69 1 rfl ?_
          refine g_iload B dX8_fold_71 0 rfl ?_
          refine g_iast (ws' := [(w, .inr (9, [.ref ps, .ref md, .int (nI w_2), .int (nI w_3), .int (nI w_4), .int w_5, .int w_6, .int w_7, .int w_8, .int w_9, .int w_10, .int w_11])), (sh, .inr (8, [.ref sv, .ref sr, .ref sl, .ref sp])), (sv, .inl (E.2.2.1 0, 1200, .inl (upd sv_f (Int32.toNatClampNeg (l3 * nI w_3)) ((sm_f (Int32.toNatClampNeg (l3 * nI w_2))) >>> (w_6 &&& 31))))), (sm, .inl (E.2.2.1 0, 1200, .inl sm_f))]) B 2 rfl (fd_in0 hk2 hk1 hv0 (o_2 c7_430)) rfl dX8_fold_73 ?_
          refine g_aload_n B dX8_fold_74 rfl 4 rfl ?_
          refine g_get B 0 3 fl_X8_38 rfl rfl dX8_fold_75 ?_
          refine g_iconst (v := 2) B dX8_fold_78 (by decide) ?_
          refine g_icmp_ne (tgt := 163) B dX8_fold_79 (by decide) (fun c79_433 => ?_) (fun c79_433 => ?_)
          · replace e_ := fun β k_ => (e_ β k_).trans (if_neg c79_433)
            refine g_iinc (v := (l3 + 1)) (lv' := [(3, .int (l3 + 1)), (6, .int ((sm_f (Int32.toNatClampNeg (l3 * nI w_2))) >>> (w_6 &&& 31))), (5, .int (l3 * nI w_3)), (4, .int (l3 * nI w_2)), (0, .ref sh), (1, .ref w), (2, .ref sm)]) B dX8_fold_163 6 rfl rfl (by decide) rfl ?_
            refine g_goto (tgt := 2) B dX8_fold_166 (by decide) ?_
            refine g_lvsub (lv' := [(0, .ref sh), (1, .ref w), (2, .ref sm), (3, .int (l3 + 1))]) [4, 5, 6, 0] rfl ?_
            exact ih (upd sv_f (Int32.toNatClampNeg (l3 * nI w_3)) ((sm_f (Int32.toNatClampNeg (l3 * nI w_2))) >>> (w_6 &&& 31))) (l3 + 1) (inv_up hv0 (o_2 c7_430)) (Nat.lt_of_lt_of_le (st_up (o_2 c7_430)) (Nat.le_of_lt_succ hm)) e_
          · replace e_ := fun β k_ => (e_ β k_).trans (if_pos c79_433)
            refine g_aload_n B dX8_fold_82 rfl 5 rfl ?_
            refine g_iload B dX8_fold_83 2 rfl ?_
            refine g_iconst (v := 1) B dX8_fold_85 (by decide) ?_
            refine g_iadd B dX8_fold_86 ?_
            refine g_iald B 3 rfl (fd_in 1 (by decide) hk2 hk0 hv0 (o_2 c7_430)) dX8_fold_87 ?_
            refine g_aload_n B dX8_fold_88 rfl 4 rfl ?_
            refine g_get B 0 6 fl_X8_41 rfl rfl dX8_fold_89 ?_
            refine g_ishr B dX8_fold_92 ?_
            refine g_istore (lv' := [(7, .int ((sm_f (Int32.toNatClampNeg ((l3 * nI w_2) + 1))) >>> (w_6 &&& 31))), (6, .int ((sm_f (Int32.toNatClampNeg (l3 * nI w_2))) >>> (w_6 &&& 31))), (5, .int (l3 * nI w_3)), (4, .int (l3 * nI w_2)), (0, .ref sh), (1, .ref w), (2, .ref sm), (3, .int l3)]) B dX8_fold_93 (by decide) rfl ?_
            refine g_aload_n B dX8_fold_95 rfl 5 rfl ?_
            refine g_get B 0 5 fl_X8_44 rfl rfl dX8_fold_96 ?_
            refine g_iconst (v := 4) B dX8_fold_99 (by decide) ?_
            refine g_iand B dX8_fold_100 ?_
            refine g_if_eq (tgt := 108) B dX8_fold_101 (by decide) (fun c101_434 => ?_) (fun c101_434 => ?_)
            · replace e_ := fun β k_ => (e_ β k_).trans (if_pos c101_434)
              refine g_iconst (v := 0) B dX8_fold_108 (by decide) ?_
              refine g_istore (lv' := [(8, .int 0), (7, .int ((sm_f (Int32.toNatClampNeg ((l3 * nI w_2) + 1))) >>> (w_6 &&& 31))), (6, .int ((sm_f (Int32.toNatClampNeg (l3 * nI w_2))) >>> (w_6 &&& 31))), (5, .int (l3 * nI w_3)), (4, .int (l3 * nI w_2)), (0, .ref sh), (1, .ref w), (2, .ref sm), (3, .int l3)]) B dX8_fold_109 (by decide) rfl ?_
              refine g_iload B dX8_fold_111 2 rfl ?_
              refine g_iload B dX8_fold_113 1 rfl ?_
              refine g_isub B dX8_fold_115 ?_
              refine g_topi (fun x_435 ex_435 => ?_)
              replace e_ := fun β k_ => (e_ β k_).trans (fnL_eq (x := x_435) ex_435.symm _)
              refine g_istore (lv' := [(9, .int x_435), (8, .int 0), (7, .int ((sm_f (Int32.toNatClampNeg ((l3 * nI w_2) + 1))) >>> (w_6 &&& 31))), (6, .int ((sm_f (Int32.toNatClampNeg (l3 * nI w_2))) >>> (w_6 &&& 31))), (5, .int (l3 * nI w_3)), (4, .int (l3 * nI w_2)), (0, .ref sh), (1, .ref w), (2, .ref sm), (3, .int l3)]) B dX8_fold_116 (by decide) rfl ?_
              refine g_aload_n B dX8_fold_118 rfl 6 rfl ?_
              refine g_get B 1 0 fl_X8_9 rfl rfl dX8_fold_119 ?_
              refine g_iload B dX8_fold_122 4 rfl ?_
              refine g_iload B dX8_fold_124 1 rfl ?_
              refine g_if_eq (tgt := 134) B dX8_fold_126 (by decide) (fun c126 => ?_) (fun h => absurd (by decide) h)
              refine g_iload B dX8_fold_134 3 rfl ?_
              refine g_iast (ws' := [(w, .inr (9, [.ref ps, .ref md, .int (nI w_2), .int (nI w_3), .int (nI w_4), .int w_5, .int w_6, .int w_7, .int w_8, .int w_9, .int w_10, .int w_11])), (sh, .inr (8, [.ref sv, .ref sr, .ref sl, .ref sp])), (sv, .inl (E.2.2.1 0, 1200, .inl (upd (upd sv_f (Int32.toNatClampNeg (l3 * nI w_3)) ((sm_f (Int32.toNatClampNeg (l3 * nI w_2))) >>> (w_6 &&& 31))) (Int32.toNatClampNeg (l3 * nI w_3)) ((sm_f (Int32.toNatClampNeg (l3 * nI w_2))) >>> (w_6 &&& 31))))), (sm, .inl (E.2.2.1 0, 1200, .inl sm_f))]) B 2 rfl (fd_in0 hk2 hk1 hv0 (o_2 c7_430)) rfl dX8_fold_136 ?_
              refine g_aload_n B dX8_fold_137 rfl 6 rfl ?_
              refine g_get B 1 0 fl_X8_9 rfl rfl dX8_fold_138 ?_
              refine g_iload B dX8_fold_141 4 rfl ?_
              refine g_iconst (v := 1) B dX8_fold_143 (by decide) ?_
              refine g_iadd B dX8_fold_144 ?_
              refine g_iload B dX8_fold_145 1 rfl ?_
              refine g_if_eq (tgt := 160) B dX8_fold_147 (by decide) (fun c147 => ?_) (fun h => absurd (by decide) h)
              refine g_iload B dX8_fold_160 2 rfl ?_
              refine g_iast (ws' := [(w, .inr (9, [.ref ps, .ref md, .int (nI w_2), .int (nI w_3), .int (nI w_4), .int w_5, .int w_6, .int w_7, .int w_8, .int w_9, .int w_10, .int w_11])), (sh, .inr (8, [.ref sv, .ref sr, .ref sl, .ref sp])), (sv, .inl (E.2.2.1 0, 1200, .inl (upd (upd (upd sv_f (Int32.toNatClampNeg (l3 * nI w_3)) ((sm_f (Int32.toNatClampNeg (l3 * nI w_2))) >>> (w_6 &&& 31))) (Int32.toNatClampNeg (l3 * nI w_3)) ((sm_f (Int32.toNatClampNeg (l3 * nI w_2))) >>> (w_6 &&& 31))) (Int32.toNatClampNeg ((l3 * nI w_3) + 1)) ((sm_f (Int32.toNatClampNeg ((l3 * nI w_2) + 1))) >>> (w_6 &&& 31))))), (sm, .inl (E.2.2.1 0, 1200, .inl sm_f))]) B 2 rfl (fd_in 1 (by decide) hk2 hk1 hv0 (o_2 c7_430)) rfl dX8_fold_162 ?_
              refine g_iinc (v := (l3 + 1)) (lv' := [(3, .int (l3 + 1)), (9, .int x_435), (8, .int 0), (7, .int ((sm_f (Int32.toNatClampNeg ((l3 * nI w_2) + 1))) >>> (w_6 &&& 31))), (6, .int ((sm_f (Int32.toNatClampNeg (l3 * nI w_2))) >>> (w_6 &&& 31))), (5, .int (l3 * nI w_3)), (4, .int (l3 * nI w_2)), (0, .ref sh), (1, .ref w), (2, .ref sm)]) B dX8_fold_163 9 rfl rfl (by decide) rfl ?_
              refine g_goto (tgt := 2) B dX8_fold_166 (by decide) ?_
              refine g_lvsub (lv' := [(0, .ref sh), (1, .ref w), (2, .ref sm), (3, .int (l3 + 1))]) [7, 8, 9, 0] rfl ?_
              exact ih (upd (upd (upd sv_f (Int32.toNatClampNeg (l3 * nI w_3)) ((sm_f (Int32.toNatClampNeg (l3 * nI w_2))) >>> (w_6 &&& 31))) (Int32.toNatClampNeg (l3 * nI w_3)) ((sm_f (Int32.toNatClampNeg (l3 * nI w_2))) >>> (w_6 &&& 31))) (Int32.toNatClampNeg ((l3 * nI w_3) + 1)) ((sm_f (Int32.toNatClampNeg ((l3 * nI w_2) + 1))) >>> (w_6 &&& 31))) (l3 + 1) (inv_up hv0 (o_2 c7_430)) (Nat.lt_of_lt_of_le (st_up (o_2 c7_430)) (Nat.le_of_lt_succ hm)) e_
            · replace e_ := fun β k_ => (e_ β k_).trans (if_neg c101_434)
              refine g_iconst (v := 1) B dX8_fold_104 (by decide) ?_
              refine g_goto (tgt := 109) B dX8_fold_105 (by decide) ?_
              refine g_istore (lv' := [(8, .int 1), (7, .int ((sm_f (Int32.toNatClampNeg ((l3 * nI w_2) + 1))) >>> (w_6 &&& 31))), (6, .int ((sm_f (Int32.toNatClampNeg (l3 * nI w_2))) >>> (w_6 &&& 31))), (5, .int (l3 * nI w_3)), (4, .int (l3 * nI w_2)), (0, .ref sh), (1, .ref w), (2, .ref sm), (3, .int l3)]) B dX8_fold_109 (by decide) rfl ?_
              refine g_iload B dX8_fold_111 2 rfl ?_
              refine g_iload B dX8_fold_113 1 rfl ?_
              refine g_isub B dX8_fold_115 ?_
              refine g_topi (fun x_436 ex_436 => ?_)
              replace e_ := fun β k_ => (e_ β k_).trans (fnL_eq (x := x_436) ex_436.symm _)
              refine g_istore (lv' := [(9, .int x_436), (8, .int 1), (7, .int ((sm_f (Int32.toNatClampNeg ((l3 * nI w_2) + 1))) >>> (w_6 &&& 31))), (6, .int ((sm_f (Int32.toNatClampNeg (l3 * nI w_2))) >>> (w_6 &&& 31))), (5, .int (l3 * nI w_3)), (4, .int (l3 * nI w_2)), (0, .ref sh), (1, .ref w), (2, .ref sm), (3, .int l3)]) B dX8_fold_116 (by decide) rfl ?_
              refine g_aload_n B dX8_fold_118 rfl 6 rfl ?_
              refine g_get B 1 0 fl_X8_9 rfl rfl dX8_fold_119 ?_
              refine g_iload B dX8_fold_122 4 rfl ?_
              refine g_iload B dX8_fold_124 1 rfl ?_
              refine g_if_eq (tgt := 134) B dX8_fold_126 (by decide) (fun h => absurd h (by decide)) (fun c126 => ?_)
              refine g_iload B dX8_fold_129 0 rfl ?_
              refine g_goto (tgt := 136) B dX8_fold_131 (by decide) ?_
              refine g_iast (ws' := [(w, .inr (9, [.ref ps, .ref md, .int (nI w_2), .int (nI w_3), .int (nI w_4), .int w_5, .int w_6, .int w_7, .int w_8, .int w_9, .int w_10, .int w_11])), (sh, .inr (8, [.ref sv, .ref sr, .ref sl, .ref sp])), (sv, .inl (E.2.2.1 0, 1200, .inl (upd (upd sv_f (Int32.toNatClampNeg (l3 * nI w_3)) ((sm_f (Int32.toNatClampNeg (l3 * nI w_2))) >>> (w_6 &&& 31))) (Int32.toNatClampNeg (l3 * nI w_3)) x_436))), (sm, .inl (E.2.2.1 0, 1200, .inl sm_f))]) B 2 rfl (fd_in0 hk2 hk1 hv0 (o_2 c7_430)) rfl dX8_fold_136 ?_
              refine g_aload_n B dX8_fold_137 rfl 6 rfl ?_
              refine g_get B 1 0 fl_X8_9 rfl rfl dX8_fold_138 ?_
              refine g_iload B dX8_fold_141 4 rfl ?_
              refine g_iconst (v := 1) B dX8_fold_143 (by decide) ?_
              refine g_iadd B dX8_fold_144 ?_
              refine g_iload B dX8_fold_145 1 rfl ?_
              refine g_if_eq (tgt := 160) B dX8_fold_147 (by decide) (fun h => absurd h (by decide)) (fun c147 => ?_)
              refine g_iload B dX8_fold_150 2 rfl ?_
              refine g_iload B dX8_fold_152 0 rfl ?_
              refine g_iconst (v := 1) B dX8_fold_154 (by decide) ?_
              refine g_ishr B dX8_fold_155 ?_
              refine g_iadd B dX8_fold_156 ?_
              refine g_goto (tgt := 162) B dX8_fold_157 (by decide) ?_
              refine g_iast (ws' := [(w, .inr (9, [.ref ps, .ref md, .int (nI w_2), .int (nI w_3), .int (nI w_4), .int w_5, .int w_6, .int w_7, .int w_8, .int w_9, .int w_10, .int w_11])), (sh, .inr (8, [.ref sv, .ref sr, .ref sl, .ref sp])), (sv, .inl (E.2.2.1 0, 1200, .inl (upd (upd (upd sv_f (Int32.toNatClampNeg (l3 * nI w_3)) ((sm_f (Int32.toNatClampNeg (l3 * nI w_2))) >>> (w_6 &&& 31))) (Int32.toNatClampNeg (l3 * nI w_3)) x_436) (Int32.toNatClampNeg ((l3 * nI w_3) + 1)) (((sm_f (Int32.toNatClampNeg ((l3 * nI w_2) + 1))) >>> (w_6 &&& 31)) + (x_436 >>> (1 &&& 31)))))), (sm, .inl (E.2.2.1 0, 1200, .inl sm_f))]) B 2 rfl (fd_in 1 (by decide) hk2 hk1 hv0 (o_2 c7_430)) rfl dX8_fold_162 ?_
              refine g_iinc (v := (l3 + 1)) (lv' := [(3, .int (l3 + 1)), (9, .int x_436), (8, .int 1), (7, .int ((sm_f (Int32.toNatClampNeg ((l3 * nI w_2) + 1))) >>> (w_6 &&& 31))), (6, .int ((sm_f (Int32.toNatClampNeg (l3 * nI w_2))) >>> (w_6 &&& 31))), (5, .int (l3 * nI w_3)), (4, .int (l3 * nI w_2)), (0, .ref sh), (1, .ref w), (2, .ref sm)]) B dX8_fold_163 9 rfl rfl (by decide) rfl ?_
              refine g_goto (tgt := 2) B dX8_fold_166 (by decide) ?_
              refine g_lvsub (lv' := [(0, .ref sh), (1, .ref w), (2, .ref sm), (3, .int (l3 + 1))]) [7, 8, 9, 0] rfl ?_
              exact ih (upd (upd (upd sv_f (Int32.toNatClampNeg (l3 * nI w_3)) ((sm_f (Int32.toNatClampNeg (l3 * nI w_2))) >>> (w_6 &&& 31))) (Int32.toNatClampNeg (l3 * nI w_3)) x_436) (Int32.toNatClampNeg ((l3 * nI w_3) + 1)) (((sm_f (Int32.toNatClampNeg ((l3 * nI w_2) + 1))) >>> (w_6 &&& 31)) + (x_436 >>> (1 &&& 31)))) (l3 + 1) (inv_up hv0 (o_2 c7_430)) (Nat.lt_of_lt_of_le (st_up (o_2 c7_430)) (Nat.le_of_lt_succ hm)) e_
        · replace e_ := fun β k_ => (e_ β k_).trans (if_neg c50_432)
          exact g_vret B hr dX8_fold_53 (by decide) (by decide) ⟨sv_f, e_, rfl, rfl⟩
theorem dX8_fold_169 : decode cX8_fold 169 = .ok (.return_, 1) := by decide +kernel
set_option maxRecDepth 100000 in
def fn_wk_X8_fold (w_2 : Nat) (w_3 : Nat) (w_4 : Nat) (w_5 : Int32) (w_6 : Int32) (sm_f : Nat → Int32) (sv_f : Nat → Int32) (β : Type) (k_ : (Nat → Int32) → β) : β := (lf_wk_X8_fold_2 w_2 w_3 w_4 w_5 w_6 sm_f β (fun y_437sv_f y_437l3 => (k_ y_437sv_f)) k_ ((Int32.toInt (nI w_4) - Int32.toInt 0).toNat + 1) sv_f 0)
set_option maxRecDepth 100000 in
theorem fn_wk_X8_fold_s {w_2 : Nat} {w_3 : Nat} {w_4 : Nat} {w_5 : Int32} {w_6 : Int32} {sm_f : Nat → Int32} {sv_f : Nat → Int32} {β : Type} {k_ : (Nat → Int32) → β} : fn_wk_X8_fold w_2 w_3 w_4 w_5 w_6 sm_f sv_f β k_ = (lf_wk_X8_fold_2 w_2 w_3 w_4 w_5 w_6 sm_f β (fun y_437sv_f y_437l3 => (k_ y_437sv_f)) k_ ((Int32.toInt (nI w_4) - Int32.toInt 0).toNat + 1) sv_f 0) := rfl
set_option maxRecDepth 100000 in
set_option maxHeartbeats 4000000 in
theorem wk_X8_fold (E : g_E) (w : Nat) (ps : Nat) (md : Nat) (sh : Nat) (sv : Nat) (sr : Nat) (sl : Nat) (sp : Nat) (sm : Nat) (w_2 : Nat) (w_3 : Nat) (w_4 : Nat) (w_5 : Int32) (w_6 : Int32) (w_7 : Int32) (w_8 : Int32) (w_9 : Int32) (w_10 : Int32) (w_11 : Int32) (sm_f : Nat → Int32) (sv_f : Nat → Int32) (hk0 : w_2 ≤ 2) (hk1 : w_3 ≤ 2) (hk2 : w_4 ≤ 600) : Ev E MX8_fold 0 0 0 0 [.ref sh, .ref w, .ref sm] [(w, .inr (9, [.ref ps, .ref md, .int (nI w_2), .int (nI w_3), .int (nI w_4), .int w_5, .int w_6, .int w_7, .int w_8, .int w_9, .int w_10, .int w_11])), (sh, .inr (8, [.ref sv, .ref sr, .ref sl, .ref sp])), (sv, .inl (E.2.2.1 0, 1200, .inl sv_f)), (sm, .inl (E.2.2.1 0, 1200, .inl sm_f))] (fun v_ w_ => ∃ zsv_f : Nat → Int32, (∀ (β : Type) (k_ : (Nat → Int32) → β), fn_wk_X8_fold w_2 w_3 w_4 w_5 w_6 sm_f sv_f β k_ = k_ zsv_f) ∧ v_ = none ∧ w_ = [(w, .inr (9, [.ref ps, .ref md, .int (nI w_2), .int (nI w_3), .int (nI w_4), .int w_5, .int w_6, .int w_7, .int w_8, .int w_9, .int w_10, .int w_11])), (sh, .inr (8, [.ref sv, .ref sr, .ref sl, .ref sp])), (sv, .inl (E.2.2.1 0, 1200, .inl zsv_f)), (sm, .inl (E.2.2.1 0, 1200, .inl sm_f))]) := by
  refine Ev.intro (by decide) (Nat.le_of_ble_eq_true rfl) ?_
  intro X B hr hI
  have B : Bd E X cX8_fold RX8 10 0 0 0 0 := B
  have hr : Rt E X none 0 0 (fun v_ w_ => ∃ zsv_f : Nat → Int32, (∀ (β : Type) (k_ : (Nat → Int32) → β), fn_wk_X8_fold w_2 w_3 w_4 w_5 w_6 sm_f sv_f β k_ = k_ zsv_f) ∧ v_ = none ∧ w_ = [(w, .inr (9, [.ref ps, .ref md, .int (nI w_2), .int (nI w_3), .int (nI w_4), .int w_5, .int w_6, .int w_7, .int w_8, .int w_9, .int w_10, .int w_11])), (sh, .inr (8, [.ref sv, .ref sr, .ref sl, .ref sp])), (sv, .inl (E.2.2.1 0, 1200, .inl zsv_f)), (sm, .inl (E.2.2.1 0, 1200, .inl sm_f))]) := hr
  have e_ := fun (β : Type) (k_ : (Nat → Int32) → β) => fn_wk_X8_fold_s (β := β) (k_ := k_) (w_2 := w_2) (w_3 := w_3) (w_4 := w_4) (w_5 := w_5) (w_6 := w_6) (sm_f := sm_f) (sv_f := sv_f)
  show G E X 10 [(w, .inr (9, [.ref ps, .ref md, .int (nI w_2), .int (nI w_3), .int (nI w_4), .int w_5, .int w_6, .int w_7, .int w_8, .int w_9, .int w_10, .int w_11])), (sh, .inr (8, [.ref sv, .ref sr, .ref sl, .ref sp])), (sv, .inl (E.2.2.1 0, 1200, .inl sv_f)), (sm, .inl (E.2.2.1 0, 1200, .inl sm_f))] 0 0 [(0, .ref sh), (1, .ref w), (2, .ref sm)] 0 []
  refine g_iconst (v := 0) B dX8_fold_0 (by decide) ?_
  refine g_istore_n (lv' := [(3, .int 0), (0, .ref sh), (1, .ref w), (2, .ref sm)]) B dX8_fold_1 rfl (by decide) rfl ?_
  refine g_lvsub (lv' := [(0, .ref sh), (1, .ref w), (2, .ref sm), (3, .int 0)]) [1, 2, 3, 0] rfl ?_
  refine lp_wk_X8_fold_2 E w ps md sh sv sr sl sp sm w_2 w_3 w_4 w_5 w_6 w_7 w_8 w_9 w_10 w_11 sm_f hk0 hk1 hk2 _ B hr (fun y_437sv_f y_437l3 e_ => ?_) _ sv_f 0 (by decide) (Nat.lt_succ_self _) e_
  exact g_vret B hr dX8_fold_169 (by decide) (by decide) ⟨y_437sv_f, e_, rfl, rfl⟩
abbrev MX8_unfold : g_M := (yX8_unfold, cX8_unfold, 8, (some .int))
theorem dX8_unfold_0 : decode cX8_unfold 0 = .ok (.iconst 0, 1) := by decide +kernel
theorem dX8_unfold_1 : decode cX8_unfold 1 = .ok (.istore_n 3, 1) := by decide +kernel
theorem dX8_unfold_2 : decode cX8_unfold 2 = .ok (.iload_n 3, 1) := by decide +kernel
theorem dX8_unfold_3 : decode cX8_unfold 3 = .ok (.aload_n 1, 1) := by decide +kernel
theorem dX8_unfold_4 : decode cX8_unfold 4 = .ok (.getfield 29, 3) := by decide +kernel
theorem dX8_unfold_7 : decode cX8_unfold 7 = .ok (.if_icmp .ge 145, 3) := by decide +kernel
theorem dX8_unfold_10 : decode cX8_unfold 10 = .ok (.iload_n 3, 1) := by decide +kernel
theorem dX8_unfold_11 : decode cX8_unfold 11 = .ok (.aload_n 1, 1) := by decide +kernel
theorem dX8_unfold_12 : decode cX8_unfold 12 = .ok (.getfield 38, 3) := by decide +kernel
theorem dX8_unfold_15 : decode cX8_unfold 15 = .ok (.imul, 1) := by decide +kernel
theorem dX8_unfold_16 : decode cX8_unfold 16 = .ok (.istore 4, 2) := by decide +kernel
theorem dX8_unfold_18 : decode cX8_unfold 18 = .ok (.iload_n 3, 1) := by decide +kernel
theorem dX8_unfold_19 : decode cX8_unfold 19 = .ok (.aload_n 1, 1) := by decide +kernel
theorem dX8_unfold_20 : decode cX8_unfold 20 = .ok (.getfield 35, 3) := by decide +kernel
theorem dX8_unfold_23 : decode cX8_unfold 23 = .ok (.imul, 1) := by decide +kernel
theorem dX8_unfold_24 : decode cX8_unfold 24 = .ok (.istore 5, 2) := by decide +kernel
theorem dX8_unfold_26 : decode cX8_unfold 26 = .ok (.iload 4, 2) := by decide +kernel
theorem dX8_unfold_28 : decode cX8_unfold 28 = .ok (.aload_n 1, 1) := by decide +kernel
theorem dX8_unfold_29 : decode cX8_unfold 29 = .ok (.getfield 38, 3) := by decide +kernel
theorem dX8_unfold_32 : decode cX8_unfold 32 = .ok (.iadd, 1) := by decide +kernel
theorem dX8_unfold_33 : decode cX8_unfold 33 = .ok (.aload_n 0, 1) := by decide +kernel
theorem dX8_unfold_34 : decode cX8_unfold 34 = .ok (.getfield 9, 3) := by decide +kernel
theorem dX8_unfold_37 : decode cX8_unfold 37 = .ok (.arraylength, 1) := by decide +kernel
theorem dX8_unfold_38 : decode cX8_unfold 38 = .ok (.if_icmp .gt 15, 3) := by decide +kernel
theorem dX8_unfold_53 : decode cX8_unfold 53 = .ok (.iload 5, 2) := by decide +kernel
theorem dX8_unfold_55 : decode cX8_unfold 55 = .ok (.ireturn, 1) := by decide +kernel
theorem dX8_unfold_41 : decode cX8_unfold 41 = .ok (.iload 5, 2) := by decide +kernel
theorem dX8_unfold_43 : decode cX8_unfold 43 = .ok (.aload_n 1, 1) := by decide +kernel
theorem dX8_unfold_44 : decode cX8_unfold 44 = .ok (.getfield 35, 3) := by decide +kernel
theorem dX8_unfold_47 : decode cX8_unfold 47 = .ok (.iadd, 1) := by decide +kernel
theorem dX8_unfold_48 : decode cX8_unfold 48 = .ok (.aload_n 2, 1) := by decide +kernel
theorem dX8_unfold_49 : decode cX8_unfold 49 = .ok (.arraylength, 1) := by decide +kernel
theorem dX8_unfold_50 : decode cX8_unfold 50 = .ok (.if_icmp .le 6, 3) := by decide +kernel
theorem dX8_unfold_56 : decode cX8_unfold 56 = .ok (.aload_n 0, 1) := by decide +kernel
theorem dX8_unfold_57 : decode cX8_unfold 57 = .ok (.getfield 9, 3) := by decide +kernel
theorem dX8_unfold_60 : decode cX8_unfold 60 = .ok (.iload 4, 2) := by decide +kernel
theorem dX8_unfold_62 : decode cX8_unfold 62 = .ok (.iaload, 1) := by decide +kernel
theorem dX8_unfold_63 : decode cX8_unfold 63 = .ok (.istore 6, 2) := by decide +kernel
theorem dX8_unfold_65 : decode cX8_unfold 65 = .ok (.aload_n 1, 1) := by decide +kernel
theorem dX8_unfold_66 : decode cX8_unfold 66 = .ok (.getfield 38, 3) := by decide +kernel
theorem dX8_unfold_69 : decode cX8_unfold 69 = .ok (.iconst 2, 1) := by decide +kernel
theorem dX8_unfold_70 : decode cX8_unfold 70 = .ok (.if_icmp .ne 15, 3) := by decide +kernel
theorem dX8_unfold_85 : decode cX8_unfold 85 = .ok (.iload 6, 2) := by decide +kernel
theorem dX8_unfold_87 : decode cX8_unfold 87 = .ok (.istore 7, 2) := by decide +kernel
theorem dX8_unfold_89 : decode cX8_unfold 89 = .ok (.aload_n 1, 1) := by decide +kernel
theorem dX8_unfold_90 : decode cX8_unfold 90 = .ok (.getfield 44, 3) := by decide +kernel
theorem dX8_unfold_93 : decode cX8_unfold 93 = .ok (.iconst 4, 1) := by decide +kernel
theorem dX8_unfold_94 : decode cX8_unfold 94 = .ok (.iand, 1) := by decide +kernel
theorem dX8_unfold_95 : decode cX8_unfold 95 = .ok (.ifCond .eq 19, 3) := by decide +kernel
theorem dX8_unfold_114 : decode cX8_unfold 114 = .ok (.aload_n 2, 1) := by decide +kernel
theorem dX8_unfold_115 : decode cX8_unfold 115 = .ok (.iload 5, 2) := by decide +kernel
theorem dX8_unfold_117 : decode cX8_unfold 117 = .ok (.iload 6, 2) := by decide +kernel
theorem dX8_unfold_119 : decode cX8_unfold 119 = .ok (.aload_n 1, 1) := by decide +kernel
theorem dX8_unfold_120 : decode cX8_unfold 120 = .ok (.getfield 41, 3) := by decide +kernel
theorem dX8_unfold_123 : decode cX8_unfold 123 = .ok (.ishl, 1) := by decide +kernel
theorem dX8_unfold_124 : decode cX8_unfold 124 = .ok (.iastore, 1) := by decide +kernel
theorem dX8_unfold_125 : decode cX8_unfold 125 = .ok (.aload_n 1, 1) := by decide +kernel
theorem dX8_unfold_126 : decode cX8_unfold 126 = .ok (.getfield 35, 3) := by decide +kernel
theorem dX8_unfold_129 : decode cX8_unfold 129 = .ok (.iconst 2, 1) := by decide +kernel
theorem dX8_unfold_130 : decode cX8_unfold 130 = .ok (.if_icmp .ne 16, 3) := by decide +kernel
theorem dX8_unfold_146 : decode cX8_unfold 146 = .ok (.iinc 3 1, 3) := by decide +kernel
theorem dX8_unfold_149 : decode cX8_unfold 149 = .ok (.goto (-147), 3) := by decide +kernel
theorem dX8_unfold_133 : decode cX8_unfold 133 = .ok (.aload_n 2, 1) := by decide +kernel
theorem dX8_unfold_134 : decode cX8_unfold 134 = .ok (.iload 5, 2) := by decide +kernel
theorem dX8_unfold_136 : decode cX8_unfold 136 = .ok (.iconst 1, 1) := by decide +kernel
theorem dX8_unfold_137 : decode cX8_unfold 137 = .ok (.iadd, 1) := by decide +kernel
theorem dX8_unfold_138 : decode cX8_unfold 138 = .ok (.iload 7, 2) := by decide +kernel
theorem dX8_unfold_140 : decode cX8_unfold 140 = .ok (.aload_n 1, 1) := by decide +kernel
theorem dX8_unfold_141 : decode cX8_unfold 141 = .ok (.getfield 41, 3) := by decide +kernel
theorem dX8_unfold_144 : decode cX8_unfold 144 = .ok (.ishl, 1) := by decide +kernel
theorem dX8_unfold_145 : decode cX8_unfold 145 = .ok (.iastore, 1) := by decide +kernel
theorem dX8_unfold_98 : decode cX8_unfold 98 = .ok (.iload 7, 2) := by decide +kernel
theorem dX8_unfold_100 : decode cX8_unfold 100 = .ok (.iload 6, 2) := by decide +kernel
theorem dX8_unfold_102 : decode cX8_unfold 102 = .ok (.iconst 1, 1) := by decide +kernel
theorem dX8_unfold_103 : decode cX8_unfold 103 = .ok (.ishr, 1) := by decide +kernel
theorem dX8_unfold_104 : decode cX8_unfold 104 = .ok (.isub, 1) := by decide +kernel
theorem dX8_unfold_105 : decode cX8_unfold 105 = .ok (.istore 7, 2) := by decide +kernel
theorem dX8_unfold_107 : decode cX8_unfold 107 = .ok (.iload 6, 2) := by decide +kernel
theorem dX8_unfold_109 : decode cX8_unfold 109 = .ok (.iload 7, 2) := by decide +kernel
theorem dX8_unfold_111 : decode cX8_unfold 111 = .ok (.iadd, 1) := by decide +kernel
theorem dX8_unfold_112 : decode cX8_unfold 112 = .ok (.istore 6, 2) := by decide +kernel
theorem dX8_unfold_73 : decode cX8_unfold 73 = .ok (.aload_n 0, 1) := by decide +kernel
theorem dX8_unfold_74 : decode cX8_unfold 74 = .ok (.getfield 9, 3) := by decide +kernel
theorem dX8_unfold_77 : decode cX8_unfold 77 = .ok (.iload 4, 2) := by decide +kernel
theorem dX8_unfold_79 : decode cX8_unfold 79 = .ok (.iconst 1, 1) := by decide +kernel
theorem dX8_unfold_80 : decode cX8_unfold 80 = .ok (.iadd, 1) := by decide +kernel
theorem dX8_unfold_81 : decode cX8_unfold 81 = .ok (.iaload, 1) := by decide +kernel
theorem dX8_unfold_82 : decode cX8_unfold 82 = .ok (.goto 5, 3) := by decide +kernel
set_option maxRecDepth 100000 in
def lf_wk_X8_unfold_2 (w_2 : Nat) (w_3 : Nat) (w_4 : Nat) (w_5 : Int32) (w_6 : Int32) (sv_f : Nat → Int32) (β : Type) (kx_ : (Nat → Int32) → Int32 → β) (k_ : (Nat → Int32) → Nat → β) : Nat → (Nat → Int32) → Int32 → β
  | 0, sm_f, l3 => kx_ sm_f l3
  | fuel + 1, sm_f, l3 => (if nI w_4 ≤ l3 then (kx_ sm_f l3) else (if 1200 < ((l3 * nI w_3) + nI w_3) then (fnL (Int32.toNatClampNeg (l3 * nI w_2)) (fun kk_440 => (k_ sm_f kk_440))) else (if ((l3 * nI w_2) + nI w_2) ≤ 1200 then (if nI w_3 = 2 then (if (w_5 &&& 4) = 0 then (if nI w_2 = 2 then (lf_wk_X8_unfold_2 w_2 w_3 w_4 w_5 w_6 sv_f β kx_ k_ fuel (upd (upd sm_f (Int32.toNatClampNeg (l3 * nI w_2)) ((sv_f (Int32.toNatClampNeg (l3 * nI w_3))) <<< (w_6 &&& 31))) (Int32.toNatClampNeg ((l3 * nI w_2) + 1)) ((sv_f (Int32.toNatClampNeg ((l3 * nI w_3) + 1))) <<< (w_6 &&& 31))) (l3 + 1)) else (lf_wk_X8_unfold_2 w_2 w_3 w_4 w_5 w_6 sv_f β kx_ k_ fuel (upd sm_f (Int32.toNatClampNeg (l3 * nI w_2)) ((sv_f (Int32.toNatClampNeg (l3 * nI w_3))) <<< (w_6 &&& 31))) (l3 + 1))) else (fnL ((sv_f (Int32.toNatClampNeg (l3 * nI w_3))) + ((sv_f (Int32.toNatClampNeg ((l3 * nI w_3) + 1))) - ((sv_f (Int32.toNatClampNeg (l3 * nI w_3))) >>> (1 &&& 31)))) (fun x_450 => (if nI w_2 = 2 then (fnL (((sv_f (Int32.toNatClampNeg ((l3 * nI w_3) + 1))) - ((sv_f (Int32.toNatClampNeg (l3 * nI w_3))) >>> (1 &&& 31))) <<< (w_6 &&& 31)) (fun x_452 => (lf_wk_X8_unfold_2 w_2 w_3 w_4 w_5 w_6 sv_f β kx_ k_ fuel (upd (upd sm_f (Int32.toNatClampNeg (l3 * nI w_2)) (x_450 <<< (w_6 &&& 31))) (Int32.toNatClampNeg ((l3 * nI w_2) + 1)) x_452) (l3 + 1)))) else (lf_wk_X8_unfold_2 w_2 w_3 w_4 w_5 w_6 sv_f β kx_ k_ fuel (upd sm_f (Int32.toNatClampNeg (l3 * nI w_2)) (x_450 <<< (w_6 &&& 31))) (l3 + 1)))))) else (if (w_5 &&& 4) = 0 then (if nI w_2 = 2 then (lf_wk_X8_unfold_2 w_2 w_3 w_4 w_5 w_6 sv_f β kx_ k_ fuel (upd (upd sm_f (Int32.toNatClampNeg (l3 * nI w_2)) ((sv_f (Int32.toNatClampNeg (l3 * nI w_3))) <<< (w_6 &&& 31))) (Int32.toNatClampNeg ((l3 * nI w_2) + 1)) ((sv_f (Int32.toNatClampNeg (l3 * nI w_3))) <<< (w_6 &&& 31))) (l3 + 1)) else (lf_wk_X8_unfold_2 w_2 w_3 w_4 w_5 w_6 sv_f β kx_ k_ fuel (upd sm_f (Int32.toNatClampNeg (l3 * nI w_2)) ((sv_f (Int32.toNatClampNeg (l3 * nI w_3))) <<< (w_6 &&& 31))) (l3 + 1))) else (fnL ((sv_f (Int32.toNatClampNeg (l3 * nI w_3))) + ((sv_f (Int32.toNatClampNeg (l3 * nI w_3))) - ((sv_f (Int32.toNatClampNeg (l3 * nI w_3))) >>> (1 &&& 31)))) (fun x_445 => (if nI w_2 = 2 then (fnL (((sv_f (Int32.toNatClampNeg (l3 * nI w_3))) - ((sv_f (Int32.toNatClampNeg (l3 * nI w_3))) >>> (1 &&& 31))) <<< (w_6 &&& 31)) (fun x_447 => (lf_wk_X8_unfold_2 w_2 w_3 w_4 w_5 w_6 sv_f β kx_ k_ fuel (upd (upd sm_f (Int32.toNatClampNeg (l3 * nI w_2)) (x_445 <<< (w_6 &&& 31))) (Int32.toNatClampNeg ((l3 * nI w_2) + 1)) x_447) (l3 + 1)))) else (lf_wk_X8_unfold_2 w_2 w_3 w_4 w_5 w_6 sv_f β kx_ k_ fuel (upd sm_f (Int32.toNatClampNeg (l3 * nI w_2)) (x_445 <<< (w_6 &&& 31))) (l3 + 1))))))) else (fnL (Int32.toNatClampNeg (l3 * nI w_2)) (fun kk_453 => (k_ sm_f kk_453))))))
set_option maxRecDepth 100000 in
theorem lf_wk_X8_unfold_2_s {w_2 : Nat} {w_3 : Nat} {w_4 : Nat} {w_5 : Int32} {w_6 : Int32} {sv_f : Nat → Int32} {β : Type} {kx_ : (Nat → Int32) → Int32 → β} {k_ : (Nat → Int32) → Nat → β} {fuel : Nat} {sm_f : Nat → Int32} {l3 : Int32} : lf_wk_X8_unfold_2 w_2 w_3 w_4 w_5 w_6 sv_f β kx_ k_ (fuel + 1) sm_f l3 = (if nI w_4 ≤ l3 then (kx_ sm_f l3) else (if 1200 < ((l3 * nI w_3) + nI w_3) then (fnL (Int32.toNatClampNeg (l3 * nI w_2)) (fun kk_440 => (k_ sm_f kk_440))) else (if ((l3 * nI w_2) + nI w_2) ≤ 1200 then (if nI w_3 = 2 then (if (w_5 &&& 4) = 0 then (if nI w_2 = 2 then (lf_wk_X8_unfold_2 w_2 w_3 w_4 w_5 w_6 sv_f β kx_ k_ fuel (upd (upd sm_f (Int32.toNatClampNeg (l3 * nI w_2)) ((sv_f (Int32.toNatClampNeg (l3 * nI w_3))) <<< (w_6 &&& 31))) (Int32.toNatClampNeg ((l3 * nI w_2) + 1)) ((sv_f (Int32.toNatClampNeg ((l3 * nI w_3) + 1))) <<< (w_6 &&& 31))) (l3 + 1)) else (lf_wk_X8_unfold_2 w_2 w_3 w_4 w_5 w_6 sv_f β kx_ k_ fuel (upd sm_f (Int32.toNatClampNeg (l3 * nI w_2)) ((sv_f (Int32.toNatClampNeg (l3 * nI w_3))) <<< (w_6 &&& 31))) (l3 + 1))) else (fnL ((sv_f (Int32.toNatClampNeg (l3 * nI w_3))) + ((sv_f (Int32.toNatClampNeg ((l3 * nI w_3) + 1))) - ((sv_f (Int32.toNatClampNeg (l3 * nI w_3))) >>> (1 &&& 31)))) (fun x_450 => (if nI w_2 = 2 then (fnL (((sv_f (Int32.toNatClampNeg ((l3 * nI w_3) + 1))) - ((sv_f (Int32.toNatClampNeg (l3 * nI w_3))) >>> (1 &&& 31))) <<< (w_6 &&& 31)) (fun x_452 => (lf_wk_X8_unfold_2 w_2 w_3 w_4 w_5 w_6 sv_f β kx_ k_ fuel (upd (upd sm_f (Int32.toNatClampNeg (l3 * nI w_2)) (x_450 <<< (w_6 &&& 31))) (Int32.toNatClampNeg ((l3 * nI w_2) + 1)) x_452) (l3 + 1)))) else (lf_wk_X8_unfold_2 w_2 w_3 w_4 w_5 w_6 sv_f β kx_ k_ fuel (upd sm_f (Int32.toNatClampNeg (l3 * nI w_2)) (x_450 <<< (w_6 &&& 31))) (l3 + 1)))))) else (if (w_5 &&& 4) = 0 then (if nI w_2 = 2 then (lf_wk_X8_unfold_2 w_2 w_3 w_4 w_5 w_6 sv_f β kx_ k_ fuel (upd (upd sm_f (Int32.toNatClampNeg (l3 * nI w_2)) ((sv_f (Int32.toNatClampNeg (l3 * nI w_3))) <<< (w_6 &&& 31))) (Int32.toNatClampNeg ((l3 * nI w_2) + 1)) ((sv_f (Int32.toNatClampNeg (l3 * nI w_3))) <<< (w_6 &&& 31))) (l3 + 1)) else (lf_wk_X8_unfold_2 w_2 w_3 w_4 w_5 w_6 sv_f β kx_ k_ fuel (upd sm_f (Int32.toNatClampNeg (l3 * nI w_2)) ((sv_f (Int32.toNatClampNeg (l3 * nI w_3))) <<< (w_6 &&& 31))) (l3 + 1))) else (fnL ((sv_f (Int32.toNatClampNeg (l3 * nI w_3))) + ((sv_f (Int32.toNatClampNeg (l3 * nI w_3))) - ((sv_f (Int32.toNatClampNeg (l3 * nI w_3))) >>> (1 &&& 31)))) (fun x_445 => (if nI w_2 = 2 then (fnL (((sv_f (Int32.toNatClampNeg (l3 * nI w_3))) - ((sv_f (Int32.toNatClampNeg (l3 * nI w_3))) >>> (1 &&& 31))) <<< (w_6 &&& 31)) (fun x_447 => (lf_wk_X8_unfold_2 w_2 w_3 w_4 w_5 w_6 sv_f β kx_ k_ fuel (upd (upd sm_f (Int32.toNatClampNeg (l3 * nI w_2)) (x_445 <<< (w_6 &&& 31))) (Int32.toNatClampNeg ((l3 * nI w_2) + 1)) x_447) (l3 + 1)))) else (lf_wk_X8_unfold_2 w_2 w_3 w_4 w_5 w_6 sv_f β kx_ k_ fuel (upd sm_f (Int32.toNatClampNeg (l3 * nI w_2)) (x_445 <<< (w_6 &&& 31))) (l3 + 1))))))) else (fnL (Int32.toNatClampNeg (l3 * nI w_2)) (fun kk_453 => (k_ sm_f kk_453)))))) := rfl
set_option maxRecDepth 100000 in
set_option maxHeartbeats 4000000 in
theorem lp_wk_X8_unfold_2 (E : g_E) (w : Nat) (ps : Nat) (md : Nat) (sh : Nat) (sv : Nat) (sr : Nat) (sl : Nat) (sp : Nat) (sm : Nat) (w_2 : Nat) (w_3 : Nat) (w_4 : Nat) (w_5 : Int32) (w_6 : Int32) (w_7 : Int32) (w_8 : Int32) (w_9 : Int32) (w_10 : Int32) (w_11 : Int32) (sv_f : Nat → Int32) (hk0 : w_2 ≤ 2) (hk1 : w_3 ≤ 2) (hk2 : w_4 ≤ 600) {X : g_X} {rr : (β : Type) → ((Nat → Int32) → Nat → β) → β} (kx_ : (β : Type) → ((Nat → Int32) → Nat → β) → (Nat → Int32) → Int32 → β) (B : Bd E X cX8_unfold RX8 8 0 0 0 0) (hr : Rt E X (some .int) 0 0 (fun v_ w_ => ∃ zsm_f : Nat → Int32, ∃ zr : Nat, (zr ≤ 1200) ∧ (∀ (β : Type) (k_ : (Nat → Int32) → Nat → β), rr β k_ = k_ zsm_f zr) ∧ v_ = some (.int (nI zr)) ∧ w_ = [(w, .inr (9, [.ref ps, .ref md, .int (nI w_2), .int (nI w_3), .int (nI w_4), .int w_5, .int w_6, .int w_7, .int w_8, .int w_9, .int w_10, .int w_11])), (sh, .inr (8, [.ref sv, .ref sr, .ref sl, .ref sp])), (sv, .inl (E.2.2.1 0, 1200, .inl sv_f)), (sm, .inl (E.2.2.1 0, 1200, .inl zsm_f))])) (K : ∀ (sm_f : Nat → Int32) (l3 : Int32), (∀ (β : Type) (k_ : (Nat → Int32) → Nat → β), rr β k_ = kx_ β k_ sm_f l3) → G E X 8 [(w, .inr (9, [.ref ps, .ref md, .int (nI w_2), .int (nI w_3), .int (nI w_4), .int w_5, .int w_6, .int w_7, .int w_8, .int w_9, .int w_10, .int w_11])), (sh, .inr (8, [.ref sv, .ref sr, .ref sl, .ref sp])), (sv, .inl (E.2.2.1 0, 1200, .inl sv_f)), (sm, .inl (E.2.2.1 0, 1200, .inl sm_f))] 0 0 [(0, .ref sh), (1, .ref w), (2, .ref sm), (3, .int l3)] 152 []) : ∀ (n : Nat) (sm_f : Nat → Int32) (l3 : Int32), ¬ l3 < 0 → (Int32.toInt (nI w_4) - Int32.toInt l3).toNat < n → (∀ (β : Type) (k_ : (Nat → Int32) → Nat → β), rr β k_ = lf_wk_X8_unfold_2 w_2 w_3 w_4 w_5 w_6 sv_f β (kx_ β k_) k_ n sm_f l3) → G E X 8 [(w, .inr (9, [.ref ps, .ref md, .int (nI w_2), .int (nI w_3), .int (nI w_4), .int w_5, .int w_6, .int w_7, .int w_8, .int w_9, .int w_10, .int w_11])), (sh, .inr (8, [.ref sv, .ref sr, .ref sl, .ref sp])), (sv, .inl (E.2.2.1 0, 1200, .inl sv_f)), (sm, .inl (E.2.2.1 0, 1200, .inl sm_f))] 0 0 [(0, .ref sh), (1, .ref w), (2, .ref sm), (3, .int l3)] 2 [] := by
  intro n
  induction n with
  | zero => intro sm_f l3 _ h _; exact absurd h (Nat.not_lt_zero _)
  | succ n ih =>
    intro sm_f l3 hv0 hm e_
    replace e_ := fun β k_ => (e_ β k_).trans lf_wk_X8_unfold_2_s
    refine g_iload_n B dX8_unfold_2 rfl 3 rfl ?_
    refine g_aload_n B dX8_unfold_3 rfl 1 rfl ?_
    refine g_get B 0 4 fl_X8_29 rfl rfl dX8_unfold_4 ?_
    refine g_icmp_ge (tgt := 152) B dX8_unfold_7 (by decide) (fun c7_438 => ?_) (fun c7_438 => ?_)
    · replace e_ := fun β k_ => (e_ β k_).trans (if_pos c7_438)
      exact K sm_f l3 e_
    · replace e_ := fun β k_ => (e_ β k_).trans (if_neg c7_438)
      refine g_iload_n B dX8_unfold_10 rfl 3 rfl ?_
      refine g_aload_n B dX8_unfold_11 rfl 1 rfl ?_
      refine g_get B 0 3 fl_X8_38 rfl rfl dX8_unfold_12 ?_
      refine g_imul B dX8_unfold_15 ?_
      refine g_istore (lv' := [(4, .int (l3 * nI w_3)), (0, .ref sh), (1, .ref w), (2, .ref sm), (3, .int l3)]) B dX8_unfold_16 (by decide) rfl ?_
      refine g_iload_n B dX8_unfold_18 rfl 4 rfl ?_
      refine g_aload_n B dX8_unfold_19 rfl 2 rfl ?_
      refine g_get B 0 2 fl_X8_35 rfl rfl dX8_unfold_20 ?_
      refine g_imul B dX8_unfold_23 ?_
      refine g_istore (lv' := [(5, .int (l3 * nI w_2)), (4, .int (l3 * nI w_3)), (0, .ref sh), (1, .ref w), (2, .ref sm), (3, .int l3)]) B dX8_unfold_24 (by decide) rfl ?_
      refine g_iload B dX8_unfold_26 1 rfl ?_
      refine g_aload_n B dX8_unfold_28 rfl 3 rfl ?_
      refine g_get B 0 3 fl_X8_38 rfl rfl dX8_unfold_29 ?_
      refine g_iadd B dX8_unfold_32 ?_
      refine g_aload_n B dX8_unfold_33 rfl 2 rfl ?_
      refine g_get B 1 0 fl_X8_9 rfl rfl dX8_unfold_34 ?_
      refine g_alen (v := nI 1200) B 2 (by decide) rfl rfl dX8_unfold_37 ?_
      refine g_ri (x' := 1200) (by decide) ?_
      refine g_icmp_gt (tgt := 53) B dX8_unfold_38 (by decide) (fun c38_439 => ?_) (fun c38_439 => ?_)
      · replace e_ := fun β k_ => (e_ β k_).trans (if_pos c38_439)
        refine g_iload B dX8_unfold_53 0 rfl ?_
        obtain ⟨kk_440, hkk_440, ekk_440⟩ := fd_nat hk2 hk0 hv0 (o_2 c7_438)
        refine g_ri (x' := nI kk_440) ekk_440 ?_
        replace e_ := fun β k_ => (e_ β k_).trans (fnL_eq (x := kk_440) (by rw [ekk_440]; exact nI_clamp (by omega)) _)
        exact g_iret B hr dX8_unfold_55 (by decide) (by decide) ⟨sm_f, kk_440, (by first | assumption | omega | decide), e_, rfl, rfl⟩
      · replace e_ := fun β k_ => (e_ β k_).trans (if_neg c38_439)
        refine g_iload B dX8_unfold_41 0 rfl ?_
        refine g_aload_n B dX8_unfold_43 rfl 3 rfl ?_
        refine g_get B 0 2 fl_X8_35 rfl rfl dX8_unfold_44 ?_
        refine g_iadd B dX8_unfold_47 ?_
        refine g_aload_n B dX8_unfold_48 rfl 4 rfl ?_
        refine g_alen (v := nI 1200) B 3 (by decide) rfl rfl dX8_unfold_49 ?_
        refine g_ri (x' := 1200) (by decide) ?_
        refine g_icmp_le (tgt := 56) B dX8_unfold_50 (by decide) (fun c50_441 => ?_) (fun c50_441 => ?_)
        · replace e_ := fun β k_ => (e_ β k_).trans (if_pos c50_441)
          refine g_aload_n B dX8_unfold_56 rfl 2 rfl ?_
          refine g_get B 1 0 fl_X8_9 rfl rfl dX8_unfold_57 ?_
          refine g_iload B dX8_unfold_60 1 rfl ?_
          refine g_iald B 2 rfl (fd_in0 hk2 hk1 hv0 (o_2 c7_438)) dX8_unfold_62 ?_
          refine g_istore (lv' := [(6, .int (sv_f (Int32.toNatClampNeg (l3 * nI w_3)))), (5, .int (l3 * nI w_2)), (4, .int (l3 * nI w_3)), (0, .ref sh), (1, .ref w), (2, .ref sm), (3, .int l3)]) B dX8_unfold_63 (by decide) rfl ?_
          refine g_aload_n B dX8_unfold_65 rfl 4 rfl ?_
          refine g_get B 0 3 fl_X8_38 rfl rfl dX8_unfold_66 ?_
          refine g_iconst (v := 2) B dX8_unfold_69 (by decide) ?_
          refine g_icmp_ne (tgt := 85) B dX8_unfold_70 (by decide) (fun c70_442 => ?_) (fun c70_442 => ?_)
          · replace e_ := fun β k_ => (e_ β k_).trans (if_neg c70_442)
            refine g_iload B dX8_unfold_85 0 rfl ?_
            refine g_istore (lv' := [(7, .int (sv_f (Int32.toNatClampNeg (l3 * nI w_3)))), (6, .int (sv_f (Int32.toNatClampNeg (l3 * nI w_3)))), (5, .int (l3 * nI w_2)), (4, .int (l3 * nI w_3)), (0, .ref sh), (1, .ref w), (2, .ref sm), (3, .int l3)]) B dX8_unfold_87 (by decide) rfl ?_
            refine g_aload_n B dX8_unfold_89 rfl 5 rfl ?_
            refine g_get B 0 5 fl_X8_44 rfl rfl dX8_unfold_90 ?_
            refine g_iconst (v := 4) B dX8_unfold_93 (by decide) ?_
            refine g_iand B dX8_unfold_94 ?_
            refine g_if_eq (tgt := 114) B dX8_unfold_95 (by decide) (fun c95_443 => ?_) (fun c95_443 => ?_)
            · replace e_ := fun β k_ => (e_ β k_).trans (if_pos c95_443)
              refine g_aload_n B dX8_unfold_114 rfl 6 rfl ?_
              refine g_iload B dX8_unfold_115 2 rfl ?_
              refine g_iload B dX8_unfold_117 1 rfl ?_
              refine g_aload_n B dX8_unfold_119 rfl 5 rfl ?_
              refine g_get B 0 6 fl_X8_41 rfl rfl dX8_unfold_120 ?_
              refine g_ishl B dX8_unfold_123 ?_
              refine g_iast (ws' := [(w, .inr (9, [.ref ps, .ref md, .int (nI w_2), .int (nI w_3), .int (nI w_4), .int w_5, .int w_6, .int w_7, .int w_8, .int w_9, .int w_10, .int w_11])), (sh, .inr (8, [.ref sv, .ref sr, .ref sl, .ref sp])), (sv, .inl (E.2.2.1 0, 1200, .inl sv_f)), (sm, .inl (E.2.2.1 0, 1200, .inl (upd sm_f (Int32.toNatClampNeg (l3 * nI w_2)) ((sv_f (Int32.toNatClampNeg (l3 * nI w_3))) <<< (w_6 &&& 31)))))]) B 3 rfl (fd_in0 hk2 hk0 hv0 (o_2 c7_438)) rfl dX8_unfold_124 ?_
              refine g_aload_n B dX8_unfold_125 rfl 5 rfl ?_
              refine g_get B 0 2 fl_X8_35 rfl rfl dX8_unfold_126 ?_
              refine g_iconst (v := 2) B dX8_unfold_129 (by decide) ?_
              refine g_icmp_ne (tgt := 146) B dX8_unfold_130 (by decide) (fun c130_444 => ?_) (fun c130_444 => ?_)
              · replace e_ := fun β k_ => (e_ β k_).trans (if_neg c130_444)
                refine g_iinc (v := (l3 + 1)) (lv' := [(3, .int (l3 + 1)), (7, .int (sv_f (Int32.toNatClampNeg (l3 * nI w_3)))), (6, .int (sv_f (Int32.toNatClampNeg (l3 * nI w_3)))), (5, .int (l3 * nI w_2)), (4, .int (l3 * nI w_3)), (0, .ref sh), (1, .ref w), (2, .ref sm)]) B dX8_unfold_146 7 rfl rfl (by decide) rfl ?_
                refine g_goto (tgt := 2) B dX8_unfold_149 (by decide) ?_
                refine g_lvsub (lv' := [(0, .ref sh), (1, .ref w), (2, .ref sm), (3, .int (l3 + 1))]) [5, 6, 7, 0] rfl ?_
                exact ih (upd sm_f (Int32.toNatClampNeg (l3 * nI w_2)) ((sv_f (Int32.toNatClampNeg (l3 * nI w_3))) <<< (w_6 &&& 31))) (l3 + 1) (inv_up hv0 (o_2 c7_438)) (Nat.lt_of_lt_of_le (st_up (o_2 c7_438)) (Nat.le_of_lt_succ hm)) e_
              · replace e_ := fun β k_ => (e_ β k_).trans (if_pos c130_444)
                refine g_aload_n B dX8_unfold_133 rfl 6 rfl ?_
                refine g_iload B dX8_unfold_134 2 rfl ?_
                refine g_iconst (v := 1) B dX8_unfold_136 (by decide) ?_
                refine g_iadd B dX8_unfold_137 ?_
                refine g_iload B dX8_unfold_138 0 rfl ?_
                refine g_aload_n B dX8_unfold_140 rfl 5 rfl ?_
                refine g_get B 0 6 fl_X8_41 rfl rfl dX8_unfold_141 ?_
                refine g_ishl B dX8_unfold_144 ?_
                refine g_iast (ws' := [(w, .inr (9, [.ref ps, .ref md, .int (nI w_2), .int (nI w_3), .int (nI w_4), .int w_5, .int w_6, .int w_7, .int w_8, .int w_9, .int w_10, .int w_11])), (sh, .inr (8, [.ref sv, .ref sr, .ref sl, .ref sp])), (sv, .inl (E.2.2.1 0, 1200, .inl sv_f)), (sm, .inl (E.2.2.1 0, 1200, .inl (upd (upd sm_f (Int32.toNatClampNeg (l3 * nI w_2)) ((sv_f (Int32.toNatClampNeg (l3 * nI w_3))) <<< (w_6 &&& 31))) (Int32.toNatClampNeg ((l3 * nI w_2) + 1)) ((sv_f (Int32.toNatClampNeg (l3 * nI w_3))) <<< (w_6 &&& 31)))))]) B 3 rfl (fd_in 1 (by decide) hk2 hk0 hv0 (o_2 c7_438)) rfl dX8_unfold_145 ?_
                refine g_iinc (v := (l3 + 1)) (lv' := [(3, .int (l3 + 1)), (7, .int (sv_f (Int32.toNatClampNeg (l3 * nI w_3)))), (6, .int (sv_f (Int32.toNatClampNeg (l3 * nI w_3)))), (5, .int (l3 * nI w_2)), (4, .int (l3 * nI w_3)), (0, .ref sh), (1, .ref w), (2, .ref sm)]) B dX8_unfold_146 7 rfl rfl (by decide) rfl ?_
                refine g_goto (tgt := 2) B dX8_unfold_149 (by decide) ?_
                refine g_lvsub (lv' := [(0, .ref sh), (1, .ref w), (2, .ref sm), (3, .int (l3 + 1))]) [5, 6, 7, 0] rfl ?_
                exact ih (upd (upd sm_f (Int32.toNatClampNeg (l3 * nI w_2)) ((sv_f (Int32.toNatClampNeg (l3 * nI w_3))) <<< (w_6 &&& 31))) (Int32.toNatClampNeg ((l3 * nI w_2) + 1)) ((sv_f (Int32.toNatClampNeg (l3 * nI w_3))) <<< (w_6 &&& 31))) (l3 + 1) (inv_up hv0 (o_2 c7_438)) (Nat.lt_of_lt_of_le (st_up (o_2 c7_438)) (Nat.le_of_lt_succ hm)) e_
            · replace e_ := fun β k_ => (e_ β k_).trans (if_neg c95_443)
              refine g_iload B dX8_unfold_98 0 rfl ?_
              refine g_iload B dX8_unfold_100 1 rfl ?_
              refine g_iconst (v := 1) B dX8_unfold_102 (by decide) ?_
              refine g_ishr B dX8_unfold_103 ?_
              refine g_isub B dX8_unfold_104 ?_
              refine g_istore (lv' := [(7, .int ((sv_f (Int32.toNatClampNeg (l3 * nI w_3))) - ((sv_f (Int32.toNatClampNeg (l3 * nI w_3))) >>> (1 &&& 31)))), (6, .int (sv_f (Int32.toNatClampNeg (l3 * nI w_3)))), (5, .int (l3 * nI w_2)), (4, .int (l3 * nI w_3)), (0, .ref sh), (1, .ref w), (2, .ref sm), (3, .int l3)]) B dX8_unfold_105 (by decide) rfl ?_
              refine g_iload B dX8_unfold_107 1 rfl ?_
              refine g_iload B dX8_unfold_109 0 rfl ?_
              refine g_iadd B dX8_unfold_111 ?_
              refine g_topi (fun x_445 ex_445 => ?_)
              replace e_ := fun β k_ => (e_ β k_).trans (fnL_eq (x := x_445) ex_445.symm _)
              refine g_istore (lv' := [(6, .int x_445), (7, .int ((sv_f (Int32.toNatClampNeg (l3 * nI w_3))) - ((sv_f (Int32.toNatClampNeg (l3 * nI w_3))) >>> (1 &&& 31)))), (5, .int (l3 * nI w_2)), (4, .int (l3 * nI w_3)), (0, .ref sh), (1, .ref w), (2, .ref sm), (3, .int l3)]) B dX8_unfold_112 (by decide) rfl ?_
              refine g_aload_n B dX8_unfold_114 rfl 6 rfl ?_
              refine g_iload B dX8_unfold_115 2 rfl ?_
              refine g_iload B dX8_unfold_117 0 rfl ?_
              refine g_aload_n B dX8_unfold_119 rfl 5 rfl ?_
              refine g_get B 0 6 fl_X8_41 rfl rfl dX8_unfold_120 ?_
              refine g_ishl B dX8_unfold_123 ?_
              refine g_iast (ws' := [(w, .inr (9, [.ref ps, .ref md, .int (nI w_2), .int (nI w_3), .int (nI w_4), .int w_5, .int w_6, .int w_7, .int w_8, .int w_9, .int w_10, .int w_11])), (sh, .inr (8, [.ref sv, .ref sr, .ref sl, .ref sp])), (sv, .inl (E.2.2.1 0, 1200, .inl sv_f)), (sm, .inl (E.2.2.1 0, 1200, .inl (upd sm_f (Int32.toNatClampNeg (l3 * nI w_2)) (x_445 <<< (w_6 &&& 31)))))]) B 3 rfl (fd_in0 hk2 hk0 hv0 (o_2 c7_438)) rfl dX8_unfold_124 ?_
              refine g_aload_n B dX8_unfold_125 rfl 5 rfl ?_
              refine g_get B 0 2 fl_X8_35 rfl rfl dX8_unfold_126 ?_
              refine g_iconst (v := 2) B dX8_unfold_129 (by decide) ?_
              refine g_icmp_ne (tgt := 146) B dX8_unfold_130 (by decide) (fun c130_446 => ?_) (fun c130_446 => ?_)
              · replace e_ := fun β k_ => (e_ β k_).trans (if_neg c130_446)
                refine g_iinc (v := (l3 + 1)) (lv' := [(3, .int (l3 + 1)), (6, .int x_445), (7, .int ((sv_f (Int32.toNatClampNeg (l3 * nI w_3))) - ((sv_f (Int32.toNatClampNeg (l3 * nI w_3))) >>> (1 &&& 31)))), (5, .int (l3 * nI w_2)), (4, .int (l3 * nI w_3)), (0, .ref sh), (1, .ref w), (2, .ref sm)]) B dX8_unfold_146 7 rfl rfl (by decide) rfl ?_
                refine g_goto (tgt := 2) B dX8_unfold_149 (by decide) ?_
                refine g_lvsub (lv' := [(0, .ref sh), (1, .ref w), (2, .ref sm), (3, .int (l3 + 1))]) [5, 6, 7, 0] rfl ?_
                exact ih (upd sm_f (Int32.toNatClampNeg (l3 * nI w_2)) (x_445 <<< (w_6 &&& 31))) (l3 + 1) (inv_up hv0 (o_2 c7_438)) (Nat.lt_of_lt_of_le (st_up (o_2 c7_438)) (Nat.le_of_lt_succ hm)) e_
              · replace e_ := fun β k_ => (e_ β k_).trans (if_pos c130_446)
                refine g_aload_n B dX8_unfold_133 rfl 6 rfl ?_
                refine g_iload B dX8_unfold_134 2 rfl ?_
                refine g_iconst (v := 1) B dX8_unfold_136 (by decide) ?_
                refine g_iadd B dX8_unfold_137 ?_
                refine g_iload B dX8_unfold_138 1 rfl ?_
                refine g_aload_n B dX8_unfold_140 rfl 5 rfl ?_
                refine g_get B 0 6 fl_X8_41 rfl rfl dX8_unfold_141 ?_
                refine g_ishl B dX8_unfold_144 ?_
                refine g_topi (fun x_447 ex_447 => ?_)
                replace e_ := fun β k_ => (e_ β k_).trans (fnL_eq (x := x_447) ex_447.symm _)
                refine g_iast (ws' := [(w, .inr (9, [.ref ps, .ref md, .int (nI w_2), .int (nI w_3), .int (nI w_4), .int w_5, .int w_6, .int w_7, .int w_8, .int w_9, .int w_10, .int w_11])), (sh, .inr (8, [.ref sv, .ref sr, .ref sl, .ref sp])), (sv, .inl (E.2.2.1 0, 1200, .inl sv_f)), (sm, .inl (E.2.2.1 0, 1200, .inl (upd (upd sm_f (Int32.toNatClampNeg (l3 * nI w_2)) (x_445 <<< (w_6 &&& 31))) (Int32.toNatClampNeg ((l3 * nI w_2) + 1)) x_447)))]) B 3 rfl (fd_in 1 (by decide) hk2 hk0 hv0 (o_2 c7_438)) rfl dX8_unfold_145 ?_
                refine g_iinc (v := (l3 + 1)) (lv' := [(3, .int (l3 + 1)), (6, .int x_445), (7, .int ((sv_f (Int32.toNatClampNeg (l3 * nI w_3))) - ((sv_f (Int32.toNatClampNeg (l3 * nI w_3))) >>> (1 &&& 31)))), (5, .int (l3 * nI w_2)), (4, .int (l3 * nI w_3)), (0, .ref sh), (1, .ref w), (2, .ref sm)]) B dX8_unfold_146 7 rfl rfl (by decide) rfl ?_
                refine g_goto (tgt := 2) B dX8_unfold_149 (by decide) ?_
                refine g_lvsub (lv' := [(0, .ref sh), (1, .ref w), (2, .ref sm), (3, .int (l3 + 1))]) [5, 6, 7, 0] rfl ?_
                exact ih (upd (upd sm_f (Int32.toNatClampNeg (l3 * nI w_2)) (x_445 <<< (w_6 &&& 31))) (Int32.toNatClampNeg ((l3 * nI w_2) + 1)) x_447) (l3 + 1) (inv_up hv0 (o_2 c7_438)) (Nat.lt_of_lt_of_le (st_up (o_2 c7_438)) (Nat.le_of_lt_succ hm)) e_
          · replace e_ := fun β k_ => (e_ β k_).trans (if_pos c70_442)
            refine g_aload_n B dX8_unfold_73 rfl 3 rfl ?_
            refine g_get B 1 0 fl_X8_9 rfl rfl dX8_unfold_74 ?_
            refine g_iload B dX8_unfold_77 2 rfl ?_
            refine g_iconst (v := 1) B dX8_unfold_79 (by decide) ?_
            refine g_iadd B dX8_unfold_80 ?_
            refine g_iald B 2 rfl (fd_in 1 (by decide) hk2 hk1 hv0 (o_2 c7_438)) dX8_unfold_81 ?_
            refine g_goto (tgt := 87) B dX8_unfold_82 (by decide) ?_
            refine g_istore (lv' := [(7, .int (sv_f (Int32.toNatClampNeg ((l3 * nI w_3) + 1)))), (6, .int (sv_f (Int32.toNatClampNeg (l3 * nI w_3)))), (5, .int (l3 * nI w_2)), (4, .int (l3 * nI w_3)), (0, .ref sh), (1, .ref w), (2, .ref sm), (3, .int l3)]) B dX8_unfold_87 (by decide) rfl ?_
            refine g_aload_n B dX8_unfold_89 rfl 5 rfl ?_
            refine g_get B 0 5 fl_X8_44 rfl rfl dX8_unfold_90 ?_
            refine g_iconst (v := 4) B dX8_unfold_93 (by decide) ?_
            refine g_iand B dX8_unfold_94 ?_
            refine g_if_eq (tgt := 114) B dX8_unfold_95 (by decide) (fun c95_448 => ?_) (fun c95_448 => ?_)
            · replace e_ := fun β k_ => (e_ β k_).trans (if_pos c95_448)
              refine g_aload_n B dX8_unfold_114 rfl 6 rfl ?_
              refine g_iload B dX8_unfold_115 2 rfl ?_
              refine g_iload B dX8_unfold_117 1 rfl ?_
              refine g_aload_n B dX8_unfold_119 rfl 5 rfl ?_
              refine g_get B 0 6 fl_X8_41 rfl rfl dX8_unfold_120 ?_
              refine g_ishl B dX8_unfold_123 ?_
              refine g_iast (ws' := [(w, .inr (9, [.ref ps, .ref md, .int (nI w_2), .int (nI w_3), .int (nI w_4), .int w_5, .int w_6, .int w_7, .int w_8, .int w_9, .int w_10, .int w_11])), (sh, .inr (8, [.ref sv, .ref sr, .ref sl, .ref sp])), (sv, .inl (E.2.2.1 0, 1200, .inl sv_f)), (sm, .inl (E.2.2.1 0, 1200, .inl (upd sm_f (Int32.toNatClampNeg (l3 * nI w_2)) ((sv_f (Int32.toNatClampNeg (l3 * nI w_3))) <<< (w_6 &&& 31)))))]) B 3 rfl (fd_in0 hk2 hk0 hv0 (o_2 c7_438)) rfl dX8_unfold_124 ?_
              refine g_aload_n B dX8_unfold_125 rfl 5 rfl ?_
              refine g_get B 0 2 fl_X8_35 rfl rfl dX8_unfold_126 ?_
              refine g_iconst (v := 2) B dX8_unfold_129 (by decide) ?_
              refine g_icmp_ne (tgt := 146) B dX8_unfold_130 (by decide) (fun c130_449 => ?_) (fun c130_449 => ?_)
              · replace e_ := fun β k_ => (e_ β k_).trans (if_neg c130_449)
                refine g_iinc (v := (l3 + 1)) (lv' := [(3, .int (l3 + 1)), (7, .int (sv_f (Int32.toNatClampNeg ((l3 * nI w_3) + 1)))), (6, .int (sv_f (Int32.toNatClampNeg (l3 * nI w_3)))), (5, .int (l3 * nI w_2)), (4, .int (l3 * nI w_3)), (0, .ref sh), (1, .ref w), (2, .ref sm)]) B dX8_unfold_146 7 rfl rfl (by decide) rfl ?_
                refine g_goto (tgt := 2) B dX8_unfold_149 (by decide) ?_
                refine g_lvsub (lv' := [(0, .ref sh), (1, .ref w), (2, .ref sm), (3, .int (l3 + 1))]) [5, 6, 7, 0] rfl ?_
                exact ih (upd sm_f (Int32.toNatClampNeg (l3 * nI w_2)) ((sv_f (Int32.toNatClampNeg (l3 * nI w_3))) <<< (w_6 &&& 31))) (l3 + 1) (inv_up hv0 (o_2 c7_438)) (Nat.lt_of_lt_of_le (st_up (o_2 c7_438)) (Nat.le_of_lt_succ hm)) e_
              · replace e_ := fun β k_ => (e_ β k_).trans (if_pos c130_449)
                refine g_aload_n B dX8_unfold_133 rfl 6 rfl ?_
                refine g_iload B dX8_unfold_134 2 rfl ?_
                refine g_iconst (v := 1) B dX8_unfold_136 (by decide) ?_
                refine g_iadd B dX8_unfold_137 ?_
                refine g_iload B dX8_unfold_138 0 rfl ?_
                refine g_aload_n B dX8_unfold_140 rfl 5 rfl ?_
                refine g_get B 0 6 fl_X8_41 rfl rfl dX8_unfold_141 ?_
                refine g_ishl B dX8_unfold_144 ?_
                refine g_iast (ws' := [(w, .inr (9, [.ref ps, .ref md, .int (nI w_2), .int (nI w_3), .int (nI w_4), .int w_5, .int w_6, .int w_7, .int w_8, .int w_9, .int w_10, .int w_11])), (sh, .inr (8, [.ref sv, .ref sr, .ref sl, .ref sp])), (sv, .inl (E.2.2.1 0, 1200, .inl sv_f)), (sm, .inl (E.2.2.1 0, 1200, .inl (upd (upd sm_f (Int32.toNatClampNeg (l3 * nI w_2)) ((sv_f (Int32.toNatClampNeg (l3 * nI w_3))) <<< (w_6 &&& 31))) (Int32.toNatClampNeg ((l3 * nI w_2) + 1)) ((sv_f (Int32.toNatClampNeg ((l3 * nI w_3) + 1))) <<< (w_6 &&& 31)))))]) B 3 rfl (fd_in 1 (by decide) hk2 hk0 hv0 (o_2 c7_438)) rfl dX8_unfold_145 ?_
                refine g_iinc (v := (l3 + 1)) (lv' := [(3, .int (l3 + 1)), (7, .int (sv_f (Int32.toNatClampNeg ((l3 * nI w_3) + 1)))), (6, .int (sv_f (Int32.toNatClampNeg (l3 * nI w_3)))), (5, .int (l3 * nI w_2)), (4, .int (l3 * nI w_3)), (0, .ref sh), (1, .ref w), (2, .ref sm)]) B dX8_unfold_146 7 rfl rfl (by decide) rfl ?_
                refine g_goto (tgt := 2) B dX8_unfold_149 (by decide) ?_
                refine g_lvsub (lv' := [(0, .ref sh), (1, .ref w), (2, .ref sm), (3, .int (l3 + 1))]) [5, 6, 7, 0] rfl ?_
                exact ih (upd (upd sm_f (Int32.toNatClampNeg (l3 * nI w_2)) ((sv_f (Int32.toNatClampNeg (l3 * nI w_3))) <<< (w_6 &&& 31))) (Int32.toNatClampNeg ((l3 * nI w_2) + 1)) ((sv_f (Int32.toNatClampNeg ((l3 * nI w_3) + 1))) <<< (w_6 &&& 31))) (l3 + 1) (inv_up hv0 (o_2 c7_438)) (Nat.lt_of_lt_of_le (st_up (o_2 c7_438)) (Nat.le_of_lt_succ hm)) e_
            · replace e_ := fun β k_ => (e_ β k_).trans (if_neg c95_448)
              refine g_iload B dX8_unfold_98 0 rfl ?_
              refine g_iload B dX8_unfold_100 1 rfl ?_
              refine g_iconst (v := 1) B dX8_unfold_102 (by decide) ?_
              refine g_ishr B dX8_unfold_103 ?_
              refine g_isub B dX8_unfold_104 ?_
              refine g_istore (lv' := [(7, .int ((sv_f (Int32.toNatClampNeg ((l3 * nI w_3) + 1))) - ((sv_f (Int32.toNatClampNeg (l3 * nI w_3))) >>> (1 &&& 31)))), (6, .int (sv_f (Int32.toNatClampNeg (l3 * nI w_3)))), (5, .int (l3 * nI w_2)), (4, .int (l3 * nI w_3)), (0, .ref sh), (1, .ref w), (2, .ref sm), (3, .int l3)]) B dX8_unfold_105 (by decide) rfl ?_
              refine g_iload B dX8_unfold_107 1 rfl ?_
              refine g_iload B dX8_unfold_109 0 rfl ?_
              refine g_iadd B dX8_unfold_111 ?_
              refine g_topi (fun x_450 ex_450 => ?_)
              replace e_ := fun β k_ => (e_ β k_).trans (fnL_eq (x := x_450) ex_450.symm _)
              refine g_istore (lv' := [(6, .int x_450), (7, .int ((sv_f (Int32.toNatClampNeg ((l3 * nI w_3) + 1))) - ((sv_f (Int32.toNatClampNeg (l3 * nI w_3))) >>> (1 &&& 31)))), (5, .int (l3 * nI w_2)), (4, .int (l3 * nI w_3)), (0, .ref sh), (1, .ref w), (2, .ref sm), (3, .int l3)]) B dX8_unfold_112 (by decide) rfl ?_
              refine g_aload_n B dX8_unfold_114 rfl 6 rfl ?_
              refine g_iload B dX8_unfold_115 2 rfl ?_
              refine g_iload B dX8_unfold_117 0 rfl ?_
              refine g_aload_n B dX8_unfold_119 rfl 5 rfl ?_
              refine g_get B 0 6 fl_X8_41 rfl rfl dX8_unfold_120 ?_
              refine g_ishl B dX8_unfold_123 ?_
              refine g_iast (ws' := [(w, .inr (9, [.ref ps, .ref md, .int (nI w_2), .int (nI w_3), .int (nI w_4), .int w_5, .int w_6, .int w_7, .int w_8, .int w_9, .int w_10, .int w_11])), (sh, .inr (8, [.ref sv, .ref sr, .ref sl, .ref sp])), (sv, .inl (E.2.2.1 0, 1200, .inl sv_f)), (sm, .inl (E.2.2.1 0, 1200, .inl (upd sm_f (Int32.toNatClampNeg (l3 * nI w_2)) (x_450 <<< (w_6 &&& 31)))))]) B 3 rfl (fd_in0 hk2 hk0 hv0 (o_2 c7_438)) rfl dX8_unfold_124 ?_
              refine g_aload_n B dX8_unfold_125 rfl 5 rfl ?_
              refine g_get B 0 2 fl_X8_35 rfl rfl dX8_unfold_126 ?_
              refine g_iconst (v := 2) B dX8_unfold_129 (by decide) ?_
              refine g_icmp_ne (tgt := 146) B dX8_unfold_130 (by decide) (fun c130_451 => ?_) (fun c130_451 => ?_)
              · replace e_ := fun β k_ => (e_ β k_).trans (if_neg c130_451)
                refine g_iinc (v := (l3 + 1)) (lv' := [(3, .int (l3 + 1)), (6, .int x_450), (7, .int ((sv_f (Int32.toNatClampNeg ((l3 * nI w_3) + 1))) - ((sv_f (Int32.toNatClampNeg (l3 * nI w_3))) >>> (1 &&& 31)))), (5, .int (l3 * nI w_2)), (4, .int (l3 * nI w_3)), (0, .ref sh), (1, .ref w), (2, .ref sm)]) B dX8_unfold_146 7 rfl rfl (by decide) rfl ?_
                refine g_goto (tgt := 2) B dX8_unfold_149 (by decide) ?_
                refine g_lvsub (lv' := [(0, .ref sh), (1, .ref w), (2, .ref sm), (3, .int (l3 + 1))]) [5, 6, 7, 0] rfl ?_
                exact ih (upd sm_f (Int32.toNatClampNeg (l3 * nI w_2)) (x_450 <<< (w_6 &&& 31))) (l3 + 1) (inv_up hv0 (o_2 c7_438)) (Nat.lt_of_lt_of_le (st_up (o_2 c7_438)) (Nat.le_of_lt_succ hm)) e_
              · replace e_ := fun β k_ => (e_ β k_).trans (if_pos c130_451)
                refine g_aload_n B dX8_unfold_133 rfl 6 rfl ?_
                refine g_iload B dX8_unfold_134 2 rfl ?_
                refine g_iconst (v := 1) B dX8_unfold_136 (by decide) ?_
                refine g_iadd B dX8_unfold_137 ?_
                refine g_iload B dX8_unfold_138 1 rfl ?_
                refine g_aload_n B dX8_unfold_140 rfl 5 rfl ?_
                refine g_get B 0 6 fl_X8_41 rfl rfl dX8_unfold_141 ?_
                refine g_ishl B dX8_unfold_144 ?_
                refine g_topi (fun x_452 ex_452 => ?_)
                replace e_ := fun β k_ => (e_ β k_).trans (fnL_eq (x := x_452) ex_452.symm _)
                refine g_iast (ws' := [(w, .inr (9, [.ref ps, .ref md, .int (nI w_2), .int (nI w_3), .int (nI w_4), .int w_5, .int w_6, .int w_7, .int w_8, .int w_9, .int w_10, .int w_11])), (sh, .inr (8, [.ref sv, .ref sr, .ref sl, .ref sp])), (sv, .inl (E.2.2.1 0, 1200, .inl sv_f)), (sm, .inl (E.2.2.1 0, 1200, .inl (upd (upd sm_f (Int32.toNatClampNeg (l3 * nI w_2)) (x_450 <<< (w_6 &&& 31))) (Int32.toNatClampNeg ((l3 * nI w_2) + 1)) x_452)))]) B 3 rfl (fd_in 1 (by decide) hk2 hk0 hv0 (o_2 c7_438)) rfl dX8_unfold_145 ?_
                refine g_iinc (v := (l3 + 1)) (lv' := [(3, .int (l3 + 1)), (6, .int x_450), (7, .int ((sv_f (Int32.toNatClampNeg ((l3 * nI w_3) + 1))) - ((sv_f (Int32.toNatClampNeg (l3 * nI w_3))) >>> (1 &&& 31)))), (5, .int (l3 * nI w_2)), (4, .int (l3 * nI w_3)), (0, .ref sh), (1, .ref w), (2, .ref sm)]) B dX8_unfold_146 7 rfl rfl (by decide) rfl ?_
                refine g_goto (tgt := 2) B dX8_unfold_149 (by decide) ?_
                refine g_lvsub (lv' := [(0, .ref sh), (1, .ref w), (2, .ref sm), (3, .int (l3 + 1))]) [5, 6, 7, 0] rfl ?_
                exact ih (upd (upd sm_f (Int32.toNatClampNeg (l3 * nI w_2)) (x_450 <<< (w_6 &&& 31))) (Int32.toNatClampNeg ((l3 * nI w_2) + 1)) x_452) (l3 + 1) (inv_up hv0 (o_2 c7_438)) (Nat.lt_of_lt_of_le (st_up (o_2 c7_438)) (Nat.le_of_lt_succ hm)) e_
        · replace e_ := fun β k_ => (e_ β k_).trans (if_neg c50_441)
          refine g_iload B dX8_unfold_53 0 rfl ?_
          obtain ⟨kk_453, hkk_453, ekk_453⟩ := fd_nat hk2 hk0 hv0 (o_2 c7_438)
          refine g_ri (x' := nI kk_453) ekk_453 ?_
          replace e_ := fun β k_ => (e_ β k_).trans (fnL_eq (x := kk_453) (by rw [ekk_453]; exact nI_clamp (by omega)) _)
          exact g_iret B hr dX8_unfold_55 (by decide) (by decide) ⟨sm_f, kk_453, (by first | assumption | omega | decide), e_, rfl, rfl⟩
theorem dX8_unfold_152 : decode cX8_unfold 152 = .ok (.aload_n 1, 1) := by decide +kernel
theorem dX8_unfold_153 : decode cX8_unfold 153 = .ok (.getfield 29, 3) := by decide +kernel
theorem dX8_unfold_156 : decode cX8_unfold 156 = .ok (.aload_n 1, 1) := by decide +kernel
theorem dX8_unfold_157 : decode cX8_unfold 157 = .ok (.getfield 35, 3) := by decide +kernel
theorem dX8_unfold_160 : decode cX8_unfold 160 = .ok (.imul, 1) := by decide +kernel
theorem dX8_unfold_161 : decode cX8_unfold 161 = .ok (.ireturn, 1) := by decide +kernel
set_option maxRecDepth 100000 in
def fn_wk_X8_unfold (w_2 : Nat) (w_3 : Nat) (w_4 : Nat) (w_5 : Int32) (w_6 : Int32) (sv_f : Nat → Int32) (sm_f : Nat → Int32) (β : Type) (k_ : (Nat → Int32) → Nat → β) : β := (lf_wk_X8_unfold_2 w_2 w_3 w_4 w_5 w_6 sv_f β (fun y_454sm_f y_454l3 => (k_ y_454sm_f (w_4 * w_2))) k_ ((Int32.toInt (nI w_4) - Int32.toInt 0).toNat + 1) sm_f 0)
set_option maxRecDepth 100000 in
theorem fn_wk_X8_unfold_s {w_2 : Nat} {w_3 : Nat} {w_4 : Nat} {w_5 : Int32} {w_6 : Int32} {sv_f : Nat → Int32} {sm_f : Nat → Int32} {β : Type} {k_ : (Nat → Int32) → Nat → β} : fn_wk_X8_unfold w_2 w_3 w_4 w_5 w_6 sv_f sm_f β k_ = (lf_wk_X8_unfold_2 w_2 w_3 w_4 w_5 w_6 sv_f β (fun y_454sm_f y_454l3 => (k_ y_454sm_f (w_4 * w_2))) k_ ((Int32.toInt (nI w_4) - Int32.toInt 0).toNat + 1) sm_f 0) := rfl
set_option maxRecDepth 100000 in
set_option maxHeartbeats 4000000 in
theorem wk_X8_unfold (E : g_E) (w : Nat) (ps : Nat) (md : Nat) (sh : Nat) (sv : Nat) (sr : Nat) (sl : Nat) (sp : Nat) (sm : Nat) (w_2 : Nat) (w_3 : Nat) (w_4 : Nat) (w_5 : Int32) (w_6 : Int32) (w_7 : Int32) (w_8 : Int32) (w_9 : Int32) (w_10 : Int32) (w_11 : Int32) (sv_f : Nat → Int32) (sm_f : Nat → Int32) (hk0 : w_2 ≤ 2) (hk1 : w_3 ≤ 2) (hk2 : w_4 ≤ 600) : Ev E MX8_unfold 0 0 0 0 [.ref sh, .ref w, .ref sm] [(w, .inr (9, [.ref ps, .ref md, .int (nI w_2), .int (nI w_3), .int (nI w_4), .int w_5, .int w_6, .int w_7, .int w_8, .int w_9, .int w_10, .int w_11])), (sh, .inr (8, [.ref sv, .ref sr, .ref sl, .ref sp])), (sv, .inl (E.2.2.1 0, 1200, .inl sv_f)), (sm, .inl (E.2.2.1 0, 1200, .inl sm_f))] (fun v_ w_ => ∃ zsm_f : Nat → Int32, ∃ zr : Nat, (zr ≤ 1200) ∧ (∀ (β : Type) (k_ : (Nat → Int32) → Nat → β), fn_wk_X8_unfold w_2 w_3 w_4 w_5 w_6 sv_f sm_f β k_ = k_ zsm_f zr) ∧ v_ = some (.int (nI zr)) ∧ w_ = [(w, .inr (9, [.ref ps, .ref md, .int (nI w_2), .int (nI w_3), .int (nI w_4), .int w_5, .int w_6, .int w_7, .int w_8, .int w_9, .int w_10, .int w_11])), (sh, .inr (8, [.ref sv, .ref sr, .ref sl, .ref sp])), (sv, .inl (E.2.2.1 0, 1200, .inl sv_f)), (sm, .inl (E.2.2.1 0, 1200, .inl zsm_f))]) := by
  refine Ev.intro (by decide) (Nat.le_of_ble_eq_true rfl) ?_
  intro X B hr hI
  have B : Bd E X cX8_unfold RX8 8 0 0 0 0 := B
  have hr : Rt E X (some .int) 0 0 (fun v_ w_ => ∃ zsm_f : Nat → Int32, ∃ zr : Nat, (zr ≤ 1200) ∧ (∀ (β : Type) (k_ : (Nat → Int32) → Nat → β), fn_wk_X8_unfold w_2 w_3 w_4 w_5 w_6 sv_f sm_f β k_ = k_ zsm_f zr) ∧ v_ = some (.int (nI zr)) ∧ w_ = [(w, .inr (9, [.ref ps, .ref md, .int (nI w_2), .int (nI w_3), .int (nI w_4), .int w_5, .int w_6, .int w_7, .int w_8, .int w_9, .int w_10, .int w_11])), (sh, .inr (8, [.ref sv, .ref sr, .ref sl, .ref sp])), (sv, .inl (E.2.2.1 0, 1200, .inl sv_f)), (sm, .inl (E.2.2.1 0, 1200, .inl zsm_f))]) := hr
  have e_ := fun (β : Type) (k_ : (Nat → Int32) → Nat → β) => fn_wk_X8_unfold_s (β := β) (k_ := k_) (w_2 := w_2) (w_3 := w_3) (w_4 := w_4) (w_5 := w_5) (w_6 := w_6) (sv_f := sv_f) (sm_f := sm_f)
  show G E X 8 [(w, .inr (9, [.ref ps, .ref md, .int (nI w_2), .int (nI w_3), .int (nI w_4), .int w_5, .int w_6, .int w_7, .int w_8, .int w_9, .int w_10, .int w_11])), (sh, .inr (8, [.ref sv, .ref sr, .ref sl, .ref sp])), (sv, .inl (E.2.2.1 0, 1200, .inl sv_f)), (sm, .inl (E.2.2.1 0, 1200, .inl sm_f))] 0 0 [(0, .ref sh), (1, .ref w), (2, .ref sm)] 0 []
  refine g_iconst (v := 0) B dX8_unfold_0 (by decide) ?_
  refine g_istore_n (lv' := [(3, .int 0), (0, .ref sh), (1, .ref w), (2, .ref sm)]) B dX8_unfold_1 rfl (by decide) rfl ?_
  refine g_lvsub (lv' := [(0, .ref sh), (1, .ref w), (2, .ref sm), (3, .int 0)]) [1, 2, 3, 0] rfl ?_
  refine lp_wk_X8_unfold_2 E w ps md sh sv sr sl sp sm w_2 w_3 w_4 w_5 w_6 w_7 w_8 w_9 w_10 w_11 sv_f hk0 hk1 hk2 _ B hr (fun y_454sm_f y_454l3 e_ => ?_) _ sm_f 0 (by decide) (Nat.lt_succ_self _) e_
  refine g_aload_n B dX8_unfold_152 rfl 1 rfl ?_
  refine g_get B 0 4 fl_X8_29 rfl rfl dX8_unfold_153 ?_
  refine g_aload_n B dX8_unfold_156 rfl 1 rfl ?_
  refine g_get B 0 2 fl_X8_35 rfl rfl dX8_unfold_157 ?_
  refine g_imul B dX8_unfold_160 ?_
  have hfa := fd_all hk2 hk0
  refine g_ri (x' := nI (w_4 * w_2)) (pk_mul w_4 w_2) ?_
  exact g_iret B hr dX8_unfold_161 (by decide) (by decide) ⟨y_454sm_f, (w_4 * w_2), (by first | assumption | omega | decide), e_, rfl, rfl⟩
