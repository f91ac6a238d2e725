abbrev MX2_init : g_M := (yX2_init, cX2_init, 2, none)
theorem dX2_init_0 : decode cX2_init 0 = .ok (.aload_n 0, 1) := by decide +kernel
theorem dX2_init_1 : decode cX2_init 1 = .ok (.invokespecial 3, 3) := by decide +kernel
theorem w_im_obj : Cond.instanceMethod objectInit ∈ g_tbl := g_tbl_in 91 (by decide +kernel) (by decide +kernel)
theorem w_cd_obj : Cond.code objectInit ⟨#[0xb1]⟩ 1 none ∈ g_tbl := g_tbl_in 92 (by decide +kernel) (by decide +kernel)
theorem w_mlo_X2_3 : Cond.methodLink RX2 3 objectInit ∈ g_tbl := g_tbl_in 123 (by decide +kernel) (by decide +kernel)
theorem dX2_init_4 : decode cX2_init 4 = .ok (.aload_n 0, 1) := by decide +kernel
theorem dX2_init_5 : decode cX2_init 5 = .ok (.iconst 0, 1) := by decide +kernel
theorem dX2_init_6 : decode cX2_init 6 = .ok (.iload_n 1, 1) := by decide +kernel
theorem dX2_init_7 : decode cX2_init 7 = .ok (.invokestatic 9, 3) := by decide +kernel
theorem w_mlm_X2_9 : Cond.methodLink RX2 9 Lib.Math.max.name ∈ g_tbl := g_tbl_in 124 (by decide +kernel) (by decide +kernel)
theorem w_smm_max_II_I : Cond.static Lib.Math.max.name ∈ g_tbl := g_tbl_in 125 (by decide +kernel) (by decide +kernel)
theorem w_ini_Math : Cond.initialized "java/lang/Math" ∈ g_tbl := g_tbl_in 71 (by decide +kernel) (by decide +kernel)
theorem w_cdm_max_II_I : Cond.code Lib.Math.max.name Lib.Math.max.code 2 (some .int) ∈ g_tbl := g_tbl_in 126 (by decide +kernel) (by decide +kernel)
theorem dX2_init_10 : decode cX2_init 10 = .ok (.newarray .byte, 2) := by decide +kernel
theorem w_ac_byte : Cond.arrayClass .byte ∈ g_tbl := g_tbl_in 139 (by decide +kernel) (by decide +kernel)
theorem dX2_init_12 : decode cX2_init 12 = .ok (.putfield 15, 3) := by decide +kernel
theorem w_fl_X2_15 : Cond.fieldLink RX2 15 (TX2 0).1 (TX2 0).2.1 (TX2 0).2.2.1 ∈ g_tbl := g_tbl_in 127 (by decide +kernel) (by decide +kernel)
set_option maxRecDepth 100000 in
theorem inX_X2 : ∀ w ∈ u_ws RX2 TX2 2, w ∈ g_tbl := by decide +kernel
theorem fl_X2_15 : FL RX2 15 2 0 := ⟨RX2, TX2, 2, rfl, by decide, inX_X2, w_fl_X2_15⟩
theorem pf_X2_0 : PF 2 0 (.array .byte) true := fun C T N h => by cases h; exact ⟨⟨tyX2, tyX2_ok⟩, nmX2, by decide +kernel, rfl, rfl⟩
theorem dX2_init_15 : decode cX2_init 15 = .ok (.aload_n 0, 1) := by decide +kernel
theorem dX2_init_16 : decode cX2_init 16 = .ok (.iconst 0, 1) := by decide +kernel
theorem dX2_init_17 : decode cX2_init 17 = .ok (.putfield 21, 3) := by decide +kernel
theorem w_fl_X2_21 : Cond.fieldLink RX2 21 (TX2 1).1 (TX2 1).2.1 (TX2 1).2.2.1 ∈ g_tbl := g_tbl_in 130 (by decide +kernel) (by decide +kernel)
theorem fl_X2_21 : FL RX2 21 2 1 := ⟨RX2, TX2, 2, rfl, by decide, inX_X2, w_fl_X2_21⟩
theorem pf_X2_1 : PF 2 1 .int false := fun C T N h => by cases h; exact ⟨⟨tyX2, tyX2_ok⟩, nmX2, by decide +kernel, rfl, rfl⟩
theorem dX2_init_20 : decode cX2_init 20 = .ok (.return_, 1) := by decide +kernel
set_option maxRecDepth 100000 in
set_option maxHeartbeats 4000000 in
theorem ev_X2_init_6000 (E : g_E) (t : Nat)  : Ev E MX2_init 1 23 1 6000 [.ref t, .int 6000] [(t, .inr (2, [.null, .int 0]))] (fun v_ w_ => ∃ q : Nat, v_ = none ∧ w_ = [(t, .inr (2, [.ref q, .int 0])), (q, .inl (E.2.2.1 1, 6000, .inl (fun _ => 0)))]) := by
  refine Ev.intro (by decide) (Nat.le_of_ble_eq_true rfl) ?_
  intro X B hr hI
  have B : Bd E X cX2_init RX2 2 1 23 1 6000 := B
  have hr : Rt E X none 1 6000 (fun v_ w_ => ∃ q : Nat, v_ = none ∧ w_ = [(t, .inr (2, [.ref q, .int 0])), (q, .inl (E.2.2.1 1, 6000, .inl (fun _ => 0)))]) := hr
  have hI : In X := hI rfl
  show G E X 2 [(t, .inr (2, [.null, .int 0]))] 0 0 [(0, .ref t), (1, .int 6000)] 0 []
  refine g_aload_n B dX2_init_0 rfl 0 rfl ?_
  refine g_obj B w_mlo_X2_3 w_im_obj w_cd_obj (by decide) (Nat.le_of_ble_eq_true rfl) dX2_init_1 ?_
  refine g_aload_n B dX2_init_4 rfl 0 rfl ?_
  refine g_iconst (v := 0) B dX2_init_5 (by decide) ?_
  refine g_iload_n B dX2_init_6 rfl 1 rfl ?_
  refine g_mmax B w_mlm_X2_9 w_smm_max_II_I w_ini_Math w_cdm_max_II_I (by decide) (Nat.le_of_ble_eq_true rfl) (by decide) (by decide) dX2_init_7 ?_
  refine g_ri (x' := 6000) (by decide) ?_
  refine g_newa (ty := .byte) (t0 := 1) (N := 6000) (nc' := 1) (ns' := 6000) (a0 := (6000, .inl (fun _ => 0))) (ws' := fun q_1 => [(t, .inr (2, [.null, .int 0])), (q_1, .inl (E.2.2.1 1, 6000, .inl (fun _ => 0)))]) B w_ac_byte rfl rfl rfl (fun _ => rfl) (by decide) (by decide) (by decide) rfl rfl (by decide) (by decide) (fun _ => rfl) dX2_init_10 (fun q_1 => ?_)
  refine g_putF (ws' := [(t, .inr (2, [.ref q_1, .int 0])), (q_1, .inl (E.2.2.1 1, 6000, .inl (fun _ => 0)))]) B hI 0 0 fl_X2_15 pf_X2_0 (fun q h => by cases h; rfl) rfl (Nat.le_of_ble_eq_true rfl) rfl rfl rfl dX2_init_12 ?_
  refine g_aload_n B dX2_init_15 rfl 0 rfl ?_
  refine g_iconst (v := 0) B dX2_init_16 (by decide) ?_
  refine g_put (ws' := [(t, .inr (2, [.ref q_1, .int 0])), (q_1, .inl (E.2.2.1 1, 6000, .inl (fun _ => 0)))]) B 0 1 fl_X2_21 pf_X2_1 rfl (Nat.le_of_ble_eq_true rfl) rfl rfl rfl dX2_init_17 ?_
  exact g_vret B hr dX2_init_20 (by decide) (by decide) ⟨q_1, rfl, rfl⟩
set_option maxRecDepth 100000 in
set_option maxHeartbeats 4000000 in
theorem ev_X2_init_9600 (E : g_E) (t : Nat)  : Ev E MX2_init 1 23 1 9600 [.ref t, .int 9600] [(t, .inr (2, [.null, .int 0]))] (fun v_ w_ => ∃ q : Nat, v_ = none ∧ w_ = [(t, .inr (2, [.ref q, .int 0])), (q, .inl (E.2.2.1 1, 9600, .inl (fun _ => 0)))]) := by
  refine Ev.intro (by decide) (Nat.le_of_ble_eq_true rfl) ?_
  intro X B hr hI
  have B : Bd E X cX2_init RX2 2 1 23 1 9600 := B
  have hr : Rt E X none 1 9600 (fun v_ w_ => ∃ q : Nat, v_ = none ∧ w_ = [(t, .inr (2, [.ref q, .int 0])), (q, .inl (E.2.2.1 1, 9600, .inl (fun _ => 0)))]) := hr
  have hI : In X := hI rfl
  show G E X 2 [(t, .inr (2, [.null, .int 0]))] 0 0 [(0, .ref t), (1, .int 9600)] 0 []
  refine g_aload_n B dX2_init_0 rfl 0 rfl ?_
  refine g_obj B w_mlo_X2_3 w_im_obj w_cd_obj (by decide) (Nat.le_of_ble_eq_true rfl) dX2_init_1 ?_
  refine g_aload_n B dX2_init_4 rfl 0 rfl ?_
  refine g_iconst (v := 0) B dX2_init_5 (by decide) ?_
  refine g_iload_n B dX2_init_6 rfl 1 rfl ?_
  refine g_mmax B w_mlm_X2_9 w_smm_max_II_I w_ini_Math w_cdm_max_II_I (by decide) (Nat.le_of_ble_eq_true rfl) (by decide) (by decide) dX2_init_7 ?_
  refine g_ri (x' := 9600) (by decide) ?_
  refine g_newa (ty := .byte) (t0 := 1) (N := 9600) (nc' := 1) (ns' := 9600) (a0 := (9600, .inl (fun _ => 0))) (ws' := fun q_2 => [(t, .inr (2, [.null, .int 0])), (q_2, .inl (E.2.2.1 1, 9600, .inl (fun _ => 0)))]) B w_ac_byte rfl rfl rfl (fun _ => rfl) (by decide) (by decide) (by decide) rfl rfl (by decide) (by decide) (fun _ => rfl) dX2_init_10 (fun q_2 => ?_)
  refine g_putF (ws' := [(t, .inr (2, [.ref q_2, .int 0])), (q_2, .inl (E.2.2.1 1, 9600, .inl (fun _ => 0)))]) B hI 0 0 fl_X2_15 pf_X2_0 (fun q h => by cases h; rfl) rfl (Nat.le_of_ble_eq_true rfl) rfl rfl rfl dX2_init_12 ?_
  refine g_aload_n B dX2_init_15 rfl 0 rfl ?_
  refine g_iconst (v := 0) B dX2_init_16 (by decide) ?_
  refine g_put (ws' := [(t, .inr (2, [.ref q_2, .int 0])), (q_2, .inl (E.2.2.1 1, 9600, .inl (fun _ => 0)))]) B 0 1 fl_X2_21 pf_X2_1 rfl (Nat.le_of_ble_eq_true rfl) rfl rfl rfl dX2_init_17 ?_
  exact g_vret B hr dX2_init_20 (by decide) (by decide) ⟨q_2, rfl, rfl⟩
set_option maxRecDepth 100000 in
set_option maxHeartbeats 4000000 in
theorem ev_X2_init_2450 (E : g_E) (t : Nat)  : Ev E MX2_init 1 23 1 2450 [.ref t, .int 2450] [(t, .inr (2, [.null, .int 0]))] (fun v_ w_ => ∃ q : Nat, v_ = none ∧ w_ = [(t, .inr (2, [.ref q, .int 0])), (q, .inl (E.2.2.1 1, 2450, .inl (fun _ => 0)))]) := by
  refine Ev.intro (by decide) (Nat.le_of_ble_eq_true rfl) ?_
  intro X B hr hI
  have B : Bd E X cX2_init RX2 2 1 23 1 2450 := B
  have hr : Rt E X none 1 2450 (fun v_ w_ => ∃ q : Nat, v_ = none ∧ w_ = [(t, .inr (2, [.ref q, .int 0])), (q, .inl (E.2.2.1 1, 2450, .inl (fun _ => 0)))]) := hr
  have hI : In X := hI rfl
  show G E X 2 [(t, .inr (2, [.null, .int 0]))] 0 0 [(0, .ref t), (1, .int 2450)] 0 []
  refine g_aload_n B dX2_init_0 rfl 0 rfl ?_
  refine g_obj B w_mlo_X2_3 w_im_obj w_cd_obj (by decide) (Nat.le_of_ble_eq_true rfl) dX2_init_1 ?_
  refine g_aload_n B dX2_init_4 rfl 0 rfl ?_
  refine g_iconst (v := 0) B dX2_init_5 (by decide) ?_
  refine g_iload_n B dX2_init_6 rfl 1 rfl ?_
  refine g_mmax B w_mlm_X2_9 w_smm_max_II_I w_ini_Math w_cdm_max_II_I (by decide) (Nat.le_of_ble_eq_true rfl) (by decide) (by decide) dX2_init_7 ?_
  refine g_ri (x' := 2450) (by decide) ?_
  refine g_newa (ty := .byte) (t0 := 1) (N := 2450) (nc' := 1) (ns' := 2450) (a0 := (2450, .inl (fun _ => 0))) (ws' := fun q_3 => [(t, .inr (2, [.null, .int 0])), (q_3, .inl (E.2.2.1 1, 2450, .inl (fun _ => 0)))]) B w_ac_byte rfl rfl rfl (fun _ => rfl) (by decide) (by decide) (by decide) rfl rfl (by decide) (by decide) (fun _ => rfl) dX2_init_10 (fun q_3 => ?_)
  refine g_putF (ws' := [(t, .inr (2, [.ref q_3, .int 0])), (q_3, .inl (E.2.2.1 1, 2450, .inl (fun _ => 0)))]) B hI 0 0 fl_X2_15 pf_X2_0 (fun q h => by cases h; rfl) rfl (Nat.le_of_ble_eq_true rfl) rfl rfl rfl dX2_init_12 ?_
  refine g_aload_n B dX2_init_15 rfl 0 rfl ?_
  refine g_iconst (v := 0) B dX2_init_16 (by decide) ?_
  refine g_put (ws' := [(t, .inr (2, [.ref q_3, .int 0])), (q_3, .inl (E.2.2.1 1, 2450, .inl (fun _ => 0)))]) B 0 1 fl_X2_21 pf_X2_1 rfl (Nat.le_of_ble_eq_true rfl) rfl rfl rfl dX2_init_17 ?_
  exact g_vret B hr dX2_init_20 (by decide) (by decide) ⟨q_3, rfl, rfl⟩
abbrev MX7_init : g_M := (yX7_init, cX7_init, 1, none)
theorem dX7_init_0 : decode cX7_init 0 = .ok (.aload_n 0, 1) := by decide +kernel
theorem dX7_init_1 : decode cX7_init 1 = .ok (.invokespecial 3, 3) := by decide +kernel
theorem w_mlo_X7_3 : Cond.methodLink RX7 3 objectInit ∈ g_tbl := g_tbl_in 98 (by decide +kernel) (by decide +kernel)
theorem dX7_init_4 : decode cX7_init 4 = .ok (.aload_n 0, 1) := by decide +kernel
theorem dX7_init_5 : decode cX7_init 5 = .ok (.bipush 8, 2) := by decide +kernel
theorem dX7_init_7 : decode cX7_init 7 = .ok (.newarray .int, 2) := by decide +kernel
theorem w_ac_int : Cond.arrayClass .int ∈ g_tbl := g_tbl_in 117 (by decide +kernel) (by decide +kernel)
theorem dX7_init_9 : decode cX7_init 9 = .ok (.putfield 9, 3) := by decide +kernel
theorem w_fl_X7_9 : Cond.fieldLink RX7 9 (TX7 0).1 (TX7 0).2.1 (TX7 0).2.2.1 ∈ g_tbl := g_tbl_in 99 (by decide +kernel) (by decide +kernel)
set_option maxRecDepth 100000 in
theorem inX_X7 : ∀ w ∈ u_ws RX7 TX7 3, w ∈ g_tbl := by decide +kernel
theorem fl_X7_9 : FL RX7 9 7 0 := ⟨RX7, TX7, 3, rfl, by decide, inX_X7, w_fl_X7_9⟩
theorem pf_X7_0 : PF 7 0 (.array .int) true := fun C T N h => by cases h; exact ⟨⟨tyX7, tyX7_ok⟩, nmX7, by decide +kernel, rfl, rfl⟩
theorem dX7_init_12 : decode cX7_init 12 = .ok (.aload_n 0, 1) := by decide +kernel
theorem dX7_init_13 : decode cX7_init 13 = .ok (.bipush 8, 2) := by decide +kernel
theorem dX7_init_15 : decode cX7_init 15 = .ok (.newarray .int, 2) := by decide +kernel
theorem dX7_init_17 : decode cX7_init 17 = .ok (.putfield 15, 3) := by decide +kernel
theorem w_fl_X7_15 : Cond.fieldLink RX7 15 (TX7 1).1 (TX7 1).2.1 (TX7 1).2.2.1 ∈ g_tbl := g_tbl_in 102 (by decide +kernel) (by decide +kernel)
theorem fl_X7_15 : FL RX7 15 7 1 := ⟨RX7, TX7, 3, rfl, by decide, inX_X7, w_fl_X7_15⟩
theorem pf_X7_1 : PF 7 1 (.array .int) true := fun C T N h => by cases h; exact ⟨⟨tyX7, tyX7_ok⟩, nmX7, by decide +kernel, rfl, rfl⟩
theorem dX7_init_20 : decode cX7_init 20 = .ok (.aload_n 0, 1) := by decide +kernel
theorem dX7_init_21 : decode cX7_init 21 = .ok (.iconst 0, 1) := by decide +kernel
theorem dX7_init_22 : decode cX7_init 22 = .ok (.putfield 18, 3) := by decide +kernel
theorem w_fl_X7_18 : Cond.fieldLink RX7 18 (TX7 2).1 (TX7 2).2.1 (TX7 2).2.2.1 ∈ g_tbl := g_tbl_in 105 (by decide +kernel) (by decide +kernel)
theorem fl_X7_18 : FL RX7 18 7 2 := ⟨RX7, TX7, 3, rfl, by decide, inX_X7, w_fl_X7_18⟩
theorem pf_X7_2 : PF 7 2 .int false := fun C T N h => by cases h; exact ⟨⟨tyX7, tyX7_ok⟩, nmX7, by decide +kernel, rfl, rfl⟩
theorem dX7_init_25 : decode cX7_init 25 = .ok (.return_, 1) := by decide +kernel
set_option maxRecDepth 100000 in
set_option maxHeartbeats 4000000 in
theorem ev_X7_init (E : g_E) (p : Nat)  : Ev E MX7_init 1 20 2 16 [.ref p] [(p, .inr (7, [.null, .null, .int 0]))] (fun v_ w_ => ∃ te : Nat, ∃ de : Nat, v_ = none ∧ w_ = [(p, .inr (7, [.ref te, .ref de, .int 0])), (te, .inl (E.2.2.1 0, 8, .inl (fun _ => 0))), (de, .inl (E.2.2.1 0, 8, .inl (fun _ => 0)))]) := by
  refine Ev.intro (by decide) (Nat.le_of_ble_eq_true rfl) ?_
  intro X B hr hI
  have B : Bd E X cX7_init RX7 1 1 20 2 16 := B
  have hr : Rt E X none 2 16 (fun v_ w_ => ∃ te : Nat, ∃ de : Nat, v_ = none ∧ w_ = [(p, .inr (7, [.ref te, .ref de, .int 0])), (te, .inl (E.2.2.1 0, 8, .inl (fun _ => 0))), (de, .inl (E.2.2.1 0, 8, .inl (fun _ => 0)))]) := hr
  have hI : In X := hI rfl
  show G E X 1 [(p, .inr (7, [.null, .null, .int 0]))] 0 0 [(0, .ref p)] 0 []
  refine g_aload_n B dX7_init_0 rfl 0 rfl ?_
  refine g_obj B w_mlo_X7_3 w_im_obj w_cd_obj (by decide) (Nat.le_of_ble_eq_true rfl) dX7_init_1 ?_
  refine g_aload_n B dX7_init_4 rfl 0 rfl ?_
  refine g_bipush (v := 8) B dX7_init_5 (by decide) ?_
  refine g_newa (ty := .int) (t0 := 0) (N := 8) (nc' := 1) (ns' := 8) (a0 := (8, .inl (fun _ => 0))) (ws' := fun q_4 => [(p, .inr (7, [.null, .null, .int 0])), (q_4, .inl (E.2.2.1 0, 8, .inl (fun _ => 0)))]) B w_ac_int rfl rfl rfl (fun _ => rfl) (by decide) (by decide) (by decide) rfl rfl (by decide) (by decide) (fun _ => rfl) dX7_init_7 (fun q_4 => ?_)
  refine g_putF (ws' := [(p, .inr (7, [.ref q_4, .null, .int 0])), (q_4, .inl (E.2.2.1 0, 8, .inl (fun _ => 0)))]) B hI 0 0 fl_X7_9 pf_X7_0 (fun q h => by cases h; rfl) rfl (Nat.le_of_ble_eq_true rfl) rfl rfl rfl dX7_init_9 ?_
  refine g_aload_n B dX7_init_12 rfl 0 rfl ?_
  refine g_bipush (v := 8) B dX7_init_13 (by decide) ?_
  refine g_newa (ty := .int) (t0 := 0) (N := 8) (nc' := 2) (ns' := 16) (a0 := (8, .inl (fun _ => 0))) (ws' := fun q_5 => [(p, .inr (7, [.ref q_4, .null, .int 0])), (q_4, .inl (E.2.2.1 0, 8, .inl (fun _ => 0))), (q_5, .inl (E.2.2.1 0, 8, .inl (fun _ => 0)))]) B w_ac_int rfl rfl rfl (fun _ => rfl) (by decide) (by decide) (by decide) rfl rfl (by decide) (by decide) (fun _ => rfl) dX7_init_15 (fun q_5 => ?_)
  refine g_putF (ws' := [(p, .inr (7, [.ref q_4, .ref q_5, .int 0])), (q_4, .inl (E.2.2.1 0, 8, .inl (fun _ => 0))), (q_5, .inl (E.2.2.1 0, 8, .inl (fun _ => 0)))]) B hI 0 1 fl_X7_15 pf_X7_1 (fun q h => by cases h; rfl) rfl (Nat.le_of_ble_eq_true rfl) rfl rfl rfl dX7_init_17 ?_
  refine g_aload_n B dX7_init_20 rfl 0 rfl ?_
  refine g_iconst (v := 0) B dX7_init_21 (by decide) ?_
  refine g_put (ws' := [(p, .inr (7, [.ref q_4, .ref q_5, .int 0])), (q_4, .inl (E.2.2.1 0, 8, .inl (fun _ => 0))), (q_5, .inl (E.2.2.1 0, 8, .inl (fun _ => 0)))]) B 0 2 fl_X7_18 pf_X7_2 rfl (Nat.le_of_ble_eq_true rfl) rfl rfl rfl dX7_init_22 ?_
  exact g_vret B hr dX7_init_25 (by decide) (by decide) ⟨q_4, q_5, rfl, rfl⟩
abbrev MX1_init : g_M := (yX1_init, cX1_init, 2, none)
theorem dX1_init_0 : decode cX1_init 0 = .ok (.aload_n 0, 1) := by decide +kernel
theorem dX1_init_1 : decode cX1_init 1 = .ok (.invokespecial 1, 3) := by decide +kernel
theorem w_mlo_X1_1 : Cond.methodLink RX1 1 objectInit ∈ g_tbl := g_tbl_in 175 (by decide +kernel) (by decide +kernel)
theorem dX1_init_4 : decode cX1_init 4 = .ok (.aload_n 0, 1) := by decide +kernel
theorem dX1_init_5 : decode cX1_init 5 = .ok (.aload_n 1, 1) := by decide +kernel
theorem dX1_init_6 : decode cX1_init 6 = .ok (.putfield 7, 3) := by decide +kernel
theorem w_fl_X1_7 : Cond.fieldLink RX1 7 (TX1 0).1 (TX1 0).2.1 (TX1 0).2.2.1 ∈ g_tbl := g_tbl_in 176 (by decide +kernel) (by decide +kernel)
set_option maxRecDepth 100000 in
theorem inX_X1 : ∀ w ∈ u_ws RX1 TX1 3, w ∈ g_tbl := by decide +kernel
theorem fl_X1_7 : FL RX1 7 1 0 := ⟨RX1, TX1, 3, rfl, by decide, inX_X1, w_fl_X1_7⟩
theorem pf_X1_0 : PF 1 0 (.object "SoundPress$Bytes") true := fun C T N h => by cases h; exact ⟨⟨tyX1, tyX1_ok⟩, nmX1, by decide +kernel, rfl, rfl⟩
theorem dX1_init_9 : decode cX1_init 9 = .ok (.aload_n 0, 1) := by decide +kernel
theorem dX1_init_10 : decode cX1_init 10 = .ok (.iconst 0, 1) := by decide +kernel
theorem dX1_init_11 : decode cX1_init 11 = .ok (.putfield 13, 3) := by decide +kernel
theorem w_fl_X1_13 : Cond.fieldLink RX1 13 (TX1 1).1 (TX1 1).2.1 (TX1 1).2.2.1 ∈ g_tbl := g_tbl_in 177 (by decide +kernel) (by decide +kernel)
theorem fl_X1_13 : FL RX1 13 1 1 := ⟨RX1, TX1, 3, rfl, by decide, inX_X1, w_fl_X1_13⟩
theorem pf_X1_1 : PF 1 1 .int false := fun C T N h => by cases h; exact ⟨⟨tyX1, tyX1_ok⟩, nmX1, by decide +kernel, rfl, rfl⟩
theorem dX1_init_14 : decode cX1_init 14 = .ok (.aload_n 0, 1) := by decide +kernel
theorem dX1_init_15 : decode cX1_init 15 = .ok (.iconst 0, 1) := by decide +kernel
theorem dX1_init_16 : decode cX1_init 16 = .ok (.putfield 17, 3) := by decide +kernel
theorem w_fl_X1_17 : Cond.fieldLink RX1 17 (TX1 2).1 (TX1 2).2.1 (TX1 2).2.2.1 ∈ g_tbl := g_tbl_in 178 (by decide +kernel) (by decide +kernel)
theorem fl_X1_17 : FL RX1 17 1 2 := ⟨RX1, TX1, 3, rfl, by decide, inX_X1, w_fl_X1_17⟩
theorem pf_X1_2 : PF 1 2 .int false := fun C T N h => by cases h; exact ⟨⟨tyX1, tyX1_ok⟩, nmX1, by decide +kernel, rfl, rfl⟩
theorem dX1_init_19 : decode cX1_init 19 = .ok (.return_, 1) := by decide +kernel
set_option maxRecDepth 100000 in
set_option maxHeartbeats 4000000 in
theorem ev_X1_init (E : g_E) (b : Nat) (t : Nat)  : Ev E MX1_init 1 20 0 0 [.ref b, .ref t] [(b, .inr (1, [.null, .int 0, .int 0]))] (fun v_ w_ => v_ = none ∧ w_ = [(b, .inr (1, [.ref t, .int 0, .int 0]))]) := by
  refine Ev.intro (by decide) (Nat.le_of_ble_eq_true rfl) ?_
  intro X B hr hI
  have B : Bd E X cX1_init RX1 2 1 20 0 0 := B
  have hr : Rt E X none 0 0 (fun v_ w_ => v_ = none ∧ w_ = [(b, .inr (1, [.ref t, .int 0, .int 0]))]) := hr
  have hI : In X := hI rfl
  show G E X 2 [(b, .inr (1, [.null, .int 0, .int 0]))] 0 0 [(0, .ref b), (1, .ref t)] 0 []
  refine g_aload_n B dX1_init_0 rfl 0 rfl ?_
  refine g_obj B w_mlo_X1_1 w_im_obj w_cd_obj (by decide) (Nat.le_of_ble_eq_true rfl) dX1_init_1 ?_
  refine g_aload_n B dX1_init_4 rfl 0 rfl ?_
  refine g_aload_n B dX1_init_5 rfl 1 rfl ?_
  refine g_putF (ws' := [(b, .inr (1, [.ref t, .int 0, .int 0]))]) B hI 0 0 fl_X1_7 pf_X1_0 (fun q h => by cases h; rfl) rfl (Nat.le_of_ble_eq_true rfl) rfl rfl rfl dX1_init_6 ?_
  refine g_aload_n B dX1_init_9 rfl 0 rfl ?_
  refine g_iconst (v := 0) B dX1_init_10 (by decide) ?_
  refine g_put (ws' := [(b, .inr (1, [.ref t, .int 0, .int 0]))]) B 0 1 fl_X1_13 pf_X1_1 rfl (Nat.le_of_ble_eq_true rfl) rfl rfl rfl dX1_init_11 ?_
  refine g_aload_n B dX1_init_14 rfl 0 rfl ?_
  refine g_iconst (v := 0) B dX1_init_15 (by decide) ?_
  refine g_put (ws' := [(b, .inr (1, [.ref t, .int 0, .int 0]))]) B 0 2 fl_X1_17 pf_X1_2 rfl (Nat.le_of_ble_eq_true rfl) rfl rfl rfl dX1_init_16 ?_
  exact g_vret B hr dX1_init_19 (by decide) (by decide) ⟨rfl, rfl⟩
abbrev MX0_init : g_M := (yX0_init, cX0_init, 2, none)
theorem dX0_init_0 : decode cX0_init 0 = .ok (.aload_n 0, 1) := by decide +kernel
theorem dX0_init_1 : decode cX0_init 1 = .ok (.invokespecial 1, 3) := by decide +kernel
theorem w_mlo_X0_1 : Cond.methodLink RX0 1 objectInit ∈ g_tbl := g_tbl_in 214 (by decide +kernel) (by decide +kernel)
theorem dX0_init_4 : decode cX0_init 4 = .ok (.aload_n 0, 1) := by decide +kernel
theorem dX0_init_5 : decode cX0_init 5 = .ok (.aload_n 1, 1) := by decide +kernel
theorem dX0_init_6 : decode cX0_init 6 = .ok (.putfield 7, 3) := by decide +kernel
theorem w_fl_X0_7 : Cond.fieldLink RX0 7 (TX0 0).1 (TX0 0).2.1 (TX0 0).2.2.1 ∈ g_tbl := g_tbl_in 215 (by decide +kernel) (by decide +kernel)
set_option maxRecDepth 100000 in
theorem inX_X0 : ∀ w ∈ u_ws RX0 TX0 4, w ∈ g_tbl := by decide +kernel
theorem fl_X0_7 : FL RX0 7 0 0 := ⟨RX0, TX0, 4, rfl, by decide, inX_X0, w_fl_X0_7⟩
theorem pf_X0_0 : PF 0 0 (.object "SoundPress$Bytes") true := fun C T N h => by cases h; exact ⟨⟨tyX0, tyX0_ok⟩, nmX0, by decide +kernel, rfl, rfl⟩
theorem dX0_init_9 : decode cX0_init 9 = .ok (.aload_n 0, 1) := by decide +kernel
theorem dX0_init_10 : decode cX0_init 10 = .ok (.iconst 0, 1) := by decide +kernel
theorem dX0_init_11 : decode cX0_init 11 = .ok (.putfield 13, 3) := by decide +kernel
theorem w_fl_X0_13 : Cond.fieldLink RX0 13 (TX0 1).1 (TX0 1).2.1 (TX0 1).2.2.1 ∈ g_tbl := g_tbl_in 216 (by decide +kernel) (by decide +kernel)
theorem fl_X0_13 : FL RX0 13 0 1 := ⟨RX0, TX0, 4, rfl, by decide, inX_X0, w_fl_X0_13⟩
theorem pf_X0_1 : PF 0 1 .int false := fun C T N h => by cases h; exact ⟨⟨tyX0, tyX0_ok⟩, nmX0, by decide +kernel, rfl, rfl⟩
theorem dX0_init_14 : decode cX0_init 14 = .ok (.aload_n 0, 1) := by decide +kernel
theorem dX0_init_15 : decode cX0_init 15 = .ok (.iconst 0, 1) := by decide +kernel
theorem dX0_init_16 : decode cX0_init 16 = .ok (.putfield 17, 3) := by decide +kernel
theorem w_fl_X0_17 : Cond.fieldLink RX0 17 (TX0 2).1 (TX0 2).2.1 (TX0 2).2.2.1 ∈ g_tbl := g_tbl_in 217 (by decide +kernel) (by decide +kernel)
theorem fl_X0_17 : FL RX0 17 0 2 := ⟨RX0, TX0, 4, rfl, by decide, inX_X0, w_fl_X0_17⟩
theorem pf_X0_2 : PF 0 2 .int false := fun C T N h => by cases h; exact ⟨⟨tyX0, tyX0_ok⟩, nmX0, by decide +kernel, rfl, rfl⟩
theorem dX0_init_19 : decode cX0_init 19 = .ok (.aload_n 0, 1) := by decide +kernel
theorem dX0_init_20 : decode cX0_init 20 = .ok (.iconst 0, 1) := by decide +kernel
theorem dX0_init_21 : decode cX0_init 21 = .ok (.putfield 20, 3) := by decide +kernel
theorem w_fl_X0_20 : Cond.fieldLink RX0 20 (TX0 3).1 (TX0 3).2.1 (TX0 3).2.2.1 ∈ g_tbl := g_tbl_in 218 (by decide +kernel) (by decide +kernel)
theorem fl_X0_20 : FL RX0 20 0 3 := ⟨RX0, TX0, 4, rfl, by decide, inX_X0, w_fl_X0_20⟩
theorem pf_X0_3 : PF 0 3 .boolean false := fun C T N h => by cases h; exact ⟨⟨tyX0, tyX0_ok⟩, nmX0, by decide +kernel, rfl, rfl⟩
theorem dX0_init_24 : decode cX0_init 24 = .ok (.return_, 1) := by decide +kernel
set_option maxRecDepth 100000 in
set_option maxHeartbeats 4000000 in
theorem ev_X0_init (E : g_E) (b : Nat) (t : Nat)  : Ev E MX0_init 1 20 0 0 [.ref b, .ref t] [(b, .inr (0, [.null, .int 0, .int 0, .int 0]))] (fun v_ w_ => v_ = none ∧ w_ = [(b, .inr (0, [.ref t, .int 0, .int 0, .int 0]))]) := by
  refine Ev.intro (by decide) (Nat.le_of_ble_eq_true rfl) ?_
  intro X B hr hI
  have B : Bd E X cX0_init RX0 2 1 20 0 0 := B
  have hr : Rt E X none 0 0 (fun v_ w_ => v_ = none ∧ w_ = [(b, .inr (0, [.ref t, .int 0, .int 0, .int 0]))]) := hr
  have hI : In X := hI rfl
  show G E X 2 [(b, .inr (0, [.null, .int 0, .int 0, .int 0]))] 0 0 [(0, .ref b), (1, .ref t)] 0 []
  refine g_aload_n B dX0_init_0 rfl 0 rfl ?_
  refine g_obj B w_mlo_X0_1 w_im_obj w_cd_obj (by decide) (Nat.le_of_ble_eq_true rfl) dX0_init_1 ?_
  refine g_aload_n B dX0_init_4 rfl 0 rfl ?_
  refine g_aload_n B dX0_init_5 rfl 1 rfl ?_
  refine g_putF (ws' := [(b, .inr (0, [.ref t, .int 0, .int 0, .int 0]))]) B hI 0 0 fl_X0_7 pf_X0_0 (fun q h => by cases h; rfl) rfl (Nat.le_of_ble_eq_true rfl) rfl rfl rfl dX0_init_6 ?_
  refine g_aload_n B dX0_init_9 rfl 0 rfl ?_
  refine g_iconst (v := 0) B dX0_init_10 (by decide) ?_
  refine g_put (ws' := [(b, .inr (0, [.ref t, .int 0, .int 0, .int 0]))]) B 0 1 fl_X0_13 pf_X0_1 rfl (Nat.le_of_ble_eq_true rfl) rfl rfl rfl dX0_init_11 ?_
  refine g_aload_n B dX0_init_14 rfl 0 rfl ?_
  refine g_iconst (v := 0) B dX0_init_15 (by decide) ?_
  refine g_put (ws' := [(b, .inr (0, [.ref t, .int 0, .int 0, .int 0]))]) B 0 2 fl_X0_17 pf_X0_2 rfl (Nat.le_of_ble_eq_true rfl) rfl rfl rfl dX0_init_16 ?_
  refine g_aload_n B dX0_init_19 rfl 0 rfl ?_
  refine g_iconst (v := 0) B dX0_init_20 (by decide) ?_
  refine g_put (ws' := [(b, .inr (0, [.ref t, .int 0, .int 0, .int 0]))]) B 0 3 fl_X0_20 pf_X0_3 rfl (Nat.le_of_ble_eq_true rfl) (by decide) rfl rfl dX0_init_21 ?_
  exact g_vret B hr dX0_init_24 (by decide) (by decide) ⟨rfl, rfl⟩
abbrev MX5_init : g_M := (yX5_init, cX5_init, 1, none)
theorem dX5_init_0 : decode cX5_init 0 = .ok (.aload_n 0, 1) := by decide +kernel
theorem dX5_init_1 : decode cX5_init 1 = .ok (.invokespecial 3, 3) := by decide +kernel
theorem w_mlo_X5_3 : Cond.methodLink RX5 3 objectInit ∈ g_tbl := g_tbl_in 294 (by decide +kernel) (by decide +kernel)
theorem dX5_init_4 : decode cX5_init 4 = .ok (.aload_n 0, 1) := by decide +kernel
theorem dX5_init_5 : decode cX5_init 5 = .ok (.bipush 6, 2) := by decide +kernel
theorem dX5_init_7 : decode cX5_init 7 = .ok (.newarray .long, 2) := by decide +kernel
theorem w_ac_long : Cond.arrayClass .long ∈ g_tbl := g_tbl_in 163 (by decide +kernel) (by decide +kernel)
theorem dX5_init_9 : decode cX5_init 9 = .ok (.putfield 9, 3) := by decide +kernel
theorem w_fl_X5_9 : Cond.fieldLink RX5 9 (TX5 0).1 (TX5 0).2.1 (TX5 0).2.2.1 ∈ g_tbl := g_tbl_in 295 (by decide +kernel) (by decide +kernel)
set_option maxRecDepth 100000 in
theorem inX_X5 : ∀ w ∈ u_ws RX5 TX5 3, w ∈ g_tbl := by decide +kernel
theorem fl_X5_9 : FL RX5 9 5 0 := ⟨RX5, TX5, 3, rfl, by decide, inX_X5, w_fl_X5_9⟩
theorem pf_X5_0 : PF 5 0 (.array .long) true := fun C T N h => by cases h; exact ⟨⟨tyX5, tyX5_ok⟩, nmX5, by decide +kernel, rfl, rfl⟩
theorem dX5_init_12 : decode cX5_init 12 = .ok (.aload_n 0, 1) := by decide +kernel
theorem dX5_init_13 : decode cX5_init 13 = .ok (.lconst 0, 1) := by decide +kernel
theorem dX5_init_14 : decode cX5_init 14 = .ok (.putfield 15, 3) := by decide +kernel
theorem w_fl_X5_15 : Cond.fieldLink RX5 15 (TX5 1).1 (TX5 1).2.1 (TX5 1).2.2.1 ∈ g_tbl := g_tbl_in 296 (by decide +kernel) (by decide +kernel)
theorem fl_X5_15 : FL RX5 15 5 1 := ⟨RX5, TX5, 3, rfl, by decide, inX_X5, w_fl_X5_15⟩
theorem pf_X5_1 : PF 5 1 .long false := fun C T N h => by cases h; exact ⟨⟨tyX5, tyX5_ok⟩, nmX5, by decide +kernel, rfl, rfl⟩
theorem dX5_init_17 : decode cX5_init 17 = .ok (.aload_n 0, 1) := by decide +kernel
theorem dX5_init_18 : decode cX5_init 18 = .ok (.lconst 0, 1) := by decide +kernel
theorem dX5_init_19 : decode cX5_init 19 = .ok (.putfield 19, 3) := by decide +kernel
theorem w_fl_X5_19 : Cond.fieldLink RX5 19 (TX5 2).1 (TX5 2).2.1 (TX5 2).2.2.1 ∈ g_tbl := g_tbl_in 299 (by decide +kernel) (by decide +kernel)
theorem fl_X5_19 : FL RX5 19 5 2 := ⟨RX5, TX5, 3, rfl, by decide, inX_X5, w_fl_X5_19⟩
theorem pf_X5_2 : PF 5 2 .long false := fun C T N h => by cases h; exact ⟨⟨tyX5, tyX5_ok⟩, nmX5, by decide +kernel, rfl, rfl⟩
theorem dX5_init_22 : decode cX5_init 22 = .ok (.return_, 1) := by decide +kernel
set_option maxRecDepth 100000 in
set_option maxHeartbeats 4000000 in
theorem ev_X5_init (E : g_E) (md : Nat)  : Ev E MX5_init 1 20 1 6 [.ref md] [(md, .inr (5, [.null, .long 0, .long 0]))] (fun v_ w_ => ∃ mi : Nat, v_ = none ∧ w_ = [(md, .inr (5, [.ref mi, .long 0, .long 0])), (mi, .inl (E.2.2.1 3, 6, .inr (.inl (fun _ => 0))))]) := by
  refine Ev.intro (by decide) (Nat.le_of_ble_eq_true rfl) ?_
  intro X B hr hI
  have B : Bd E X cX5_init RX5 1 1 20 1 6 := B
  have hr : Rt E X none 1 6 (fun v_ w_ => ∃ mi : Nat, v_ = none ∧ w_ = [(md, .inr (5, [.ref mi, .long 0, .long 0])), (mi, .inl (E.2.2.1 3, 6, .inr (.inl (fun _ => 0))))]) := hr
  have hI : In X := hI rfl
  show G E X 1 [(md, .inr (5, [.null, .long 0, .long 0]))] 0 0 [(0, .ref md)] 0 []
  refine g_aload_n B dX5_init_0 rfl 0 rfl ?_
  refine g_obj B w_mlo_X5_3 w_im_obj w_cd_obj (by decide) (Nat.le_of_ble_eq_true rfl) dX5_init_1 ?_
  refine g_aload_n B dX5_init_4 rfl 0 rfl ?_
  refine g_bipush (v := 6) B dX5_init_5 (by decide) ?_
  refine g_newa (ty := .long) (t0 := 3) (N := 6) (nc' := 1) (ns' := 6) (a0 := (6, .inr (.inl (fun _ => 0)))) (ws' := fun q_6 => [(md, .inr (5, [.null, .long 0, .long 0])), (q_6, .inl (E.2.2.1 3, 6, .inr (.inl (fun _ => 0))))]) B w_ac_long rfl rfl rfl (fun _ => rfl) (by decide) (by decide) (by decide) rfl rfl (by decide) (by decide) (fun _ => rfl) dX5_init_7 (fun q_6 => ?_)
  refine g_putF (ws' := [(md, .inr (5, [.ref q_6, .long 0, .long 0])), (q_6, .inl (E.2.2.1 3, 6, .inr (.inl (fun _ => 0))))]) B hI 0 0 fl_X5_9 pf_X5_0 (fun q h => by cases h; rfl) rfl (Nat.le_of_ble_eq_true rfl) rfl rfl rfl dX5_init_9 ?_
  refine g_aload_n B dX5_init_12 rfl 0 rfl ?_
  refine g_lconst (v := 0) B dX5_init_13 (by decide) ?_
  refine g_put (ws' := [(md, .inr (5, [.ref q_6, .long 0, .long 0])), (q_6, .inl (E.2.2.1 3, 6, .inr (.inl (fun _ => 0))))]) B 0 1 fl_X5_15 pf_X5_1 rfl (Nat.le_of_ble_eq_true rfl) rfl rfl rfl dX5_init_14 ?_
  refine g_aload_n B dX5_init_17 rfl 0 rfl ?_
  refine g_lconst (v := 0) B dX5_init_18 (by decide) ?_
  refine g_put (ws' := [(md, .inr (5, [.ref q_6, .long 0, .long 0])), (q_6, .inl (E.2.2.1 3, 6, .inr (.inl (fun _ => 0))))]) B 0 2 fl_X5_19 pf_X5_2 rfl (Nat.le_of_ble_eq_true rfl) rfl rfl rfl dX5_init_19 ?_
  exact g_vret B hr dX5_init_22 (by decide) (by decide) ⟨q_6, rfl, rfl⟩
abbrev MX6_init : g_M := (yX6_init, cX6_init, 1, none)
theorem dX6_init_0 : decode cX6_init 0 = .ok (.aload_n 0, 1) := by decide +kernel
theorem dX6_init_1 : decode cX6_init 1 = .ok (.invokespecial 3, 3) := by decide +kernel
theorem w_mlo_X6_3 : Cond.methodLink RX6 3 objectInit ∈ g_tbl := g_tbl_in 257 (by decide +kernel) (by decide +kernel)
theorem dX6_init_4 : decode cX6_init 4 = .ok (.aload_n 0, 1) := by decide +kernel
theorem dX6_init_5 : decode cX6_init 5 = .ok (.new 9, 3) := by decide +kernel
theorem w_clk_X6_9 : Cond.classLink RX6 9 RX7 ∈ g_tbl := g_tbl_in 258 (by decide +kernel) (by decide +kernel)
theorem w_ins_X7 : Cond.instantiable RX7 3 ∈ g_tbl := g_tbl_in 94 (by decide +kernel) (by decide +kernel)
theorem w_ini_X7 : Cond.initialized RX7 ∈ g_tbl := g_tbl_in 69 (by decide +kernel) (by decide +kernel)
theorem nl_X6_9 : NL RX6 9 7 3 [.null, .null, .int 0] := ⟨RX7, TX7, tyX7, rfl, inX_X7, tyX7_ok, w_clk_X6_9, w_ins_X7, w_ini_X7, by decide +kernel⟩
theorem dX6_init_8 : decode cX6_init 8 = .ok (.dup, 1) := by decide +kernel
theorem dX6_init_9 : decode cX6_init 9 = .ok (.invokespecial 11, 3) := by decide +kernel
theorem w_ml_X6_11 : Cond.methodLink RX6 11 yX7_init ∈ g_tbl := g_tbl_in 259 (by decide +kernel) (by decide +kernel)
theorem w_cd_X7_init : g_cw MX7_init ∈ g_tbl := g_tbl_in 97 (by decide +kernel) (by decide +kernel)
theorem cl_X6_11 : CL RX6 11 0 MX7_init := ⟨w_ml_X6_11, w_cd_X7_init, w_ini_X7, by decide +kernel, by decide +kernel, by decide +kernel⟩
theorem w_im_X7_init : Cond.instanceMethod yX7_init ∈ g_tbl := g_tbl_in 96 (by decide +kernel) (by decide +kernel)
theorem dX6_init_12 : decode cX6_init 12 = .ok (.putfield 12, 3) := by decide +kernel
theorem w_fl_X6_12 : Cond.fieldLink RX6 12 (TX6 0).1 (TX6 0).2.1 (TX6 0).2.2.1 ∈ g_tbl := g_tbl_in 260 (by decide +kernel) (by decide +kernel)
set_option maxRecDepth 100000 in
theorem inX_X6 : ∀ w ∈ u_ws RX6 TX6 8, w ∈ g_tbl := by decide +kernel
theorem fl_X6_12 : FL RX6 12 6 0 := ⟨RX6, TX6, 8, rfl, by decide, inX_X6, w_fl_X6_12⟩
theorem pf_X6_0 : PF 6 0 (.object "SoundPress$Plan") true := fun C T N h => by cases h; exact ⟨⟨tyX6, tyX6_ok⟩, nmX6, by decide +kernel, rfl, rfl⟩
theorem dX6_init_15 : decode cX6_init 15 = .ok (.aload_n 0, 1) := by decide +kernel
theorem dX6_init_16 : decode cX6_init 16 = .ok (.bipush 16, 2) := by decide +kernel
theorem dX6_init_18 : decode cX6_init 18 = .ok (.newarray .int, 2) := by decide +kernel
theorem dX6_init_20 : decode cX6_init 20 = .ok (.putfield 18, 3) := by decide +kernel
theorem w_fl_X6_18 : Cond.fieldLink RX6 18 (TX6 1).1 (TX6 1).2.1 (TX6 1).2.2.1 ∈ g_tbl := g_tbl_in 265 (by decide +kernel) (by decide +kernel)
theorem fl_X6_18 : FL RX6 18 6 1 := ⟨RX6, TX6, 8, rfl, by decide, inX_X6, w_fl_X6_18⟩
theorem pf_X6_1 : PF 6 1 (.array .int) true := fun C T N h => by cases h; exact ⟨⟨tyX6, tyX6_ok⟩, nmX6, by decide +kernel, rfl, rfl⟩
theorem dX6_init_23 : decode cX6_init 23 = .ok (.aload_n 0, 1) := by decide +kernel
theorem dX6_init_24 : decode cX6_init 24 = .ok (.sipush 128, 3) := by decide +kernel
theorem dX6_init_27 : decode cX6_init 27 = .ok (.newarray .int, 2) := by decide +kernel
theorem dX6_init_29 : decode cX6_init 29 = .ok (.putfield 22, 3) := by decide +kernel
theorem w_fl_X6_22 : Cond.fieldLink RX6 22 (TX6 2).1 (TX6 2).2.1 (TX6 2).2.2.1 ∈ g_tbl := g_tbl_in 266 (by decide +kernel) (by decide +kernel)
theorem fl_X6_22 : FL RX6 22 6 2 := ⟨RX6, TX6, 8, rfl, by decide, inX_X6, w_fl_X6_22⟩
theorem pf_X6_2 : PF 6 2 (.array .int) true := fun C T N h => by cases h; exact ⟨⟨tyX6, tyX6_ok⟩, nmX6, by decide +kernel, rfl, rfl⟩
theorem dX6_init_32 : decode cX6_init 32 = .ok (.aload_n 0, 1) := by decide +kernel
theorem dX6_init_33 : decode cX6_init 33 = .ok (.bipush 8, 2) := by decide +kernel
theorem dX6_init_35 : decode cX6_init 35 = .ok (.newarray .int, 2) := by decide +kernel
theorem dX6_init_37 : decode cX6_init 37 = .ok (.putfield 25, 3) := by decide +kernel
theorem w_fl_X6_25 : Cond.fieldLink RX6 25 (TX6 3).1 (TX6 3).2.1 (TX6 3).2.2.1 ∈ g_tbl := g_tbl_in 267 (by decide +kernel) (by decide +kernel)
theorem fl_X6_25 : FL RX6 25 6 3 := ⟨RX6, TX6, 8, rfl, by decide, inX_X6, w_fl_X6_25⟩
theorem pf_X6_3 : PF 6 3 (.array .int) true := fun C T N h => by cases h; exact ⟨⟨tyX6, tyX6_ok⟩, nmX6, by decide +kernel, rfl, rfl⟩
theorem dX6_init_40 : decode cX6_init 40 = .ok (.aload_n 0, 1) := by decide +kernel
theorem dX6_init_41 : decode cX6_init 41 = .ok (.bipush 8, 2) := by decide +kernel
theorem dX6_init_43 : decode cX6_init 43 = .ok (.newarray .int, 2) := by decide +kernel
theorem dX6_init_45 : decode cX6_init 45 = .ok (.putfield 28, 3) := by decide +kernel
theorem w_fl_X6_28 : Cond.fieldLink RX6 28 (TX6 4).1 (TX6 4).2.1 (TX6 4).2.2.1 ∈ g_tbl := g_tbl_in 268 (by decide +kernel) (by decide +kernel)
theorem fl_X6_28 : FL RX6 28 6 4 := ⟨RX6, TX6, 8, rfl, by decide, inX_X6, w_fl_X6_28⟩
theorem pf_X6_4 : PF 6 4 (.array .int) true := fun C T N h => by cases h; exact ⟨⟨tyX6, tyX6_ok⟩, nmX6, by decide +kernel, rfl, rfl⟩
theorem dX6_init_48 : decode cX6_init 48 = .ok (.aload_n 0, 1) := by decide +kernel
theorem dX6_init_49 : decode cX6_init 49 = .ok (.iconst 0, 1) := by decide +kernel
theorem dX6_init_50 : decode cX6_init 50 = .ok (.putfield 31, 3) := by decide +kernel
theorem w_fl_X6_31 : Cond.fieldLink RX6 31 (TX6 5).1 (TX6 5).2.1 (TX6 5).2.2.1 ∈ g_tbl := g_tbl_in 269 (by decide +kernel) (by decide +kernel)
theorem fl_X6_31 : FL RX6 31 6 5 := ⟨RX6, TX6, 8, rfl, by decide, inX_X6, w_fl_X6_31⟩
theorem pf_X6_5 : PF 6 5 .int false := fun C T N h => by cases h; exact ⟨⟨tyX6, tyX6_ok⟩, nmX6, by decide +kernel, rfl, rfl⟩
theorem dX6_init_53 : decode cX6_init 53 = .ok (.aload_n 0, 1) := by decide +kernel
theorem dX6_init_54 : decode cX6_init 54 = .ok (.iconst 0, 1) := by decide +kernel
theorem dX6_init_55 : decode cX6_init 55 = .ok (.putfield 35, 3) := by decide +kernel
theorem w_fl_X6_35 : Cond.fieldLink RX6 35 (TX6 6).1 (TX6 6).2.1 (TX6 6).2.2.1 ∈ g_tbl := g_tbl_in 270 (by decide +kernel) (by decide +kernel)
theorem fl_X6_35 : FL RX6 35 6 6 := ⟨RX6, TX6, 8, rfl, by decide, inX_X6, w_fl_X6_35⟩
theorem pf_X6_6 : PF 6 6 .int false := fun C T N h => by cases h; exact ⟨⟨tyX6, tyX6_ok⟩, nmX6, by decide +kernel, rfl, rfl⟩
theorem dX6_init_58 : decode cX6_init 58 = .ok (.aload_n 0, 1) := by decide +kernel
theorem dX6_init_59 : decode cX6_init 59 = .ok (.iconst 0, 1) := by decide +kernel
theorem dX6_init_60 : decode cX6_init 60 = .ok (.putfield 38, 3) := by decide +kernel
theorem w_fl_X6_38 : Cond.fieldLink RX6 38 (TX6 7).1 (TX6 7).2.1 (TX6 7).2.2.1 ∈ g_tbl := g_tbl_in 271 (by decide +kernel) (by decide +kernel)
theorem fl_X6_38 : FL RX6 38 6 7 := ⟨RX6, TX6, 8, rfl, by decide, inX_X6, w_fl_X6_38⟩
theorem pf_X6_7 : PF 6 7 .int false := fun C T N h => by cases h; exact ⟨⟨tyX6, tyX6_ok⟩, nmX6, by decide +kernel, rfl, rfl⟩
theorem dX6_init_63 : decode cX6_init 63 = .ok (.return_, 1) := by decide +kernel
set_option maxRecDepth 100000 in
set_option maxHeartbeats 4000000 in
theorem ev_X6_init (E : g_E) (ps : Nat)  : Ev E MX6_init 2 40 7 179 [.ref ps] [(ps, .inr (6, [.null, .null, .null, .null, .null, .int 0, .int 0, .int 0]))] (fun v_ w_ => ∃ p : Nat, ∃ te : Nat, ∃ de : Nat, ∃ we : Nat, ∃ inp : Nat, ∃ ba : Nat, ∃ gu : Nat, v_ = none ∧ w_ = [(ps, .inr (6, [.ref p, .ref we, .ref inp, .ref ba, .ref gu, .int 0, .int 0, .int 0])), (p, .inr (7, [.ref te, .ref de, .int 0])), (te, .inl (E.2.2.1 0, 8, .inl (fun _ => 0))), (de, .inl (E.2.2.1 0, 8, .inl (fun _ => 0))), (we, .inl (E.2.2.1 0, 16, .inl (fun _ => 0))), (inp, .inl (E.2.2.1 0, 128, .inl (fun _ => 0))), (ba, .inl (E.2.2.1 0, 8, .inl (fun _ => 0))), (gu, .inl (E.2.2.1 0, 8, .inl (fun _ => 0)))]) := by
  refine Ev.intro (by decide) (Nat.le_of_ble_eq_true rfl) ?_
  intro X B hr hI
  have B : Bd E X cX6_init RX6 1 2 40 7 179 := B
  have hr : Rt E X none 7 179 (fun v_ w_ => ∃ p : Nat, ∃ te : Nat, ∃ de : Nat, ∃ we : Nat, ∃ inp : Nat, ∃ ba : Nat, ∃ gu : Nat, v_ = none ∧ w_ = [(ps, .inr (6, [.ref p, .ref we, .ref inp, .ref ba, .ref gu, .int 0, .int 0, .int 0])), (p, .inr (7, [.ref te, .ref de, .int 0])), (te, .inl (E.2.2.1 0, 8, .inl (fun _ => 0))), (de, .inl (E.2.2.1 0, 8, .inl (fun _ => 0))), (we, .inl (E.2.2.1 0, 16, .inl (fun _ => 0))), (inp, .inl (E.2.2.1 0, 128, .inl (fun _ => 0))), (ba, .inl (E.2.2.1 0, 8, .inl (fun _ => 0))), (gu, .inl (E.2.2.1 0, 8, .inl (fun _ => 0)))]) := hr
  have hI : In X := hI rfl
  show G E X 1 [(ps, .inr (6, [.null, .null, .null, .null, .null, .int 0, .int 0, .int 0]))] 0 0 [(0, .ref ps)] 0 []
  refine g_aload_n B dX6_init_0 rfl 0 rfl ?_
  refine g_obj B w_mlo_X6_3 w_im_obj w_cd_obj (by decide) (Nat.le_of_ble_eq_true rfl) dX6_init_1 ?_
  refine g_aload_n B dX6_init_4 rfl 0 rfl ?_
  refine g_new (nc' := 1) (ns' := 3) (ws' := fun q_7 => [(ps, .inr (6, [.null, .null, .null, .null, .null, .int 0, .int 0, .int 0])), (q_7, .inr (7, [.null, .null, .int 0]))]) B nl_X6_9 rfl rfl (by decide) (by decide) (fun _ => rfl) dX6_init_5 (fun q_7 => ?_)
  refine g_dup B dX6_init_8 rfl ?_
  refine g_callI (st := [.ref q_7, .ref ps]) (As := []) (wr := [(ps, .inr (6, [.null, .null, .null, .null, .null, .int 0, .int 0, .int 0]))]) (nc' := 3) (ns' := 19) B cl_X6_11 w_im_X7_init rfl rfl (ev_X7_init E q_7 ) rfl [1] [0] rfl rfl (by decide) (by decide) (by decide) ⟨by decide, by decide⟩ rfl rfl (by decide) (by decide) rfl (Nat.le_of_ble_eq_true rfl) dX6_init_9 (fun v w hq => ?_)
  obtain ⟨te_8, de_9, rfl, rfl⟩ := hq
  show G E X 1 [(ps, .inr (6, [.null, .null, .null, .null, .null, .int 0, .int 0, .int 0])), (q_7, .inr (7, [.ref te_8, .ref de_9, .int 0])), (te_8, .inl (E.2.2.1 0, 8, .inl (fun _ => 0))), (de_9, .inl (E.2.2.1 0, 8, .inl (fun _ => 0)))] 3 19 [(0, .ref ps)] 12 [.ref q_7, .ref ps]
  refine g_putF (ws' := [(ps, .inr (6, [.ref q_7, .null, .null, .null, .null, .int 0, .int 0, .int 0])), (q_7, .inr (7, [.ref te_8, .ref de_9, .int 0])), (te_8, .inl (E.2.2.1 0, 8, .inl (fun _ => 0))), (de_9, .inl (E.2.2.1 0, 8, .inl (fun _ => 0)))]) B hI 0 0 fl_X6_12 pf_X6_0 (fun q h => by cases h; rfl) rfl (Nat.le_of_ble_eq_true rfl) rfl rfl rfl dX6_init_12 ?_
  refine g_aload_n B dX6_init_15 rfl 0 rfl ?_
  refine g_bipush (v := 16) B dX6_init_16 (by decide) ?_
  refine g_newa (ty := .int) (t0 := 0) (N := 16) (nc' := 4) (ns' := 35) (a0 := (16, .inl (fun _ => 0))) (ws' := fun q_11 => [(ps, .inr (6, [.ref q_7, .null, .null, .null, .null, .int 0, .int 0, .int 0])), (q_7, .inr (7, [.ref te_8, .ref de_9, .int 0])), (te_8, .inl (E.2.2.1 0, 8, .inl (fun _ => 0))), (de_9, .inl (E.2.2.1 0, 8, .inl (fun _ => 0))), (q_11, .inl (E.2.2.1 0, 16, .inl (fun _ => 0)))]) B w_ac_int rfl rfl rfl (fun _ => rfl) (by decide) (by decide) (by decide) rfl rfl (by decide) (by decide) (fun _ => rfl) dX6_init_18 (fun q_11 => ?_)
  refine g_putF (ws' := [(ps, .inr (6, [.ref q_7, .ref q_11, .null, .null, .null, .int 0, .int 0, .int 0])), (q_7, .inr (7, [.ref te_8, .ref de_9, .int 0])), (te_8, .inl (E.2.2.1 0, 8, .inl (fun _ => 0))), (de_9, .inl (E.2.2.1 0, 8, .inl (fun _ => 0))), (q_11, .inl (E.2.2.1 0, 16, .inl (fun _ => 0)))]) B hI 0 1 fl_X6_18 pf_X6_1 (fun q h => by cases h; rfl) rfl (Nat.le_of_ble_eq_true rfl) rfl rfl rfl dX6_init_20 ?_
  refine g_aload_n B dX6_init_23 rfl 0 rfl ?_
  refine g_sipush (v := 128) B dX6_init_24 (by decide) ?_
  refine g_newa (ty := .int) (t0 := 0) (N := 128) (nc' := 5) (ns' := 163) (a0 := (128, .inl (fun _ => 0))) (ws' := fun q_12 => [(ps, .inr (6, [.ref q_7, .ref q_11, .null, .null, .null, .int 0, .int 0, .int 0])), (q_7, .inr (7, [.ref te_8, .ref de_9, .int 0])), (te_8, .inl (E.2.2.1 0, 8, .inl (fun _ => 0))), (de_9, .inl (E.2.2.1 0, 8, .inl (fun _ => 0))), (q_11, .inl (E.2.2.1 0, 16, .inl (fun _ => 0))), (q_12, .inl (E.2.2.1 0, 128, .inl (fun _ => 0)))]) B w_ac_int rfl rfl rfl (fun _ => rfl) (by decide) (by decide) (by decide) rfl rfl (by decide) (by decide) (fun _ => rfl) dX6_init_27 (fun q_12 => ?_)
  refine g_putF (ws' := [(ps, .inr (6, [.ref q_7, .ref q_11, .ref q_12, .null, .null, .int 0, .int 0, .int 0])), (q_7, .inr (7, [.ref te_8, .ref de_9, .int 0])), (te_8, .inl (E.2.2.1 0, 8, .inl (fun _ => 0))), (de_9, .inl (E.2.2.1 0, 8, .inl (fun _ => 0))), (q_11, .inl (E.2.2.1 0, 16, .inl (fun _ => 0))), (q_12, .inl (E.2.2.1 0, 128, .inl (fun _ => 0)))]) B hI 0 2 fl_X6_22 pf_X6_2 (fun q h => by cases h; rfl) rfl (Nat.le_of_ble_eq_true rfl) rfl rfl rfl dX6_init_29 ?_
  refine g_aload_n B dX6_init_32 rfl 0 rfl ?_
  refine g_bipush (v := 8) B dX6_init_33 (by decide) ?_
  refine g_newa (ty := .int) (t0 := 0) (N := 8) (nc' := 6) (ns' := 171) (a0 := (8, .inl (fun _ => 0))) (ws' := fun q_13 => [(ps, .inr (6, [.ref q_7, .ref q_11, .ref q_12, .null, .null, .int 0, .int 0, .int 0])), (q_7, .inr (7, [.ref te_8, .ref de_9, .int 0])), (te_8, .inl (E.2.2.1 0, 8, .inl (fun _ => 0))), (de_9, .inl (E.2.2.1 0, 8, .inl (fun _ => 0))), (q_11, .inl (E.2.2.1 0, 16, .inl (fun _ => 0))), (q_12, .inl (E.2.2.1 0, 128, .inl (fun _ => 0))), (q_13, .inl (E.2.2.1 0, 8, .inl (fun _ => 0)))]) B w_ac_int rfl rfl rfl (fun _ => rfl) (by decide) (by decide) (by decide) rfl rfl (by decide) (by decide) (fun _ => rfl) dX6_init_35 (fun q_13 => ?_)
  refine g_putF (ws' := [(ps, .inr (6, [.ref q_7, .ref q_11, .ref q_12, .ref q_13, .null, .int 0, .int 0, .int 0])), (q_7, .inr (7, [.ref te_8, .ref de_9, .int 0])), (te_8, .inl (E.2.2.1 0, 8, .inl (fun _ => 0))), (de_9, .inl (E.2.2.1 0, 8, .inl (fun _ => 0))), (q_11, .inl (E.2.2.1 0, 16, .inl (fun _ => 0))), (q_12, .inl (E.2.2.1 0, 128, .inl (fun _ => 0))), (q_13, .inl (E.2.2.1 0, 8, .inl (fun _ => 0)))]) B hI 0 3 fl_X6_25 pf_X6_3 (fun q h => by cases h; rfl) rfl (Nat.le_of_ble_eq_true rfl) rfl rfl rfl dX6_init_37 ?_
  refine g_aload_n B dX6_init_40 rfl 0 rfl ?_
  refine g_bipush (v := 8) B dX6_init_41 (by decide) ?_
  refine g_newa (ty := .int) (t0 := 0) (N := 8) (nc' := 7) (ns' := 179) (a0 := (8, .inl (fun _ => 0))) (ws' := fun q_14 => [(ps, .inr (6, [.ref q_7, .ref q_11, .ref q_12, .ref q_13, .null, .int 0, .int 0, .int 0])), (q_7, .inr (7, [.ref te_8, .ref de_9, .int 0])), (te_8, .inl (E.2.2.1 0, 8, .inl (fun _ => 0))), (de_9, .inl (E.2.2.1 0, 8, .inl (fun _ => 0))), (q_11, .inl (E.2.2.1 0, 16, .inl (fun _ => 0))), (q_12, .inl (E.2.2.1 0, 128, .inl (fun _ => 0))), (q_13, .inl (E.2.2.1 0, 8, .inl (fun _ => 0))), (q_14, .inl (E.2.2.1 0, 8, .inl (fun _ => 0)))]) B w_ac_int rfl rfl rfl (fun _ => rfl) (by decide) (by decide) (by decide) rfl rfl (by decide) (by decide) (fun _ => rfl) dX6_init_43 (fun q_14 => ?_)
  refine g_putF (ws' := [(ps, .inr (6, [.ref q_7, .ref q_11, .ref q_12, .ref q_13, .ref q_14, .int 0, .int 0, .int 0])), (q_7, .inr (7, [.ref te_8, .ref de_9, .int 0])), (te_8, .inl (E.2.2.1 0, 8, .inl (fun _ => 0))), (de_9, .inl (E.2.2.1 0, 8, .inl (fun _ => 0))), (q_11, .inl (E.2.2.1 0, 16, .inl (fun _ => 0))), (q_12, .inl (E.2.2.1 0, 128, .inl (fun _ => 0))), (q_13, .inl (E.2.2.1 0, 8, .inl (fun _ => 0))), (q_14, .inl (E.2.2.1 0, 8, .inl (fun _ => 0)))]) B hI 0 4 fl_X6_28 pf_X6_4 (fun q h => by cases h; rfl) rfl (Nat.le_of_ble_eq_true rfl) rfl rfl rfl dX6_init_45 ?_
  refine g_aload_n B dX6_init_48 rfl 0 rfl ?_
  refine g_iconst (v := 0) B dX6_init_49 (by decide) ?_
  refine g_put (ws' := [(ps, .inr (6, [.ref q_7, .ref q_11, .ref q_12, .ref q_13, .ref q_14, .int 0, .int 0, .int 0])), (q_7, .inr (7, [.ref te_8, .ref de_9, .int 0])), (te_8, .inl (E.2.2.1 0, 8, .inl (fun _ => 0))), (de_9, .inl (E.2.2.1 0, 8, .inl (fun _ => 0))), (q_11, .inl (E.2.2.1 0, 16, .inl (fun _ => 0))), (q_12, .inl (E.2.2.1 0, 128, .inl (fun _ => 0))), (q_13, .inl (E.2.2.1 0, 8, .inl (fun _ => 0))), (q_14, .inl (E.2.2.1 0, 8, .inl (fun _ => 0)))]) B 0 5 fl_X6_31 pf_X6_5 rfl (Nat.le_of_ble_eq_true rfl) rfl rfl rfl dX6_init_50 ?_
  refine g_aload_n B dX6_init_53 rfl 0 rfl ?_
  refine g_iconst (v := 0) B dX6_init_54 (by decide) ?_
  refine g_put (ws' := [(ps, .inr (6, [.ref q_7, .ref q_11, .ref q_12, .ref q_13, .ref q_14, .int 0, .int 0, .int 0])), (q_7, .inr (7, [.ref te_8, .ref de_9, .int 0])), (te_8, .inl (E.2.2.1 0, 8, .inl (fun _ => 0))), (de_9, .inl (E.2.2.1 0, 8, .inl (fun _ => 0))), (q_11, .inl (E.2.2.1 0, 16, .inl (fun _ => 0))), (q_12, .inl (E.2.2.1 0, 128, .inl (fun _ => 0))), (q_13, .inl (E.2.2.1 0, 8, .inl (fun _ => 0))), (q_14, .inl (E.2.2.1 0, 8, .inl (fun _ => 0)))]) B 0 6 fl_X6_35 pf_X6_6 rfl (Nat.le_of_ble_eq_true rfl) rfl rfl rfl dX6_init_55 ?_
  refine g_aload_n B dX6_init_58 rfl 0 rfl ?_
  refine g_iconst (v := 0) B dX6_init_59 (by decide) ?_
  refine g_put (ws' := [(ps, .inr (6, [.ref q_7, .ref q_11, .ref q_12, .ref q_13, .ref q_14, .int 0, .int 0, .int 0])), (q_7, .inr (7, [.ref te_8, .ref de_9, .int 0])), (te_8, .inl (E.2.2.1 0, 8, .inl (fun _ => 0))), (de_9, .inl (E.2.2.1 0, 8, .inl (fun _ => 0))), (q_11, .inl (E.2.2.1 0, 16, .inl (fun _ => 0))), (q_12, .inl (E.2.2.1 0, 128, .inl (fun _ => 0))), (q_13, .inl (E.2.2.1 0, 8, .inl (fun _ => 0))), (q_14, .inl (E.2.2.1 0, 8, .inl (fun _ => 0)))]) B 0 7 fl_X6_38 pf_X6_7 rfl (Nat.le_of_ble_eq_true rfl) rfl rfl rfl dX6_init_60 ?_
  exact g_vret B hr dX6_init_63 (by decide) (by decide) ⟨q_7, te_8, de_9, q_11, q_12, q_13, q_14, rfl, rfl⟩
abbrev MX9_init : g_M := (yX9_init, cX9_init, 1, none)
theorem dX9_init_0 : decode cX9_init 0 = .ok (.aload_n 0, 1) := by decide +kernel
theorem dX9_init_1 : decode cX9_init 1 = .ok (.invokespecial 3, 3) := by decide +kernel
theorem w_mlo_X9_3 : Cond.methodLink RX9 3 objectInit ∈ g_tbl := g_tbl_in 251 (by decide +kernel) (by decide +kernel)
theorem dX9_init_4 : decode cX9_init 4 = .ok (.aload_n 0, 1) := by decide +kernel
theorem dX9_init_5 : decode cX9_init 5 = .ok (.new 9, 3) := by decide +kernel
theorem w_clk_X9_9 : Cond.classLink RX9 9 RX6 ∈ g_tbl := g_tbl_in 252 (by decide +kernel) (by decide +kernel)
theorem w_ins_X6 : Cond.instantiable RX6 8 ∈ g_tbl := g_tbl_in 253 (by decide +kernel) (by decide +kernel)
theorem w_ini_X6 : Cond.initialized RX6 ∈ g_tbl := g_tbl_in 78 (by decide +kernel) (by decide +kernel)
theorem nl_X9_9 : NL RX9 9 6 8 [.null, .null, .null, .null, .null, .int 0, .int 0, .int 0] := ⟨RX6, TX6, tyX6, rfl, inX_X6, tyX6_ok, w_clk_X9_9, w_ins_X6, w_ini_X6, by decide +kernel⟩
theorem dX9_init_8 : decode cX9_init 8 = .ok (.dup, 1) := by decide +kernel
theorem dX9_init_9 : decode cX9_init 9 = .ok (.invokespecial 11, 3) := by decide +kernel
theorem w_ml_X9_11 : Cond.methodLink RX9 11 yX6_init ∈ g_tbl := g_tbl_in 254 (by decide +kernel) (by decide +kernel)
theorem w_cd_X6_init : g_cw MX6_init ∈ g_tbl := g_tbl_in 256 (by decide +kernel) (by decide +kernel)
theorem cl_X9_11 : CL RX9 11 0 MX6_init := ⟨w_ml_X9_11, w_cd_X6_init, w_ini_X6, by decide +kernel, by decide +kernel, by decide +kernel⟩
theorem w_im_X6_init : Cond.instanceMethod yX6_init ∈ g_tbl := g_tbl_in 255 (by decide +kernel) (by decide +kernel)
theorem dX9_init_12 : decode cX9_init 12 = .ok (.putfield 12, 3) := by decide +kernel
theorem w_fl_X9_12 : Cond.fieldLink RX9 12 (TX9 0).1 (TX9 0).2.1 (TX9 0).2.2.1 ∈ g_tbl := g_tbl_in 309 (by decide +kernel) (by decide +kernel)
set_option maxRecDepth 100000 in
theorem inX_X9 : ∀ w ∈ u_ws RX9 TX9 12, w ∈ g_tbl := by decide +kernel
theorem fl_X9_12 : FL RX9 12 9 0 := ⟨RX9, TX9, 12, rfl, by decide, inX_X9, w_fl_X9_12⟩
theorem pf_X9_0 : PF 9 0 (.object "SoundPress$Passes") true := fun C T N h => by cases h; exact ⟨⟨tyX9, tyX9_ok⟩, nmX9, by decide +kernel, rfl, rfl⟩
theorem dX9_init_15 : decode cX9_init 15 = .ok (.aload_n 0, 1) := by decide +kernel
theorem dX9_init_16 : decode cX9_init 16 = .ok (.new 18, 3) := by decide +kernel
theorem w_clk_X9_18 : Cond.classLink RX9 18 RX5 ∈ g_tbl := g_tbl_in 289 (by decide +kernel) (by decide +kernel)
theorem w_ins_X5 : Cond.instantiable RX5 3 ∈ g_tbl := g_tbl_in 290 (by decide +kernel) (by decide +kernel)
theorem w_ini_X5 : Cond.initialized RX5 ∈ g_tbl := g_tbl_in 79 (by decide +kernel) (by decide +kernel)
theorem nl_X9_18 : NL RX9 18 5 3 [.null, .long 0, .long 0] := ⟨RX5, TX5, tyX5, rfl, inX_X5, tyX5_ok, w_clk_X9_18, w_ins_X5, w_ini_X5, by decide +kernel⟩
theorem dX9_init_19 : decode cX9_init 19 = .ok (.dup, 1) := by decide +kernel
theorem dX9_init_20 : decode cX9_init 20 = .ok (.invokespecial 20, 3) := by decide +kernel
theorem w_ml_X9_20 : Cond.methodLink RX9 20 yX5_init ∈ g_tbl := g_tbl_in 291 (by decide +kernel) (by decide +kernel)
theorem w_cd_X5_init : g_cw MX5_init ∈ g_tbl := g_tbl_in 293 (by decide +kernel) (by decide +kernel)
theorem cl_X9_20 : CL RX9 20 0 MX5_init := ⟨w_ml_X9_20, w_cd_X5_init, w_ini_X5, by decide +kernel, by decide +kernel, by decide +kernel⟩
theorem w_im_X5_init : Cond.instanceMethod yX5_init ∈ g_tbl := g_tbl_in 292 (by decide +kernel) (by decide +kernel)
theorem dX9_init_23 : decode cX9_init 23 = .ok (.putfield 21, 3) := by decide +kernel
theorem w_fl_X9_21 : Cond.fieldLink RX9 21 (TX9 1).1 (TX9 1).2.1 (TX9 1).2.2.1 ∈ g_tbl := g_tbl_in 313 (by decide +kernel) (by decide +kernel)
theorem fl_X9_21 : FL RX9 21 9 1 := ⟨RX9, TX9, 12, rfl, by decide, inX_X9, w_fl_X9_21⟩
theorem pf_X9_1 : PF 9 1 (.object "SoundPress$Medians") true := fun C T N h => by cases h; exact ⟨⟨tyX9, tyX9_ok⟩, nmX9, by decide +kernel, rfl, rfl⟩
theorem dX9_init_26 : decode cX9_init 26 = .ok (.return_, 1) := by decide +kernel
set_option maxRecDepth 100000 in
set_option maxHeartbeats 4000000 in
theorem ev_X9_init (E : g_E) (w : Nat)  : Ev E MX9_init 3 60 10 196 [.ref w] [(w, .inr (9, [.null, .null, .int 0, .int 0, .int 0, .int 0, .int 0, .int 0, .int 0, .int 0, .int 0, .int 0]))] (fun v_ w_ => ∃ ps : Nat, ∃ p : Nat, ∃ te : Nat, ∃ de : Nat, ∃ we : Nat, ∃ inp : Nat, ∃ ba : Nat, ∃ gu : Nat, ∃ md : Nat, ∃ mi : Nat, v_ = none ∧ w_ = [(w, .inr (9, [.ref ps, .ref md, .int 0, .int 0, .int 0, .int 0, .int 0, .int 0, .int 0, .int 0, .int 0, .int 0])), (ps, .inr (6, [.ref p, .ref we, .ref inp, .ref ba, .ref gu, .int 0, .int 0, .int 0])), (p, .inr (7, [.ref te, .ref de, .int 0])), (te, .inl (E.2.2.1 0, 8, .inl (fun _ => 0))), (de, .inl (E.2.2.1 0, 8, .inl (fun _ => 0))), (we, .inl (E.2.2.1 0, 16, .inl (fun _ => 0))), (inp, .inl (E.2.2.1 0, 128, .inl (fun _ => 0))), (ba, .inl (E.2.2.1 0, 8, .inl (fun _ => 0))), (gu, .inl (E.2.2.1 0, 8, .inl (fun _ => 0))), (md, .inr (5, [.ref mi, .long 0, .long 0])), (mi, .inl (E.2.2.1 3, 6, .inr (.inl (fun _ => 0))))]) := by
  refine Ev.intro (by decide) (Nat.le_of_ble_eq_true rfl) ?_
  intro X B hr hI
  have B : Bd E X cX9_init RX9 1 3 60 10 196 := B
  have hr : Rt E X none 10 196 (fun v_ w_ => ∃ ps : Nat, ∃ p : Nat, ∃ te : Nat, ∃ de : Nat, ∃ we : Nat, ∃ inp : Nat, ∃ ba : Nat, ∃ gu : Nat, ∃ md : Nat, ∃ mi : Nat, v_ = none ∧ w_ = [(w, .inr (9, [.ref ps, .ref md, .int 0, .int 0, .int 0, .int 0, .int 0, .int 0, .int 0, .int 0, .int 0, .int 0])), (ps, .inr (6, [.ref p, .ref we, .ref inp, .ref ba, .ref gu, .int 0, .int 0, .int 0])), (p, .inr (7, [.ref te, .ref de, .int 0])), (te, .inl (E.2.2.1 0, 8, .inl (fun _ => 0))), (de, .inl (E.2.2.1 0, 8, .inl (fun _ => 0))), (we, .inl (E.2.2.1 0, 16, .inl (fun _ => 0))), (inp, .inl (E.2.2.1 0, 128, .inl (fun _ => 0))), (ba, .inl (E.2.2.1 0, 8, .inl (fun _ => 0))), (gu, .inl (E.2.2.1 0, 8, .inl (fun _ => 0))), (md, .inr (5, [.ref mi, .long 0, .long 0])), (mi, .inl (E.2.2.1 3, 6, .inr (.inl (fun _ => 0))))]) := hr
  have hI : In X := hI rfl
  show G E X 1 [(w, .inr (9, [.null, .null, .int 0, .int 0, .int 0, .int 0, .int 0, .int 0, .int 0, .int 0, .int 0, .int 0]))] 0 0 [(0, .ref w)] 0 []
  refine g_aload_n B dX9_init_0 rfl 0 rfl ?_
  refine g_obj B w_mlo_X9_3 w_im_obj w_cd_obj (by decide) (Nat.le_of_ble_eq_true rfl) dX9_init_1 ?_
  refine g_aload_n B dX9_init_4 rfl 0 rfl ?_
  refine g_new (nc' := 1) (ns' := 8) (ws' := fun q_15 => [(w, .inr (9, [.null, .null, .int 0, .int 0, .int 0, .int 0, .int 0, .int 0, .int 0, .int 0, .int 0, .int 0])), (q_15, .inr (6, [.null, .null, .null, .null, .null, .int 0, .int 0, .int 0]))]) B nl_X9_9 rfl rfl (by decide) (by decide) (fun _ => rfl) dX9_init_5 (fun q_15 => ?_)
  refine g_dup B dX9_init_8 rfl ?_
  refine g_callI (st := [.ref q_15, .ref w]) (As := []) (wr := [(w, .inr (9, [.null, .null, .int 0, .int 0, .int 0, .int 0, .int 0, .int 0, .int 0, .int 0, .int 0, .int 0]))]) (nc' := 8) (ns' := 187) B cl_X9_11 w_im_X6_init rfl rfl (ev_X6_init E q_15 ) rfl [1] [0] rfl rfl (by decide) (by decide) (by decide) ⟨by decide, by decide⟩ rfl rfl (by decide) (by decide) rfl (Nat.le_of_ble_eq_true rfl) dX9_init_9 (fun v w hq => ?_)
  obtain ⟨p_16, te_17, de_18, we_19, inp_20, ba_21, gu_22, rfl, rfl⟩ := hq
  show G E X 1 [(w, .inr (9, [.null, .null, .int 0, .int 0, .int 0, .int 0, .int 0, .int 0, .int 0, .int 0, .int 0, .int 0])), (q_15, .inr (6, [.ref p_16, .ref we_19, .ref inp_20, .ref ba_21, .ref gu_22, .int 0, .int 0, .int 0])), (p_16, .inr (7, [.ref te_17, .ref de_18, .int 0])), (te_17, .inl (E.2.2.1 0, 8, .inl (fun _ => 0))), (de_18, .inl (E.2.2.1 0, 8, .inl (fun _ => 0))), (we_19, .inl (E.2.2.1 0, 16, .inl (fun _ => 0))), (inp_20, .inl (E.2.2.1 0, 128, .inl (fun _ => 0))), (ba_21, .inl (E.2.2.1 0, 8, .inl (fun _ => 0))), (gu_22, .inl (E.2.2.1 0, 8, .inl (fun _ => 0)))] 8 187 [(0, .ref w)] 12 [.ref q_15, .ref w]
  refine g_putF (ws' := [(w, .inr (9, [.ref q_15, .null, .int 0, .int 0, .int 0, .int 0, .int 0, .int 0, .int 0, .int 0, .int 0, .int 0])), (q_15, .inr (6, [.ref p_16, .ref we_19, .ref inp_20, .ref ba_21, .ref gu_22, .int 0, .int 0, .int 0])), (p_16, .inr (7, [.ref te_17, .ref de_18, .int 0])), (te_17, .inl (E.2.2.1 0, 8, .inl (fun _ => 0))), (de_18, .inl (E.2.2.1 0, 8, .inl (fun _ => 0))), (we_19, .inl (E.2.2.1 0, 16, .inl (fun _ => 0))), (inp_20, .inl (E.2.2.1 0, 128, .inl (fun _ => 0))), (ba_21, .inl (E.2.2.1 0, 8, .inl (fun _ => 0))), (gu_22, .inl (E.2.2.1 0, 8, .inl (fun _ => 0)))]) B hI 0 0 fl_X9_12 pf_X9_0 (fun q h => by cases h; rfl) rfl (Nat.le_of_ble_eq_true rfl) rfl rfl rfl dX9_init_12 ?_
  refine g_aload_n B dX9_init_15 rfl 0 rfl ?_
  refine g_new (nc' := 9) (ns' := 190) (ws' := fun q_24 => [(w, .inr (9, [.ref q_15, .null, .int 0, .int 0, .int 0, .int 0, .int 0, .int 0, .int 0, .int 0, .int 0, .int 0])), (q_15, .inr (6, [.ref p_16, .ref we_19, .ref inp_20, .ref ba_21, .ref gu_22, .int 0, .int 0, .int 0])), (p_16, .inr (7, [.ref te_17, .ref de_18, .int 0])), (te_17, .inl (E.2.2.1 0, 8, .inl (fun _ => 0))), (de_18, .inl (E.2.2.1 0, 8, .inl (fun _ => 0))), (we_19, .inl (E.2.2.1 0, 16, .inl (fun _ => 0))), (inp_20, .inl (E.2.2.1 0, 128, .inl (fun _ => 0))), (ba_21, .inl (E.2.2.1 0, 8, .inl (fun _ => 0))), (gu_22, .inl (E.2.2.1 0, 8, .inl (fun _ => 0))), (q_24, .inr (5, [.null, .long 0, .long 0]))]) B nl_X9_18 rfl rfl (by decide) (by decide) (fun _ => rfl) dX9_init_16 (fun q_24 => ?_)
  refine g_dup B dX9_init_19 rfl ?_
  refine g_callI (st := [.ref q_24, .ref w]) (As := []) (wr := [(w, .inr (9, [.ref q_15, .null, .int 0, .int 0, .int 0, .int 0, .int 0, .int 0, .int 0, .int 0, .int 0, .int 0])), (q_15, .inr (6, [.ref p_16, .ref we_19, .ref inp_20, .ref ba_21, .ref gu_22, .int 0, .int 0, .int 0])), (p_16, .inr (7, [.ref te_17, .ref de_18, .int 0])), (te_17, .inl (E.2.2.1 0, 8, .inl (fun _ => 0))), (de_18, .inl (E.2.2.1 0, 8, .inl (fun _ => 0))), (we_19, .inl (E.2.2.1 0, 16, .inl (fun _ => 0))), (inp_20, .inl (E.2.2.1 0, 128, .inl (fun _ => 0))), (ba_21, .inl (E.2.2.1 0, 8, .inl (fun _ => 0))), (gu_22, .inl (E.2.2.1 0, 8, .inl (fun _ => 0)))]) (nc' := 10) (ns' := 196) B cl_X9_20 w_im_X5_init rfl rfl (ev_X5_init E q_24 ) rfl [9] [0, 1, 2, 3, 4, 5, 6, 7, 8] rfl rfl (by decide) (by decide) (by decide) ⟨by decide, by decide⟩ rfl rfl (by decide) (by decide) rfl (Nat.le_of_ble_eq_true rfl) dX9_init_20 (fun v w hq => ?_)
  obtain ⟨mi_25, rfl, rfl⟩ := hq
  show G E X 1 [(w, .inr (9, [.ref q_15, .null, .int 0, .int 0, .int 0, .int 0, .int 0, .int 0, .int 0, .int 0, .int 0, .int 0])), (q_15, .inr (6, [.ref p_16, .ref we_19, .ref inp_20, .ref ba_21, .ref gu_22, .int 0, .int 0, .int 0])), (p_16, .inr (7, [.ref te_17, .ref de_18, .int 0])), (te_17, .inl (E.2.2.1 0, 8, .inl (fun _ => 0))), (de_18, .inl (E.2.2.1 0, 8, .inl (fun _ => 0))), (we_19, .inl (E.2.2.1 0, 16, .inl (fun _ => 0))), (inp_20, .inl (E.2.2.1 0, 128, .inl (fun _ => 0))), (ba_21, .inl (E.2.2.1 0, 8, .inl (fun _ => 0))), (gu_22, .inl (E.2.2.1 0, 8, .inl (fun _ => 0))), (q_24, .inr (5, [.ref mi_25, .long 0, .long 0])), (mi_25, .inl (E.2.2.1 3, 6, .inr (.inl (fun _ => 0))))] 10 196 [(0, .ref w)] 23 [.ref q_24, .ref w]
  refine g_putF (ws' := [(w, .inr (9, [.ref q_15, .ref q_24, .int 0, .int 0, .int 0, .int 0, .int 0, .int 0, .int 0, .int 0, .int 0, .int 0])), (q_15, .inr (6, [.ref p_16, .ref we_19, .ref inp_20, .ref ba_21, .ref gu_22, .int 0, .int 0, .int 0])), (p_16, .inr (7, [.ref te_17, .ref de_18, .int 0])), (te_17, .inl (E.2.2.1 0, 8, .inl (fun _ => 0))), (de_18, .inl (E.2.2.1 0, 8, .inl (fun _ => 0))), (we_19, .inl (E.2.2.1 0, 16, .inl (fun _ => 0))), (inp_20, .inl (E.2.2.1 0, 128, .inl (fun _ => 0))), (ba_21, .inl (E.2.2.1 0, 8, .inl (fun _ => 0))), (gu_22, .inl (E.2.2.1 0, 8, .inl (fun _ => 0))), (q_24, .inr (5, [.ref mi_25, .long 0, .long 0])), (mi_25, .inl (E.2.2.1 3, 6, .inr (.inl (fun _ => 0))))]) B hI 0 1 fl_X9_21 pf_X9_1 (fun q h => by cases h; rfl) rfl (Nat.le_of_ble_eq_true rfl) rfl rfl rfl dX9_init_23 ?_
  exact g_vret B hr dX9_init_26 (by decide) (by decide) ⟨q_15, p_16, te_17, de_18, we_19, inp_20, ba_21, gu_22, q_24, mi_25, rfl, rfl⟩
abbrev MX8_init : g_M := (yX8_init, cX8_init, 1, none)
theorem dX8_init_0 : decode cX8_init 0 = .ok (.aload_n 0, 1) := by decide +kernel
theorem dX8_init_1 : decode cX8_init 1 = .ok (.invokespecial 3, 3) := by decide +kernel
theorem w_mlo_X8_3 : Cond.methodLink RX8 3 objectInit ∈ g_tbl := g_tbl_in 145 (by decide +kernel) (by decide +kernel)
theorem dX8_init_4 : decode cX8_init 4 = .ok (.aload_n 0, 1) := by decide +kernel
theorem dX8_init_5 : decode cX8_init 5 = .ok (.sipush 1200, 3) := by decide +kernel
theorem dX8_init_8 : decode cX8_init 8 = .ok (.newarray .int, 2) := by decide +kernel
theorem dX8_init_10 : decode cX8_init 10 = .ok (.putfield 9, 3) := by decide +kernel
theorem w_fl_X8_9 : Cond.fieldLink RX8 9 (TX8 0).1 (TX8 0).2.1 (TX8 0).2.2.1 ∈ g_tbl := g_tbl_in 146 (by decide +kernel) (by decide +kernel)
set_option maxRecDepth 100000 in
theorem inX_X8 : ∀ w ∈ u_ws RX8 TX8 4, w ∈ g_tbl := by decide +kernel
theorem fl_X8_9 : FL RX8 9 8 0 := ⟨RX8, TX8, 4, rfl, by decide, inX_X8, w_fl_X8_9⟩
theorem pf_X8_0 : PF 8 0 (.array .int) true := fun C T N h => by cases h; exact ⟨⟨tyX8, tyX8_ok⟩, nmX8, by decide +kernel, rfl, rfl⟩
theorem dX8_init_13 : decode cX8_init 13 = .ok (.aload_n 0, 1) := by decide +kernel
theorem dX8_init_14 : decode cX8_init 14 = .ok (.sipush 1200, 3) := by decide +kernel
theorem dX8_init_17 : decode cX8_init 17 = .ok (.newarray .int, 2) := by decide +kernel
theorem dX8_init_19 : decode cX8_init 19 = .ok (.putfield 15, 3) := by decide +kernel
theorem w_fl_X8_15 : Cond.fieldLink RX8 15 (TX8 1).1 (TX8 1).2.1 (TX8 1).2.2.1 ∈ g_tbl := g_tbl_in 148 (by decide +kernel) (by decide +kernel)
theorem fl_X8_15 : FL RX8 15 8 1 := ⟨RX8, TX8, 4, rfl, by decide, inX_X8, w_fl_X8_15⟩
theorem pf_X8_1 : PF 8 1 (.array .int) true := fun C T N h => by cases h; exact ⟨⟨tyX8, tyX8_ok⟩, nmX8, by decide +kernel, rfl, rfl⟩
theorem dX8_init_22 : decode cX8_init 22 = .ok (.aload_n 0, 1) := by decide +kernel
theorem dX8_init_23 : decode cX8_init 23 = .ok (.sipush 1200, 3) := by decide +kernel
theorem dX8_init_26 : decode cX8_init 26 = .ok (.newarray .long, 2) := by decide +kernel
theorem dX8_init_28 : decode cX8_init 28 = .ok (.putfield 18, 3) := by decide +kernel
theorem w_fl_X8_18 : Cond.fieldLink RX8 18 (TX8 2).1 (TX8 2).2.1 (TX8 2).2.2.1 ∈ g_tbl := g_tbl_in 150 (by decide +kernel) (by decide +kernel)
theorem fl_X8_18 : FL RX8 18 8 2 := ⟨RX8, TX8, 4, rfl, by decide, inX_X8, w_fl_X8_18⟩
theorem pf_X8_2 : PF 8 2 (.array .long) true := fun C T N h => by cases h; exact ⟨⟨tyX8, tyX8_ok⟩, nmX8, by decide +kernel, rfl, rfl⟩
theorem dX8_init_31 : decode cX8_init 31 = .ok (.aload_n 0, 1) := by decide +kernel
theorem dX8_init_32 : decode cX8_init 32 = .ok (.sipush 1200, 3) := by decide +kernel
theorem dX8_init_35 : decode cX8_init 35 = .ok (.newarray .int, 2) := by decide +kernel
theorem dX8_init_37 : decode cX8_init 37 = .ok (.putfield 22, 3) := by decide +kernel
theorem w_fl_X8_22 : Cond.fieldLink RX8 22 (TX8 3).1 (TX8 3).2.1 (TX8 3).2.2.1 ∈ g_tbl := g_tbl_in 152 (by decide +kernel) (by decide +kernel)
theorem fl_X8_22 : FL RX8 22 8 3 := ⟨RX8, TX8, 4, rfl, by decide, inX_X8, w_fl_X8_22⟩
theorem pf_X8_3 : PF 8 3 (.array .int) true := fun C T N h => by cases h; exact ⟨⟨tyX8, tyX8_ok⟩, nmX8, by decide +kernel, rfl, rfl⟩
theorem dX8_init_40 : decode cX8_init 40 = .ok (.return_, 1) := by decide +kernel
set_option maxRecDepth 100000 in
set_option maxHeartbeats 4000000 in
theorem ev_X8_init (E : g_E) (sh : Nat)  : Ev E MX8_init 1 20 4 4800 [.ref sh] [(sh, .inr (8, [.null, .null, .null, .null]))] (fun v_ w_ => ∃ sv : Nat, ∃ sr : Nat, ∃ sl : Nat, ∃ sp : Nat, v_ = none ∧ w_ = [(sh, .inr (8, [.ref sv, .ref sr, .ref sl, .ref sp])), (sv, .inl (E.2.2.1 0, 1200, .inl (fun _ => 0))), (sr, .inl (E.2.2.1 0, 1200, .inl (fun _ => 0))), (sl, .inl (E.2.2.1 3, 1200, .inr (.inl (fun _ => 0)))), (sp, .inl (E.2.2.1 0, 1200, .inl (fun _ => 0)))]) := by
  refine Ev.intro (by decide) (Nat.le_of_ble_eq_true rfl) ?_
  intro X B hr hI
  have B : Bd E X cX8_init RX8 1 1 20 4 4800 := B
  have hr : Rt E X none 4 4800 (fun v_ w_ => ∃ sv : Nat, ∃ sr : Nat, ∃ sl : Nat, ∃ sp : Nat, v_ = none ∧ w_ = [(sh, .inr (8, [.ref sv, .ref sr, .ref sl, .ref sp])), (sv, .inl (E.2.2.1 0, 1200, .inl (fun _ => 0))), (sr, .inl (E.2.2.1 0, 1200, .inl (fun _ => 0))), (sl, .inl (E.2.2.1 3, 1200, .inr (.inl (fun _ => 0)))), (sp, .inl (E.2.2.1 0, 1200, .inl (fun _ => 0)))]) := hr
  have hI : In X := hI rfl
  show G E X 1 [(sh, .inr (8, [.null, .null, .null, .null]))] 0 0 [(0, .ref sh)] 0 []
  refine g_aload_n B dX8_init_0 rfl 0 rfl ?_
  refine g_obj B w_mlo_X8_3 w_im_obj w_cd_obj (by decide) (Nat.le_of_ble_eq_true rfl) dX8_init_1 ?_
  refine g_aload_n B dX8_init_4 rfl 0 rfl ?_
  refine g_sipush (v := 1200) B dX8_init_5 (by decide) ?_
  refine g_newa (ty := .int) (t0 := 0) (N := 1200) (nc' := 1) (ns' := 1200) (a0 := (1200, .inl (fun _ => 0))) (ws' := fun q_27 => [(sh, .inr (8, [.null, .null, .null, .null])), (q_27, .inl (E.2.2.1 0, 1200, .inl (fun _ => 0)))]) B w_ac_int rfl rfl rfl (fun _ => rfl) (by decide) (by decide) (by decide) rfl rfl (by decide) (by decide) (fun _ => rfl) dX8_init_8 (fun q_27 => ?_)
  refine g_putF (ws' := [(sh, .inr (8, [.ref q_27, .null, .null, .null])), (q_27, .inl (E.2.2.1 0, 1200, .inl (fun _ => 0)))]) B hI 0 0 fl_X8_9 pf_X8_0 (fun q h => by cases h; rfl) rfl (Nat.le_of_ble_eq_true rfl) rfl rfl rfl dX8_init_10 ?_
  refine g_aload_n B dX8_init_13 rfl 0 rfl ?_
  refine g_sipush (v := 1200) B dX8_init_14 (by decide) ?_
  refine g_newa (ty := .int) (t0 := 0) (N := 1200) (nc' := 2) (ns' := 2400) (a0 := (1200, .inl (fun _ => 0))) (ws' := fun q_28 => [(sh, .inr (8, [.ref q_27, .null, .null, .null])), (q_27, .inl (E.2.2.1 0, 1200, .inl (fun _ => 0))), (q_28, .inl (E.2.2.1 0, 1200, .inl (fun _ => 0)))]) B w_ac_int rfl rfl rfl (fun _ => rfl) (by decide) (by decide) (by decide) rfl rfl (by decide) (by decide) (fun _ => rfl) dX8_init_17 (fun q_28 => ?_)
  refine g_putF (ws' := [(sh, .inr (8, [.ref q_27, .ref q_28, .null, .null])), (q_27, .inl (E.2.2.1 0, 1200, .inl (fun _ => 0))), (q_28, .inl (E.2.2.1 0, 1200, .inl (fun _ => 0)))]) B hI 0 1 fl_X8_15 pf_X8_1 (fun q h => by cases h; rfl) rfl (Nat.le_of_ble_eq_true rfl) rfl rfl rfl dX8_init_19 ?_
  refine g_aload_n B dX8_init_22 rfl 0 rfl ?_
  refine g_sipush (v := 1200) B dX8_init_23 (by decide) ?_
  refine g_newa (ty := .long) (t0 := 3) (N := 1200) (nc' := 3) (ns' := 3600) (a0 := (1200, .inr (.inl (fun _ => 0)))) (ws' := fun q_29 => [(sh, .inr (8, [.ref q_27, .ref q_28, .null, .null])), (q_27, .inl (E.2.2.1 0, 1200, .inl (fun _ => 0))), (q_28, .inl (E.2.2.1 0, 1200, .inl (fun _ => 0))), (q_29, .inl (E.2.2.1 3, 1200, .inr (.inl (fun _ => 0))))]) B w_ac_long rfl rfl rfl (fun _ => rfl) (by decide) (by decide) (by decide) rfl rfl (by decide) (by decide) (fun _ => rfl) dX8_init_26 (fun q_29 => ?_)
  refine g_putF (ws' := [(sh, .inr (8, [.ref q_27, .ref q_28, .ref q_29, .null])), (q_27, .inl (E.2.2.1 0, 1200, .inl (fun _ => 0))), (q_28, .inl (E.2.2.1 0, 1200, .inl (fun _ => 0))), (q_29, .inl (E.2.2.1 3, 1200, .inr (.inl (fun _ => 0))))]) B hI 0 2 fl_X8_18 pf_X8_2 (fun q h => by cases h; rfl) rfl (Nat.le_of_ble_eq_true rfl) rfl rfl rfl dX8_init_28 ?_
  refine g_aload_n B dX8_init_31 rfl 0 rfl ?_
  refine g_sipush (v := 1200) B dX8_init_32 (by decide) ?_
  refine g_newa (ty := .int) (t0 := 0) (N := 1200) (nc' := 4) (ns' := 4800) (a0 := (1200, .inl (fun _ => 0))) (ws' := fun q_30 => [(sh, .inr (8, [.ref q_27, .ref q_28, .ref q_29, .null])), (q_27, .inl (E.2.2.1 0, 1200, .inl (fun _ => 0))), (q_28, .inl (E.2.2.1 0, 1200, .inl (fun _ => 0))), (q_29, .inl (E.2.2.1 3, 1200, .inr (.inl (fun _ => 0)))), (q_30, .inl (E.2.2.1 0, 1200, .inl (fun _ => 0)))]) B w_ac_int rfl rfl rfl (fun _ => rfl) (by decide) (by decide) (by decide) rfl rfl (by decide) (by decide) (fun _ => rfl) dX8_init_35 (fun q_30 => ?_)
  refine g_putF (ws' := [(sh, .inr (8, [.ref q_27, .ref q_28, .ref q_29, .ref q_30])), (q_27, .inl (E.2.2.1 0, 1200, .inl (fun _ => 0))), (q_28, .inl (E.2.2.1 0, 1200, .inl (fun _ => 0))), (q_29, .inl (E.2.2.1 3, 1200, .inr (.inl (fun _ => 0)))), (q_30, .inl (E.2.2.1 0, 1200, .inl (fun _ => 0)))]) B hI 0 3 fl_X8_22 pf_X8_3 (fun q h => by cases h; rfl) rfl (Nat.le_of_ble_eq_true rfl) rfl rfl rfl dX8_init_37 ?_
  exact g_vret B hr dX8_init_40 (by decide) (by decide) ⟨q_27, q_28, q_29, q_30, rfl, rfl⟩
