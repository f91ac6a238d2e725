abbrev MX2_init : g_M := (yX2_init, cX2_init, 2, none)
theorem dX2_init_0 : decode cX2_init 0 = .ok (.aload_n 0, 1) := by decide +kernel
theorem dX2_init_1 : decode cX2_init 1 = .ok (.invokespecial 3, 3) := by decide +kernel
theorem w_im_obj : Cond.instanceMethod objectInit ∈ g_tbl := g_tbl_in 91 (by decide +kernel) (by decide +kernel)
theorem w_cd_obj : Cond.code objectInit ⟨#[0xb1]⟩ 1 none ∈ g_tbl := g_tbl_in 92 (by decide +kernel) (by decide +kernel)
theorem w_mlo_X2_3 : Cond.methodLink RX2 3 objectInit ∈ g_tbl := g_tbl_in 123 (by decide +kernel) (by decide +kernel)
theorem dX2_init_4 : decode cX2_init 4 = .ok (.aload_n 0, 1) := by decide +kernel
theorem dX2_init_5 : decode cX2_init 5 = .ok (.iconst 0, 1) := by decide +kernel
theorem dX2_init_6 : decode cX2_init 6 = .ok (.iload_n 1, 1) := by decide +kernel
theorem dX2_init_7 : decode cX2_init 7 = .ok (.invokestatic 9, 3) := by decide +kernel
theorem w_mlm_X2_9 : Cond.methodLink RX2 9 Lib.Math.max.name ∈ g_tbl := g_tbl_in 124 (by decide +kernel) (by decide +kernel)
theorem w_smm_max_II_I : Cond.static Lib.Math.max.name ∈ g_tbl := g_tbl_in 125 (by decide +kernel) (by decide +kernel)
theorem w_ini_Math : Cond.initialized "java/lang/Math" ∈ g_tbl := g_tbl_in 71 (by decide +kernel) (by decide +kernel)
theorem w_cdm_max_II_I : Cond.code Lib.Math.max.name Lib.Math.max.code 2 (some .int) ∈ g_tbl := g_tbl_in 126 (by decide +kernel) (by decide +kernel)
theorem dX2_init_10 : decode cX2_init 10 = .ok (.newarray .byte, 2) := by decide +kernel
theorem w_ac_byte : Cond.arrayClass .byte ∈ g_tbl := g_tbl_in 139 (by decide +kernel) (by decide +kernel)
theorem dX2_init_12 : decode cX2_init 12 = .ok (.putfield 15, 3) := by decide +kernel
theorem w_fl_X2_15 : Cond.fieldLink RX2 15 (TX2 0).1 (TX2 0).2.1 (TX2 0).2.2.1 ∈ g_tbl := g_tbl_in 127 (by decide +kernel) (by decide +kernel)
set_option maxRecDepth 100000 in
theorem inX_X2 : ∀ w ∈ u_ws RX2 TX2 2, w ∈ g_tbl := by decide +kernel
theorem fl_X2_15 : FL RX2 15 2 0 := ⟨RX2, TX2, 2, rfl, by decide, inX_X2, w_fl_X2_15⟩
theorem pf_X2_0 : PF 2 0 (.array .byte) true := fun C T N h => by cases h; exact ⟨⟨tyX2, tyX2_ok⟩, nmX2, by decide +kernel, rfl, rfl⟩
theorem dX2_init_15 : decode cX2_init 15 = .ok (.aload_n 0, 1) := by decide +kernel
theorem dX2_init_16 : decode cX2_init 16 = .ok (.iconst 0, 1) := by decide +kernel
theorem dX2_init_17 : decode cX2_init 17 = .ok (.putfield 21, 3) := by decide +kernel
theorem w_fl_X2_21 : Cond.fieldLink RX2 21 (TX2 1).1 (TX2 1).2.1 (TX2 1).2.2.1 ∈ g_tbl := g_tbl_in 130 (by decide +kernel) (by decide +kernel)
theorem fl_X2_21 : FL RX2 21 2 1 := ⟨RX2, TX2, 2, rfl, by decide, inX_X2, w_fl_X2_21⟩
theorem pf_X2_1 : PF 2 1 .int false := fun C T N h => by cases h; exact ⟨⟨tyX2, tyX2_ok⟩, nmX2, by decide +kernel, rfl, rfl⟩
theorem dX2_init_20 : decode cX2_init 20 = .ok (.return_, 1) := by decide +kernel
set_option maxRecDepth 100000 in
set_option maxHeartbeats 4000000 in
theorem ev_X2_init_6000 (E : g_E) (t : Nat)  : Ev E MX2_init 1 23 1 6000 [.ref t, .int 6000] [(t, .inr (2, [.null, .int 0]))] (fun v w => ∃ q : Nat, v = none ∧ w = [(t, .inr (2, [.ref q, .int 0])), (q, .inl (E.2.2.1 1, 6000, .inl (fun _ => 0)))]) := by
  refine Ev.intro (by decide) (Nat.le_of_ble_eq_true rfl) ?_
  intro X B hr hI
  have B : Bd E X cX2_init RX2 2 1 23 1 6000 := B
  have hr : Rt E X none 1 6000 (fun v w => ∃ q : Nat, v = none ∧ w = [(t, .inr (2, [.ref q, .int 0])), (q, .inl (E.2.2.1 1, 6000, .inl (fun _ => 0)))]) := hr
  have hI : In X := hI rfl
  show G E X 2 [(t, .inr (2, [.null, .int 0]))] 0 0 [(0, .ref t), (1, .int 6000)] 0 []
  refine g_aload_n B dX2_init_0 rfl 0 rfl ?_
  refine g_obj B w_mlo_X2_3 w_im_obj w_cd_obj (by decide) (Nat.le_of_ble_eq_true rfl) dX2_init_1 ?_
  refine g_aload_n B dX2_init_4 rfl 0 rfl ?_
  refine g_iconst (v := 0) B dX2_init_5 (by decide) ?_
  refine g_iload_n B dX2_init_6 rfl 1 rfl ?_
  refine g_mmax B w_mlm_X2_9 w_smm_max_II_I w_ini_Math w_cdm_max_II_I (by decide) (Nat.le_of_ble_eq_true rfl) (by decide) (by decide) dX2_init_7 ?_
  refine g_ri (x' := 6000) (by decide) ?_
  refine g_newa (ty := .byte) (t0 := 1) (N := 6000) (nc' := 1) (ns' := 6000) (a0 := (6000, .inl (fun _ => 0))) (ws' := fun q_1 => [(t, .inr (2, [.null, .int 0])), (q_1, .inl (E.2.2.1 1, 6000, .inl (fun _ => 0)))]) B w_ac_byte rfl rfl rfl (fun _ => rfl) (by decide) (by decide) (by decide) rfl rfl (by decide) (by decide) (fun _ => rfl) dX2_init_10 (fun q_1 => ?_)
  refine g_putF (ws' := [(t, .inr (2, [.ref q_1, .int 0])), (q_1, .inl (E.2.2.1 1, 6000, .inl (fun _ => 0)))]) B hI 0 0 fl_X2_15 pf_X2_0 (fun q h => by cases h; rfl) rfl (Nat.le_of_ble_eq_true rfl) rfl rfl rfl dX2_init_12 ?_
  refine g_aload_n B dX2_init_15 rfl 0 rfl ?_
  refine g_iconst (v := 0) B dX2_init_16 (by decide) ?_
  refine g_put (ws' := [(t, .inr (2, [.ref q_1, .int 0])), (q_1, .inl (E.2.2.1 1, 6000, .inl (fun _ => 0)))]) B 0 1 fl_X2_21 pf_X2_1 rfl (Nat.le_of_ble_eq_true rfl) rfl rfl rfl dX2_init_17 ?_
  exact g_vret B hr dX2_init_20 (by decide) (by decide) ⟨q_1, rfl, rfl⟩
set_option maxRecDepth 100000 in
set_option maxHeartbeats 4000000 in
theorem ev_X2_init_9600 (E : g_E) (t : Nat)  : Ev E MX2_init 1 23 1 9600 [.ref t, .int 9600] [(t, .inr (2, [.null, .int 0]))] (fun v w => ∃ q : Nat, v = none ∧ w = [(t, .inr (2, [.ref q, .int 0])), (q, .inl (E.2.2.1 1, 9600, .inl (fun _ => 0)))]) := by
  refine Ev.intro (by decide) (Nat.le_of_ble_eq_true rfl) ?_
  intro X B hr hI
  have B : Bd E X cX2_init RX2 2 1 23 1 9600 := B
  have hr : Rt E X none 1 9600 (fun v w => ∃ q : Nat, v = none ∧ w = [(t, .inr (2, [.ref q, .int 0])), (q, .inl (E.2.2.1 1, 9600, .inl (fun _ => 0)))]) := hr
  have hI : In X := hI rfl
  show G E X 2 [(t, .inr (2, [.null, .int 0]))] 0 0 [(0, .ref t), (1, .int 9600)] 0 []
  refine g_aload_n B dX2_init_0 rfl 0 rfl ?_
  refine g_obj B w_mlo_X2_3 w_im_obj w_cd_obj (by decide) (Nat.le_of_ble_eq_true rfl) dX2_init_1 ?_
  refine g_aload_n B dX2_init_4 rfl 0 rfl ?_
  refine g_iconst (v := 0) B dX2_init_5 (by decide) ?_
  refine g_iload_n B dX2_init_6 rfl 1 rfl ?_
  refine g_mmax B w_mlm_X2_9 w_smm_max_II_I w_ini_Math w_cdm_max_II_I (by decide) (Nat.le_of_ble_eq_true rfl) (by decide) (by decide) dX2_init_7 ?_
  refine g_ri (x' := 9600) (by decide) ?_
  refine g_newa (ty := .byte) (t0 := 1) (N := 9600) (nc' := 1) (ns' := 9600) (a0 := (9600, .inl (fun _ => 0))) (ws' := fun q_2 => [(t, .inr (2, [.null, .int 0])), (q_2, .inl (E.2.2.1 1, 9600, .inl (fun _ => 0)))]) B w_ac_byte rfl rfl rfl (fun _ => rfl) (by decide) (by decide) (by decide) rfl rfl (by decide) (by decide) (fun _ => rfl) dX2_init_10 (fun q_2 => ?_)
  refine g_putF (ws' := [(t, .inr (2, [.ref q_2, .int 0])), (q_2, .inl (E.2.2.1 1, 9600, .inl (fun _ => 0)))]) B hI 0 0 fl_X2_15 pf_X2_0 (fun q h => by cases h; rfl) rfl (Nat.le_of_ble_eq_true rfl) rfl rfl rfl dX2_init_12 ?_
  refine g_aload_n B dX2_init_15 rfl 0 rfl ?_
  refine g_iconst (v := 0) B dX2_init_16 (by decide) ?_
  refine g_put (ws' := [(t, .inr (2, [.ref q_2, .int 0])), (q_2, .inl (E.2.2.1 1, 9600, .inl (fun _ => 0)))]) B 0 1 fl_X2_21 pf_X2_1 rfl (Nat.le_of_ble_eq_true rfl) rfl rfl rfl dX2_init_17 ?_
  exact g_vret B hr dX2_init_20 (by decide) (by decide) ⟨q_2, rfl, rfl⟩
set_option maxRecDepth 100000 in
set_option maxHeartbeats 4000000 in
theorem ev_X2_init_2450 (E : g_E) (t : Nat)  : Ev E MX2_init 1 23 1 2450 [.ref t, .int 2450] [(t, .inr (2, [.null, .int 0]))] (fun v w => ∃ q : Nat, v = none ∧ w = [(t, .inr (2, [.ref q, .int 0])), (q, .inl (E.2.2.1 1, 2450, .inl (fun _ => 0)))]) := by
  refine Ev.intro (by decide) (Nat.le_of_ble_eq_true rfl) ?_
  intro X B hr hI
  have B : Bd E X cX2_init RX2 2 1 23 1 2450 := B
  have hr : Rt E X none 1 2450 (fun v w => ∃ q : Nat, v = none ∧ w = [(t, .inr (2, [.ref q, .int 0])), (q, .inl (E.2.2.1 1, 2450, .inl (fun _ => 0)))]) := hr
  have hI : In X := hI rfl
  show G E X 2 [(t, .inr (2, [.null, .int 0]))] 0 0 [(0, .ref t), (1, .int 2450)] 0 []
  refine g_aload_n B dX2_init_0 rfl 0 rfl ?_
  refine g_obj B w_mlo_X2_3 w_im_obj w_cd_obj (by decide) (Nat.le_of_ble_eq_true rfl) dX2_init_1 ?_
  refine g_aload_n B dX2_init_4 rfl 0 rfl ?_
  refine g_iconst (v := 0) B dX2_init_5 (by decide) ?_
  refine g_iload_n B dX2_init_6 rfl 1 rfl ?_
  refine g_mmax B w_mlm_X2_9 w_smm_max_II_I w_ini_Math w_cdm_max_II_I (by decide) (Nat.le_of_ble_eq_true rfl) (by decide) (by decide) dX2_init_7 ?_
  refine g_ri (x' := 2450) (by decide) ?_
  refine g_newa (ty := .byte) (t0 := 1) (N := 2450) (nc' := 1) (ns' := 2450) (a0 := (2450, .inl (fun _ => 0))) (ws' := fun q_3 => [(t, .inr (2, [.null, .int 0])), (q_3, .inl (E.2.2.1 1, 2450, .inl (fun _ => 0)))]) B w_ac_byte rfl rfl rfl (fun _ => rfl) (by decide) (by decide) (by decide) rfl rfl (by decide) (by decide) (fun _ => rfl) dX2_init_10 (fun q_3 => ?_)
  refine g_putF (ws' := [(t, .inr (2, [.ref q_3, .int 0])), (q_3, .inl (E.2.2.1 1, 2450, .inl (fun _ => 0)))]) B hI 0 0 fl_X2_15 pf_X2_0 (fun q h => by cases h; rfl) rfl (Nat.le_of_ble_eq_true rfl) rfl rfl rfl dX2_init_12 ?_
  refine g_aload_n B dX2_init_15 rfl 0 rfl ?_
  refine g_iconst (v := 0) B dX2_init_16 (by decide) ?_
  refine g_put (ws' := [(t, .inr (2, [.ref q_3, .int 0])), (q_3, .inl (E.2.2.1 1, 2450, .inl (fun _ => 0)))]) B 0 1 fl_X2_21 pf_X2_1 rfl (Nat.le_of_ble_eq_true rfl) rfl rfl rfl dX2_init_17 ?_
  exact g_vret B hr dX2_init_20 (by decide) (by decide) ⟨q_3, rfl, rfl⟩
