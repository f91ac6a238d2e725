abbrev MX11_step : g_M := (yX11_step, cX11_step, 3, (some .long))
theorem dX11_step_0 : decode cX11_step 0 = .ok (.aload_n 0, 1) := by decide +kernel
theorem dX11_step_1 : decode cX11_step 1 = .ok (.getfield 66, 3) := by decide +kernel
theorem dX11_step_4 : decode cX11_step 4 = .ok (.iconst 3, 1) := by decide +kernel
theorem dX11_step_5 : decode cX11_step 5 = .ok (.iload_n 1, 1) := by decide +kernel
theorem dX11_step_6 : decode cX11_step 6 = .ok (.imul, 1) := by decide +kernel
theorem dX11_step_7 : decode cX11_step 7 = .ok (.iload_n 2, 1) := by decide +kernel
theorem dX11_step_8 : decode cX11_step 8 = .ok (.iadd, 1) := by decide +kernel
theorem dX11_step_9 : decode cX11_step 9 = .ok (.laload, 1) := by decide +kernel
theorem dX11_step_10 : decode cX11_step 10 = .ok (.iconst 4, 1) := by decide +kernel
theorem dX11_step_11 : decode cX11_step 11 = .ok (.lshr, 1) := by decide +kernel
theorem dX11_step_12 : decode cX11_step 12 = .ok (.lconst 1, 1) := by decide +kernel
theorem dX11_step_13 : decode cX11_step 13 = .ok (.ladd, 1) := by decide +kernel
theorem dX11_step_14 : decode cX11_step 14 = .ok (.lreturn, 1) := by decide +kernel
set_option maxRecDepth 100000 in
set_option maxHeartbeats 4000000 in
theorem wr_X11_step_0 (E : g_E) (m : Nat) (r : Nat → Nat) (m_1 : Nat) (m_4 : Nat) (m_9 : Nat) (m_10 : Nat) (m_14 : Nat) (m_15 : Nat) (m_25 : Int32) (m_26 : Int32) (m_27 : Int64) (m_28 : Nat) (m_29 : Nat) (m_31 : Nat) (m_32 : Nat) (m_33 : Nat) (m_35 : Nat) (m_36 : Nat) (m_37 : Int32) (m_38 : Nat) (m_39 : Int32) (m_40 : Int32) (m_42 : Nat) (r24_f : Nat → Nat) (ch : Nat) (h0 : ch < 2) (ha0 : ∀ j, j < 6 → r24_f j ≤ 40000000000) : Ev E MX11_step 0 0 0 0 [.ref m, .int (nI ch), .int 0] [(m, .inr (11, mkF r m_1 m_4 m_9 m_10 m_14 m_15 m_25 m_26 m_27 m_28 m_29 m_31 m_32 m_33 m_35 m_36 m_37 m_38 m_39 m_40 m_42)), ((r 24), .inl (E.2.2.1 3, 6, .inr (.inl (lM r24_f))))] (fun v_ w_ => (r24_f ((3 * ch) + 0) ≤ 40000000000) ∧ v_ = some (.long (lN (r24_f ((3 * ch) + 0) / 16 + 1))) ∧ w_ = [(m, .inr (11, mkF r m_1 m_4 m_9 m_10 m_14 m_15 m_25 m_26 m_27 m_28 m_29 m_31 m_32 m_33 m_35 m_36 m_37 m_38 m_39 m_40 m_42)), ((r 24), .inl (E.2.2.1 3, 6, .inr (.inl (lM r24_f))))]) := by
  refine Ev.intro (by decide) (Nat.le_of_ble_eq_true rfl) ?_
  intro X B hr hI
  have B : Bd E X cX11_step RX11 3 0 0 0 0 := B
  have hr : Rt E X (some .long) 0 0 (fun v_ w_ => (r24_f ((3 * ch) + 0) ≤ 40000000000) ∧ v_ = some (.long (lN (r24_f ((3 * ch) + 0) / 16 + 1))) ∧ w_ = [(m, .inr (11, mkF r m_1 m_4 m_9 m_10 m_14 m_15 m_25 m_26 m_27 m_28 m_29 m_31 m_32 m_33 m_35 m_36 m_37 m_38 m_39 m_40 m_42)), ((r 24), .inl (E.2.2.1 3, 6, .inr (.inl (lM r24_f))))]) := hr
  show G E X 3 [(m, .inr (11, mkF r m_1 m_4 m_9 m_10 m_14 m_15 m_25 m_26 m_27 m_28 m_29 m_31 m_32 m_33 m_35 m_36 m_37 m_38 m_39 m_40 m_42)), ((r 24), .inl (E.2.2.1 3, 6, .inr (.inl (lM r24_f))))] 0 0 [(0, .ref m), (1, .int (nI ch)), (2, .int 0)] 0 []
  refine g_aload_n B dX11_step_0 rfl 0 rfl ?_
  refine g_get B 0 24 fl_X11_66 rfl mf_24 dX11_step_1 ?_
  refine g_iconst (v := 3) B dX11_step_4 (by decide) ?_
  refine g_iload_n B dX11_step_5 rfl 1 rfl ?_
  refine g_imul B dX11_step_6 ?_
  refine g_ri (x' := nI (3 * ch)) (pk_mul 3 ch) ?_
  refine g_iload_n B dX11_step_7 rfl 2 rfl ?_
  refine g_iadd B dX11_step_8 ?_
  refine g_ri (x' := nI ((3 * ch) + 0)) (nI_add (3 * ch) 0) ?_
  refine g_lald B 1 rfl (vp_in_nI (by omega) (by omega)) dX11_step_9 ?_
  refine g_rl (x' := lN (r24_f ((3 * ch) + 0))) (lM_at (f := r24_f) (i := ((3 * ch) + 0)) (by omega)) ?_
  have ha_2206 := ha0 ((3 * ch) + 0) (by omega)
  refine g_iconst (v := 4) B dX11_step_10 (by decide) ?_
  refine g_lshr B dX11_step_11 ?_
  refine g_rl (x' := lN ((r24_f ((3 * ch) + 0)) / 16)) (pf_shr (a := (r24_f ((3 * ch) + 0))) (d := 4) (by decide) (by omega)) ?_
  refine g_lconst (v := 1) B dX11_step_12 (by decide) ?_
  refine g_ladd B dX11_step_13 ?_
  refine g_rl (x' := lN (((r24_f ((3 * ch) + 0)) / 16) + 1)) (lN_add ((r24_f ((3 * ch) + 0)) / 16) 1) ?_
  exact g_lret B hr dX11_step_14 (by decide) (by decide) ⟨(by first | assumption | omega | decide | exact hCF _ (by omega)), rfl, rfl⟩
abbrev MX11_rises : g_M := (yX11_rises, cX11_rises, 5, none)
theorem dX11_rises_0 : decode cX11_rises 0 = .ok (.sipush 128, 3) := by decide +kernel
theorem dX11_rises_3 : decode cX11_rises 3 = .ok (.iload_n 2, 1) := by decide +kernel
theorem dX11_rises_4 : decode cX11_rises 4 = .ok (.ishr, 1) := by decide +kernel
theorem dX11_rises_5 : decode cX11_rises 5 = .ok (.i2l, 1) := by decide +kernel
theorem dX11_rises_6 : decode cX11_rises 6 = .ok (.lstore_n 3, 1) := by decide +kernel
theorem dX11_rises_7 : decode cX11_rises 7 = .ok (.aload_n 0, 1) := by decide +kernel
theorem dX11_rises_8 : decode cX11_rises 8 = .ok (.getfield 66, 3) := by decide +kernel
theorem dX11_rises_11 : decode cX11_rises 11 = .ok (.iconst 3, 1) := by decide +kernel
theorem dX11_rises_12 : decode cX11_rises 12 = .ok (.iload_n 1, 1) := by decide +kernel
theorem dX11_rises_13 : decode cX11_rises 13 = .ok (.imul, 1) := by decide +kernel
theorem dX11_rises_14 : decode cX11_rises 14 = .ok (.iload_n 2, 1) := by decide +kernel
theorem dX11_rises_15 : decode cX11_rises 15 = .ok (.iadd, 1) := by decide +kernel
theorem dX11_rises_16 : decode cX11_rises 16 = .ok (.dup2, 1) := by decide +kernel
theorem dX11_rises_17 : decode cX11_rises 17 = .ok (.laload, 1) := by decide +kernel
theorem dX11_rises_18 : decode cX11_rises 18 = .ok (.aload_n 0, 1) := by decide +kernel
theorem dX11_rises_19 : decode cX11_rises 19 = .ok (.getfield 66, 3) := by decide +kernel
theorem dX11_rises_22 : decode cX11_rises 22 = .ok (.iconst 3, 1) := by decide +kernel
theorem dX11_rises_23 : decode cX11_rises 23 = .ok (.iload_n 1, 1) := by decide +kernel
theorem dX11_rises_24 : decode cX11_rises 24 = .ok (.imul, 1) := by decide +kernel
theorem dX11_rises_25 : decode cX11_rises 25 = .ok (.iload_n 2, 1) := by decide +kernel
theorem dX11_rises_26 : decode cX11_rises 26 = .ok (.iadd, 1) := by decide +kernel
theorem dX11_rises_27 : decode cX11_rises 27 = .ok (.laload, 1) := by decide +kernel
theorem dX11_rises_28 : decode cX11_rises 28 = .ok (.lload_n 3, 1) := by decide +kernel
theorem dX11_rises_29 : decode cX11_rises 29 = .ok (.ladd, 1) := by decide +kernel
theorem dX11_rises_30 : decode cX11_rises 30 = .ok (.lload_n 3, 1) := by decide +kernel
theorem dX11_rises_31 : decode cX11_rises 31 = .ok (.ldiv, 1) := by decide +kernel
theorem dX11_rises_32 : decode cX11_rises 32 = .ok (.ldc2_w 130, 3) := by decide +kernel
theorem w_k_X11_130 : Cond.constantLong RX11 130 5 ∈ g_tbl := g_tbl_in 1148 (by decide +kernel) (by decide +kernel)
theorem dX11_rises_35 : decode cX11_rises 35 = .ok (.lmul, 1) := by decide +kernel
theorem dX11_rises_36 : decode cX11_rises 36 = .ok (.ladd, 1) := by decide +kernel
theorem dX11_rises_37 : decode cX11_rises 37 = .ok (.lastore, 1) := by decide +kernel
theorem dX11_rises_38 : decode cX11_rises 38 = .ok (.return_, 1) := by decide +kernel
set_option maxRecDepth 100000 in
def fn_wr_X11_rises_0 (r24_f : Nat → Nat) (ch : Nat) (β : Type) (k_ : (Nat → Nat) → β) : β := (k_ (updN r24_f ((3 * ch) + 0) ((r24_f ((3 * ch) + 0)) + ((((r24_f ((3 * ch) + 0)) + 128) / 128) * 5))))
set_option maxRecDepth 100000 in
theorem fn_wr_X11_rises_0_s {r24_f : Nat → Nat} {ch : Nat} {β : Type} {k_ : (Nat → Nat) → β} : fn_wr_X11_rises_0 r24_f ch β k_ = (k_ (updN r24_f ((3 * ch) + 0) ((r24_f ((3 * ch) + 0)) + ((((r24_f ((3 * ch) + 0)) + 128) / 128) * 5)))) := rfl
set_option maxRecDepth 100000 in
set_option maxHeartbeats 4000000 in
theorem wr_X11_rises_0 (E : g_E) (m : Nat) (r : Nat → Nat) (m_1 : Nat) (m_4 : Nat) (m_9 : Nat) (m_10 : Nat) (m_14 : Nat) (m_15 : Nat) (m_25 : Int32) (m_26 : Int32) (m_27 : Int64) (m_28 : Nat) (m_29 : Nat) (m_31 : Nat) (m_32 : Nat) (m_33 : Nat) (m_35 : Nat) (m_36 : Nat) (m_37 : Int32) (m_38 : Nat) (m_39 : Int32) (m_40 : Int32) (m_42 : Nat) (r24_f : Nat → Nat) (ch : Nat) (h0 : ch < 2) (h1 : r24_f ((3 * ch) + 0) ≤ 34359738368) (ha0 : ∀ j, j < 6 → r24_f j ≤ 40000000000) : Ev E MX11_rises 0 0 0 0 [.ref m, .int (nI ch), .int 0] [(m, .inr (11, mkF r m_1 m_4 m_9 m_10 m_14 m_15 m_25 m_26 m_27 m_28 m_29 m_31 m_32 m_33 m_35 m_36 m_37 m_38 m_39 m_40 m_42)), ((r 24), .inl (E.2.2.1 3, 6, .inr (.inl (lM r24_f))))] (fun v_ w_ => ∃ zr24_f : Nat → Nat, (∀ j, j < 6 → zr24_f j ≤ 40000000000) ∧ (∀ i, ¬ i = ((3 * ch) + 0) → zr24_f i = r24_f i) ∧ (∀ (β : Type) (k_ : (Nat → Nat) → β), fn_wr_X11_rises_0 r24_f ch β k_ = k_ zr24_f) ∧ v_ = none ∧ w_ = [(m, .inr (11, mkF r m_1 m_4 m_9 m_10 m_14 m_15 m_25 m_26 m_27 m_28 m_29 m_31 m_32 m_33 m_35 m_36 m_37 m_38 m_39 m_40 m_42)), ((r 24), .inl (E.2.2.1 3, 6, .inr (.inl (lM zr24_f))))]) := by
  refine Ev.intro (by decide) (Nat.le_of_ble_eq_true rfl) ?_
  intro X B hr hI
  have B : Bd E X cX11_rises RX11 5 0 0 0 0 := B
  have hr : Rt E X none 0 0 (fun v_ w_ => ∃ zr24_f : Nat → Nat, (∀ j, j < 6 → zr24_f j ≤ 40000000000) ∧ (∀ i, ¬ i = ((3 * ch) + 0) → zr24_f i = r24_f i) ∧ (∀ (β : Type) (k_ : (Nat → Nat) → β), fn_wr_X11_rises_0 r24_f ch β k_ = k_ zr24_f) ∧ v_ = none ∧ w_ = [(m, .inr (11, mkF r m_1 m_4 m_9 m_10 m_14 m_15 m_25 m_26 m_27 m_28 m_29 m_31 m_32 m_33 m_35 m_36 m_37 m_38 m_39 m_40 m_42)), ((r 24), .inl (E.2.2.1 3, 6, .inr (.inl (lM zr24_f))))]) := hr
  have e_ := fun (β : Type) (k_ : (Nat → Nat) → β) => fn_wr_X11_rises_0_s (β := β) (k_ := k_) (r24_f := r24_f) (ch := ch)
  show G E X 5 [(m, .inr (11, mkF r m_1 m_4 m_9 m_10 m_14 m_15 m_25 m_26 m_27 m_28 m_29 m_31 m_32 m_33 m_35 m_36 m_37 m_38 m_39 m_40 m_42)), ((r 24), .inl (E.2.2.1 3, 6, .inr (.inl (lM r24_f))))] 0 0 [(0, .ref m), (1, .int (nI ch)), (2, .int 0)] 0 []
  refine g_sipush (v := 128) B dX11_rises_0 (by decide) ?_
  refine g_iload_n B dX11_rises_3 rfl 2 rfl ?_
  refine g_ishr B dX11_rises_4 ?_
  refine g_ri (x' := 128) (by decide) ?_
  refine g_i2l B dX11_rises_5 ?_
  refine g_rl (x' := 128) (by decide) ?_
  refine g_lstore_n (lv' := [(3, .long 128), (0, .ref m), (1, .int (nI ch)), (2, .int 0)]) B dX11_rises_6 rfl (by decide) rfl ?_
  refine g_aload_n B dX11_rises_7 rfl 1 rfl ?_
  refine g_get B 0 24 fl_X11_66 rfl mf_24 dX11_rises_8 ?_
  refine g_iconst (v := 3) B dX11_rises_11 (by decide) ?_
  refine g_iload_n B dX11_rises_12 rfl 2 rfl ?_
  refine g_imul B dX11_rises_13 ?_
  refine g_ri (x' := nI (3 * ch)) (pk_mul 3 ch) ?_
  refine g_iload_n B dX11_rises_14 rfl 3 rfl ?_
  refine g_iadd B dX11_rises_15 ?_
  refine g_ri (x' := nI ((3 * ch) + 0)) (nI_add (3 * ch) 0) ?_
  refine g_dup2_11 B dX11_rises_16 rfl rfl ?_
  refine g_lald B 1 rfl (vp_in_nI (by omega) (by omega)) dX11_rises_17 ?_
  refine g_rl (x' := lN (r24_f ((3 * ch) + 0))) (lM_at (f := r24_f) (i := ((3 * ch) + 0)) (by omega)) ?_
  have ha_2207 := ha0 ((3 * ch) + 0) (by omega)
  refine g_aload_n B dX11_rises_18 rfl 1 rfl ?_
  refine g_get B 0 24 fl_X11_66 rfl mf_24 dX11_rises_19 ?_
  refine g_iconst (v := 3) B dX11_rises_22 (by decide) ?_
  refine g_iload_n B dX11_rises_23 rfl 2 rfl ?_
  refine g_imul B dX11_rises_24 ?_
  refine g_ri (x' := nI (3 * ch)) (pk_mul 3 ch) ?_
  refine g_iload_n B dX11_rises_25 rfl 3 rfl ?_
  refine g_iadd B dX11_rises_26 ?_
  refine g_ri (x' := nI ((3 * ch) + 0)) (nI_add (3 * ch) 0) ?_
  refine g_lald B 1 rfl (vp_in_nI (by omega) (by omega)) dX11_rises_27 ?_
  refine g_rl (x' := lN (r24_f ((3 * ch) + 0))) (lM_at (f := r24_f) (i := ((3 * ch) + 0)) (by omega)) ?_
  have ha_2208 := ha0 ((3 * ch) + 0) (by omega)
  refine g_lload_n B dX11_rises_28 rfl 0 rfl ?_
  refine g_ladd B dX11_rises_29 ?_
  refine g_rl (x' := lN ((r24_f ((3 * ch) + 0)) + 128)) (lN_add (r24_f ((3 * ch) + 0)) 128) ?_
  refine g_lload_n B dX11_rises_30 rfl 0 rfl ?_
  refine g_ldiv B dX11_rises_31 (by decide) ?_
  refine g_rl (x' := lN (((r24_f ((3 * ch) + 0)) + 128) / 128)) (pk_lDiv (a := ((r24_f ((3 * ch) + 0)) + 128)) (b := 128) (by omega) (by omega) (by omega)) ?_
  refine g_ldc2 (v := 5) B w_k_X11_130 dX11_rises_32 ?_
  refine g_lmul B dX11_rises_35 ?_
  refine g_rl (x' := lN ((((r24_f ((3 * ch) + 0)) + 128) / 128) * 5)) (lN_mul (((r24_f ((3 * ch) + 0)) + 128) / 128) 5) ?_
  refine g_ladd B dX11_rises_36 ?_
  refine g_rl (x' := lN ((r24_f ((3 * ch) + 0)) + ((((r24_f ((3 * ch) + 0)) + 128) / 128) * 5))) (lN_add (r24_f ((3 * ch) + 0)) ((((r24_f ((3 * ch) + 0)) + 128) / 128) * 5)) ?_
  have ha_2209 := updN_le (i := ((3 * ch) + 0)) (x := ((r24_f ((3 * ch) + 0)) + ((((r24_f ((3 * ch) + 0)) + 128) / 128) * 5))) ha0 (by omega)
  refine g_last (ws' := [(m, .inr (11, mkF r m_1 m_4 m_9 m_10 m_14 m_15 m_25 m_26 m_27 m_28 m_29 m_31 m_32 m_33 m_35 m_36 m_37 m_38 m_39 m_40 m_42)), ((r 24), .inl (E.2.2.1 3, 6, .inr (.inl (lM (updN r24_f ((3 * ch) + 0) ((r24_f ((3 * ch) + 0)) + ((((r24_f ((3 * ch) + 0)) + 128) / 128) * 5)))))))]) B 1 rfl (vp_in_nI (by omega) (by omega)) (by rw [show (vp_updL (lM r24_f) (Int32.toNatClampNeg (nI ((3 * ch) + 0))) (lN ((r24_f ((3 * ch) + 0)) + ((((r24_f ((3 * ch) + 0)) + 128) / 128) * 5)))) = lM (updN r24_f ((3 * ch) + 0) ((r24_f ((3 * ch) + 0)) + ((((r24_f ((3 * ch) + 0)) + 128) / 128) * 5))) from lM_upd (f := r24_f) (i := ((3 * ch) + 0)) (x := ((r24_f ((3 * ch) + 0)) + ((((r24_f ((3 * ch) + 0)) + 128) / 128) * 5))) (by omega)]; rfl) dX11_rises_37 ?_
  exact g_vret B hr dX11_rises_38 (by decide) (by decide) ⟨(updN r24_f ((3 * ch) + 0) ((r24_f ((3 * ch) + 0)) + ((((r24_f ((3 * ch) + 0)) + 128) / 128) * 5))), (by first | assumption | omega | decide | exact hCF _ (by omega)), (fun i hi => if_neg hi), e_, rfl, rfl⟩
abbrev MX11_falls : g_M := (yX11_falls, cX11_falls, 5, none)
theorem dX11_falls_0 : decode cX11_falls 0 = .ok (.sipush 128, 3) := by decide +kernel
theorem dX11_falls_3 : decode cX11_falls 3 = .ok (.iload_n 2, 1) := by decide +kernel
theorem dX11_falls_4 : decode cX11_falls 4 = .ok (.ishr, 1) := by decide +kernel
theorem dX11_falls_5 : decode cX11_falls 5 = .ok (.i2l, 1) := by decide +kernel
theorem dX11_falls_6 : decode cX11_falls 6 = .ok (.lstore_n 3, 1) := by decide +kernel
theorem dX11_falls_7 : decode cX11_falls 7 = .ok (.aload_n 0, 1) := by decide +kernel
theorem dX11_falls_8 : decode cX11_falls 8 = .ok (.getfield 66, 3) := by decide +kernel
theorem dX11_falls_11 : decode cX11_falls 11 = .ok (.iconst 3, 1) := by decide +kernel
theorem dX11_falls_12 : decode cX11_falls 12 = .ok (.iload_n 1, 1) := by decide +kernel
theorem dX11_falls_13 : decode cX11_falls 13 = .ok (.imul, 1) := by decide +kernel
theorem dX11_falls_14 : decode cX11_falls 14 = .ok (.iload_n 2, 1) := by decide +kernel
theorem dX11_falls_15 : decode cX11_falls 15 = .ok (.iadd, 1) := by decide +kernel
theorem dX11_falls_16 : decode cX11_falls 16 = .ok (.dup2, 1) := by decide +kernel
theorem dX11_falls_17 : decode cX11_falls 17 = .ok (.laload, 1) := by decide +kernel
theorem dX11_falls_18 : decode cX11_falls 18 = .ok (.aload_n 0, 1) := by decide +kernel
theorem dX11_falls_19 : decode cX11_falls 19 = .ok (.getfield 66, 3) := by decide +kernel
theorem dX11_falls_22 : decode cX11_falls 22 = .ok (.iconst 3, 1) := by decide +kernel
theorem dX11_falls_23 : decode cX11_falls 23 = .ok (.iload_n 1, 1) := by decide +kernel
theorem dX11_falls_24 : decode cX11_falls 24 = .ok (.imul, 1) := by decide +kernel
theorem dX11_falls_25 : decode cX11_falls 25 = .ok (.iload_n 2, 1) := by decide +kernel
theorem dX11_falls_26 : decode cX11_falls 26 = .ok (.iadd, 1) := by decide +kernel
theorem dX11_falls_27 : decode cX11_falls 27 = .ok (.laload, 1) := by decide +kernel
theorem dX11_falls_28 : decode cX11_falls 28 = .ok (.lload_n 3, 1) := by decide +kernel
theorem dX11_falls_29 : decode cX11_falls 29 = .ok (.ladd, 1) := by decide +kernel
theorem dX11_falls_30 : decode cX11_falls 30 = .ok (.ldc2_w 132, 3) := by decide +kernel
theorem w_k_X11_132 : Cond.constantLong RX11 132 2 ∈ g_tbl := g_tbl_in 1134 (by decide +kernel) (by decide +kernel)
theorem dX11_falls_33 : decode cX11_falls 33 = .ok (.lsub, 1) := by decide +kernel
theorem dX11_falls_34 : decode cX11_falls 34 = .ok (.lload_n 3, 1) := by decide +kernel
theorem dX11_falls_35 : decode cX11_falls 35 = .ok (.ldiv, 1) := by decide +kernel
theorem dX11_falls_36 : decode cX11_falls 36 = .ok (.ldc2_w 132, 3) := by decide +kernel
theorem dX11_falls_39 : decode cX11_falls 39 = .ok (.lmul, 1) := by decide +kernel
theorem dX11_falls_40 : decode cX11_falls 40 = .ok (.lsub, 1) := by decide +kernel
theorem dX11_falls_41 : decode cX11_falls 41 = .ok (.lastore, 1) := by decide +kernel
theorem dX11_falls_42 : decode cX11_falls 42 = .ok (.return_, 1) := by decide +kernel
set_option maxRecDepth 100000 in
def fn_wr_X11_falls_0 (r24_f : Nat → Nat) (ch : Nat) (β : Type) (k_ : (Nat → Nat) → β) : β := (k_ (updN r24_f ((3 * ch) + 0) ((r24_f ((3 * ch) + 0)) - (((((r24_f ((3 * ch) + 0)) + 128) - 2) / 128) * 2))))
set_option maxRecDepth 100000 in
theorem fn_wr_X11_falls_0_s {r24_f : Nat → Nat} {ch : Nat} {β : Type} {k_ : (Nat → Nat) → β} : fn_wr_X11_falls_0 r24_f ch β k_ = (k_ (updN r24_f ((3 * ch) + 0) ((r24_f ((3 * ch) + 0)) - (((((r24_f ((3 * ch) + 0)) + 128) - 2) / 128) * 2)))) := rfl
set_option maxRecDepth 100000 in
set_option maxHeartbeats 4000000 in
theorem wr_X11_falls_0 (E : g_E) (m : Nat) (r : Nat → Nat) (m_1 : Nat) (m_4 : Nat) (m_9 : Nat) (m_10 : Nat) (m_14 : Nat) (m_15 : Nat) (m_25 : Int32) (m_26 : Int32) (m_27 : Int64) (m_28 : Nat) (m_29 : Nat) (m_31 : Nat) (m_32 : Nat) (m_33 : Nat) (m_35 : Nat) (m_36 : Nat) (m_37 : Int32) (m_38 : Nat) (m_39 : Int32) (m_40 : Int32) (m_42 : Nat) (r24_f : Nat → Nat) (ch : Nat) (h0 : ch < 2) (ha0 : ∀ j, j < 6 → r24_f j ≤ 40000000000) : Ev E MX11_falls 0 0 0 0 [.ref m, .int (nI ch), .int 0] [(m, .inr (11, mkF r m_1 m_4 m_9 m_10 m_14 m_15 m_25 m_26 m_27 m_28 m_29 m_31 m_32 m_33 m_35 m_36 m_37 m_38 m_39 m_40 m_42)), ((r 24), .inl (E.2.2.1 3, 6, .inr (.inl (lM r24_f))))] (fun v_ w_ => ∃ zr24_f : Nat → Nat, (∀ j, j < 6 → zr24_f j ≤ 40000000000) ∧ (∀ i, ¬ i = ((3 * ch) + 0) → zr24_f i = r24_f i) ∧ (∀ (β : Type) (k_ : (Nat → Nat) → β), fn_wr_X11_falls_0 r24_f ch β k_ = k_ zr24_f) ∧ v_ = none ∧ w_ = [(m, .inr (11, mkF r m_1 m_4 m_9 m_10 m_14 m_15 m_25 m_26 m_27 m_28 m_29 m_31 m_32 m_33 m_35 m_36 m_37 m_38 m_39 m_40 m_42)), ((r 24), .inl (E.2.2.1 3, 6, .inr (.inl (lM zr24_f))))]) := by
  refine Ev.intro (by decide) (Nat.le_of_ble_eq_true rfl) ?_
  intro X B hr hI
  have B : Bd E X cX11_falls RX11 5 0 0 0 0 := B
  have hr : Rt E X none 0 0 (fun v_ w_ => ∃ zr24_f : Nat → Nat, (∀ j, j < 6 → zr24_f j ≤ 40000000000) ∧ (∀ i, ¬ i = ((3 * ch) + 0) → zr24_f i = r24_f i) ∧ (∀ (β : Type) (k_ : (Nat → Nat) → β), fn_wr_X11_falls_0 r24_f ch β k_ = k_ zr24_f) ∧ v_ = none ∧ w_ = [(m, .inr (11, mkF r m_1 m_4 m_9 m_10 m_14 m_15 m_25 m_26 m_27 m_28 m_29 m_31 m_32 m_33 m_35 m_36 m_37 m_38 m_39 m_40 m_42)), ((r 24), .inl (E.2.2.1 3, 6, .inr (.inl (lM zr24_f))))]) := hr
  have e_ := fun (β : Type) (k_ : (Nat → Nat) → β) => fn_wr_X11_falls_0_s (β := β) (k_ := k_) (r24_f := r24_f) (ch := ch)
  show G E X 5 [(m, .inr (11, mkF r m_1 m_4 m_9 m_10 m_14 m_15 m_25 m_26 m_27 m_28 m_29 m_31 m_32 m_33 m_35 m_36 m_37 m_38 m_39 m_40 m_42)), ((r 24), .inl (E.2.2.1 3, 6, .inr (.inl (lM r24_f))))] 0 0 [(0, .ref m), (1, .int (nI ch)), (2, .int 0)] 0 []
  refine g_sipush (v := 128) B dX11_falls_0 (by decide) ?_
  refine g_iload_n B dX11_falls_3 rfl 2 rfl ?_
  refine g_ishr B dX11_falls_4 ?_
  refine g_ri (x' := 128) (by decide) ?_
  refine g_i2l B dX11_falls_5 ?_
  refine g_rl (x' := 128) (by decide) ?_
  refine g_lstore_n (lv' := [(3, .long 128), (0, .ref m), (1, .int (nI ch)), (2, .int 0)]) B dX11_falls_6 rfl (by decide) rfl ?_
  refine g_aload_n B dX11_falls_7 rfl 1 rfl ?_
  refine g_get B 0 24 fl_X11_66 rfl mf_24 dX11_falls_8 ?_
  refine g_iconst (v := 3) B dX11_falls_11 (by decide) ?_
  refine g_iload_n B dX11_falls_12 rfl 2 rfl ?_
  refine g_imul B dX11_falls_13 ?_
  refine g_ri (x' := nI (3 * ch)) (pk_mul 3 ch) ?_
  refine g_iload_n B dX11_falls_14 rfl 3 rfl ?_
  refine g_iadd B dX11_falls_15 ?_
  refine g_ri (x' := nI ((3 * ch) + 0)) (nI_add (3 * ch) 0) ?_
  refine g_dup2_11 B dX11_falls_16 rfl rfl ?_
  refine g_lald B 1 rfl (vp_in_nI (by omega) (by omega)) dX11_falls_17 ?_
  refine g_rl (x' := lN (r24_f ((3 * ch) + 0))) (lM_at (f := r24_f) (i := ((3 * ch) + 0)) (by omega)) ?_
  have ha_2210 := ha0 ((3 * ch) + 0) (by omega)
  refine g_aload_n B dX11_falls_18 rfl 1 rfl ?_
  refine g_get B 0 24 fl_X11_66 rfl mf_24 dX11_falls_19 ?_
  refine g_iconst (v := 3) B dX11_falls_22 (by decide) ?_
  refine g_iload_n B dX11_falls_23 rfl 2 rfl ?_
  refine g_imul B dX11_falls_24 ?_
  refine g_ri (x' := nI (3 * ch)) (pk_mul 3 ch) ?_
  refine g_iload_n B dX11_falls_25 rfl 3 rfl ?_
  refine g_iadd B dX11_falls_26 ?_
  refine g_ri (x' := nI ((3 * ch) + 0)) (nI_add (3 * ch) 0) ?_
  refine g_lald B 1 rfl (vp_in_nI (by omega) (by omega)) dX11_falls_27 ?_
  refine g_rl (x' := lN (r24_f ((3 * ch) + 0))) (lM_at (f := r24_f) (i := ((3 * ch) + 0)) (by omega)) ?_
  have ha_2211 := ha0 ((3 * ch) + 0) (by omega)
  refine g_lload_n B dX11_falls_28 rfl 0 rfl ?_
  refine g_ladd B dX11_falls_29 ?_
  refine g_rl (x' := lN ((r24_f ((3 * ch) + 0)) + 128)) (lN_add (r24_f ((3 * ch) + 0)) 128) ?_
  refine g_ldc2 (v := 2) B w_k_X11_132 dX11_falls_30 ?_
  refine g_lsub B dX11_falls_33 ?_
  refine g_rl (x' := lN (((r24_f ((3 * ch) + 0)) + 128) - 2)) (lN_sub (a := ((r24_f ((3 * ch) + 0)) + 128)) (b := 2) (by omega)) ?_
  refine g_lload_n B dX11_falls_34 rfl 0 rfl ?_
  refine g_ldiv B dX11_falls_35 (by decide) ?_
  refine g_rl (x' := lN ((((r24_f ((3 * ch) + 0)) + 128) - 2) / 128)) (pk_lDiv (a := (((r24_f ((3 * ch) + 0)) + 128) - 2)) (b := 128) (by omega) (by omega) (by omega)) ?_
  refine g_ldc2 (v := 2) B w_k_X11_132 dX11_falls_36 ?_
  refine g_lmul B dX11_falls_39 ?_
  refine g_rl (x' := lN (((((r24_f ((3 * ch) + 0)) + 128) - 2) / 128) * 2)) (lN_mul ((((r24_f ((3 * ch) + 0)) + 128) - 2) / 128) 2) ?_
  refine g_lsub B dX11_falls_40 ?_
  refine g_rl (x' := lN ((r24_f ((3 * ch) + 0)) - (((((r24_f ((3 * ch) + 0)) + 128) - 2) / 128) * 2))) (lN_sub (a := (r24_f ((3 * ch) + 0))) (b := (((((r24_f ((3 * ch) + 0)) + 128) - 2) / 128) * 2)) (by omega)) ?_
  have ha_2212 := updN_le (i := ((3 * ch) + 0)) (x := ((r24_f ((3 * ch) + 0)) - (((((r24_f ((3 * ch) + 0)) + 128) - 2) / 128) * 2))) ha0 (by omega)
  refine g_last (ws' := [(m, .inr (11, mkF r m_1 m_4 m_9 m_10 m_14 m_15 m_25 m_26 m_27 m_28 m_29 m_31 m_32 m_33 m_35 m_36 m_37 m_38 m_39 m_40 m_42)), ((r 24), .inl (E.2.2.1 3, 6, .inr (.inl (lM (updN r24_f ((3 * ch) + 0) ((r24_f ((3 * ch) + 0)) - (((((r24_f ((3 * ch) + 0)) + 128) - 2) / 128) * 2)))))))]) B 1 rfl (vp_in_nI (by omega) (by omega)) (by rw [show (vp_updL (lM r24_f) (Int32.toNatClampNeg (nI ((3 * ch) + 0))) (lN ((r24_f ((3 * ch) + 0)) - (((((r24_f ((3 * ch) + 0)) + 128) - 2) / 128) * 2)))) = lM (updN r24_f ((3 * ch) + 0) ((r24_f ((3 * ch) + 0)) - (((((r24_f ((3 * ch) + 0)) + 128) - 2) / 128) * 2))) from lM_upd (f := r24_f) (i := ((3 * ch) + 0)) (x := ((r24_f ((3 * ch) + 0)) - (((((r24_f ((3 * ch) + 0)) + 128) - 2) / 128) * 2))) (by omega)]; rfl) dX11_falls_41 ?_
  exact g_vret B hr dX11_falls_42 (by decide) (by decide) ⟨(updN r24_f ((3 * ch) + 0) ((r24_f ((3 * ch) + 0)) - (((((r24_f ((3 * ch) + 0)) + 128) - 2) / 128) * 2))), (by first | assumption | omega | decide | exact hCF _ (by omega)), (fun i hi => if_neg hi), e_, rfl, rfl⟩
set_option maxRecDepth 100000 in
set_option maxHeartbeats 4000000 in
theorem wr_X11_step_1 (E : g_E) (m : Nat) (r : Nat → Nat) (m_1 : Nat) (m_4 : Nat) (m_9 : Nat) (m_10 : Nat) (m_14 : Nat) (m_15 : Nat) (m_25 : Int32) (m_26 : Int32) (m_27 : Int64) (m_28 : Nat) (m_29 : Nat) (m_31 : Nat) (m_32 : Nat) (m_33 : Nat) (m_35 : Nat) (m_36 : Nat) (m_37 : Int32) (m_38 : Nat) (m_39 : Int32) (m_40 : Int32) (m_42 : Nat) (r24_f : Nat → Nat) (ch : Nat) (h0 : ch < 2) (ha0 : ∀ j, j < 6 → r24_f j ≤ 40000000000) : Ev E MX11_step 0 0 0 0 [.ref m, .int (nI ch), .int 1] [(m, .inr (11, mkF r m_1 m_4 m_9 m_10 m_14 m_15 m_25 m_26 m_27 m_28 m_29 m_31 m_32 m_33 m_35 m_36 m_37 m_38 m_39 m_40 m_42)), ((r 24), .inl (E.2.2.1 3, 6, .inr (.inl (lM r24_f))))] (fun v_ w_ => (r24_f ((3 * ch) + 1) ≤ 40000000000) ∧ v_ = some (.long (lN (r24_f ((3 * ch) + 1) / 16 + 1))) ∧ w_ = [(m, .inr (11, mkF r m_1 m_4 m_9 m_10 m_14 m_15 m_25 m_26 m_27 m_28 m_29 m_31 m_32 m_33 m_35 m_36 m_37 m_38 m_39 m_40 m_42)), ((r 24), .inl (E.2.2.1 3, 6, .inr (.inl (lM r24_f))))]) := by
  refine Ev.intro (by decide) (Nat.le_of_ble_eq_true rfl) ?_
  intro X B hr hI
  have B : Bd E X cX11_step RX11 3 0 0 0 0 := B
  have hr : Rt E X (some .long) 0 0 (fun v_ w_ => (r24_f ((3 * ch) + 1) ≤ 40000000000) ∧ v_ = some (.long (lN (r24_f ((3 * ch) + 1) / 16 + 1))) ∧ w_ = [(m, .inr (11, mkF r m_1 m_4 m_9 m_10 m_14 m_15 m_25 m_26 m_27 m_28 m_29 m_31 m_32 m_33 m_35 m_36 m_37 m_38 m_39 m_40 m_42)), ((r 24), .inl (E.2.2.1 3, 6, .inr (.inl (lM r24_f))))]) := hr
  show G E X 3 [(m, .inr (11, mkF r m_1 m_4 m_9 m_10 m_14 m_15 m_25 m_26 m_27 m_28 m_29 m_31 m_32 m_33 m_35 m_36 m_37 m_38 m_39 m_40 m_42)), ((r 24), .inl (E.2.2.1 3, 6, .inr (.inl (lM r24_f))))] 0 0 [(0, .ref m), (1, .int (nI ch)), (2, .int 1)] 0 []
  refine g_aload_n B dX11_step_0 rfl 0 rfl ?_
  refine g_get B 0 24 fl_X11_66 rfl mf_24 dX11_step_1 ?_
  refine g_iconst (v := 3) B dX11_step_4 (by decide) ?_
  refine g_iload_n B dX11_step_5 rfl 1 rfl ?_
  refine g_imul B dX11_step_6 ?_
  refine g_ri (x' := nI (3 * ch)) (pk_mul 3 ch) ?_
  refine g_iload_n B dX11_step_7 rfl 2 rfl ?_
  refine g_iadd B dX11_step_8 ?_
  refine g_ri (x' := nI ((3 * ch) + 1)) (nI_add (3 * ch) 1) ?_
  refine g_lald B 1 rfl (vp_in_nI (by omega) (by omega)) dX11_step_9 ?_
  refine g_rl (x' := lN (r24_f ((3 * ch) + 1))) (lM_at (f := r24_f) (i := ((3 * ch) + 1)) (by omega)) ?_
  have ha_2213 := ha0 ((3 * ch) + 1) (by omega)
  refine g_iconst (v := 4) B dX11_step_10 (by decide) ?_
  refine g_lshr B dX11_step_11 ?_
  refine g_rl (x' := lN ((r24_f ((3 * ch) + 1)) / 16)) (pf_shr (a := (r24_f ((3 * ch) + 1))) (d := 4) (by decide) (by omega)) ?_
  refine g_lconst (v := 1) B dX11_step_12 (by decide) ?_
  refine g_ladd B dX11_step_13 ?_
  refine g_rl (x' := lN (((r24_f ((3 * ch) + 1)) / 16) + 1)) (lN_add ((r24_f ((3 * ch) + 1)) / 16) 1) ?_
  exact g_lret B hr dX11_step_14 (by decide) (by decide) ⟨(by first | assumption | omega | decide | exact hCF _ (by omega)), rfl, rfl⟩
set_option maxRecDepth 100000 in
def fn_wr_X11_rises_1 (r24_f : Nat → Nat) (ch : Nat) (β : Type) (k_ : (Nat → Nat) → β) : β := (k_ (updN r24_f ((3 * ch) + 1) ((r24_f ((3 * ch) + 1)) + ((((r24_f ((3 * ch) + 1)) + 64) / 64) * 5))))
set_option maxRecDepth 100000 in
theorem fn_wr_X11_rises_1_s {r24_f : Nat → Nat} {ch : Nat} {β : Type} {k_ : (Nat → Nat) → β} : fn_wr_X11_rises_1 r24_f ch β k_ = (k_ (updN r24_f ((3 * ch) + 1) ((r24_f ((3 * ch) + 1)) + ((((r24_f ((3 * ch) + 1)) + 64) / 64) * 5)))) := rfl
set_option maxRecDepth 100000 in
set_option maxHeartbeats 4000000 in
theorem wr_X11_rises_1 (E : g_E) (m : Nat) (r : Nat → Nat) (m_1 : Nat) (m_4 : Nat) (m_9 : Nat) (m_10 : Nat) (m_14 : Nat) (m_15 : Nat) (m_25 : Int32) (m_26 : Int32) (m_27 : Int64) (m_28 : Nat) (m_29 : Nat) (m_31 : Nat) (m_32 : Nat) (m_33 : Nat) (m_35 : Nat) (m_36 : Nat) (m_37 : Int32) (m_38 : Nat) (m_39 : Int32) (m_40 : Int32) (m_42 : Nat) (r24_f : Nat → Nat) (ch : Nat) (h0 : ch < 2) (h1 : r24_f ((3 * ch) + 1) ≤ 34359738368) (ha0 : ∀ j, j < 6 → r24_f j ≤ 40000000000) : Ev E MX11_rises 0 0 0 0 [.ref m, .int (nI ch), .int 1] [(m, .inr (11, mkF r m_1 m_4 m_9 m_10 m_14 m_15 m_25 m_26 m_27 m_28 m_29 m_31 m_32 m_33 m_35 m_36 m_37 m_38 m_39 m_40 m_42)), ((r 24), .inl (E.2.2.1 3, 6, .inr (.inl (lM r24_f))))] (fun v_ w_ => ∃ zr24_f : Nat → Nat, (∀ j, j < 6 → zr24_f j ≤ 40000000000) ∧ (∀ i, ¬ i = ((3 * ch) + 1) → zr24_f i = r24_f i) ∧ (∀ (β : Type) (k_ : (Nat → Nat) → β), fn_wr_X11_rises_1 r24_f ch β k_ = k_ zr24_f) ∧ v_ = none ∧ w_ = [(m, .inr (11, mkF r m_1 m_4 m_9 m_10 m_14 m_15 m_25 m_26 m_27 m_28 m_29 m_31 m_32 m_33 m_35 m_36 m_37 m_38 m_39 m_40 m_42)), ((r 24), .inl (E.2.2.1 3, 6, .inr (.inl (lM zr24_f))))]) := by
  refine Ev.intro (by decide) (Nat.le_of_ble_eq_true rfl) ?_
  intro X B hr hI
  have B : Bd E X cX11_rises RX11 5 0 0 0 0 := B
  have hr : Rt E X none 0 0 (fun v_ w_ => ∃ zr24_f : Nat → Nat, (∀ j, j < 6 → zr24_f j ≤ 40000000000) ∧ (∀ i, ¬ i = ((3 * ch) + 1) → zr24_f i = r24_f i) ∧ (∀ (β : Type) (k_ : (Nat → Nat) → β), fn_wr_X11_rises_1 r24_f ch β k_ = k_ zr24_f) ∧ v_ = none ∧ w_ = [(m, .inr (11, mkF r m_1 m_4 m_9 m_10 m_14 m_15 m_25 m_26 m_27 m_28 m_29 m_31 m_32 m_33 m_35 m_36 m_37 m_38 m_39 m_40 m_42)), ((r 24), .inl (E.2.2.1 3, 6, .inr (.inl (lM zr24_f))))]) := hr
  have e_ := fun (β : Type) (k_ : (Nat → Nat) → β) => fn_wr_X11_rises_1_s (β := β) (k_ := k_) (r24_f := r24_f) (ch := ch)
  show G E X 5 [(m, .inr (11, mkF r m_1 m_4 m_9 m_10 m_14 m_15 m_25 m_26 m_27 m_28 m_29 m_31 m_32 m_33 m_35 m_36 m_37 m_38 m_39 m_40 m_42)), ((r 24), .inl (E.2.2.1 3, 6, .inr (.inl (lM r24_f))))] 0 0 [(0, .ref m), (1, .int (nI ch)), (2, .int 1)] 0 []
  refine g_sipush (v := 128) B dX11_rises_0 (by decide) ?_
  refine g_iload_n B dX11_rises_3 rfl 2 rfl ?_
  refine g_ishr B dX11_rises_4 ?_
  refine g_ri (x' := 64) (by decide) ?_
  refine g_i2l B dX11_rises_5 ?_
  refine g_rl (x' := 64) (by decide) ?_
  refine g_lstore_n (lv' := [(3, .long 64), (0, .ref m), (1, .int (nI ch)), (2, .int 1)]) B dX11_rises_6 rfl (by decide) rfl ?_
  refine g_aload_n B dX11_rises_7 rfl 1 rfl ?_
  refine g_get B 0 24 fl_X11_66 rfl mf_24 dX11_rises_8 ?_
  refine g_iconst (v := 3) B dX11_rises_11 (by decide) ?_
  refine g_iload_n B dX11_rises_12 rfl 2 rfl ?_
  refine g_imul B dX11_rises_13 ?_
  refine g_ri (x' := nI (3 * ch)) (pk_mul 3 ch) ?_
  refine g_iload_n B dX11_rises_14 rfl 3 rfl ?_
  refine g_iadd B dX11_rises_15 ?_
  refine g_ri (x' := nI ((3 * ch) + 1)) (nI_add (3 * ch) 1) ?_
  refine g_dup2_11 B dX11_rises_16 rfl rfl ?_
  refine g_lald B 1 rfl (vp_in_nI (by omega) (by omega)) dX11_rises_17 ?_
  refine g_rl (x' := lN (r24_f ((3 * ch) + 1))) (lM_at (f := r24_f) (i := ((3 * ch) + 1)) (by omega)) ?_
  have ha_2214 := ha0 ((3 * ch) + 1) (by omega)
  refine g_aload_n B dX11_rises_18 rfl 1 rfl ?_
  refine g_get B 0 24 fl_X11_66 rfl mf_24 dX11_rises_19 ?_
  refine g_iconst (v := 3) B dX11_rises_22 (by decide) ?_
  refine g_iload_n B dX11_rises_23 rfl 2 rfl ?_
  refine g_imul B dX11_rises_24 ?_
  refine g_ri (x' := nI (3 * ch)) (pk_mul 3 ch) ?_
  refine g_iload_n B dX11_rises_25 rfl 3 rfl ?_
  refine g_iadd B dX11_rises_26 ?_
  refine g_ri (x' := nI ((3 * ch) + 1)) (nI_add (3 * ch) 1) ?_
  refine g_lald B 1 rfl (vp_in_nI (by omega) (by omega)) dX11_rises_27 ?_
  refine g_rl (x' := lN (r24_f ((3 * ch) + 1))) (lM_at (f := r24_f) (i := ((3 * ch) + 1)) (by omega)) ?_
  have ha_2215 := ha0 ((3 * ch) + 1) (by omega)
  refine g_lload_n B dX11_rises_28 rfl 0 rfl ?_
  refine g_ladd B dX11_rises_29 ?_
  refine g_rl (x' := lN ((r24_f ((3 * ch) + 1)) + 64)) (lN_add (r24_f ((3 * ch) + 1)) 64) ?_
  refine g_lload_n B dX11_rises_30 rfl 0 rfl ?_
  refine g_ldiv B dX11_rises_31 (by decide) ?_
  refine g_rl (x' := lN (((r24_f ((3 * ch) + 1)) + 64) / 64)) (pk_lDiv (a := ((r24_f ((3 * ch) + 1)) + 64)) (b := 64) (by omega) (by omega) (by omega)) ?_
  refine g_ldc2 (v := 5) B w_k_X11_130 dX11_rises_32 ?_
  refine g_lmul B dX11_rises_35 ?_
  refine g_rl (x' := lN ((((r24_f ((3 * ch) + 1)) + 64) / 64) * 5)) (lN_mul (((r24_f ((3 * ch) + 1)) + 64) / 64) 5) ?_
  refine g_ladd B dX11_rises_36 ?_
  refine g_rl (x' := lN ((r24_f ((3 * ch) + 1)) + ((((r24_f ((3 * ch) + 1)) + 64) / 64) * 5))) (lN_add (r24_f ((3 * ch) + 1)) ((((r24_f ((3 * ch) + 1)) + 64) / 64) * 5)) ?_
  have ha_2216 := updN_le (i := ((3 * ch) + 1)) (x := ((r24_f ((3 * ch) + 1)) + ((((r24_f ((3 * ch) + 1)) + 64) / 64) * 5))) ha0 (by omega)
  refine g_last (ws' := [(m, .inr (11, mkF r m_1 m_4 m_9 m_10 m_14 m_15 m_25 m_26 m_27 m_28 m_29 m_31 m_32 m_33 m_35 m_36 m_37 m_38 m_39 m_40 m_42)), ((r 24), .inl (E.2.2.1 3, 6, .inr (.inl (lM (updN r24_f ((3 * ch) + 1) ((r24_f ((3 * ch) + 1)) + ((((r24_f ((3 * ch) + 1)) + 64) / 64) * 5)))))))]) B 1 rfl (vp_in_nI (by omega) (by omega)) (by rw [show (vp_updL (lM r24_f) (Int32.toNatClampNeg (nI ((3 * ch) + 1))) (lN ((r24_f ((3 * ch) + 1)) + ((((r24_f ((3 * ch) + 1)) + 64) / 64) * 5)))) = lM (updN r24_f ((3 * ch) + 1) ((r24_f ((3 * ch) + 1)) + ((((r24_f ((3 * ch) + 1)) + 64) / 64) * 5))) from lM_upd (f := r24_f) (i := ((3 * ch) + 1)) (x := ((r24_f ((3 * ch) + 1)) + ((((r24_f ((3 * ch) + 1)) + 64) / 64) * 5))) (by omega)]; rfl) dX11_rises_37 ?_
  exact g_vret B hr dX11_rises_38 (by decide) (by decide) ⟨(updN r24_f ((3 * ch) + 1) ((r24_f ((3 * ch) + 1)) + ((((r24_f ((3 * ch) + 1)) + 64) / 64) * 5))), (by first | assumption | omega | decide | exact hCF _ (by omega)), (fun i hi => if_neg hi), e_, rfl, rfl⟩
set_option maxRecDepth 100000 in
def fn_wr_X11_falls_1 (r24_f : Nat → Nat) (ch : Nat) (β : Type) (k_ : (Nat → Nat) → β) : β := (k_ (updN r24_f ((3 * ch) + 1) ((r24_f ((3 * ch) + 1)) - (((((r24_f ((3 * ch) + 1)) + 64) - 2) / 64) * 2))))
set_option maxRecDepth 100000 in
theorem fn_wr_X11_falls_1_s {r24_f : Nat → Nat} {ch : Nat} {β : Type} {k_ : (Nat → Nat) → β} : fn_wr_X11_falls_1 r24_f ch β k_ = (k_ (updN r24_f ((3 * ch) + 1) ((r24_f ((3 * ch) + 1)) - (((((r24_f ((3 * ch) + 1)) + 64) - 2) / 64) * 2)))) := rfl
set_option maxRecDepth 100000 in
set_option maxHeartbeats 4000000 in
theorem wr_X11_falls_1 (E : g_E) (m : Nat) (r : Nat → Nat) (m_1 : Nat) (m_4 : Nat) (m_9 : Nat) (m_10 : Nat) (m_14 : Nat) (m_15 : Nat) (m_25 : Int32) (m_26 : Int32) (m_27 : Int64) (m_28 : Nat) (m_29 : Nat) (m_31 : Nat) (m_32 : Nat) (m_33 : Nat) (m_35 : Nat) (m_36 : Nat) (m_37 : Int32) (m_38 : Nat) (m_39 : Int32) (m_40 : Int32) (m_42 : Nat) (r24_f : Nat → Nat) (ch : Nat) (h0 : ch < 2) (ha0 : ∀ j, j < 6 → r24_f j ≤ 40000000000) : Ev E MX11_falls 0 0 0 0 [.ref m, .int (nI ch), .int 1] [(m, .inr (11, mkF r m_1 m_4 m_9 m_10 m_14 m_15 m_25 m_26 m_27 m_28 m_29 m_31 m_32 m_33 m_35 m_36 m_37 m_38 m_39 m_40 m_42)), ((r 24), .inl (E.2.2.1 3, 6, .inr (.inl (lM r24_f))))] (fun v_ w_ => ∃ zr24_f : Nat → Nat, (∀ j, j < 6 → zr24_f j ≤ 40000000000) ∧ (∀ i, ¬ i = ((3 * ch) + 1) → zr24_f i = r24_f i) ∧ (∀ (β : Type) (k_ : (Nat → Nat) → β), fn_wr_X11_falls_1 r24_f ch β k_ = k_ zr24_f) ∧ v_ = none ∧ w_ = [(m, .inr (11, mkF r m_1 m_4 m_9 m_10 m_14 m_15 m_25 m_26 m_27 m_28 m_29 m_31 m_32 m_33 m_35 m_36 m_37 m_38 m_39 m_40 m_42)), ((r 24), .inl (E.2.2.1 3, 6, .inr (.inl (lM zr24_f))))]) := by
  refine Ev.intro (by decide) (Nat.le_of_ble_eq_true rfl) ?_
  intro X B hr hI
  have B : Bd E X cX11_falls RX11 5 0 0 0 0 := B
  have hr : Rt E X none 0 0 (fun v_ w_ => ∃ zr24_f : Nat → Nat, (∀ j, j < 6 → zr24_f j ≤ 40000000000) ∧ (∀ i, ¬ i = ((3 * ch) + 1) → zr24_f i = r24_f i) ∧ (∀ (β : Type) (k_ : (Nat → Nat) → β), fn_wr_X11_falls_1 r24_f ch β k_ = k_ zr24_f) ∧ v_ = none ∧ w_ = [(m, .inr (11, mkF r m_1 m_4 m_9 m_10 m_14 m_15 m_25 m_26 m_27 m_28 m_29 m_31 m_32 m_33 m_35 m_36 m_37 m_38 m_39 m_40 m_42)), ((r 24), .inl (E.2.2.1 3, 6, .inr (.inl (lM zr24_f))))]) := hr
  have e_ := fun (β : Type) (k_ : (Nat → Nat) → β) => fn_wr_X11_falls_1_s (β := β) (k_ := k_) (r24_f := r24_f) (ch := ch)
  show G E X 5 [(m, .inr (11, mkF r m_1 m_4 m_9 m_10 m_14 m_15 m_25 m_26 m_27 m_28 m_29 m_31 m_32 m_33 m_35 m_36 m_37 m_38 m_39 m_40 m_42)), ((r 24), .inl (E.2.2.1 3, 6, .inr (.inl (lM r24_f))))] 0 0 [(0, .ref m), (1, .int (nI ch)), (2, .int 1)] 0 []
  refine g_sipush (v := 128) B dX11_falls_0 (by decide) ?_
  refine g_iload_n B dX11_falls_3 rfl 2 rfl ?_
  refine g_ishr B dX11_falls_4 ?_
  refine g_ri (x' := 64) (by decide) ?_
  refine g_i2l B dX11_falls_5 ?_
  refine g_rl (x' := 64) (by decide) ?_
  refine g_lstore_n (lv' := [(3, .long 64), (0, .ref m), (1, .int (nI ch)), (2, .int 1)]) B dX11_falls_6 rfl (by decide) rfl ?_
  refine g_aload_n B dX11_falls_7 rfl 1 rfl ?_
  refine g_get B 0 24 fl_X11_66 rfl mf_24 dX11_falls_8 ?_
  refine g_iconst (v := 3) B dX11_falls_11 (by decide) ?_
  refine g_iload_n B dX11_falls_12 rfl 2 rfl ?_
  refine g_imul B dX11_falls_13 ?_
  refine g_ri (x' := nI (3 * ch)) (pk_mul 3 ch) ?_
  refine g_iload_n B dX11_falls_14 rfl 3 rfl ?_
  refine g_iadd B dX11_falls_15 ?_
  refine g_ri (x' := nI ((3 * ch) + 1)) (nI_add (3 * ch) 1) ?_
  refine g_dup2_11 B dX11_falls_16 rfl rfl ?_
  refine g_lald B 1 rfl (vp_in_nI (by omega) (by omega)) dX11_falls_17 ?_
  refine g_rl (x' := lN (r24_f ((3 * ch) + 1))) (lM_at (f := r24_f) (i := ((3 * ch) + 1)) (by omega)) ?_
  have ha_2217 := ha0 ((3 * ch) + 1) (by omega)
  refine g_aload_n B dX11_falls_18 rfl 1 rfl ?_
  refine g_get B 0 24 fl_X11_66 rfl mf_24 dX11_falls_19 ?_
  refine g_iconst (v := 3) B dX11_falls_22 (by decide) ?_
  refine g_iload_n B dX11_falls_23 rfl 2 rfl ?_
  refine g_imul B dX11_falls_24 ?_
  refine g_ri (x' := nI (3 * ch)) (pk_mul 3 ch) ?_
  refine g_iload_n B dX11_falls_25 rfl 3 rfl ?_
  refine g_iadd B dX11_falls_26 ?_
  refine g_ri (x' := nI ((3 * ch) + 1)) (nI_add (3 * ch) 1) ?_
  refine g_lald B 1 rfl (vp_in_nI (by omega) (by omega)) dX11_falls_27 ?_
  refine g_rl (x' := lN (r24_f ((3 * ch) + 1))) (lM_at (f := r24_f) (i := ((3 * ch) + 1)) (by omega)) ?_
  have ha_2218 := ha0 ((3 * ch) + 1) (by omega)
  refine g_lload_n B dX11_falls_28 rfl 0 rfl ?_
  refine g_ladd B dX11_falls_29 ?_
  refine g_rl (x' := lN ((r24_f ((3 * ch) + 1)) + 64)) (lN_add (r24_f ((3 * ch) + 1)) 64) ?_
  refine g_ldc2 (v := 2) B w_k_X11_132 dX11_falls_30 ?_
  refine g_lsub B dX11_falls_33 ?_
  refine g_rl (x' := lN (((r24_f ((3 * ch) + 1)) + 64) - 2)) (lN_sub (a := ((r24_f ((3 * ch) + 1)) + 64)) (b := 2) (by omega)) ?_
  refine g_lload_n B dX11_falls_34 rfl 0 rfl ?_
  refine g_ldiv B dX11_falls_35 (by decide) ?_
  refine g_rl (x' := lN ((((r24_f ((3 * ch) + 1)) + 64) - 2) / 64)) (pk_lDiv (a := (((r24_f ((3 * ch) + 1)) + 64) - 2)) (b := 64) (by omega) (by omega) (by omega)) ?_
  refine g_ldc2 (v := 2) B w_k_X11_132 dX11_falls_36 ?_
  refine g_lmul B dX11_falls_39 ?_
  refine g_rl (x' := lN (((((r24_f ((3 * ch) + 1)) + 64) - 2) / 64) * 2)) (lN_mul ((((r24_f ((3 * ch) + 1)) + 64) - 2) / 64) 2) ?_
  refine g_lsub B dX11_falls_40 ?_
  refine g_rl (x' := lN ((r24_f ((3 * ch) + 1)) - (((((r24_f ((3 * ch) + 1)) + 64) - 2) / 64) * 2))) (lN_sub (a := (r24_f ((3 * ch) + 1))) (b := (((((r24_f ((3 * ch) + 1)) + 64) - 2) / 64) * 2)) (by omega)) ?_
  have ha_2219 := updN_le (i := ((3 * ch) + 1)) (x := ((r24_f ((3 * ch) + 1)) - (((((r24_f ((3 * ch) + 1)) + 64) - 2) / 64) * 2))) ha0 (by omega)
  refine g_last (ws' := [(m, .inr (11, mkF r m_1 m_4 m_9 m_10 m_14 m_15 m_25 m_26 m_27 m_28 m_29 m_31 m_32 m_33 m_35 m_36 m_37 m_38 m_39 m_40 m_42)), ((r 24), .inl (E.2.2.1 3, 6, .inr (.inl (lM (updN r24_f ((3 * ch) + 1) ((r24_f ((3 * ch) + 1)) - (((((r24_f ((3 * ch) + 1)) + 64) - 2) / 64) * 2)))))))]) B 1 rfl (vp_in_nI (by omega) (by omega)) (by rw [show (vp_updL (lM r24_f) (Int32.toNatClampNeg (nI ((3 * ch) + 1))) (lN ((r24_f ((3 * ch) + 1)) - (((((r24_f ((3 * ch) + 1)) + 64) - 2) / 64) * 2)))) = lM (updN r24_f ((3 * ch) + 1) ((r24_f ((3 * ch) + 1)) - (((((r24_f ((3 * ch) + 1)) + 64) - 2) / 64) * 2))) from lM_upd (f := r24_f) (i := ((3 * ch) + 1)) (x := ((r24_f ((3 * ch) + 1)) - (((((r24_f ((3 * ch) + 1)) + 64) - 2) / 64) * 2))) (by omega)]; rfl) dX11_falls_41 ?_
  exact g_vret B hr dX11_falls_42 (by decide) (by decide) ⟨(updN r24_f ((3 * ch) + 1) ((r24_f ((3 * ch) + 1)) - (((((r24_f ((3 * ch) + 1)) + 64) - 2) / 64) * 2))), (by first | assumption | omega | decide | exact hCF _ (by omega)), (fun i hi => if_neg hi), e_, rfl, rfl⟩
set_option maxRecDepth 100000 in
set_option maxHeartbeats 4000000 in
theorem wr_X11_step_2 (E : g_E) (m : Nat) (r : Nat → Nat) (m_1 : Nat) (m_4 : Nat) (m_9 : Nat) (m_10 : Nat) (m_14 : Nat) (m_15 : Nat) (m_25 : Int32) (m_26 : Int32) (m_27 : Int64) (m_28 : Nat) (m_29 : Nat) (m_31 : Nat) (m_32 : Nat) (m_33 : Nat) (m_35 : Nat) (m_36 : Nat) (m_37 : Int32) (m_38 : Nat) (m_39 : Int32) (m_40 : Int32) (m_42 : Nat) (r24_f : Nat → Nat) (ch : Nat) (h0 : ch < 2) (ha0 : ∀ j, j < 6 → r24_f j ≤ 40000000000) : Ev E MX11_step 0 0 0 0 [.ref m, .int (nI ch), .int 2] [(m, .inr (11, mkF r m_1 m_4 m_9 m_10 m_14 m_15 m_25 m_26 m_27 m_28 m_29 m_31 m_32 m_33 m_35 m_36 m_37 m_38 m_39 m_40 m_42)), ((r 24), .inl (E.2.2.1 3, 6, .inr (.inl (lM r24_f))))] (fun v_ w_ => (r24_f ((3 * ch) + 2) ≤ 40000000000) ∧ v_ = some (.long (lN (r24_f ((3 * ch) + 2) / 16 + 1))) ∧ w_ = [(m, .inr (11, mkF r m_1 m_4 m_9 m_10 m_14 m_15 m_25 m_26 m_27 m_28 m_29 m_31 m_32 m_33 m_35 m_36 m_37 m_38 m_39 m_40 m_42)), ((r 24), .inl (E.2.2.1 3, 6, .inr (.inl (lM r24_f))))]) := by
  refine Ev.intro (by decide) (Nat.le_of_ble_eq_true rfl) ?_
  intro X B hr hI
  have B : Bd E X cX11_step RX11 3 0 0 0 0 := B
  have hr : Rt E X (some .long) 0 0 (fun v_ w_ => (r24_f ((3 * ch) + 2) ≤ 40000000000) ∧ v_ = some (.long (lN (r24_f ((3 * ch) + 2) / 16 + 1))) ∧ w_ = [(m, .inr (11, mkF r m_1 m_4 m_9 m_10 m_14 m_15 m_25 m_26 m_27 m_28 m_29 m_31 m_32 m_33 m_35 m_36 m_37 m_38 m_39 m_40 m_42)), ((r 24), .inl (E.2.2.1 3, 6, .inr (.inl (lM r24_f))))]) := hr
  show G E X 3 [(m, .inr (11, mkF r m_1 m_4 m_9 m_10 m_14 m_15 m_25 m_26 m_27 m_28 m_29 m_31 m_32 m_33 m_35 m_36 m_37 m_38 m_39 m_40 m_42)), ((r 24), .inl (E.2.2.1 3, 6, .inr (.inl (lM r24_f))))] 0 0 [(0, .ref m), (1, .int (nI ch)), (2, .int 2)] 0 []
  refine g_aload_n B dX11_step_0 rfl 0 rfl ?_
  refine g_get B 0 24 fl_X11_66 rfl mf_24 dX11_step_1 ?_
  refine g_iconst (v := 3) B dX11_step_4 (by decide) ?_
  refine g_iload_n B dX11_step_5 rfl 1 rfl ?_
  refine g_imul B dX11_step_6 ?_
  refine g_ri (x' := nI (3 * ch)) (pk_mul 3 ch) ?_
  refine g_iload_n B dX11_step_7 rfl 2 rfl ?_
  refine g_iadd B dX11_step_8 ?_
  refine g_ri (x' := nI ((3 * ch) + 2)) (nI_add (3 * ch) 2) ?_
  refine g_lald B 1 rfl (vp_in_nI (by omega) (by omega)) dX11_step_9 ?_
  refine g_rl (x' := lN (r24_f ((3 * ch) + 2))) (lM_at (f := r24_f) (i := ((3 * ch) + 2)) (by omega)) ?_
  have ha_2220 := ha0 ((3 * ch) + 2) (by omega)
  refine g_iconst (v := 4) B dX11_step_10 (by decide) ?_
  refine g_lshr B dX11_step_11 ?_
  refine g_rl (x' := lN ((r24_f ((3 * ch) + 2)) / 16)) (pf_shr (a := (r24_f ((3 * ch) + 2))) (d := 4) (by decide) (by omega)) ?_
  refine g_lconst (v := 1) B dX11_step_12 (by decide) ?_
  refine g_ladd B dX11_step_13 ?_
  refine g_rl (x' := lN (((r24_f ((3 * ch) + 2)) / 16) + 1)) (lN_add ((r24_f ((3 * ch) + 2)) / 16) 1) ?_
  exact g_lret B hr dX11_step_14 (by decide) (by decide) ⟨(by first | assumption | omega | decide | exact hCF _ (by omega)), rfl, rfl⟩
set_option maxRecDepth 100000 in
def fn_wr_X11_rises_2 (r24_f : Nat → Nat) (ch : Nat) (β : Type) (k_ : (Nat → Nat) → β) : β := (k_ (updN r24_f ((3 * ch) + 2) ((r24_f ((3 * ch) + 2)) + ((((r24_f ((3 * ch) + 2)) + 32) / 32) * 5))))
set_option maxRecDepth 100000 in
theorem fn_wr_X11_rises_2_s {r24_f : Nat → Nat} {ch : Nat} {β : Type} {k_ : (Nat → Nat) → β} : fn_wr_X11_rises_2 r24_f ch β k_ = (k_ (updN r24_f ((3 * ch) + 2) ((r24_f ((3 * ch) + 2)) + ((((r24_f ((3 * ch) + 2)) + 32) / 32) * 5)))) := rfl
set_option maxRecDepth 100000 in
set_option maxHeartbeats 4000000 in
theorem wr_X11_rises_2 (E : g_E) (m : Nat) (r : Nat → Nat) (m_1 : Nat) (m_4 : Nat) (m_9 : Nat) (m_10 : Nat) (m_14 : Nat) (m_15 : Nat) (m_25 : Int32) (m_26 : Int32) (m_27 : Int64) (m_28 : Nat) (m_29 : Nat) (m_31 : Nat) (m_32 : Nat) (m_33 : Nat) (m_35 : Nat) (m_36 : Nat) (m_37 : Int32) (m_38 : Nat) (m_39 : Int32) (m_40 : Int32) (m_42 : Nat) (r24_f : Nat → Nat) (ch : Nat) (h0 : ch < 2) (h1 : r24_f ((3 * ch) + 2) ≤ 34359738368) (ha0 : ∀ j, j < 6 → r24_f j ≤ 40000000000) : Ev E MX11_rises 0 0 0 0 [.ref m, .int (nI ch), .int 2] [(m, .inr (11, mkF r m_1 m_4 m_9 m_10 m_14 m_15 m_25 m_26 m_27 m_28 m_29 m_31 m_32 m_33 m_35 m_36 m_37 m_38 m_39 m_40 m_42)), ((r 24), .inl (E.2.2.1 3, 6, .inr (.inl (lM r24_f))))] (fun v_ w_ => ∃ zr24_f : Nat → Nat, (∀ j, j < 6 → zr24_f j ≤ 40000000000) ∧ (∀ i, ¬ i = ((3 * ch) + 2) → zr24_f i = r24_f i) ∧ (∀ (β : Type) (k_ : (Nat → Nat) → β), fn_wr_X11_rises_2 r24_f ch β k_ = k_ zr24_f) ∧ v_ = none ∧ w_ = [(m, .inr (11, mkF r m_1 m_4 m_9 m_10 m_14 m_15 m_25 m_26 m_27 m_28 m_29 m_31 m_32 m_33 m_35 m_36 m_37 m_38 m_39 m_40 m_42)), ((r 24), .inl (E.2.2.1 3, 6, .inr (.inl (lM zr24_f))))]) := by
  refine Ev.intro (by decide) (Nat.le_of_ble_eq_true rfl) ?_
  intro X B hr hI
  have B : Bd E X cX11_rises RX11 5 0 0 0 0 := B
  have hr : Rt E X none 0 0 (fun v_ w_ => ∃ zr24_f : Nat → Nat, (∀ j, j < 6 → zr24_f j ≤ 40000000000) ∧ (∀ i, ¬ i = ((3 * ch) + 2) → zr24_f i = r24_f i) ∧ (∀ (β : Type) (k_ : (Nat → Nat) → β), fn_wr_X11_rises_2 r24_f ch β k_ = k_ zr24_f) ∧ v_ = none ∧ w_ = [(m, .inr (11, mkF r m_1 m_4 m_9 m_10 m_14 m_15 m_25 m_26 m_27 m_28 m_29 m_31 m_32 m_33 m_35 m_36 m_37 m_38 m_39 m_40 m_42)), ((r 24), .inl (E.2.2.1 3, 6, .inr (.inl (lM zr24_f))))]) := hr
  have e_ := fun (β : Type) (k_ : (Nat → Nat) → β) => fn_wr_X11_rises_2_s (β := β) (k_ := k_) (r24_f := r24_f) (ch := ch)
  show G E X 5 [(m, .inr (11, mkF r m_1 m_4 m_9 m_10 m_14 m_15 m_25 m_26 m_27 m_28 m_29 m_31 m_32 m_33 m_35 m_36 m_37 m_38 m_39 m_40 m_42)), ((r 24), .inl (E.2.2.1 3, 6, .inr (.inl (lM r24_f))))] 0 0 [(0, .ref m), (1, .int (nI ch)), (2, .int 2)] 0 []
  refine g_sipush (v := 128) B dX11_rises_0 (by decide) ?_
  refine g_iload_n B dX11_rises_3 rfl 2 rfl ?_
  refine g_ishr B dX11_rises_4 ?_
  refine g_ri (x' := 32) (by decide) ?_
  refine g_i2l B dX11_rises_5 ?_
  refine g_rl (x' := 32) (by decide) ?_
  refine g_lstore_n (lv' := [(3, .long 32), (0, .ref m), (1, .int (nI ch)), (2, .int 2)]) B dX11_rises_6 rfl (by decide) rfl ?_
  refine g_aload_n B dX11_rises_7 rfl 1 rfl ?_
  refine g_get B 0 24 fl_X11_66 rfl mf_24 dX11_rises_8 ?_
  refine g_iconst (v := 3) B dX11_rises_11 (by decide) ?_
  refine g_iload_n B dX11_rises_12 rfl 2 rfl ?_
  refine g_imul B dX11_rises_13 ?_
  refine g_ri (x' := nI (3 * ch)) (pk_mul 3 ch) ?_
  refine g_iload_n B dX11_rises_14 rfl 3 rfl ?_
  refine g_iadd B dX11_rises_15 ?_
  refine g_ri (x' := nI ((3 * ch) + 2)) (nI_add (3 * ch) 2) ?_
  refine g_dup2_11 B dX11_rises_16 rfl rfl ?_
  refine g_lald B 1 rfl (vp_in_nI (by omega) (by omega)) dX11_rises_17 ?_
  refine g_rl (x' := lN (r24_f ((3 * ch) + 2))) (lM_at (f := r24_f) (i := ((3 * ch) + 2)) (by omega)) ?_
  have ha_2221 := ha0 ((3 * ch) + 2) (by omega)
  refine g_aload_n B dX11_rises_18 rfl 1 rfl ?_
  refine g_get B 0 24 fl_X11_66 rfl mf_24 dX11_rises_19 ?_
  refine g_iconst (v := 3) B dX11_rises_22 (by decide) ?_
  refine g_iload_n B dX11_rises_23 rfl 2 rfl ?_
  refine g_imul B dX11_rises_24 ?_
  refine g_ri (x' := nI (3 * ch)) (pk_mul 3 ch) ?_
  refine g_iload_n B dX11_rises_25 rfl 3 rfl ?_
  refine g_iadd B dX11_rises_26 ?_
  refine g_ri (x' := nI ((3 * ch) + 2)) (nI_add (3 * ch) 2) ?_
  refine g_lald B 1 rfl (vp_in_nI (by omega) (by omega)) dX11_rises_27 ?_
  refine g_rl (x' := lN (r24_f ((3 * ch) + 2))) (lM_at (f := r24_f) (i := ((3 * ch) + 2)) (by omega)) ?_
  have ha_2222 := ha0 ((3 * ch) + 2) (by omega)
  refine g_lload_n B dX11_rises_28 rfl 0 rfl ?_
  refine g_ladd B dX11_rises_29 ?_
  refine g_rl (x' := lN ((r24_f ((3 * ch) + 2)) + 32)) (lN_add (r24_f ((3 * ch) + 2)) 32) ?_
  refine g_lload_n B dX11_rises_30 rfl 0 rfl ?_
  refine g_ldiv B dX11_rises_31 (by decide) ?_
  refine g_rl (x' := lN (((r24_f ((3 * ch) + 2)) + 32) / 32)) (pk_lDiv (a := ((r24_f ((3 * ch) + 2)) + 32)) (b := 32) (by omega) (by omega) (by omega)) ?_
  refine g_ldc2 (v := 5) B w_k_X11_130 dX11_rises_32 ?_
  refine g_lmul B dX11_rises_35 ?_
  refine g_rl (x' := lN ((((r24_f ((3 * ch) + 2)) + 32) / 32) * 5)) (lN_mul (((r24_f ((3 * ch) + 2)) + 32) / 32) 5) ?_
  refine g_ladd B dX11_rises_36 ?_
  refine g_rl (x' := lN ((r24_f ((3 * ch) + 2)) + ((((r24_f ((3 * ch) + 2)) + 32) / 32) * 5))) (lN_add (r24_f ((3 * ch) + 2)) ((((r24_f ((3 * ch) + 2)) + 32) / 32) * 5)) ?_
  have ha_2223 := updN_le (i := ((3 * ch) + 2)) (x := ((r24_f ((3 * ch) + 2)) + ((((r24_f ((3 * ch) + 2)) + 32) / 32) * 5))) ha0 (by omega)
  refine g_last (ws' := [(m, .inr (11, mkF r m_1 m_4 m_9 m_10 m_14 m_15 m_25 m_26 m_27 m_28 m_29 m_31 m_32 m_33 m_35 m_36 m_37 m_38 m_39 m_40 m_42)), ((r 24), .inl (E.2.2.1 3, 6, .inr (.inl (lM (updN r24_f ((3 * ch) + 2) ((r24_f ((3 * ch) + 2)) + ((((r24_f ((3 * ch) + 2)) + 32) / 32) * 5)))))))]) B 1 rfl (vp_in_nI (by omega) (by omega)) (by rw [show (vp_updL (lM r24_f) (Int32.toNatClampNeg (nI ((3 * ch) + 2))) (lN ((r24_f ((3 * ch) + 2)) + ((((r24_f ((3 * ch) + 2)) + 32) / 32) * 5)))) = lM (updN r24_f ((3 * ch) + 2) ((r24_f ((3 * ch) + 2)) + ((((r24_f ((3 * ch) + 2)) + 32) / 32) * 5))) from lM_upd (f := r24_f) (i := ((3 * ch) + 2)) (x := ((r24_f ((3 * ch) + 2)) + ((((r24_f ((3 * ch) + 2)) + 32) / 32) * 5))) (by omega)]; rfl) dX11_rises_37 ?_
  exact g_vret B hr dX11_rises_38 (by decide) (by decide) ⟨(updN r24_f ((3 * ch) + 2) ((r24_f ((3 * ch) + 2)) + ((((r24_f ((3 * ch) + 2)) + 32) / 32) * 5))), (by first | assumption | omega | decide | exact hCF _ (by omega)), (fun i hi => if_neg hi), e_, rfl, rfl⟩
set_option maxRecDepth 100000 in
def fn_wr_X11_falls_2 (r24_f : Nat → Nat) (ch : Nat) (β : Type) (k_ : (Nat → Nat) → β) : β := (k_ (updN r24_f ((3 * ch) + 2) ((r24_f ((3 * ch) + 2)) - (((((r24_f ((3 * ch) + 2)) + 32) - 2) / 32) * 2))))
set_option maxRecDepth 100000 in
theorem fn_wr_X11_falls_2_s {r24_f : Nat → Nat} {ch : Nat} {β : Type} {k_ : (Nat → Nat) → β} : fn_wr_X11_falls_2 r24_f ch β k_ = (k_ (updN r24_f ((3 * ch) + 2) ((r24_f ((3 * ch) + 2)) - (((((r24_f ((3 * ch) + 2)) + 32) - 2) / 32) * 2)))) := rfl
set_option maxRecDepth 100000 in
set_option maxHeartbeats 4000000 in
theorem wr_X11_falls_2 (E : g_E) (m : Nat) (r : Nat → Nat) (m_1 : Nat) (m_4 : Nat) (m_9 : Nat) (m_10 : Nat) (m_14 : Nat) (m_15 : Nat) (m_25 : Int32) (m_26 : Int32) (m_27 : Int64) (m_28 : Nat) (m_29 : Nat) (m_31 : Nat) (m_32 : Nat) (m_33 : Nat) (m_35 : Nat) (m_36 : Nat) (m_37 : Int32) (m_38 : Nat) (m_39 : Int32) (m_40 : Int32) (m_42 : Nat) (r24_f : Nat → Nat) (ch : Nat) (h0 : ch < 2) (ha0 : ∀ j, j < 6 → r24_f j ≤ 40000000000) : Ev E MX11_falls 0 0 0 0 [.ref m, .int (nI ch), .int 2] [(m, .inr (11, mkF r m_1 m_4 m_9 m_10 m_14 m_15 m_25 m_26 m_27 m_28 m_29 m_31 m_32 m_33 m_35 m_36 m_37 m_38 m_39 m_40 m_42)), ((r 24), .inl (E.2.2.1 3, 6, .inr (.inl (lM r24_f))))] (fun v_ w_ => ∃ zr24_f : Nat → Nat, (∀ j, j < 6 → zr24_f j ≤ 40000000000) ∧ (∀ i, ¬ i = ((3 * ch) + 2) → zr24_f i = r24_f i) ∧ (∀ (β : Type) (k_ : (Nat → Nat) → β), fn_wr_X11_falls_2 r24_f ch β k_ = k_ zr24_f) ∧ v_ = none ∧ w_ = [(m, .inr (11, mkF r m_1 m_4 m_9 m_10 m_14 m_15 m_25 m_26 m_27 m_28 m_29 m_31 m_32 m_33 m_35 m_36 m_37 m_38 m_39 m_40 m_42)), ((r 24), .inl (E.2.2.1 3, 6, .inr (.inl (lM zr24_f))))]) := by
  refine Ev.intro (by decide) (Nat.le_of_ble_eq_true rfl) ?_
  intro X B hr hI
  have B : Bd E X cX11_falls RX11 5 0 0 0 0 := B
  have hr : Rt E X none 0 0 (fun v_ w_ => ∃ zr24_f : Nat → Nat, (∀ j, j < 6 → zr24_f j ≤ 40000000000) ∧ (∀ i, ¬ i = ((3 * ch) + 2) → zr24_f i = r24_f i) ∧ (∀ (β : Type) (k_ : (Nat → Nat) → β), fn_wr_X11_falls_2 r24_f ch β k_ = k_ zr24_f) ∧ v_ = none ∧ w_ = [(m, .inr (11, mkF r m_1 m_4 m_9 m_10 m_14 m_15 m_25 m_26 m_27 m_28 m_29 m_31 m_32 m_33 m_35 m_36 m_37 m_38 m_39 m_40 m_42)), ((r 24), .inl (E.2.2.1 3, 6, .inr (.inl (lM zr24_f))))]) := hr
  have e_ := fun (β : Type) (k_ : (Nat → Nat) → β) => fn_wr_X11_falls_2_s (β := β) (k_ := k_) (r24_f := r24_f) (ch := ch)
  show G E X 5 [(m, .inr (11, mkF r m_1 m_4 m_9 m_10 m_14 m_15 m_25 m_26 m_27 m_28 m_29 m_31 m_32 m_33 m_35 m_36 m_37 m_38 m_39 m_40 m_42)), ((r 24), .inl (E.2.2.1 3, 6, .inr (.inl (lM r24_f))))] 0 0 [(0, .ref m), (1, .int (nI ch)), (2, .int 2)] 0 []
  refine g_sipush (v := 128) B dX11_falls_0 (by decide) ?_
  refine g_iload_n B dX11_falls_3 rfl 2 rfl ?_
  refine g_ishr B dX11_falls_4 ?_
  refine g_ri (x' := 32) (by decide) ?_
  refine g_i2l B dX11_falls_5 ?_
  refine g_rl (x' := 32) (by decide) ?_
  refine g_lstore_n (lv' := [(3, .long 32), (0, .ref m), (1, .int (nI ch)), (2, .int 2)]) B dX11_falls_6 rfl (by decide) rfl ?_
  refine g_aload_n B dX11_falls_7 rfl 1 rfl ?_
  refine g_get B 0 24 fl_X11_66 rfl mf_24 dX11_falls_8 ?_
  refine g_iconst (v := 3) B dX11_falls_11 (by decide) ?_
  refine g_iload_n B dX11_falls_12 rfl 2 rfl ?_
  refine g_imul B dX11_falls_13 ?_
  refine g_ri (x' := nI (3 * ch)) (pk_mul 3 ch) ?_
  refine g_iload_n B dX11_falls_14 rfl 3 rfl ?_
  refine g_iadd B dX11_falls_15 ?_
  refine g_ri (x' := nI ((3 * ch) + 2)) (nI_add (3 * ch) 2) ?_
  refine g_dup2_11 B dX11_falls_16 rfl rfl ?_
  refine g_lald B 1 rfl (vp_in_nI (by omega) (by omega)) dX11_falls_17 ?_
  refine g_rl (x' := lN (r24_f ((3 * ch) + 2))) (lM_at (f := r24_f) (i := ((3 * ch) + 2)) (by omega)) ?_
  have ha_2224 := ha0 ((3 * ch) + 2) (by omega)
  refine g_aload_n B dX11_falls_18 rfl 1 rfl ?_
  refine g_get B 0 24 fl_X11_66 rfl mf_24 dX11_falls_19 ?_
  refine g_iconst (v := 3) B dX11_falls_22 (by decide) ?_
  refine g_iload_n B dX11_falls_23 rfl 2 rfl ?_
  refine g_imul B dX11_falls_24 ?_
  refine g_ri (x' := nI (3 * ch)) (pk_mul 3 ch) ?_
  refine g_iload_n B dX11_falls_25 rfl 3 rfl ?_
  refine g_iadd B dX11_falls_26 ?_
  refine g_ri (x' := nI ((3 * ch) + 2)) (nI_add (3 * ch) 2) ?_
  refine g_lald B 1 rfl (vp_in_nI (by omega) (by omega)) dX11_falls_27 ?_
  refine g_rl (x' := lN (r24_f ((3 * ch) + 2))) (lM_at (f := r24_f) (i := ((3 * ch) + 2)) (by omega)) ?_
  have ha_2225 := ha0 ((3 * ch) + 2) (by omega)
  refine g_lload_n B dX11_falls_28 rfl 0 rfl ?_
  refine g_ladd B dX11_falls_29 ?_
  refine g_rl (x' := lN ((r24_f ((3 * ch) + 2)) + 32)) (lN_add (r24_f ((3 * ch) + 2)) 32) ?_
  refine g_ldc2 (v := 2) B w_k_X11_132 dX11_falls_30 ?_
  refine g_lsub B dX11_falls_33 ?_
  refine g_rl (x' := lN (((r24_f ((3 * ch) + 2)) + 32) - 2)) (lN_sub (a := ((r24_f ((3 * ch) + 2)) + 32)) (b := 2) (by omega)) ?_
  refine g_lload_n B dX11_falls_34 rfl 0 rfl ?_
  refine g_ldiv B dX11_falls_35 (by decide) ?_
  refine g_rl (x' := lN ((((r24_f ((3 * ch) + 2)) + 32) - 2) / 32)) (pk_lDiv (a := (((r24_f ((3 * ch) + 2)) + 32) - 2)) (b := 32) (by omega) (by omega) (by omega)) ?_
  refine g_ldc2 (v := 2) B w_k_X11_132 dX11_falls_36 ?_
  refine g_lmul B dX11_falls_39 ?_
  refine g_rl (x' := lN (((((r24_f ((3 * ch) + 2)) + 32) - 2) / 32) * 2)) (lN_mul ((((r24_f ((3 * ch) + 2)) + 32) - 2) / 32) 2) ?_
  refine g_lsub B dX11_falls_40 ?_
  refine g_rl (x' := lN ((r24_f ((3 * ch) + 2)) - (((((r24_f ((3 * ch) + 2)) + 32) - 2) / 32) * 2))) (lN_sub (a := (r24_f ((3 * ch) + 2))) (b := (((((r24_f ((3 * ch) + 2)) + 32) - 2) / 32) * 2)) (by omega)) ?_
  have ha_2226 := updN_le (i := ((3 * ch) + 2)) (x := ((r24_f ((3 * ch) + 2)) - (((((r24_f ((3 * ch) + 2)) + 32) - 2) / 32) * 2))) ha0 (by omega)
  refine g_last (ws' := [(m, .inr (11, mkF r m_1 m_4 m_9 m_10 m_14 m_15 m_25 m_26 m_27 m_28 m_29 m_31 m_32 m_33 m_35 m_36 m_37 m_38 m_39 m_40 m_42)), ((r 24), .inl (E.2.2.1 3, 6, .inr (.inl (lM (updN r24_f ((3 * ch) + 2) ((r24_f ((3 * ch) + 2)) - (((((r24_f ((3 * ch) + 2)) + 32) - 2) / 32) * 2)))))))]) B 1 rfl (vp_in_nI (by omega) (by omega)) (by rw [show (vp_updL (lM r24_f) (Int32.toNatClampNeg (nI ((3 * ch) + 2))) (lN ((r24_f ((3 * ch) + 2)) - (((((r24_f ((3 * ch) + 2)) + 32) - 2) / 32) * 2)))) = lM (updN r24_f ((3 * ch) + 2) ((r24_f ((3 * ch) + 2)) - (((((r24_f ((3 * ch) + 2)) + 32) - 2) / 32) * 2))) from lM_upd (f := r24_f) (i := ((3 * ch) + 2)) (x := ((r24_f ((3 * ch) + 2)) - (((((r24_f ((3 * ch) + 2)) + 32) - 2) / 32) * 2))) (by omega)]; rfl) dX11_falls_41 ?_
  exact g_vret B hr dX11_falls_42 (by decide) (by decide) ⟨(updN r24_f ((3 * ch) + 2) ((r24_f ((3 * ch) + 2)) - (((((r24_f ((3 * ch) + 2)) + 32) - 2) / 32) * 2))), (by first | assumption | omega | decide | exact hCF _ (by omega)), (fun i hi => if_neg hi), e_, rfl, rfl⟩
abbrev MX11_bounds : g_M := (yX11_bounds, cX11_bounds, 10, none)
theorem dX11_bounds_0 : decode cX11_bounds 0 = .ok (.aload_n 0, 1) := by decide +kernel
theorem dX11_bounds_1 : decode cX11_bounds 1 = .ok (.iload_n 1, 1) := by decide +kernel
theorem dX11_bounds_2 : decode cX11_bounds 2 = .ok (.iconst 0, 1) := by decide +kernel
theorem dX11_bounds_3 : decode cX11_bounds 3 = .ok (.invokevirtual 134, 3) := by decide +kernel
theorem w_ml_X11_134 : Cond.methodLink RX11 134 yX11_step ∈ g_tbl := g_tbl_in 1130 (by decide +kernel) (by decide +kernel)
theorem w_cd_X11_step : g_cw MX11_step ∈ g_tbl := g_tbl_in 1133 (by decide +kernel) (by decide +kernel)
theorem cl_X11_134 : CL RX11 134 2 MX11_step := ⟨w_ml_X11_134, w_cd_X11_step, w_ini_X11, by decide +kernel, by decide +kernel, by decide +kernel⟩
theorem w_im_X11_step : Cond.instanceMethod yX11_step ∈ g_tbl := g_tbl_in 1132 (by decide +kernel) (by decide +kernel)
theorem w_se_X11_step : Cond.selects RX11 yX11_step yX11_step ∈ g_tbl := g_tbl_in 46 (by decide +kernel) (by decide +kernel)
theorem dX11_bounds_6 : decode cX11_bounds 6 = .ok (.lstore 4, 2) := by decide +kernel
theorem dX11_bounds_8 : decode cX11_bounds 8 = .ok (.aload_n 0, 1) := by decide +kernel
theorem dX11_bounds_9 : decode cX11_bounds 9 = .ok (.iload_n 1, 1) := by decide +kernel
theorem dX11_bounds_10 : decode cX11_bounds 10 = .ok (.iconst 1, 1) := by decide +kernel
theorem dX11_bounds_11 : decode cX11_bounds 11 = .ok (.invokevirtual 134, 3) := by decide +kernel
theorem dX11_bounds_14 : decode cX11_bounds 14 = .ok (.lstore 6, 2) := by decide +kernel
theorem dX11_bounds_16 : decode cX11_bounds 16 = .ok (.aload_n 0, 1) := by decide +kernel
theorem dX11_bounds_17 : decode cX11_bounds 17 = .ok (.iload_n 1, 1) := by decide +kernel
theorem dX11_bounds_18 : decode cX11_bounds 18 = .ok (.iconst 2, 1) := by decide +kernel
theorem dX11_bounds_19 : decode cX11_bounds 19 = .ok (.invokevirtual 134, 3) := by decide +kernel
theorem dX11_bounds_22 : decode cX11_bounds 22 = .ok (.lstore 8, 2) := by decide +kernel
theorem dX11_bounds_24 : decode cX11_bounds 24 = .ok (.aload_n 0, 1) := by decide +kernel
theorem dX11_bounds_25 : decode cX11_bounds 25 = .ok (.lload_n 2, 1) := by decide +kernel
theorem dX11_bounds_26 : decode cX11_bounds 26 = .ok (.aload_n 0, 1) := by decide +kernel
theorem dX11_bounds_27 : decode cX11_bounds 27 = .ok (.getfield 110, 3) := by decide +kernel
theorem dX11_bounds_30 : decode cX11_bounds 30 = .ok (.lcmp, 1) := by decide +kernel
theorem dX11_bounds_31 : decode cX11_bounds 31 = .ok (.ifCond .le 7, 3) := by decide +kernel
theorem dX11_bounds_38 : decode cX11_bounds 38 = .ok (.aload_n 0, 1) := by decide +kernel
theorem dX11_bounds_39 : decode cX11_bounds 39 = .ok (.getfield 110, 3) := by decide +kernel
theorem dX11_bounds_42 : decode cX11_bounds 42 = .ok (.putfield 110, 3) := by decide +kernel
theorem dX11_bounds_45 : decode cX11_bounds 45 = .ok (.aload_n 0, 1) := by decide +kernel
theorem dX11_bounds_46 : decode cX11_bounds 46 = .ok (.lload_n 2, 1) := by decide +kernel
theorem dX11_bounds_47 : decode cX11_bounds 47 = .ok (.lconst 0, 1) := by decide +kernel
theorem dX11_bounds_48 : decode cX11_bounds 48 = .ok (.lcmp, 1) := by decide +kernel
theorem dX11_bounds_49 : decode cX11_bounds 49 = .ok (.ifCond .ne 7, 3) := by decide +kernel
theorem dX11_bounds_56 : decode cX11_bounds 56 = .ok (.lload_n 2, 1) := by decide +kernel
theorem dX11_bounds_57 : decode cX11_bounds 57 = .ok (.lconst 1, 1) := by decide +kernel
theorem dX11_bounds_58 : decode cX11_bounds 58 = .ok (.lcmp, 1) := by decide +kernel
theorem dX11_bounds_59 : decode cX11_bounds 59 = .ok (.ifCond .ne 8, 3) := by decide +kernel
theorem dX11_bounds_67 : decode cX11_bounds 67 = .ok (.lload 4, 2) := by decide +kernel
theorem dX11_bounds_69 : decode cX11_bounds 69 = .ok (.lload 6, 2) := by decide +kernel
theorem dX11_bounds_71 : decode cX11_bounds 71 = .ok (.ladd, 1) := by decide +kernel
theorem dX11_bounds_72 : decode cX11_bounds 72 = .ok (.lload_n 2, 1) := by decide +kernel
theorem dX11_bounds_73 : decode cX11_bounds 73 = .ok (.ldc2_w 132, 3) := by decide +kernel
theorem dX11_bounds_76 : decode cX11_bounds 76 = .ok (.lsub, 1) := by decide +kernel
theorem dX11_bounds_77 : decode cX11_bounds 77 = .ok (.lload 8, 2) := by decide +kernel
theorem dX11_bounds_79 : decode cX11_bounds 79 = .ok (.lmul, 1) := by decide +kernel
theorem dX11_bounds_80 : decode cX11_bounds 80 = .ok (.ladd, 1) := by decide +kernel
theorem dX11_bounds_81 : decode cX11_bounds 81 = .ok (.putfield 138, 3) := by decide +kernel
theorem w_fl_X11_138 : Cond.fieldLink RX11 138 (TX11 28).1 (TX11 28).2.1 (TX11 28).2.2.1 ∈ g_tbl := g_tbl_in 908 (by decide +kernel) (by decide +kernel)
theorem fl_X11_138 : FL RX11 138 11 28 := ⟨RX11, TX11, 50, rfl, by decide, inX_X11, w_fl_X11_138⟩
theorem pf_X11_28 : PF 11 28 .long false := fun C T N h => by cases h; exact ⟨⟨tyX11, tyX11_ok⟩, nmX11, by decide +kernel, rfl, rfl⟩
theorem dX11_bounds_84 : decode cX11_bounds 84 = .ok (.aload_n 0, 1) := by decide +kernel
theorem dX11_bounds_85 : decode cX11_bounds 85 = .ok (.aload_n 0, 1) := by decide +kernel
theorem dX11_bounds_86 : decode cX11_bounds 86 = .ok (.getfield 138, 3) := by decide +kernel
theorem dX11_bounds_89 : decode cX11_bounds 89 = .ok (.lload_n 2, 1) := by decide +kernel
theorem dX11_bounds_90 : decode cX11_bounds 90 = .ok (.lconst 0, 1) := by decide +kernel
theorem dX11_bounds_91 : decode cX11_bounds 91 = .ok (.lcmp, 1) := by decide +kernel
theorem dX11_bounds_92 : decode cX11_bounds 92 = .ok (.ifCond .ne 8, 3) := by decide +kernel
theorem dX11_bounds_100 : decode cX11_bounds 100 = .ok (.lload_n 2, 1) := by decide +kernel
theorem dX11_bounds_101 : decode cX11_bounds 101 = .ok (.lconst 1, 1) := by decide +kernel
theorem dX11_bounds_102 : decode cX11_bounds 102 = .ok (.lcmp, 1) := by decide +kernel
theorem dX11_bounds_103 : decode cX11_bounds 103 = .ok (.ifCond .ne 8, 3) := by decide +kernel
theorem dX11_bounds_111 : decode cX11_bounds 111 = .ok (.lload 8, 2) := by decide +kernel
theorem dX11_bounds_113 : decode cX11_bounds 113 = .ok (.ladd, 1) := by decide +kernel
theorem dX11_bounds_114 : decode cX11_bounds 114 = .ok (.lconst 1, 1) := by decide +kernel
theorem dX11_bounds_115 : decode cX11_bounds 115 = .ok (.lsub, 1) := by decide +kernel
theorem dX11_bounds_116 : decode cX11_bounds 116 = .ok (.putfield 141, 3) := by decide +kernel
theorem w_fl_X11_141 : Cond.fieldLink RX11 141 (TX11 29).1 (TX11 29).2.1 (TX11 29).2.2.1 ∈ g_tbl := g_tbl_in 909 (by decide +kernel) (by decide +kernel)
theorem fl_X11_141 : FL RX11 141 11 29 := ⟨RX11, TX11, 50, rfl, by decide, inX_X11, w_fl_X11_141⟩
theorem pf_X11_29 : PF 11 29 .long false := fun C T N h => by cases h; exact ⟨⟨tyX11, tyX11_ok⟩, nmX11, by decide +kernel, rfl, rfl⟩
theorem dX11_bounds_119 : decode cX11_bounds 119 = .ok (.aload_n 0, 1) := by decide +kernel
theorem dX11_bounds_120 : decode cX11_bounds 120 = .ok (.getfield 138, 3) := by decide +kernel
theorem dX11_bounds_123 : decode cX11_bounds 123 = .ok (.ldc2_w 144, 3) := by decide +kernel
theorem w_k_X11_144 : Cond.constantLong RX11 144 2147483647 ∈ g_tbl := g_tbl_in 1139 (by decide +kernel) (by decide +kernel)
theorem dX11_bounds_126 : decode cX11_bounds 126 = .ok (.lcmp, 1) := by decide +kernel
theorem dX11_bounds_127 : decode cX11_bounds 127 = .ok (.ifCond .le 4, 3) := by decide +kernel
theorem dX11_bounds_131 : decode cX11_bounds 131 = .ok (.lload_n 2, 1) := by decide +kernel
theorem dX11_bounds_132 : decode cX11_bounds 132 = .ok (.lconst 0, 1) := by decide +kernel
theorem dX11_bounds_133 : decode cX11_bounds 133 = .ok (.lcmp, 1) := by decide +kernel
theorem dX11_bounds_134 : decode cX11_bounds 134 = .ok (.ifCond .ne 10, 3) := by decide +kernel
theorem dX11_bounds_144 : decode cX11_bounds 144 = .ok (.aload_n 0, 1) := by decide +kernel
theorem dX11_bounds_145 : decode cX11_bounds 145 = .ok (.iload_n 1, 1) := by decide +kernel
theorem dX11_bounds_146 : decode cX11_bounds 146 = .ok (.iconst 0, 1) := by decide +kernel
theorem dX11_bounds_147 : decode cX11_bounds 147 = .ok (.invokevirtual 150, 3) := by decide +kernel
theorem w_ml_X11_150 : Cond.methodLink RX11 150 yX11_rises ∈ g_tbl := g_tbl_in 1144 (by decide +kernel) (by decide +kernel)
theorem w_cd_X11_rises : g_cw MX11_rises ∈ g_tbl := g_tbl_in 1147 (by decide +kernel) (by decide +kernel)
theorem cl_X11_150 : CL RX11 150 2 MX11_rises := ⟨w_ml_X11_150, w_cd_X11_rises, w_ini_X11, by decide +kernel, by decide +kernel, by decide +kernel⟩
theorem w_im_X11_rises : Cond.instanceMethod yX11_rises ∈ g_tbl := g_tbl_in 1146 (by decide +kernel) (by decide +kernel)
theorem w_se_X11_rises : Cond.selects RX11 yX11_rises yX11_rises ∈ g_tbl := g_tbl_in 49 (by decide +kernel) (by decide +kernel)
theorem dX11_bounds_150 : decode cX11_bounds 150 = .ok (.lload_n 2, 1) := by decide +kernel
theorem dX11_bounds_151 : decode cX11_bounds 151 = .ok (.lconst 1, 1) := by decide +kernel
theorem dX11_bounds_152 : decode cX11_bounds 152 = .ok (.lcmp, 1) := by decide +kernel
theorem dX11_bounds_153 : decode cX11_bounds 153 = .ok (.ifCond .ne 10, 3) := by decide +kernel
theorem dX11_bounds_163 : decode cX11_bounds 163 = .ok (.aload_n 0, 1) := by decide +kernel
theorem dX11_bounds_164 : decode cX11_bounds 164 = .ok (.iload_n 1, 1) := by decide +kernel
theorem dX11_bounds_165 : decode cX11_bounds 165 = .ok (.iconst 1, 1) := by decide +kernel
theorem dX11_bounds_166 : decode cX11_bounds 166 = .ok (.invokevirtual 150, 3) := by decide +kernel
theorem dX11_bounds_169 : decode cX11_bounds 169 = .ok (.lload_n 2, 1) := by decide +kernel
theorem dX11_bounds_170 : decode cX11_bounds 170 = .ok (.ldc2_w 132, 3) := by decide +kernel
theorem dX11_bounds_173 : decode cX11_bounds 173 = .ok (.lcmp, 1) := by decide +kernel
theorem dX11_bounds_174 : decode cX11_bounds 174 = .ok (.ifCond .ne 12, 3) := by decide +kernel
theorem dX11_bounds_186 : decode cX11_bounds 186 = .ok (.aload_n 0, 1) := by decide +kernel
theorem dX11_bounds_187 : decode cX11_bounds 187 = .ok (.iload_n 1, 1) := by decide +kernel
theorem dX11_bounds_188 : decode cX11_bounds 188 = .ok (.iconst 2, 1) := by decide +kernel
theorem dX11_bounds_189 : decode cX11_bounds 189 = .ok (.invokevirtual 150, 3) := by decide +kernel
theorem dX11_bounds_192 : decode cX11_bounds 192 = .ok (.return_, 1) := by decide +kernel
theorem dX11_bounds_177 : decode cX11_bounds 177 = .ok (.aload_n 0, 1) := by decide +kernel
theorem dX11_bounds_178 : decode cX11_bounds 178 = .ok (.iload_n 1, 1) := by decide +kernel
theorem dX11_bounds_179 : decode cX11_bounds 179 = .ok (.iconst 2, 1) := by decide +kernel
theorem dX11_bounds_180 : decode cX11_bounds 180 = .ok (.invokevirtual 146, 3) := by decide +kernel
theorem w_ml_X11_146 : Cond.methodLink RX11 146 yX11_falls ∈ g_tbl := g_tbl_in 1140 (by decide +kernel) (by decide +kernel)
theorem w_cd_X11_falls : g_cw MX11_falls ∈ g_tbl := g_tbl_in 1143 (by decide +kernel) (by decide +kernel)
theorem cl_X11_146 : CL RX11 146 2 MX11_falls := ⟨w_ml_X11_146, w_cd_X11_falls, w_ini_X11, by decide +kernel, by decide +kernel, by decide +kernel⟩
theorem w_im_X11_falls : Cond.instanceMethod yX11_falls ∈ g_tbl := g_tbl_in 1142 (by decide +kernel) (by decide +kernel)
theorem w_se_X11_falls : Cond.selects RX11 yX11_falls yX11_falls ∈ g_tbl := g_tbl_in 48 (by decide +kernel) (by decide +kernel)
theorem dX11_bounds_183 : decode cX11_bounds 183 = .ok (.goto 9, 3) := by decide +kernel
theorem dX11_bounds_130 : decode cX11_bounds 130 = .ok (.return_, 1) := by decide +kernel
theorem dX11_bounds_62 : decode cX11_bounds 62 = .ok (.lload 4, 2) := by decide +kernel
theorem dX11_bounds_64 : decode cX11_bounds 64 = .ok (.goto 17, 3) := by decide +kernel
theorem dX11_bounds_106 : decode cX11_bounds 106 = .ok (.lload 6, 2) := by decide +kernel
theorem dX11_bounds_108 : decode cX11_bounds 108 = .ok (.goto 5, 3) := by decide +kernel
theorem dX11_bounds_156 : decode cX11_bounds 156 = .ok (.aload_n 0, 1) := by decide +kernel
theorem dX11_bounds_157 : decode cX11_bounds 157 = .ok (.iload_n 1, 1) := by decide +kernel
theorem dX11_bounds_158 : decode cX11_bounds 158 = .ok (.iconst 1, 1) := by decide +kernel
theorem dX11_bounds_159 : decode cX11_bounds 159 = .ok (.invokevirtual 146, 3) := by decide +kernel
theorem dX11_bounds_162 : decode cX11_bounds 162 = .ok (.return_, 1) := by decide +kernel
theorem dX11_bounds_52 : decode cX11_bounds 52 = .ok (.lconst 0, 1) := by decide +kernel
theorem dX11_bounds_53 : decode cX11_bounds 53 = .ok (.goto 28, 3) := by decide +kernel
theorem dX11_bounds_95 : decode cX11_bounds 95 = .ok (.lload 4, 2) := by decide +kernel
theorem dX11_bounds_97 : decode cX11_bounds 97 = .ok (.goto 16, 3) := by decide +kernel
theorem dX11_bounds_137 : decode cX11_bounds 137 = .ok (.aload_n 0, 1) := by decide +kernel
theorem dX11_bounds_138 : decode cX11_bounds 138 = .ok (.iload_n 1, 1) := by decide +kernel
theorem dX11_bounds_139 : decode cX11_bounds 139 = .ok (.iconst 0, 1) := by decide +kernel
theorem dX11_bounds_140 : decode cX11_bounds 140 = .ok (.invokevirtual 146, 3) := by decide +kernel
theorem dX11_bounds_143 : decode cX11_bounds 143 = .ok (.return_, 1) := by decide +kernel
set_option maxRecDepth 100000 in
def jf_wr_X11_bounds_45 (r24_f : Nat → Nat) (ch : Nat) (on : Nat) (pm_27 : Int64) (β : Type) (k_ : Int64 → Nat → Nat → (Nat → Nat) → β) : β := (if on = 0 then (fn_wr_X11_falls_0 r24_f ch β (fun zr24_f_2273 => (k_ pm_27 0 ((0 + (r24_f ((3 * ch) + 0) / 16 + 1)) - 1) zr24_f_2273))) else (if on = 1 then (if (r24_f ((3 * ch) + 0) / 16 + 1) ≤ 2147483647 then (fn_wr_X11_rises_0 r24_f ch β (fun zr24_f_2265 => (fn_wr_X11_falls_1 zr24_f_2265 ch β (fun zr24_f_2269 => (k_ pm_27 (r24_f ((3 * ch) + 0) / 16 + 1) (((r24_f ((3 * ch) + 0) / 16 + 1) + (r24_f ((3 * ch) + 1) / 16 + 1)) - 1) zr24_f_2269))))) else (k_ pm_27 (r24_f ((3 * ch) + 0) / 16 + 1) (((r24_f ((3 * ch) + 0) / 16 + 1) + (r24_f ((3 * ch) + 1) / 16 + 1)) - 1) r24_f)) else (if (((r24_f ((3 * ch) + 0) / 16 + 1) + (r24_f ((3 * ch) + 1) / 16 + 1)) + ((on - 2) * (r24_f ((3 * ch) + 2) / 16 + 1))) ≤ 2147483647 then (fn_wr_X11_rises_0 r24_f ch β (fun zr24_f_2243 => (fn_wr_X11_rises_1 zr24_f_2243 ch β (fun zr24_f_2247 => (if on = 2 then (fn_wr_X11_falls_2 zr24_f_2247 ch β (fun zr24_f_2258 => (k_ pm_27 (((r24_f ((3 * ch) + 0) / 16 + 1) + (r24_f ((3 * ch) + 1) / 16 + 1)) + ((on - 2) * (r24_f ((3 * ch) + 2) / 16 + 1))) (((((r24_f ((3 * ch) + 0) / 16 + 1) + (r24_f ((3 * ch) + 1) / 16 + 1)) + ((on - 2) * (r24_f ((3 * ch) + 2) / 16 + 1))) + (r24_f ((3 * ch) + 2) / 16 + 1)) - 1) zr24_f_2258))) else (fn_wr_X11_rises_2 zr24_f_2247 ch β (fun zr24_f_2254 => (k_ pm_27 (((r24_f ((3 * ch) + 0) / 16 + 1) + (r24_f ((3 * ch) + 1) / 16 + 1)) + ((on - 2) * (r24_f ((3 * ch) + 2) / 16 + 1))) (((((r24_f ((3 * ch) + 0) / 16 + 1) + (r24_f ((3 * ch) + 1) / 16 + 1)) + ((on - 2) * (r24_f ((3 * ch) + 2) / 16 + 1))) + (r24_f ((3 * ch) + 2) / 16 + 1)) - 1) zr24_f_2254)))))))) else (k_ pm_27 (((r24_f ((3 * ch) + 0) / 16 + 1) + (r24_f ((3 * ch) + 1) / 16 + 1)) + ((on - 2) * (r24_f ((3 * ch) + 2) / 16 + 1))) (((((r24_f ((3 * ch) + 0) / 16 + 1) + (r24_f ((3 * ch) + 1) / 16 + 1)) + ((on - 2) * (r24_f ((3 * ch) + 2) / 16 + 1))) + (r24_f ((3 * ch) + 2) / 16 + 1)) - 1) r24_f))))
set_option maxRecDepth 100000 in
theorem jf_wr_X11_bounds_45_s {r24_f : Nat → Nat} {ch : Nat} {on : Nat} {pm_27 : Int64} {β : Type} {k_ : Int64 → Nat → Nat → (Nat → Nat) → β} : jf_wr_X11_bounds_45 r24_f ch on pm_27 β k_ = (if on = 0 then (fn_wr_X11_falls_0 r24_f ch β (fun zr24_f_2273 => (k_ pm_27 0 ((0 + (r24_f ((3 * ch) + 0) / 16 + 1)) - 1) zr24_f_2273))) else (if on = 1 then (if (r24_f ((3 * ch) + 0) / 16 + 1) ≤ 2147483647 then (fn_wr_X11_rises_0 r24_f ch β (fun zr24_f_2265 => (fn_wr_X11_falls_1 zr24_f_2265 ch β (fun zr24_f_2269 => (k_ pm_27 (r24_f ((3 * ch) + 0) / 16 + 1) (((r24_f ((3 * ch) + 0) / 16 + 1) + (r24_f ((3 * ch) + 1) / 16 + 1)) - 1) zr24_f_2269))))) else (k_ pm_27 (r24_f ((3 * ch) + 0) / 16 + 1) (((r24_f ((3 * ch) + 0) / 16 + 1) + (r24_f ((3 * ch) + 1) / 16 + 1)) - 1) r24_f)) else (if (((r24_f ((3 * ch) + 0) / 16 + 1) + (r24_f ((3 * ch) + 1) / 16 + 1)) + ((on - 2) * (r24_f ((3 * ch) + 2) / 16 + 1))) ≤ 2147483647 then (fn_wr_X11_rises_0 r24_f ch β (fun zr24_f_2243 => (fn_wr_X11_rises_1 zr24_f_2243 ch β (fun zr24_f_2247 => (if on = 2 then (fn_wr_X11_falls_2 zr24_f_2247 ch β (fun zr24_f_2258 => (k_ pm_27 (((r24_f ((3 * ch) + 0) / 16 + 1) + (r24_f ((3 * ch) + 1) / 16 + 1)) + ((on - 2) * (r24_f ((3 * ch) + 2) / 16 + 1))) (((((r24_f ((3 * ch) + 0) / 16 + 1) + (r24_f ((3 * ch) + 1) / 16 + 1)) + ((on - 2) * (r24_f ((3 * ch) + 2) / 16 + 1))) + (r24_f ((3 * ch) + 2) / 16 + 1)) - 1) zr24_f_2258))) else (fn_wr_X11_rises_2 zr24_f_2247 ch β (fun zr24_f_2254 => (k_ pm_27 (((r24_f ((3 * ch) + 0) / 16 + 1) + (r24_f ((3 * ch) + 1) / 16 + 1)) + ((on - 2) * (r24_f ((3 * ch) + 2) / 16 + 1))) (((((r24_f ((3 * ch) + 0) / 16 + 1) + (r24_f ((3 * ch) + 1) / 16 + 1)) + ((on - 2) * (r24_f ((3 * ch) + 2) / 16 + 1))) + (r24_f ((3 * ch) + 2) / 16 + 1)) - 1) zr24_f_2254)))))))) else (k_ pm_27 (((r24_f ((3 * ch) + 0) / 16 + 1) + (r24_f ((3 * ch) + 1) / 16 + 1)) + ((on - 2) * (r24_f ((3 * ch) + 2) / 16 + 1))) (((((r24_f ((3 * ch) + 0) / 16 + 1) + (r24_f ((3 * ch) + 1) / 16 + 1)) + ((on - 2) * (r24_f ((3 * ch) + 2) / 16 + 1))) + (r24_f ((3 * ch) + 2) / 16 + 1)) - 1) r24_f)))) := rfl
set_option maxRecDepth 100000 in
set_option maxHeartbeats 4000000 in
theorem jn_wr_X11_bounds_45 (E : g_E) (m : Nat) (r : Nat → Nat) (m_1 : Nat) (m_4 : Nat) (m_9 : Nat) (m_10 : Nat) (m_14 : Nat) (m_15 : Nat) (m_25 : Int32) (m_26 : Int32) (m_27 : Int64) (m_28 : Nat) (m_29 : Nat) (m_31 : Nat) (m_32 : Nat) (m_33 : Nat) (m_35 : Nat) (m_36 : Nat) (m_37 : Int32) (m_38 : Nat) (m_39 : Int32) (m_40 : Int32) (m_42 : Nat) (r24_f : Nat → Nat) (ch : Nat) (on : Nat) (h0 : ch < 2) (h1 : on ≤ 2147483650) (hb0 : m_28 ≤ 6000000000000000000) (hb1 : m_29 ≤ 6000000000000000000) (ha0 : ∀ j, j < 6 → r24_f j ≤ 40000000000) (pm_27 : Int64) (hv0 : r24_f ((3 * ch) + 0) ≤ 40000000000) (hv1 : r24_f ((3 * ch) + 1) ≤ 40000000000) (hv2 : r24_f ((3 * ch) + 2) ≤ 40000000000) {X : g_X} {rr : (β : Type) → (Int64 → Nat → Nat → (Nat → Nat) → β) → β} (B : Bd E X cX11_bounds RX11 10 1 24 0 0) (hr : Rt E X none 0 0 (fun v_ w_ => ∃ zm_27 : Int64, ∃ zm_28 : Nat, ∃ zm_29 : Nat, ∃ zr24_f : Nat → Nat, (zm_28 ≤ 6000000000000000000) ∧ (zm_29 ≤ 6000000000000000000) ∧ (∀ j, j < 6 → zr24_f j ≤ 40000000000) ∧ (zm_28 ≤ zm_29) ∧ (zm_29 ≤ zm_28 + 2500000001) ∧ (on = 0 → zm_28 = 0) ∧ (on = 1 → zm_28 = (r24_f ((3 * ch) + 0) / 16 + 1)) ∧ (2 ≤ on → zm_28 = (r24_f ((3 * ch) + 0) / 16 + 1) + (r24_f ((3 * ch) + 1) / 16 + 1) + (on - 2) * (r24_f ((3 * ch) + 2) / 16 + 1)) ∧ (∀ (β : Type) (k_ : Int64 → Nat → Nat → (Nat → Nat) → β), rr β k_ = k_ zm_27 zm_28 zm_29 zr24_f) ∧ v_ = none ∧ w_ = [(m, .inr (11, mkF r m_1 m_4 m_9 m_10 m_14 m_15 m_25 m_26 zm_27 zm_28 zm_29 m_31 m_32 m_33 m_35 m_36 m_37 m_38 m_39 m_40 m_42)), ((r 24), .inl (E.2.2.1 3, 6, .inr (.inl (lM zr24_f))))])) (e_ : ∀ (β : Type) (k_ : Int64 → Nat → Nat → (Nat → Nat) → β), rr β k_ = jf_wr_X11_bounds_45 r24_f ch on pm_27 β k_) : G E X 10 [(m, .inr (11, mkF r m_1 m_4 m_9 m_10 m_14 m_15 m_25 m_26 pm_27 m_28 m_29 m_31 m_32 m_33 m_35 m_36 m_37 m_38 m_39 m_40 m_42)), ((r 24), .inl (E.2.2.1 3, 6, .inr (.inl (lM r24_f))))] 0 0 [(0, .ref m), (1, .int (nI ch)), (2, .long (lN on)), (4, .long (lN (r24_f ((3 * ch) + 0) / 16 + 1))), (6, .long (lN (r24_f ((3 * ch) + 1) / 16 + 1))), (8, .long (lN (r24_f ((3 * ch) + 2) / 16 + 1)))] 45 [] := by
  replace e_ := fun β k_ => (e_ β k_).trans jf_wr_X11_bounds_45_s
  refine g_aload_n B dX11_bounds_45 rfl 0 rfl ?_
  refine g_lload_n B dX11_bounds_46 rfl 2 rfl ?_
  refine g_lconst (v := 0) B dX11_bounds_47 (by decide) ?_
  refine g_lcmp B dX11_bounds_48 ?_
  refine g_if_ne (tgt := 56) B dX11_bounds_49 (by decide) (fun c49_2234 => ?_) (fun c49_2234 => ?_)
  · have hn_2235 : ¬ on = 0 := fun q => c49_2234 ((lc_eq (a := on) (b := 0) (by omega) (by omega)).mpr q)
    replace e_ := fun β k_ => (e_ β k_).trans (if_neg hn_2235)
    refine g_lload_n B dX11_bounds_56 rfl 2 rfl ?_
    refine g_lconst (v := 1) B dX11_bounds_57 (by decide) ?_
    refine g_lcmp B dX11_bounds_58 ?_
    refine g_if_ne (tgt := 67) B dX11_bounds_59 (by decide) (fun c59_2237 => ?_) (fun c59_2237 => ?_)
    · have hn_2238 : ¬ on = 1 := fun q => c59_2237 ((lc_eq (a := on) (b := 1) (by omega) (by omega)).mpr q)
      replace e_ := fun β k_ => (e_ β k_).trans (if_neg hn_2238)
      refine g_lload B dX11_bounds_67 3 rfl ?_
      refine g_lload B dX11_bounds_69 4 rfl ?_
      refine g_ladd B dX11_bounds_71 ?_
      refine g_rl (x' := lN ((r24_f ((3 * ch) + 0) / 16 + 1) + (r24_f ((3 * ch) + 1) / 16 + 1))) (lN_add (r24_f ((3 * ch) + 0) / 16 + 1) (r24_f ((3 * ch) + 1) / 16 + 1)) ?_
      refine g_lload_n B dX11_bounds_72 rfl 2 rfl ?_
      refine g_ldc2 (v := 2) B w_k_X11_132 dX11_bounds_73 ?_
      refine g_lsub B dX11_bounds_76 ?_
      refine g_rl (x' := lN (on - 2)) (lN_sub (a := on) (b := 2) (by omega)) ?_
      refine g_lload B dX11_bounds_77 5 rfl ?_
      refine g_lmul B dX11_bounds_79 ?_
      refine g_rl (x' := lN ((on - 2) * (r24_f ((3 * ch) + 2) / 16 + 1))) (lN_mul (on - 2) (r24_f ((3 * ch) + 2) / 16 + 1)) ?_
      have hmul : (on - 2) * (r24_f ((3 * ch) + 2) / 16 + 1) ≤ 2147483648 * 2500000001 := Nat.mul_le_mul (by omega) (by omega)
      refine g_ladd B dX11_bounds_80 ?_
      refine g_rl (x' := lN (((r24_f ((3 * ch) + 0) / 16 + 1) + (r24_f ((3 * ch) + 1) / 16 + 1)) + ((on - 2) * (r24_f ((3 * ch) + 2) / 16 + 1)))) (lN_add ((r24_f ((3 * ch) + 0) / 16 + 1) + (r24_f ((3 * ch) + 1) / 16 + 1)) ((on - 2) * (r24_f ((3 * ch) + 2) / 16 + 1))) ?_
      refine g_putM (ws' := [(m, .inr (11, mkF r m_1 m_4 m_9 m_10 m_14 m_15 m_25 m_26 pm_27 (((r24_f ((3 * ch) + 0) / 16 + 1) + (r24_f ((3 * ch) + 1) / 16 + 1)) + ((on - 2) * (r24_f ((3 * ch) + 2) / 16 + 1))) m_29 m_31 m_32 m_33 m_35 m_36 m_37 m_38 m_39 m_40 m_42)), ((r 24), .inl (E.2.2.1 3, 6, .inr (.inl (lM r24_f))))]) (fs' := mkF r m_1 m_4 m_9 m_10 m_14 m_15 m_25 m_26 pm_27 (((r24_f ((3 * ch) + 0) / 16 + 1) + (r24_f ((3 * ch) + 1) / 16 + 1)) + ((on - 2) * (r24_f ((3 * ch) + 2) / 16 + 1))) m_29 m_31 m_32 m_33 m_35 m_36 m_37 m_38 m_39 m_40 m_42) B 0 28 fl_X11_138 pf_X11_28 rfl (mlt (by decide)) rfl rfl (ms_28 rfl) rfl dX11_bounds_81 ?_
      refine g_aload_n B dX11_bounds_84 rfl 0 rfl ?_
      refine g_aload_n B dX11_bounds_85 rfl 0 rfl ?_
      refine g_get B 0 28 fl_X11_138 rfl mf_28 dX11_bounds_86 ?_
      refine g_lload_n B dX11_bounds_89 rfl 2 rfl ?_
      refine g_lconst (v := 0) B dX11_bounds_90 (by decide) ?_
      refine g_lcmp B dX11_bounds_91 ?_
      refine g_if_ne (tgt := 100) B dX11_bounds_92 (by decide) (fun c92 => ?_) (fun h => absurd h c49_2234)
      refine g_lload_n B dX11_bounds_100 rfl 2 rfl ?_
      refine g_lconst (v := 1) B dX11_bounds_101 (by decide) ?_
      refine g_lcmp B dX11_bounds_102 ?_
      refine g_if_ne (tgt := 111) B dX11_bounds_103 (by decide) (fun c103 => ?_) (fun h => absurd h c59_2237)
      refine g_lload B dX11_bounds_111 5 rfl ?_
      refine g_ladd B dX11_bounds_113 ?_
      refine g_rl (x' := lN ((((r24_f ((3 * ch) + 0) / 16 + 1) + (r24_f ((3 * ch) + 1) / 16 + 1)) + ((on - 2) * (r24_f ((3 * ch) + 2) / 16 + 1))) + (r24_f ((3 * ch) + 2) / 16 + 1))) (lN_add (((r24_f ((3 * ch) + 0) / 16 + 1) + (r24_f ((3 * ch) + 1) / 16 + 1)) + ((on - 2) * (r24_f ((3 * ch) + 2) / 16 + 1))) (r24_f ((3 * ch) + 2) / 16 + 1)) ?_
      refine g_lconst (v := 1) B dX11_bounds_114 (by decide) ?_
      refine g_lsub B dX11_bounds_115 ?_
      refine g_rl (x' := lN (((((r24_f ((3 * ch) + 0) / 16 + 1) + (r24_f ((3 * ch) + 1) / 16 + 1)) + ((on - 2) * (r24_f ((3 * ch) + 2) / 16 + 1))) + (r24_f ((3 * ch) + 2) / 16 + 1)) - 1)) (lN_sub (a := ((((r24_f ((3 * ch) + 0) / 16 + 1) + (r24_f ((3 * ch) + 1) / 16 + 1)) + ((on - 2) * (r24_f ((3 * ch) + 2) / 16 + 1))) + (r24_f ((3 * ch) + 2) / 16 + 1))) (b := 1) (by omega)) ?_
      refine g_putM (ws' := [(m, .inr (11, mkF r m_1 m_4 m_9 m_10 m_14 m_15 m_25 m_26 pm_27 (((r24_f ((3 * ch) + 0) / 16 + 1) + (r24_f ((3 * ch) + 1) / 16 + 1)) + ((on - 2) * (r24_f ((3 * ch) + 2) / 16 + 1))) (((((r24_f ((3 * ch) + 0) / 16 + 1) + (r24_f ((3 * ch) + 1) / 16 + 1)) + ((on - 2) * (r24_f ((3 * ch) + 2) / 16 + 1))) + (r24_f ((3 * ch) + 2) / 16 + 1)) - 1) m_31 m_32 m_33 m_35 m_36 m_37 m_38 m_39 m_40 m_42)), ((r 24), .inl (E.2.2.1 3, 6, .inr (.inl (lM r24_f))))]) (fs' := mkF r m_1 m_4 m_9 m_10 m_14 m_15 m_25 m_26 pm_27 (((r24_f ((3 * ch) + 0) / 16 + 1) + (r24_f ((3 * ch) + 1) / 16 + 1)) + ((on - 2) * (r24_f ((3 * ch) + 2) / 16 + 1))) (((((r24_f ((3 * ch) + 0) / 16 + 1) + (r24_f ((3 * ch) + 1) / 16 + 1)) + ((on - 2) * (r24_f ((3 * ch) + 2) / 16 + 1))) + (r24_f ((3 * ch) + 2) / 16 + 1)) - 1) m_31 m_32 m_33 m_35 m_36 m_37 m_38 m_39 m_40 m_42) B 0 29 fl_X11_141 pf_X11_29 rfl (mlt (by decide)) rfl rfl (ms_29 rfl) rfl dX11_bounds_116 ?_
      refine g_aload_n B dX11_bounds_119 rfl 0 rfl ?_
      refine g_get B 0 28 fl_X11_138 rfl mf_28 dX11_bounds_120 ?_
      refine g_ldc2 (v := 2147483647) B w_k_X11_144 dX11_bounds_123 ?_
      refine g_lcmp B dX11_bounds_126 ?_
      refine g_if_le (tgt := 131) B dX11_bounds_127 (by decide) (fun c127_2240 => ?_) (fun c127_2240 => ?_)
      · have hn_2241 : (((r24_f ((3 * ch) + 0) / 16 + 1) + (r24_f ((3 * ch) + 1) / 16 + 1)) + ((on - 2) * (r24_f ((3 * ch) + 2) / 16 + 1))) ≤ 2147483647 := (lc_le (a := (((r24_f ((3 * ch) + 0) / 16 + 1) + (r24_f ((3 * ch) + 1) / 16 + 1)) + ((on - 2) * (r24_f ((3 * ch) + 2) / 16 + 1)))) (b := 2147483647) (by omega) (by omega)).mp c127_2240
        replace e_ := fun β k_ => (e_ β k_).trans (if_pos hn_2241)
        refine g_lload_n B dX11_bounds_131 rfl 2 rfl ?_
        refine g_lconst (v := 0) B dX11_bounds_132 (by decide) ?_
        refine g_lcmp B dX11_bounds_133 ?_
        refine g_if_ne (tgt := 144) B dX11_bounds_134 (by decide) (fun c134 => ?_) (fun h => absurd h c49_2234)
        refine g_aload_n B dX11_bounds_144 rfl 0 rfl ?_
        refine g_iload_n B dX11_bounds_145 rfl 1 rfl ?_
        refine g_iconst (v := 0) B dX11_bounds_146 (by decide) ?_
        refine g_callV (st := []) (As := [.int (nI ch), .int 0]) (wr := []) (nc' := 0) (ns' := 0) B cl_X11_150 w_im_X11_rises w_se_X11_rises (wr_X11_rises_0 E m r m_1 m_4 m_9 m_10 m_14 m_15 m_25 m_26 pm_27 (((r24_f ((3 * ch) + 0) / 16 + 1) + (r24_f ((3 * ch) + 1) / 16 + 1)) + ((on - 2) * (r24_f ((3 * ch) + 2) / 16 + 1))) (((((r24_f ((3 * ch) + 0) / 16 + 1) + (r24_f ((3 * ch) + 1) / 16 + 1)) + ((on - 2) * (r24_f ((3 * ch) + 2) / 16 + 1))) + (r24_f ((3 * ch) + 2) / 16 + 1)) - 1) m_31 m_32 m_33 m_35 m_36 m_37 m_38 m_39 m_40 m_42 r24_f ch (by first | assumption | omega | decide | exact hCF _ (by omega)) (by first | assumption | omega | decide | exact hCF _ (by omega)) (by first | assumption | omega | decide | exact hCF _ (by omega))) rfl [0, 1] [] rfl rfl (by decide) (by decide) (by decide) 0 rfl (fun q h => by cases h; rfl) rfl ⟨by decide, by decide⟩ rfl rfl (by decide) (by decide) rfl (Nat.le_of_ble_eq_true rfl) dX11_bounds_147 (fun v w hq => ?_)
        obtain ⟨zr24_f_2243, hf_2244, hf_2245, hz_2246, rfl, rfl⟩ := hq
        replace e_ := fun β k_ => (e_ β k_).trans (hz_2246 β _)
        show G E X 10 [(m, .inr (11, mkF r m_1 m_4 m_9 m_10 m_14 m_15 m_25 m_26 pm_27 (((r24_f ((3 * ch) + 0) / 16 + 1) + (r24_f ((3 * ch) + 1) / 16 + 1)) + ((on - 2) * (r24_f ((3 * ch) + 2) / 16 + 1))) (((((r24_f ((3 * ch) + 0) / 16 + 1) + (r24_f ((3 * ch) + 1) / 16 + 1)) + ((on - 2) * (r24_f ((3 * ch) + 2) / 16 + 1))) + (r24_f ((3 * ch) + 2) / 16 + 1)) - 1) m_31 m_32 m_33 m_35 m_36 m_37 m_38 m_39 m_40 m_42)), ((r 24), .inl (E.2.2.1 3, 6, .inr (.inl (lM zr24_f_2243))))] 0 0 [(0, .ref m), (1, .int (nI ch)), (2, .long (lN on)), (4, .long (lN (r24_f ((3 * ch) + 0) / 16 + 1))), (6, .long (lN (r24_f ((3 * ch) + 1) / 16 + 1))), (8, .long (lN (r24_f ((3 * ch) + 2) / 16 + 1)))] 150 []
        refine g_lload_n B dX11_bounds_150 rfl 2 rfl ?_
        refine g_lconst (v := 1) B dX11_bounds_151 (by decide) ?_
        refine g_lcmp B dX11_bounds_152 ?_
        refine g_if_ne (tgt := 163) B dX11_bounds_153 (by decide) (fun c153 => ?_) (fun h => absurd h c59_2237)
        refine g_aload_n B dX11_bounds_163 rfl 0 rfl ?_
        refine g_iload_n B dX11_bounds_164 rfl 1 rfl ?_
        refine g_iconst (v := 1) B dX11_bounds_165 (by decide) ?_
        refine g_callV (st := []) (As := [.int (nI ch), .int 1]) (wr := []) (nc' := 0) (ns' := 0) B cl_X11_150 w_im_X11_rises w_se_X11_rises (wr_X11_rises_1 E m r m_1 m_4 m_9 m_10 m_14 m_15 m_25 m_26 pm_27 (((r24_f ((3 * ch) + 0) / 16 + 1) + (r24_f ((3 * ch) + 1) / 16 + 1)) + ((on - 2) * (r24_f ((3 * ch) + 2) / 16 + 1))) (((((r24_f ((3 * ch) + 0) / 16 + 1) + (r24_f ((3 * ch) + 1) / 16 + 1)) + ((on - 2) * (r24_f ((3 * ch) + 2) / 16 + 1))) + (r24_f ((3 * ch) + 2) / 16 + 1)) - 1) m_31 m_32 m_33 m_35 m_36 m_37 m_38 m_39 m_40 m_42 zr24_f_2243 ch (by first | assumption | omega | decide | exact hCF _ (by omega)) (by have hq := hf_2245 ((3 * ch) + 1) (by omega); omega) (by first | assumption | omega | decide | exact hCF _ (by omega))) rfl [0, 1] [] rfl rfl (by decide) (by decide) (by decide) 0 rfl (fun q h => by cases h; rfl) rfl ⟨by decide, by decide⟩ rfl rfl (by decide) (by decide) rfl (Nat.le_of_ble_eq_true rfl) dX11_bounds_166 (fun v w hq => ?_)
        obtain ⟨zr24_f_2247, hf_2248, hf_2249, hz_2250, rfl, rfl⟩ := hq
        replace e_ := fun β k_ => (e_ β k_).trans (hz_2250 β _)
        show G E X 10 [(m, .inr (11, mkF r m_1 m_4 m_9 m_10 m_14 m_15 m_25 m_26 pm_27 (((r24_f ((3 * ch) + 0) / 16 + 1) + (r24_f ((3 * ch) + 1) / 16 + 1)) + ((on - 2) * (r24_f ((3 * ch) + 2) / 16 + 1))) (((((r24_f ((3 * ch) + 0) / 16 + 1) + (r24_f ((3 * ch) + 1) / 16 + 1)) + ((on - 2) * (r24_f ((3 * ch) + 2) / 16 + 1))) + (r24_f ((3 * ch) + 2) / 16 + 1)) - 1) m_31 m_32 m_33 m_35 m_36 m_37 m_38 m_39 m_40 m_42)), ((r 24), .inl (E.2.2.1 3, 6, .inr (.inl (lM zr24_f_2247))))] 0 0 [(0, .ref m), (1, .int (nI ch)), (2, .long (lN on)), (4, .long (lN (r24_f ((3 * ch) + 0) / 16 + 1))), (6, .long (lN (r24_f ((3 * ch) + 1) / 16 + 1))), (8, .long (lN (r24_f ((3 * ch) + 2) / 16 + 1)))] 169 []
        refine g_lload_n B dX11_bounds_169 rfl 2 rfl ?_
        refine g_ldc2 (v := 2) B w_k_X11_132 dX11_bounds_170 ?_
        refine g_lcmp B dX11_bounds_173 ?_
        refine g_if_ne (tgt := 186) B dX11_bounds_174 (by decide) (fun c174_2251 => ?_) (fun c174_2251 => ?_)
        · have hn_2252 : ¬ on = 2 := fun q => c174_2251 ((lc_eq (a := on) (b := 2) (by omega) (by omega)).mpr q)
          replace e_ := fun β k_ => (e_ β k_).trans (if_neg hn_2252)
          have hC : (r24_f ((3 * ch) + 2) / 16 + 1) ≤ (on - 2) * (r24_f ((3 * ch) + 2) / 16 + 1) := Nat.le_mul_of_pos_left _ (by omega)
          refine g_aload_n B dX11_bounds_186 rfl 0 rfl ?_
          refine g_iload_n B dX11_bounds_187 rfl 1 rfl ?_
          refine g_iconst (v := 2) B dX11_bounds_188 (by decide) ?_
          refine g_callV (st := []) (As := [.int (nI ch), .int 2]) (wr := []) (nc' := 0) (ns' := 0) B cl_X11_150 w_im_X11_rises w_se_X11_rises (wr_X11_rises_2 E m r m_1 m_4 m_9 m_10 m_14 m_15 m_25 m_26 pm_27 (((r24_f ((3 * ch) + 0) / 16 + 1) + (r24_f ((3 * ch) + 1) / 16 + 1)) + ((on - 2) * (r24_f ((3 * ch) + 2) / 16 + 1))) (((((r24_f ((3 * ch) + 0) / 16 + 1) + (r24_f ((3 * ch) + 1) / 16 + 1)) + ((on - 2) * (r24_f ((3 * ch) + 2) / 16 + 1))) + (r24_f ((3 * ch) + 2) / 16 + 1)) - 1) m_31 m_32 m_33 m_35 m_36 m_37 m_38 m_39 m_40 m_42 zr24_f_2247 ch (by first | assumption | omega | decide | exact hCF _ (by omega)) (by have hq := hf_2245 ((3 * ch) + 2) (by omega); have hq2 := hf_2249 ((3 * ch) + 2) (by omega); omega) (by first | assumption | omega | decide | exact hCF _ (by omega))) rfl [0, 1] [] rfl rfl (by decide) (by decide) (by decide) 0 rfl (fun q h => by cases h; rfl) rfl ⟨by decide, by decide⟩ rfl rfl (by decide) (by decide) rfl (Nat.le_of_ble_eq_true rfl) dX11_bounds_189 (fun v w hq => ?_)
          obtain ⟨zr24_f_2254, hf_2255, hf_2256, hz_2257, rfl, rfl⟩ := hq
          replace e_ := fun β k_ => (e_ β k_).trans (hz_2257 β _)
          show G E X 10 [(m, .inr (11, mkF r m_1 m_4 m_9 m_10 m_14 m_15 m_25 m_26 pm_27 (((r24_f ((3 * ch) + 0) / 16 + 1) + (r24_f ((3 * ch) + 1) / 16 + 1)) + ((on - 2) * (r24_f ((3 * ch) + 2) / 16 + 1))) (((((r24_f ((3 * ch) + 0) / 16 + 1) + (r24_f ((3 * ch) + 1) / 16 + 1)) + ((on - 2) * (r24_f ((3 * ch) + 2) / 16 + 1))) + (r24_f ((3 * ch) + 2) / 16 + 1)) - 1) m_31 m_32 m_33 m_35 m_36 m_37 m_38 m_39 m_40 m_42)), ((r 24), .inl (E.2.2.1 3, 6, .inr (.inl (lM zr24_f_2254))))] 0 0 [(0, .ref m), (1, .int (nI ch)), (2, .long (lN on)), (4, .long (lN (r24_f ((3 * ch) + 0) / 16 + 1))), (6, .long (lN (r24_f ((3 * ch) + 1) / 16 + 1))), (8, .long (lN (r24_f ((3 * ch) + 2) / 16 + 1)))] 192 []
          exact g_vret B hr dX11_bounds_192 (by decide) (by decide) ⟨pm_27, (((r24_f ((3 * ch) + 0) / 16 + 1) + (r24_f ((3 * ch) + 1) / 16 + 1)) + ((on - 2) * (r24_f ((3 * ch) + 2) / 16 + 1))), (((((r24_f ((3 * ch) + 0) / 16 + 1) + (r24_f ((3 * ch) + 1) / 16 + 1)) + ((on - 2) * (r24_f ((3 * ch) + 2) / 16 + 1))) + (r24_f ((3 * ch) + 2) / 16 + 1)) - 1), zr24_f_2254, (by first | assumption | omega | decide | exact hCF _ (by omega)), (by first | assumption | omega | decide | exact hCF _ (by omega)), (by first | assumption | omega | decide | exact hCF _ (by omega)), (by first | assumption | omega | decide | exact hCF _ (by omega)), (by first | assumption | omega | decide | exact hCF _ (by omega)), (by first | assumption | omega | decide | exact hCF _ (by omega)), (by first | assumption | omega | decide | exact hCF _ (by omega)), (by first | assumption | omega | decide | exact hCF _ (by omega)), e_, rfl, rfl⟩
        · have hn_2253 : on = 2 := (lc_eq (a := on) (b := 2) (by omega) (by omega)).mp c174_2251
          replace e_ := fun β k_ => (e_ β k_).trans (if_pos hn_2253)
          refine g_aload_n B dX11_bounds_177 rfl 0 rfl ?_
          refine g_iload_n B dX11_bounds_178 rfl 1 rfl ?_
          refine g_iconst (v := 2) B dX11_bounds_179 (by decide) ?_
          refine g_callV (st := []) (As := [.int (nI ch), .int 2]) (wr := []) (nc' := 0) (ns' := 0) B cl_X11_146 w_im_X11_falls w_se_X11_falls (wr_X11_falls_2 E m r m_1 m_4 m_9 m_10 m_14 m_15 m_25 m_26 pm_27 (((r24_f ((3 * ch) + 0) / 16 + 1) + (r24_f ((3 * ch) + 1) / 16 + 1)) + ((on - 2) * (r24_f ((3 * ch) + 2) / 16 + 1))) (((((r24_f ((3 * ch) + 0) / 16 + 1) + (r24_f ((3 * ch) + 1) / 16 + 1)) + ((on - 2) * (r24_f ((3 * ch) + 2) / 16 + 1))) + (r24_f ((3 * ch) + 2) / 16 + 1)) - 1) m_31 m_32 m_33 m_35 m_36 m_37 m_38 m_39 m_40 m_42 zr24_f_2247 ch (by first | assumption | omega | decide | exact hCF _ (by omega)) (by first | assumption | omega | decide | exact hCF _ (by omega))) rfl [0, 1] [] rfl rfl (by decide) (by decide) (by decide) 0 rfl (fun q h => by cases h; rfl) rfl ⟨by decide, by decide⟩ rfl rfl (by decide) (by decide) rfl (Nat.le_of_ble_eq_true rfl) dX11_bounds_180 (fun v w hq => ?_)
          obtain ⟨zr24_f_2258, hf_2259, hf_2260, hz_2261, rfl, rfl⟩ := hq
          replace e_ := fun β k_ => (e_ β k_).trans (hz_2261 β _)
          show G E X 10 [(m, .inr (11, mkF r m_1 m_4 m_9 m_10 m_14 m_15 m_25 m_26 pm_27 (((r24_f ((3 * ch) + 0) / 16 + 1) + (r24_f ((3 * ch) + 1) / 16 + 1)) + ((on - 2) * (r24_f ((3 * ch) + 2) / 16 + 1))) (((((r24_f ((3 * ch) + 0) / 16 + 1) + (r24_f ((3 * ch) + 1) / 16 + 1)) + ((on - 2) * (r24_f ((3 * ch) + 2) / 16 + 1))) + (r24_f ((3 * ch) + 2) / 16 + 1)) - 1) m_31 m_32 m_33 m_35 m_36 m_37 m_38 m_39 m_40 m_42)), ((r 24), .inl (E.2.2.1 3, 6, .inr (.inl (lM zr24_f_2258))))] 0 0 [(0, .ref m), (1, .int (nI ch)), (2, .long (lN on)), (4, .long (lN (r24_f ((3 * ch) + 0) / 16 + 1))), (6, .long (lN (r24_f ((3 * ch) + 1) / 16 + 1))), (8, .long (lN (r24_f ((3 * ch) + 2) / 16 + 1)))] 183 []
          refine g_goto (tgt := 192) B dX11_bounds_183 (by decide) ?_
          exact g_vret B hr dX11_bounds_192 (by decide) (by decide) ⟨pm_27, (((r24_f ((3 * ch) + 0) / 16 + 1) + (r24_f ((3 * ch) + 1) / 16 + 1)) + ((on - 2) * (r24_f ((3 * ch) + 2) / 16 + 1))), (((((r24_f ((3 * ch) + 0) / 16 + 1) + (r24_f ((3 * ch) + 1) / 16 + 1)) + ((on - 2) * (r24_f ((3 * ch) + 2) / 16 + 1))) + (r24_f ((3 * ch) + 2) / 16 + 1)) - 1), zr24_f_2258, (by first | assumption | omega | decide | exact hCF _ (by omega)), (by first | assumption | omega | decide | exact hCF _ (by omega)), (by first | assumption | omega | decide | exact hCF _ (by omega)), (by first | assumption | omega | decide | exact hCF _ (by omega)), (by first | assumption | omega | decide | exact hCF _ (by omega)), (by first | assumption | omega | decide | exact hCF _ (by omega)), (by first | assumption | omega | decide | exact hCF _ (by omega)), (by first | assumption | omega | decide | exact hCF _ (by omega)), e_, rfl, rfl⟩
      · have hn_2242 : 2147483647 < (((r24_f ((3 * ch) + 0) / 16 + 1) + (r24_f ((3 * ch) + 1) / 16 + 1)) + ((on - 2) * (r24_f ((3 * ch) + 2) / 16 + 1))) := Nat.not_le.mp (fun q => c127_2240 ((lc_le (a := (((r24_f ((3 * ch) + 0) / 16 + 1) + (r24_f ((3 * ch) + 1) / 16 + 1)) + ((on - 2) * (r24_f ((3 * ch) + 2) / 16 + 1)))) (b := 2147483647) (by omega) (by omega)).mpr q))
        replace e_ := fun β k_ => (e_ β k_).trans (if_neg (Nat.not_le.mpr hn_2242))
        exact g_vret B hr dX11_bounds_130 (by decide) (by decide) ⟨pm_27, (((r24_f ((3 * ch) + 0) / 16 + 1) + (r24_f ((3 * ch) + 1) / 16 + 1)) + ((on - 2) * (r24_f ((3 * ch) + 2) / 16 + 1))), (((((r24_f ((3 * ch) + 0) / 16 + 1) + (r24_f ((3 * ch) + 1) / 16 + 1)) + ((on - 2) * (r24_f ((3 * ch) + 2) / 16 + 1))) + (r24_f ((3 * ch) + 2) / 16 + 1)) - 1), r24_f, (by first | assumption | omega | decide | exact hCF _ (by omega)), (by first | assumption | omega | decide | exact hCF _ (by omega)), (by first | assumption | omega | decide | exact hCF _ (by omega)), (by first | assumption | omega | decide | exact hCF _ (by omega)), (by first | assumption | omega | decide | exact hCF _ (by omega)), (by first | assumption | omega | decide | exact hCF _ (by omega)), (by first | assumption | omega | decide | exact hCF _ (by omega)), (by first | assumption | omega | decide | exact hCF _ (by omega)), e_, rfl, rfl⟩
    · have hn_2239 : on = 1 := (lc_eq (a := on) (b := 1) (by omega) (by omega)).mp c59_2237
      replace e_ := fun β k_ => (e_ β k_).trans (if_pos hn_2239)
      refine g_lload B dX11_bounds_62 3 rfl ?_
      refine g_goto (tgt := 81) B dX11_bounds_64 (by decide) ?_
      refine g_putM (ws' := [(m, .inr (11, mkF r m_1 m_4 m_9 m_10 m_14 m_15 m_25 m_26 pm_27 (r24_f ((3 * ch) + 0) / 16 + 1) m_29 m_31 m_32 m_33 m_35 m_36 m_37 m_38 m_39 m_40 m_42)), ((r 24), .inl (E.2.2.1 3, 6, .inr (.inl (lM r24_f))))]) (fs' := mkF r m_1 m_4 m_9 m_10 m_14 m_15 m_25 m_26 pm_27 (r24_f ((3 * ch) + 0) / 16 + 1) m_29 m_31 m_32 m_33 m_35 m_36 m_37 m_38 m_39 m_40 m_42) B 0 28 fl_X11_138 pf_X11_28 rfl (mlt (by decide)) rfl rfl (ms_28 rfl) rfl dX11_bounds_81 ?_
      refine g_aload_n B dX11_bounds_84 rfl 0 rfl ?_
      refine g_aload_n B dX11_bounds_85 rfl 0 rfl ?_
      refine g_get B 0 28 fl_X11_138 rfl mf_28 dX11_bounds_86 ?_
      refine g_lload_n B dX11_bounds_89 rfl 2 rfl ?_
      refine g_lconst (v := 0) B dX11_bounds_90 (by decide) ?_
      refine g_lcmp B dX11_bounds_91 ?_
      refine g_if_ne (tgt := 100) B dX11_bounds_92 (by decide) (fun c92 => ?_) (fun h => absurd h c49_2234)
      refine g_lload_n B dX11_bounds_100 rfl 2 rfl ?_
      refine g_lconst (v := 1) B dX11_bounds_101 (by decide) ?_
      refine g_lcmp B dX11_bounds_102 ?_
      refine g_if_ne (tgt := 111) B dX11_bounds_103 (by decide) (fun h => absurd c59_2237 h) (fun c103 => ?_)
      refine g_lload B dX11_bounds_106 4 rfl ?_
      refine g_goto (tgt := 113) B dX11_bounds_108 (by decide) ?_
      refine g_ladd B dX11_bounds_113 ?_
      refine g_rl (x' := lN ((r24_f ((3 * ch) + 0) / 16 + 1) + (r24_f ((3 * ch) + 1) / 16 + 1))) (lN_add (r24_f ((3 * ch) + 0) / 16 + 1) (r24_f ((3 * ch) + 1) / 16 + 1)) ?_
      refine g_lconst (v := 1) B dX11_bounds_114 (by decide) ?_
      refine g_lsub B dX11_bounds_115 ?_
      refine g_rl (x' := lN (((r24_f ((3 * ch) + 0) / 16 + 1) + (r24_f ((3 * ch) + 1) / 16 + 1)) - 1)) (lN_sub (a := ((r24_f ((3 * ch) + 0) / 16 + 1) + (r24_f ((3 * ch) + 1) / 16 + 1))) (b := 1) (by omega)) ?_
      refine g_putM (ws' := [(m, .inr (11, mkF r m_1 m_4 m_9 m_10 m_14 m_15 m_25 m_26 pm_27 (r24_f ((3 * ch) + 0) / 16 + 1) (((r24_f ((3 * ch) + 0) / 16 + 1) + (r24_f ((3 * ch) + 1) / 16 + 1)) - 1) m_31 m_32 m_33 m_35 m_36 m_37 m_38 m_39 m_40 m_42)), ((r 24), .inl (E.2.2.1 3, 6, .inr (.inl (lM r24_f))))]) (fs' := mkF r m_1 m_4 m_9 m_10 m_14 m_15 m_25 m_26 pm_27 (r24_f ((3 * ch) + 0) / 16 + 1) (((r24_f ((3 * ch) + 0) / 16 + 1) + (r24_f ((3 * ch) + 1) / 16 + 1)) - 1) m_31 m_32 m_33 m_35 m_36 m_37 m_38 m_39 m_40 m_42) B 0 29 fl_X11_141 pf_X11_29 rfl (mlt (by decide)) rfl rfl (ms_29 rfl) rfl dX11_bounds_116 ?_
      refine g_aload_n B dX11_bounds_119 rfl 0 rfl ?_
      refine g_get B 0 28 fl_X11_138 rfl mf_28 dX11_bounds_120 ?_
      refine g_ldc2 (v := 2147483647) B w_k_X11_144 dX11_bounds_123 ?_
      refine g_lcmp B dX11_bounds_126 ?_
      refine g_if_le (tgt := 131) B dX11_bounds_127 (by decide) (fun c127_2262 => ?_) (fun c127_2262 => ?_)
      · have hn_2263 : (r24_f ((3 * ch) + 0) / 16 + 1) ≤ 2147483647 := (lc_le (a := (r24_f ((3 * ch) + 0) / 16 + 1)) (b := 2147483647) (by omega) (by omega)).mp c127_2262
        replace e_ := fun β k_ => (e_ β k_).trans (if_pos hn_2263)
        refine g_lload_n B dX11_bounds_131 rfl 2 rfl ?_
        refine g_lconst (v := 0) B dX11_bounds_132 (by decide) ?_
        refine g_lcmp B dX11_bounds_133 ?_
        refine g_if_ne (tgt := 144) B dX11_bounds_134 (by decide) (fun c134 => ?_) (fun h => absurd h c49_2234)
        refine g_aload_n B dX11_bounds_144 rfl 0 rfl ?_
        refine g_iload_n B dX11_bounds_145 rfl 1 rfl ?_
        refine g_iconst (v := 0) B dX11_bounds_146 (by decide) ?_
        refine g_callV (st := []) (As := [.int (nI ch), .int 0]) (wr := []) (nc' := 0) (ns' := 0) B cl_X11_150 w_im_X11_rises w_se_X11_rises (wr_X11_rises_0 E m r m_1 m_4 m_9 m_10 m_14 m_15 m_25 m_26 pm_27 (r24_f ((3 * ch) + 0) / 16 + 1) (((r24_f ((3 * ch) + 0) / 16 + 1) + (r24_f ((3 * ch) + 1) / 16 + 1)) - 1) m_31 m_32 m_33 m_35 m_36 m_37 m_38 m_39 m_40 m_42 r24_f ch (by first | assumption | omega | decide | exact hCF _ (by omega)) (by first | assumption | omega | decide | exact hCF _ (by omega)) (by first | assumption | omega | decide | exact hCF _ (by omega))) rfl [0, 1] [] rfl rfl (by decide) (by decide) (by decide) 0 rfl (fun q h => by cases h; rfl) rfl ⟨by decide, by decide⟩ rfl rfl (by decide) (by decide) rfl (Nat.le_of_ble_eq_true rfl) dX11_bounds_147 (fun v w hq => ?_)
        obtain ⟨zr24_f_2265, hf_2266, hf_2267, hz_2268, rfl, rfl⟩ := hq
        replace e_ := fun β k_ => (e_ β k_).trans (hz_2268 β _)
        show G E X 10 [(m, .inr (11, mkF r m_1 m_4 m_9 m_10 m_14 m_15 m_25 m_26 pm_27 (r24_f ((3 * ch) + 0) / 16 + 1) (((r24_f ((3 * ch) + 0) / 16 + 1) + (r24_f ((3 * ch) + 1) / 16 + 1)) - 1) m_31 m_32 m_33 m_35 m_36 m_37 m_38 m_39 m_40 m_42)), ((r 24), .inl (E.2.2.1 3, 6, .inr (.inl (lM zr24_f_2265))))] 0 0 [(0, .ref m), (1, .int (nI ch)), (2, .long (lN on)), (4, .long (lN (r24_f ((3 * ch) + 0) / 16 + 1))), (6, .long (lN (r24_f ((3 * ch) + 1) / 16 + 1))), (8, .long (lN (r24_f ((3 * ch) + 2) / 16 + 1)))] 150 []
        refine g_lload_n B dX11_bounds_150 rfl 2 rfl ?_
        refine g_lconst (v := 1) B dX11_bounds_151 (by decide) ?_
        refine g_lcmp B dX11_bounds_152 ?_
        refine g_if_ne (tgt := 163) B dX11_bounds_153 (by decide) (fun h => absurd c59_2237 h) (fun c153 => ?_)
        refine g_aload_n B dX11_bounds_156 rfl 0 rfl ?_
        refine g_iload_n B dX11_bounds_157 rfl 1 rfl ?_
        refine g_iconst (v := 1) B dX11_bounds_158 (by decide) ?_
        refine g_callV (st := []) (As := [.int (nI ch), .int 1]) (wr := []) (nc' := 0) (ns' := 0) B cl_X11_146 w_im_X11_falls w_se_X11_falls (wr_X11_falls_1 E m r m_1 m_4 m_9 m_10 m_14 m_15 m_25 m_26 pm_27 (r24_f ((3 * ch) + 0) / 16 + 1) (((r24_f ((3 * ch) + 0) / 16 + 1) + (r24_f ((3 * ch) + 1) / 16 + 1)) - 1) m_31 m_32 m_33 m_35 m_36 m_37 m_38 m_39 m_40 m_42 zr24_f_2265 ch (by first | assumption | omega | decide | exact hCF _ (by omega)) (by first | assumption | omega | decide | exact hCF _ (by omega))) rfl [0, 1] [] rfl rfl (by decide) (by decide) (by decide) 0 rfl (fun q h => by cases h; rfl) rfl ⟨by decide, by decide⟩ rfl rfl (by decide) (by decide) rfl (Nat.le_of_ble_eq_true rfl) dX11_bounds_159 (fun v w hq => ?_)
        obtain ⟨zr24_f_2269, hf_2270, hf_2271, hz_2272, rfl, rfl⟩ := hq
        replace e_ := fun β k_ => (e_ β k_).trans (hz_2272 β _)
        show G E X 10 [(m, .inr (11, mkF r m_1 m_4 m_9 m_10 m_14 m_15 m_25 m_26 pm_27 (r24_f ((3 * ch) + 0) / 16 + 1) (((r24_f ((3 * ch) + 0) / 16 + 1) + (r24_f ((3 * ch) + 1) / 16 + 1)) - 1) m_31 m_32 m_33 m_35 m_36 m_37 m_38 m_39 m_40 m_42)), ((r 24), .inl (E.2.2.1 3, 6, .inr (.inl (lM zr24_f_2269))))] 0 0 [(0, .ref m), (1, .int (nI ch)), (2, .long (lN on)), (4, .long (lN (r24_f ((3 * ch) + 0) / 16 + 1))), (6, .long (lN (r24_f ((3 * ch) + 1) / 16 + 1))), (8, .long (lN (r24_f ((3 * ch) + 2) / 16 + 1)))] 162 []
        exact g_vret B hr dX11_bounds_162 (by decide) (by decide) ⟨pm_27, (r24_f ((3 * ch) + 0) / 16 + 1), (((r24_f ((3 * ch) + 0) / 16 + 1) + (r24_f ((3 * ch) + 1) / 16 + 1)) - 1), zr24_f_2269, (by first | assumption | omega | decide | exact hCF _ (by omega)), (by first | assumption | omega | decide | exact hCF _ (by omega)), (by first | assumption | omega | decide | exact hCF _ (by omega)), (by first | assumption | omega | decide | exact hCF _ (by omega)), (by first | assumption | omega | decide | exact hCF _ (by omega)), (by first | assumption | omega | decide | exact hCF _ (by omega)), (by first | assumption | omega | decide | exact hCF _ (by omega)), (by first | assumption | omega | decide | exact hCF _ (by omega)), e_, rfl, rfl⟩
      · have hn_2264 : 2147483647 < (r24_f ((3 * ch) + 0) / 16 + 1) := Nat.not_le.mp (fun q => c127_2262 ((lc_le (a := (r24_f ((3 * ch) + 0) / 16 + 1)) (b := 2147483647) (by omega) (by omega)).mpr q))
        replace e_ := fun β k_ => (e_ β k_).trans (if_neg (Nat.not_le.mpr hn_2264))
        exact g_vret B hr dX11_bounds_130 (by decide) (by decide) ⟨pm_27, (r24_f ((3 * ch) + 0) / 16 + 1), (((r24_f ((3 * ch) + 0) / 16 + 1) + (r24_f ((3 * ch) + 1) / 16 + 1)) - 1), r24_f, (by first | assumption | omega | decide | exact hCF _ (by omega)), (by first | assumption | omega | decide | exact hCF _ (by omega)), (by first | assumption | omega | decide | exact hCF _ (by omega)), (by first | assumption | omega | decide | exact hCF _ (by omega)), (by first | assumption | omega | decide | exact hCF _ (by omega)), (by first | assumption | omega | decide | exact hCF _ (by omega)), (by first | assumption | omega | decide | exact hCF _ (by omega)), (by first | assumption | omega | decide | exact hCF _ (by omega)), e_, rfl, rfl⟩
  · have hn_2236 : on = 0 := (lc_eq (a := on) (b := 0) (by omega) (by omega)).mp c49_2234
    replace e_ := fun β k_ => (e_ β k_).trans (if_pos hn_2236)
    refine g_lconst (v := 0) B dX11_bounds_52 (by decide) ?_
    refine g_goto (tgt := 81) B dX11_bounds_53 (by decide) ?_
    refine g_putM (ws' := [(m, .inr (11, mkF r m_1 m_4 m_9 m_10 m_14 m_15 m_25 m_26 pm_27 0 m_29 m_31 m_32 m_33 m_35 m_36 m_37 m_38 m_39 m_40 m_42)), ((r 24), .inl (E.2.2.1 3, 6, .inr (.inl (lM r24_f))))]) (fs' := mkF r m_1 m_4 m_9 m_10 m_14 m_15 m_25 m_26 pm_27 0 m_29 m_31 m_32 m_33 m_35 m_36 m_37 m_38 m_39 m_40 m_42) B 0 28 fl_X11_138 pf_X11_28 rfl (mlt (by decide)) rfl rfl (ms_28 (by decide)) rfl dX11_bounds_81 ?_
    refine g_aload_n B dX11_bounds_84 rfl 0 rfl ?_
    refine g_aload_n B dX11_bounds_85 rfl 0 rfl ?_
    refine g_get B 0 28 fl_X11_138 rfl mf_28 dX11_bounds_86 ?_
    refine g_rl (x' := 0) (by decide) ?_
    refine g_lload_n B dX11_bounds_89 rfl 2 rfl ?_
    refine g_lconst (v := 0) B dX11_bounds_90 (by decide) ?_
    refine g_lcmp B dX11_bounds_91 ?_
    refine g_if_ne (tgt := 100) B dX11_bounds_92 (by decide) (fun h => absurd c49_2234 h) (fun c92 => ?_)
    refine g_lload B dX11_bounds_95 3 rfl ?_
    refine g_goto (tgt := 113) B dX11_bounds_97 (by decide) ?_
    refine g_ladd B dX11_bounds_113 ?_
    refine g_rl (x' := lN (0 + (r24_f ((3 * ch) + 0) / 16 + 1))) (lN_add 0 (r24_f ((3 * ch) + 0) / 16 + 1)) ?_
    refine g_lconst (v := 1) B dX11_bounds_114 (by decide) ?_
    refine g_lsub B dX11_bounds_115 ?_
    refine g_rl (x' := lN ((0 + (r24_f ((3 * ch) + 0) / 16 + 1)) - 1)) (lN_sub (a := (0 + (r24_f ((3 * ch) + 0) / 16 + 1))) (b := 1) (by omega)) ?_
    refine g_putM (ws' := [(m, .inr (11, mkF r m_1 m_4 m_9 m_10 m_14 m_15 m_25 m_26 pm_27 0 ((0 + (r24_f ((3 * ch) + 0) / 16 + 1)) - 1) m_31 m_32 m_33 m_35 m_36 m_37 m_38 m_39 m_40 m_42)), ((r 24), .inl (E.2.2.1 3, 6, .inr (.inl (lM r24_f))))]) (fs' := mkF r m_1 m_4 m_9 m_10 m_14 m_15 m_25 m_26 pm_27 0 ((0 + (r24_f ((3 * ch) + 0) / 16 + 1)) - 1) m_31 m_32 m_33 m_35 m_36 m_37 m_38 m_39 m_40 m_42) B 0 29 fl_X11_141 pf_X11_29 rfl (mlt (by decide)) rfl rfl (ms_29 rfl) rfl dX11_bounds_116 ?_
    refine g_aload_n B dX11_bounds_119 rfl 0 rfl ?_
    refine g_get B 0 28 fl_X11_138 rfl mf_28 dX11_bounds_120 ?_
    refine g_rl (x' := 0) (by decide) ?_
    refine g_ldc2 (v := 2147483647) B w_k_X11_144 dX11_bounds_123 ?_
    refine g_lcmp B dX11_bounds_126 ?_
    refine g_ri (x' := (-1)) (by decide) ?_
    refine g_if_le (tgt := 131) B dX11_bounds_127 (by decide) (fun c127 => ?_) (fun h => absurd (by decide) h)
    refine g_lload_n B dX11_bounds_131 rfl 2 rfl ?_
    refine g_lconst (v := 0) B dX11_bounds_132 (by decide) ?_
    refine g_lcmp B dX11_bounds_133 ?_
    refine g_if_ne (tgt := 144) B dX11_bounds_134 (by decide) (fun h => absurd c49_2234 h) (fun c134 => ?_)
    refine g_aload_n B dX11_bounds_137 rfl 0 rfl ?_
    refine g_iload_n B dX11_bounds_138 rfl 1 rfl ?_
    refine g_iconst (v := 0) B dX11_bounds_139 (by decide) ?_
    refine g_callV (st := []) (As := [.int (nI ch), .int 0]) (wr := []) (nc' := 0) (ns' := 0) B cl_X11_146 w_im_X11_falls w_se_X11_falls (wr_X11_falls_0 E m r m_1 m_4 m_9 m_10 m_14 m_15 m_25 m_26 pm_27 0 ((0 + (r24_f ((3 * ch) + 0) / 16 + 1)) - 1) m_31 m_32 m_33 m_35 m_36 m_37 m_38 m_39 m_40 m_42 r24_f ch (by first | assumption | omega | decide | exact hCF _ (by omega)) (by first | assumption | omega | decide | exact hCF _ (by omega))) rfl [0, 1] [] rfl rfl (by decide) (by decide) (by decide) 0 rfl (fun q h => by cases h; rfl) rfl ⟨by decide, by decide⟩ rfl rfl (by decide) (by decide) rfl (Nat.le_of_ble_eq_true rfl) dX11_bounds_140 (fun v w hq => ?_)
    obtain ⟨zr24_f_2273, hf_2274, hf_2275, hz_2276, rfl, rfl⟩ := hq
    replace e_ := fun β k_ => (e_ β k_).trans (hz_2276 β _)
    show G E X 10 [(m, .inr (11, mkF r m_1 m_4 m_9 m_10 m_14 m_15 m_25 m_26 pm_27 0 ((0 + (r24_f ((3 * ch) + 0) / 16 + 1)) - 1) m_31 m_32 m_33 m_35 m_36 m_37 m_38 m_39 m_40 m_42)), ((r 24), .inl (E.2.2.1 3, 6, .inr (.inl (lM zr24_f_2273))))] 0 0 [(0, .ref m), (1, .int (nI ch)), (2, .long (lN on)), (4, .long (lN (r24_f ((3 * ch) + 0) / 16 + 1))), (6, .long (lN (r24_f ((3 * ch) + 1) / 16 + 1))), (8, .long (lN (r24_f ((3 * ch) + 2) / 16 + 1)))] 143 []
    exact g_vret B hr dX11_bounds_143 (by decide) (by decide) ⟨pm_27, 0, ((0 + (r24_f ((3 * ch) + 0) / 16 + 1)) - 1), zr24_f_2273, (by first | assumption | omega | decide | exact hCF _ (by omega)), (by first | assumption | omega | decide | exact hCF _ (by omega)), (by first | assumption | omega | decide | exact hCF _ (by omega)), (by first | assumption | omega | decide | exact hCF _ (by omega)), (by first | assumption | omega | decide | exact hCF _ (by omega)), (by first | assumption | omega | decide | exact hCF _ (by omega)), (by first | assumption | omega | decide | exact hCF _ (by omega)), (by first | assumption | omega | decide | exact hCF _ (by omega)), e_, rfl, rfl⟩
theorem dX11_bounds_34 : decode cX11_bounds 34 = .ok (.lload_n 2, 1) := by decide +kernel
theorem dX11_bounds_35 : decode cX11_bounds 35 = .ok (.goto 7, 3) := by decide +kernel
set_option maxRecDepth 100000 in
def fn_wr_X11_bounds (m_27 : Int64) (r24_f : Nat → Nat) (ch : Nat) (on : Nat) (β : Type) (k_ : Int64 → Nat → Nat → (Nat → Nat) → β) : β := (if (lg_cmp (lN on) m_27) ≤ 0 then (jf_wr_X11_bounds_45 r24_f ch on m_27 β k_) else (jf_wr_X11_bounds_45 r24_f ch on (lN on) β k_))
set_option maxRecDepth 100000 in
theorem fn_wr_X11_bounds_s {m_27 : Int64} {r24_f : Nat → Nat} {ch : Nat} {on : Nat} {β : Type} {k_ : Int64 → Nat → Nat → (Nat → Nat) → β} : fn_wr_X11_bounds m_27 r24_f ch on β k_ = (if (lg_cmp (lN on) m_27) ≤ 0 then (jf_wr_X11_bounds_45 r24_f ch on m_27 β k_) else (jf_wr_X11_bounds_45 r24_f ch on (lN on) β k_)) := rfl
set_option maxRecDepth 100000 in
set_option maxHeartbeats 4000000 in
theorem wr_X11_bounds (E : g_E) (m : Nat) (r : Nat → Nat) (m_1 : Nat) (m_4 : Nat) (m_9 : Nat) (m_10 : Nat) (m_14 : Nat) (m_15 : Nat) (m_25 : Int32) (m_26 : Int32) (m_27 : Int64) (m_28 : Nat) (m_29 : Nat) (m_31 : Nat) (m_32 : Nat) (m_33 : Nat) (m_35 : Nat) (m_36 : Nat) (m_37 : Int32) (m_38 : Nat) (m_39 : Int32) (m_40 : Int32) (m_42 : Nat) (r24_f : Nat → Nat) (ch : Nat) (on : Nat) (h0 : ch < 2) (h1 : on ≤ 2147483650) (hb0 : m_28 ≤ 6000000000000000000) (hb1 : m_29 ≤ 6000000000000000000) (ha0 : ∀ j, j < 6 → r24_f j ≤ 40000000000) : Ev E MX11_bounds 1 24 0 0 [.ref m, .int (nI ch), .long (lN on)] [(m, .inr (11, mkF r m_1 m_4 m_9 m_10 m_14 m_15 m_25 m_26 m_27 m_28 m_29 m_31 m_32 m_33 m_35 m_36 m_37 m_38 m_39 m_40 m_42)), ((r 24), .inl (E.2.2.1 3, 6, .inr (.inl (lM r24_f))))] (fun v_ w_ => ∃ zm_27 : Int64, ∃ zm_28 : Nat, ∃ zm_29 : Nat, ∃ zr24_f : Nat → Nat, (zm_28 ≤ 6000000000000000000) ∧ (zm_29 ≤ 6000000000000000000) ∧ (∀ j, j < 6 → zr24_f j ≤ 40000000000) ∧ (zm_28 ≤ zm_29) ∧ (zm_29 ≤ zm_28 + 2500000001) ∧ (on = 0 → zm_28 = 0) ∧ (on = 1 → zm_28 = (r24_f ((3 * ch) + 0) / 16 + 1)) ∧ (2 ≤ on → zm_28 = (r24_f ((3 * ch) + 0) / 16 + 1) + (r24_f ((3 * ch) + 1) / 16 + 1) + (on - 2) * (r24_f ((3 * ch) + 2) / 16 + 1)) ∧ (∀ (β : Type) (k_ : Int64 → Nat → Nat → (Nat → Nat) → β), fn_wr_X11_bounds m_27 r24_f ch on β k_ = k_ zm_27 zm_28 zm_29 zr24_f) ∧ v_ = none ∧ w_ = [(m, .inr (11, mkF r m_1 m_4 m_9 m_10 m_14 m_15 m_25 m_26 zm_27 zm_28 zm_29 m_31 m_32 m_33 m_35 m_36 m_37 m_38 m_39 m_40 m_42)), ((r 24), .inl (E.2.2.1 3, 6, .inr (.inl (lM zr24_f))))]) := by
  refine Ev.intro (by decide) (Nat.le_of_ble_eq_true rfl) ?_
  intro X B hr hI
  have B : Bd E X cX11_bounds RX11 10 1 24 0 0 := B
  have hr : Rt E X none 0 0 (fun v_ w_ => ∃ zm_27 : Int64, ∃ zm_28 : Nat, ∃ zm_29 : Nat, ∃ zr24_f : Nat → Nat, (zm_28 ≤ 6000000000000000000) ∧ (zm_29 ≤ 6000000000000000000) ∧ (∀ j, j < 6 → zr24_f j ≤ 40000000000) ∧ (zm_28 ≤ zm_29) ∧ (zm_29 ≤ zm_28 + 2500000001) ∧ (on = 0 → zm_28 = 0) ∧ (on = 1 → zm_28 = (r24_f ((3 * ch) + 0) / 16 + 1)) ∧ (2 ≤ on → zm_28 = (r24_f ((3 * ch) + 0) / 16 + 1) + (r24_f ((3 * ch) + 1) / 16 + 1) + (on - 2) * (r24_f ((3 * ch) + 2) / 16 + 1)) ∧ (∀ (β : Type) (k_ : Int64 → Nat → Nat → (Nat → Nat) → β), fn_wr_X11_bounds m_27 r24_f ch on β k_ = k_ zm_27 zm_28 zm_29 zr24_f) ∧ v_ = none ∧ w_ = [(m, .inr (11, mkF r m_1 m_4 m_9 m_10 m_14 m_15 m_25 m_26 zm_27 zm_28 zm_29 m_31 m_32 m_33 m_35 m_36 m_37 m_38 m_39 m_40 m_42)), ((r 24), .inl (E.2.2.1 3, 6, .inr (.inl (lM zr24_f))))]) := hr
  have e_ := fun (β : Type) (k_ : Int64 → Nat → Nat → (Nat → Nat) → β) => fn_wr_X11_bounds_s (β := β) (k_ := k_) (m_27 := m_27) (r24_f := r24_f) (ch := ch) (on := on)
  show G E X 10 [(m, .inr (11, mkF r m_1 m_4 m_9 m_10 m_14 m_15 m_25 m_26 m_27 m_28 m_29 m_31 m_32 m_33 m_35 m_36 m_37 m_38 m_39 m_40 m_42)), ((r 24), .inl (E.2.2.1 3, 6, .inr (.inl (lM r24_f))))] 0 0 [(0, .ref m), (1, .int (nI ch)), (2, .long (lN on))] 0 []
  refine g_aload_n B dX11_bounds_0 rfl 0 rfl ?_
  refine g_iload_n B dX11_bounds_1 rfl 1 rfl ?_
  refine g_iconst (v := 0) B dX11_bounds_2 (by decide) ?_
  refine g_callV (st := []) (As := [.int (nI ch), .int 0]) (wr := []) (nc' := 0) (ns' := 0) B cl_X11_134 w_im_X11_step w_se_X11_step (wr_X11_step_0 E m r m_1 m_4 m_9 m_10 m_14 m_15 m_25 m_26 m_27 m_28 m_29 m_31 m_32 m_33 m_35 m_36 m_37 m_38 m_39 m_40 m_42 r24_f ch (by first | assumption | omega | decide | exact hCF _ (by omega)) (by first | assumption | omega | decide | exact hCF _ (by omega))) rfl [0, 1] [] rfl rfl (by decide) (by decide) (by decide) 0 rfl (fun q h => by cases h; rfl) rfl ⟨by decide, by decide⟩ rfl rfl (by decide) (by decide) rfl (Nat.le_of_ble_eq_true rfl) dX11_bounds_3 (fun v w hq => ?_)
  obtain ⟨hf_2227, rfl, rfl⟩ := hq
  show G E X 10 [(m, .inr (11, mkF r m_1 m_4 m_9 m_10 m_14 m_15 m_25 m_26 m_27 m_28 m_29 m_31 m_32 m_33 m_35 m_36 m_37 m_38 m_39 m_40 m_42)), ((r 24), .inl (E.2.2.1 3, 6, .inr (.inl (lM r24_f))))] 0 0 [(0, .ref m), (1, .int (nI ch)), (2, .long (lN on))] 6 [.long (lN (r24_f ((3 * ch) + 0) / 16 + 1))]
  refine g_lstore (lv' := [(4, .long (lN (r24_f ((3 * ch) + 0) / 16 + 1))), (0, .ref m), (1, .int (nI ch)), (2, .long (lN on))]) B dX11_bounds_6 (by decide) rfl ?_
  refine g_aload_n B dX11_bounds_8 rfl 1 rfl ?_
  refine g_iload_n B dX11_bounds_9 rfl 2 rfl ?_
  refine g_iconst (v := 1) B dX11_bounds_10 (by decide) ?_
  refine g_callV (st := []) (As := [.int (nI ch), .int 1]) (wr := []) (nc' := 0) (ns' := 0) B cl_X11_134 w_im_X11_step w_se_X11_step (wr_X11_step_1 E m r m_1 m_4 m_9 m_10 m_14 m_15 m_25 m_26 m_27 m_28 m_29 m_31 m_32 m_33 m_35 m_36 m_37 m_38 m_39 m_40 m_42 r24_f ch (by first | assumption | omega | decide | exact hCF _ (by omega)) (by first | assumption | omega | decide | exact hCF _ (by omega))) rfl [0, 1] [] rfl rfl (by decide) (by decide) (by decide) 0 rfl (fun q h => by cases h; rfl) rfl ⟨by decide, by decide⟩ rfl rfl (by decide) (by decide) rfl (Nat.le_of_ble_eq_true rfl) dX11_bounds_11 (fun v w hq => ?_)
  obtain ⟨hf_2229, rfl, rfl⟩ := hq
  show G E X 10 [(m, .inr (11, mkF r m_1 m_4 m_9 m_10 m_14 m_15 m_25 m_26 m_27 m_28 m_29 m_31 m_32 m_33 m_35 m_36 m_37 m_38 m_39 m_40 m_42)), ((r 24), .inl (E.2.2.1 3, 6, .inr (.inl (lM r24_f))))] 0 0 [(4, .long (lN (r24_f ((3 * ch) + 0) / 16 + 1))), (0, .ref m), (1, .int (nI ch)), (2, .long (lN on))] 14 [.long (lN (r24_f ((3 * ch) + 1) / 16 + 1))]
  refine g_lstore (lv' := [(6, .long (lN (r24_f ((3 * ch) + 1) / 16 + 1))), (4, .long (lN (r24_f ((3 * ch) + 0) / 16 + 1))), (0, .ref m), (1, .int (nI ch)), (2, .long (lN on))]) B dX11_bounds_14 (by decide) rfl ?_
  refine g_aload_n B dX11_bounds_16 rfl 2 rfl ?_
  refine g_iload_n B dX11_bounds_17 rfl 3 rfl ?_
  refine g_iconst (v := 2) B dX11_bounds_18 (by decide) ?_
  refine g_callV (st := []) (As := [.int (nI ch), .int 2]) (wr := []) (nc' := 0) (ns' := 0) B cl_X11_134 w_im_X11_step w_se_X11_step (wr_X11_step_2 E m r m_1 m_4 m_9 m_10 m_14 m_15 m_25 m_26 m_27 m_28 m_29 m_31 m_32 m_33 m_35 m_36 m_37 m_38 m_39 m_40 m_42 r24_f ch (by first | assumption | omega | decide | exact hCF _ (by omega)) (by first | assumption | omega | decide | exact hCF _ (by omega))) rfl [0, 1] [] rfl rfl (by decide) (by decide) (by decide) 0 rfl (fun q h => by cases h; rfl) rfl ⟨by decide, by decide⟩ rfl rfl (by decide) (by decide) rfl (Nat.le_of_ble_eq_true rfl) dX11_bounds_19 (fun v w hq => ?_)
  obtain ⟨hf_2231, rfl, rfl⟩ := hq
  show G E X 10 [(m, .inr (11, mkF r m_1 m_4 m_9 m_10 m_14 m_15 m_25 m_26 m_27 m_28 m_29 m_31 m_32 m_33 m_35 m_36 m_37 m_38 m_39 m_40 m_42)), ((r 24), .inl (E.2.2.1 3, 6, .inr (.inl (lM r24_f))))] 0 0 [(6, .long (lN (r24_f ((3 * ch) + 1) / 16 + 1))), (4, .long (lN (r24_f ((3 * ch) + 0) / 16 + 1))), (0, .ref m), (1, .int (nI ch)), (2, .long (lN on))] 22 [.long (lN (r24_f ((3 * ch) + 2) / 16 + 1))]
  refine g_lstore (lv' := [(8, .long (lN (r24_f ((3 * ch) + 2) / 16 + 1))), (6, .long (lN (r24_f ((3 * ch) + 1) / 16 + 1))), (4, .long (lN (r24_f ((3 * ch) + 0) / 16 + 1))), (0, .ref m), (1, .int (nI ch)), (2, .long (lN on))]) B dX11_bounds_22 (by decide) rfl ?_
  refine g_aload_n B dX11_bounds_24 rfl 3 rfl ?_
  refine g_lload_n B dX11_bounds_25 rfl 5 rfl ?_
  refine g_aload_n B dX11_bounds_26 rfl 3 rfl ?_
  refine g_get B 0 27 fl_X11_110 rfl mf_27 dX11_bounds_27 ?_
  refine g_lcmp B dX11_bounds_30 ?_
  refine g_if_le (tgt := 38) B dX11_bounds_31 (by decide) (fun c31_2233 => ?_) (fun c31_2233 => ?_)
  · replace e_ := fun β k_ => (e_ β k_).trans (if_pos c31_2233)
    refine g_aload_n B dX11_bounds_38 rfl 3 rfl ?_
    refine g_get B 0 27 fl_X11_110 rfl mf_27 dX11_bounds_39 ?_
    refine g_putM (ws' := [(m, .inr (11, mkF r m_1 m_4 m_9 m_10 m_14 m_15 m_25 m_26 m_27 m_28 m_29 m_31 m_32 m_33 m_35 m_36 m_37 m_38 m_39 m_40 m_42)), ((r 24), .inl (E.2.2.1 3, 6, .inr (.inl (lM r24_f))))]) (fs' := mkF r m_1 m_4 m_9 m_10 m_14 m_15 m_25 m_26 m_27 m_28 m_29 m_31 m_32 m_33 m_35 m_36 m_37 m_38 m_39 m_40 m_42) B 0 27 fl_X11_110 pf_X11_27 rfl (mlt (by decide)) rfl rfl (ms_27 rfl) rfl dX11_bounds_42 ?_
    refine g_lvsub (lv' := [(0, .ref m), (1, .int (nI ch)), (2, .long (lN on)), (4, .long (lN (r24_f ((3 * ch) + 0) / 16 + 1))), (6, .long (lN (r24_f ((3 * ch) + 1) / 16 + 1))), (8, .long (lN (r24_f ((3 * ch) + 2) / 16 + 1)))]) [3, 4, 5, 2, 1, 0] rfl ?_
    exact jn_wr_X11_bounds_45 E m r m_1 m_4 m_9 m_10 m_14 m_15 m_25 m_26 m_27 m_28 m_29 m_31 m_32 m_33 m_35 m_36 m_37 m_38 m_39 m_40 m_42 r24_f ch on h0 h1 hb0 hb1 ha0 m_27 (by first | assumption | omega | decide | exact hCF _ (by omega)) (by first | assumption | omega | decide | exact hCF _ (by omega)) (by first | assumption | omega | decide | exact hCF _ (by omega)) B hr e_
  · replace e_ := fun β k_ => (e_ β k_).trans (if_neg c31_2233)
    refine g_lload_n B dX11_bounds_34 rfl 5 rfl ?_
    refine g_goto (tgt := 42) B dX11_bounds_35 (by decide) ?_
    refine g_putM (ws' := [(m, .inr (11, mkF r m_1 m_4 m_9 m_10 m_14 m_15 m_25 m_26 (lN on) m_28 m_29 m_31 m_32 m_33 m_35 m_36 m_37 m_38 m_39 m_40 m_42)), ((r 24), .inl (E.2.2.1 3, 6, .inr (.inl (lM r24_f))))]) (fs' := mkF r m_1 m_4 m_9 m_10 m_14 m_15 m_25 m_26 (lN on) m_28 m_29 m_31 m_32 m_33 m_35 m_36 m_37 m_38 m_39 m_40 m_42) B 0 27 fl_X11_110 pf_X11_27 rfl (mlt (by decide)) rfl rfl (ms_27 rfl) rfl dX11_bounds_42 ?_
    refine g_lvsub (lv' := [(0, .ref m), (1, .int (nI ch)), (2, .long (lN on)), (4, .long (lN (r24_f ((3 * ch) + 0) / 16 + 1))), (6, .long (lN (r24_f ((3 * ch) + 1) / 16 + 1))), (8, .long (lN (r24_f ((3 * ch) + 2) / 16 + 1)))]) [3, 4, 5, 2, 1, 0] rfl ?_
    exact jn_wr_X11_bounds_45 E m r m_1 m_4 m_9 m_10 m_14 m_15 m_25 m_26 m_27 m_28 m_29 m_31 m_32 m_33 m_35 m_36 m_37 m_38 m_39 m_40 m_42 r24_f ch on h0 h1 hb0 hb1 ha0 (lN on) (by first | assumption | omega | decide | exact hCF _ (by omega)) (by first | assumption | omega | decide | exact hCF _ (by omega)) (by first | assumption | omega | decide | exact hCF _ (by omega)) B hr e_
abbrev MX11_middle : g_M := (yX11_middle, cX11_middle, 6, (some .long))
theorem dX11_middle_0 : decode cX11_middle 0 = .ok (.lload_n 0, 1) := by decide +kernel
theorem dX11_middle_1 : decode cX11_middle 1 = .ok (.lload_n 2, 1) := by decide +kernel
theorem dX11_middle_2 : decode cX11_middle 2 = .ok (.ladd, 1) := by decide +kernel
theorem dX11_middle_3 : decode cX11_middle 3 = .ok (.lconst 1, 1) := by decide +kernel
theorem dX11_middle_4 : decode cX11_middle 4 = .ok (.ladd, 1) := by decide +kernel
theorem dX11_middle_5 : decode cX11_middle 5 = .ok (.iconst 1, 1) := by decide +kernel
theorem dX11_middle_6 : decode cX11_middle 6 = .ok (.lshr, 1) := by decide +kernel
theorem dX11_middle_7 : decode cX11_middle 7 = .ok (.lstore 4, 2) := by decide +kernel
theorem dX11_middle_9 : decode cX11_middle 9 = .ok (.lload 4, 2) := by decide +kernel
theorem dX11_middle_11 : decode cX11_middle 11 = .ok (.ldc2_w 144, 3) := by decide +kernel
theorem dX11_middle_14 : decode cX11_middle 14 = .ok (.lcmp, 1) := by decide +kernel
theorem dX11_middle_15 : decode cX11_middle 15 = .ok (.ifCond .le 9, 3) := by decide +kernel
theorem dX11_middle_24 : decode cX11_middle 24 = .ok (.lload 4, 2) := by decide +kernel
theorem dX11_middle_26 : decode cX11_middle 26 = .ok (.lreturn, 1) := by decide +kernel
theorem dX11_middle_18 : decode cX11_middle 18 = .ok (.ldc2_w 144, 3) := by decide +kernel
theorem dX11_middle_21 : decode cX11_middle 21 = .ok (.goto 5, 3) := by decide +kernel
set_option maxRecDepth 100000 in
def fn_wr_X11_middle (lo : Int64) (hi : Int64) (β : Type) (k_ : Int64 → β) : β := (if (lg_cmp (((lo + hi) + 1) >>> (Int32.toInt64 1 &&& 63)) 2147483647) ≤ 0 then (k_ (((lo + hi) + 1) >>> (Int32.toInt64 1 &&& 63))) else (k_ 2147483647))
set_option maxRecDepth 100000 in
theorem fn_wr_X11_middle_s {lo : Int64} {hi : Int64} {β : Type} {k_ : Int64 → β} : fn_wr_X11_middle lo hi β k_ = (if (lg_cmp (((lo + hi) + 1) >>> (Int32.toInt64 1 &&& 63)) 2147483647) ≤ 0 then (k_ (((lo + hi) + 1) >>> (Int32.toInt64 1 &&& 63))) else (k_ 2147483647)) := rfl
set_option maxRecDepth 100000 in
set_option maxHeartbeats 4000000 in
theorem wr_X11_middle (E : g_E) (lo : Int64) (hi : Int64)  : Ev E MX11_middle 0 0 0 0 [.long lo, .long hi] [] (fun v_ w_ => ∃ zr : Int64, (∀ (β : Type) (k_ : Int64 → β), fn_wr_X11_middle lo hi β k_ = k_ zr) ∧ v_ = some (.long zr) ∧ w_ = []) := by
  refine Ev.intro (by decide) (Nat.le_of_ble_eq_true rfl) ?_
  intro X B hr hI
  have B : Bd E X cX11_middle RX11 6 0 0 0 0 := B
  have hr : Rt E X (some .long) 0 0 (fun v_ w_ => ∃ zr : Int64, (∀ (β : Type) (k_ : Int64 → β), fn_wr_X11_middle lo hi β k_ = k_ zr) ∧ v_ = some (.long zr) ∧ w_ = []) := hr
  have e_ := fun (β : Type) (k_ : Int64 → β) => fn_wr_X11_middle_s (β := β) (k_ := k_) (lo := lo) (hi := hi)
  show G E X 6 [] 0 0 [(0, .long lo), (2, .long hi)] 0 []
  refine g_lload_n B dX11_middle_0 rfl 0 rfl ?_
  refine g_lload_n B dX11_middle_1 rfl 1 rfl ?_
  refine g_ladd B dX11_middle_2 ?_
  refine g_lconst (v := 1) B dX11_middle_3 (by decide) ?_
  refine g_ladd B dX11_middle_4 ?_
  refine g_iconst (v := 1) B dX11_middle_5 (by decide) ?_
  refine g_lshr B dX11_middle_6 ?_
  refine g_lstore (lv' := [(4, .long (((lo + hi) + 1) >>> (Int32.toInt64 1 &&& 63))), (0, .long lo), (2, .long hi)]) B dX11_middle_7 (by decide) rfl ?_
  refine g_lload B dX11_middle_9 0 rfl ?_
  refine g_ldc2 (v := 2147483647) B w_k_X11_144 dX11_middle_11 ?_
  refine g_lcmp B dX11_middle_14 ?_
  refine g_if_le (tgt := 24) B dX11_middle_15 (by decide) (fun c15_2277 => ?_) (fun c15_2277 => ?_)
  · replace e_ := fun β k_ => (e_ β k_).trans (if_pos c15_2277)
    refine g_lload B dX11_middle_24 0 rfl ?_
    exact g_lret B hr dX11_middle_26 (by decide) (by decide) ⟨(((lo + hi) + 1) >>> (Int32.toInt64 1 &&& 63)), e_, rfl, rfl⟩
  · replace e_ := fun β k_ => (e_ β k_).trans (if_neg c15_2277)
    refine g_ldc2 (v := 2147483647) B w_k_X11_144 dX11_middle_18 ?_
    refine g_goto (tgt := 26) B dX11_middle_21 (by decide) ?_
    exact g_lret B hr dX11_middle_26 (by decide) (by decide) ⟨2147483647, e_, rfl, rfl⟩
abbrev MX11_maySilent : g_M := (yX11_maySilent, cX11_maySilent, 1, (some .boolean))
theorem dX11_maySilent_0 : decode cX11_maySilent 0 = .ok (.aload_n 0, 1) := by decide +kernel
theorem dX11_maySilent_1 : decode cX11_maySilent 1 = .ok (.getfield 66, 3) := by decide +kernel
theorem dX11_maySilent_4 : decode cX11_maySilent 4 = .ok (.iconst 0, 1) := by decide +kernel
theorem dX11_maySilent_5 : decode cX11_maySilent 5 = .ok (.laload, 1) := by decide +kernel
theorem dX11_maySilent_6 : decode cX11_maySilent 6 = .ok (.lconst 0, 1) := by decide +kernel
theorem dX11_maySilent_7 : decode cX11_maySilent 7 = .ok (.lcmp, 1) := by decide +kernel
theorem dX11_maySilent_8 : decode cX11_maySilent 8 = .ok (.ifCond .ne 26, 3) := by decide +kernel
theorem dX11_maySilent_34 : decode cX11_maySilent 34 = .ok (.iconst 0, 1) := by decide +kernel
theorem dX11_maySilent_35 : decode cX11_maySilent 35 = .ok (.ireturn, 1) := by decide +kernel
theorem dX11_maySilent_11 : decode cX11_maySilent 11 = .ok (.aload_n 0, 1) := by decide +kernel
theorem dX11_maySilent_12 : decode cX11_maySilent 12 = .ok (.getfield 118, 3) := by decide +kernel
theorem dX11_maySilent_15 : decode cX11_maySilent 15 = .ok (.iconst 1, 1) := by decide +kernel
theorem dX11_maySilent_16 : decode cX11_maySilent 16 = .ok (.if_icmp .eq 14, 3) := by decide +kernel
theorem dX11_maySilent_30 : decode cX11_maySilent 30 = .ok (.iconst 1, 1) := by decide +kernel
theorem dX11_maySilent_31 : decode cX11_maySilent 31 = .ok (.goto 4, 3) := by decide +kernel
theorem dX11_maySilent_19 : decode cX11_maySilent 19 = .ok (.aload_n 0, 1) := by decide +kernel
theorem dX11_maySilent_20 : decode cX11_maySilent 20 = .ok (.getfield 66, 3) := by decide +kernel
theorem dX11_maySilent_23 : decode cX11_maySilent 23 = .ok (.iconst 3, 1) := by decide +kernel
theorem dX11_maySilent_24 : decode cX11_maySilent 24 = .ok (.laload, 1) := by decide +kernel
theorem dX11_maySilent_25 : decode cX11_maySilent 25 = .ok (.lconst 0, 1) := by decide +kernel
theorem dX11_maySilent_26 : decode cX11_maySilent 26 = .ok (.lcmp, 1) := by decide +kernel
theorem dX11_maySilent_27 : decode cX11_maySilent 27 = .ok (.ifCond .ne 7, 3) := by decide +kernel
set_option maxRecDepth 100000 in
def fn_wr_X11_maySilent (m_15 : Nat) (r24_f : Nat → Nat) (β : Type) (k_ : Int32 → β) : β := (if (r24_f 0) = 0 then (if m_15 = 1 then (k_ 1) else (if (r24_f 3) = 0 then (k_ 1) else (k_ 0))) else (k_ 0))
set_option maxRecDepth 100000 in
theorem fn_wr_X11_maySilent_s {m_15 : Nat} {r24_f : Nat → Nat} {β : Type} {k_ : Int32 → β} : fn_wr_X11_maySilent m_15 r24_f β k_ = (if (r24_f 0) = 0 then (if m_15 = 1 then (k_ 1) else (if (r24_f 3) = 0 then (k_ 1) else (k_ 0))) else (k_ 0)) := rfl
set_option maxRecDepth 100000 in
set_option maxHeartbeats 4000000 in
theorem wr_X11_maySilent (E : g_E) (m : Nat) (r : Nat → Nat) (m_1 : Nat) (m_4 : Nat) (m_9 : Nat) (m_10 : Nat) (m_14 : Nat) (m_15 : Nat) (m_25 : Int32) (m_26 : Int32) (m_27 : Int64) (m_28 : Nat) (m_29 : Nat) (m_31 : Nat) (m_32 : Nat) (m_33 : Nat) (m_35 : Nat) (m_36 : Nat) (m_37 : Int32) (m_38 : Nat) (m_39 : Int32) (m_40 : Int32) (m_42 : Nat) (r24_f : Nat → Nat) (hb0 : m_15 ≤ 2) (ha0 : ∀ j, j < 6 → r24_f j ≤ 40000000000) : Ev E MX11_maySilent 0 0 0 0 [.ref m] [(m, .inr (11, mkF r m_1 m_4 m_9 m_10 m_14 m_15 m_25 m_26 m_27 m_28 m_29 m_31 m_32 m_33 m_35 m_36 m_37 m_38 m_39 m_40 m_42)), ((r 24), .inl (E.2.2.1 3, 6, .inr (.inl (lM r24_f))))] (fun v_ w_ => ∃ zr : Int32, (zr = 0 ∨ zr = 1) ∧ (∀ (β : Type) (k_ : Int32 → β), fn_wr_X11_maySilent m_15 r24_f β k_ = k_ zr) ∧ v_ = some (.int zr) ∧ w_ = [(m, .inr (11, mkF r m_1 m_4 m_9 m_10 m_14 m_15 m_25 m_26 m_27 m_28 m_29 m_31 m_32 m_33 m_35 m_36 m_37 m_38 m_39 m_40 m_42)), ((r 24), .inl (E.2.2.1 3, 6, .inr (.inl (lM r24_f))))]) := by
  refine Ev.intro (by decide) (Nat.le_of_ble_eq_true rfl) ?_
  intro X B hr hI
  have B : Bd E X cX11_maySilent RX11 1 0 0 0 0 := B
  have hr : Rt E X (some .boolean) 0 0 (fun v_ w_ => ∃ zr : Int32, (zr = 0 ∨ zr = 1) ∧ (∀ (β : Type) (k_ : Int32 → β), fn_wr_X11_maySilent m_15 r24_f β k_ = k_ zr) ∧ v_ = some (.int zr) ∧ w_ = [(m, .inr (11, mkF r m_1 m_4 m_9 m_10 m_14 m_15 m_25 m_26 m_27 m_28 m_29 m_31 m_32 m_33 m_35 m_36 m_37 m_38 m_39 m_40 m_42)), ((r 24), .inl (E.2.2.1 3, 6, .inr (.inl (lM r24_f))))]) := hr
  have e_ := fun (β : Type) (k_ : Int32 → β) => fn_wr_X11_maySilent_s (β := β) (k_ := k_) (m_15 := m_15) (r24_f := r24_f)
  show G E X 1 [(m, .inr (11, mkF r m_1 m_4 m_9 m_10 m_14 m_15 m_25 m_26 m_27 m_28 m_29 m_31 m_32 m_33 m_35 m_36 m_37 m_38 m_39 m_40 m_42)), ((r 24), .inl (E.2.2.1 3, 6, .inr (.inl (lM r24_f))))] 0 0 [(0, .ref m)] 0 []
  refine g_aload_n B dX11_maySilent_0 rfl 0 rfl ?_
  refine g_get B 0 24 fl_X11_66 rfl mf_24 dX11_maySilent_1 ?_
  refine g_iconst (v := 0) B dX11_maySilent_4 (by decide) ?_
  refine g_lald B 1 rfl (by unfold vp_in; decide) dX11_maySilent_5 ?_
  refine g_rl (x' := lN (r24_f 0)) (lM_at (f := r24_f) (i := 0) (by omega)) ?_
  have ha_2278 := ha0 0 (by omega)
  refine g_lconst (v := 0) B dX11_maySilent_6 (by decide) ?_
  refine g_lcmp B dX11_maySilent_7 ?_
  refine g_if_ne (tgt := 34) B dX11_maySilent_8 (by decide) (fun c8_2279 => ?_) (fun c8_2279 => ?_)
  · have hn_2280 : ¬ (r24_f 0) = 0 := fun q => c8_2279 ((lc_eq (a := (r24_f 0)) (b := 0) (by omega) (by omega)).mpr q)
    replace e_ := fun β k_ => (e_ β k_).trans (if_neg hn_2280)
    refine g_iconst (v := 0) B dX11_maySilent_34 (by decide) ?_
    exact g_zret B hr (by decide) dX11_maySilent_35 (by decide) (by decide) ⟨0, (by first | assumption | omega | decide | exact hCF _ (by omega)), e_, rfl, rfl⟩
  · have hn_2281 : (r24_f 0) = 0 := (lc_eq (a := (r24_f 0)) (b := 0) (by omega) (by omega)).mp c8_2279
    replace e_ := fun β k_ => (e_ β k_).trans (if_pos hn_2281)
    refine g_aload_n B dX11_maySilent_11 rfl 0 rfl ?_
    refine g_get B 0 15 fl_X11_118 rfl mf_15 dX11_maySilent_12 ?_
    refine g_iconst (v := 1) B dX11_maySilent_15 (by decide) ?_
    refine g_icmp_eq (tgt := 30) B dX11_maySilent_16 (by decide) (fun c16_2282 => ?_) (fun c16_2282 => ?_)
    · have hn_2283 : m_15 = 1 := (nI_eq (a := m_15) (b := 1) (by omega) (by omega)).mp c16_2282
      replace e_ := fun β k_ => (e_ β k_).trans (if_pos hn_2283)
      refine g_iconst (v := 1) B dX11_maySilent_30 (by decide) ?_
      refine g_goto (tgt := 35) B dX11_maySilent_31 (by decide) ?_
      exact g_zret B hr (by decide) dX11_maySilent_35 (by decide) (by decide) ⟨1, (by first | assumption | omega | decide | exact hCF _ (by omega)), e_, rfl, rfl⟩
    · have hn_2284 : ¬ m_15 = 1 := fun q => c16_2282 ((nI_eq (a := m_15) (b := 1) (by omega) (by omega)).mpr q)
      replace e_ := fun β k_ => (e_ β k_).trans (if_neg hn_2284)
      refine g_aload_n B dX11_maySilent_19 rfl 0 rfl ?_
      refine g_get B 0 24 fl_X11_66 rfl mf_24 dX11_maySilent_20 ?_
      refine g_iconst (v := 3) B dX11_maySilent_23 (by decide) ?_
      refine g_lald B 1 rfl (by unfold vp_in; decide) dX11_maySilent_24 ?_
      refine g_rl (x' := lN (r24_f 3)) (lM_at (f := r24_f) (i := 3) (by omega)) ?_
      have ha_2285 := ha0 3 (by omega)
      refine g_lconst (v := 0) B dX11_maySilent_25 (by decide) ?_
      refine g_lcmp B dX11_maySilent_26 ?_
      refine g_if_ne (tgt := 34) B dX11_maySilent_27 (by decide) (fun c27_2286 => ?_) (fun c27_2286 => ?_)
      · have hn_2287 : ¬ (r24_f 3) = 0 := fun q => c27_2286 ((lc_eq (a := (r24_f 3)) (b := 0) (by omega) (by omega)).mpr q)
        replace e_ := fun β k_ => (e_ β k_).trans (if_neg hn_2287)
        refine g_iconst (v := 0) B dX11_maySilent_34 (by decide) ?_
        exact g_zret B hr (by decide) dX11_maySilent_35 (by decide) (by decide) ⟨0, (by first | assumption | omega | decide | exact hCF _ (by omega)), e_, rfl, rfl⟩
      · have hn_2288 : (r24_f 3) = 0 := (lc_eq (a := (r24_f 3)) (b := 0) (by omega) (by omega)).mp c27_2286
        replace e_ := fun β k_ => (e_ β k_).trans (if_pos hn_2288)
        refine g_iconst (v := 1) B dX11_maySilent_30 (by decide) ?_
        refine g_goto (tgt := 35) B dX11_maySilent_31 (by decide) ?_
        exact g_zret B hr (by decide) dX11_maySilent_35 (by decide) (by decide) ⟨1, (by first | assumption | omega | decide | exact hCF _ (by omega)), e_, rfl, rfl⟩
