abbrev MX11_wrong : g_M := (yX11_wrong, cX11_wrong, 2, (some .boolean))
theorem dX11_wrong_0 : decode cX11_wrong 0 = .ok (.aload_n 0, 1) := by decide +kernel
theorem dX11_wrong_1 : decode cX11_wrong 1 = .ok (.getfield 304, 3) := by decide +kernel
theorem w_fl_X11_304 : Cond.fieldLink RX11 304 (TX11 42).1 (TX11 42).2.1 (TX11 42).2.2.1 ∈ g_tbl := g_tbl_in 922 (by decide +kernel) (by decide +kernel)
theorem fl_X11_304 : FL RX11 304 11 42 := ⟨RX11, TX11, 50, rfl, by decide, inX_X11, w_fl_X11_304⟩
theorem dX11_wrong_4 : decode cX11_wrong 4 = .ok (.ifCond .ne 8, 3) := by decide +kernel
theorem dX11_wrong_7 : decode cX11_wrong 7 = .ok (.aload_n 0, 1) := by decide +kernel
theorem dX11_wrong_8 : decode cX11_wrong 8 = .ok (.iload_n 1, 1) := by decide +kernel
theorem dX11_wrong_9 : decode cX11_wrong 9 = .ok (.putfield 304, 3) := by decide +kernel
theorem pf_X11_42 : PF 11 42 .int false := fun C T N h => by cases h; exact ⟨⟨tyX11, tyX11_ok⟩, nmX11, by decide +kernel, rfl, rfl⟩
theorem dX11_wrong_12 : decode cX11_wrong 12 = .ok (.iconst 0, 1) := by decide +kernel
theorem dX11_wrong_13 : decode cX11_wrong 13 = .ok (.ireturn, 1) := by decide +kernel
set_option maxRecDepth 100000 in
set_option maxHeartbeats 4000000 in
theorem ev_X11_wrong_1 (E : g_E) (m : Nat) (r_row : Nat) (r_terms : Nat) (r_deltas : Nat) (r_tapes : Nat) (r_taped : Nat) (r_first : Nat) (r_second : Nat) (r_seen : Nat) (r_seenWeights : Nat) (r_seenMedians : Nat) (r_term : Nat) (r_delta : Nat) (r_weights : Nat) (r_inputs : Nat) (r_guesses : Nat) (r_bases : Nat) (r_keptWeights : Nat) (r_keptInputs : Nat) (r_medians : Nat) (r_bits : Nat) (r_sideBits : Nat) (r_coded : Nat) (r_read : Nat) (r_lows : Nat) (r_highs : Nat) (r_restsTaken : Nat) (r_isBelow : Nat) (r_isWritten : Nat) (r_five : Nat)  : Ev E MX11_wrong 0 0 0 0 [.ref m, .int 1] [(m, .inr (11, [.ref r_row, .int 0, .ref r_terms, .ref r_deltas, .int 0, .ref r_tapes, .ref r_taped, .ref r_first, .ref r_second, .int 0, .int 0, .ref r_seen, .ref r_seenWeights, .ref r_seenMedians, .int 0, .int 0, .ref r_term, .ref r_delta, .ref r_weights, .ref r_inputs, .ref r_guesses, .ref r_bases, .ref r_keptWeights, .ref r_keptInputs, .ref r_medians, .int 0, .int 0, .long 0, .long 0, .long 0, .ref r_bits, .int 0, .int 0, .int 0, .ref r_sideBits, .int 0, .int 0, .int 0, .int 0, .int 0, .int 0, .ref r_coded, .int 0, .ref r_read, .ref r_lows, .ref r_highs, .ref r_restsTaken, .ref r_isBelow, .ref r_isWritten, .ref r_five]))] (fun v_ w_ => v_ = some (.int 0) ∧ w_ = [(m, .inr (11, [.ref r_row, .int 0, .ref r_terms, .ref r_deltas, .int 0, .ref r_tapes, .ref r_taped, .ref r_first, .ref r_second, .int 0, .int 0, .ref r_seen, .ref r_seenWeights, .ref r_seenMedians, .int 0, .int 0, .ref r_term, .ref r_delta, .ref r_weights, .ref r_inputs, .ref r_guesses, .ref r_bases, .ref r_keptWeights, .ref r_keptInputs, .ref r_medians, .int 0, .int 0, .long 0, .long 0, .long 0, .ref r_bits, .int 0, .int 0, .int 0, .ref r_sideBits, .int 0, .int 0, .int 0, .int 0, .int 0, .int 0, .ref r_coded, .int 1, .ref r_read, .ref r_lows, .ref r_highs, .ref r_restsTaken, .ref r_isBelow, .ref r_isWritten, .ref r_five]))]) := by
  refine Ev.intro (by decide) (Nat.le_of_ble_eq_true rfl) ?_
  intro X B hr hI
  have B : Bd E X cX11_wrong RX11 2 0 0 0 0 := B
  have hr : Rt E X (some .boolean) 0 0 (fun v_ w_ => v_ = some (.int 0) ∧ w_ = [(m, .inr (11, [.ref r_row, .int 0, .ref r_terms, .ref r_deltas, .int 0, .ref r_tapes, .ref r_taped, .ref r_first, .ref r_second, .int 0, .int 0, .ref r_seen, .ref r_seenWeights, .ref r_seenMedians, .int 0, .int 0, .ref r_term, .ref r_delta, .ref r_weights, .ref r_inputs, .ref r_guesses, .ref r_bases, .ref r_keptWeights, .ref r_keptInputs, .ref r_medians, .int 0, .int 0, .long 0, .long 0, .long 0, .ref r_bits, .int 0, .int 0, .int 0, .ref r_sideBits, .int 0, .int 0, .int 0, .int 0, .int 0, .int 0, .ref r_coded, .int 1, .ref r_read, .ref r_lows, .ref r_highs, .ref r_restsTaken, .ref r_isBelow, .ref r_isWritten, .ref r_five]))]) := hr
  show G E X 2 [(m, .inr (11, [.ref r_row, .int 0, .ref r_terms, .ref r_deltas, .int 0, .ref r_tapes, .ref r_taped, .ref r_first, .ref r_second, .int 0, .int 0, .ref r_seen, .ref r_seenWeights, .ref r_seenMedians, .int 0, .int 0, .ref r_term, .ref r_delta, .ref r_weights, .ref r_inputs, .ref r_guesses, .ref r_bases, .ref r_keptWeights, .ref r_keptInputs, .ref r_medians, .int 0, .int 0, .long 0, .long 0, .long 0, .ref r_bits, .int 0, .int 0, .int 0, .ref r_sideBits, .int 0, .int 0, .int 0, .int 0, .int 0, .int 0, .ref r_coded, .int 0, .ref r_read, .ref r_lows, .ref r_highs, .ref r_restsTaken, .ref r_isBelow, .ref r_isWritten, .ref r_five]))] 0 0 [(0, .ref m), (1, .int 1)] 0 []
  refine g_aload_n B dX11_wrong_0 rfl 0 rfl ?_
  refine g_get B 0 42 fl_X11_304 rfl rfl dX11_wrong_1 ?_
  refine g_if_ne (tgt := 12) B dX11_wrong_4 (by decide) (fun h => absurd (by decide) h) (fun c4 => ?_)
  refine g_aload_n B dX11_wrong_7 rfl 0 rfl ?_
  refine g_iload_n B dX11_wrong_8 rfl 1 rfl ?_
  refine g_put (ws' := [(m, .inr (11, [.ref r_row, .int 0, .ref r_terms, .ref r_deltas, .int 0, .ref r_tapes, .ref r_taped, .ref r_first, .ref r_second, .int 0, .int 0, .ref r_seen, .ref r_seenWeights, .ref r_seenMedians, .int 0, .int 0, .ref r_term, .ref r_delta, .ref r_weights, .ref r_inputs, .ref r_guesses, .ref r_bases, .ref r_keptWeights, .ref r_keptInputs, .ref r_medians, .int 0, .int 0, .long 0, .long 0, .long 0, .ref r_bits, .int 0, .int 0, .int 0, .ref r_sideBits, .int 0, .int 0, .int 0, .int 0, .int 0, .int 0, .ref r_coded, .int 1, .ref r_read, .ref r_lows, .ref r_highs, .ref r_restsTaken, .ref r_isBelow, .ref r_isWritten, .ref r_five]))]) B 0 42 fl_X11_304 pf_X11_42 rfl (Nat.le_of_ble_eq_true rfl) rfl rfl rfl dX11_wrong_9 ?_
  refine g_iconst (v := 0) B dX11_wrong_12 (by decide) ?_
  exact g_zret B hr (by decide) dX11_wrong_13 (by decide) (by decide) ⟨rfl, rfl⟩
abbrev MX11_opens : g_M := (yX11_opens, cX11_opens, 6, (some .boolean))
theorem dX11_opens_0 : decode cX11_opens 0 = .ok (.iload_n 1, 1) := by decide +kernel
theorem dX11_opens_1 : decode cX11_opens 1 = .ok (.bipush 10, 2) := by decide +kernel
theorem dX11_opens_3 : decode cX11_opens 3 = .ok (.if_icmp .ge 9, 3) := by decide +kernel
theorem dX11_opens_6 : decode cX11_opens 6 = .ok (.aload_n 0, 1) := by decide +kernel
theorem dX11_opens_7 : decode cX11_opens 7 = .ok (.iconst 1, 1) := by decide +kernel
theorem dX11_opens_8 : decode cX11_opens 8 = .ok (.invokevirtual 313, 3) := by decide +kernel
theorem w_ml_X11_313 : Cond.methodLink RX11 313 yX11_wrong ∈ g_tbl := g_tbl_in 1199 (by decide +kernel) (by decide +kernel)
theorem w_cd_X11_wrong : g_cw MX11_wrong ∈ g_tbl := g_tbl_in 1202 (by decide +kernel) (by decide +kernel)
theorem cl_X11_313 : CL RX11 313 1 MX11_wrong := ⟨w_ml_X11_313, w_cd_X11_wrong, w_ini_X11, by decide +kernel, by decide +kernel, by decide +kernel⟩
theorem w_im_X11_wrong : Cond.instanceMethod yX11_wrong ∈ g_tbl := g_tbl_in 1201 (by decide +kernel) (by decide +kernel)
theorem w_se_X11_wrong : Cond.selects RX11 yX11_wrong yX11_wrong ∈ g_tbl := g_tbl_in 57 (by decide +kernel) (by decide +kernel)
theorem dX11_opens_11 : decode cX11_opens 11 = .ok (.ireturn, 1) := by decide +kernel
set_option maxRecDepth 100000 in
set_option maxHeartbeats 4000000 in
theorem ev_X11_opens_0 (E : g_E) (m : Nat) (r_row : Nat) (r_terms : Nat) (r_deltas : Nat) (r_tapes : Nat) (r_taped : Nat) (r_first : Nat) (r_second : Nat) (r_seen : Nat) (r_seenWeights : Nat) (r_seenMedians : Nat) (r_term : Nat) (r_delta : Nat) (r_weights : Nat) (r_inputs : Nat) (r_guesses : Nat) (r_bases : Nat) (r_keptWeights : Nat) (r_keptInputs : Nat) (r_medians : Nat) (r_bits : Nat) (r_sideBits : Nat) (r_coded : Nat) (r_read : Nat) (r_lows : Nat) (r_highs : Nat) (r_restsTaken : Nat) (r_isBelow : Nat) (r_isWritten : Nat) (r_five : Nat)  : Ev E MX11_opens 1 25 0 0 [.ref m, .int 0] [(m, .inr (11, [.ref r_row, .int 0, .ref r_terms, .ref r_deltas, .int 0, .ref r_tapes, .ref r_taped, .ref r_first, .ref r_second, .int 0, .int 0, .ref r_seen, .ref r_seenWeights, .ref r_seenMedians, .int 0, .int 0, .ref r_term, .ref r_delta, .ref r_weights, .ref r_inputs, .ref r_guesses, .ref r_bases, .ref r_keptWeights, .ref r_keptInputs, .ref r_medians, .int 0, .int 0, .long 0, .long 0, .long 0, .ref r_bits, .int 0, .int 0, .int 0, .ref r_sideBits, .int 0, .int 0, .int 0, .int 0, .int 0, .int 0, .ref r_coded, .int 0, .ref r_read, .ref r_lows, .ref r_highs, .ref r_restsTaken, .ref r_isBelow, .ref r_isWritten, .ref r_five]))] (fun v_ w_ => v_ = some (.int 0) ∧ w_ = [(m, .inr (11, [.ref r_row, .int 0, .ref r_terms, .ref r_deltas, .int 0, .ref r_tapes, .ref r_taped, .ref r_first, .ref r_second, .int 0, .int 0, .ref r_seen, .ref r_seenWeights, .ref r_seenMedians, .int 0, .int 0, .ref r_term, .ref r_delta, .ref r_weights, .ref r_inputs, .ref r_guesses, .ref r_bases, .ref r_keptWeights, .ref r_keptInputs, .ref r_medians, .int 0, .int 0, .long 0, .long 0, .long 0, .ref r_bits, .int 0, .int 0, .int 0, .ref r_sideBits, .int 0, .int 0, .int 0, .int 0, .int 0, .int 0, .ref r_coded, .int 1, .ref r_read, .ref r_lows, .ref r_highs, .ref r_restsTaken, .ref r_isBelow, .ref r_isWritten, .ref r_five]))]) := by
  refine Ev.intro (by decide) (Nat.le_of_ble_eq_true rfl) ?_
  intro X B hr hI
  have B : Bd E X cX11_opens RX11 6 1 25 0 0 := B
  have hr : Rt E X (some .boolean) 0 0 (fun v_ w_ => v_ = some (.int 0) ∧ w_ = [(m, .inr (11, [.ref r_row, .int 0, .ref r_terms, .ref r_deltas, .int 0, .ref r_tapes, .ref r_taped, .ref r_first, .ref r_second, .int 0, .int 0, .ref r_seen, .ref r_seenWeights, .ref r_seenMedians, .int 0, .int 0, .ref r_term, .ref r_delta, .ref r_weights, .ref r_inputs, .ref r_guesses, .ref r_bases, .ref r_keptWeights, .ref r_keptInputs, .ref r_medians, .int 0, .int 0, .long 0, .long 0, .long 0, .ref r_bits, .int 0, .int 0, .int 0, .ref r_sideBits, .int 0, .int 0, .int 0, .int 0, .int 0, .int 0, .ref r_coded, .int 1, .ref r_read, .ref r_lows, .ref r_highs, .ref r_restsTaken, .ref r_isBelow, .ref r_isWritten, .ref r_five]))]) := hr
  show G E X 6 [(m, .inr (11, [.ref r_row, .int 0, .ref r_terms, .ref r_deltas, .int 0, .ref r_tapes, .ref r_taped, .ref r_first, .ref r_second, .int 0, .int 0, .ref r_seen, .ref r_seenWeights, .ref r_seenMedians, .int 0, .int 0, .ref r_term, .ref r_delta, .ref r_weights, .ref r_inputs, .ref r_guesses, .ref r_bases, .ref r_keptWeights, .ref r_keptInputs, .ref r_medians, .int 0, .int 0, .long 0, .long 0, .long 0, .ref r_bits, .int 0, .int 0, .int 0, .ref r_sideBits, .int 0, .int 0, .int 0, .int 0, .int 0, .int 0, .ref r_coded, .int 0, .ref r_read, .ref r_lows, .ref r_highs, .ref r_restsTaken, .ref r_isBelow, .ref r_isWritten, .ref r_five]))] 0 0 [(0, .ref m), (1, .int 0)] 0 []
  refine g_iload_n B dX11_opens_0 rfl 1 rfl ?_
  refine g_bipush (v := 10) B dX11_opens_1 (by decide) ?_
  refine g_icmp_ge (tgt := 12) B dX11_opens_3 (by decide) (fun h => absurd h (by decide)) (fun c3 => ?_)
  refine g_aload_n B dX11_opens_6 rfl 0 rfl ?_
  refine g_iconst (v := 1) B dX11_opens_7 (by decide) ?_
  refine g_callV (st := []) (As := [.int 1]) (wr := []) (nc' := 0) (ns' := 0) B cl_X11_313 w_im_X11_wrong w_se_X11_wrong (ev_X11_wrong_1 E m r_row r_terms r_deltas r_tapes r_taped r_first r_second r_seen r_seenWeights r_seenMedians r_term r_delta r_weights r_inputs r_guesses r_bases r_keptWeights r_keptInputs r_medians r_bits r_sideBits r_coded r_read r_lows r_highs r_restsTaken r_isBelow r_isWritten r_five ) rfl [0] [] rfl rfl (by decide) (by decide) (by decide) 0 rfl (fun q h => by cases h; rfl) rfl ⟨by decide, by decide⟩ rfl rfl (by decide) (by decide) rfl (Nat.le_of_ble_eq_true rfl) dX11_opens_8 (fun v w hq => ?_)
  obtain ⟨rfl, rfl⟩ := hq
  show G E X 6 [(m, .inr (11, [.ref r_row, .int 0, .ref r_terms, .ref r_deltas, .int 0, .ref r_tapes, .ref r_taped, .ref r_first, .ref r_second, .int 0, .int 0, .ref r_seen, .ref r_seenWeights, .ref r_seenMedians, .int 0, .int 0, .ref r_term, .ref r_delta, .ref r_weights, .ref r_inputs, .ref r_guesses, .ref r_bases, .ref r_keptWeights, .ref r_keptInputs, .ref r_medians, .int 0, .int 0, .long 0, .long 0, .long 0, .ref r_bits, .int 0, .int 0, .int 0, .ref r_sideBits, .int 0, .int 0, .int 0, .int 0, .int 0, .int 0, .ref r_coded, .int 1, .ref r_read, .ref r_lows, .ref r_highs, .ref r_restsTaken, .ref r_isBelow, .ref r_isWritten, .ref r_five]))] 0 0 [(0, .ref m), (1, .int 0)] 11 [.int 0]
  exact g_zret B hr (by decide) dX11_opens_11 (by decide) (by decide) ⟨rfl, rfl⟩
abbrev MX11_readsFirst : g_M := (yX11_readsFirst, cX11_readsFirst, 7, (some .boolean))
theorem dX11_readsFirst_0 : decode cX11_readsFirst 0 = .ok (.aload_n 0, 1) := by decide +kernel
theorem dX11_readsFirst_1 : decode cX11_readsFirst 1 = .ok (.iload_n 1, 1) := by decide +kernel
theorem dX11_readsFirst_2 : decode cX11_readsFirst 2 = .ok (.invokevirtual 331, 3) := by decide +kernel
theorem w_ml_X11_331 : Cond.methodLink RX11 331 yX11_opens ∈ g_tbl := g_tbl_in 1195 (by decide +kernel) (by decide +kernel)
theorem w_cd_X11_opens : g_cw MX11_opens ∈ g_tbl := g_tbl_in 1198 (by decide +kernel) (by decide +kernel)
theorem cl_X11_331 : CL RX11 331 1 MX11_opens := ⟨w_ml_X11_331, w_cd_X11_opens, w_ini_X11, by decide +kernel, by decide +kernel, by decide +kernel⟩
theorem w_im_X11_opens : Cond.instanceMethod yX11_opens ∈ g_tbl := g_tbl_in 1197 (by decide +kernel) (by decide +kernel)
theorem w_se_X11_opens : Cond.selects RX11 yX11_opens yX11_opens ∈ g_tbl := g_tbl_in 56 (by decide +kernel) (by decide +kernel)
theorem dX11_readsFirst_5 : decode cX11_readsFirst 5 = .ok (.ifCond .ne 5, 3) := by decide +kernel
theorem dX11_readsFirst_8 : decode cX11_readsFirst 8 = .ok (.iconst 0, 1) := by decide +kernel
theorem dX11_readsFirst_9 : decode cX11_readsFirst 9 = .ok (.ireturn, 1) := by decide +kernel
set_option maxRecDepth 100000 in
set_option maxHeartbeats 4000000 in
theorem ev_X11_readsFirst_0 (E : g_E) (m : Nat) (r_row : Nat) (r_terms : Nat) (r_deltas : Nat) (r_tapes : Nat) (r_taped : Nat) (r_first : Nat) (r_second : Nat) (r_seen : Nat) (r_seenWeights : Nat) (r_seenMedians : Nat) (r_term : Nat) (r_delta : Nat) (r_weights : Nat) (r_inputs : Nat) (r_guesses : Nat) (r_bases : Nat) (r_keptWeights : Nat) (r_keptInputs : Nat) (r_medians : Nat) (r_bits : Nat) (r_sideBits : Nat) (r_coded : Nat) (r_read : Nat) (r_lows : Nat) (r_highs : Nat) (r_restsTaken : Nat) (r_isBelow : Nat) (r_isWritten : Nat) (r_five : Nat)  : Ev E MX11_readsFirst 5 118 0 0 [.ref m, .int 0] [(m, .inr (11, [.ref r_row, .int 0, .ref r_terms, .ref r_deltas, .int 0, .ref r_tapes, .ref r_taped, .ref r_first, .ref r_second, .int 0, .int 0, .ref r_seen, .ref r_seenWeights, .ref r_seenMedians, .int 0, .int 0, .ref r_term, .ref r_delta, .ref r_weights, .ref r_inputs, .ref r_guesses, .ref r_bases, .ref r_keptWeights, .ref r_keptInputs, .ref r_medians, .int 0, .int 0, .long 0, .long 0, .long 0, .ref r_bits, .int 0, .int 0, .int 0, .ref r_sideBits, .int 0, .int 0, .int 0, .int 0, .int 0, .int 0, .ref r_coded, .int 0, .ref r_read, .ref r_lows, .ref r_highs, .ref r_restsTaken, .ref r_isBelow, .ref r_isWritten, .ref r_five]))] (fun v_ w_ => v_ = some (.int 0) ∧ w_ = [(m, .inr (11, [.ref r_row, .int 0, .ref r_terms, .ref r_deltas, .int 0, .ref r_tapes, .ref r_taped, .ref r_first, .ref r_second, .int 0, .int 0, .ref r_seen, .ref r_seenWeights, .ref r_seenMedians, .int 0, .int 0, .ref r_term, .ref r_delta, .ref r_weights, .ref r_inputs, .ref r_guesses, .ref r_bases, .ref r_keptWeights, .ref r_keptInputs, .ref r_medians, .int 0, .int 0, .long 0, .long 0, .long 0, .ref r_bits, .int 0, .int 0, .int 0, .ref r_sideBits, .int 0, .int 0, .int 0, .int 0, .int 0, .int 0, .ref r_coded, .int 1, .ref r_read, .ref r_lows, .ref r_highs, .ref r_restsTaken, .ref r_isBelow, .ref r_isWritten, .ref r_five]))]) := by
  refine Ev.intro (by decide) (Nat.le_of_ble_eq_true rfl) ?_
  intro X B hr hI
  have B : Bd E X cX11_readsFirst RX11 7 5 118 0 0 := B
  have hr : Rt E X (some .boolean) 0 0 (fun v_ w_ => v_ = some (.int 0) ∧ w_ = [(m, .inr (11, [.ref r_row, .int 0, .ref r_terms, .ref r_deltas, .int 0, .ref r_tapes, .ref r_taped, .ref r_first, .ref r_second, .int 0, .int 0, .ref r_seen, .ref r_seenWeights, .ref r_seenMedians, .int 0, .int 0, .ref r_term, .ref r_delta, .ref r_weights, .ref r_inputs, .ref r_guesses, .ref r_bases, .ref r_keptWeights, .ref r_keptInputs, .ref r_medians, .int 0, .int 0, .long 0, .long 0, .long 0, .ref r_bits, .int 0, .int 0, .int 0, .ref r_sideBits, .int 0, .int 0, .int 0, .int 0, .int 0, .int 0, .ref r_coded, .int 1, .ref r_read, .ref r_lows, .ref r_highs, .ref r_restsTaken, .ref r_isBelow, .ref r_isWritten, .ref r_five]))]) := hr
  show G E X 7 [(m, .inr (11, [.ref r_row, .int 0, .ref r_terms, .ref r_deltas, .int 0, .ref r_tapes, .ref r_taped, .ref r_first, .ref r_second, .int 0, .int 0, .ref r_seen, .ref r_seenWeights, .ref r_seenMedians, .int 0, .int 0, .ref r_term, .ref r_delta, .ref r_weights, .ref r_inputs, .ref r_guesses, .ref r_bases, .ref r_keptWeights, .ref r_keptInputs, .ref r_medians, .int 0, .int 0, .long 0, .long 0, .long 0, .ref r_bits, .int 0, .int 0, .int 0, .ref r_sideBits, .int 0, .int 0, .int 0, .int 0, .int 0, .int 0, .ref r_coded, .int 0, .ref r_read, .ref r_lows, .ref r_highs, .ref r_restsTaken, .ref r_isBelow, .ref r_isWritten, .ref r_five]))] 0 0 [(0, .ref m), (1, .int 0)] 0 []
  refine g_aload_n B dX11_readsFirst_0 rfl 0 rfl ?_
  refine g_iload_n B dX11_readsFirst_1 rfl 1 rfl ?_
  refine g_callV (st := []) (As := [.int 0]) (wr := []) (nc' := 0) (ns' := 0) B cl_X11_331 w_im_X11_opens w_se_X11_opens (ev_X11_opens_0 E m r_row r_terms r_deltas r_tapes r_taped r_first r_second r_seen r_seenWeights r_seenMedians r_term r_delta r_weights r_inputs r_guesses r_bases r_keptWeights r_keptInputs r_medians r_bits r_sideBits r_coded r_read r_lows r_highs r_restsTaken r_isBelow r_isWritten r_five ) rfl [0] [] rfl rfl (by decide) (by decide) (by decide) 0 rfl (fun q h => by cases h; rfl) rfl ⟨by decide, by decide⟩ rfl rfl (by decide) (by decide) rfl (Nat.le_of_ble_eq_true rfl) dX11_readsFirst_2 (fun v w hq => ?_)
  obtain ⟨rfl, rfl⟩ := hq
  show G E X 7 [(m, .inr (11, [.ref r_row, .int 0, .ref r_terms, .ref r_deltas, .int 0, .ref r_tapes, .ref r_taped, .ref r_first, .ref r_second, .int 0, .int 0, .ref r_seen, .ref r_seenWeights, .ref r_seenMedians, .int 0, .int 0, .ref r_term, .ref r_delta, .ref r_weights, .ref r_inputs, .ref r_guesses, .ref r_bases, .ref r_keptWeights, .ref r_keptInputs, .ref r_medians, .int 0, .int 0, .long 0, .long 0, .long 0, .ref r_bits, .int 0, .int 0, .int 0, .ref r_sideBits, .int 0, .int 0, .int 0, .int 0, .int 0, .int 0, .ref r_coded, .int 1, .ref r_read, .ref r_lows, .ref r_highs, .ref r_restsTaken, .ref r_isBelow, .ref r_isWritten, .ref r_five]))] 0 0 [(0, .ref m), (1, .int 0)] 5 [.int 0]
  refine g_if_ne (tgt := 10) B dX11_readsFirst_5 (by decide) (fun h => absurd (by decide) h) (fun c5 => ?_)
  refine g_iconst (v := 0) B dX11_readsFirst_8 (by decide) ?_
  exact g_zret B hr (by decide) dX11_readsFirst_9 (by decide) (by decide) ⟨rfl, rfl⟩
abbrev MX11_decodes : g_M := (yX11_decodes, cX11_decodes, 6, (some .int))
theorem dX11_decodes_0 : decode cX11_decodes 0 = .ok (.aload_n 0, 1) := by decide +kernel
theorem dX11_decodes_1 : decode cX11_decodes 1 = .ok (.getfield 23, 3) := by decide +kernel
theorem dX11_decodes_4 : decode cX11_decodes 4 = .ok (.iconst 0, 1) := by decide +kernel
theorem dX11_decodes_5 : decode cX11_decodes 5 = .ok (.iaload, 1) := by decide +kernel
theorem dX11_decodes_6 : decode cX11_decodes 6 = .ok (.istore_n 2, 1) := by decide +kernel
theorem dX11_decodes_7 : decode cX11_decodes 7 = .ok (.aload_n 0, 1) := by decide +kernel
theorem dX11_decodes_8 : decode cX11_decodes 8 = .ok (.getfield 23, 3) := by decide +kernel
theorem dX11_decodes_11 : decode cX11_decodes 11 = .ok (.iconst 1, 1) := by decide +kernel
theorem dX11_decodes_12 : decode cX11_decodes 12 = .ok (.iaload, 1) := by decide +kernel
theorem dX11_decodes_13 : decode cX11_decodes 13 = .ok (.istore_n 3, 1) := by decide +kernel
theorem dX11_decodes_14 : decode cX11_decodes 14 = .ok (.aload_n 0, 1) := by decide +kernel
theorem dX11_decodes_15 : decode cX11_decodes 15 = .ok (.getfield 23, 3) := by decide +kernel
theorem dX11_decodes_18 : decode cX11_decodes 18 = .ok (.iconst 0, 1) := by decide +kernel
theorem dX11_decodes_19 : decode cX11_decodes 19 = .ok (.iconst 0, 1) := by decide +kernel
theorem dX11_decodes_20 : decode cX11_decodes 20 = .ok (.iastore, 1) := by decide +kernel
theorem dX11_decodes_21 : decode cX11_decodes 21 = .ok (.iload_n 1, 1) := by decide +kernel
theorem dX11_decodes_22 : decode cX11_decodes 22 = .ok (.ifCond .eq 10, 3) := by decide +kernel
theorem dX11_decodes_32 : decode cX11_decodes 32 = .ok (.aload_n 0, 1) := by decide +kernel
theorem dX11_decodes_33 : decode cX11_decodes 33 = .ok (.iconst 0, 1) := by decide +kernel
theorem dX11_decodes_34 : decode cX11_decodes 34 = .ok (.putfield 304, 3) := by decide +kernel
theorem dX11_decodes_37 : decode cX11_decodes 37 = .ok (.aload_n 0, 1) := by decide +kernel
theorem dX11_decodes_38 : decode cX11_decodes 38 = .ok (.iconst 0, 1) := by decide +kernel
theorem dX11_decodes_39 : decode cX11_decodes 39 = .ok (.putfield 243, 3) := by decide +kernel
theorem w_fl_X11_243 : Cond.fieldLink RX11 243 (TX11 40).1 (TX11 40).2.1 (TX11 40).2.2.1 ∈ g_tbl := g_tbl_in 920 (by decide +kernel) (by decide +kernel)
theorem fl_X11_243 : FL RX11 243 11 40 := ⟨RX11, TX11, 50, rfl, by decide, inX_X11, w_fl_X11_243⟩
theorem pf_X11_40 : PF 11 40 .int false := fun C T N h => by cases h; exact ⟨⟨tyX11, tyX11_ok⟩, nmX11, by decide +kernel, rfl, rfl⟩
theorem dX11_decodes_42 : decode cX11_decodes 42 = .ok (.iconst 0, 1) := by decide +kernel
theorem dX11_decodes_43 : decode cX11_decodes 43 = .ok (.istore 4, 2) := by decide +kernel
theorem dX11_decodes_45 : decode cX11_decodes 45 = .ok (.iload 4, 2) := by decide +kernel
theorem dX11_decodes_47 : decode cX11_decodes 47 = .ok (.iload_n 2, 1) := by decide +kernel
theorem dX11_decodes_48 : decode cX11_decodes 48 = .ok (.if_icmp .ge 23, 3) := by decide +kernel
theorem dX11_decodes_71 : decode cX11_decodes 71 = .ok (.aload_n 0, 1) := by decide +kernel
theorem dX11_decodes_72 : decode cX11_decodes 72 = .ok (.iload_n 2, 1) := by decide +kernel
theorem dX11_decodes_73 : decode cX11_decodes 73 = .ok (.invokevirtual 347, 3) := by decide +kernel
theorem w_ml_X11_347 : Cond.methodLink RX11 347 yX11_readsFirst ∈ g_tbl := g_tbl_in 1191 (by decide +kernel) (by decide +kernel)
theorem w_cd_X11_readsFirst : g_cw MX11_readsFirst ∈ g_tbl := g_tbl_in 1194 (by decide +kernel) (by decide +kernel)
theorem cl_X11_347 : CL RX11 347 1 MX11_readsFirst := ⟨w_ml_X11_347, w_cd_X11_readsFirst, w_ini_X11, by decide +kernel, by decide +kernel, by decide +kernel⟩
theorem w_im_X11_readsFirst : Cond.instanceMethod yX11_readsFirst ∈ g_tbl := g_tbl_in 1193 (by decide +kernel) (by decide +kernel)
theorem w_se_X11_readsFirst : Cond.selects RX11 yX11_readsFirst yX11_readsFirst ∈ g_tbl := g_tbl_in 55 (by decide +kernel) (by decide +kernel)
theorem dX11_decodes_76 : decode cX11_decodes 76 = .ok (.ifCond .ne 9, 3) := by decide +kernel
theorem dX11_decodes_79 : decode cX11_decodes 79 = .ok (.aload_n 0, 1) := by decide +kernel
theorem dX11_decodes_80 : decode cX11_decodes 80 = .ok (.getfield 304, 3) := by decide +kernel
theorem dX11_decodes_83 : decode cX11_decodes 83 = .ok (.ineg, 1) := by decide +kernel
theorem dX11_decodes_84 : decode cX11_decodes 84 = .ok (.ireturn, 1) := by decide +kernel
set_option maxRecDepth 100000 in
set_option maxHeartbeats 4000000 in
theorem ev_X11_decodes_0 (E : g_E) (m : Nat) (r_row : Nat) (r_terms : Nat) (r_deltas : Nat) (r_tapes : Nat) (r_taped : Nat) (r_first : Nat) (r_second : Nat) (r_seen : Nat) (r_seenWeights : Nat) (r_seenMedians : Nat) (r_term : Nat) (r_delta : Nat) (r_weights : Nat) (r_inputs : Nat) (r_guesses : Nat) (r_bases : Nat) (r_keptWeights : Nat) (r_keptInputs : Nat) (r_medians : Nat) (r_bits : Nat) (r_sideBits : Nat) (r_coded : Nat) (r_read : Nat) (r_lows : Nat) (r_highs : Nat) (r_restsTaken : Nat) (r_isBelow : Nat) (r_isWritten : Nat) (r_five : Nat)  : Ev E MX11_decodes 6 144 0 0 [.ref m, .int 0] [(m, .inr (11, [.ref r_row, .int 0, .ref r_terms, .ref r_deltas, .int 0, .ref r_tapes, .ref r_taped, .ref r_first, .ref r_second, .int 0, .int 0, .ref r_seen, .ref r_seenWeights, .ref r_seenMedians, .int 0, .int 0, .ref r_term, .ref r_delta, .ref r_weights, .ref r_inputs, .ref r_guesses, .ref r_bases, .ref r_keptWeights, .ref r_keptInputs, .ref r_medians, .int 0, .int 0, .long 0, .long 0, .long 0, .ref r_bits, .int 0, .int 0, .int 0, .ref r_sideBits, .int 0, .int 0, .int 0, .int 0, .int 0, .int 0, .ref r_coded, .int 0, .ref r_read, .ref r_lows, .ref r_highs, .ref r_restsTaken, .ref r_isBelow, .ref r_isWritten, .ref r_five])), (r_taped, .inl (E.2.2.1 0, 2, .inl (fun _ => 0)))] (fun v_ w_ => v_ = some (.int (-1))) := by
  refine Ev.intro (by decide) (Nat.le_of_ble_eq_true rfl) ?_
  intro X B hr hI
  have B : Bd E X cX11_decodes RX11 6 6 144 0 0 := B
  have hr : Rt E X (some .int) 0 0 (fun v_ w_ => v_ = some (.int (-1))) := hr
  show G E X 6 [(m, .inr (11, [.ref r_row, .int 0, .ref r_terms, .ref r_deltas, .int 0, .ref r_tapes, .ref r_taped, .ref r_first, .ref r_second, .int 0, .int 0, .ref r_seen, .ref r_seenWeights, .ref r_seenMedians, .int 0, .int 0, .ref r_term, .ref r_delta, .ref r_weights, .ref r_inputs, .ref r_guesses, .ref r_bases, .ref r_keptWeights, .ref r_keptInputs, .ref r_medians, .int 0, .int 0, .long 0, .long 0, .long 0, .ref r_bits, .int 0, .int 0, .int 0, .ref r_sideBits, .int 0, .int 0, .int 0, .int 0, .int 0, .int 0, .ref r_coded, .int 0, .ref r_read, .ref r_lows, .ref r_highs, .ref r_restsTaken, .ref r_isBelow, .ref r_isWritten, .ref r_five])), (r_taped, .inl (E.2.2.1 0, 2, .inl (fun _ => 0)))] 0 0 [(0, .ref m), (1, .int 0)] 0 []
  refine g_aload_n B dX11_decodes_0 rfl 0 rfl ?_
  refine g_get B 0 6 fl_X11_23 rfl rfl dX11_decodes_1 ?_
  refine g_iconst (v := 0) B dX11_decodes_4 (by decide) ?_
  refine g_iald B 1 rfl (by unfold vp_in; decide) dX11_decodes_5 ?_
  refine g_ri (x' := 0) rfl ?_
  refine g_istore_n (lv' := [(2, .int 0), (0, .ref m), (1, .int 0)]) B dX11_decodes_6 rfl (by decide) rfl ?_
  refine g_aload_n B dX11_decodes_7 rfl 1 rfl ?_
  refine g_get B 0 6 fl_X11_23 rfl rfl dX11_decodes_8 ?_
  refine g_iconst (v := 1) B dX11_decodes_11 (by decide) ?_
  refine g_iald B 1 rfl (by unfold vp_in; decide) dX11_decodes_12 ?_
  refine g_ri (x' := 0) rfl ?_
  refine g_istore_n (lv' := [(3, .int 0), (2, .int 0), (0, .ref m), (1, .int 0)]) B dX11_decodes_13 rfl (by decide) rfl ?_
  refine g_aload_n B dX11_decodes_14 rfl 2 rfl ?_
  refine g_get B 0 6 fl_X11_23 rfl rfl dX11_decodes_15 ?_
  refine g_iconst (v := 0) B dX11_decodes_18 (by decide) ?_
  refine g_iconst (v := 0) B dX11_decodes_19 (by decide) ?_
  refine g_iast (ws' := [(m, .inr (11, [.ref r_row, .int 0, .ref r_terms, .ref r_deltas, .int 0, .ref r_tapes, .ref r_taped, .ref r_first, .ref r_second, .int 0, .int 0, .ref r_seen, .ref r_seenWeights, .ref r_seenMedians, .int 0, .int 0, .ref r_term, .ref r_delta, .ref r_weights, .ref r_inputs, .ref r_guesses, .ref r_bases, .ref r_keptWeights, .ref r_keptInputs, .ref r_medians, .int 0, .int 0, .long 0, .long 0, .long 0, .ref r_bits, .int 0, .int 0, .int 0, .ref r_sideBits, .int 0, .int 0, .int 0, .int 0, .int 0, .int 0, .ref r_coded, .int 0, .ref r_read, .ref r_lows, .ref r_highs, .ref r_restsTaken, .ref r_isBelow, .ref r_isWritten, .ref r_five])), (r_taped, .inl (E.2.2.1 0, 2, .inl (upd (fun _ => 0) (Int32.toNatClampNeg 0) 0)))]) B 1 rfl (by unfold vp_in; decide) rfl dX11_decodes_20 ?_
  refine g_iload_n B dX11_decodes_21 rfl 3 rfl ?_
  refine g_if_eq (tgt := 32) B dX11_decodes_22 (by decide) (fun c22 => ?_) (fun h => absurd (by decide) h)
  refine g_aload_n B dX11_decodes_32 rfl 2 rfl ?_
  refine g_iconst (v := 0) B dX11_decodes_33 (by decide) ?_
  refine g_put (ws' := [(m, .inr (11, [.ref r_row, .int 0, .ref r_terms, .ref r_deltas, .int 0, .ref r_tapes, .ref r_taped, .ref r_first, .ref r_second, .int 0, .int 0, .ref r_seen, .ref r_seenWeights, .ref r_seenMedians, .int 0, .int 0, .ref r_term, .ref r_delta, .ref r_weights, .ref r_inputs, .ref r_guesses, .ref r_bases, .ref r_keptWeights, .ref r_keptInputs, .ref r_medians, .int 0, .int 0, .long 0, .long 0, .long 0, .ref r_bits, .int 0, .int 0, .int 0, .ref r_sideBits, .int 0, .int 0, .int 0, .int 0, .int 0, .int 0, .ref r_coded, .int 0, .ref r_read, .ref r_lows, .ref r_highs, .ref r_restsTaken, .ref r_isBelow, .ref r_isWritten, .ref r_five])), (r_taped, .inl (E.2.2.1 0, 2, .inl (upd (fun _ => 0) (Int32.toNatClampNeg 0) 0)))]) B 0 42 fl_X11_304 pf_X11_42 rfl (Nat.le_of_ble_eq_true rfl) rfl rfl rfl dX11_decodes_34 ?_
  refine g_aload_n B dX11_decodes_37 rfl 2 rfl ?_
  refine g_iconst (v := 0) B dX11_decodes_38 (by decide) ?_
  refine g_put (ws' := [(m, .inr (11, [.ref r_row, .int 0, .ref r_terms, .ref r_deltas, .int 0, .ref r_tapes, .ref r_taped, .ref r_first, .ref r_second, .int 0, .int 0, .ref r_seen, .ref r_seenWeights, .ref r_seenMedians, .int 0, .int 0, .ref r_term, .ref r_delta, .ref r_weights, .ref r_inputs, .ref r_guesses, .ref r_bases, .ref r_keptWeights, .ref r_keptInputs, .ref r_medians, .int 0, .int 0, .long 0, .long 0, .long 0, .ref r_bits, .int 0, .int 0, .int 0, .ref r_sideBits, .int 0, .int 0, .int 0, .int 0, .int 0, .int 0, .ref r_coded, .int 0, .ref r_read, .ref r_lows, .ref r_highs, .ref r_restsTaken, .ref r_isBelow, .ref r_isWritten, .ref r_five])), (r_taped, .inl (E.2.2.1 0, 2, .inl (upd (fun _ => 0) (Int32.toNatClampNeg 0) 0)))]) B 0 40 fl_X11_243 pf_X11_40 rfl (Nat.le_of_ble_eq_true rfl) rfl rfl rfl dX11_decodes_39 ?_
  refine g_iconst (v := 0) B dX11_decodes_42 (by decide) ?_
  refine g_istore (lv' := [(4, .int 0), (3, .int 0), (2, .int 0), (0, .ref m), (1, .int 0)]) B dX11_decodes_43 (by decide) rfl ?_
  refine g_iload B dX11_decodes_45 0 rfl ?_
  refine g_iload_n B dX11_decodes_47 rfl 2 rfl ?_
  refine g_icmp_ge (tgt := 71) B dX11_decodes_48 (by decide) (fun c48 => ?_) (fun h => absurd (by decide) h)
  refine g_aload_n B dX11_decodes_71 rfl 3 rfl ?_
  refine g_iload_n B dX11_decodes_72 rfl 2 rfl ?_
  refine g_callV (st := []) (As := [.int 0]) (wr := [(r_taped, .inl (E.2.2.1 0, 2, .inl (upd (fun _ => 0) (Int32.toNatClampNeg 0) 0)))]) (nc' := 0) (ns' := 0) B cl_X11_347 w_im_X11_readsFirst w_se_X11_readsFirst (ev_X11_readsFirst_0 E m r_row r_terms r_deltas r_tapes r_taped r_first r_second r_seen r_seenWeights r_seenMedians r_term r_delta r_weights r_inputs r_guesses r_bases r_keptWeights r_keptInputs r_medians r_bits r_sideBits r_coded r_read r_lows r_highs r_restsTaken r_isBelow r_isWritten r_five ) rfl [0] [1] rfl rfl (by decide) (by decide) (by decide) 0 rfl (fun q h => by cases h; rfl) rfl ⟨by decide, by decide⟩ rfl rfl (by decide) (by decide) rfl (Nat.le_of_ble_eq_true rfl) dX11_decodes_73 (fun v w hq => ?_)
  obtain ⟨rfl, rfl⟩ := hq
  show G E X 6 [(r_taped, .inl (E.2.2.1 0, 2, .inl (upd (fun _ => 0) (Int32.toNatClampNeg 0) 0))), (m, .inr (11, [.ref r_row, .int 0, .ref r_terms, .ref r_deltas, .int 0, .ref r_tapes, .ref r_taped, .ref r_first, .ref r_second, .int 0, .int 0, .ref r_seen, .ref r_seenWeights, .ref r_seenMedians, .int 0, .int 0, .ref r_term, .ref r_delta, .ref r_weights, .ref r_inputs, .ref r_guesses, .ref r_bases, .ref r_keptWeights, .ref r_keptInputs, .ref r_medians, .int 0, .int 0, .long 0, .long 0, .long 0, .ref r_bits, .int 0, .int 0, .int 0, .ref r_sideBits, .int 0, .int 0, .int 0, .int 0, .int 0, .int 0, .ref r_coded, .int 1, .ref r_read, .ref r_lows, .ref r_highs, .ref r_restsTaken, .ref r_isBelow, .ref r_isWritten, .ref r_five]))] 0 0 [(4, .int 0), (3, .int 0), (2, .int 0), (0, .ref m), (1, .int 0)] 76 [.int 0]
  refine g_if_ne (tgt := 85) B dX11_decodes_76 (by decide) (fun h => absurd (by decide) h) (fun c76 => ?_)
  refine g_aload_n B dX11_decodes_79 rfl 3 rfl ?_
  refine g_get B 1 42 fl_X11_304 rfl rfl dX11_decodes_80 ?_
  refine g_ineg B dX11_decodes_83 ?_
  exact g_iret B hr dX11_decodes_84 (by decide) (by decide) rfl
theorem dX11_decodes_25 : decode cX11_decodes 25 = .ok (.aload_n 0, 1) := by decide +kernel
theorem dX11_decodes_26 : decode cX11_decodes 26 = .ok (.getfield 23, 3) := by decide +kernel
theorem dX11_decodes_29 : decode cX11_decodes 29 = .ok (.iconst 1, 1) := by decide +kernel
theorem dX11_decodes_30 : decode cX11_decodes 30 = .ok (.iconst 0, 1) := by decide +kernel
theorem dX11_decodes_31 : decode cX11_decodes 31 = .ok (.iastore, 1) := by decide +kernel
set_option maxRecDepth 100000 in
set_option maxHeartbeats 4000000 in
theorem ev_X11_decodes_1 (E : g_E) (m : Nat) (r_row : Nat) (r_terms : Nat) (r_deltas : Nat) (r_tapes : Nat) (r_taped : Nat) (r_first : Nat) (r_second : Nat) (r_seen : Nat) (r_seenWeights : Nat) (r_seenMedians : Nat) (r_term : Nat) (r_delta : Nat) (r_weights : Nat) (r_inputs : Nat) (r_guesses : Nat) (r_bases : Nat) (r_keptWeights : Nat) (r_keptInputs : Nat) (r_medians : Nat) (r_bits : Nat) (r_sideBits : Nat) (r_coded : Nat) (r_read : Nat) (r_lows : Nat) (r_highs : Nat) (r_restsTaken : Nat) (r_isBelow : Nat) (r_isWritten : Nat) (r_five : Nat)  : Ev E MX11_decodes 6 144 0 0 [.ref m, .int 1] [(m, .inr (11, [.ref r_row, .int 0, .ref r_terms, .ref r_deltas, .int 0, .ref r_tapes, .ref r_taped, .ref r_first, .ref r_second, .int 0, .int 0, .ref r_seen, .ref r_seenWeights, .ref r_seenMedians, .int 0, .int 0, .ref r_term, .ref r_delta, .ref r_weights, .ref r_inputs, .ref r_guesses, .ref r_bases, .ref r_keptWeights, .ref r_keptInputs, .ref r_medians, .int 0, .int 0, .long 0, .long 0, .long 0, .ref r_bits, .int 0, .int 0, .int 0, .ref r_sideBits, .int 0, .int 0, .int 0, .int 0, .int 0, .int 0, .ref r_coded, .int 0, .ref r_read, .ref r_lows, .ref r_highs, .ref r_restsTaken, .ref r_isBelow, .ref r_isWritten, .ref r_five])), (r_taped, .inl (E.2.2.1 0, 2, .inl (fun _ => 0)))] (fun v_ w_ => v_ = some (.int (-1))) := by
  refine Ev.intro (by decide) (Nat.le_of_ble_eq_true rfl) ?_
  intro X B hr hI
  have B : Bd E X cX11_decodes RX11 6 6 144 0 0 := B
  have hr : Rt E X (some .int) 0 0 (fun v_ w_ => v_ = some (.int (-1))) := hr
  show G E X 6 [(m, .inr (11, [.ref r_row, .int 0, .ref r_terms, .ref r_deltas, .int 0, .ref r_tapes, .ref r_taped, .ref r_first, .ref r_second, .int 0, .int 0, .ref r_seen, .ref r_seenWeights, .ref r_seenMedians, .int 0, .int 0, .ref r_term, .ref r_delta, .ref r_weights, .ref r_inputs, .ref r_guesses, .ref r_bases, .ref r_keptWeights, .ref r_keptInputs, .ref r_medians, .int 0, .int 0, .long 0, .long 0, .long 0, .ref r_bits, .int 0, .int 0, .int 0, .ref r_sideBits, .int 0, .int 0, .int 0, .int 0, .int 0, .int 0, .ref r_coded, .int 0, .ref r_read, .ref r_lows, .ref r_highs, .ref r_restsTaken, .ref r_isBelow, .ref r_isWritten, .ref r_five])), (r_taped, .inl (E.2.2.1 0, 2, .inl (fun _ => 0)))] 0 0 [(0, .ref m), (1, .int 1)] 0 []
  refine g_aload_n B dX11_decodes_0 rfl 0 rfl ?_
  refine g_get B 0 6 fl_X11_23 rfl rfl dX11_decodes_1 ?_
  refine g_iconst (v := 0) B dX11_decodes_4 (by decide) ?_
  refine g_iald B 1 rfl (by unfold vp_in; decide) dX11_decodes_5 ?_
  refine g_ri (x' := 0) rfl ?_
  refine g_istore_n (lv' := [(2, .int 0), (0, .ref m), (1, .int 1)]) B dX11_decodes_6 rfl (by decide) rfl ?_
  refine g_aload_n B dX11_decodes_7 rfl 1 rfl ?_
  refine g_get B 0 6 fl_X11_23 rfl rfl dX11_decodes_8 ?_
  refine g_iconst (v := 1) B dX11_decodes_11 (by decide) ?_
  refine g_iald B 1 rfl (by unfold vp_in; decide) dX11_decodes_12 ?_
  refine g_ri (x' := 0) rfl ?_
  refine g_istore_n (lv' := [(3, .int 0), (2, .int 0), (0, .ref m), (1, .int 1)]) B dX11_decodes_13 rfl (by decide) rfl ?_
  refine g_aload_n B dX11_decodes_14 rfl 2 rfl ?_
  refine g_get B 0 6 fl_X11_23 rfl rfl dX11_decodes_15 ?_
  refine g_iconst (v := 0) B dX11_decodes_18 (by decide) ?_
  refine g_iconst (v := 0) B dX11_decodes_19 (by decide) ?_
  refine g_iast (ws' := [(m, .inr (11, [.ref r_row, .int 0, .ref r_terms, .ref r_deltas, .int 0, .ref r_tapes, .ref r_taped, .ref r_first, .ref r_second, .int 0, .int 0, .ref r_seen, .ref r_seenWeights, .ref r_seenMedians, .int 0, .int 0, .ref r_term, .ref r_delta, .ref r_weights, .ref r_inputs, .ref r_guesses, .ref r_bases, .ref r_keptWeights, .ref r_keptInputs, .ref r_medians, .int 0, .int 0, .long 0, .long 0, .long 0, .ref r_bits, .int 0, .int 0, .int 0, .ref r_sideBits, .int 0, .int 0, .int 0, .int 0, .int 0, .int 0, .ref r_coded, .int 0, .ref r_read, .ref r_lows, .ref r_highs, .ref r_restsTaken, .ref r_isBelow, .ref r_isWritten, .ref r_five])), (r_taped, .inl (E.2.2.1 0, 2, .inl (upd (fun _ => 0) (Int32.toNatClampNeg 0) 0)))]) B 1 rfl (by unfold vp_in; decide) rfl dX11_decodes_20 ?_
  refine g_iload_n B dX11_decodes_21 rfl 3 rfl ?_
  refine g_if_eq (tgt := 32) B dX11_decodes_22 (by decide) (fun h => absurd h (by decide)) (fun c22 => ?_)
  refine g_aload_n B dX11_decodes_25 rfl 2 rfl ?_
  refine g_get B 0 6 fl_X11_23 rfl rfl dX11_decodes_26 ?_
  refine g_iconst (v := 1) B dX11_decodes_29 (by decide) ?_
  refine g_iconst (v := 0) B dX11_decodes_30 (by decide) ?_
  refine g_iast (ws' := [(m, .inr (11, [.ref r_row, .int 0, .ref r_terms, .ref r_deltas, .int 0, .ref r_tapes, .ref r_taped, .ref r_first, .ref r_second, .int 0, .int 0, .ref r_seen, .ref r_seenWeights, .ref r_seenMedians, .int 0, .int 0, .ref r_term, .ref r_delta, .ref r_weights, .ref r_inputs, .ref r_guesses, .ref r_bases, .ref r_keptWeights, .ref r_keptInputs, .ref r_medians, .int 0, .int 0, .long 0, .long 0, .long 0, .ref r_bits, .int 0, .int 0, .int 0, .ref r_sideBits, .int 0, .int 0, .int 0, .int 0, .int 0, .int 0, .ref r_coded, .int 0, .ref r_read, .ref r_lows, .ref r_highs, .ref r_restsTaken, .ref r_isBelow, .ref r_isWritten, .ref r_five])), (r_taped, .inl (E.2.2.1 0, 2, .inl (upd (upd (fun _ => 0) (Int32.toNatClampNeg 0) 0) (Int32.toNatClampNeg 1) 0)))]) B 1 rfl (by unfold vp_in; decide) rfl dX11_decodes_31 ?_
  refine g_aload_n B dX11_decodes_32 rfl 2 rfl ?_
  refine g_iconst (v := 0) B dX11_decodes_33 (by decide) ?_
  refine g_put (ws' := [(m, .inr (11, [.ref r_row, .int 0, .ref r_terms, .ref r_deltas, .int 0, .ref r_tapes, .ref r_taped, .ref r_first, .ref r_second, .int 0, .int 0, .ref r_seen, .ref r_seenWeights, .ref r_seenMedians, .int 0, .int 0, .ref r_term, .ref r_delta, .ref r_weights, .ref r_inputs, .ref r_guesses, .ref r_bases, .ref r_keptWeights, .ref r_keptInputs, .ref r_medians, .int 0, .int 0, .long 0, .long 0, .long 0, .ref r_bits, .int 0, .int 0, .int 0, .ref r_sideBits, .int 0, .int 0, .int 0, .int 0, .int 0, .int 0, .ref r_coded, .int 0, .ref r_read, .ref r_lows, .ref r_highs, .ref r_restsTaken, .ref r_isBelow, .ref r_isWritten, .ref r_five])), (r_taped, .inl (E.2.2.1 0, 2, .inl (upd (upd (fun _ => 0) (Int32.toNatClampNeg 0) 0) (Int32.toNatClampNeg 1) 0)))]) B 0 42 fl_X11_304 pf_X11_42 rfl (Nat.le_of_ble_eq_true rfl) rfl rfl rfl dX11_decodes_34 ?_
  refine g_aload_n B dX11_decodes_37 rfl 2 rfl ?_
  refine g_iconst (v := 0) B dX11_decodes_38 (by decide) ?_
  refine g_put (ws' := [(m, .inr (11, [.ref r_row, .int 0, .ref r_terms, .ref r_deltas, .int 0, .ref r_tapes, .ref r_taped, .ref r_first, .ref r_second, .int 0, .int 0, .ref r_seen, .ref r_seenWeights, .ref r_seenMedians, .int 0, .int 0, .ref r_term, .ref r_delta, .ref r_weights, .ref r_inputs, .ref r_guesses, .ref r_bases, .ref r_keptWeights, .ref r_keptInputs, .ref r_medians, .int 0, .int 0, .long 0, .long 0, .long 0, .ref r_bits, .int 0, .int 0, .int 0, .ref r_sideBits, .int 0, .int 0, .int 0, .int 0, .int 0, .int 0, .ref r_coded, .int 0, .ref r_read, .ref r_lows, .ref r_highs, .ref r_restsTaken, .ref r_isBelow, .ref r_isWritten, .ref r_five])), (r_taped, .inl (E.2.2.1 0, 2, .inl (upd (upd (fun _ => 0) (Int32.toNatClampNeg 0) 0) (Int32.toNatClampNeg 1) 0)))]) B 0 40 fl_X11_243 pf_X11_40 rfl (Nat.le_of_ble_eq_true rfl) rfl rfl rfl dX11_decodes_39 ?_
  refine g_iconst (v := 0) B dX11_decodes_42 (by decide) ?_
  refine g_istore (lv' := [(4, .int 0), (3, .int 0), (2, .int 0), (0, .ref m), (1, .int 1)]) B dX11_decodes_43 (by decide) rfl ?_
  refine g_iload B dX11_decodes_45 0 rfl ?_
  refine g_iload_n B dX11_decodes_47 rfl 2 rfl ?_
  refine g_icmp_ge (tgt := 71) B dX11_decodes_48 (by decide) (fun c48 => ?_) (fun h => absurd (by decide) h)
  refine g_aload_n B dX11_decodes_71 rfl 3 rfl ?_
  refine g_iload_n B dX11_decodes_72 rfl 2 rfl ?_
  refine g_callV (st := []) (As := [.int 0]) (wr := [(r_taped, .inl (E.2.2.1 0, 2, .inl (upd (upd (fun _ => 0) (Int32.toNatClampNeg 0) 0) (Int32.toNatClampNeg 1) 0)))]) (nc' := 0) (ns' := 0) B cl_X11_347 w_im_X11_readsFirst w_se_X11_readsFirst (ev_X11_readsFirst_0 E m r_row r_terms r_deltas r_tapes r_taped r_first r_second r_seen r_seenWeights r_seenMedians r_term r_delta r_weights r_inputs r_guesses r_bases r_keptWeights r_keptInputs r_medians r_bits r_sideBits r_coded r_read r_lows r_highs r_restsTaken r_isBelow r_isWritten r_five ) rfl [0] [1] rfl rfl (by decide) (by decide) (by decide) 0 rfl (fun q h => by cases h; rfl) rfl ⟨by decide, by decide⟩ rfl rfl (by decide) (by decide) rfl (Nat.le_of_ble_eq_true rfl) dX11_decodes_73 (fun v w hq => ?_)
  obtain ⟨rfl, rfl⟩ := hq
  show G E X 6 [(r_taped, .inl (E.2.2.1 0, 2, .inl (upd (upd (fun _ => 0) (Int32.toNatClampNeg 0) 0) (Int32.toNatClampNeg 1) 0))), (m, .inr (11, [.ref r_row, .int 0, .ref r_terms, .ref r_deltas, .int 0, .ref r_tapes, .ref r_taped, .ref r_first, .ref r_second, .int 0, .int 0, .ref r_seen, .ref r_seenWeights, .ref r_seenMedians, .int 0, .int 0, .ref r_term, .ref r_delta, .ref r_weights, .ref r_inputs, .ref r_guesses, .ref r_bases, .ref r_keptWeights, .ref r_keptInputs, .ref r_medians, .int 0, .int 0, .long 0, .long 0, .long 0, .ref r_bits, .int 0, .int 0, .int 0, .ref r_sideBits, .int 0, .int 0, .int 0, .int 0, .int 0, .int 0, .ref r_coded, .int 1, .ref r_read, .ref r_lows, .ref r_highs, .ref r_restsTaken, .ref r_isBelow, .ref r_isWritten, .ref r_five]))] 0 0 [(4, .int 0), (3, .int 0), (2, .int 0), (0, .ref m), (1, .int 1)] 76 [.int 0]
  refine g_if_ne (tgt := 85) B dX11_decodes_76 (by decide) (fun h => absurd (by decide) h) (fun c76 => ?_)
  refine g_aload_n B dX11_decodes_79 rfl 3 rfl ?_
  refine g_get B 1 42 fl_X11_304 rfl rfl dX11_decodes_80 ?_
  refine g_ineg B dX11_decodes_83 ?_
  exact g_iret B hr dX11_decodes_84 (by decide) (by decide) rfl
abbrev MX11_decode : g_M := (yX11_decode, cX11_decode, 1, (some .int))
theorem dX11_decode_0 : decode cX11_decode 0 = .ok (.aload_n 0, 1) := by decide +kernel
theorem dX11_decode_1 : decode cX11_decode 1 = .ok (.iconst 0, 1) := by decide +kernel
theorem dX11_decode_2 : decode cX11_decode 2 = .ok (.invokevirtual 357, 3) := by decide +kernel
theorem w_ml_X11_357 : Cond.methodLink RX11 357 yX11_decodes ∈ g_tbl := g_tbl_in 1187 (by decide +kernel) (by decide +kernel)
theorem w_cd_X11_decodes : g_cw MX11_decodes ∈ g_tbl := g_tbl_in 1190 (by decide +kernel) (by decide +kernel)
theorem cl_X11_357 : CL RX11 357 1 MX11_decodes := ⟨w_ml_X11_357, w_cd_X11_decodes, w_ini_X11, by decide +kernel, by decide +kernel, by decide +kernel⟩
theorem w_im_X11_decodes : Cond.instanceMethod yX11_decodes ∈ g_tbl := g_tbl_in 1189 (by decide +kernel) (by decide +kernel)
theorem w_se_X11_decodes : Cond.selects RX11 yX11_decodes yX11_decodes ∈ g_tbl := g_tbl_in 54 (by decide +kernel) (by decide +kernel)
theorem dX11_decode_5 : decode cX11_decode 5 = .ok (.ireturn, 1) := by decide +kernel
set_option maxRecDepth 100000 in
set_option maxHeartbeats 4000000 in
theorem ev_X11_decode (E : g_E) (m : Nat) (r_row : Nat) (r_terms : Nat) (r_deltas : Nat) (r_tapes : Nat) (r_taped : Nat) (r_first : Nat) (r_second : Nat) (r_seen : Nat) (r_seenWeights : Nat) (r_seenMedians : Nat) (r_term : Nat) (r_delta : Nat) (r_weights : Nat) (r_inputs : Nat) (r_guesses : Nat) (r_bases : Nat) (r_keptWeights : Nat) (r_keptInputs : Nat) (r_medians : Nat) (r_bits : Nat) (r_sideBits : Nat) (r_coded : Nat) (r_read : Nat) (r_lows : Nat) (r_highs : Nat) (r_restsTaken : Nat) (r_isBelow : Nat) (r_isWritten : Nat) (r_five : Nat)  : Ev E MX11_decode 7 169 0 0 [.ref m] [(m, .inr (11, [.ref r_row, .int 0, .ref r_terms, .ref r_deltas, .int 0, .ref r_tapes, .ref r_taped, .ref r_first, .ref r_second, .int 0, .int 0, .ref r_seen, .ref r_seenWeights, .ref r_seenMedians, .int 0, .int 0, .ref r_term, .ref r_delta, .ref r_weights, .ref r_inputs, .ref r_guesses, .ref r_bases, .ref r_keptWeights, .ref r_keptInputs, .ref r_medians, .int 0, .int 0, .long 0, .long 0, .long 0, .ref r_bits, .int 0, .int 0, .int 0, .ref r_sideBits, .int 0, .int 0, .int 0, .int 0, .int 0, .int 0, .ref r_coded, .int 0, .ref r_read, .ref r_lows, .ref r_highs, .ref r_restsTaken, .ref r_isBelow, .ref r_isWritten, .ref r_five])), (r_taped, .inl (E.2.2.1 0, 2, .inl (fun _ => 0)))] (fun v_ w_ => v_ = some (.int (-1))) := by
  refine Ev.intro (by decide) (Nat.le_of_ble_eq_true rfl) ?_
  intro X B hr hI
  have B : Bd E X cX11_decode RX11 1 7 169 0 0 := B
  have hr : Rt E X (some .int) 0 0 (fun v_ w_ => v_ = some (.int (-1))) := hr
  show G E X 1 [(m, .inr (11, [.ref r_row, .int 0, .ref r_terms, .ref r_deltas, .int 0, .ref r_tapes, .ref r_taped, .ref r_first, .ref r_second, .int 0, .int 0, .ref r_seen, .ref r_seenWeights, .ref r_seenMedians, .int 0, .int 0, .ref r_term, .ref r_delta, .ref r_weights, .ref r_inputs, .ref r_guesses, .ref r_bases, .ref r_keptWeights, .ref r_keptInputs, .ref r_medians, .int 0, .int 0, .long 0, .long 0, .long 0, .ref r_bits, .int 0, .int 0, .int 0, .ref r_sideBits, .int 0, .int 0, .int 0, .int 0, .int 0, .int 0, .ref r_coded, .int 0, .ref r_read, .ref r_lows, .ref r_highs, .ref r_restsTaken, .ref r_isBelow, .ref r_isWritten, .ref r_five])), (r_taped, .inl (E.2.2.1 0, 2, .inl (fun _ => 0)))] 0 0 [(0, .ref m)] 0 []
  refine g_aload_n B dX11_decode_0 rfl 0 rfl ?_
  refine g_iconst (v := 0) B dX11_decode_1 (by decide) ?_
  refine g_callV (st := []) (As := [.int 0]) (wr := []) (nc' := 0) (ns' := 0) B cl_X11_357 w_im_X11_decodes w_se_X11_decodes (ev_X11_decodes_0 E m r_row r_terms r_deltas r_tapes r_taped r_first r_second r_seen r_seenWeights r_seenMedians r_term r_delta r_weights r_inputs r_guesses r_bases r_keptWeights r_keptInputs r_medians r_bits r_sideBits r_coded r_read r_lows r_highs r_restsTaken r_isBelow r_isWritten r_five ) rfl [0, 1] [] rfl rfl (by decide) (by decide) (by decide) 0 rfl (fun q h => by cases h; rfl) rfl ⟨by decide, by decide⟩ rfl rfl (by decide) (by decide) rfl (Nat.le_of_ble_eq_true rfl) dX11_decode_2 (fun v w hq => ?_)
  obtain rfl := hq
  refine g_sub (ws' := []) [] (by decide) rfl ?_
  show G E X 1 [] 0 0 [(0, .ref m)] 5 [.int (-1)]
  exact g_iret B hr dX11_decode_5 (by decide) (by decide) rfl
abbrev MX11_decodeBoth : g_M := (yX11_decodeBoth, cX11_decodeBoth, 1, (some .int))
theorem dX11_decodeBoth_0 : decode cX11_decodeBoth 0 = .ok (.aload_n 0, 1) := by decide +kernel
theorem dX11_decodeBoth_1 : decode cX11_decodeBoth 1 = .ok (.iconst 1, 1) := by decide +kernel
theorem dX11_decodeBoth_2 : decode cX11_decodeBoth 2 = .ok (.invokevirtual 357, 3) := by decide +kernel
theorem dX11_decodeBoth_5 : decode cX11_decodeBoth 5 = .ok (.ireturn, 1) := by decide +kernel
set_option maxRecDepth 100000 in
set_option maxHeartbeats 4000000 in
theorem ev_X11_decodeBoth (E : g_E) (m : Nat) (r_row : Nat) (r_terms : Nat) (r_deltas : Nat) (r_tapes : Nat) (r_taped : Nat) (r_first : Nat) (r_second : Nat) (r_seen : Nat) (r_seenWeights : Nat) (r_seenMedians : Nat) (r_term : Nat) (r_delta : Nat) (r_weights : Nat) (r_inputs : Nat) (r_guesses : Nat) (r_bases : Nat) (r_keptWeights : Nat) (r_keptInputs : Nat) (r_medians : Nat) (r_bits : Nat) (r_sideBits : Nat) (r_coded : Nat) (r_read : Nat) (r_lows : Nat) (r_highs : Nat) (r_restsTaken : Nat) (r_isBelow : Nat) (r_isWritten : Nat) (r_five : Nat)  : Ev E MX11_decodeBoth 7 169 0 0 [.ref m] [(m, .inr (11, [.ref r_row, .int 0, .ref r_terms, .ref r_deltas, .int 0, .ref r_tapes, .ref r_taped, .ref r_first, .ref r_second, .int 0, .int 0, .ref r_seen, .ref r_seenWeights, .ref r_seenMedians, .int 0, .int 0, .ref r_term, .ref r_delta, .ref r_weights, .ref r_inputs, .ref r_guesses, .ref r_bases, .ref r_keptWeights, .ref r_keptInputs, .ref r_medians, .int 0, .int 0, .long 0, .long 0, .long 0, .ref r_bits, .int 0, .int 0, .int 0, .ref r_sideBits, .int 0, .int 0, .int 0, .int 0, .int 0, .int 0, .ref r_coded, .int 0, .ref r_read, .ref r_lows, .ref r_highs, .ref r_restsTaken, .ref r_isBelow, .ref r_isWritten, .ref r_five])), (r_taped, .inl (E.2.2.1 0, 2, .inl (fun _ => 0)))] (fun v_ w_ => v_ = some (.int (-1))) := by
  refine Ev.intro (by decide) (Nat.le_of_ble_eq_true rfl) ?_
  intro X B hr hI
  have B : Bd E X cX11_decodeBoth RX11 1 7 169 0 0 := B
  have hr : Rt E X (some .int) 0 0 (fun v_ w_ => v_ = some (.int (-1))) := hr
  show G E X 1 [(m, .inr (11, [.ref r_row, .int 0, .ref r_terms, .ref r_deltas, .int 0, .ref r_tapes, .ref r_taped, .ref r_first, .ref r_second, .int 0, .int 0, .ref r_seen, .ref r_seenWeights, .ref r_seenMedians, .int 0, .int 0, .ref r_term, .ref r_delta, .ref r_weights, .ref r_inputs, .ref r_guesses, .ref r_bases, .ref r_keptWeights, .ref r_keptInputs, .ref r_medians, .int 0, .int 0, .long 0, .long 0, .long 0, .ref r_bits, .int 0, .int 0, .int 0, .ref r_sideBits, .int 0, .int 0, .int 0, .int 0, .int 0, .int 0, .ref r_coded, .int 0, .ref r_read, .ref r_lows, .ref r_highs, .ref r_restsTaken, .ref r_isBelow, .ref r_isWritten, .ref r_five])), (r_taped, .inl (E.2.2.1 0, 2, .inl (fun _ => 0)))] 0 0 [(0, .ref m)] 0 []
  refine g_aload_n B dX11_decodeBoth_0 rfl 0 rfl ?_
  refine g_iconst (v := 1) B dX11_decodeBoth_1 (by decide) ?_
  refine g_callV (st := []) (As := [.int 1]) (wr := []) (nc' := 0) (ns' := 0) B cl_X11_357 w_im_X11_decodes w_se_X11_decodes (ev_X11_decodes_1 E m r_row r_terms r_deltas r_tapes r_taped r_first r_second r_seen r_seenWeights r_seenMedians r_term r_delta r_weights r_inputs r_guesses r_bases r_keptWeights r_keptInputs r_medians r_bits r_sideBits r_coded r_read r_lows r_highs r_restsTaken r_isBelow r_isWritten r_five ) rfl [0, 1] [] rfl rfl (by decide) (by decide) (by decide) 0 rfl (fun q h => by cases h; rfl) rfl ⟨by decide, by decide⟩ rfl rfl (by decide) (by decide) rfl (Nat.le_of_ble_eq_true rfl) dX11_decodeBoth_2 (fun v w hq => ?_)
  obtain rfl := hq
  refine g_sub (ws' := []) [] (by decide) rfl ?_
  show G E X 1 [] 0 0 [(0, .ref m)] 5 [.int (-1)]
  exact g_iret B hr dX11_decodeBoth_5 (by decide) (by decide) rfl
abbrev MX11_look : g_M := (yX11_look, cX11_look, 2, (some .int))
theorem dX11_look_0 : decode cX11_look 0 = .ok (.iload_n 1, 1) := by decide +kernel
theorem dX11_look_1 : decode cX11_look 1 = .ok (.ifCond .lt 9, 3) := by decide +kernel
theorem dX11_look_10 : decode cX11_look 10 = .ok (.iconst (-1), 1) := by decide +kernel
theorem dX11_look_11 : decode cX11_look 11 = .ok (.goto 9, 3) := by decide +kernel
theorem dX11_look_20 : decode cX11_look 20 = .ok (.ireturn, 1) := by decide +kernel
theorem dX11_look_4 : decode cX11_look 4 = .ok (.iload_n 1, 1) := by decide +kernel
theorem dX11_look_5 : decode cX11_look 5 = .ok (.bipush 9, 2) := by decide +kernel
theorem dX11_look_7 : decode cX11_look 7 = .ok (.if_icmp .le 7, 3) := by decide +kernel
theorem dX11_look_14 : decode cX11_look 14 = .ok (.aload_n 0, 1) := by decide +kernel
theorem dX11_look_15 : decode cX11_look 15 = .ok (.getfield 32, 3) := by decide +kernel
theorem dX11_look_18 : decode cX11_look 18 = .ok (.iload_n 1, 1) := by decide +kernel
theorem dX11_look_19 : decode cX11_look 19 = .ok (.iaload, 1) := by decide +kernel
set_option maxRecDepth 100000 in
set_option maxHeartbeats 4000000 in
theorem ev_X11_look (E : g_E) (m : Nat) (r_row : Nat) (r_terms : Nat) (r_deltas : Nat) (r_tapes : Nat) (r_taped : Nat) (r_first : Nat) (r_second : Nat) (r_seen : Nat) (r_seenWeights : Nat) (r_seenMedians : Nat) (r_term : Nat) (r_delta : Nat) (r_weights : Nat) (r_inputs : Nat) (r_guesses : Nat) (r_bases : Nat) (r_keptWeights : Nat) (r_keptInputs : Nat) (r_medians : Nat) (r_bits : Nat) (r_sideBits : Nat) (r_coded : Nat) (r_read : Nat) (r_lows : Nat) (r_highs : Nat) (r_restsTaken : Nat) (r_isBelow : Nat) (r_isWritten : Nat) (r_five : Nat) (wh : Int32)  : Ev E MX11_look 0 0 0 0 [.ref m, .int wh] [(m, .inr (11, [.ref r_row, .int 0, .ref r_terms, .ref r_deltas, .int 0, .ref r_tapes, .ref r_taped, .ref r_first, .ref r_second, .int 0, .int 0, .ref r_seen, .ref r_seenWeights, .ref r_seenMedians, .int 0, .int 0, .ref r_term, .ref r_delta, .ref r_weights, .ref r_inputs, .ref r_guesses, .ref r_bases, .ref r_keptWeights, .ref r_keptInputs, .ref r_medians, .int 0, .int 0, .long 0, .long 0, .long 0, .ref r_bits, .int 0, .int 0, .int 0, .ref r_sideBits, .int 0, .int 0, .int 0, .int 0, .int 0, .int 0, .ref r_coded, .int 0, .ref r_read, .ref r_lows, .ref r_highs, .ref r_restsTaken, .ref r_isBelow, .ref r_isWritten, .ref r_five])), (r_seen, .inl (E.2.2.1 0, 10, .inl (fun _ => 0)))] (fun v_ w_ => v_ = some (.int (p1_look wh))) := by
  refine Ev.intro (by decide) (Nat.le_of_ble_eq_true rfl) ?_
  intro X B hr hI
  have B : Bd E X cX11_look RX11 2 0 0 0 0 := B
  have hr : Rt E X (some .int) 0 0 (fun v_ w_ => v_ = some (.int (p1_look wh))) := hr
  show G E X 2 [(m, .inr (11, [.ref r_row, .int 0, .ref r_terms, .ref r_deltas, .int 0, .ref r_tapes, .ref r_taped, .ref r_first, .ref r_second, .int 0, .int 0, .ref r_seen, .ref r_seenWeights, .ref r_seenMedians, .int 0, .int 0, .ref r_term, .ref r_delta, .ref r_weights, .ref r_inputs, .ref r_guesses, .ref r_bases, .ref r_keptWeights, .ref r_keptInputs, .ref r_medians, .int 0, .int 0, .long 0, .long 0, .long 0, .ref r_bits, .int 0, .int 0, .int 0, .ref r_sideBits, .int 0, .int 0, .int 0, .int 0, .int 0, .int 0, .ref r_coded, .int 0, .ref r_read, .ref r_lows, .ref r_highs, .ref r_restsTaken, .ref r_isBelow, .ref r_isWritten, .ref r_five])), (r_seen, .inl (E.2.2.1 0, 10, .inl (fun _ => 0)))] 0 0 [(0, .ref m), (1, .int wh)] 0 []
  refine g_iload_n B dX11_look_0 rfl 1 rfl ?_
  refine g_if_lt (tgt := 10) B dX11_look_1 (by decide) (fun c1_188 => ?_) (fun c1_188 => ?_)
  · refine g_iconst (v := (-1)) B dX11_look_10 (by decide) ?_
    refine g_goto (tgt := 20) B dX11_look_11 (by decide) ?_
    exact g_iret B hr dX11_look_20 (by decide) (by decide) (by rw [p1_look1 c1_188])
  · refine g_iload_n B dX11_look_4 rfl 1 rfl ?_
    refine g_bipush (v := 9) B dX11_look_5 (by decide) ?_
    refine g_icmp_le (tgt := 14) B dX11_look_7 (by decide) (fun c7_189 => ?_) (fun c7_189 => ?_)
    · refine g_aload_n B dX11_look_14 rfl 0 rfl ?_
      refine g_get B 0 11 fl_X11_32 rfl rfl dX11_look_15 ?_
      refine g_iload_n B dX11_look_18 rfl 1 rfl ?_
      refine g_iald B 1 rfl (p1_in10 c1_188 c7_189) dX11_look_19 ?_
      refine g_ri (x' := 0) rfl ?_
      exact g_iret B hr dX11_look_20 (by decide) (by decide) (by rw [p1_look0 c1_188 c7_189])
    · refine g_iconst (v := (-1)) B dX11_look_10 (by decide) ?_
      refine g_goto (tgt := 20) B dX11_look_11 (by decide) ?_
      exact g_iret B hr dX11_look_20 (by decide) (by decide) (by rw [p1_look2 c7_189])
abbrev MX11_weight : g_M := (yX11_weight, cX11_weight, 3, (some .int))
theorem dX11_weight_0 : decode cX11_weight 0 = .ok (.iload_n 1, 1) := by decide +kernel
theorem dX11_weight_1 : decode cX11_weight 1 = .ok (.ifCond .lt 18, 3) := by decide +kernel
theorem dX11_weight_19 : decode cX11_weight 19 = .ok (.iconst 0, 1) := by decide +kernel
theorem dX11_weight_20 : decode cX11_weight 20 = .ok (.goto 13, 3) := by decide +kernel
theorem dX11_weight_33 : decode cX11_weight 33 = .ok (.ireturn, 1) := by decide +kernel
theorem dX11_weight_4 : decode cX11_weight 4 = .ok (.iload_n 1, 1) := by decide +kernel
theorem dX11_weight_5 : decode cX11_weight 5 = .ok (.bipush 8, 2) := by decide +kernel
theorem dX11_weight_7 : decode cX11_weight 7 = .ok (.if_icmp .ge 12, 3) := by decide +kernel
theorem dX11_weight_10 : decode cX11_weight 10 = .ok (.iload_n 2, 1) := by decide +kernel
theorem dX11_weight_11 : decode cX11_weight 11 = .ok (.ifCond .eq 12, 3) := by decide +kernel
theorem dX11_weight_23 : decode cX11_weight 23 = .ok (.aload_n 0, 1) := by decide +kernel
theorem dX11_weight_24 : decode cX11_weight 24 = .ok (.getfield 35, 3) := by decide +kernel
theorem dX11_weight_27 : decode cX11_weight 27 = .ok (.iconst 2, 1) := by decide +kernel
theorem dX11_weight_28 : decode cX11_weight 28 = .ok (.iload_n 1, 1) := by decide +kernel
theorem dX11_weight_29 : decode cX11_weight 29 = .ok (.imul, 1) := by decide +kernel
theorem dX11_weight_30 : decode cX11_weight 30 = .ok (.iload_n 2, 1) := by decide +kernel
theorem dX11_weight_31 : decode cX11_weight 31 = .ok (.iadd, 1) := by decide +kernel
theorem dX11_weight_32 : decode cX11_weight 32 = .ok (.iaload, 1) := by decide +kernel
theorem dX11_weight_14 : decode cX11_weight 14 = .ok (.iload_n 2, 1) := by decide +kernel
theorem dX11_weight_15 : decode cX11_weight 15 = .ok (.iconst 1, 1) := by decide +kernel
theorem dX11_weight_16 : decode cX11_weight 16 = .ok (.if_icmp .eq 7, 3) := by decide +kernel
set_option maxRecDepth 100000 in
set_option maxHeartbeats 4000000 in
theorem ev_X11_weight (E : g_E) (m : Nat) (r_row : Nat) (r_terms : Nat) (r_deltas : Nat) (r_tapes : Nat) (r_taped : Nat) (r_first : Nat) (r_second : Nat) (r_seen : Nat) (r_seenWeights : Nat) (r_seenMedians : Nat) (r_term : Nat) (r_delta : Nat) (r_weights : Nat) (r_inputs : Nat) (r_guesses : Nat) (r_bases : Nat) (r_keptWeights : Nat) (r_keptInputs : Nat) (r_medians : Nat) (r_bits : Nat) (r_sideBits : Nat) (r_coded : Nat) (r_read : Nat) (r_lows : Nat) (r_highs : Nat) (r_restsTaken : Nat) (r_isBelow : Nat) (r_isWritten : Nat) (r_five : Nat) (a1 : Int32) (a2 : Int32)  : Ev E MX11_weight 0 0 0 0 [.ref m, .int a1, .int a2] [(m, .inr (11, [.ref r_row, .int 0, .ref r_terms, .ref r_deltas, .int 0, .ref r_tapes, .ref r_taped, .ref r_first, .ref r_second, .int 0, .int 0, .ref r_seen, .ref r_seenWeights, .ref r_seenMedians, .int 0, .int 0, .ref r_term, .ref r_delta, .ref r_weights, .ref r_inputs, .ref r_guesses, .ref r_bases, .ref r_keptWeights, .ref r_keptInputs, .ref r_medians, .int 0, .int 0, .long 0, .long 0, .long 0, .ref r_bits, .int 0, .int 0, .int 0, .ref r_sideBits, .int 0, .int 0, .int 0, .int 0, .int 0, .int 0, .ref r_coded, .int 0, .ref r_read, .ref r_lows, .ref r_highs, .ref r_restsTaken, .ref r_isBelow, .ref r_isWritten, .ref r_five])), (r_seenWeights, .inl (E.2.2.1 0, 16, .inl (fun _ => 0)))] (fun v_ w_ => v_ = some (.int 0)) := by
  refine Ev.intro (by decide) (Nat.le_of_ble_eq_true rfl) ?_
  intro X B hr hI
  have B : Bd E X cX11_weight RX11 3 0 0 0 0 := B
  have hr : Rt E X (some .int) 0 0 (fun v_ w_ => v_ = some (.int 0)) := hr
  show G E X 3 [(m, .inr (11, [.ref r_row, .int 0, .ref r_terms, .ref r_deltas, .int 0, .ref r_tapes, .ref r_taped, .ref r_first, .ref r_second, .int 0, .int 0, .ref r_seen, .ref r_seenWeights, .ref r_seenMedians, .int 0, .int 0, .ref r_term, .ref r_delta, .ref r_weights, .ref r_inputs, .ref r_guesses, .ref r_bases, .ref r_keptWeights, .ref r_keptInputs, .ref r_medians, .int 0, .int 0, .long 0, .long 0, .long 0, .ref r_bits, .int 0, .int 0, .int 0, .ref r_sideBits, .int 0, .int 0, .int 0, .int 0, .int 0, .int 0, .ref r_coded, .int 0, .ref r_read, .ref r_lows, .ref r_highs, .ref r_restsTaken, .ref r_isBelow, .ref r_isWritten, .ref r_five])), (r_seenWeights, .inl (E.2.2.1 0, 16, .inl (fun _ => 0)))] 0 0 [(0, .ref m), (1, .int a1), (2, .int a2)] 0 []
  refine g_iload_n B dX11_weight_0 rfl 1 rfl ?_
  refine g_if_lt (tgt := 19) B dX11_weight_1 (by decide) (fun c1_190 => ?_) (fun c1_190 => ?_)
  · refine g_iconst (v := 0) B dX11_weight_19 (by decide) ?_
    refine g_goto (tgt := 33) B dX11_weight_20 (by decide) ?_
    exact g_iret B hr dX11_weight_33 (by decide) (by decide) rfl
  · refine g_iload_n B dX11_weight_4 rfl 1 rfl ?_
    refine g_bipush (v := 8) B dX11_weight_5 (by decide) ?_
    refine g_icmp_ge (tgt := 19) B dX11_weight_7 (by decide) (fun c7_191 => ?_) (fun c7_191 => ?_)
    · refine g_iconst (v := 0) B dX11_weight_19 (by decide) ?_
      refine g_goto (tgt := 33) B dX11_weight_20 (by decide) ?_
      exact g_iret B hr dX11_weight_33 (by decide) (by decide) rfl
    · refine g_iload_n B dX11_weight_10 rfl 2 rfl ?_
      refine g_if_eq (tgt := 23) B dX11_weight_11 (by decide) (fun c11_192 => ?_) (fun c11_192 => ?_)
      · refine g_aload_n B dX11_weight_23 rfl 0 rfl ?_
        refine g_get B 0 12 fl_X11_35 rfl rfl dX11_weight_24 ?_
        refine g_iconst (v := 2) B dX11_weight_27 (by decide) ?_
        refine g_iload_n B dX11_weight_28 rfl 1 rfl ?_
        refine g_imul B dX11_weight_29 ?_
        refine g_iload_n B dX11_weight_30 rfl 2 rfl ?_
        refine g_iadd B dX11_weight_31 ?_
        refine g_iald B 1 rfl (p1_in16 c1_190 c7_191 (Or.inl c11_192)) dX11_weight_32 ?_
        refine g_ri (x' := 0) rfl ?_
        exact g_iret B hr dX11_weight_33 (by decide) (by decide) rfl
      · refine g_iload_n B dX11_weight_14 rfl 2 rfl ?_
        refine g_iconst (v := 1) B dX11_weight_15 (by decide) ?_
        refine g_icmp_eq (tgt := 23) B dX11_weight_16 (by decide) (fun c16_193 => ?_) (fun c16_193 => ?_)
        · refine g_aload_n B dX11_weight_23 rfl 0 rfl ?_
          refine g_get B 0 12 fl_X11_35 rfl rfl dX11_weight_24 ?_
          refine g_iconst (v := 2) B dX11_weight_27 (by decide) ?_
          refine g_iload_n B dX11_weight_28 rfl 1 rfl ?_
          refine g_imul B dX11_weight_29 ?_
          refine g_iload_n B dX11_weight_30 rfl 2 rfl ?_
          refine g_iadd B dX11_weight_31 ?_
          refine g_iald B 1 rfl (p1_in16 c1_190 c7_191 (Or.inr c16_193)) dX11_weight_32 ?_
          refine g_ri (x' := 0) rfl ?_
          exact g_iret B hr dX11_weight_33 (by decide) (by decide) rfl
        · refine g_iconst (v := 0) B dX11_weight_19 (by decide) ?_
          refine g_goto (tgt := 33) B dX11_weight_20 (by decide) ?_
          exact g_iret B hr dX11_weight_33 (by decide) (by decide) rfl
abbrev MX11_median : g_M := (yX11_median, cX11_median, 3, (some .long))
theorem dX11_median_0 : decode cX11_median 0 = .ok (.iload_n 1, 1) := by decide +kernel
theorem dX11_median_1 : decode cX11_median 1 = .ok (.ifCond .eq 8, 3) := by decide +kernel
theorem dX11_median_9 : decode cX11_median 9 = .ok (.iload_n 2, 1) := by decide +kernel
theorem dX11_median_10 : decode cX11_median 10 = .ok (.ifCond .lt 8, 3) := by decide +kernel
theorem dX11_median_18 : decode cX11_median 18 = .ok (.lconst 0, 1) := by decide +kernel
theorem dX11_median_19 : decode cX11_median 19 = .ok (.goto 13, 3) := by decide +kernel
theorem dX11_median_32 : decode cX11_median 32 = .ok (.lreturn, 1) := by decide +kernel
theorem dX11_median_13 : decode cX11_median 13 = .ok (.iload_n 2, 1) := by decide +kernel
theorem dX11_median_14 : decode cX11_median 14 = .ok (.iconst 2, 1) := by decide +kernel
theorem dX11_median_15 : decode cX11_median 15 = .ok (.if_icmp .le 7, 3) := by decide +kernel
theorem dX11_median_22 : decode cX11_median 22 = .ok (.aload_n 0, 1) := by decide +kernel
theorem dX11_median_23 : decode cX11_median 23 = .ok (.getfield 38, 3) := by decide +kernel
theorem dX11_median_26 : decode cX11_median 26 = .ok (.iconst 3, 1) := by decide +kernel
theorem dX11_median_27 : decode cX11_median 27 = .ok (.iload_n 1, 1) := by decide +kernel
theorem dX11_median_28 : decode cX11_median 28 = .ok (.imul, 1) := by decide +kernel
theorem dX11_median_29 : decode cX11_median 29 = .ok (.iload_n 2, 1) := by decide +kernel
theorem dX11_median_30 : decode cX11_median 30 = .ok (.iadd, 1) := by decide +kernel
theorem dX11_median_31 : decode cX11_median 31 = .ok (.laload, 1) := by decide +kernel
theorem dX11_median_4 : decode cX11_median 4 = .ok (.iload_n 1, 1) := by decide +kernel
theorem dX11_median_5 : decode cX11_median 5 = .ok (.iconst 1, 1) := by decide +kernel
theorem dX11_median_6 : decode cX11_median 6 = .ok (.if_icmp .ne 12, 3) := by decide +kernel
set_option maxRecDepth 100000 in
set_option maxHeartbeats 4000000 in
theorem ev_X11_median (E : g_E) (m : Nat) (r_row : Nat) (r_terms : Nat) (r_deltas : Nat) (r_tapes : Nat) (r_taped : Nat) (r_first : Nat) (r_second : Nat) (r_seen : Nat) (r_seenWeights : Nat) (r_seenMedians : Nat) (r_term : Nat) (r_delta : Nat) (r_weights : Nat) (r_inputs : Nat) (r_guesses : Nat) (r_bases : Nat) (r_keptWeights : Nat) (r_keptInputs : Nat) (r_medians : Nat) (r_bits : Nat) (r_sideBits : Nat) (r_coded : Nat) (r_read : Nat) (r_lows : Nat) (r_highs : Nat) (r_restsTaken : Nat) (r_isBelow : Nat) (r_isWritten : Nat) (r_five : Nat) (a1 : Int32) (a2 : Int32)  : Ev E MX11_median 0 0 0 0 [.ref m, .int a1, .int a2] [(m, .inr (11, [.ref r_row, .int 0, .ref r_terms, .ref r_deltas, .int 0, .ref r_tapes, .ref r_taped, .ref r_first, .ref r_second, .int 0, .int 0, .ref r_seen, .ref r_seenWeights, .ref r_seenMedians, .int 0, .int 0, .ref r_term, .ref r_delta, .ref r_weights, .ref r_inputs, .ref r_guesses, .ref r_bases, .ref r_keptWeights, .ref r_keptInputs, .ref r_medians, .int 0, .int 0, .long 0, .long 0, .long 0, .ref r_bits, .int 0, .int 0, .int 0, .ref r_sideBits, .int 0, .int 0, .int 0, .int 0, .int 0, .int 0, .ref r_coded, .int 0, .ref r_read, .ref r_lows, .ref r_highs, .ref r_restsTaken, .ref r_isBelow, .ref r_isWritten, .ref r_five])), (r_seenMedians, .inl (E.2.2.1 3, 6, .inr (.inl (fun _ => 0))))] (fun v_ w_ => v_ = some (.long 0)) := by
  refine Ev.intro (by decide) (Nat.le_of_ble_eq_true rfl) ?_
  intro X B hr hI
  have B : Bd E X cX11_median RX11 3 0 0 0 0 := B
  have hr : Rt E X (some .long) 0 0 (fun v_ w_ => v_ = some (.long 0)) := hr
  show G E X 3 [(m, .inr (11, [.ref r_row, .int 0, .ref r_terms, .ref r_deltas, .int 0, .ref r_tapes, .ref r_taped, .ref r_first, .ref r_second, .int 0, .int 0, .ref r_seen, .ref r_seenWeights, .ref r_seenMedians, .int 0, .int 0, .ref r_term, .ref r_delta, .ref r_weights, .ref r_inputs, .ref r_guesses, .ref r_bases, .ref r_keptWeights, .ref r_keptInputs, .ref r_medians, .int 0, .int 0, .long 0, .long 0, .long 0, .ref r_bits, .int 0, .int 0, .int 0, .ref r_sideBits, .int 0, .int 0, .int 0, .int 0, .int 0, .int 0, .ref r_coded, .int 0, .ref r_read, .ref r_lows, .ref r_highs, .ref r_restsTaken, .ref r_isBelow, .ref r_isWritten, .ref r_five])), (r_seenMedians, .inl (E.2.2.1 3, 6, .inr (.inl (fun _ => 0))))] 0 0 [(0, .ref m), (1, .int a1), (2, .int a2)] 0 []
  refine g_iload_n B dX11_median_0 rfl 1 rfl ?_
  refine g_if_eq (tgt := 9) B dX11_median_1 (by decide) (fun c1_194 => ?_) (fun c1_194 => ?_)
  · refine g_iload_n B dX11_median_9 rfl 2 rfl ?_
    refine g_if_lt (tgt := 18) B dX11_median_10 (by decide) (fun c10_195 => ?_) (fun c10_195 => ?_)
    · refine g_lconst (v := 0) B dX11_median_18 (by decide) ?_
      refine g_goto (tgt := 32) B dX11_median_19 (by decide) ?_
      exact g_lret B hr dX11_median_32 (by decide) (by decide) rfl
    · refine g_iload_n B dX11_median_13 rfl 2 rfl ?_
      refine g_iconst (v := 2) B dX11_median_14 (by decide) ?_
      refine g_icmp_le (tgt := 22) B dX11_median_15 (by decide) (fun c15_196 => ?_) (fun c15_196 => ?_)
      · refine g_aload_n B dX11_median_22 rfl 0 rfl ?_
        refine g_get B 0 13 fl_X11_38 rfl rfl dX11_median_23 ?_
        refine g_iconst (v := 3) B dX11_median_26 (by decide) ?_
        refine g_iload_n B dX11_median_27 rfl 1 rfl ?_
        refine g_imul B dX11_median_28 ?_
        refine g_iload_n B dX11_median_29 rfl 2 rfl ?_
        refine g_iadd B dX11_median_30 ?_
        refine g_lald B 1 rfl (p1_in6 c10_195 c15_196 (Or.inl c1_194)) dX11_median_31 ?_
        refine g_rl (x' := 0) rfl ?_
        exact g_lret B hr dX11_median_32 (by decide) (by decide) rfl
      · refine g_lconst (v := 0) B dX11_median_18 (by decide) ?_
        refine g_goto (tgt := 32) B dX11_median_19 (by decide) ?_
        exact g_lret B hr dX11_median_32 (by decide) (by decide) rfl
  · refine g_iload_n B dX11_median_4 rfl 1 rfl ?_
    refine g_iconst (v := 1) B dX11_median_5 (by decide) ?_
    refine g_icmp_ne (tgt := 18) B dX11_median_6 (by decide) (fun c6_197 => ?_) (fun c6_197 => ?_)
    · refine g_lconst (v := 0) B dX11_median_18 (by decide) ?_
      refine g_goto (tgt := 32) B dX11_median_19 (by decide) ?_
      exact g_lret B hr dX11_median_32 (by decide) (by decide) rfl
    · refine g_iload_n B dX11_median_9 rfl 2 rfl ?_
      refine g_if_lt (tgt := 18) B dX11_median_10 (by decide) (fun c10_198 => ?_) (fun c10_198 => ?_)
      · refine g_lconst (v := 0) B dX11_median_18 (by decide) ?_
        refine g_goto (tgt := 32) B dX11_median_19 (by decide) ?_
        exact g_lret B hr dX11_median_32 (by decide) (by decide) rfl
      · refine g_iload_n B dX11_median_13 rfl 2 rfl ?_
        refine g_iconst (v := 2) B dX11_median_14 (by decide) ?_
        refine g_icmp_le (tgt := 22) B dX11_median_15 (by decide) (fun c15_199 => ?_) (fun c15_199 => ?_)
        · refine g_aload_n B dX11_median_22 rfl 0 rfl ?_
          refine g_get B 0 13 fl_X11_38 rfl rfl dX11_median_23 ?_
          refine g_iconst (v := 3) B dX11_median_26 (by decide) ?_
          refine g_iload_n B dX11_median_27 rfl 1 rfl ?_
          refine g_imul B dX11_median_28 ?_
          refine g_iload_n B dX11_median_29 rfl 2 rfl ?_
          refine g_iadd B dX11_median_30 ?_
          refine g_lald B 1 rfl (p1_in6 c10_198 c15_199 (Or.inr c6_197)) dX11_median_31 ?_
          refine g_rl (x' := 0) rfl ?_
          exact g_lret B hr dX11_median_32 (by decide) (by decide) rfl
        · refine g_lconst (v := 0) B dX11_median_18 (by decide) ?_
          refine g_goto (tgt := 32) B dX11_median_19 (by decide) ?_
          exact g_lret B hr dX11_median_32 (by decide) (by decide) rfl
abbrev MX11_count : g_M := (yX11_count, cX11_count, 2, (some .int))
theorem dX11_count_0 : decode cX11_count 0 = .ok (.iload_n 1, 1) := by decide +kernel
theorem dX11_count_1 : decode cX11_count 1 = .ok (.tableswitch 55 0 3 #[31, 36, 41, 48], 31) := by decide +kernel
theorem dX11_count_32 : decode cX11_count 32 = .ok (.aload_n 0, 1) := by decide +kernel
theorem dX11_count_33 : decode cX11_count 33 = .ok (.getfield 178, 3) := by decide +kernel
theorem dX11_count_36 : decode cX11_count 36 = .ok (.ireturn, 1) := by decide +kernel
theorem dX11_count_37 : decode cX11_count 37 = .ok (.aload_n 0, 1) := by decide +kernel
theorem dX11_count_38 : decode cX11_count 38 = .ok (.getfield 271, 3) := by decide +kernel
theorem dX11_count_41 : decode cX11_count 41 = .ok (.ireturn, 1) := by decide +kernel
theorem dX11_count_42 : decode cX11_count 42 = .ok (.aload_n 0, 1) := by decide +kernel
theorem dX11_count_43 : decode cX11_count 43 = .ok (.getfield 23, 3) := by decide +kernel
theorem dX11_count_46 : decode cX11_count 46 = .ok (.iconst 0, 1) := by decide +kernel
theorem dX11_count_47 : decode cX11_count 47 = .ok (.iaload, 1) := by decide +kernel
theorem dX11_count_48 : decode cX11_count 48 = .ok (.ireturn, 1) := by decide +kernel
theorem dX11_count_49 : decode cX11_count 49 = .ok (.aload_n 0, 1) := by decide +kernel
theorem dX11_count_50 : decode cX11_count 50 = .ok (.getfield 23, 3) := by decide +kernel
theorem dX11_count_53 : decode cX11_count 53 = .ok (.iconst 1, 1) := by decide +kernel
theorem dX11_count_54 : decode cX11_count 54 = .ok (.iaload, 1) := by decide +kernel
theorem dX11_count_55 : decode cX11_count 55 = .ok (.ireturn, 1) := by decide +kernel
theorem dX11_count_56 : decode cX11_count 56 = .ok (.iconst (-1), 1) := by decide +kernel
theorem dX11_count_57 : decode cX11_count 57 = .ok (.ireturn, 1) := by decide +kernel
set_option maxRecDepth 100000 in
set_option maxHeartbeats 4000000 in
theorem ev_X11_count (E : g_E) (m : Nat) (r_row : Nat) (r_terms : Nat) (r_deltas : Nat) (r_tapes : Nat) (r_taped : Nat) (r_first : Nat) (r_second : Nat) (r_seen : Nat) (r_seenWeights : Nat) (r_seenMedians : Nat) (r_term : Nat) (r_delta : Nat) (r_weights : Nat) (r_inputs : Nat) (r_guesses : Nat) (r_bases : Nat) (r_keptWeights : Nat) (r_keptInputs : Nat) (r_medians : Nat) (r_bits : Nat) (r_sideBits : Nat) (r_coded : Nat) (r_read : Nat) (r_lows : Nat) (r_highs : Nat) (r_restsTaken : Nat) (r_isBelow : Nat) (r_isWritten : Nat) (r_five : Nat) (wh : Int32)  : Ev E MX11_count 0 0 0 0 [.ref m, .int wh] [(m, .inr (11, [.ref r_row, .int 0, .ref r_terms, .ref r_deltas, .int 0, .ref r_tapes, .ref r_taped, .ref r_first, .ref r_second, .int 0, .int 0, .ref r_seen, .ref r_seenWeights, .ref r_seenMedians, .int 0, .int 0, .ref r_term, .ref r_delta, .ref r_weights, .ref r_inputs, .ref r_guesses, .ref r_bases, .ref r_keptWeights, .ref r_keptInputs, .ref r_medians, .int 0, .int 0, .long 0, .long 0, .long 0, .ref r_bits, .int 0, .int 0, .int 0, .ref r_sideBits, .int 0, .int 0, .int 0, .int 0, .int 0, .int 0, .ref r_coded, .int 0, .ref r_read, .ref r_lows, .ref r_highs, .ref r_restsTaken, .ref r_isBelow, .ref r_isWritten, .ref r_five])), (r_taped, .inl (E.2.2.1 0, 2, .inl (fun _ => 0)))] (fun v_ w_ => v_ = some (.int (p1_count wh))) := by
  refine Ev.intro (by decide) (Nat.le_of_ble_eq_true rfl) ?_
  intro X B hr hI
  have B : Bd E X cX11_count RX11 2 0 0 0 0 := B
  have hr : Rt E X (some .int) 0 0 (fun v_ w_ => v_ = some (.int (p1_count wh))) := hr
  show G E X 2 [(m, .inr (11, [.ref r_row, .int 0, .ref r_terms, .ref r_deltas, .int 0, .ref r_tapes, .ref r_taped, .ref r_first, .ref r_second, .int 0, .int 0, .ref r_seen, .ref r_seenWeights, .ref r_seenMedians, .int 0, .int 0, .ref r_term, .ref r_delta, .ref r_weights, .ref r_inputs, .ref r_guesses, .ref r_bases, .ref r_keptWeights, .ref r_keptInputs, .ref r_medians, .int 0, .int 0, .long 0, .long 0, .long 0, .ref r_bits, .int 0, .int 0, .int 0, .ref r_sideBits, .int 0, .int 0, .int 0, .int 0, .int 0, .int 0, .ref r_coded, .int 0, .ref r_read, .ref r_lows, .ref r_highs, .ref r_restsTaken, .ref r_isBelow, .ref r_isWritten, .ref r_five])), (r_taped, .inl (E.2.2.1 0, 2, .inl (fun _ => 0)))] 0 0 [(0, .ref m), (1, .int wh)] 0 []
  refine g_iload_n B dX11_count_0 rfl 1 rfl ?_
  by_cases sw_200 : wh = 0
  · subst sw_200
    refine g_tableIn (off := 31) (tgt := 32) B dX11_count_1 (by decide) (by decide) (by decide) (by decide) ?_
    refine g_aload_n B dX11_count_32 rfl 0 rfl ?_
    refine g_get B 0 1 fl_X11_178 rfl rfl dX11_count_33 ?_
    exact g_iret B hr dX11_count_36 (by decide) (by decide) (by decide)
  by_cases sw_201 : wh = 1
  · subst sw_201
    refine g_tableIn (off := 36) (tgt := 37) B dX11_count_1 (by decide) (by decide) (by decide) (by decide) ?_
    refine g_aload_n B dX11_count_37 rfl 0 rfl ?_
    refine g_get B 0 4 fl_X11_271 rfl rfl dX11_count_38 ?_
    exact g_iret B hr dX11_count_41 (by decide) (by decide) (by decide)
  by_cases sw_202 : wh = 2
  · subst sw_202
    refine g_tableIn (off := 41) (tgt := 42) B dX11_count_1 (by decide) (by decide) (by decide) (by decide) ?_
    refine g_aload_n B dX11_count_42 rfl 0 rfl ?_
    refine g_get B 0 6 fl_X11_23 rfl rfl dX11_count_43 ?_
    refine g_iconst (v := 0) B dX11_count_46 (by decide) ?_
    refine g_iald B 1 rfl (by unfold vp_in; decide) dX11_count_47 ?_
    refine g_ri (x' := 0) rfl ?_
    exact g_iret B hr dX11_count_48 (by decide) (by decide) (by decide)
  by_cases sw_203 : wh = 3
  · subst sw_203
    refine g_tableIn (off := 48) (tgt := 49) B dX11_count_1 (by decide) (by decide) (by decide) (by decide) ?_
    refine g_aload_n B dX11_count_49 rfl 0 rfl ?_
    refine g_get B 0 6 fl_X11_23 rfl rfl dX11_count_50 ?_
    refine g_iconst (v := 1) B dX11_count_53 (by decide) ?_
    refine g_iald B 1 rfl (by unfold vp_in; decide) dX11_count_54 ?_
    refine g_ri (x' := 0) rfl ?_
    exact g_iret B hr dX11_count_55 (by decide) (by decide) (by decide)
  have so_204 : Int32.toInt wh < 0 ∨ 3 < Int32.toInt wh := by
    have nsw_200 := lv_neT (a := 0) sw_200 rfl
    have nsw_201 := lv_neT (a := 1) sw_201 rfl
    have nsw_202 := lv_neT (a := 2) sw_202 rfl
    have nsw_203 := lv_neT (a := 3) sw_203 rfl
    omega
  refine g_tableOut (tgt := 56) B dX11_count_1 so_204 (by decide) ?_
  refine g_iconst (v := (-1)) B dX11_count_56 (by decide) ?_
  exact g_iret B hr dX11_count_57 (by decide) (by decide) (by simp [p1_count, so_204])
