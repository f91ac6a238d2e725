abbrev MX11_noWhich : g_M := (yX11_noWhich, cX11_noWhich, 1, (some .boolean))
theorem dX11_noWhich_0 : decode cX11_noWhich 0 = .ok (.iload_n 0, 1) := by decide +kernel
theorem dX11_noWhich_1 : decode cX11_noWhich 1 = .ok (.ifCond .eq 12, 3) := by decide +kernel
theorem dX11_noWhich_13 : decode cX11_noWhich 13 = .ok (.iconst 0, 1) := by decide +kernel
theorem dX11_noWhich_14 : decode cX11_noWhich 14 = .ok (.ireturn, 1) := by decide +kernel
set_option maxRecDepth 100000 in
set_option maxHeartbeats 4000000 in
theorem ev_X11_noWhich_0 (E : g_E)   : Ev E MX11_noWhich 0 0 0 0 [.int 0] [] (fun v_ w_ => v_ = some (.int 0) ∧ w_ = []) := by
  refine Ev.intro (by decide) (Nat.le_of_ble_eq_true rfl) ?_
  intro X B hr hI
  have B : Bd E X cX11_noWhich RX11 1 0 0 0 0 := B
  have hr : Rt E X (some .boolean) 0 0 (fun v_ w_ => v_ = some (.int 0) ∧ w_ = []) := hr
  show G E X 1 [] 0 0 [(0, .int 0)] 0 []
  refine g_iload_n B dX11_noWhich_0 rfl 0 rfl ?_
  refine g_if_eq (tgt := 13) B dX11_noWhich_1 (by decide) (fun c1 => ?_) (fun h => absurd (by decide) h)
  refine g_iconst (v := 0) B dX11_noWhich_13 (by decide) ?_
  exact g_zret B hr (by decide) dX11_noWhich_14 (by decide) (by decide) ⟨rfl, rfl⟩
theorem dX11_noWhich_4 : decode cX11_noWhich 4 = .ok (.iload_n 0, 1) := by decide +kernel
theorem dX11_noWhich_5 : decode cX11_noWhich 5 = .ok (.iconst 1, 1) := by decide +kernel
theorem dX11_noWhich_6 : decode cX11_noWhich 6 = .ok (.if_icmp .eq 7, 3) := by decide +kernel
set_option maxRecDepth 100000 in
set_option maxHeartbeats 4000000 in
theorem ev_X11_noWhich_1 (E : g_E)   : Ev E MX11_noWhich 0 0 0 0 [.int 1] [] (fun v_ w_ => v_ = some (.int 0) ∧ w_ = []) := by
  refine Ev.intro (by decide) (Nat.le_of_ble_eq_true rfl) ?_
  intro X B hr hI
  have B : Bd E X cX11_noWhich RX11 1 0 0 0 0 := B
  have hr : Rt E X (some .boolean) 0 0 (fun v_ w_ => v_ = some (.int 0) ∧ w_ = []) := hr
  show G E X 1 [] 0 0 [(0, .int 1)] 0 []
  refine g_iload_n B dX11_noWhich_0 rfl 0 rfl ?_
  refine g_if_eq (tgt := 13) B dX11_noWhich_1 (by decide) (fun h => absurd h (by decide)) (fun c1 => ?_)
  refine g_iload_n B dX11_noWhich_4 rfl 0 rfl ?_
  refine g_iconst (v := 1) B dX11_noWhich_5 (by decide) ?_
  refine g_icmp_eq (tgt := 13) B dX11_noWhich_6 (by decide) (fun c6 => ?_) (fun h => absurd (by decide) h)
  refine g_iconst (v := 0) B dX11_noWhich_13 (by decide) ?_
  exact g_zret B hr (by decide) dX11_noWhich_14 (by decide) (by decide) ⟨rfl, rfl⟩
theorem dX11_noWhich_9 : decode cX11_noWhich 9 = .ok (.iconst 1, 1) := by decide +kernel
theorem dX11_noWhich_10 : decode cX11_noWhich 10 = .ok (.goto 4, 3) := by decide +kernel
set_option maxRecDepth 100000 in
set_option maxHeartbeats 4000000 in
theorem ev_X11_noWhich_n (E : g_E) (wh : Int32) (h0 : ¬ wh = 0) (h1 : ¬ wh = 1) : Ev E MX11_noWhich 0 0 0 0 [.int wh] [] (fun v_ w_ => v_ = some (.int 1) ∧ w_ = []) := by
  refine Ev.intro (by decide) (Nat.le_of_ble_eq_true rfl) ?_
  intro X B hr hI
  have B : Bd E X cX11_noWhich RX11 1 0 0 0 0 := B
  have hr : Rt E X (some .boolean) 0 0 (fun v_ w_ => v_ = some (.int 1) ∧ w_ = []) := hr
  show G E X 1 [] 0 0 [(0, .int wh)] 0 []
  refine g_iload_n B dX11_noWhich_0 rfl 0 rfl ?_
  refine g_if_eq (tgt := 13) B dX11_noWhich_1 (by decide) (fun h => absurd h h0) (fun c1 => ?_)
  refine g_iload_n B dX11_noWhich_4 rfl 0 rfl ?_
  refine g_iconst (v := 1) B dX11_noWhich_5 (by decide) ?_
  refine g_icmp_eq (tgt := 13) B dX11_noWhich_6 (by decide) (fun h => absurd h h1) (fun c6 => ?_)
  refine g_iconst (v := 1) B dX11_noWhich_9 (by decide) ?_
  refine g_goto (tgt := 14) B dX11_noWhich_10 (by decide) ?_
  exact g_zret B hr (by decide) dX11_noWhich_14 (by decide) (by decide) ⟨rfl, rfl⟩
abbrev MX11_size : g_M := (yX11_size, cX11_size, 2, (some .int))
theorem dX11_size_0 : decode cX11_size 0 = .ok (.iload_n 1, 1) := by decide +kernel
theorem dX11_size_1 : decode cX11_size 1 = .ok (.ifCond .ne 10, 3) := by decide +kernel
theorem dX11_size_4 : decode cX11_size 4 = .ok (.aload_n 0, 1) := by decide +kernel
theorem dX11_size_5 : decode cX11_size 5 = .ok (.getfield 295, 3) := by decide +kernel
theorem w_fl_X11_295 : Cond.fieldLink RX11 295 (TX11 9).1 (TX11 9).2.1 (TX11 9).2.2.1 ∈ g_tbl := g_tbl_in 889 (by decide +kernel) (by decide +kernel)
theorem fl_X11_295 : FL RX11 295 11 9 := ⟨RX11, TX11, 50, rfl, by decide, inX_X11, w_fl_X11_295⟩
theorem dX11_size_8 : decode cX11_size 8 = .ok (.goto 16, 3) := by decide +kernel
theorem dX11_size_24 : decode cX11_size 24 = .ok (.ireturn, 1) := by decide +kernel
set_option maxRecDepth 100000 in
set_option maxHeartbeats 4000000 in
theorem ev_X11_size_0 (E : g_E) (m : Nat) (r_row : Nat) (r_terms : Nat) (r_deltas : Nat) (r_tapes : Nat) (r_taped : Nat) (r_first : Nat) (r_second : Nat) (r_seen : Nat) (r_seenWeights : Nat) (r_seenMedians : Nat) (r_term : Nat) (r_delta : Nat) (r_weights : Nat) (r_inputs : Nat) (r_guesses : Nat) (r_bases : Nat) (r_keptWeights : Nat) (r_keptInputs : Nat) (r_medians : Nat) (r_bits : Nat) (r_sideBits : Nat) (r_coded : Nat) (r_read : Nat) (r_lows : Nat) (r_highs : Nat) (r_restsTaken : Nat) (r_isBelow : Nat) (r_isWritten : Nat) (r_five : Nat)  : Ev E MX11_size 0 0 0 0 [.ref m, .int 0] [(m, .inr (11, [.ref r_row, .int 0, .ref r_terms, .ref r_deltas, .int 0, .ref r_tapes, .ref r_taped, .ref r_first, .ref r_second, .int 0, .int 0, .ref r_seen, .ref r_seenWeights, .ref r_seenMedians, .int 0, .int 0, .ref r_term, .ref r_delta, .ref r_weights, .ref r_inputs, .ref r_guesses, .ref r_bases, .ref r_keptWeights, .ref r_keptInputs, .ref r_medians, .int 0, .int 0, .long 0, .long 0, .long 0, .ref r_bits, .int 0, .int 0, .int 0, .ref r_sideBits, .int 0, .int 0, .int 0, .int 0, .int 0, .int 0, .ref r_coded, .int 0, .ref r_read, .ref r_lows, .ref r_highs, .ref r_restsTaken, .ref r_isBelow, .ref r_isWritten, .ref r_five]))] (fun v_ w_ => v_ = some (.int 0) ∧ w_ = [(m, .inr (11, [.ref r_row, .int 0, .ref r_terms, .ref r_deltas, .int 0, .ref r_tapes, .ref r_taped, .ref r_first, .ref r_second, .int 0, .int 0, .ref r_seen, .ref r_seenWeights, .ref r_seenMedians, .int 0, .int 0, .ref r_term, .ref r_delta, .ref r_weights, .ref r_inputs, .ref r_guesses, .ref r_bases, .ref r_keptWeights, .ref r_keptInputs, .ref r_medians, .int 0, .int 0, .long 0, .long 0, .long 0, .ref r_bits, .int 0, .int 0, .int 0, .ref r_sideBits, .int 0, .int 0, .int 0, .int 0, .int 0, .int 0, .ref r_coded, .int 0, .ref r_read, .ref r_lows, .ref r_highs, .ref r_restsTaken, .ref r_isBelow, .ref r_isWritten, .ref r_five]))]) := by
  refine Ev.intro (by decide) (Nat.le_of_ble_eq_true rfl) ?_
  intro X B hr hI
  have B : Bd E X cX11_size RX11 2 0 0 0 0 := B
  have hr : Rt E X (some .int) 0 0 (fun v_ w_ => v_ = some (.int 0) ∧ w_ = [(m, .inr (11, [.ref r_row, .int 0, .ref r_terms, .ref r_deltas, .int 0, .ref r_tapes, .ref r_taped, .ref r_first, .ref r_second, .int 0, .int 0, .ref r_seen, .ref r_seenWeights, .ref r_seenMedians, .int 0, .int 0, .ref r_term, .ref r_delta, .ref r_weights, .ref r_inputs, .ref r_guesses, .ref r_bases, .ref r_keptWeights, .ref r_keptInputs, .ref r_medians, .int 0, .int 0, .long 0, .long 0, .long 0, .ref r_bits, .int 0, .int 0, .int 0, .ref r_sideBits, .int 0, .int 0, .int 0, .int 0, .int 0, .int 0, .ref r_coded, .int 0, .ref r_read, .ref r_lows, .ref r_highs, .ref r_restsTaken, .ref r_isBelow, .ref r_isWritten, .ref r_five]))]) := hr
  show G E X 2 [(m, .inr (11, [.ref r_row, .int 0, .ref r_terms, .ref r_deltas, .int 0, .ref r_tapes, .ref r_taped, .ref r_first, .ref r_second, .int 0, .int 0, .ref r_seen, .ref r_seenWeights, .ref r_seenMedians, .int 0, .int 0, .ref r_term, .ref r_delta, .ref r_weights, .ref r_inputs, .ref r_guesses, .ref r_bases, .ref r_keptWeights, .ref r_keptInputs, .ref r_medians, .int 0, .int 0, .long 0, .long 0, .long 0, .ref r_bits, .int 0, .int 0, .int 0, .ref r_sideBits, .int 0, .int 0, .int 0, .int 0, .int 0, .int 0, .ref r_coded, .int 0, .ref r_read, .ref r_lows, .ref r_highs, .ref r_restsTaken, .ref r_isBelow, .ref r_isWritten, .ref r_five]))] 0 0 [(0, .ref m), (1, .int 0)] 0 []
  refine g_iload_n B dX11_size_0 rfl 1 rfl ?_
  refine g_if_ne (tgt := 11) B dX11_size_1 (by decide) (fun h => absurd (by decide) h) (fun c1 => ?_)
  refine g_aload_n B dX11_size_4 rfl 0 rfl ?_
  refine g_get B 0 9 fl_X11_295 rfl rfl dX11_size_5 ?_
  refine g_goto (tgt := 24) B dX11_size_8 (by decide) ?_
  exact g_iret B hr dX11_size_24 (by decide) (by decide) ⟨rfl, rfl⟩
theorem dX11_size_11 : decode cX11_size 11 = .ok (.iload_n 1, 1) := by decide +kernel
theorem dX11_size_12 : decode cX11_size 12 = .ok (.iconst 1, 1) := by decide +kernel
theorem dX11_size_13 : decode cX11_size 13 = .ok (.if_icmp .ne 10, 3) := by decide +kernel
theorem dX11_size_16 : decode cX11_size 16 = .ok (.aload_n 0, 1) := by decide +kernel
theorem dX11_size_17 : decode cX11_size 17 = .ok (.getfield 298, 3) := by decide +kernel
theorem w_fl_X11_298 : Cond.fieldLink RX11 298 (TX11 10).1 (TX11 10).2.1 (TX11 10).2.2.1 ∈ g_tbl := g_tbl_in 890 (by decide +kernel) (by decide +kernel)
theorem fl_X11_298 : FL RX11 298 11 10 := ⟨RX11, TX11, 50, rfl, by decide, inX_X11, w_fl_X11_298⟩
theorem dX11_size_20 : decode cX11_size 20 = .ok (.goto 4, 3) := by decide +kernel
set_option maxRecDepth 100000 in
set_option maxHeartbeats 4000000 in
theorem ev_X11_size_1 (E : g_E) (m : Nat) (r_row : Nat) (r_terms : Nat) (r_deltas : Nat) (r_tapes : Nat) (r_taped : Nat) (r_first : Nat) (r_second : Nat) (r_seen : Nat) (r_seenWeights : Nat) (r_seenMedians : Nat) (r_term : Nat) (r_delta : Nat) (r_weights : Nat) (r_inputs : Nat) (r_guesses : Nat) (r_bases : Nat) (r_keptWeights : Nat) (r_keptInputs : Nat) (r_medians : Nat) (r_bits : Nat) (r_sideBits : Nat) (r_coded : Nat) (r_read : Nat) (r_lows : Nat) (r_highs : Nat) (r_restsTaken : Nat) (r_isBelow : Nat) (r_isWritten : Nat) (r_five : Nat)  : Ev E MX11_size 0 0 0 0 [.ref m, .int 1] [(m, .inr (11, [.ref r_row, .int 0, .ref r_terms, .ref r_deltas, .int 0, .ref r_tapes, .ref r_taped, .ref r_first, .ref r_second, .int 0, .int 0, .ref r_seen, .ref r_seenWeights, .ref r_seenMedians, .int 0, .int 0, .ref r_term, .ref r_delta, .ref r_weights, .ref r_inputs, .ref r_guesses, .ref r_bases, .ref r_keptWeights, .ref r_keptInputs, .ref r_medians, .int 0, .int 0, .long 0, .long 0, .long 0, .ref r_bits, .int 0, .int 0, .int 0, .ref r_sideBits, .int 0, .int 0, .int 0, .int 0, .int 0, .int 0, .ref r_coded, .int 0, .ref r_read, .ref r_lows, .ref r_highs, .ref r_restsTaken, .ref r_isBelow, .ref r_isWritten, .ref r_five]))] (fun v_ w_ => v_ = some (.int 0) ∧ w_ = [(m, .inr (11, [.ref r_row, .int 0, .ref r_terms, .ref r_deltas, .int 0, .ref r_tapes, .ref r_taped, .ref r_first, .ref r_second, .int 0, .int 0, .ref r_seen, .ref r_seenWeights, .ref r_seenMedians, .int 0, .int 0, .ref r_term, .ref r_delta, .ref r_weights, .ref r_inputs, .ref r_guesses, .ref r_bases, .ref r_keptWeights, .ref r_keptInputs, .ref r_medians, .int 0, .int 0, .long 0, .long 0, .long 0, .ref r_bits, .int 0, .int 0, .int 0, .ref r_sideBits, .int 0, .int 0, .int 0, .int 0, .int 0, .int 0, .ref r_coded, .int 0, .ref r_read, .ref r_lows, .ref r_highs, .ref r_restsTaken, .ref r_isBelow, .ref r_isWritten, .ref r_five]))]) := by
  refine Ev.intro (by decide) (Nat.le_of_ble_eq_true rfl) ?_
  intro X B hr hI
  have B : Bd E X cX11_size RX11 2 0 0 0 0 := B
  have hr : Rt E X (some .int) 0 0 (fun v_ w_ => v_ = some (.int 0) ∧ w_ = [(m, .inr (11, [.ref r_row, .int 0, .ref r_terms, .ref r_deltas, .int 0, .ref r_tapes, .ref r_taped, .ref r_first, .ref r_second, .int 0, .int 0, .ref r_seen, .ref r_seenWeights, .ref r_seenMedians, .int 0, .int 0, .ref r_term, .ref r_delta, .ref r_weights, .ref r_inputs, .ref r_guesses, .ref r_bases, .ref r_keptWeights, .ref r_keptInputs, .ref r_medians, .int 0, .int 0, .long 0, .long 0, .long 0, .ref r_bits, .int 0, .int 0, .int 0, .ref r_sideBits, .int 0, .int 0, .int 0, .int 0, .int 0, .int 0, .ref r_coded, .int 0, .ref r_read, .ref r_lows, .ref r_highs, .ref r_restsTaken, .ref r_isBelow, .ref r_isWritten, .ref r_five]))]) := hr
  show G E X 2 [(m, .inr (11, [.ref r_row, .int 0, .ref r_terms, .ref r_deltas, .int 0, .ref r_tapes, .ref r_taped, .ref r_first, .ref r_second, .int 0, .int 0, .ref r_seen, .ref r_seenWeights, .ref r_seenMedians, .int 0, .int 0, .ref r_term, .ref r_delta, .ref r_weights, .ref r_inputs, .ref r_guesses, .ref r_bases, .ref r_keptWeights, .ref r_keptInputs, .ref r_medians, .int 0, .int 0, .long 0, .long 0, .long 0, .ref r_bits, .int 0, .int 0, .int 0, .ref r_sideBits, .int 0, .int 0, .int 0, .int 0, .int 0, .int 0, .ref r_coded, .int 0, .ref r_read, .ref r_lows, .ref r_highs, .ref r_restsTaken, .ref r_isBelow, .ref r_isWritten, .ref r_five]))] 0 0 [(0, .ref m), (1, .int 1)] 0 []
  refine g_iload_n B dX11_size_0 rfl 1 rfl ?_
  refine g_if_ne (tgt := 11) B dX11_size_1 (by decide) (fun c1 => ?_) (fun h => absurd h (by decide))
  refine g_iload_n B dX11_size_11 rfl 1 rfl ?_
  refine g_iconst (v := 1) B dX11_size_12 (by decide) ?_
  refine g_icmp_ne (tgt := 23) B dX11_size_13 (by decide) (fun h => absurd (by decide) h) (fun c13 => ?_)
  refine g_aload_n B dX11_size_16 rfl 0 rfl ?_
  refine g_get B 0 10 fl_X11_298 rfl rfl dX11_size_17 ?_
  refine g_goto (tgt := 24) B dX11_size_20 (by decide) ?_
  exact g_iret B hr dX11_size_24 (by decide) (by decide) ⟨rfl, rfl⟩
theorem dX11_size_23 : decode cX11_size 23 = .ok (.iconst (-1), 1) := by decide +kernel
set_option maxRecDepth 100000 in
set_option maxHeartbeats 4000000 in
theorem ev_X11_size_n (E : g_E) (m : Nat) (r_row : Nat) (r_terms : Nat) (r_deltas : Nat) (r_tapes : Nat) (r_taped : Nat) (r_first : Nat) (r_second : Nat) (r_seen : Nat) (r_seenWeights : Nat) (r_seenMedians : Nat) (r_term : Nat) (r_delta : Nat) (r_weights : Nat) (r_inputs : Nat) (r_guesses : Nat) (r_bases : Nat) (r_keptWeights : Nat) (r_keptInputs : Nat) (r_medians : Nat) (r_bits : Nat) (r_sideBits : Nat) (r_coded : Nat) (r_read : Nat) (r_lows : Nat) (r_highs : Nat) (r_restsTaken : Nat) (r_isBelow : Nat) (r_isWritten : Nat) (r_five : Nat) (wh : Int32) (h0 : ¬ wh = 0) (h1 : ¬ wh = 1) : Ev E MX11_size 0 0 0 0 [.ref m, .int wh] [(m, .inr (11, [.ref r_row, .int 0, .ref r_terms, .ref r_deltas, .int 0, .ref r_tapes, .ref r_taped, .ref r_first, .ref r_second, .int 0, .int 0, .ref r_seen, .ref r_seenWeights, .ref r_seenMedians, .int 0, .int 0, .ref r_term, .ref r_delta, .ref r_weights, .ref r_inputs, .ref r_guesses, .ref r_bases, .ref r_keptWeights, .ref r_keptInputs, .ref r_medians, .int 0, .int 0, .long 0, .long 0, .long 0, .ref r_bits, .int 0, .int 0, .int 0, .ref r_sideBits, .int 0, .int 0, .int 0, .int 0, .int 0, .int 0, .ref r_coded, .int 0, .ref r_read, .ref r_lows, .ref r_highs, .ref r_restsTaken, .ref r_isBelow, .ref r_isWritten, .ref r_five]))] (fun v_ w_ => v_ = some (.int (-1))) := by
  refine Ev.intro (by decide) (Nat.le_of_ble_eq_true rfl) ?_
  intro X B hr hI
  have B : Bd E X cX11_size RX11 2 0 0 0 0 := B
  have hr : Rt E X (some .int) 0 0 (fun v_ w_ => v_ = some (.int (-1))) := hr
  show G E X 2 [(m, .inr (11, [.ref r_row, .int 0, .ref r_terms, .ref r_deltas, .int 0, .ref r_tapes, .ref r_taped, .ref r_first, .ref r_second, .int 0, .int 0, .ref r_seen, .ref r_seenWeights, .ref r_seenMedians, .int 0, .int 0, .ref r_term, .ref r_delta, .ref r_weights, .ref r_inputs, .ref r_guesses, .ref r_bases, .ref r_keptWeights, .ref r_keptInputs, .ref r_medians, .int 0, .int 0, .long 0, .long 0, .long 0, .ref r_bits, .int 0, .int 0, .int 0, .ref r_sideBits, .int 0, .int 0, .int 0, .int 0, .int 0, .int 0, .ref r_coded, .int 0, .ref r_read, .ref r_lows, .ref r_highs, .ref r_restsTaken, .ref r_isBelow, .ref r_isWritten, .ref r_five]))] 0 0 [(0, .ref m), (1, .int wh)] 0 []
  refine g_iload_n B dX11_size_0 rfl 1 rfl ?_
  refine g_if_ne (tgt := 11) B dX11_size_1 (by decide) (fun c1 => ?_) (fun h => absurd h h0)
  refine g_iload_n B dX11_size_11 rfl 1 rfl ?_
  refine g_iconst (v := 1) B dX11_size_12 (by decide) ?_
  refine g_icmp_ne (tgt := 23) B dX11_size_13 (by decide) (fun c13 => ?_) (fun h => absurd h h1)
  refine g_iconst (v := (-1)) B dX11_size_23 (by decide) ?_
  exact g_iret B hr dX11_size_24 (by decide) (by decide) rfl
def by_p (f : Nat → Int32) (a : Nat) (v : Int32) : Nat → Int32 := upd (upd (upd (upd f (a + 0) (vp_nar .byte (Int8.toInt32 (Int32.toInt8 (v >>> (24 &&& 31)))))) (a + 1) (vp_nar .byte (Int8.toInt32 (Int32.toInt8 (v >>> (16 &&& 31)))))) (a + 2) (vp_nar .byte (Int8.toInt32 (Int32.toInt8 (v >>> (8 &&& 31)))))) (a + 3) (vp_nar .byte (Int8.toInt32 (Int32.toInt8 (v >>> (0 &&& 31)))))
abbrev MX11_putInt : g_M := (yX11_putInt, cX11_putInt, 4, none)
theorem dX11_putInt_0 : decode cX11_putInt 0 = .ok (.iconst 0, 1) := by decide +kernel
theorem dX11_putInt_1 : decode cX11_putInt 1 = .ok (.istore_n 3, 1) := by decide +kernel
theorem dX11_putInt_2 : decode cX11_putInt 2 = .ok (.iload_n 3, 1) := by decide +kernel
theorem dX11_putInt_3 : decode cX11_putInt 3 = .ok (.iconst 4, 1) := by decide +kernel
theorem dX11_putInt_4 : decode cX11_putInt 4 = .ok (.if_icmp .ge 24, 3) := by decide +kernel
theorem dX11_putInt_7 : decode cX11_putInt 7 = .ok (.aload_n 0, 1) := by decide +kernel
theorem dX11_putInt_8 : decode cX11_putInt 8 = .ok (.iload_n 1, 1) := by decide +kernel
theorem dX11_putInt_9 : decode cX11_putInt 9 = .ok (.iload_n 3, 1) := by decide +kernel
theorem dX11_putInt_10 : decode cX11_putInt 10 = .ok (.iadd, 1) := by decide +kernel
theorem dX11_putInt_11 : decode cX11_putInt 11 = .ok (.iload_n 2, 1) := by decide +kernel
theorem dX11_putInt_12 : decode cX11_putInt 12 = .ok (.bipush 24, 2) := by decide +kernel
theorem dX11_putInt_14 : decode cX11_putInt 14 = .ok (.bipush 8, 2) := by decide +kernel
theorem dX11_putInt_16 : decode cX11_putInt 16 = .ok (.iload_n 3, 1) := by decide +kernel
theorem dX11_putInt_17 : decode cX11_putInt 17 = .ok (.imul, 1) := by decide +kernel
theorem dX11_putInt_18 : decode cX11_putInt 18 = .ok (.isub, 1) := by decide +kernel
theorem dX11_putInt_19 : decode cX11_putInt 19 = .ok (.ishr, 1) := by decide +kernel
theorem dX11_putInt_20 : decode cX11_putInt 20 = .ok (.i2b, 1) := by decide +kernel
theorem dX11_putInt_21 : decode cX11_putInt 21 = .ok (.bastore, 1) := by decide +kernel
theorem dX11_putInt_22 : decode cX11_putInt 22 = .ok (.iinc 3 1, 3) := by decide +kernel
theorem dX11_putInt_25 : decode cX11_putInt 25 = .ok (.goto (-23), 3) := by decide +kernel
theorem dX11_putInt_28 : decode cX11_putInt 28 = .ok (.return_, 1) := by decide +kernel
set_option maxRecDepth 100000 in
set_option maxHeartbeats 4000000 in
theorem ev_X11_putInt (E : g_E) (to : Nat) (n : Nat) (a : Nat) (f : Nat → Int32) (v : Int32) (ha : a + 4 ≤ n) (hn : n < 2147483648) : Ev E MX11_putInt 0 0 0 0 [.ref to, .int (nI a), .int v] [(to, .inl (E.2.2.1 1, n, .inl f))] (fun v_ w_ => v_ = none ∧ w_ = [(to, .inl (E.2.2.1 1, n, .inl (by_p f a v)))]) := by
  refine Ev.intro (by decide) (Nat.le_of_ble_eq_true rfl) ?_
  intro X B hr hI
  have B : Bd E X cX11_putInt RX11 4 0 0 0 0 := B
  have hr : Rt E X none 0 0 (fun v_ w_ => v_ = none ∧ w_ = [(to, .inl (E.2.2.1 1, n, .inl (by_p f a v)))]) := hr
  show G E X 4 [(to, .inl (E.2.2.1 1, n, .inl f))] 0 0 [(0, .ref to), (1, .int (nI a)), (2, .int v)] 0 []
  refine g_iconst (v := 0) B dX11_putInt_0 (by decide) ?_
  refine g_istore_n (lv' := [(3, .int 0), (0, .ref to), (1, .int (nI a)), (2, .int v)]) B dX11_putInt_1 rfl (by decide) rfl ?_
  refine g_iload_n B dX11_putInt_2 rfl 0 rfl ?_
  refine g_iconst (v := 4) B dX11_putInt_3 (by decide) ?_
  refine g_icmp_ge (tgt := 28) B dX11_putInt_4 (by decide) (fun h => absurd h (by decide)) (fun c4 => ?_)
  refine g_aload_n B dX11_putInt_7 rfl 1 rfl ?_
  refine g_iload_n B dX11_putInt_8 rfl 2 rfl ?_
  refine g_iload_n B dX11_putInt_9 rfl 0 rfl ?_
  refine g_iadd B dX11_putInt_10 ?_
  refine g_ri (x' := nI (a + 0)) (nI_add a 0) ?_
  refine g_iload_n B dX11_putInt_11 rfl 3 rfl ?_
  refine g_bipush (v := 24) B dX11_putInt_12 (by decide) ?_
  refine g_bipush (v := 8) B dX11_putInt_14 (by decide) ?_
  refine g_iload_n B dX11_putInt_16 rfl 0 rfl ?_
  refine g_imul B dX11_putInt_17 ?_
  refine g_ri (x' := 0) (by decide) ?_
  refine g_isub B dX11_putInt_18 ?_
  refine g_ri (x' := 24) (by decide) ?_
  refine g_ishr B dX11_putInt_19 ?_
  refine g_i2b B dX11_putInt_20 ?_
  refine g_bast (ws' := [(to, .inl (E.2.2.1 1, n, .inl (upd f (a + 0) (vp_nar .byte (Int8.toInt32 (Int32.toInt8 (v >>> (24 &&& 31))))))))]) B 0 rfl (vp_in_nI (by omega) hn) (by rw [nI_clamp (n := a + 0) (by omega)]; rfl) dX11_putInt_21 ?_
  refine g_iinc (v := 1) (lv' := [(3, .int 1), (0, .ref to), (1, .int (nI a)), (2, .int v)]) B dX11_putInt_22 0 rfl (by decide) (by decide) rfl ?_
  refine g_goto (tgt := 2) B dX11_putInt_25 (by decide) ?_
  refine g_iload_n B dX11_putInt_2 rfl 0 rfl ?_
  refine g_iconst (v := 4) B dX11_putInt_3 (by decide) ?_
  refine g_icmp_ge (tgt := 28) B dX11_putInt_4 (by decide) (fun h => absurd h (by decide)) (fun c4 => ?_)
  refine g_aload_n B dX11_putInt_7 rfl 1 rfl ?_
  refine g_iload_n B dX11_putInt_8 rfl 2 rfl ?_
  refine g_iload_n B dX11_putInt_9 rfl 0 rfl ?_
  refine g_iadd B dX11_putInt_10 ?_
  refine g_ri (x' := nI (a + 1)) (nI_add a 1) ?_
  refine g_iload_n B dX11_putInt_11 rfl 3 rfl ?_
  refine g_bipush (v := 24) B dX11_putInt_12 (by decide) ?_
  refine g_bipush (v := 8) B dX11_putInt_14 (by decide) ?_
  refine g_iload_n B dX11_putInt_16 rfl 0 rfl ?_
  refine g_imul B dX11_putInt_17 ?_
  refine g_ri (x' := 8) (by decide) ?_
  refine g_isub B dX11_putInt_18 ?_
  refine g_ri (x' := 16) (by decide) ?_
  refine g_ishr B dX11_putInt_19 ?_
  refine g_i2b B dX11_putInt_20 ?_
  refine g_bast (ws' := [(to, .inl (E.2.2.1 1, n, .inl (upd (upd f (a + 0) (vp_nar .byte (Int8.toInt32 (Int32.toInt8 (v >>> (24 &&& 31)))))) (a + 1) (vp_nar .byte (Int8.toInt32 (Int32.toInt8 (v >>> (16 &&& 31))))))))]) B 0 rfl (vp_in_nI (by omega) hn) (by rw [nI_clamp (n := a + 1) (by omega)]; rfl) dX11_putInt_21 ?_
  refine g_iinc (v := 2) (lv' := [(3, .int 2), (0, .ref to), (1, .int (nI a)), (2, .int v)]) B dX11_putInt_22 0 rfl (by decide) (by decide) rfl ?_
  refine g_goto (tgt := 2) B dX11_putInt_25 (by decide) ?_
  refine g_iload_n B dX11_putInt_2 rfl 0 rfl ?_
  refine g_iconst (v := 4) B dX11_putInt_3 (by decide) ?_
  refine g_icmp_ge (tgt := 28) B dX11_putInt_4 (by decide) (fun h => absurd h (by decide)) (fun c4 => ?_)
  refine g_aload_n B dX11_putInt_7 rfl 1 rfl ?_
  refine g_iload_n B dX11_putInt_8 rfl 2 rfl ?_
  refine g_iload_n B dX11_putInt_9 rfl 0 rfl ?_
  refine g_iadd B dX11_putInt_10 ?_
  refine g_ri (x' := nI (a + 2)) (nI_add a 2) ?_
  refine g_iload_n B dX11_putInt_11 rfl 3 rfl ?_
  refine g_bipush (v := 24) B dX11_putInt_12 (by decide) ?_
  refine g_bipush (v := 8) B dX11_putInt_14 (by decide) ?_
  refine g_iload_n B dX11_putInt_16 rfl 0 rfl ?_
  refine g_imul B dX11_putInt_17 ?_
  refine g_ri (x' := 16) (by decide) ?_
  refine g_isub B dX11_putInt_18 ?_
  refine g_ri (x' := 8) (by decide) ?_
  refine g_ishr B dX11_putInt_19 ?_
  refine g_i2b B dX11_putInt_20 ?_
  refine g_bast (ws' := [(to, .inl (E.2.2.1 1, n, .inl (upd (upd (upd f (a + 0) (vp_nar .byte (Int8.toInt32 (Int32.toInt8 (v >>> (24 &&& 31)))))) (a + 1) (vp_nar .byte (Int8.toInt32 (Int32.toInt8 (v >>> (16 &&& 31)))))) (a + 2) (vp_nar .byte (Int8.toInt32 (Int32.toInt8 (v >>> (8 &&& 31))))))))]) B 0 rfl (vp_in_nI (by omega) hn) (by rw [nI_clamp (n := a + 2) (by omega)]; rfl) dX11_putInt_21 ?_
  refine g_iinc (v := 3) (lv' := [(3, .int 3), (0, .ref to), (1, .int (nI a)), (2, .int v)]) B dX11_putInt_22 0 rfl (by decide) (by decide) rfl ?_
  refine g_goto (tgt := 2) B dX11_putInt_25 (by decide) ?_
  refine g_iload_n B dX11_putInt_2 rfl 0 rfl ?_
  refine g_iconst (v := 4) B dX11_putInt_3 (by decide) ?_
  refine g_icmp_ge (tgt := 28) B dX11_putInt_4 (by decide) (fun h => absurd h (by decide)) (fun c4 => ?_)
  refine g_aload_n B dX11_putInt_7 rfl 1 rfl ?_
  refine g_iload_n B dX11_putInt_8 rfl 2 rfl ?_
  refine g_iload_n B dX11_putInt_9 rfl 0 rfl ?_
  refine g_iadd B dX11_putInt_10 ?_
  refine g_ri (x' := nI (a + 3)) (nI_add a 3) ?_
  refine g_iload_n B dX11_putInt_11 rfl 3 rfl ?_
  refine g_bipush (v := 24) B dX11_putInt_12 (by decide) ?_
  refine g_bipush (v := 8) B dX11_putInt_14 (by decide) ?_
  refine g_iload_n B dX11_putInt_16 rfl 0 rfl ?_
  refine g_imul B dX11_putInt_17 ?_
  refine g_ri (x' := 24) (by decide) ?_
  refine g_isub B dX11_putInt_18 ?_
  refine g_ri (x' := 0) (by decide) ?_
  refine g_ishr B dX11_putInt_19 ?_
  refine g_i2b B dX11_putInt_20 ?_
  refine g_bast (ws' := [(to, .inl (E.2.2.1 1, n, .inl (upd (upd (upd (upd f (a + 0) (vp_nar .byte (Int8.toInt32 (Int32.toInt8 (v >>> (24 &&& 31)))))) (a + 1) (vp_nar .byte (Int8.toInt32 (Int32.toInt8 (v >>> (16 &&& 31)))))) (a + 2) (vp_nar .byte (Int8.toInt32 (Int32.toInt8 (v >>> (8 &&& 31)))))) (a + 3) (vp_nar .byte (Int8.toInt32 (Int32.toInt8 (v >>> (0 &&& 31))))))))]) B 0 rfl (vp_in_nI (by omega) hn) (by rw [nI_clamp (n := a + 3) (by omega)]; rfl) dX11_putInt_21 ?_
  refine g_iinc (v := 4) (lv' := [(3, .int 4), (0, .ref to), (1, .int (nI a)), (2, .int v)]) B dX11_putInt_22 0 rfl (by decide) (by decide) rfl ?_
  refine g_goto (tgt := 2) B dX11_putInt_25 (by decide) ?_
  refine g_iload_n B dX11_putInt_2 rfl 0 rfl ?_
  refine g_iconst (v := 4) B dX11_putInt_3 (by decide) ?_
  refine g_icmp_ge (tgt := 28) B dX11_putInt_4 (by decide) (fun c4 => ?_) (fun h => absurd (by decide) h)
  exact g_vret B hr dX11_putInt_28 (by decide) (by decide) ⟨rfl, rfl⟩
abbrev MX11_out : g_M := (yX11_out, cX11_out, 3, (some .int))
theorem dX11_out_0 : decode cX11_out 0 = .ok (.iload_n 1, 1) := by decide +kernel
theorem dX11_out_1 : decode cX11_out 1 = .ok (.invokestatic 361, 3) := by decide +kernel
theorem w_ml_X11_361 : Cond.methodLink RX11 361 yX11_noWhich ∈ g_tbl := g_tbl_in 1281 (by decide +kernel) (by decide +kernel)
theorem w_cd_X11_noWhich : g_cw MX11_noWhich ∈ g_tbl := g_tbl_in 1283 (by decide +kernel) (by decide +kernel)
theorem cl_X11_361 : CL RX11 361 1 MX11_noWhich := ⟨w_ml_X11_361, w_cd_X11_noWhich, w_ini_X11, by decide +kernel, by decide +kernel, by decide +kernel⟩
theorem w_sm_X11_noWhich : Cond.static yX11_noWhich ∈ g_tbl := g_tbl_in 1282 (by decide +kernel) (by decide +kernel)
theorem dX11_out_4 : decode cX11_out 4 = .ok (.ifCond .ne 16, 3) := by decide +kernel
theorem dX11_out_7 : decode cX11_out 7 = .ok (.iload_n 2, 1) := by decide +kernel
theorem dX11_out_8 : decode cX11_out 8 = .ok (.ifCond .lt 12, 3) := by decide +kernel
theorem dX11_out_20 : decode cX11_out 20 = .ok (.iconst (-1), 1) := by decide +kernel
theorem dX11_out_21 : decode cX11_out 21 = .ok (.ireturn, 1) := by decide +kernel
theorem dX11_out_11 : decode cX11_out 11 = .ok (.iload_n 2, 1) := by decide +kernel
theorem dX11_out_12 : decode cX11_out 12 = .ok (.aload_n 0, 1) := by decide +kernel
theorem dX11_out_13 : decode cX11_out 13 = .ok (.iload_n 1, 1) := by decide +kernel
theorem dX11_out_14 : decode cX11_out 14 = .ok (.invokevirtual 364, 3) := by decide +kernel
theorem w_ml_X11_364 : Cond.methodLink RX11 364 yX11_size ∈ g_tbl := g_tbl_in 1284 (by decide +kernel) (by decide +kernel)
theorem w_cd_X11_size : g_cw MX11_size ∈ g_tbl := g_tbl_in 1276 (by decide +kernel) (by decide +kernel)
theorem cl_X11_364 : CL RX11 364 1 MX11_size := ⟨w_ml_X11_364, w_cd_X11_size, w_ini_X11, by decide +kernel, by decide +kernel, by decide +kernel⟩
theorem w_im_X11_size : Cond.instanceMethod yX11_size ∈ g_tbl := g_tbl_in 1274 (by decide +kernel) (by decide +kernel)
theorem w_se_X11_size : Cond.selects RX11 yX11_size yX11_size ∈ g_tbl := g_tbl_in 1275 (by decide +kernel) (by decide +kernel)
theorem dX11_out_17 : decode cX11_out 17 = .ok (.if_icmp .lt 5, 3) := by decide +kernel
set_option maxRecDepth 100000 in
set_option maxHeartbeats 4000000 in
theorem ev_X11_out_0 (E : g_E) (m : Nat) (r_row : Nat) (r_terms : Nat) (r_deltas : Nat) (r_tapes : Nat) (r_taped : Nat) (r_first : Nat) (r_second : Nat) (r_seen : Nat) (r_seenWeights : Nat) (r_seenMedians : Nat) (r_term : Nat) (r_delta : Nat) (r_weights : Nat) (r_inputs : Nat) (r_guesses : Nat) (r_bases : Nat) (r_keptWeights : Nat) (r_keptInputs : Nat) (r_medians : Nat) (r_bits : Nat) (r_sideBits : Nat) (r_coded : Nat) (r_read : Nat) (r_lows : Nat) (r_highs : Nat) (r_restsTaken : Nat) (r_isBelow : Nat) (r_isWritten : Nat) (r_five : Nat) (i : Int32)  : Ev E MX11_out 1 21 0 0 [.ref m, .int 0, .int i] [(m, .inr (11, [.ref r_row, .int 0, .ref r_terms, .ref r_deltas, .int 0, .ref r_tapes, .ref r_taped, .ref r_first, .ref r_second, .int 0, .int 0, .ref r_seen, .ref r_seenWeights, .ref r_seenMedians, .int 0, .int 0, .ref r_term, .ref r_delta, .ref r_weights, .ref r_inputs, .ref r_guesses, .ref r_bases, .ref r_keptWeights, .ref r_keptInputs, .ref r_medians, .int 0, .int 0, .long 0, .long 0, .long 0, .ref r_bits, .int 0, .int 0, .int 0, .ref r_sideBits, .int 0, .int 0, .int 0, .int 0, .int 0, .int 0, .ref r_coded, .int 0, .ref r_read, .ref r_lows, .ref r_highs, .ref r_restsTaken, .ref r_isBelow, .ref r_isWritten, .ref r_five]))] (fun v_ w_ => v_ = some (.int (-1))) := by
  refine Ev.intro (by decide) (Nat.le_of_ble_eq_true rfl) ?_
  intro X B hr hI
  have B : Bd E X cX11_out RX11 3 1 21 0 0 := B
  have hr : Rt E X (some .int) 0 0 (fun v_ w_ => v_ = some (.int (-1))) := hr
  show G E X 3 [(m, .inr (11, [.ref r_row, .int 0, .ref r_terms, .ref r_deltas, .int 0, .ref r_tapes, .ref r_taped, .ref r_first, .ref r_second, .int 0, .int 0, .ref r_seen, .ref r_seenWeights, .ref r_seenMedians, .int 0, .int 0, .ref r_term, .ref r_delta, .ref r_weights, .ref r_inputs, .ref r_guesses, .ref r_bases, .ref r_keptWeights, .ref r_keptInputs, .ref r_medians, .int 0, .int 0, .long 0, .long 0, .long 0, .ref r_bits, .int 0, .int 0, .int 0, .ref r_sideBits, .int 0, .int 0, .int 0, .int 0, .int 0, .int 0, .ref r_coded, .int 0, .ref r_read, .ref r_lows, .ref r_highs, .ref r_restsTaken, .ref r_isBelow, .ref r_isWritten, .ref r_five]))] 0 0 [(0, .ref m), (1, .int 0), (2, .int i)] 0 []
  refine g_iload_n B dX11_out_0 rfl 1 rfl ?_
  refine g_callS (st := []) (As := [.int 0]) (wr := [(m, .inr (11, [.ref r_row, .int 0, .ref r_terms, .ref r_deltas, .int 0, .ref r_tapes, .ref r_taped, .ref r_first, .ref r_second, .int 0, .int 0, .ref r_seen, .ref r_seenWeights, .ref r_seenMedians, .int 0, .int 0, .ref r_term, .ref r_delta, .ref r_weights, .ref r_inputs, .ref r_guesses, .ref r_bases, .ref r_keptWeights, .ref r_keptInputs, .ref r_medians, .int 0, .int 0, .long 0, .long 0, .long 0, .ref r_bits, .int 0, .int 0, .int 0, .ref r_sideBits, .int 0, .int 0, .int 0, .int 0, .int 0, .int 0, .ref r_coded, .int 0, .ref r_read, .ref r_lows, .ref r_highs, .ref r_restsTaken, .ref r_isBelow, .ref r_isWritten, .ref r_five]))]) (nc' := 0) (ns' := 0) B cl_X11_361 w_sm_X11_noWhich (ev_X11_noWhich_0 E ) rfl [] [0] rfl rfl (by decide) (by decide) (by decide) ⟨by decide, by decide⟩ rfl rfl (by decide) (by decide) rfl (Nat.le_of_ble_eq_true rfl) dX11_out_1 (fun v w hq => ?_)
  obtain ⟨rfl, rfl⟩ := hq
  show G E X 3 [(m, .inr (11, [.ref r_row, .int 0, .ref r_terms, .ref r_deltas, .int 0, .ref r_tapes, .ref r_taped, .ref r_first, .ref r_second, .int 0, .int 0, .ref r_seen, .ref r_seenWeights, .ref r_seenMedians, .int 0, .int 0, .ref r_term, .ref r_delta, .ref r_weights, .ref r_inputs, .ref r_guesses, .ref r_bases, .ref r_keptWeights, .ref r_keptInputs, .ref r_medians, .int 0, .int 0, .long 0, .long 0, .long 0, .ref r_bits, .int 0, .int 0, .int 0, .ref r_sideBits, .int 0, .int 0, .int 0, .int 0, .int 0, .int 0, .ref r_coded, .int 0, .ref r_read, .ref r_lows, .ref r_highs, .ref r_restsTaken, .ref r_isBelow, .ref r_isWritten, .ref r_five]))] 0 0 [(0, .ref m), (1, .int 0), (2, .int i)] 4 [.int 0]
  refine g_if_ne (tgt := 20) B dX11_out_4 (by decide) (fun h => absurd (by decide) h) (fun c4 => ?_)
  refine g_iload_n B dX11_out_7 rfl 2 rfl ?_
  refine g_if_lt (tgt := 20) B dX11_out_8 (by decide) (fun c8_180 => ?_) (fun c8_180 => ?_)
  · refine g_iconst (v := (-1)) B dX11_out_20 (by decide) ?_
    exact g_iret B hr dX11_out_21 (by decide) (by decide) rfl
  · refine g_iload_n B dX11_out_11 rfl 2 rfl ?_
    refine g_aload_n B dX11_out_12 rfl 0 rfl ?_
    refine g_iload_n B dX11_out_13 rfl 1 rfl ?_
    refine g_callV (st := [.int i]) (As := [.int 0]) (wr := []) (nc' := 0) (ns' := 0) B cl_X11_364 w_im_X11_size w_se_X11_size (ev_X11_size_0 E m r_row r_terms r_deltas r_tapes r_taped r_first r_second r_seen r_seenWeights r_seenMedians r_term r_delta r_weights r_inputs r_guesses r_bases r_keptWeights r_keptInputs r_medians r_bits r_sideBits r_coded r_read r_lows r_highs r_restsTaken r_isBelow r_isWritten r_five ) rfl [0] [] rfl rfl (by decide) (by decide) (by decide) 0 rfl (fun q h => by cases h; rfl) rfl ⟨by decide, by decide⟩ rfl rfl (by decide) (by decide) rfl (Nat.le_of_ble_eq_true rfl) dX11_out_14 (fun v w hq => ?_)
    obtain ⟨rfl, rfl⟩ := hq
    show G E X 3 [(m, .inr (11, [.ref r_row, .int 0, .ref r_terms, .ref r_deltas, .int 0, .ref r_tapes, .ref r_taped, .ref r_first, .ref r_second, .int 0, .int 0, .ref r_seen, .ref r_seenWeights, .ref r_seenMedians, .int 0, .int 0, .ref r_term, .ref r_delta, .ref r_weights, .ref r_inputs, .ref r_guesses, .ref r_bases, .ref r_keptWeights, .ref r_keptInputs, .ref r_medians, .int 0, .int 0, .long 0, .long 0, .long 0, .ref r_bits, .int 0, .int 0, .int 0, .ref r_sideBits, .int 0, .int 0, .int 0, .int 0, .int 0, .int 0, .ref r_coded, .int 0, .ref r_read, .ref r_lows, .ref r_highs, .ref r_restsTaken, .ref r_isBelow, .ref r_isWritten, .ref r_five]))] 0 0 [(0, .ref m), (1, .int 0), (2, .int i)] 17 [.int 0, .int i]
    refine g_icmp_lt (tgt := 22) B dX11_out_17 (by decide) (fun h => absurd h c8_180) (fun c17 => ?_)
    refine g_iconst (v := (-1)) B dX11_out_20 (by decide) ?_
    exact g_iret B hr dX11_out_21 (by decide) (by decide) rfl
abbrev MX11_feed : g_M := (yX11_feed, cX11_feed, 6, (some .int))
theorem dX11_feed_0 : decode cX11_feed 0 = .ok (.iload_n 1, 1) := by decide +kernel
theorem dX11_feed_1 : decode cX11_feed 1 = .ok (.invokestatic 361, 3) := by decide +kernel
theorem dX11_feed_4 : decode cX11_feed 4 = .ok (.ifCond .ne 18, 3) := by decide +kernel
theorem dX11_feed_7 : decode cX11_feed 7 = .ok (.aload_n 0, 1) := by decide +kernel
theorem dX11_feed_8 : decode cX11_feed 8 = .ok (.getfield 23, 3) := by decide +kernel
theorem dX11_feed_11 : decode cX11_feed 11 = .ok (.iload_n 1, 1) := by decide +kernel
theorem dX11_feed_12 : decode cX11_feed 12 = .ok (.iaload, 1) := by decide +kernel
theorem dX11_feed_13 : decode cX11_feed 13 = .ok (.bipush 12, 2) := by decide +kernel
theorem dX11_feed_15 : decode cX11_feed 15 = .ok (.iadd, 1) := by decide +kernel
theorem dX11_feed_16 : decode cX11_feed 16 = .ok (.sipush 6000, 3) := by decide +kernel
theorem dX11_feed_19 : decode cX11_feed 19 = .ok (.if_icmp .le 5, 3) := by decide +kernel
theorem dX11_feed_24 : decode cX11_feed 24 = .ok (.sipush 6000, 3) := by decide +kernel
theorem dX11_feed_27 : decode cX11_feed 27 = .ok (.iload_n 1, 1) := by decide +kernel
theorem dX11_feed_28 : decode cX11_feed 28 = .ok (.imul, 1) := by decide +kernel
theorem dX11_feed_29 : decode cX11_feed 29 = .ok (.aload_n 0, 1) := by decide +kernel
theorem dX11_feed_30 : decode cX11_feed 30 = .ok (.getfield 23, 3) := by decide +kernel
theorem dX11_feed_33 : decode cX11_feed 33 = .ok (.iload_n 1, 1) := by decide +kernel
theorem dX11_feed_34 : decode cX11_feed 34 = .ok (.iaload, 1) := by decide +kernel
theorem dX11_feed_35 : decode cX11_feed 35 = .ok (.iadd, 1) := by decide +kernel
theorem dX11_feed_36 : decode cX11_feed 36 = .ok (.istore 5, 2) := by decide +kernel
theorem dX11_feed_38 : decode cX11_feed 38 = .ok (.aload_n 0, 1) := by decide +kernel
theorem dX11_feed_39 : decode cX11_feed 39 = .ok (.getfield 19, 3) := by decide +kernel
theorem dX11_feed_42 : decode cX11_feed 42 = .ok (.iload 5, 2) := by decide +kernel
theorem dX11_feed_44 : decode cX11_feed 44 = .ok (.iload_n 2, 1) := by decide +kernel
theorem dX11_feed_45 : decode cX11_feed 45 = .ok (.invokestatic 263, 3) := by decide +kernel
theorem w_ml_X11_263 : Cond.methodLink RX11 263 yX11_putInt ∈ g_tbl := g_tbl_in 1176 (by decide +kernel) (by decide +kernel)
theorem w_cd_X11_putInt : g_cw MX11_putInt ∈ g_tbl := g_tbl_in 1178 (by decide +kernel) (by decide +kernel)
theorem cl_X11_263 : CL RX11 263 3 MX11_putInt := ⟨w_ml_X11_263, w_cd_X11_putInt, w_ini_X11, by decide +kernel, by decide +kernel, by decide +kernel⟩
theorem w_sm_X11_putInt : Cond.static yX11_putInt ∈ g_tbl := g_tbl_in 1177 (by decide +kernel) (by decide +kernel)
theorem dX11_feed_48 : decode cX11_feed 48 = .ok (.aload_n 0, 1) := by decide +kernel
theorem dX11_feed_49 : decode cX11_feed 49 = .ok (.getfield 19, 3) := by decide +kernel
theorem dX11_feed_52 : decode cX11_feed 52 = .ok (.iload 5, 2) := by decide +kernel
theorem dX11_feed_54 : decode cX11_feed 54 = .ok (.iconst 4, 1) := by decide +kernel
theorem dX11_feed_55 : decode cX11_feed 55 = .ok (.iadd, 1) := by decide +kernel
theorem dX11_feed_56 : decode cX11_feed 56 = .ok (.iload_n 3, 1) := by decide +kernel
theorem dX11_feed_57 : decode cX11_feed 57 = .ok (.invokestatic 263, 3) := by decide +kernel
theorem dX11_feed_60 : decode cX11_feed 60 = .ok (.aload_n 0, 1) := by decide +kernel
theorem dX11_feed_61 : decode cX11_feed 61 = .ok (.getfield 19, 3) := by decide +kernel
theorem dX11_feed_64 : decode cX11_feed 64 = .ok (.iload 5, 2) := by decide +kernel
theorem dX11_feed_66 : decode cX11_feed 66 = .ok (.bipush 8, 2) := by decide +kernel
theorem dX11_feed_68 : decode cX11_feed 68 = .ok (.iadd, 1) := by decide +kernel
theorem dX11_feed_69 : decode cX11_feed 69 = .ok (.iload 4, 2) := by decide +kernel
theorem dX11_feed_71 : decode cX11_feed 71 = .ok (.invokestatic 263, 3) := by decide +kernel
theorem dX11_feed_74 : decode cX11_feed 74 = .ok (.aload_n 0, 1) := by decide +kernel
theorem dX11_feed_75 : decode cX11_feed 75 = .ok (.getfield 23, 3) := by decide +kernel
theorem dX11_feed_78 : decode cX11_feed 78 = .ok (.iload_n 1, 1) := by decide +kernel
theorem dX11_feed_79 : decode cX11_feed 79 = .ok (.dup2, 1) := by decide +kernel
theorem dX11_feed_80 : decode cX11_feed 80 = .ok (.iaload, 1) := by decide +kernel
theorem dX11_feed_81 : decode cX11_feed 81 = .ok (.bipush 12, 2) := by decide +kernel
theorem dX11_feed_83 : decode cX11_feed 83 = .ok (.iadd, 1) := by decide +kernel
theorem dX11_feed_84 : decode cX11_feed 84 = .ok (.iastore, 1) := by decide +kernel
theorem dX11_feed_85 : decode cX11_feed 85 = .ok (.aload_n 0, 1) := by decide +kernel
theorem dX11_feed_86 : decode cX11_feed 86 = .ok (.getfield 23, 3) := by decide +kernel
theorem dX11_feed_89 : decode cX11_feed 89 = .ok (.iload_n 1, 1) := by decide +kernel
theorem dX11_feed_90 : decode cX11_feed 90 = .ok (.iaload, 1) := by decide +kernel
theorem dX11_feed_91 : decode cX11_feed 91 = .ok (.ireturn, 1) := by decide +kernel
set_option maxRecDepth 100000 in
set_option maxHeartbeats 4000000 in
theorem ev_X11_feed_0 (E : g_E) (m : Nat) (r_row : Nat) (r_terms : Nat) (r_deltas : Nat) (r_tapes : Nat) (r_taped : Nat) (r_first : Nat) (r_second : Nat) (r_seen : Nat) (r_seenWeights : Nat) (r_seenMedians : Nat) (r_term : Nat) (r_delta : Nat) (r_weights : Nat) (r_inputs : Nat) (r_guesses : Nat) (r_bases : Nat) (r_keptWeights : Nat) (r_keptInputs : Nat) (r_medians : Nat) (r_bits : Nat) (r_sideBits : Nat) (r_coded : Nat) (r_read : Nat) (r_lows : Nat) (r_highs : Nat) (r_restsTaken : Nat) (r_isBelow : Nat) (r_isWritten : Nat) (r_five : Nat) (a1 : Int32) (a2 : Int32) (a3 : Int32)  : Ev E MX11_feed 1 23 0 0 [.ref m, .int 0, .int a1, .int a2, .int a3] [(m, .inr (11, [.ref r_row, .int 0, .ref r_terms, .ref r_deltas, .int 0, .ref r_tapes, .ref r_taped, .ref r_first, .ref r_second, .int 0, .int 0, .ref r_seen, .ref r_seenWeights, .ref r_seenMedians, .int 0, .int 0, .ref r_term, .ref r_delta, .ref r_weights, .ref r_inputs, .ref r_guesses, .ref r_bases, .ref r_keptWeights, .ref r_keptInputs, .ref r_medians, .int 0, .int 0, .long 0, .long 0, .long 0, .ref r_bits, .int 0, .int 0, .int 0, .ref r_sideBits, .int 0, .int 0, .int 0, .int 0, .int 0, .int 0, .ref r_coded, .int 0, .ref r_read, .ref r_lows, .ref r_highs, .ref r_restsTaken, .ref r_isBelow, .ref r_isWritten, .ref r_five])), (r_taped, .inl (E.2.2.1 0, 2, .inl (fun _ => 0))), (r_tapes, .inl (E.2.2.1 1, 12000, .inl (fun _ => 0)))] (fun v_ w_ => v_ = some (.int 12)) := by
  refine Ev.intro (by decide) (Nat.le_of_ble_eq_true rfl) ?_
  intro X B hr hI
  have B : Bd E X cX11_feed RX11 6 1 23 0 0 := B
  have hr : Rt E X (some .int) 0 0 (fun v_ w_ => v_ = some (.int 12)) := hr
  show G E X 6 [(m, .inr (11, [.ref r_row, .int 0, .ref r_terms, .ref r_deltas, .int 0, .ref r_tapes, .ref r_taped, .ref r_first, .ref r_second, .int 0, .int 0, .ref r_seen, .ref r_seenWeights, .ref r_seenMedians, .int 0, .int 0, .ref r_term, .ref r_delta, .ref r_weights, .ref r_inputs, .ref r_guesses, .ref r_bases, .ref r_keptWeights, .ref r_keptInputs, .ref r_medians, .int 0, .int 0, .long 0, .long 0, .long 0, .ref r_bits, .int 0, .int 0, .int 0, .ref r_sideBits, .int 0, .int 0, .int 0, .int 0, .int 0, .int 0, .ref r_coded, .int 0, .ref r_read, .ref r_lows, .ref r_highs, .ref r_restsTaken, .ref r_isBelow, .ref r_isWritten, .ref r_five])), (r_taped, .inl (E.2.2.1 0, 2, .inl (fun _ => 0))), (r_tapes, .inl (E.2.2.1 1, 12000, .inl (fun _ => 0)))] 0 0 [(0, .ref m), (1, .int 0), (2, .int a1), (3, .int a2), (4, .int a3)] 0 []
  refine g_iload_n B dX11_feed_0 rfl 1 rfl ?_
  refine g_callS (st := []) (As := [.int 0]) (wr := [(m, .inr (11, [.ref r_row, .int 0, .ref r_terms, .ref r_deltas, .int 0, .ref r_tapes, .ref r_taped, .ref r_first, .ref r_second, .int 0, .int 0, .ref r_seen, .ref r_seenWeights, .ref r_seenMedians, .int 0, .int 0, .ref r_term, .ref r_delta, .ref r_weights, .ref r_inputs, .ref r_guesses, .ref r_bases, .ref r_keptWeights, .ref r_keptInputs, .ref r_medians, .int 0, .int 0, .long 0, .long 0, .long 0, .ref r_bits, .int 0, .int 0, .int 0, .ref r_sideBits, .int 0, .int 0, .int 0, .int 0, .int 0, .int 0, .ref r_coded, .int 0, .ref r_read, .ref r_lows, .ref r_highs, .ref r_restsTaken, .ref r_isBelow, .ref r_isWritten, .ref r_five])), (r_taped, .inl (E.2.2.1 0, 2, .inl (fun _ => 0))), (r_tapes, .inl (E.2.2.1 1, 12000, .inl (fun _ => 0)))]) (nc' := 0) (ns' := 0) B cl_X11_361 w_sm_X11_noWhich (ev_X11_noWhich_0 E ) rfl [] [0, 1, 2] rfl rfl (by decide) (by decide) (by decide) ⟨by decide, by decide⟩ rfl rfl (by decide) (by decide) rfl (Nat.le_of_ble_eq_true rfl) dX11_feed_1 (fun v w hq => ?_)
  obtain ⟨rfl, rfl⟩ := hq
  show G E X 6 [(m, .inr (11, [.ref r_row, .int 0, .ref r_terms, .ref r_deltas, .int 0, .ref r_tapes, .ref r_taped, .ref r_first, .ref r_second, .int 0, .int 0, .ref r_seen, .ref r_seenWeights, .ref r_seenMedians, .int 0, .int 0, .ref r_term, .ref r_delta, .ref r_weights, .ref r_inputs, .ref r_guesses, .ref r_bases, .ref r_keptWeights, .ref r_keptInputs, .ref r_medians, .int 0, .int 0, .long 0, .long 0, .long 0, .ref r_bits, .int 0, .int 0, .int 0, .ref r_sideBits, .int 0, .int 0, .int 0, .int 0, .int 0, .int 0, .ref r_coded, .int 0, .ref r_read, .ref r_lows, .ref r_highs, .ref r_restsTaken, .ref r_isBelow, .ref r_isWritten, .ref r_five])), (r_taped, .inl (E.2.2.1 0, 2, .inl (fun _ => 0))), (r_tapes, .inl (E.2.2.1 1, 12000, .inl (fun _ => 0)))] 0 0 [(0, .ref m), (1, .int 0), (2, .int a1), (3, .int a2), (4, .int a3)] 4 [.int 0]
  refine g_if_ne (tgt := 22) B dX11_feed_4 (by decide) (fun h => absurd (by decide) h) (fun c4 => ?_)
  refine g_aload_n B dX11_feed_7 rfl 0 rfl ?_
  refine g_get B 0 6 fl_X11_23 rfl rfl dX11_feed_8 ?_
  refine g_iload_n B dX11_feed_11 rfl 1 rfl ?_
  refine g_iald B 1 rfl (by unfold vp_in; decide) dX11_feed_12 ?_
  refine g_ri (x' := 0) rfl ?_
  refine g_bipush (v := 12) B dX11_feed_13 (by decide) ?_
  refine g_iadd B dX11_feed_15 ?_
  refine g_ri (x' := 12) (by decide) ?_
  refine g_sipush (v := 6000) B dX11_feed_16 (by decide) ?_
  refine g_icmp_le (tgt := 24) B dX11_feed_19 (by decide) (fun c19 => ?_) (fun h => absurd (by decide) h)
  refine g_sipush (v := 6000) B dX11_feed_24 (by decide) ?_
  refine g_iload_n B dX11_feed_27 rfl 1 rfl ?_
  refine g_imul B dX11_feed_28 ?_
  refine g_ri (x' := 0) (by decide) ?_
  refine g_aload_n B dX11_feed_29 rfl 0 rfl ?_
  refine g_get B 0 6 fl_X11_23 rfl rfl dX11_feed_30 ?_
  refine g_iload_n B dX11_feed_33 rfl 1 rfl ?_
  refine g_iald B 1 rfl (by unfold vp_in; decide) dX11_feed_34 ?_
  refine g_ri (x' := 0) rfl ?_
  refine g_iadd B dX11_feed_35 ?_
  refine g_ri (x' := 0) (by decide) ?_
  refine g_istore (lv' := [(5, .int 0), (0, .ref m), (1, .int 0), (2, .int a1), (3, .int a2), (4, .int a3)]) B dX11_feed_36 (by decide) rfl ?_
  refine g_aload_n B dX11_feed_38 rfl 1 rfl ?_
  refine g_get B 0 5 fl_X11_19 rfl rfl dX11_feed_39 ?_
  refine g_iload B dX11_feed_42 0 rfl ?_
  refine g_iload_n B dX11_feed_44 rfl 3 rfl ?_
  refine g_callS (st := []) (As := [.ref r_tapes, .int 0, .int a1]) (wr := [(m, .inr (11, [.ref r_row, .int 0, .ref r_terms, .ref r_deltas, .int 0, .ref r_tapes, .ref r_taped, .ref r_first, .ref r_second, .int 0, .int 0, .ref r_seen, .ref r_seenWeights, .ref r_seenMedians, .int 0, .int 0, .ref r_term, .ref r_delta, .ref r_weights, .ref r_inputs, .ref r_guesses, .ref r_bases, .ref r_keptWeights, .ref r_keptInputs, .ref r_medians, .int 0, .int 0, .long 0, .long 0, .long 0, .ref r_bits, .int 0, .int 0, .int 0, .ref r_sideBits, .int 0, .int 0, .int 0, .int 0, .int 0, .int 0, .ref r_coded, .int 0, .ref r_read, .ref r_lows, .ref r_highs, .ref r_restsTaken, .ref r_isBelow, .ref r_isWritten, .ref r_five])), (r_taped, .inl (E.2.2.1 0, 2, .inl (fun _ => 0)))]) (nc' := 0) (ns' := 0) B cl_X11_263 w_sm_X11_putInt (ev_X11_putInt E r_tapes 12000 0 (fun _ => 0) a1 (by first | assumption | omega | decide) (by first | assumption | omega | decide)) rfl [2] [0, 1] rfl rfl (by decide) (by decide) (by decide) ⟨by decide, by decide⟩ rfl rfl (by decide) (by decide) rfl (Nat.le_of_ble_eq_true rfl) dX11_feed_45 (fun v w hq => ?_)
  obtain ⟨rfl, rfl⟩ := hq
  show G E X 6 [(m, .inr (11, [.ref r_row, .int 0, .ref r_terms, .ref r_deltas, .int 0, .ref r_tapes, .ref r_taped, .ref r_first, .ref r_second, .int 0, .int 0, .ref r_seen, .ref r_seenWeights, .ref r_seenMedians, .int 0, .int 0, .ref r_term, .ref r_delta, .ref r_weights, .ref r_inputs, .ref r_guesses, .ref r_bases, .ref r_keptWeights, .ref r_keptInputs, .ref r_medians, .int 0, .int 0, .long 0, .long 0, .long 0, .ref r_bits, .int 0, .int 0, .int 0, .ref r_sideBits, .int 0, .int 0, .int 0, .int 0, .int 0, .int 0, .ref r_coded, .int 0, .ref r_read, .ref r_lows, .ref r_highs, .ref r_restsTaken, .ref r_isBelow, .ref r_isWritten, .ref r_five])), (r_taped, .inl (E.2.2.1 0, 2, .inl (fun _ => 0))), (r_tapes, .inl (E.2.2.1 1, 12000, .inl (by_p (fun _ => 0) 0 a1)))] 0 0 [(5, .int 0), (0, .ref m), (1, .int 0), (2, .int a1), (3, .int a2), (4, .int a3)] 48 []
  refine g_aload_n B dX11_feed_48 rfl 1 rfl ?_
  refine g_get B 0 5 fl_X11_19 rfl rfl dX11_feed_49 ?_
  refine g_iload B dX11_feed_52 0 rfl ?_
  refine g_iconst (v := 4) B dX11_feed_54 (by decide) ?_
  refine g_iadd B dX11_feed_55 ?_
  refine g_ri (x' := 4) (by decide) ?_
  refine g_iload_n B dX11_feed_56 rfl 4 rfl ?_
  refine g_callS (st := []) (As := [.ref r_tapes, .int 4, .int a2]) (wr := [(m, .inr (11, [.ref r_row, .int 0, .ref r_terms, .ref r_deltas, .int 0, .ref r_tapes, .ref r_taped, .ref r_first, .ref r_second, .int 0, .int 0, .ref r_seen, .ref r_seenWeights, .ref r_seenMedians, .int 0, .int 0, .ref r_term, .ref r_delta, .ref r_weights, .ref r_inputs, .ref r_guesses, .ref r_bases, .ref r_keptWeights, .ref r_keptInputs, .ref r_medians, .int 0, .int 0, .long 0, .long 0, .long 0, .ref r_bits, .int 0, .int 0, .int 0, .ref r_sideBits, .int 0, .int 0, .int 0, .int 0, .int 0, .int 0, .ref r_coded, .int 0, .ref r_read, .ref r_lows, .ref r_highs, .ref r_restsTaken, .ref r_isBelow, .ref r_isWritten, .ref r_five])), (r_taped, .inl (E.2.2.1 0, 2, .inl (fun _ => 0)))]) (nc' := 0) (ns' := 0) B cl_X11_263 w_sm_X11_putInt (ev_X11_putInt E r_tapes 12000 4 (by_p (fun _ => 0) 0 a1) a2 (by first | assumption | omega | decide) (by first | assumption | omega | decide)) rfl [2] [0, 1] rfl rfl (by decide) (by decide) (by decide) ⟨by decide, by decide⟩ rfl rfl (by decide) (by decide) rfl (Nat.le_of_ble_eq_true rfl) dX11_feed_57 (fun v w hq => ?_)
  obtain ⟨rfl, rfl⟩ := hq
  show G E X 6 [(m, .inr (11, [.ref r_row, .int 0, .ref r_terms, .ref r_deltas, .int 0, .ref r_tapes, .ref r_taped, .ref r_first, .ref r_second, .int 0, .int 0, .ref r_seen, .ref r_seenWeights, .ref r_seenMedians, .int 0, .int 0, .ref r_term, .ref r_delta, .ref r_weights, .ref r_inputs, .ref r_guesses, .ref r_bases, .ref r_keptWeights, .ref r_keptInputs, .ref r_medians, .int 0, .int 0, .long 0, .long 0, .long 0, .ref r_bits, .int 0, .int 0, .int 0, .ref r_sideBits, .int 0, .int 0, .int 0, .int 0, .int 0, .int 0, .ref r_coded, .int 0, .ref r_read, .ref r_lows, .ref r_highs, .ref r_restsTaken, .ref r_isBelow, .ref r_isWritten, .ref r_five])), (r_taped, .inl (E.2.2.1 0, 2, .inl (fun _ => 0))), (r_tapes, .inl (E.2.2.1 1, 12000, .inl (by_p (by_p (fun _ => 0) 0 a1) 4 a2)))] 0 0 [(5, .int 0), (0, .ref m), (1, .int 0), (2, .int a1), (3, .int a2), (4, .int a3)] 60 []
  refine g_aload_n B dX11_feed_60 rfl 1 rfl ?_
  refine g_get B 0 5 fl_X11_19 rfl rfl dX11_feed_61 ?_
  refine g_iload B dX11_feed_64 0 rfl ?_
  refine g_bipush (v := 8) B dX11_feed_66 (by decide) ?_
  refine g_iadd B dX11_feed_68 ?_
  refine g_ri (x' := 8) (by decide) ?_
  refine g_iload B dX11_feed_69 5 rfl ?_
  refine g_callS (st := []) (As := [.ref r_tapes, .int 8, .int a3]) (wr := [(m, .inr (11, [.ref r_row, .int 0, .ref r_terms, .ref r_deltas, .int 0, .ref r_tapes, .ref r_taped, .ref r_first, .ref r_second, .int 0, .int 0, .ref r_seen, .ref r_seenWeights, .ref r_seenMedians, .int 0, .int 0, .ref r_term, .ref r_delta, .ref r_weights, .ref r_inputs, .ref r_guesses, .ref r_bases, .ref r_keptWeights, .ref r_keptInputs, .ref r_medians, .int 0, .int 0, .long 0, .long 0, .long 0, .ref r_bits, .int 0, .int 0, .int 0, .ref r_sideBits, .int 0, .int 0, .int 0, .int 0, .int 0, .int 0, .ref r_coded, .int 0, .ref r_read, .ref r_lows, .ref r_highs, .ref r_restsTaken, .ref r_isBelow, .ref r_isWritten, .ref r_five])), (r_taped, .inl (E.2.2.1 0, 2, .inl (fun _ => 0)))]) (nc' := 0) (ns' := 0) B cl_X11_263 w_sm_X11_putInt (ev_X11_putInt E r_tapes 12000 8 (by_p (by_p (fun _ => 0) 0 a1) 4 a2) a3 (by first | assumption | omega | decide) (by first | assumption | omega | decide)) rfl [2] [0, 1] rfl rfl (by decide) (by decide) (by decide) ⟨by decide, by decide⟩ rfl rfl (by decide) (by decide) rfl (Nat.le_of_ble_eq_true rfl) dX11_feed_71 (fun v w hq => ?_)
  obtain ⟨rfl, rfl⟩ := hq
  show G E X 6 [(m, .inr (11, [.ref r_row, .int 0, .ref r_terms, .ref r_deltas, .int 0, .ref r_tapes, .ref r_taped, .ref r_first, .ref r_second, .int 0, .int 0, .ref r_seen, .ref r_seenWeights, .ref r_seenMedians, .int 0, .int 0, .ref r_term, .ref r_delta, .ref r_weights, .ref r_inputs, .ref r_guesses, .ref r_bases, .ref r_keptWeights, .ref r_keptInputs, .ref r_medians, .int 0, .int 0, .long 0, .long 0, .long 0, .ref r_bits, .int 0, .int 0, .int 0, .ref r_sideBits, .int 0, .int 0, .int 0, .int 0, .int 0, .int 0, .ref r_coded, .int 0, .ref r_read, .ref r_lows, .ref r_highs, .ref r_restsTaken, .ref r_isBelow, .ref r_isWritten, .ref r_five])), (r_taped, .inl (E.2.2.1 0, 2, .inl (fun _ => 0))), (r_tapes, .inl (E.2.2.1 1, 12000, .inl (by_p (by_p (by_p (fun _ => 0) 0 a1) 4 a2) 8 a3)))] 0 0 [(5, .int 0), (0, .ref m), (1, .int 0), (2, .int a1), (3, .int a2), (4, .int a3)] 74 []
  refine g_aload_n B dX11_feed_74 rfl 1 rfl ?_
  refine g_get B 0 6 fl_X11_23 rfl rfl dX11_feed_75 ?_
  refine g_iload_n B dX11_feed_78 rfl 2 rfl ?_
  refine g_dup2_11 B dX11_feed_79 rfl rfl ?_
  refine g_iald B 1 rfl (by unfold vp_in; decide) dX11_feed_80 ?_
  refine g_ri (x' := 0) rfl ?_
  refine g_bipush (v := 12) B dX11_feed_81 (by decide) ?_
  refine g_iadd B dX11_feed_83 ?_
  refine g_ri (x' := 12) (by decide) ?_
  refine g_iast (ws' := [(m, .inr (11, [.ref r_row, .int 0, .ref r_terms, .ref r_deltas, .int 0, .ref r_tapes, .ref r_taped, .ref r_first, .ref r_second, .int 0, .int 0, .ref r_seen, .ref r_seenWeights, .ref r_seenMedians, .int 0, .int 0, .ref r_term, .ref r_delta, .ref r_weights, .ref r_inputs, .ref r_guesses, .ref r_bases, .ref r_keptWeights, .ref r_keptInputs, .ref r_medians, .int 0, .int 0, .long 0, .long 0, .long 0, .ref r_bits, .int 0, .int 0, .int 0, .ref r_sideBits, .int 0, .int 0, .int 0, .int 0, .int 0, .int 0, .ref r_coded, .int 0, .ref r_read, .ref r_lows, .ref r_highs, .ref r_restsTaken, .ref r_isBelow, .ref r_isWritten, .ref r_five])), (r_taped, .inl (E.2.2.1 0, 2, .inl (upd (fun _ => 0) (Int32.toNatClampNeg 0) 12))), (r_tapes, .inl (E.2.2.1 1, 12000, .inl (by_p (by_p (by_p (fun _ => 0) 0 a1) 4 a2) 8 a3)))]) B 1 rfl (by unfold vp_in; decide) rfl dX11_feed_84 ?_
  refine g_aload_n B dX11_feed_85 rfl 1 rfl ?_
  refine g_get B 0 6 fl_X11_23 rfl rfl dX11_feed_86 ?_
  refine g_iload_n B dX11_feed_89 rfl 2 rfl ?_
  refine g_iald B 1 rfl (by unfold vp_in; decide) dX11_feed_90 ?_
  refine g_ri (x' := 12) (by decide) ?_
  exact g_iret B hr dX11_feed_91 (by decide) (by decide) rfl
abbrev MX11_end : g_M := (yX11_end, cX11_end, 3, (some .boolean))
theorem dX11_end_0 : decode cX11_end 0 = .ok (.iload_n 1, 1) := by decide +kernel
theorem dX11_end_1 : decode cX11_end 1 = .ok (.invokestatic 361, 3) := by decide +kernel
theorem dX11_end_4 : decode cX11_end 4 = .ok (.ifCond .ne 17, 3) := by decide +kernel
theorem dX11_end_7 : decode cX11_end 7 = .ok (.iload_n 2, 1) := by decide +kernel
theorem dX11_end_8 : decode cX11_end 8 = .ok (.ifCond .lt 13, 3) := by decide +kernel
theorem dX11_end_21 : decode cX11_end 21 = .ok (.iconst 0, 1) := by decide +kernel
theorem dX11_end_22 : decode cX11_end 22 = .ok (.ireturn, 1) := by decide +kernel
theorem dX11_end_11 : decode cX11_end 11 = .ok (.iload_n 2, 1) := by decide +kernel
theorem dX11_end_12 : decode cX11_end 12 = .ok (.aload_n 0, 1) := by decide +kernel
theorem dX11_end_13 : decode cX11_end 13 = .ok (.getfield 23, 3) := by decide +kernel
theorem dX11_end_16 : decode cX11_end 16 = .ok (.iload_n 1, 1) := by decide +kernel
theorem dX11_end_17 : decode cX11_end 17 = .ok (.iaload, 1) := by decide +kernel
theorem dX11_end_18 : decode cX11_end 18 = .ok (.if_icmp .le 5, 3) := by decide +kernel
theorem dX11_end_23 : decode cX11_end 23 = .ok (.aload_n 0, 1) := by decide +kernel
theorem dX11_end_24 : decode cX11_end 24 = .ok (.getfield 23, 3) := by decide +kernel
theorem dX11_end_27 : decode cX11_end 27 = .ok (.iload_n 1, 1) := by decide +kernel
theorem dX11_end_28 : decode cX11_end 28 = .ok (.iload_n 2, 1) := by decide +kernel
theorem dX11_end_29 : decode cX11_end 29 = .ok (.iastore, 1) := by decide +kernel
theorem dX11_end_30 : decode cX11_end 30 = .ok (.iconst 1, 1) := by decide +kernel
theorem dX11_end_31 : decode cX11_end 31 = .ok (.ireturn, 1) := by decide +kernel
set_option maxRecDepth 100000 in
set_option maxHeartbeats 4000000 in
theorem ev_X11_end_0 (E : g_E) (m : Nat) (r_row : Nat) (r_terms : Nat) (r_deltas : Nat) (r_tapes : Nat) (r_taped : Nat) (r_first : Nat) (r_second : Nat) (r_seen : Nat) (r_seenWeights : Nat) (r_seenMedians : Nat) (r_term : Nat) (r_delta : Nat) (r_weights : Nat) (r_inputs : Nat) (r_guesses : Nat) (r_bases : Nat) (r_keptWeights : Nat) (r_keptInputs : Nat) (r_medians : Nat) (r_bits : Nat) (r_sideBits : Nat) (r_coded : Nat) (r_read : Nat) (r_lows : Nat) (r_highs : Nat) (r_restsTaken : Nat) (r_isBelow : Nat) (r_isWritten : Nat) (r_five : Nat) (n : Int32)  : Ev E MX11_end 1 20 0 0 [.ref m, .int 0, .int n] [(m, .inr (11, [.ref r_row, .int 0, .ref r_terms, .ref r_deltas, .int 0, .ref r_tapes, .ref r_taped, .ref r_first, .ref r_second, .int 0, .int 0, .ref r_seen, .ref r_seenWeights, .ref r_seenMedians, .int 0, .int 0, .ref r_term, .ref r_delta, .ref r_weights, .ref r_inputs, .ref r_guesses, .ref r_bases, .ref r_keptWeights, .ref r_keptInputs, .ref r_medians, .int 0, .int 0, .long 0, .long 0, .long 0, .ref r_bits, .int 0, .int 0, .int 0, .ref r_sideBits, .int 0, .int 0, .int 0, .int 0, .int 0, .int 0, .ref r_coded, .int 0, .ref r_read, .ref r_lows, .ref r_highs, .ref r_restsTaken, .ref r_isBelow, .ref r_isWritten, .ref r_five])), (r_taped, .inl (E.2.2.1 0, 2, .inl (fun _ => 0)))] (fun v_ w_ => v_ = some (.int (p1_cut n))) := by
  refine Ev.intro (by decide) (Nat.le_of_ble_eq_true rfl) ?_
  intro X B hr hI
  have B : Bd E X cX11_end RX11 3 1 20 0 0 := B
  have hr : Rt E X (some .boolean) 0 0 (fun v_ w_ => v_ = some (.int (p1_cut n))) := hr
  show G E X 3 [(m, .inr (11, [.ref r_row, .int 0, .ref r_terms, .ref r_deltas, .int 0, .ref r_tapes, .ref r_taped, .ref r_first, .ref r_second, .int 0, .int 0, .ref r_seen, .ref r_seenWeights, .ref r_seenMedians, .int 0, .int 0, .ref r_term, .ref r_delta, .ref r_weights, .ref r_inputs, .ref r_guesses, .ref r_bases, .ref r_keptWeights, .ref r_keptInputs, .ref r_medians, .int 0, .int 0, .long 0, .long 0, .long 0, .ref r_bits, .int 0, .int 0, .int 0, .ref r_sideBits, .int 0, .int 0, .int 0, .int 0, .int 0, .int 0, .ref r_coded, .int 0, .ref r_read, .ref r_lows, .ref r_highs, .ref r_restsTaken, .ref r_isBelow, .ref r_isWritten, .ref r_five])), (r_taped, .inl (E.2.2.1 0, 2, .inl (fun _ => 0)))] 0 0 [(0, .ref m), (1, .int 0), (2, .int n)] 0 []
  refine g_iload_n B dX11_end_0 rfl 1 rfl ?_
  refine g_callS (st := []) (As := [.int 0]) (wr := [(m, .inr (11, [.ref r_row, .int 0, .ref r_terms, .ref r_deltas, .int 0, .ref r_tapes, .ref r_taped, .ref r_first, .ref r_second, .int 0, .int 0, .ref r_seen, .ref r_seenWeights, .ref r_seenMedians, .int 0, .int 0, .ref r_term, .ref r_delta, .ref r_weights, .ref r_inputs, .ref r_guesses, .ref r_bases, .ref r_keptWeights, .ref r_keptInputs, .ref r_medians, .int 0, .int 0, .long 0, .long 0, .long 0, .ref r_bits, .int 0, .int 0, .int 0, .ref r_sideBits, .int 0, .int 0, .int 0, .int 0, .int 0, .int 0, .ref r_coded, .int 0, .ref r_read, .ref r_lows, .ref r_highs, .ref r_restsTaken, .ref r_isBelow, .ref r_isWritten, .ref r_five])), (r_taped, .inl (E.2.2.1 0, 2, .inl (fun _ => 0)))]) (nc' := 0) (ns' := 0) B cl_X11_361 w_sm_X11_noWhich (ev_X11_noWhich_0 E ) rfl [] [0, 1] rfl rfl (by decide) (by decide) (by decide) ⟨by decide, by decide⟩ rfl rfl (by decide) (by decide) rfl (Nat.le_of_ble_eq_true rfl) dX11_end_1 (fun v w hq => ?_)
  obtain ⟨rfl, rfl⟩ := hq
  show G E X 3 [(m, .inr (11, [.ref r_row, .int 0, .ref r_terms, .ref r_deltas, .int 0, .ref r_tapes, .ref r_taped, .ref r_first, .ref r_second, .int 0, .int 0, .ref r_seen, .ref r_seenWeights, .ref r_seenMedians, .int 0, .int 0, .ref r_term, .ref r_delta, .ref r_weights, .ref r_inputs, .ref r_guesses, .ref r_bases, .ref r_keptWeights, .ref r_keptInputs, .ref r_medians, .int 0, .int 0, .long 0, .long 0, .long 0, .ref r_bits, .int 0, .int 0, .int 0, .ref r_sideBits, .int 0, .int 0, .int 0, .int 0, .int 0, .int 0, .ref r_coded, .int 0, .ref r_read, .ref r_lows, .ref r_highs, .ref r_restsTaken, .ref r_isBelow, .ref r_isWritten, .ref r_five])), (r_taped, .inl (E.2.2.1 0, 2, .inl (fun _ => 0)))] 0 0 [(0, .ref m), (1, .int 0), (2, .int n)] 4 [.int 0]
  refine g_if_ne (tgt := 21) B dX11_end_4 (by decide) (fun h => absurd (by decide) h) (fun c4 => ?_)
  refine g_iload_n B dX11_end_7 rfl 2 rfl ?_
  refine g_if_lt (tgt := 21) B dX11_end_8 (by decide) (fun c8_181 => ?_) (fun c8_181 => ?_)
  · refine g_iconst (v := 0) B dX11_end_21 (by decide) ?_
    exact g_zret B hr (by decide) dX11_end_22 (by decide) (by decide) (by simp [p1_cut, c8_181])
  · refine g_iload_n B dX11_end_11 rfl 2 rfl ?_
    refine g_aload_n B dX11_end_12 rfl 0 rfl ?_
    refine g_get B 0 6 fl_X11_23 rfl rfl dX11_end_13 ?_
    refine g_iload_n B dX11_end_16 rfl 1 rfl ?_
    refine g_iald B 1 rfl (by unfold vp_in; decide) dX11_end_17 ?_
    refine g_ri (x' := 0) rfl ?_
    refine g_icmp_le (tgt := 23) B dX11_end_18 (by decide) (fun c18_182 => ?_) (fun c18_182 => ?_)
    · refine g_aload_n B dX11_end_23 rfl 0 rfl ?_
      refine g_get B 0 6 fl_X11_23 rfl rfl dX11_end_24 ?_
      refine g_iload_n B dX11_end_27 rfl 1 rfl ?_
      refine g_iload_n B dX11_end_28 rfl 2 rfl ?_
      refine g_iast (ws' := [(m, .inr (11, [.ref r_row, .int 0, .ref r_terms, .ref r_deltas, .int 0, .ref r_tapes, .ref r_taped, .ref r_first, .ref r_second, .int 0, .int 0, .ref r_seen, .ref r_seenWeights, .ref r_seenMedians, .int 0, .int 0, .ref r_term, .ref r_delta, .ref r_weights, .ref r_inputs, .ref r_guesses, .ref r_bases, .ref r_keptWeights, .ref r_keptInputs, .ref r_medians, .int 0, .int 0, .long 0, .long 0, .long 0, .ref r_bits, .int 0, .int 0, .int 0, .ref r_sideBits, .int 0, .int 0, .int 0, .int 0, .int 0, .int 0, .ref r_coded, .int 0, .ref r_read, .ref r_lows, .ref r_highs, .ref r_restsTaken, .ref r_isBelow, .ref r_isWritten, .ref r_five])), (r_taped, .inl (E.2.2.1 0, 2, .inl (upd (fun _ => 0) (Int32.toNatClampNeg 0) n)))]) B 1 rfl (by unfold vp_in; decide) rfl dX11_end_29 ?_
      refine g_iconst (v := 1) B dX11_end_30 (by decide) ?_
      exact g_zret B hr (by decide) dX11_end_31 (by decide) (by decide) (by simp [p1_cut, c8_181, c18_182])
    · refine g_iconst (v := 0) B dX11_end_21 (by decide) ?_
      exact g_zret B hr (by decide) dX11_end_22 (by decide) (by decide) (by simp [p1_cut, c8_181, c18_182])
abbrev MX11_harm : g_M := (yX11_harm, cX11_harm, 4, (some .boolean))
theorem dX11_harm_0 : decode cX11_harm 0 = .ok (.iload_n 1, 1) := by decide +kernel
theorem dX11_harm_1 : decode cX11_harm 1 = .ok (.invokestatic 361, 3) := by decide +kernel
theorem dX11_harm_4 : decode cX11_harm 4 = .ok (.ifCond .ne 17, 3) := by decide +kernel
theorem dX11_harm_7 : decode cX11_harm 7 = .ok (.iload_n 2, 1) := by decide +kernel
theorem dX11_harm_8 : decode cX11_harm 8 = .ok (.ifCond .lt 13, 3) := by decide +kernel
theorem dX11_harm_21 : decode cX11_harm 21 = .ok (.iconst 0, 1) := by decide +kernel
theorem dX11_harm_22 : decode cX11_harm 22 = .ok (.ireturn, 1) := by decide +kernel
theorem dX11_harm_11 : decode cX11_harm 11 = .ok (.iload_n 2, 1) := by decide +kernel
theorem dX11_harm_12 : decode cX11_harm 12 = .ok (.aload_n 0, 1) := by decide +kernel
theorem dX11_harm_13 : decode cX11_harm 13 = .ok (.getfield 23, 3) := by decide +kernel
theorem dX11_harm_16 : decode cX11_harm 16 = .ok (.iload_n 1, 1) := by decide +kernel
theorem dX11_harm_17 : decode cX11_harm 17 = .ok (.iaload, 1) := by decide +kernel
theorem dX11_harm_18 : decode cX11_harm 18 = .ok (.if_icmp .lt 5, 3) := by decide +kernel
set_option maxRecDepth 100000 in
set_option maxHeartbeats 4000000 in
theorem ev_X11_harm_0 (E : g_E) (m : Nat) (r_row : Nat) (r_terms : Nat) (r_deltas : Nat) (r_tapes : Nat) (r_taped : Nat) (r_first : Nat) (r_second : Nat) (r_seen : Nat) (r_seenWeights : Nat) (r_seenMedians : Nat) (r_term : Nat) (r_delta : Nat) (r_weights : Nat) (r_inputs : Nat) (r_guesses : Nat) (r_bases : Nat) (r_keptWeights : Nat) (r_keptInputs : Nat) (r_medians : Nat) (r_bits : Nat) (r_sideBits : Nat) (r_coded : Nat) (r_read : Nat) (r_lows : Nat) (r_highs : Nat) (r_restsTaken : Nat) (r_isBelow : Nat) (r_isWritten : Nat) (r_five : Nat) (i : Int32) (b : Int32)  : Ev E MX11_harm 1 20 0 0 [.ref m, .int 0, .int i, .int b] [(m, .inr (11, [.ref r_row, .int 0, .ref r_terms, .ref r_deltas, .int 0, .ref r_tapes, .ref r_taped, .ref r_first, .ref r_second, .int 0, .int 0, .ref r_seen, .ref r_seenWeights, .ref r_seenMedians, .int 0, .int 0, .ref r_term, .ref r_delta, .ref r_weights, .ref r_inputs, .ref r_guesses, .ref r_bases, .ref r_keptWeights, .ref r_keptInputs, .ref r_medians, .int 0, .int 0, .long 0, .long 0, .long 0, .ref r_bits, .int 0, .int 0, .int 0, .ref r_sideBits, .int 0, .int 0, .int 0, .int 0, .int 0, .int 0, .ref r_coded, .int 0, .ref r_read, .ref r_lows, .ref r_highs, .ref r_restsTaken, .ref r_isBelow, .ref r_isWritten, .ref r_five])), (r_taped, .inl (E.2.2.1 0, 2, .inl (fun _ => 0)))] (fun v_ w_ => v_ = some (.int 0)) := by
  refine Ev.intro (by decide) (Nat.le_of_ble_eq_true rfl) ?_
  intro X B hr hI
  have B : Bd E X cX11_harm RX11 4 1 20 0 0 := B
  have hr : Rt E X (some .boolean) 0 0 (fun v_ w_ => v_ = some (.int 0)) := hr
  show G E X 4 [(m, .inr (11, [.ref r_row, .int 0, .ref r_terms, .ref r_deltas, .int 0, .ref r_tapes, .ref r_taped, .ref r_first, .ref r_second, .int 0, .int 0, .ref r_seen, .ref r_seenWeights, .ref r_seenMedians, .int 0, .int 0, .ref r_term, .ref r_delta, .ref r_weights, .ref r_inputs, .ref r_guesses, .ref r_bases, .ref r_keptWeights, .ref r_keptInputs, .ref r_medians, .int 0, .int 0, .long 0, .long 0, .long 0, .ref r_bits, .int 0, .int 0, .int 0, .ref r_sideBits, .int 0, .int 0, .int 0, .int 0, .int 0, .int 0, .ref r_coded, .int 0, .ref r_read, .ref r_lows, .ref r_highs, .ref r_restsTaken, .ref r_isBelow, .ref r_isWritten, .ref r_five])), (r_taped, .inl (E.2.2.1 0, 2, .inl (fun _ => 0)))] 0 0 [(0, .ref m), (1, .int 0), (2, .int i), (3, .int b)] 0 []
  refine g_iload_n B dX11_harm_0 rfl 1 rfl ?_
  refine g_callS (st := []) (As := [.int 0]) (wr := [(m, .inr (11, [.ref r_row, .int 0, .ref r_terms, .ref r_deltas, .int 0, .ref r_tapes, .ref r_taped, .ref r_first, .ref r_second, .int 0, .int 0, .ref r_seen, .ref r_seenWeights, .ref r_seenMedians, .int 0, .int 0, .ref r_term, .ref r_delta, .ref r_weights, .ref r_inputs, .ref r_guesses, .ref r_bases, .ref r_keptWeights, .ref r_keptInputs, .ref r_medians, .int 0, .int 0, .long 0, .long 0, .long 0, .ref r_bits, .int 0, .int 0, .int 0, .ref r_sideBits, .int 0, .int 0, .int 0, .int 0, .int 0, .int 0, .ref r_coded, .int 0, .ref r_read, .ref r_lows, .ref r_highs, .ref r_restsTaken, .ref r_isBelow, .ref r_isWritten, .ref r_five])), (r_taped, .inl (E.2.2.1 0, 2, .inl (fun _ => 0)))]) (nc' := 0) (ns' := 0) B cl_X11_361 w_sm_X11_noWhich (ev_X11_noWhich_0 E ) rfl [] [0, 1] rfl rfl (by decide) (by decide) (by decide) ⟨by decide, by decide⟩ rfl rfl (by decide) (by decide) rfl (Nat.le_of_ble_eq_true rfl) dX11_harm_1 (fun v w hq => ?_)
  obtain ⟨rfl, rfl⟩ := hq
  show G E X 4 [(m, .inr (11, [.ref r_row, .int 0, .ref r_terms, .ref r_deltas, .int 0, .ref r_tapes, .ref r_taped, .ref r_first, .ref r_second, .int 0, .int 0, .ref r_seen, .ref r_seenWeights, .ref r_seenMedians, .int 0, .int 0, .ref r_term, .ref r_delta, .ref r_weights, .ref r_inputs, .ref r_guesses, .ref r_bases, .ref r_keptWeights, .ref r_keptInputs, .ref r_medians, .int 0, .int 0, .long 0, .long 0, .long 0, .ref r_bits, .int 0, .int 0, .int 0, .ref r_sideBits, .int 0, .int 0, .int 0, .int 0, .int 0, .int 0, .ref r_coded, .int 0, .ref r_read, .ref r_lows, .ref r_highs, .ref r_restsTaken, .ref r_isBelow, .ref r_isWritten, .ref r_five])), (r_taped, .inl (E.2.2.1 0, 2, .inl (fun _ => 0)))] 0 0 [(0, .ref m), (1, .int 0), (2, .int i), (3, .int b)] 4 [.int 0]
  refine g_if_ne (tgt := 21) B dX11_harm_4 (by decide) (fun h => absurd (by decide) h) (fun c4 => ?_)
  refine g_iload_n B dX11_harm_7 rfl 2 rfl ?_
  refine g_if_lt (tgt := 21) B dX11_harm_8 (by decide) (fun c8_183 => ?_) (fun c8_183 => ?_)
  · refine g_iconst (v := 0) B dX11_harm_21 (by decide) ?_
    exact g_zret B hr (by decide) dX11_harm_22 (by decide) (by decide) rfl
  · refine g_iload_n B dX11_harm_11 rfl 2 rfl ?_
    refine g_aload_n B dX11_harm_12 rfl 0 rfl ?_
    refine g_get B 0 6 fl_X11_23 rfl rfl dX11_harm_13 ?_
    refine g_iload_n B dX11_harm_16 rfl 1 rfl ?_
    refine g_iald B 1 rfl (by unfold vp_in; decide) dX11_harm_17 ?_
    refine g_ri (x' := 0) rfl ?_
    refine g_icmp_lt (tgt := 23) B dX11_harm_18 (by decide) (fun h => absurd h c8_183) (fun c18 => ?_)
    refine g_iconst (v := 0) B dX11_harm_21 (by decide) ?_
    exact g_zret B hr (by decide) dX11_harm_22 (by decide) (by decide) rfl
abbrev MX11_seal : g_M := (yX11_seal, cX11_seal, 3, (some .boolean))
theorem dX11_seal_0 : decode cX11_seal 0 = .ok (.iload_n 1, 1) := by decide +kernel
theorem dX11_seal_1 : decode cX11_seal 1 = .ok (.invokestatic 361, 3) := by decide +kernel
theorem dX11_seal_4 : decode cX11_seal 4 = .ok (.ifCond .ne 13, 3) := by decide +kernel
theorem dX11_seal_7 : decode cX11_seal 7 = .ok (.aload_n 0, 1) := by decide +kernel
theorem dX11_seal_8 : decode cX11_seal 8 = .ok (.getfield 23, 3) := by decide +kernel
theorem dX11_seal_11 : decode cX11_seal 11 = .ok (.iload_n 1, 1) := by decide +kernel
theorem dX11_seal_12 : decode cX11_seal 12 = .ok (.iaload, 1) := by decide +kernel
theorem dX11_seal_13 : decode cX11_seal 13 = .ok (.iconst 5, 1) := by decide +kernel
theorem dX11_seal_14 : decode cX11_seal 14 = .ok (.if_icmp .ge 5, 3) := by decide +kernel
theorem dX11_seal_17 : decode cX11_seal 17 = .ok (.iconst 0, 1) := by decide +kernel
theorem dX11_seal_18 : decode cX11_seal 18 = .ok (.ireturn, 1) := by decide +kernel
set_option maxRecDepth 100000 in
set_option maxHeartbeats 4000000 in
theorem ev_X11_seal_0 (E : g_E) (m : Nat) (r_row : Nat) (r_terms : Nat) (r_deltas : Nat) (r_tapes : Nat) (r_taped : Nat) (r_first : Nat) (r_second : Nat) (r_seen : Nat) (r_seenWeights : Nat) (r_seenMedians : Nat) (r_term : Nat) (r_delta : Nat) (r_weights : Nat) (r_inputs : Nat) (r_guesses : Nat) (r_bases : Nat) (r_keptWeights : Nat) (r_keptInputs : Nat) (r_medians : Nat) (r_bits : Nat) (r_sideBits : Nat) (r_coded : Nat) (r_read : Nat) (r_lows : Nat) (r_highs : Nat) (r_restsTaken : Nat) (r_isBelow : Nat) (r_isWritten : Nat) (r_five : Nat)  : Ev E MX11_seal 1 25 0 0 [.ref m, .int 0] [(m, .inr (11, [.ref r_row, .int 0, .ref r_terms, .ref r_deltas, .int 0, .ref r_tapes, .ref r_taped, .ref r_first, .ref r_second, .int 0, .int 0, .ref r_seen, .ref r_seenWeights, .ref r_seenMedians, .int 0, .int 0, .ref r_term, .ref r_delta, .ref r_weights, .ref r_inputs, .ref r_guesses, .ref r_bases, .ref r_keptWeights, .ref r_keptInputs, .ref r_medians, .int 0, .int 0, .long 0, .long 0, .long 0, .ref r_bits, .int 0, .int 0, .int 0, .ref r_sideBits, .int 0, .int 0, .int 0, .int 0, .int 0, .int 0, .ref r_coded, .int 0, .ref r_read, .ref r_lows, .ref r_highs, .ref r_restsTaken, .ref r_isBelow, .ref r_isWritten, .ref r_five])), (r_taped, .inl (E.2.2.1 0, 2, .inl (fun _ => 0)))] (fun v_ w_ => v_ = some (.int 0)) := by
  refine Ev.intro (by decide) (Nat.le_of_ble_eq_true rfl) ?_
  intro X B hr hI
  have B : Bd E X cX11_seal RX11 3 1 25 0 0 := B
  have hr : Rt E X (some .boolean) 0 0 (fun v_ w_ => v_ = some (.int 0)) := hr
  show G E X 3 [(m, .inr (11, [.ref r_row, .int 0, .ref r_terms, .ref r_deltas, .int 0, .ref r_tapes, .ref r_taped, .ref r_first, .ref r_second, .int 0, .int 0, .ref r_seen, .ref r_seenWeights, .ref r_seenMedians, .int 0, .int 0, .ref r_term, .ref r_delta, .ref r_weights, .ref r_inputs, .ref r_guesses, .ref r_bases, .ref r_keptWeights, .ref r_keptInputs, .ref r_medians, .int 0, .int 0, .long 0, .long 0, .long 0, .ref r_bits, .int 0, .int 0, .int 0, .ref r_sideBits, .int 0, .int 0, .int 0, .int 0, .int 0, .int 0, .ref r_coded, .int 0, .ref r_read, .ref r_lows, .ref r_highs, .ref r_restsTaken, .ref r_isBelow, .ref r_isWritten, .ref r_five])), (r_taped, .inl (E.2.2.1 0, 2, .inl (fun _ => 0)))] 0 0 [(0, .ref m), (1, .int 0)] 0 []
  refine g_iload_n B dX11_seal_0 rfl 1 rfl ?_
  refine g_callS (st := []) (As := [.int 0]) (wr := [(m, .inr (11, [.ref r_row, .int 0, .ref r_terms, .ref r_deltas, .int 0, .ref r_tapes, .ref r_taped, .ref r_first, .ref r_second, .int 0, .int 0, .ref r_seen, .ref r_seenWeights, .ref r_seenMedians, .int 0, .int 0, .ref r_term, .ref r_delta, .ref r_weights, .ref r_inputs, .ref r_guesses, .ref r_bases, .ref r_keptWeights, .ref r_keptInputs, .ref r_medians, .int 0, .int 0, .long 0, .long 0, .long 0, .ref r_bits, .int 0, .int 0, .int 0, .ref r_sideBits, .int 0, .int 0, .int 0, .int 0, .int 0, .int 0, .ref r_coded, .int 0, .ref r_read, .ref r_lows, .ref r_highs, .ref r_restsTaken, .ref r_isBelow, .ref r_isWritten, .ref r_five])), (r_taped, .inl (E.2.2.1 0, 2, .inl (fun _ => 0)))]) (nc' := 0) (ns' := 0) B cl_X11_361 w_sm_X11_noWhich (ev_X11_noWhich_0 E ) rfl [] [0, 1] rfl rfl (by decide) (by decide) (by decide) ⟨by decide, by decide⟩ rfl rfl (by decide) (by decide) rfl (Nat.le_of_ble_eq_true rfl) dX11_seal_1 (fun v w hq => ?_)
  obtain ⟨rfl, rfl⟩ := hq
  show G E X 3 [(m, .inr (11, [.ref r_row, .int 0, .ref r_terms, .ref r_deltas, .int 0, .ref r_tapes, .ref r_taped, .ref r_first, .ref r_second, .int 0, .int 0, .ref r_seen, .ref r_seenWeights, .ref r_seenMedians, .int 0, .int 0, .ref r_term, .ref r_delta, .ref r_weights, .ref r_inputs, .ref r_guesses, .ref r_bases, .ref r_keptWeights, .ref r_keptInputs, .ref r_medians, .int 0, .int 0, .long 0, .long 0, .long 0, .ref r_bits, .int 0, .int 0, .int 0, .ref r_sideBits, .int 0, .int 0, .int 0, .int 0, .int 0, .int 0, .ref r_coded, .int 0, .ref r_read, .ref r_lows, .ref r_highs, .ref r_restsTaken, .ref r_isBelow, .ref r_isWritten, .ref r_five])), (r_taped, .inl (E.2.2.1 0, 2, .inl (fun _ => 0)))] 0 0 [(0, .ref m), (1, .int 0)] 4 [.int 0]
  refine g_if_ne (tgt := 17) B dX11_seal_4 (by decide) (fun h => absurd (by decide) h) (fun c4 => ?_)
  refine g_aload_n B dX11_seal_7 rfl 0 rfl ?_
  refine g_get B 0 6 fl_X11_23 rfl rfl dX11_seal_8 ?_
  refine g_iload_n B dX11_seal_11 rfl 1 rfl ?_
  refine g_iald B 1 rfl (by unfold vp_in; decide) dX11_seal_12 ?_
  refine g_ri (x' := 0) rfl ?_
  refine g_iconst (v := 5) B dX11_seal_13 (by decide) ?_
  refine g_icmp_ge (tgt := 19) B dX11_seal_14 (by decide) (fun h => absurd h (by decide)) (fun c14 => ?_)
  refine g_iconst (v := 0) B dX11_seal_17 (by decide) ?_
  exact g_zret B hr (by decide) dX11_seal_18 (by decide) (by decide) rfl
abbrev MX11_take : g_M := (yX11_take, cX11_take, 3, (some .int))
theorem dX11_take_0 : decode cX11_take 0 = .ok (.iload_n 1, 1) := by decide +kernel
theorem dX11_take_1 : decode cX11_take 1 = .ok (.invokestatic 361, 3) := by decide +kernel
theorem dX11_take_4 : decode cX11_take 4 = .ok (.ifCond .ne 14, 3) := by decide +kernel
theorem dX11_take_7 : decode cX11_take 7 = .ok (.aload_n 0, 1) := by decide +kernel
theorem dX11_take_8 : decode cX11_take 8 = .ok (.iload_n 1, 1) := by decide +kernel
theorem dX11_take_9 : decode cX11_take 9 = .ok (.invokevirtual 364, 3) := by decide +kernel
theorem dX11_take_12 : decode cX11_take 12 = .ok (.sipush 6000, 3) := by decide +kernel
theorem dX11_take_15 : decode cX11_take 15 = .ok (.if_icmp .le 5, 3) := by decide +kernel
theorem dX11_take_20 : decode cX11_take 20 = .ok (.iconst 0, 1) := by decide +kernel
theorem dX11_take_21 : decode cX11_take 21 = .ok (.istore_n 2, 1) := by decide +kernel
theorem dX11_take_22 : decode cX11_take 22 = .ok (.iload_n 2, 1) := by decide +kernel
theorem dX11_take_23 : decode cX11_take 23 = .ok (.aload_n 0, 1) := by decide +kernel
theorem dX11_take_24 : decode cX11_take 24 = .ok (.iload_n 1, 1) := by decide +kernel
theorem dX11_take_25 : decode cX11_take 25 = .ok (.invokevirtual 364, 3) := by decide +kernel
theorem dX11_take_28 : decode cX11_take 28 = .ok (.if_icmp .ge 40, 3) := by decide +kernel
theorem dX11_take_68 : decode cX11_take 68 = .ok (.aload_n 0, 1) := by decide +kernel
theorem dX11_take_69 : decode cX11_take 69 = .ok (.getfield 23, 3) := by decide +kernel
theorem dX11_take_72 : decode cX11_take 72 = .ok (.iload_n 1, 1) := by decide +kernel
theorem dX11_take_73 : decode cX11_take 73 = .ok (.aload_n 0, 1) := by decide +kernel
theorem dX11_take_74 : decode cX11_take 74 = .ok (.iload_n 1, 1) := by decide +kernel
theorem dX11_take_75 : decode cX11_take 75 = .ok (.invokevirtual 364, 3) := by decide +kernel
theorem dX11_take_78 : decode cX11_take 78 = .ok (.iastore, 1) := by decide +kernel
theorem dX11_take_79 : decode cX11_take 79 = .ok (.aload_n 0, 1) := by decide +kernel
theorem dX11_take_80 : decode cX11_take 80 = .ok (.getfield 23, 3) := by decide +kernel
theorem dX11_take_83 : decode cX11_take 83 = .ok (.iload_n 1, 1) := by decide +kernel
theorem dX11_take_84 : decode cX11_take 84 = .ok (.iaload, 1) := by decide +kernel
theorem dX11_take_85 : decode cX11_take 85 = .ok (.ireturn, 1) := by decide +kernel
set_option maxRecDepth 100000 in
set_option maxHeartbeats 4000000 in
theorem ev_X11_take_0 (E : g_E) (m : Nat) (r_row : Nat) (r_terms : Nat) (r_deltas : Nat) (r_tapes : Nat) (r_taped : Nat) (r_first : Nat) (r_second : Nat) (r_seen : Nat) (r_seenWeights : Nat) (r_seenMedians : Nat) (r_term : Nat) (r_delta : Nat) (r_weights : Nat) (r_inputs : Nat) (r_guesses : Nat) (r_bases : Nat) (r_keptWeights : Nat) (r_keptInputs : Nat) (r_medians : Nat) (r_bits : Nat) (r_sideBits : Nat) (r_coded : Nat) (r_read : Nat) (r_lows : Nat) (r_highs : Nat) (r_restsTaken : Nat) (r_isBelow : Nat) (r_isWritten : Nat) (r_five : Nat)  : Ev E MX11_take 1 21 0 0 [.ref m, .int 0] [(m, .inr (11, [.ref r_row, .int 0, .ref r_terms, .ref r_deltas, .int 0, .ref r_tapes, .ref r_taped, .ref r_first, .ref r_second, .int 0, .int 0, .ref r_seen, .ref r_seenWeights, .ref r_seenMedians, .int 0, .int 0, .ref r_term, .ref r_delta, .ref r_weights, .ref r_inputs, .ref r_guesses, .ref r_bases, .ref r_keptWeights, .ref r_keptInputs, .ref r_medians, .int 0, .int 0, .long 0, .long 0, .long 0, .ref r_bits, .int 0, .int 0, .int 0, .ref r_sideBits, .int 0, .int 0, .int 0, .int 0, .int 0, .int 0, .ref r_coded, .int 0, .ref r_read, .ref r_lows, .ref r_highs, .ref r_restsTaken, .ref r_isBelow, .ref r_isWritten, .ref r_five])), (r_taped, .inl (E.2.2.1 0, 2, .inl (fun _ => 0)))] (fun v_ w_ => v_ = some (.int 0)) := by
  refine Ev.intro (by decide) (Nat.le_of_ble_eq_true rfl) ?_
  intro X B hr hI
  have B : Bd E X cX11_take RX11 3 1 21 0 0 := B
  have hr : Rt E X (some .int) 0 0 (fun v_ w_ => v_ = some (.int 0)) := hr
  show G E X 3 [(m, .inr (11, [.ref r_row, .int 0, .ref r_terms, .ref r_deltas, .int 0, .ref r_tapes, .ref r_taped, .ref r_first, .ref r_second, .int 0, .int 0, .ref r_seen, .ref r_seenWeights, .ref r_seenMedians, .int 0, .int 0, .ref r_term, .ref r_delta, .ref r_weights, .ref r_inputs, .ref r_guesses, .ref r_bases, .ref r_keptWeights, .ref r_keptInputs, .ref r_medians, .int 0, .int 0, .long 0, .long 0, .long 0, .ref r_bits, .int 0, .int 0, .int 0, .ref r_sideBits, .int 0, .int 0, .int 0, .int 0, .int 0, .int 0, .ref r_coded, .int 0, .ref r_read, .ref r_lows, .ref r_highs, .ref r_restsTaken, .ref r_isBelow, .ref r_isWritten, .ref r_five])), (r_taped, .inl (E.2.2.1 0, 2, .inl (fun _ => 0)))] 0 0 [(0, .ref m), (1, .int 0)] 0 []
  refine g_iload_n B dX11_take_0 rfl 1 rfl ?_
  refine g_callS (st := []) (As := [.int 0]) (wr := [(m, .inr (11, [.ref r_row, .int 0, .ref r_terms, .ref r_deltas, .int 0, .ref r_tapes, .ref r_taped, .ref r_first, .ref r_second, .int 0, .int 0, .ref r_seen, .ref r_seenWeights, .ref r_seenMedians, .int 0, .int 0, .ref r_term, .ref r_delta, .ref r_weights, .ref r_inputs, .ref r_guesses, .ref r_bases, .ref r_keptWeights, .ref r_keptInputs, .ref r_medians, .int 0, .int 0, .long 0, .long 0, .long 0, .ref r_bits, .int 0, .int 0, .int 0, .ref r_sideBits, .int 0, .int 0, .int 0, .int 0, .int 0, .int 0, .ref r_coded, .int 0, .ref r_read, .ref r_lows, .ref r_highs, .ref r_restsTaken, .ref r_isBelow, .ref r_isWritten, .ref r_five])), (r_taped, .inl (E.2.2.1 0, 2, .inl (fun _ => 0)))]) (nc' := 0) (ns' := 0) B cl_X11_361 w_sm_X11_noWhich (ev_X11_noWhich_0 E ) rfl [] [0, 1] rfl rfl (by decide) (by decide) (by decide) ⟨by decide, by decide⟩ rfl rfl (by decide) (by decide) rfl (Nat.le_of_ble_eq_true rfl) dX11_take_1 (fun v w hq => ?_)
  obtain ⟨rfl, rfl⟩ := hq
  show G E X 3 [(m, .inr (11, [.ref r_row, .int 0, .ref r_terms, .ref r_deltas, .int 0, .ref r_tapes, .ref r_taped, .ref r_first, .ref r_second, .int 0, .int 0, .ref r_seen, .ref r_seenWeights, .ref r_seenMedians, .int 0, .int 0, .ref r_term, .ref r_delta, .ref r_weights, .ref r_inputs, .ref r_guesses, .ref r_bases, .ref r_keptWeights, .ref r_keptInputs, .ref r_medians, .int 0, .int 0, .long 0, .long 0, .long 0, .ref r_bits, .int 0, .int 0, .int 0, .ref r_sideBits, .int 0, .int 0, .int 0, .int 0, .int 0, .int 0, .ref r_coded, .int 0, .ref r_read, .ref r_lows, .ref r_highs, .ref r_restsTaken, .ref r_isBelow, .ref r_isWritten, .ref r_five])), (r_taped, .inl (E.2.2.1 0, 2, .inl (fun _ => 0)))] 0 0 [(0, .ref m), (1, .int 0)] 4 [.int 0]
  refine g_if_ne (tgt := 18) B dX11_take_4 (by decide) (fun h => absurd (by decide) h) (fun c4 => ?_)
  refine g_aload_n B dX11_take_7 rfl 0 rfl ?_
  refine g_iload_n B dX11_take_8 rfl 1 rfl ?_
  refine g_callV (st := []) (As := [.int 0]) (wr := [(r_taped, .inl (E.2.2.1 0, 2, .inl (fun _ => 0)))]) (nc' := 0) (ns' := 0) B cl_X11_364 w_im_X11_size w_se_X11_size (ev_X11_size_0 E m r_row r_terms r_deltas r_tapes r_taped r_first r_second r_seen r_seenWeights r_seenMedians r_term r_delta r_weights r_inputs r_guesses r_bases r_keptWeights r_keptInputs r_medians r_bits r_sideBits r_coded r_read r_lows r_highs r_restsTaken r_isBelow r_isWritten r_five ) rfl [0] [1] rfl rfl (by decide) (by decide) (by decide) 0 rfl (fun q h => by cases h; rfl) rfl ⟨by decide, by decide⟩ rfl rfl (by decide) (by decide) rfl (Nat.le_of_ble_eq_true rfl) dX11_take_9 (fun v w hq => ?_)
  obtain ⟨rfl, rfl⟩ := hq
  show G E X 3 [(r_taped, .inl (E.2.2.1 0, 2, .inl (fun _ => 0))), (m, .inr (11, [.ref r_row, .int 0, .ref r_terms, .ref r_deltas, .int 0, .ref r_tapes, .ref r_taped, .ref r_first, .ref r_second, .int 0, .int 0, .ref r_seen, .ref r_seenWeights, .ref r_seenMedians, .int 0, .int 0, .ref r_term, .ref r_delta, .ref r_weights, .ref r_inputs, .ref r_guesses, .ref r_bases, .ref r_keptWeights, .ref r_keptInputs, .ref r_medians, .int 0, .int 0, .long 0, .long 0, .long 0, .ref r_bits, .int 0, .int 0, .int 0, .ref r_sideBits, .int 0, .int 0, .int 0, .int 0, .int 0, .int 0, .ref r_coded, .int 0, .ref r_read, .ref r_lows, .ref r_highs, .ref r_restsTaken, .ref r_isBelow, .ref r_isWritten, .ref r_five]))] 0 0 [(0, .ref m), (1, .int 0)] 12 [.int 0]
  refine g_sipush (v := 6000) B dX11_take_12 (by decide) ?_
  refine g_icmp_le (tgt := 20) B dX11_take_15 (by decide) (fun c15 => ?_) (fun h => absurd (by decide) h)
  refine g_iconst (v := 0) B dX11_take_20 (by decide) ?_
  refine g_istore_n (lv' := [(2, .int 0), (0, .ref m), (1, .int 0)]) B dX11_take_21 rfl (by decide) rfl ?_
  refine g_iload_n B dX11_take_22 rfl 0 rfl ?_
  refine g_aload_n B dX11_take_23 rfl 1 rfl ?_
  refine g_iload_n B dX11_take_24 rfl 2 rfl ?_
  refine g_callV (st := [.int 0]) (As := [.int 0]) (wr := [(r_taped, .inl (E.2.2.1 0, 2, .inl (fun _ => 0)))]) (nc' := 0) (ns' := 0) B cl_X11_364 w_im_X11_size w_se_X11_size (ev_X11_size_0 E m r_row r_terms r_deltas r_tapes r_taped r_first r_second r_seen r_seenWeights r_seenMedians r_term r_delta r_weights r_inputs r_guesses r_bases r_keptWeights r_keptInputs r_medians r_bits r_sideBits r_coded r_read r_lows r_highs r_restsTaken r_isBelow r_isWritten r_five ) rfl [1] [0] rfl rfl (by decide) (by decide) (by decide) 0 rfl (fun q h => by cases h; rfl) rfl ⟨by decide, by decide⟩ rfl rfl (by decide) (by decide) rfl (Nat.le_of_ble_eq_true rfl) dX11_take_25 (fun v w hq => ?_)
  obtain ⟨rfl, rfl⟩ := hq
  show G E X 3 [(r_taped, .inl (E.2.2.1 0, 2, .inl (fun _ => 0))), (m, .inr (11, [.ref r_row, .int 0, .ref r_terms, .ref r_deltas, .int 0, .ref r_tapes, .ref r_taped, .ref r_first, .ref r_second, .int 0, .int 0, .ref r_seen, .ref r_seenWeights, .ref r_seenMedians, .int 0, .int 0, .ref r_term, .ref r_delta, .ref r_weights, .ref r_inputs, .ref r_guesses, .ref r_bases, .ref r_keptWeights, .ref r_keptInputs, .ref r_medians, .int 0, .int 0, .long 0, .long 0, .long 0, .ref r_bits, .int 0, .int 0, .int 0, .ref r_sideBits, .int 0, .int 0, .int 0, .int 0, .int 0, .int 0, .ref r_coded, .int 0, .ref r_read, .ref r_lows, .ref r_highs, .ref r_restsTaken, .ref r_isBelow, .ref r_isWritten, .ref r_five]))] 0 0 [(2, .int 0), (0, .ref m), (1, .int 0)] 28 [.int 0, .int 0]
  refine g_icmp_ge (tgt := 68) B dX11_take_28 (by decide) (fun c28 => ?_) (fun h => absurd (by decide) h)
  refine g_aload_n B dX11_take_68 rfl 1 rfl ?_
  refine g_get B 1 6 fl_X11_23 rfl rfl dX11_take_69 ?_
  refine g_iload_n B dX11_take_72 rfl 2 rfl ?_
  refine g_aload_n B dX11_take_73 rfl 1 rfl ?_
  refine g_iload_n B dX11_take_74 rfl 2 rfl ?_
  refine g_callV (st := [.int 0, .ref r_taped]) (As := [.int 0]) (wr := [(r_taped, .inl (E.2.2.1 0, 2, .inl (fun _ => 0)))]) (nc' := 0) (ns' := 0) B cl_X11_364 w_im_X11_size w_se_X11_size (ev_X11_size_0 E m r_row r_terms r_deltas r_tapes r_taped r_first r_second r_seen r_seenWeights r_seenMedians r_term r_delta r_weights r_inputs r_guesses r_bases r_keptWeights r_keptInputs r_medians r_bits r_sideBits r_coded r_read r_lows r_highs r_restsTaken r_isBelow r_isWritten r_five ) rfl [1] [0] rfl rfl (by decide) (by decide) (by decide) 0 rfl (fun q h => by cases h; rfl) rfl ⟨by decide, by decide⟩ rfl rfl (by decide) (by decide) rfl (Nat.le_of_ble_eq_true rfl) dX11_take_75 (fun v w hq => ?_)
  obtain ⟨rfl, rfl⟩ := hq
  show G E X 3 [(r_taped, .inl (E.2.2.1 0, 2, .inl (fun _ => 0))), (m, .inr (11, [.ref r_row, .int 0, .ref r_terms, .ref r_deltas, .int 0, .ref r_tapes, .ref r_taped, .ref r_first, .ref r_second, .int 0, .int 0, .ref r_seen, .ref r_seenWeights, .ref r_seenMedians, .int 0, .int 0, .ref r_term, .ref r_delta, .ref r_weights, .ref r_inputs, .ref r_guesses, .ref r_bases, .ref r_keptWeights, .ref r_keptInputs, .ref r_medians, .int 0, .int 0, .long 0, .long 0, .long 0, .ref r_bits, .int 0, .int 0, .int 0, .ref r_sideBits, .int 0, .int 0, .int 0, .int 0, .int 0, .int 0, .ref r_coded, .int 0, .ref r_read, .ref r_lows, .ref r_highs, .ref r_restsTaken, .ref r_isBelow, .ref r_isWritten, .ref r_five]))] 0 0 [(2, .int 0), (0, .ref m), (1, .int 0)] 78 [.int 0, .int 0, .ref r_taped]
  refine g_iast (ws' := [(r_taped, .inl (E.2.2.1 0, 2, .inl (upd (fun _ => 0) (Int32.toNatClampNeg 0) 0))), (m, .inr (11, [.ref r_row, .int 0, .ref r_terms, .ref r_deltas, .int 0, .ref r_tapes, .ref r_taped, .ref r_first, .ref r_second, .int 0, .int 0, .ref r_seen, .ref r_seenWeights, .ref r_seenMedians, .int 0, .int 0, .ref r_term, .ref r_delta, .ref r_weights, .ref r_inputs, .ref r_guesses, .ref r_bases, .ref r_keptWeights, .ref r_keptInputs, .ref r_medians, .int 0, .int 0, .long 0, .long 0, .long 0, .ref r_bits, .int 0, .int 0, .int 0, .ref r_sideBits, .int 0, .int 0, .int 0, .int 0, .int 0, .int 0, .ref r_coded, .int 0, .ref r_read, .ref r_lows, .ref r_highs, .ref r_restsTaken, .ref r_isBelow, .ref r_isWritten, .ref r_five]))]) B 0 rfl (by unfold vp_in; decide) rfl dX11_take_78 ?_
  refine g_aload_n B dX11_take_79 rfl 1 rfl ?_
  refine g_get B 1 6 fl_X11_23 rfl rfl dX11_take_80 ?_
  refine g_iload_n B dX11_take_83 rfl 2 rfl ?_
  refine g_iald B 0 rfl (by unfold vp_in; decide) dX11_take_84 ?_
  refine g_ri (x' := 0) (by decide) ?_
  exact g_iret B hr dX11_take_85 (by decide) (by decide) rfl
set_option maxRecDepth 100000 in
set_option maxHeartbeats 4000000 in
theorem ev_X11_out_1 (E : g_E) (m : Nat) (r_row : Nat) (r_terms : Nat) (r_deltas : Nat) (r_tapes : Nat) (r_taped : Nat) (r_first : Nat) (r_second : Nat) (r_seen : Nat) (r_seenWeights : Nat) (r_seenMedians : Nat) (r_term : Nat) (r_delta : Nat) (r_weights : Nat) (r_inputs : Nat) (r_guesses : Nat) (r_bases : Nat) (r_keptWeights : Nat) (r_keptInputs : Nat) (r_medians : Nat) (r_bits : Nat) (r_sideBits : Nat) (r_coded : Nat) (r_read : Nat) (r_lows : Nat) (r_highs : Nat) (r_restsTaken : Nat) (r_isBelow : Nat) (r_isWritten : Nat) (r_five : Nat) (i : Int32)  : Ev E MX11_out 1 21 0 0 [.ref m, .int 1, .int i] [(m, .inr (11, [.ref r_row, .int 0, .ref r_terms, .ref r_deltas, .int 0, .ref r_tapes, .ref r_taped, .ref r_first, .ref r_second, .int 0, .int 0, .ref r_seen, .ref r_seenWeights, .ref r_seenMedians, .int 0, .int 0, .ref r_term, .ref r_delta, .ref r_weights, .ref r_inputs, .ref r_guesses, .ref r_bases, .ref r_keptWeights, .ref r_keptInputs, .ref r_medians, .int 0, .int 0, .long 0, .long 0, .long 0, .ref r_bits, .int 0, .int 0, .int 0, .ref r_sideBits, .int 0, .int 0, .int 0, .int 0, .int 0, .int 0, .ref r_coded, .int 0, .ref r_read, .ref r_lows, .ref r_highs, .ref r_restsTaken, .ref r_isBelow, .ref r_isWritten, .ref r_five]))] (fun v_ w_ => v_ = some (.int (-1))) := by
  refine Ev.intro (by decide) (Nat.le_of_ble_eq_true rfl) ?_
  intro X B hr hI
  have B : Bd E X cX11_out RX11 3 1 21 0 0 := B
  have hr : Rt E X (some .int) 0 0 (fun v_ w_ => v_ = some (.int (-1))) := hr
  show G E X 3 [(m, .inr (11, [.ref r_row, .int 0, .ref r_terms, .ref r_deltas, .int 0, .ref r_tapes, .ref r_taped, .ref r_first, .ref r_second, .int 0, .int 0, .ref r_seen, .ref r_seenWeights, .ref r_seenMedians, .int 0, .int 0, .ref r_term, .ref r_delta, .ref r_weights, .ref r_inputs, .ref r_guesses, .ref r_bases, .ref r_keptWeights, .ref r_keptInputs, .ref r_medians, .int 0, .int 0, .long 0, .long 0, .long 0, .ref r_bits, .int 0, .int 0, .int 0, .ref r_sideBits, .int 0, .int 0, .int 0, .int 0, .int 0, .int 0, .ref r_coded, .int 0, .ref r_read, .ref r_lows, .ref r_highs, .ref r_restsTaken, .ref r_isBelow, .ref r_isWritten, .ref r_five]))] 0 0 [(0, .ref m), (1, .int 1), (2, .int i)] 0 []
  refine g_iload_n B dX11_out_0 rfl 1 rfl ?_
  refine g_callS (st := []) (As := [.int 1]) (wr := [(m, .inr (11, [.ref r_row, .int 0, .ref r_terms, .ref r_deltas, .int 0, .ref r_tapes, .ref r_taped, .ref r_first, .ref r_second, .int 0, .int 0, .ref r_seen, .ref r_seenWeights, .ref r_seenMedians, .int 0, .int 0, .ref r_term, .ref r_delta, .ref r_weights, .ref r_inputs, .ref r_guesses, .ref r_bases, .ref r_keptWeights, .ref r_keptInputs, .ref r_medians, .int 0, .int 0, .long 0, .long 0, .long 0, .ref r_bits, .int 0, .int 0, .int 0, .ref r_sideBits, .int 0, .int 0, .int 0, .int 0, .int 0, .int 0, .ref r_coded, .int 0, .ref r_read, .ref r_lows, .ref r_highs, .ref r_restsTaken, .ref r_isBelow, .ref r_isWritten, .ref r_five]))]) (nc' := 0) (ns' := 0) B cl_X11_361 w_sm_X11_noWhich (ev_X11_noWhich_1 E ) rfl [] [0] rfl rfl (by decide) (by decide) (by decide) ⟨by decide, by decide⟩ rfl rfl (by decide) (by decide) rfl (Nat.le_of_ble_eq_true rfl) dX11_out_1 (fun v w hq => ?_)
  obtain ⟨rfl, rfl⟩ := hq
  show G E X 3 [(m, .inr (11, [.ref r_row, .int 0, .ref r_terms, .ref r_deltas, .int 0, .ref r_tapes, .ref r_taped, .ref r_first, .ref r_second, .int 0, .int 0, .ref r_seen, .ref r_seenWeights, .ref r_seenMedians, .int 0, .int 0, .ref r_term, .ref r_delta, .ref r_weights, .ref r_inputs, .ref r_guesses, .ref r_bases, .ref r_keptWeights, .ref r_keptInputs, .ref r_medians, .int 0, .int 0, .long 0, .long 0, .long 0, .ref r_bits, .int 0, .int 0, .int 0, .ref r_sideBits, .int 0, .int 0, .int 0, .int 0, .int 0, .int 0, .ref r_coded, .int 0, .ref r_read, .ref r_lows, .ref r_highs, .ref r_restsTaken, .ref r_isBelow, .ref r_isWritten, .ref r_five]))] 0 0 [(0, .ref m), (1, .int 1), (2, .int i)] 4 [.int 0]
  refine g_if_ne (tgt := 20) B dX11_out_4 (by decide) (fun h => absurd (by decide) h) (fun c4 => ?_)
  refine g_iload_n B dX11_out_7 rfl 2 rfl ?_
  refine g_if_lt (tgt := 20) B dX11_out_8 (by decide) (fun c8_184 => ?_) (fun c8_184 => ?_)
  · refine g_iconst (v := (-1)) B dX11_out_20 (by decide) ?_
    exact g_iret B hr dX11_out_21 (by decide) (by decide) rfl
  · refine g_iload_n B dX11_out_11 rfl 2 rfl ?_
    refine g_aload_n B dX11_out_12 rfl 0 rfl ?_
    refine g_iload_n B dX11_out_13 rfl 1 rfl ?_
    refine g_callV (st := [.int i]) (As := [.int 1]) (wr := []) (nc' := 0) (ns' := 0) B cl_X11_364 w_im_X11_size w_se_X11_size (ev_X11_size_1 E m r_row r_terms r_deltas r_tapes r_taped r_first r_second r_seen r_seenWeights r_seenMedians r_term r_delta r_weights r_inputs r_guesses r_bases r_keptWeights r_keptInputs r_medians r_bits r_sideBits r_coded r_read r_lows r_highs r_restsTaken r_isBelow r_isWritten r_five ) rfl [0] [] rfl rfl (by decide) (by decide) (by decide) 0 rfl (fun q h => by cases h; rfl) rfl ⟨by decide, by decide⟩ rfl rfl (by decide) (by decide) rfl (Nat.le_of_ble_eq_true rfl) dX11_out_14 (fun v w hq => ?_)
    obtain ⟨rfl, rfl⟩ := hq
    show G E X 3 [(m, .inr (11, [.ref r_row, .int 0, .ref r_terms, .ref r_deltas, .int 0, .ref r_tapes, .ref r_taped, .ref r_first, .ref r_second, .int 0, .int 0, .ref r_seen, .ref r_seenWeights, .ref r_seenMedians, .int 0, .int 0, .ref r_term, .ref r_delta, .ref r_weights, .ref r_inputs, .ref r_guesses, .ref r_bases, .ref r_keptWeights, .ref r_keptInputs, .ref r_medians, .int 0, .int 0, .long 0, .long 0, .long 0, .ref r_bits, .int 0, .int 0, .int 0, .ref r_sideBits, .int 0, .int 0, .int 0, .int 0, .int 0, .int 0, .ref r_coded, .int 0, .ref r_read, .ref r_lows, .ref r_highs, .ref r_restsTaken, .ref r_isBelow, .ref r_isWritten, .ref r_five]))] 0 0 [(0, .ref m), (1, .int 1), (2, .int i)] 17 [.int 0, .int i]
    refine g_icmp_lt (tgt := 22) B dX11_out_17 (by decide) (fun h => absurd h c8_184) (fun c17 => ?_)
    refine g_iconst (v := (-1)) B dX11_out_20 (by decide) ?_
    exact g_iret B hr dX11_out_21 (by decide) (by decide) rfl
set_option maxRecDepth 100000 in
set_option maxHeartbeats 4000000 in
theorem ev_X11_feed_1 (E : g_E) (m : Nat) (r_row : Nat) (r_terms : Nat) (r_deltas : Nat) (r_tapes : Nat) (r_taped : Nat) (r_first : Nat) (r_second : Nat) (r_seen : Nat) (r_seenWeights : Nat) (r_seenMedians : Nat) (r_term : Nat) (r_delta : Nat) (r_weights : Nat) (r_inputs : Nat) (r_guesses : Nat) (r_bases : Nat) (r_keptWeights : Nat) (r_keptInputs : Nat) (r_medians : Nat) (r_bits : Nat) (r_sideBits : Nat) (r_coded : Nat) (r_read : Nat) (r_lows : Nat) (r_highs : Nat) (r_restsTaken : Nat) (r_isBelow : Nat) (r_isWritten : Nat) (r_five : Nat) (a1 : Int32) (a2 : Int32) (a3 : Int32)  : Ev E MX11_feed 1 23 0 0 [.ref m, .int 1, .int a1, .int a2, .int a3] [(m, .inr (11, [.ref r_row, .int 0, .ref r_terms, .ref r_deltas, .int 0, .ref r_tapes, .ref r_taped, .ref r_first, .ref r_second, .int 0, .int 0, .ref r_seen, .ref r_seenWeights, .ref r_seenMedians, .int 0, .int 0, .ref r_term, .ref r_delta, .ref r_weights, .ref r_inputs, .ref r_guesses, .ref r_bases, .ref r_keptWeights, .ref r_keptInputs, .ref r_medians, .int 0, .int 0, .long 0, .long 0, .long 0, .ref r_bits, .int 0, .int 0, .int 0, .ref r_sideBits, .int 0, .int 0, .int 0, .int 0, .int 0, .int 0, .ref r_coded, .int 0, .ref r_read, .ref r_lows, .ref r_highs, .ref r_restsTaken, .ref r_isBelow, .ref r_isWritten, .ref r_five])), (r_taped, .inl (E.2.2.1 0, 2, .inl (fun _ => 0))), (r_tapes, .inl (E.2.2.1 1, 12000, .inl (fun _ => 0)))] (fun v_ w_ => v_ = some (.int 12)) := by
  refine Ev.intro (by decide) (Nat.le_of_ble_eq_true rfl) ?_
  intro X B hr hI
  have B : Bd E X cX11_feed RX11 6 1 23 0 0 := B
  have hr : Rt E X (some .int) 0 0 (fun v_ w_ => v_ = some (.int 12)) := hr
  show G E X 6 [(m, .inr (11, [.ref r_row, .int 0, .ref r_terms, .ref r_deltas, .int 0, .ref r_tapes, .ref r_taped, .ref r_first, .ref r_second, .int 0, .int 0, .ref r_seen, .ref r_seenWeights, .ref r_seenMedians, .int 0, .int 0, .ref r_term, .ref r_delta, .ref r_weights, .ref r_inputs, .ref r_guesses, .ref r_bases, .ref r_keptWeights, .ref r_keptInputs, .ref r_medians, .int 0, .int 0, .long 0, .long 0, .long 0, .ref r_bits, .int 0, .int 0, .int 0, .ref r_sideBits, .int 0, .int 0, .int 0, .int 0, .int 0, .int 0, .ref r_coded, .int 0, .ref r_read, .ref r_lows, .ref r_highs, .ref r_restsTaken, .ref r_isBelow, .ref r_isWritten, .ref r_five])), (r_taped, .inl (E.2.2.1 0, 2, .inl (fun _ => 0))), (r_tapes, .inl (E.2.2.1 1, 12000, .inl (fun _ => 0)))] 0 0 [(0, .ref m), (1, .int 1), (2, .int a1), (3, .int a2), (4, .int a3)] 0 []
  refine g_iload_n B dX11_feed_0 rfl 1 rfl ?_
  refine g_callS (st := []) (As := [.int 1]) (wr := [(m, .inr (11, [.ref r_row, .int 0, .ref r_terms, .ref r_deltas, .int 0, .ref r_tapes, .ref r_taped, .ref r_first, .ref r_second, .int 0, .int 0, .ref r_seen, .ref r_seenWeights, .ref r_seenMedians, .int 0, .int 0, .ref r_term, .ref r_delta, .ref r_weights, .ref r_inputs, .ref r_guesses, .ref r_bases, .ref r_keptWeights, .ref r_keptInputs, .ref r_medians, .int 0, .int 0, .long 0, .long 0, .long 0, .ref r_bits, .int 0, .int 0, .int 0, .ref r_sideBits, .int 0, .int 0, .int 0, .int 0, .int 0, .int 0, .ref r_coded, .int 0, .ref r_read, .ref r_lows, .ref r_highs, .ref r_restsTaken, .ref r_isBelow, .ref r_isWritten, .ref r_five])), (r_taped, .inl (E.2.2.1 0, 2, .inl (fun _ => 0))), (r_tapes, .inl (E.2.2.1 1, 12000, .inl (fun _ => 0)))]) (nc' := 0) (ns' := 0) B cl_X11_361 w_sm_X11_noWhich (ev_X11_noWhich_1 E ) rfl [] [0, 1, 2] rfl rfl (by decide) (by decide) (by decide) ⟨by decide, by decide⟩ rfl rfl (by decide) (by decide) rfl (Nat.le_of_ble_eq_true rfl) dX11_feed_1 (fun v w hq => ?_)
  obtain ⟨rfl, rfl⟩ := hq
  show G E X 6 [(m, .inr (11, [.ref r_row, .int 0, .ref r_terms, .ref r_deltas, .int 0, .ref r_tapes, .ref r_taped, .ref r_first, .ref r_second, .int 0, .int 0, .ref r_seen, .ref r_seenWeights, .ref r_seenMedians, .int 0, .int 0, .ref r_term, .ref r_delta, .ref r_weights, .ref r_inputs, .ref r_guesses, .ref r_bases, .ref r_keptWeights, .ref r_keptInputs, .ref r_medians, .int 0, .int 0, .long 0, .long 0, .long 0, .ref r_bits, .int 0, .int 0, .int 0, .ref r_sideBits, .int 0, .int 0, .int 0, .int 0, .int 0, .int 0, .ref r_coded, .int 0, .ref r_read, .ref r_lows, .ref r_highs, .ref r_restsTaken, .ref r_isBelow, .ref r_isWritten, .ref r_five])), (r_taped, .inl (E.2.2.1 0, 2, .inl (fun _ => 0))), (r_tapes, .inl (E.2.2.1 1, 12000, .inl (fun _ => 0)))] 0 0 [(0, .ref m), (1, .int 1), (2, .int a1), (3, .int a2), (4, .int a3)] 4 [.int 0]
  refine g_if_ne (tgt := 22) B dX11_feed_4 (by decide) (fun h => absurd (by decide) h) (fun c4 => ?_)
  refine g_aload_n B dX11_feed_7 rfl 0 rfl ?_
  refine g_get B 0 6 fl_X11_23 rfl rfl dX11_feed_8 ?_
  refine g_iload_n B dX11_feed_11 rfl 1 rfl ?_
  refine g_iald B 1 rfl (by unfold vp_in; decide) dX11_feed_12 ?_
  refine g_ri (x' := 0) rfl ?_
  refine g_bipush (v := 12) B dX11_feed_13 (by decide) ?_
  refine g_iadd B dX11_feed_15 ?_
  refine g_ri (x' := 12) (by decide) ?_
  refine g_sipush (v := 6000) B dX11_feed_16 (by decide) ?_
  refine g_icmp_le (tgt := 24) B dX11_feed_19 (by decide) (fun c19 => ?_) (fun h => absurd (by decide) h)
  refine g_sipush (v := 6000) B dX11_feed_24 (by decide) ?_
  refine g_iload_n B dX11_feed_27 rfl 1 rfl ?_
  refine g_imul B dX11_feed_28 ?_
  refine g_ri (x' := 6000) (by decide) ?_
  refine g_aload_n B dX11_feed_29 rfl 0 rfl ?_
  refine g_get B 0 6 fl_X11_23 rfl rfl dX11_feed_30 ?_
  refine g_iload_n B dX11_feed_33 rfl 1 rfl ?_
  refine g_iald B 1 rfl (by unfold vp_in; decide) dX11_feed_34 ?_
  refine g_ri (x' := 0) rfl ?_
  refine g_iadd B dX11_feed_35 ?_
  refine g_ri (x' := 6000) (by decide) ?_
  refine g_istore (lv' := [(5, .int 6000), (0, .ref m), (1, .int 1), (2, .int a1), (3, .int a2), (4, .int a3)]) B dX11_feed_36 (by decide) rfl ?_
  refine g_aload_n B dX11_feed_38 rfl 1 rfl ?_
  refine g_get B 0 5 fl_X11_19 rfl rfl dX11_feed_39 ?_
  refine g_iload B dX11_feed_42 0 rfl ?_
  refine g_iload_n B dX11_feed_44 rfl 3 rfl ?_
  refine g_callS (st := []) (As := [.ref r_tapes, .int 6000, .int a1]) (wr := [(m, .inr (11, [.ref r_row, .int 0, .ref r_terms, .ref r_deltas, .int 0, .ref r_tapes, .ref r_taped, .ref r_first, .ref r_second, .int 0, .int 0, .ref r_seen, .ref r_seenWeights, .ref r_seenMedians, .int 0, .int 0, .ref r_term, .ref r_delta, .ref r_weights, .ref r_inputs, .ref r_guesses, .ref r_bases, .ref r_keptWeights, .ref r_keptInputs, .ref r_medians, .int 0, .int 0, .long 0, .long 0, .long 0, .ref r_bits, .int 0, .int 0, .int 0, .ref r_sideBits, .int 0, .int 0, .int 0, .int 0, .int 0, .int 0, .ref r_coded, .int 0, .ref r_read, .ref r_lows, .ref r_highs, .ref r_restsTaken, .ref r_isBelow, .ref r_isWritten, .ref r_five])), (r_taped, .inl (E.2.2.1 0, 2, .inl (fun _ => 0)))]) (nc' := 0) (ns' := 0) B cl_X11_263 w_sm_X11_putInt (ev_X11_putInt E r_tapes 12000 6000 (fun _ => 0) a1 (by first | assumption | omega | decide) (by first | assumption | omega | decide)) rfl [2] [0, 1] rfl rfl (by decide) (by decide) (by decide) ⟨by decide, by decide⟩ rfl rfl (by decide) (by decide) rfl (Nat.le_of_ble_eq_true rfl) dX11_feed_45 (fun v w hq => ?_)
  obtain ⟨rfl, rfl⟩ := hq
  show G E X 6 [(m, .inr (11, [.ref r_row, .int 0, .ref r_terms, .ref r_deltas, .int 0, .ref r_tapes, .ref r_taped, .ref r_first, .ref r_second, .int 0, .int 0, .ref r_seen, .ref r_seenWeights, .ref r_seenMedians, .int 0, .int 0, .ref r_term, .ref r_delta, .ref r_weights, .ref r_inputs, .ref r_guesses, .ref r_bases, .ref r_keptWeights, .ref r_keptInputs, .ref r_medians, .int 0, .int 0, .long 0, .long 0, .long 0, .ref r_bits, .int 0, .int 0, .int 0, .ref r_sideBits, .int 0, .int 0, .int 0, .int 0, .int 0, .int 0, .ref r_coded, .int 0, .ref r_read, .ref r_lows, .ref r_highs, .ref r_restsTaken, .ref r_isBelow, .ref r_isWritten, .ref r_five])), (r_taped, .inl (E.2.2.1 0, 2, .inl (fun _ => 0))), (r_tapes, .inl (E.2.2.1 1, 12000, .inl (by_p (fun _ => 0) 6000 a1)))] 0 0 [(5, .int 6000), (0, .ref m), (1, .int 1), (2, .int a1), (3, .int a2), (4, .int a3)] 48 []
  refine g_aload_n B dX11_feed_48 rfl 1 rfl ?_
  refine g_get B 0 5 fl_X11_19 rfl rfl dX11_feed_49 ?_
  refine g_iload B dX11_feed_52 0 rfl ?_
  refine g_iconst (v := 4) B dX11_feed_54 (by decide) ?_
  refine g_iadd B dX11_feed_55 ?_
  refine g_ri (x' := 6004) (by decide) ?_
  refine g_iload_n B dX11_feed_56 rfl 4 rfl ?_
  refine g_callS (st := []) (As := [.ref r_tapes, .int 6004, .int a2]) (wr := [(m, .inr (11, [.ref r_row, .int 0, .ref r_terms, .ref r_deltas, .int 0, .ref r_tapes, .ref r_taped, .ref r_first, .ref r_second, .int 0, .int 0, .ref r_seen, .ref r_seenWeights, .ref r_seenMedians, .int 0, .int 0, .ref r_term, .ref r_delta, .ref r_weights, .ref r_inputs, .ref r_guesses, .ref r_bases, .ref r_keptWeights, .ref r_keptInputs, .ref r_medians, .int 0, .int 0, .long 0, .long 0, .long 0, .ref r_bits, .int 0, .int 0, .int 0, .ref r_sideBits, .int 0, .int 0, .int 0, .int 0, .int 0, .int 0, .ref r_coded, .int 0, .ref r_read, .ref r_lows, .ref r_highs, .ref r_restsTaken, .ref r_isBelow, .ref r_isWritten, .ref r_five])), (r_taped, .inl (E.2.2.1 0, 2, .inl (fun _ => 0)))]) (nc' := 0) (ns' := 0) B cl_X11_263 w_sm_X11_putInt (ev_X11_putInt E r_tapes 12000 6004 (by_p (fun _ => 0) 6000 a1) a2 (by first | assumption | omega | decide) (by first | assumption | omega | decide)) rfl [2] [0, 1] rfl rfl (by decide) (by decide) (by decide) ⟨by decide, by decide⟩ rfl rfl (by decide) (by decide) rfl (Nat.le_of_ble_eq_true rfl) dX11_feed_57 (fun v w hq => ?_)
  obtain ⟨rfl, rfl⟩ := hq
  show G E X 6 [(m, .inr (11, [.ref r_row, .int 0, .ref r_terms, .ref r_deltas, .int 0, .ref r_tapes, .ref r_taped, .ref r_first, .ref r_second, .int 0, .int 0, .ref r_seen, .ref r_seenWeights, .ref r_seenMedians, .int 0, .int 0, .ref r_term, .ref r_delta, .ref r_weights, .ref r_inputs, .ref r_guesses, .ref r_bases, .ref r_keptWeights, .ref r_keptInputs, .ref r_medians, .int 0, .int 0, .long 0, .long 0, .long 0, .ref r_bits, .int 0, .int 0, .int 0, .ref r_sideBits, .int 0, .int 0, .int 0, .int 0, .int 0, .int 0, .ref r_coded, .int 0, .ref r_read, .ref r_lows, .ref r_highs, .ref r_restsTaken, .ref r_isBelow, .ref r_isWritten, .ref r_five])), (r_taped, .inl (E.2.2.1 0, 2, .inl (fun _ => 0))), (r_tapes, .inl (E.2.2.1 1, 12000, .inl (by_p (by_p (fun _ => 0) 6000 a1) 6004 a2)))] 0 0 [(5, .int 6000), (0, .ref m), (1, .int 1), (2, .int a1), (3, .int a2), (4, .int a3)] 60 []
  refine g_aload_n B dX11_feed_60 rfl 1 rfl ?_
  refine g_get B 0 5 fl_X11_19 rfl rfl dX11_feed_61 ?_
  refine g_iload B dX11_feed_64 0 rfl ?_
  refine g_bipush (v := 8) B dX11_feed_66 (by decide) ?_
  refine g_iadd B dX11_feed_68 ?_
  refine g_ri (x' := 6008) (by decide) ?_
  refine g_iload B dX11_feed_69 5 rfl ?_
  refine g_callS (st := []) (As := [.ref r_tapes, .int 6008, .int a3]) (wr := [(m, .inr (11, [.ref r_row, .int 0, .ref r_terms, .ref r_deltas, .int 0, .ref r_tapes, .ref r_taped, .ref r_first, .ref r_second, .int 0, .int 0, .ref r_seen, .ref r_seenWeights, .ref r_seenMedians, .int 0, .int 0, .ref r_term, .ref r_delta, .ref r_weights, .ref r_inputs, .ref r_guesses, .ref r_bases, .ref r_keptWeights, .ref r_keptInputs, .ref r_medians, .int 0, .int 0, .long 0, .long 0, .long 0, .ref r_bits, .int 0, .int 0, .int 0, .ref r_sideBits, .int 0, .int 0, .int 0, .int 0, .int 0, .int 0, .ref r_coded, .int 0, .ref r_read, .ref r_lows, .ref r_highs, .ref r_restsTaken, .ref r_isBelow, .ref r_isWritten, .ref r_five])), (r_taped, .inl (E.2.2.1 0, 2, .inl (fun _ => 0)))]) (nc' := 0) (ns' := 0) B cl_X11_263 w_sm_X11_putInt (ev_X11_putInt E r_tapes 12000 6008 (by_p (by_p (fun _ => 0) 6000 a1) 6004 a2) a3 (by first | assumption | omega | decide) (by first | assumption | omega | decide)) rfl [2] [0, 1] rfl rfl (by decide) (by decide) (by decide) ⟨by decide, by decide⟩ rfl rfl (by decide) (by decide) rfl (Nat.le_of_ble_eq_true rfl) dX11_feed_71 (fun v w hq => ?_)
  obtain ⟨rfl, rfl⟩ := hq
  show G E X 6 [(m, .inr (11, [.ref r_row, .int 0, .ref r_terms, .ref r_deltas, .int 0, .ref r_tapes, .ref r_taped, .ref r_first, .ref r_second, .int 0, .int 0, .ref r_seen, .ref r_seenWeights, .ref r_seenMedians, .int 0, .int 0, .ref r_term, .ref r_delta, .ref r_weights, .ref r_inputs, .ref r_guesses, .ref r_bases, .ref r_keptWeights, .ref r_keptInputs, .ref r_medians, .int 0, .int 0, .long 0, .long 0, .long 0, .ref r_bits, .int 0, .int 0, .int 0, .ref r_sideBits, .int 0, .int 0, .int 0, .int 0, .int 0, .int 0, .ref r_coded, .int 0, .ref r_read, .ref r_lows, .ref r_highs, .ref r_restsTaken, .ref r_isBelow, .ref r_isWritten, .ref r_five])), (r_taped, .inl (E.2.2.1 0, 2, .inl (fun _ => 0))), (r_tapes, .inl (E.2.2.1 1, 12000, .inl (by_p (by_p (by_p (fun _ => 0) 6000 a1) 6004 a2) 6008 a3)))] 0 0 [(5, .int 6000), (0, .ref m), (1, .int 1), (2, .int a1), (3, .int a2), (4, .int a3)] 74 []
  refine g_aload_n B dX11_feed_74 rfl 1 rfl ?_
  refine g_get B 0 6 fl_X11_23 rfl rfl dX11_feed_75 ?_
  refine g_iload_n B dX11_feed_78 rfl 2 rfl ?_
  refine g_dup2_11 B dX11_feed_79 rfl rfl ?_
  refine g_iald B 1 rfl (by unfold vp_in; decide) dX11_feed_80 ?_
  refine g_ri (x' := 0) rfl ?_
  refine g_bipush (v := 12) B dX11_feed_81 (by decide) ?_
  refine g_iadd B dX11_feed_83 ?_
  refine g_ri (x' := 12) (by decide) ?_
  refine g_iast (ws' := [(m, .inr (11, [.ref r_row, .int 0, .ref r_terms, .ref r_deltas, .int 0, .ref r_tapes, .ref r_taped, .ref r_first, .ref r_second, .int 0, .int 0, .ref r_seen, .ref r_seenWeights, .ref r_seenMedians, .int 0, .int 0, .ref r_term, .ref r_delta, .ref r_weights, .ref r_inputs, .ref r_guesses, .ref r_bases, .ref r_keptWeights, .ref r_keptInputs, .ref r_medians, .int 0, .int 0, .long 0, .long 0, .long 0, .ref r_bits, .int 0, .int 0, .int 0, .ref r_sideBits, .int 0, .int 0, .int 0, .int 0, .int 0, .int 0, .ref r_coded, .int 0, .ref r_read, .ref r_lows, .ref r_highs, .ref r_restsTaken, .ref r_isBelow, .ref r_isWritten, .ref r_five])), (r_taped, .inl (E.2.2.1 0, 2, .inl (upd (fun _ => 0) (Int32.toNatClampNeg 1) 12))), (r_tapes, .inl (E.2.2.1 1, 12000, .inl (by_p (by_p (by_p (fun _ => 0) 6000 a1) 6004 a2) 6008 a3)))]) B 1 rfl (by unfold vp_in; decide) rfl dX11_feed_84 ?_
  refine g_aload_n B dX11_feed_85 rfl 1 rfl ?_
  refine g_get B 0 6 fl_X11_23 rfl rfl dX11_feed_86 ?_
  refine g_iload_n B dX11_feed_89 rfl 2 rfl ?_
  refine g_iald B 1 rfl (by unfold vp_in; decide) dX11_feed_90 ?_
  refine g_ri (x' := 12) (by decide) ?_
  exact g_iret B hr dX11_feed_91 (by decide) (by decide) rfl
set_option maxRecDepth 100000 in
set_option maxHeartbeats 4000000 in
theorem ev_X11_end_1 (E : g_E) (m : Nat) (r_row : Nat) (r_terms : Nat) (r_deltas : Nat) (r_tapes : Nat) (r_taped : Nat) (r_first : Nat) (r_second : Nat) (r_seen : Nat) (r_seenWeights : Nat) (r_seenMedians : Nat) (r_term : Nat) (r_delta : Nat) (r_weights : Nat) (r_inputs : Nat) (r_guesses : Nat) (r_bases : Nat) (r_keptWeights : Nat) (r_keptInputs : Nat) (r_medians : Nat) (r_bits : Nat) (r_sideBits : Nat) (r_coded : Nat) (r_read : Nat) (r_lows : Nat) (r_highs : Nat) (r_restsTaken : Nat) (r_isBelow : Nat) (r_isWritten : Nat) (r_five : Nat) (n : Int32)  : Ev E MX11_end 1 20 0 0 [.ref m, .int 1, .int n] [(m, .inr (11, [.ref r_row, .int 0, .ref r_terms, .ref r_deltas, .int 0, .ref r_tapes, .ref r_taped, .ref r_first, .ref r_second, .int 0, .int 0, .ref r_seen, .ref r_seenWeights, .ref r_seenMedians, .int 0, .int 0, .ref r_term, .ref r_delta, .ref r_weights, .ref r_inputs, .ref r_guesses, .ref r_bases, .ref r_keptWeights, .ref r_keptInputs, .ref r_medians, .int 0, .int 0, .long 0, .long 0, .long 0, .ref r_bits, .int 0, .int 0, .int 0, .ref r_sideBits, .int 0, .int 0, .int 0, .int 0, .int 0, .int 0, .ref r_coded, .int 0, .ref r_read, .ref r_lows, .ref r_highs, .ref r_restsTaken, .ref r_isBelow, .ref r_isWritten, .ref r_five])), (r_taped, .inl (E.2.2.1 0, 2, .inl (fun _ => 0)))] (fun v_ w_ => v_ = some (.int (p1_cut n))) := by
  refine Ev.intro (by decide) (Nat.le_of_ble_eq_true rfl) ?_
  intro X B hr hI
  have B : Bd E X cX11_end RX11 3 1 20 0 0 := B
  have hr : Rt E X (some .boolean) 0 0 (fun v_ w_ => v_ = some (.int (p1_cut n))) := hr
  show G E X 3 [(m, .inr (11, [.ref r_row, .int 0, .ref r_terms, .ref r_deltas, .int 0, .ref r_tapes, .ref r_taped, .ref r_first, .ref r_second, .int 0, .int 0, .ref r_seen, .ref r_seenWeights, .ref r_seenMedians, .int 0, .int 0, .ref r_term, .ref r_delta, .ref r_weights, .ref r_inputs, .ref r_guesses, .ref r_bases, .ref r_keptWeights, .ref r_keptInputs, .ref r_medians, .int 0, .int 0, .long 0, .long 0, .long 0, .ref r_bits, .int 0, .int 0, .int 0, .ref r_sideBits, .int 0, .int 0, .int 0, .int 0, .int 0, .int 0, .ref r_coded, .int 0, .ref r_read, .ref r_lows, .ref r_highs, .ref r_restsTaken, .ref r_isBelow, .ref r_isWritten, .ref r_five])), (r_taped, .inl (E.2.2.1 0, 2, .inl (fun _ => 0)))] 0 0 [(0, .ref m), (1, .int 1), (2, .int n)] 0 []
  refine g_iload_n B dX11_end_0 rfl 1 rfl ?_
  refine g_callS (st := []) (As := [.int 1]) (wr := [(m, .inr (11, [.ref r_row, .int 0, .ref r_terms, .ref r_deltas, .int 0, .ref r_tapes, .ref r_taped, .ref r_first, .ref r_second, .int 0, .int 0, .ref r_seen, .ref r_seenWeights, .ref r_seenMedians, .int 0, .int 0, .ref r_term, .ref r_delta, .ref r_weights, .ref r_inputs, .ref r_guesses, .ref r_bases, .ref r_keptWeights, .ref r_keptInputs, .ref r_medians, .int 0, .int 0, .long 0, .long 0, .long 0, .ref r_bits, .int 0, .int 0, .int 0, .ref r_sideBits, .int 0, .int 0, .int 0, .int 0, .int 0, .int 0, .ref r_coded, .int 0, .ref r_read, .ref r_lows, .ref r_highs, .ref r_restsTaken, .ref r_isBelow, .ref r_isWritten, .ref r_five])), (r_taped, .inl (E.2.2.1 0, 2, .inl (fun _ => 0)))]) (nc' := 0) (ns' := 0) B cl_X11_361 w_sm_X11_noWhich (ev_X11_noWhich_1 E ) rfl [] [0, 1] rfl rfl (by decide) (by decide) (by decide) ⟨by decide, by decide⟩ rfl rfl (by decide) (by decide) rfl (Nat.le_of_ble_eq_true rfl) dX11_end_1 (fun v w hq => ?_)
  obtain ⟨rfl, rfl⟩ := hq
  show G E X 3 [(m, .inr (11, [.ref r_row, .int 0, .ref r_terms, .ref r_deltas, .int 0, .ref r_tapes, .ref r_taped, .ref r_first, .ref r_second, .int 0, .int 0, .ref r_seen, .ref r_seenWeights, .ref r_seenMedians, .int 0, .int 0, .ref r_term, .ref r_delta, .ref r_weights, .ref r_inputs, .ref r_guesses, .ref r_bases, .ref r_keptWeights, .ref r_keptInputs, .ref r_medians, .int 0, .int 0, .long 0, .long 0, .long 0, .ref r_bits, .int 0, .int 0, .int 0, .ref r_sideBits, .int 0, .int 0, .int 0, .int 0, .int 0, .int 0, .ref r_coded, .int 0, .ref r_read, .ref r_lows, .ref r_highs, .ref r_restsTaken, .ref r_isBelow, .ref r_isWritten, .ref r_five])), (r_taped, .inl (E.2.2.1 0, 2, .inl (fun _ => 0)))] 0 0 [(0, .ref m), (1, .int 1), (2, .int n)] 4 [.int 0]
  refine g_if_ne (tgt := 21) B dX11_end_4 (by decide) (fun h => absurd (by decide) h) (fun c4 => ?_)
  refine g_iload_n B dX11_end_7 rfl 2 rfl ?_
  refine g_if_lt (tgt := 21) B dX11_end_8 (by decide) (fun c8_185 => ?_) (fun c8_185 => ?_)
  · refine g_iconst (v := 0) B dX11_end_21 (by decide) ?_
    exact g_zret B hr (by decide) dX11_end_22 (by decide) (by decide) (by simp [p1_cut, c8_185])
  · refine g_iload_n B dX11_end_11 rfl 2 rfl ?_
    refine g_aload_n B dX11_end_12 rfl 0 rfl ?_
    refine g_get B 0 6 fl_X11_23 rfl rfl dX11_end_13 ?_
    refine g_iload_n B dX11_end_16 rfl 1 rfl ?_
    refine g_iald B 1 rfl (by unfold vp_in; decide) dX11_end_17 ?_
    refine g_ri (x' := 0) rfl ?_
    refine g_icmp_le (tgt := 23) B dX11_end_18 (by decide) (fun c18_186 => ?_) (fun c18_186 => ?_)
    · refine g_aload_n B dX11_end_23 rfl 0 rfl ?_
      refine g_get B 0 6 fl_X11_23 rfl rfl dX11_end_24 ?_
      refine g_iload_n B dX11_end_27 rfl 1 rfl ?_
      refine g_iload_n B dX11_end_28 rfl 2 rfl ?_
      refine g_iast (ws' := [(m, .inr (11, [.ref r_row, .int 0, .ref r_terms, .ref r_deltas, .int 0, .ref r_tapes, .ref r_taped, .ref r_first, .ref r_second, .int 0, .int 0, .ref r_seen, .ref r_seenWeights, .ref r_seenMedians, .int 0, .int 0, .ref r_term, .ref r_delta, .ref r_weights, .ref r_inputs, .ref r_guesses, .ref r_bases, .ref r_keptWeights, .ref r_keptInputs, .ref r_medians, .int 0, .int 0, .long 0, .long 0, .long 0, .ref r_bits, .int 0, .int 0, .int 0, .ref r_sideBits, .int 0, .int 0, .int 0, .int 0, .int 0, .int 0, .ref r_coded, .int 0, .ref r_read, .ref r_lows, .ref r_highs, .ref r_restsTaken, .ref r_isBelow, .ref r_isWritten, .ref r_five])), (r_taped, .inl (E.2.2.1 0, 2, .inl (upd (fun _ => 0) (Int32.toNatClampNeg 1) n)))]) B 1 rfl (by unfold vp_in; decide) rfl dX11_end_29 ?_
      refine g_iconst (v := 1) B dX11_end_30 (by decide) ?_
      exact g_zret B hr (by decide) dX11_end_31 (by decide) (by decide) (by simp [p1_cut, c8_185, c18_186])
    · refine g_iconst (v := 0) B dX11_end_21 (by decide) ?_
      exact g_zret B hr (by decide) dX11_end_22 (by decide) (by decide) (by simp [p1_cut, c8_185, c18_186])
set_option maxRecDepth 100000 in
set_option maxHeartbeats 4000000 in
theorem ev_X11_harm_1 (E : g_E) (m : Nat) (r_row : Nat) (r_terms : Nat) (r_deltas : Nat) (r_tapes : Nat) (r_taped : Nat) (r_first : Nat) (r_second : Nat) (r_seen : Nat) (r_seenWeights : Nat) (r_seenMedians : Nat) (r_term : Nat) (r_delta : Nat) (r_weights : Nat) (r_inputs : Nat) (r_guesses : Nat) (r_bases : Nat) (r_keptWeights : Nat) (r_keptInputs : Nat) (r_medians : Nat) (r_bits : Nat) (r_sideBits : Nat) (r_coded : Nat) (r_read : Nat) (r_lows : Nat) (r_highs : Nat) (r_restsTaken : Nat) (r_isBelow : Nat) (r_isWritten : Nat) (r_five : Nat) (i : Int32) (b : Int32)  : Ev E MX11_harm 1 20 0 0 [.ref m, .int 1, .int i, .int b] [(m, .inr (11, [.ref r_row, .int 0, .ref r_terms, .ref r_deltas, .int 0, .ref r_tapes, .ref r_taped, .ref r_first, .ref r_second, .int 0, .int 0, .ref r_seen, .ref r_seenWeights, .ref r_seenMedians, .int 0, .int 0, .ref r_term, .ref r_delta, .ref r_weights, .ref r_inputs, .ref r_guesses, .ref r_bases, .ref r_keptWeights, .ref r_keptInputs, .ref r_medians, .int 0, .int 0, .long 0, .long 0, .long 0, .ref r_bits, .int 0, .int 0, .int 0, .ref r_sideBits, .int 0, .int 0, .int 0, .int 0, .int 0, .int 0, .ref r_coded, .int 0, .ref r_read, .ref r_lows, .ref r_highs, .ref r_restsTaken, .ref r_isBelow, .ref r_isWritten, .ref r_five])), (r_taped, .inl (E.2.2.1 0, 2, .inl (fun _ => 0)))] (fun v_ w_ => v_ = some (.int 0)) := by
  refine Ev.intro (by decide) (Nat.le_of_ble_eq_true rfl) ?_
  intro X B hr hI
  have B : Bd E X cX11_harm RX11 4 1 20 0 0 := B
  have hr : Rt E X (some .boolean) 0 0 (fun v_ w_ => v_ = some (.int 0)) := hr
  show G E X 4 [(m, .inr (11, [.ref r_row, .int 0, .ref r_terms, .ref r_deltas, .int 0, .ref r_tapes, .ref r_taped, .ref r_first, .ref r_second, .int 0, .int 0, .ref r_seen, .ref r_seenWeights, .ref r_seenMedians, .int 0, .int 0, .ref r_term, .ref r_delta, .ref r_weights, .ref r_inputs, .ref r_guesses, .ref r_bases, .ref r_keptWeights, .ref r_keptInputs, .ref r_medians, .int 0, .int 0, .long 0, .long 0, .long 0, .ref r_bits, .int 0, .int 0, .int 0, .ref r_sideBits, .int 0, .int 0, .int 0, .int 0, .int 0, .int 0, .ref r_coded, .int 0, .ref r_read, .ref r_lows, .ref r_highs, .ref r_restsTaken, .ref r_isBelow, .ref r_isWritten, .ref r_five])), (r_taped, .inl (E.2.2.1 0, 2, .inl (fun _ => 0)))] 0 0 [(0, .ref m), (1, .int 1), (2, .int i), (3, .int b)] 0 []
  refine g_iload_n B dX11_harm_0 rfl 1 rfl ?_
  refine g_callS (st := []) (As := [.int 1]) (wr := [(m, .inr (11, [.ref r_row, .int 0, .ref r_terms, .ref r_deltas, .int 0, .ref r_tapes, .ref r_taped, .ref r_first, .ref r_second, .int 0, .int 0, .ref r_seen, .ref r_seenWeights, .ref r_seenMedians, .int 0, .int 0, .ref r_term, .ref r_delta, .ref r_weights, .ref r_inputs, .ref r_guesses, .ref r_bases, .ref r_keptWeights, .ref r_keptInputs, .ref r_medians, .int 0, .int 0, .long 0, .long 0, .long 0, .ref r_bits, .int 0, .int 0, .int 0, .ref r_sideBits, .int 0, .int 0, .int 0, .int 0, .int 0, .int 0, .ref r_coded, .int 0, .ref r_read, .ref r_lows, .ref r_highs, .ref r_restsTaken, .ref r_isBelow, .ref r_isWritten, .ref r_five])), (r_taped, .inl (E.2.2.1 0, 2, .inl (fun _ => 0)))]) (nc' := 0) (ns' := 0) B cl_X11_361 w_sm_X11_noWhich (ev_X11_noWhich_1 E ) rfl [] [0, 1] rfl rfl (by decide) (by decide) (by decide) ⟨by decide, by decide⟩ rfl rfl (by decide) (by decide) rfl (Nat.le_of_ble_eq_true rfl) dX11_harm_1 (fun v w hq => ?_)
  obtain ⟨rfl, rfl⟩ := hq
  show G E X 4 [(m, .inr (11, [.ref r_row, .int 0, .ref r_terms, .ref r_deltas, .int 0, .ref r_tapes, .ref r_taped, .ref r_first, .ref r_second, .int 0, .int 0, .ref r_seen, .ref r_seenWeights, .ref r_seenMedians, .int 0, .int 0, .ref r_term, .ref r_delta, .ref r_weights, .ref r_inputs, .ref r_guesses, .ref r_bases, .ref r_keptWeights, .ref r_keptInputs, .ref r_medians, .int 0, .int 0, .long 0, .long 0, .long 0, .ref r_bits, .int 0, .int 0, .int 0, .ref r_sideBits, .int 0, .int 0, .int 0, .int 0, .int 0, .int 0, .ref r_coded, .int 0, .ref r_read, .ref r_lows, .ref r_highs, .ref r_restsTaken, .ref r_isBelow, .ref r_isWritten, .ref r_five])), (r_taped, .inl (E.2.2.1 0, 2, .inl (fun _ => 0)))] 0 0 [(0, .ref m), (1, .int 1), (2, .int i), (3, .int b)] 4 [.int 0]
  refine g_if_ne (tgt := 21) B dX11_harm_4 (by decide) (fun h => absurd (by decide) h) (fun c4 => ?_)
  refine g_iload_n B dX11_harm_7 rfl 2 rfl ?_
  refine g_if_lt (tgt := 21) B dX11_harm_8 (by decide) (fun c8_187 => ?_) (fun c8_187 => ?_)
  · refine g_iconst (v := 0) B dX11_harm_21 (by decide) ?_
    exact g_zret B hr (by decide) dX11_harm_22 (by decide) (by decide) rfl
  · refine g_iload_n B dX11_harm_11 rfl 2 rfl ?_
    refine g_aload_n B dX11_harm_12 rfl 0 rfl ?_
    refine g_get B 0 6 fl_X11_23 rfl rfl dX11_harm_13 ?_
    refine g_iload_n B dX11_harm_16 rfl 1 rfl ?_
    refine g_iald B 1 rfl (by unfold vp_in; decide) dX11_harm_17 ?_
    refine g_ri (x' := 0) rfl ?_
    refine g_icmp_lt (tgt := 23) B dX11_harm_18 (by decide) (fun h => absurd h c8_187) (fun c18 => ?_)
    refine g_iconst (v := 0) B dX11_harm_21 (by decide) ?_
    exact g_zret B hr (by decide) dX11_harm_22 (by decide) (by decide) rfl
set_option maxRecDepth 100000 in
set_option maxHeartbeats 4000000 in
theorem ev_X11_seal_1 (E : g_E) (m : Nat) (r_row : Nat) (r_terms : Nat) (r_deltas : Nat) (r_tapes : Nat) (r_taped : Nat) (r_first : Nat) (r_second : Nat) (r_seen : Nat) (r_seenWeights : Nat) (r_seenMedians : Nat) (r_term : Nat) (r_delta : Nat) (r_weights : Nat) (r_inputs : Nat) (r_guesses : Nat) (r_bases : Nat) (r_keptWeights : Nat) (r_keptInputs : Nat) (r_medians : Nat) (r_bits : Nat) (r_sideBits : Nat) (r_coded : Nat) (r_read : Nat) (r_lows : Nat) (r_highs : Nat) (r_restsTaken : Nat) (r_isBelow : Nat) (r_isWritten : Nat) (r_five : Nat)  : Ev E MX11_seal 1 25 0 0 [.ref m, .int 1] [(m, .inr (11, [.ref r_row, .int 0, .ref r_terms, .ref r_deltas, .int 0, .ref r_tapes, .ref r_taped, .ref r_first, .ref r_second, .int 0, .int 0, .ref r_seen, .ref r_seenWeights, .ref r_seenMedians, .int 0, .int 0, .ref r_term, .ref r_delta, .ref r_weights, .ref r_inputs, .ref r_guesses, .ref r_bases, .ref r_keptWeights, .ref r_keptInputs, .ref r_medians, .int 0, .int 0, .long 0, .long 0, .long 0, .ref r_bits, .int 0, .int 0, .int 0, .ref r_sideBits, .int 0, .int 0, .int 0, .int 0, .int 0, .int 0, .ref r_coded, .int 0, .ref r_read, .ref r_lows, .ref r_highs, .ref r_restsTaken, .ref r_isBelow, .ref r_isWritten, .ref r_five])), (r_taped, .inl (E.2.2.1 0, 2, .inl (fun _ => 0)))] (fun v_ w_ => v_ = some (.int 0)) := by
  refine Ev.intro (by decide) (Nat.le_of_ble_eq_true rfl) ?_
  intro X B hr hI
  have B : Bd E X cX11_seal RX11 3 1 25 0 0 := B
  have hr : Rt E X (some .boolean) 0 0 (fun v_ w_ => v_ = some (.int 0)) := hr
  show G E X 3 [(m, .inr (11, [.ref r_row, .int 0, .ref r_terms, .ref r_deltas, .int 0, .ref r_tapes, .ref r_taped, .ref r_first, .ref r_second, .int 0, .int 0, .ref r_seen, .ref r_seenWeights, .ref r_seenMedians, .int 0, .int 0, .ref r_term, .ref r_delta, .ref r_weights, .ref r_inputs, .ref r_guesses, .ref r_bases, .ref r_keptWeights, .ref r_keptInputs, .ref r_medians, .int 0, .int 0, .long 0, .long 0, .long 0, .ref r_bits, .int 0, .int 0, .int 0, .ref r_sideBits, .int 0, .int 0, .int 0, .int 0, .int 0, .int 0, .ref r_coded, .int 0, .ref r_read, .ref r_lows, .ref r_highs, .ref r_restsTaken, .ref r_isBelow, .ref r_isWritten, .ref r_five])), (r_taped, .inl (E.2.2.1 0, 2, .inl (fun _ => 0)))] 0 0 [(0, .ref m), (1, .int 1)] 0 []
  refine g_iload_n B dX11_seal_0 rfl 1 rfl ?_
  refine g_callS (st := []) (As := [.int 1]) (wr := [(m, .inr (11, [.ref r_row, .int 0, .ref r_terms, .ref r_deltas, .int 0, .ref r_tapes, .ref r_taped, .ref r_first, .ref r_second, .int 0, .int 0, .ref r_seen, .ref r_seenWeights, .ref r_seenMedians, .int 0, .int 0, .ref r_term, .ref r_delta, .ref r_weights, .ref r_inputs, .ref r_guesses, .ref r_bases, .ref r_keptWeights, .ref r_keptInputs, .ref r_medians, .int 0, .int 0, .long 0, .long 0, .long 0, .ref r_bits, .int 0, .int 0, .int 0, .ref r_sideBits, .int 0, .int 0, .int 0, .int 0, .int 0, .int 0, .ref r_coded, .int 0, .ref r_read, .ref r_lows, .ref r_highs, .ref r_restsTaken, .ref r_isBelow, .ref r_isWritten, .ref r_five])), (r_taped, .inl (E.2.2.1 0, 2, .inl (fun _ => 0)))]) (nc' := 0) (ns' := 0) B cl_X11_361 w_sm_X11_noWhich (ev_X11_noWhich_1 E ) rfl [] [0, 1] rfl rfl (by decide) (by decide) (by decide) ⟨by decide, by decide⟩ rfl rfl (by decide) (by decide) rfl (Nat.le_of_ble_eq_true rfl) dX11_seal_1 (fun v w hq => ?_)
  obtain ⟨rfl, rfl⟩ := hq
  show G E X 3 [(m, .inr (11, [.ref r_row, .int 0, .ref r_terms, .ref r_deltas, .int 0, .ref r_tapes, .ref r_taped, .ref r_first, .ref r_second, .int 0, .int 0, .ref r_seen, .ref r_seenWeights, .ref r_seenMedians, .int 0, .int 0, .ref r_term, .ref r_delta, .ref r_weights, .ref r_inputs, .ref r_guesses, .ref r_bases, .ref r_keptWeights, .ref r_keptInputs, .ref r_medians, .int 0, .int 0, .long 0, .long 0, .long 0, .ref r_bits, .int 0, .int 0, .int 0, .ref r_sideBits, .int 0, .int 0, .int 0, .int 0, .int 0, .int 0, .ref r_coded, .int 0, .ref r_read, .ref r_lows, .ref r_highs, .ref r_restsTaken, .ref r_isBelow, .ref r_isWritten, .ref r_five])), (r_taped, .inl (E.2.2.1 0, 2, .inl (fun _ => 0)))] 0 0 [(0, .ref m), (1, .int 1)] 4 [.int 0]
  refine g_if_ne (tgt := 17) B dX11_seal_4 (by decide) (fun h => absurd (by decide) h) (fun c4 => ?_)
  refine g_aload_n B dX11_seal_7 rfl 0 rfl ?_
  refine g_get B 0 6 fl_X11_23 rfl rfl dX11_seal_8 ?_
  refine g_iload_n B dX11_seal_11 rfl 1 rfl ?_
  refine g_iald B 1 rfl (by unfold vp_in; decide) dX11_seal_12 ?_
  refine g_ri (x' := 0) rfl ?_
  refine g_iconst (v := 5) B dX11_seal_13 (by decide) ?_
  refine g_icmp_ge (tgt := 19) B dX11_seal_14 (by decide) (fun h => absurd h (by decide)) (fun c14 => ?_)
  refine g_iconst (v := 0) B dX11_seal_17 (by decide) ?_
  exact g_zret B hr (by decide) dX11_seal_18 (by decide) (by decide) rfl
set_option maxRecDepth 100000 in
set_option maxHeartbeats 4000000 in
theorem ev_X11_take_1 (E : g_E) (m : Nat) (r_row : Nat) (r_terms : Nat) (r_deltas : Nat) (r_tapes : Nat) (r_taped : Nat) (r_first : Nat) (r_second : Nat) (r_seen : Nat) (r_seenWeights : Nat) (r_seenMedians : Nat) (r_term : Nat) (r_delta : Nat) (r_weights : Nat) (r_inputs : Nat) (r_guesses : Nat) (r_bases : Nat) (r_keptWeights : Nat) (r_keptInputs : Nat) (r_medians : Nat) (r_bits : Nat) (r_sideBits : Nat) (r_coded : Nat) (r_read : Nat) (r_lows : Nat) (r_highs : Nat) (r_restsTaken : Nat) (r_isBelow : Nat) (r_isWritten : Nat) (r_five : Nat)  : Ev E MX11_take 1 21 0 0 [.ref m, .int 1] [(m, .inr (11, [.ref r_row, .int 0, .ref r_terms, .ref r_deltas, .int 0, .ref r_tapes, .ref r_taped, .ref r_first, .ref r_second, .int 0, .int 0, .ref r_seen, .ref r_seenWeights, .ref r_seenMedians, .int 0, .int 0, .ref r_term, .ref r_delta, .ref r_weights, .ref r_inputs, .ref r_guesses, .ref r_bases, .ref r_keptWeights, .ref r_keptInputs, .ref r_medians, .int 0, .int 0, .long 0, .long 0, .long 0, .ref r_bits, .int 0, .int 0, .int 0, .ref r_sideBits, .int 0, .int 0, .int 0, .int 0, .int 0, .int 0, .ref r_coded, .int 0, .ref r_read, .ref r_lows, .ref r_highs, .ref r_restsTaken, .ref r_isBelow, .ref r_isWritten, .ref r_five])), (r_taped, .inl (E.2.2.1 0, 2, .inl (fun _ => 0)))] (fun v_ w_ => v_ = some (.int 0)) := by
  refine Ev.intro (by decide) (Nat.le_of_ble_eq_true rfl) ?_
  intro X B hr hI
  have B : Bd E X cX11_take RX11 3 1 21 0 0 := B
  have hr : Rt E X (some .int) 0 0 (fun v_ w_ => v_ = some (.int 0)) := hr
  show G E X 3 [(m, .inr (11, [.ref r_row, .int 0, .ref r_terms, .ref r_deltas, .int 0, .ref r_tapes, .ref r_taped, .ref r_first, .ref r_second, .int 0, .int 0, .ref r_seen, .ref r_seenWeights, .ref r_seenMedians, .int 0, .int 0, .ref r_term, .ref r_delta, .ref r_weights, .ref r_inputs, .ref r_guesses, .ref r_bases, .ref r_keptWeights, .ref r_keptInputs, .ref r_medians, .int 0, .int 0, .long 0, .long 0, .long 0, .ref r_bits, .int 0, .int 0, .int 0, .ref r_sideBits, .int 0, .int 0, .int 0, .int 0, .int 0, .int 0, .ref r_coded, .int 0, .ref r_read, .ref r_lows, .ref r_highs, .ref r_restsTaken, .ref r_isBelow, .ref r_isWritten, .ref r_five])), (r_taped, .inl (E.2.2.1 0, 2, .inl (fun _ => 0)))] 0 0 [(0, .ref m), (1, .int 1)] 0 []
  refine g_iload_n B dX11_take_0 rfl 1 rfl ?_
  refine g_callS (st := []) (As := [.int 1]) (wr := [(m, .inr (11, [.ref r_row, .int 0, .ref r_terms, .ref r_deltas, .int 0, .ref r_tapes, .ref r_taped, .ref r_first, .ref r_second, .int 0, .int 0, .ref r_seen, .ref r_seenWeights, .ref r_seenMedians, .int 0, .int 0, .ref r_term, .ref r_delta, .ref r_weights, .ref r_inputs, .ref r_guesses, .ref r_bases, .ref r_keptWeights, .ref r_keptInputs, .ref r_medians, .int 0, .int 0, .long 0, .long 0, .long 0, .ref r_bits, .int 0, .int 0, .int 0, .ref r_sideBits, .int 0, .int 0, .int 0, .int 0, .int 0, .int 0, .ref r_coded, .int 0, .ref r_read, .ref r_lows, .ref r_highs, .ref r_restsTaken, .ref r_isBelow, .ref r_isWritten, .ref r_five])), (r_taped, .inl (E.2.2.1 0, 2, .inl (fun _ => 0)))]) (nc' := 0) (ns' := 0) B cl_X11_361 w_sm_X11_noWhich (ev_X11_noWhich_1 E ) rfl [] [0, 1] rfl rfl (by decide) (by decide) (by decide) ⟨by decide, by decide⟩ rfl rfl (by decide) (by decide) rfl (Nat.le_of_ble_eq_true rfl) dX11_take_1 (fun v w hq => ?_)
  obtain ⟨rfl, rfl⟩ := hq
  show G E X 3 [(m, .inr (11, [.ref r_row, .int 0, .ref r_terms, .ref r_deltas, .int 0, .ref r_tapes, .ref r_taped, .ref r_first, .ref r_second, .int 0, .int 0, .ref r_seen, .ref r_seenWeights, .ref r_seenMedians, .int 0, .int 0, .ref r_term, .ref r_delta, .ref r_weights, .ref r_inputs, .ref r_guesses, .ref r_bases, .ref r_keptWeights, .ref r_keptInputs, .ref r_medians, .int 0, .int 0, .long 0, .long 0, .long 0, .ref r_bits, .int 0, .int 0, .int 0, .ref r_sideBits, .int 0, .int 0, .int 0, .int 0, .int 0, .int 0, .ref r_coded, .int 0, .ref r_read, .ref r_lows, .ref r_highs, .ref r_restsTaken, .ref r_isBelow, .ref r_isWritten, .ref r_five])), (r_taped, .inl (E.2.2.1 0, 2, .inl (fun _ => 0)))] 0 0 [(0, .ref m), (1, .int 1)] 4 [.int 0]
  refine g_if_ne (tgt := 18) B dX11_take_4 (by decide) (fun h => absurd (by decide) h) (fun c4 => ?_)
  refine g_aload_n B dX11_take_7 rfl 0 rfl ?_
  refine g_iload_n B dX11_take_8 rfl 1 rfl ?_
  refine g_callV (st := []) (As := [.int 1]) (wr := [(r_taped, .inl (E.2.2.1 0, 2, .inl (fun _ => 0)))]) (nc' := 0) (ns' := 0) B cl_X11_364 w_im_X11_size w_se_X11_size (ev_X11_size_1 E m r_row r_terms r_deltas r_tapes r_taped r_first r_second r_seen r_seenWeights r_seenMedians r_term r_delta r_weights r_inputs r_guesses r_bases r_keptWeights r_keptInputs r_medians r_bits r_sideBits r_coded r_read r_lows r_highs r_restsTaken r_isBelow r_isWritten r_five ) rfl [0] [1] rfl rfl (by decide) (by decide) (by decide) 0 rfl (fun q h => by cases h; rfl) rfl ⟨by decide, by decide⟩ rfl rfl (by decide) (by decide) rfl (Nat.le_of_ble_eq_true rfl) dX11_take_9 (fun v w hq => ?_)
  obtain ⟨rfl, rfl⟩ := hq
  show G E X 3 [(r_taped, .inl (E.2.2.1 0, 2, .inl (fun _ => 0))), (m, .inr (11, [.ref r_row, .int 0, .ref r_terms, .ref r_deltas, .int 0, .ref r_tapes, .ref r_taped, .ref r_first, .ref r_second, .int 0, .int 0, .ref r_seen, .ref r_seenWeights, .ref r_seenMedians, .int 0, .int 0, .ref r_term, .ref r_delta, .ref r_weights, .ref r_inputs, .ref r_guesses, .ref r_bases, .ref r_keptWeights, .ref r_keptInputs, .ref r_medians, .int 0, .int 0, .long 0, .long 0, .long 0, .ref r_bits, .int 0, .int 0, .int 0, .ref r_sideBits, .int 0, .int 0, .int 0, .int 0, .int 0, .int 0, .ref r_coded, .int 0, .ref r_read, .ref r_lows, .ref r_highs, .ref r_restsTaken, .ref r_isBelow, .ref r_isWritten, .ref r_five]))] 0 0 [(0, .ref m), (1, .int 1)] 12 [.int 0]
  refine g_sipush (v := 6000) B dX11_take_12 (by decide) ?_
  refine g_icmp_le (tgt := 20) B dX11_take_15 (by decide) (fun c15 => ?_) (fun h => absurd (by decide) h)
  refine g_iconst (v := 0) B dX11_take_20 (by decide) ?_
  refine g_istore_n (lv' := [(2, .int 0), (0, .ref m), (1, .int 1)]) B dX11_take_21 rfl (by decide) rfl ?_
  refine g_iload_n B dX11_take_22 rfl 0 rfl ?_
  refine g_aload_n B dX11_take_23 rfl 1 rfl ?_
  refine g_iload_n B dX11_take_24 rfl 2 rfl ?_
  refine g_callV (st := [.int 0]) (As := [.int 1]) (wr := [(r_taped, .inl (E.2.2.1 0, 2, .inl (fun _ => 0)))]) (nc' := 0) (ns' := 0) B cl_X11_364 w_im_X11_size w_se_X11_size (ev_X11_size_1 E m r_row r_terms r_deltas r_tapes r_taped r_first r_second r_seen r_seenWeights r_seenMedians r_term r_delta r_weights r_inputs r_guesses r_bases r_keptWeights r_keptInputs r_medians r_bits r_sideBits r_coded r_read r_lows r_highs r_restsTaken r_isBelow r_isWritten r_five ) rfl [1] [0] rfl rfl (by decide) (by decide) (by decide) 0 rfl (fun q h => by cases h; rfl) rfl ⟨by decide, by decide⟩ rfl rfl (by decide) (by decide) rfl (Nat.le_of_ble_eq_true rfl) dX11_take_25 (fun v w hq => ?_)
  obtain ⟨rfl, rfl⟩ := hq
  show G E X 3 [(r_taped, .inl (E.2.2.1 0, 2, .inl (fun _ => 0))), (m, .inr (11, [.ref r_row, .int 0, .ref r_terms, .ref r_deltas, .int 0, .ref r_tapes, .ref r_taped, .ref r_first, .ref r_second, .int 0, .int 0, .ref r_seen, .ref r_seenWeights, .ref r_seenMedians, .int 0, .int 0, .ref r_term, .ref r_delta, .ref r_weights, .ref r_inputs, .ref r_guesses, .ref r_bases, .ref r_keptWeights, .ref r_keptInputs, .ref r_medians, .int 0, .int 0, .long 0, .long 0, .long 0, .ref r_bits, .int 0, .int 0, .int 0, .ref r_sideBits, .int 0, .int 0, .int 0, .int 0, .int 0, .int 0, .ref r_coded, .int 0, .ref r_read, .ref r_lows, .ref r_highs, .ref r_restsTaken, .ref r_isBelow, .ref r_isWritten, .ref r_five]))] 0 0 [(2, .int 0), (0, .ref m), (1, .int 1)] 28 [.int 0, .int 0]
  refine g_icmp_ge (tgt := 68) B dX11_take_28 (by decide) (fun c28 => ?_) (fun h => absurd (by decide) h)
  refine g_aload_n B dX11_take_68 rfl 1 rfl ?_
  refine g_get B 1 6 fl_X11_23 rfl rfl dX11_take_69 ?_
  refine g_iload_n B dX11_take_72 rfl 2 rfl ?_
  refine g_aload_n B dX11_take_73 rfl 1 rfl ?_
  refine g_iload_n B dX11_take_74 rfl 2 rfl ?_
  refine g_callV (st := [.int 1, .ref r_taped]) (As := [.int 1]) (wr := [(r_taped, .inl (E.2.2.1 0, 2, .inl (fun _ => 0)))]) (nc' := 0) (ns' := 0) B cl_X11_364 w_im_X11_size w_se_X11_size (ev_X11_size_1 E m r_row r_terms r_deltas r_tapes r_taped r_first r_second r_seen r_seenWeights r_seenMedians r_term r_delta r_weights r_inputs r_guesses r_bases r_keptWeights r_keptInputs r_medians r_bits r_sideBits r_coded r_read r_lows r_highs r_restsTaken r_isBelow r_isWritten r_five ) rfl [1] [0] rfl rfl (by decide) (by decide) (by decide) 0 rfl (fun q h => by cases h; rfl) rfl ⟨by decide, by decide⟩ rfl rfl (by decide) (by decide) rfl (Nat.le_of_ble_eq_true rfl) dX11_take_75 (fun v w hq => ?_)
  obtain ⟨rfl, rfl⟩ := hq
  show G E X 3 [(r_taped, .inl (E.2.2.1 0, 2, .inl (fun _ => 0))), (m, .inr (11, [.ref r_row, .int 0, .ref r_terms, .ref r_deltas, .int 0, .ref r_tapes, .ref r_taped, .ref r_first, .ref r_second, .int 0, .int 0, .ref r_seen, .ref r_seenWeights, .ref r_seenMedians, .int 0, .int 0, .ref r_term, .ref r_delta, .ref r_weights, .ref r_inputs, .ref r_guesses, .ref r_bases, .ref r_keptWeights, .ref r_keptInputs, .ref r_medians, .int 0, .int 0, .long 0, .long 0, .long 0, .ref r_bits, .int 0, .int 0, .int 0, .ref r_sideBits, .int 0, .int 0, .int 0, .int 0, .int 0, .int 0, .ref r_coded, .int 0, .ref r_read, .ref r_lows, .ref r_highs, .ref r_restsTaken, .ref r_isBelow, .ref r_isWritten, .ref r_five]))] 0 0 [(2, .int 0), (0, .ref m), (1, .int 1)] 78 [.int 0, .int 1, .ref r_taped]
  refine g_iast (ws' := [(r_taped, .inl (E.2.2.1 0, 2, .inl (upd (fun _ => 0) (Int32.toNatClampNeg 1) 0))), (m, .inr (11, [.ref r_row, .int 0, .ref r_terms, .ref r_deltas, .int 0, .ref r_tapes, .ref r_taped, .ref r_first, .ref r_second, .int 0, .int 0, .ref r_seen, .ref r_seenWeights, .ref r_seenMedians, .int 0, .int 0, .ref r_term, .ref r_delta, .ref r_weights, .ref r_inputs, .ref r_guesses, .ref r_bases, .ref r_keptWeights, .ref r_keptInputs, .ref r_medians, .int 0, .int 0, .long 0, .long 0, .long 0, .ref r_bits, .int 0, .int 0, .int 0, .ref r_sideBits, .int 0, .int 0, .int 0, .int 0, .int 0, .int 0, .ref r_coded, .int 0, .ref r_read, .ref r_lows, .ref r_highs, .ref r_restsTaken, .ref r_isBelow, .ref r_isWritten, .ref r_five]))]) B 0 rfl (by unfold vp_in; decide) rfl dX11_take_78 ?_
  refine g_aload_n B dX11_take_79 rfl 1 rfl ?_
  refine g_get B 1 6 fl_X11_23 rfl rfl dX11_take_80 ?_
  refine g_iload_n B dX11_take_83 rfl 2 rfl ?_
  refine g_iald B 0 rfl (by unfold vp_in; decide) dX11_take_84 ?_
  refine g_ri (x' := 0) (by decide) ?_
  exact g_iret B hr dX11_take_85 (by decide) (by decide) rfl
set_option maxRecDepth 100000 in
set_option maxHeartbeats 4000000 in
theorem ev_X11_out_n (E : g_E) (m : Nat) (r_row : Nat) (r_terms : Nat) (r_deltas : Nat) (r_tapes : Nat) (r_taped : Nat) (r_first : Nat) (r_second : Nat) (r_seen : Nat) (r_seenWeights : Nat) (r_seenMedians : Nat) (r_term : Nat) (r_delta : Nat) (r_weights : Nat) (r_inputs : Nat) (r_guesses : Nat) (r_bases : Nat) (r_keptWeights : Nat) (r_keptInputs : Nat) (r_medians : Nat) (r_bits : Nat) (r_sideBits : Nat) (r_coded : Nat) (r_read : Nat) (r_lows : Nat) (r_highs : Nat) (r_restsTaken : Nat) (r_isBelow : Nat) (r_isWritten : Nat) (r_five : Nat) (wh : Int32) (i : Int32) (h0 : ¬ wh = 0) (h1 : ¬ wh = 1) : Ev E MX11_out 1 21 0 0 [.ref m, .int wh, .int i] [(m, .inr (11, [.ref r_row, .int 0, .ref r_terms, .ref r_deltas, .int 0, .ref r_tapes, .ref r_taped, .ref r_first, .ref r_second, .int 0, .int 0, .ref r_seen, .ref r_seenWeights, .ref r_seenMedians, .int 0, .int 0, .ref r_term, .ref r_delta, .ref r_weights, .ref r_inputs, .ref r_guesses, .ref r_bases, .ref r_keptWeights, .ref r_keptInputs, .ref r_medians, .int 0, .int 0, .long 0, .long 0, .long 0, .ref r_bits, .int 0, .int 0, .int 0, .ref r_sideBits, .int 0, .int 0, .int 0, .int 0, .int 0, .int 0, .ref r_coded, .int 0, .ref r_read, .ref r_lows, .ref r_highs, .ref r_restsTaken, .ref r_isBelow, .ref r_isWritten, .ref r_five]))] (fun v_ w_ => v_ = some (.int (-1))) := by
  refine Ev.intro (by decide) (Nat.le_of_ble_eq_true rfl) ?_
  intro X B hr hI
  have B : Bd E X cX11_out RX11 3 1 21 0 0 := B
  have hr : Rt E X (some .int) 0 0 (fun v_ w_ => v_ = some (.int (-1))) := hr
  show G E X 3 [(m, .inr (11, [.ref r_row, .int 0, .ref r_terms, .ref r_deltas, .int 0, .ref r_tapes, .ref r_taped, .ref r_first, .ref r_second, .int 0, .int 0, .ref r_seen, .ref r_seenWeights, .ref r_seenMedians, .int 0, .int 0, .ref r_term, .ref r_delta, .ref r_weights, .ref r_inputs, .ref r_guesses, .ref r_bases, .ref r_keptWeights, .ref r_keptInputs, .ref r_medians, .int 0, .int 0, .long 0, .long 0, .long 0, .ref r_bits, .int 0, .int 0, .int 0, .ref r_sideBits, .int 0, .int 0, .int 0, .int 0, .int 0, .int 0, .ref r_coded, .int 0, .ref r_read, .ref r_lows, .ref r_highs, .ref r_restsTaken, .ref r_isBelow, .ref r_isWritten, .ref r_five]))] 0 0 [(0, .ref m), (1, .int wh), (2, .int i)] 0 []
  refine g_iload_n B dX11_out_0 rfl 1 rfl ?_
  refine g_callS (st := []) (As := [.int wh]) (wr := [(m, .inr (11, [.ref r_row, .int 0, .ref r_terms, .ref r_deltas, .int 0, .ref r_tapes, .ref r_taped, .ref r_first, .ref r_second, .int 0, .int 0, .ref r_seen, .ref r_seenWeights, .ref r_seenMedians, .int 0, .int 0, .ref r_term, .ref r_delta, .ref r_weights, .ref r_inputs, .ref r_guesses, .ref r_bases, .ref r_keptWeights, .ref r_keptInputs, .ref r_medians, .int 0, .int 0, .long 0, .long 0, .long 0, .ref r_bits, .int 0, .int 0, .int 0, .ref r_sideBits, .int 0, .int 0, .int 0, .int 0, .int 0, .int 0, .ref r_coded, .int 0, .ref r_read, .ref r_lows, .ref r_highs, .ref r_restsTaken, .ref r_isBelow, .ref r_isWritten, .ref r_five]))]) (nc' := 0) (ns' := 0) B cl_X11_361 w_sm_X11_noWhich (ev_X11_noWhich_n E wh (by first | assumption | omega | decide) (by first | assumption | omega | decide)) rfl [] [0] rfl rfl (by decide) (by decide) (by decide) ⟨by decide, by decide⟩ rfl rfl (by decide) (by decide) rfl (Nat.le_of_ble_eq_true rfl) dX11_out_1 (fun v w hq => ?_)
  obtain ⟨rfl, rfl⟩ := hq
  show G E X 3 [(m, .inr (11, [.ref r_row, .int 0, .ref r_terms, .ref r_deltas, .int 0, .ref r_tapes, .ref r_taped, .ref r_first, .ref r_second, .int 0, .int 0, .ref r_seen, .ref r_seenWeights, .ref r_seenMedians, .int 0, .int 0, .ref r_term, .ref r_delta, .ref r_weights, .ref r_inputs, .ref r_guesses, .ref r_bases, .ref r_keptWeights, .ref r_keptInputs, .ref r_medians, .int 0, .int 0, .long 0, .long 0, .long 0, .ref r_bits, .int 0, .int 0, .int 0, .ref r_sideBits, .int 0, .int 0, .int 0, .int 0, .int 0, .int 0, .ref r_coded, .int 0, .ref r_read, .ref r_lows, .ref r_highs, .ref r_restsTaken, .ref r_isBelow, .ref r_isWritten, .ref r_five]))] 0 0 [(0, .ref m), (1, .int wh), (2, .int i)] 4 [.int 1]
  refine g_if_ne (tgt := 20) B dX11_out_4 (by decide) (fun c4 => ?_) (fun h => absurd h (by decide))
  refine g_iconst (v := (-1)) B dX11_out_20 (by decide) ?_
  exact g_iret B hr dX11_out_21 (by decide) (by decide) rfl
theorem dX11_feed_22 : decode cX11_feed 22 = .ok (.iconst (-1), 1) := by decide +kernel
theorem dX11_feed_23 : decode cX11_feed 23 = .ok (.ireturn, 1) := by decide +kernel
set_option maxRecDepth 100000 in
set_option maxHeartbeats 4000000 in
theorem ev_X11_feed_n (E : g_E) (m : Nat) (r_row : Nat) (r_terms : Nat) (r_deltas : Nat) (r_tapes : Nat) (r_taped : Nat) (r_first : Nat) (r_second : Nat) (r_seen : Nat) (r_seenWeights : Nat) (r_seenMedians : Nat) (r_term : Nat) (r_delta : Nat) (r_weights : Nat) (r_inputs : Nat) (r_guesses : Nat) (r_bases : Nat) (r_keptWeights : Nat) (r_keptInputs : Nat) (r_medians : Nat) (r_bits : Nat) (r_sideBits : Nat) (r_coded : Nat) (r_read : Nat) (r_lows : Nat) (r_highs : Nat) (r_restsTaken : Nat) (r_isBelow : Nat) (r_isWritten : Nat) (r_five : Nat) (wh : Int32) (a1 : Int32) (a2 : Int32) (a3 : Int32) (h0 : ¬ wh = 0) (h1 : ¬ wh = 1) : Ev E MX11_feed 1 23 0 0 [.ref m, .int wh, .int a1, .int a2, .int a3] [(m, .inr (11, [.ref r_row, .int 0, .ref r_terms, .ref r_deltas, .int 0, .ref r_tapes, .ref r_taped, .ref r_first, .ref r_second, .int 0, .int 0, .ref r_seen, .ref r_seenWeights, .ref r_seenMedians, .int 0, .int 0, .ref r_term, .ref r_delta, .ref r_weights, .ref r_inputs, .ref r_guesses, .ref r_bases, .ref r_keptWeights, .ref r_keptInputs, .ref r_medians, .int 0, .int 0, .long 0, .long 0, .long 0, .ref r_bits, .int 0, .int 0, .int 0, .ref r_sideBits, .int 0, .int 0, .int 0, .int 0, .int 0, .int 0, .ref r_coded, .int 0, .ref r_read, .ref r_lows, .ref r_highs, .ref r_restsTaken, .ref r_isBelow, .ref r_isWritten, .ref r_five]))] (fun v_ w_ => v_ = some (.int (-1))) := by
  refine Ev.intro (by decide) (Nat.le_of_ble_eq_true rfl) ?_
  intro X B hr hI
  have B : Bd E X cX11_feed RX11 6 1 23 0 0 := B
  have hr : Rt E X (some .int) 0 0 (fun v_ w_ => v_ = some (.int (-1))) := hr
  show G E X 6 [(m, .inr (11, [.ref r_row, .int 0, .ref r_terms, .ref r_deltas, .int 0, .ref r_tapes, .ref r_taped, .ref r_first, .ref r_second, .int 0, .int 0, .ref r_seen, .ref r_seenWeights, .ref r_seenMedians, .int 0, .int 0, .ref r_term, .ref r_delta, .ref r_weights, .ref r_inputs, .ref r_guesses, .ref r_bases, .ref r_keptWeights, .ref r_keptInputs, .ref r_medians, .int 0, .int 0, .long 0, .long 0, .long 0, .ref r_bits, .int 0, .int 0, .int 0, .ref r_sideBits, .int 0, .int 0, .int 0, .int 0, .int 0, .int 0, .ref r_coded, .int 0, .ref r_read, .ref r_lows, .ref r_highs, .ref r_restsTaken, .ref r_isBelow, .ref r_isWritten, .ref r_five]))] 0 0 [(0, .ref m), (1, .int wh), (2, .int a1), (3, .int a2), (4, .int a3)] 0 []
  refine g_iload_n B dX11_feed_0 rfl 1 rfl ?_
  refine g_callS (st := []) (As := [.int wh]) (wr := [(m, .inr (11, [.ref r_row, .int 0, .ref r_terms, .ref r_deltas, .int 0, .ref r_tapes, .ref r_taped, .ref r_first, .ref r_second, .int 0, .int 0, .ref r_seen, .ref r_seenWeights, .ref r_seenMedians, .int 0, .int 0, .ref r_term, .ref r_delta, .ref r_weights, .ref r_inputs, .ref r_guesses, .ref r_bases, .ref r_keptWeights, .ref r_keptInputs, .ref r_medians, .int 0, .int 0, .long 0, .long 0, .long 0, .ref r_bits, .int 0, .int 0, .int 0, .ref r_sideBits, .int 0, .int 0, .int 0, .int 0, .int 0, .int 0, .ref r_coded, .int 0, .ref r_read, .ref r_lows, .ref r_highs, .ref r_restsTaken, .ref r_isBelow, .ref r_isWritten, .ref r_five]))]) (nc' := 0) (ns' := 0) B cl_X11_361 w_sm_X11_noWhich (ev_X11_noWhich_n E wh (by first | assumption | omega | decide) (by first | assumption | omega | decide)) rfl [] [0] rfl rfl (by decide) (by decide) (by decide) ⟨by decide, by decide⟩ rfl rfl (by decide) (by decide) rfl (Nat.le_of_ble_eq_true rfl) dX11_feed_1 (fun v w hq => ?_)
  obtain ⟨rfl, rfl⟩ := hq
  show G E X 6 [(m, .inr (11, [.ref r_row, .int 0, .ref r_terms, .ref r_deltas, .int 0, .ref r_tapes, .ref r_taped, .ref r_first, .ref r_second, .int 0, .int 0, .ref r_seen, .ref r_seenWeights, .ref r_seenMedians, .int 0, .int 0, .ref r_term, .ref r_delta, .ref r_weights, .ref r_inputs, .ref r_guesses, .ref r_bases, .ref r_keptWeights, .ref r_keptInputs, .ref r_medians, .int 0, .int 0, .long 0, .long 0, .long 0, .ref r_bits, .int 0, .int 0, .int 0, .ref r_sideBits, .int 0, .int 0, .int 0, .int 0, .int 0, .int 0, .ref r_coded, .int 0, .ref r_read, .ref r_lows, .ref r_highs, .ref r_restsTaken, .ref r_isBelow, .ref r_isWritten, .ref r_five]))] 0 0 [(0, .ref m), (1, .int wh), (2, .int a1), (3, .int a2), (4, .int a3)] 4 [.int 1]
  refine g_if_ne (tgt := 22) B dX11_feed_4 (by decide) (fun c4 => ?_) (fun h => absurd h (by decide))
  refine g_iconst (v := (-1)) B dX11_feed_22 (by decide) ?_
  exact g_iret B hr dX11_feed_23 (by decide) (by decide) rfl
set_option maxRecDepth 100000 in
set_option maxHeartbeats 4000000 in
theorem ev_X11_end_n (E : g_E) (m : Nat) (r_row : Nat) (r_terms : Nat) (r_deltas : Nat) (r_tapes : Nat) (r_taped : Nat) (r_first : Nat) (r_second : Nat) (r_seen : Nat) (r_seenWeights : Nat) (r_seenMedians : Nat) (r_term : Nat) (r_delta : Nat) (r_weights : Nat) (r_inputs : Nat) (r_guesses : Nat) (r_bases : Nat) (r_keptWeights : Nat) (r_keptInputs : Nat) (r_medians : Nat) (r_bits : Nat) (r_sideBits : Nat) (r_coded : Nat) (r_read : Nat) (r_lows : Nat) (r_highs : Nat) (r_restsTaken : Nat) (r_isBelow : Nat) (r_isWritten : Nat) (r_five : Nat) (wh : Int32) (n : Int32) (h0 : ¬ wh = 0) (h1 : ¬ wh = 1) : Ev E MX11_end 1 20 0 0 [.ref m, .int wh, .int n] [(m, .inr (11, [.ref r_row, .int 0, .ref r_terms, .ref r_deltas, .int 0, .ref r_tapes, .ref r_taped, .ref r_first, .ref r_second, .int 0, .int 0, .ref r_seen, .ref r_seenWeights, .ref r_seenMedians, .int 0, .int 0, .ref r_term, .ref r_delta, .ref r_weights, .ref r_inputs, .ref r_guesses, .ref r_bases, .ref r_keptWeights, .ref r_keptInputs, .ref r_medians, .int 0, .int 0, .long 0, .long 0, .long 0, .ref r_bits, .int 0, .int 0, .int 0, .ref r_sideBits, .int 0, .int 0, .int 0, .int 0, .int 0, .int 0, .ref r_coded, .int 0, .ref r_read, .ref r_lows, .ref r_highs, .ref r_restsTaken, .ref r_isBelow, .ref r_isWritten, .ref r_five]))] (fun v_ w_ => v_ = some (.int 0)) := by
  refine Ev.intro (by decide) (Nat.le_of_ble_eq_true rfl) ?_
  intro X B hr hI
  have B : Bd E X cX11_end RX11 3 1 20 0 0 := B
  have hr : Rt E X (some .boolean) 0 0 (fun v_ w_ => v_ = some (.int 0)) := hr
  show G E X 3 [(m, .inr (11, [.ref r_row, .int 0, .ref r_terms, .ref r_deltas, .int 0, .ref r_tapes, .ref r_taped, .ref r_first, .ref r_second, .int 0, .int 0, .ref r_seen, .ref r_seenWeights, .ref r_seenMedians, .int 0, .int 0, .ref r_term, .ref r_delta, .ref r_weights, .ref r_inputs, .ref r_guesses, .ref r_bases, .ref r_keptWeights, .ref r_keptInputs, .ref r_medians, .int 0, .int 0, .long 0, .long 0, .long 0, .ref r_bits, .int 0, .int 0, .int 0, .ref r_sideBits, .int 0, .int 0, .int 0, .int 0, .int 0, .int 0, .ref r_coded, .int 0, .ref r_read, .ref r_lows, .ref r_highs, .ref r_restsTaken, .ref r_isBelow, .ref r_isWritten, .ref r_five]))] 0 0 [(0, .ref m), (1, .int wh), (2, .int n)] 0 []
  refine g_iload_n B dX11_end_0 rfl 1 rfl ?_
  refine g_callS (st := []) (As := [.int wh]) (wr := [(m, .inr (11, [.ref r_row, .int 0, .ref r_terms, .ref r_deltas, .int 0, .ref r_tapes, .ref r_taped, .ref r_first, .ref r_second, .int 0, .int 0, .ref r_seen, .ref r_seenWeights, .ref r_seenMedians, .int 0, .int 0, .ref r_term, .ref r_delta, .ref r_weights, .ref r_inputs, .ref r_guesses, .ref r_bases, .ref r_keptWeights, .ref r_keptInputs, .ref r_medians, .int 0, .int 0, .long 0, .long 0, .long 0, .ref r_bits, .int 0, .int 0, .int 0, .ref r_sideBits, .int 0, .int 0, .int 0, .int 0, .int 0, .int 0, .ref r_coded, .int 0, .ref r_read, .ref r_lows, .ref r_highs, .ref r_restsTaken, .ref r_isBelow, .ref r_isWritten, .ref r_five]))]) (nc' := 0) (ns' := 0) B cl_X11_361 w_sm_X11_noWhich (ev_X11_noWhich_n E wh (by first | assumption | omega | decide) (by first | assumption | omega | decide)) rfl [] [0] rfl rfl (by decide) (by decide) (by decide) ⟨by decide, by decide⟩ rfl rfl (by decide) (by decide) rfl (Nat.le_of_ble_eq_true rfl) dX11_end_1 (fun v w hq => ?_)
  obtain ⟨rfl, rfl⟩ := hq
  show G E X 3 [(m, .inr (11, [.ref r_row, .int 0, .ref r_terms, .ref r_deltas, .int 0, .ref r_tapes, .ref r_taped, .ref r_first, .ref r_second, .int 0, .int 0, .ref r_seen, .ref r_seenWeights, .ref r_seenMedians, .int 0, .int 0, .ref r_term, .ref r_delta, .ref r_weights, .ref r_inputs, .ref r_guesses, .ref r_bases, .ref r_keptWeights, .ref r_keptInputs, .ref r_medians, .int 0, .int 0, .long 0, .long 0, .long 0, .ref r_bits, .int 0, .int 0, .int 0, .ref r_sideBits, .int 0, .int 0, .int 0, .int 0, .int 0, .int 0, .ref r_coded, .int 0, .ref r_read, .ref r_lows, .ref r_highs, .ref r_restsTaken, .ref r_isBelow, .ref r_isWritten, .ref r_five]))] 0 0 [(0, .ref m), (1, .int wh), (2, .int n)] 4 [.int 1]
  refine g_if_ne (tgt := 21) B dX11_end_4 (by decide) (fun c4 => ?_) (fun h => absurd h (by decide))
  refine g_iconst (v := 0) B dX11_end_21 (by decide) ?_
  exact g_zret B hr (by decide) dX11_end_22 (by decide) (by decide) rfl
set_option maxRecDepth 100000 in
set_option maxHeartbeats 4000000 in
theorem ev_X11_harm_n (E : g_E) (m : Nat) (r_row : Nat) (r_terms : Nat) (r_deltas : Nat) (r_tapes : Nat) (r_taped : Nat) (r_first : Nat) (r_second : Nat) (r_seen : Nat) (r_seenWeights : Nat) (r_seenMedians : Nat) (r_term : Nat) (r_delta : Nat) (r_weights : Nat) (r_inputs : Nat) (r_guesses : Nat) (r_bases : Nat) (r_keptWeights : Nat) (r_keptInputs : Nat) (r_medians : Nat) (r_bits : Nat) (r_sideBits : Nat) (r_coded : Nat) (r_read : Nat) (r_lows : Nat) (r_highs : Nat) (r_restsTaken : Nat) (r_isBelow : Nat) (r_isWritten : Nat) (r_five : Nat) (wh : Int32) (i : Int32) (b : Int32) (h0 : ¬ wh = 0) (h1 : ¬ wh = 1) : Ev E MX11_harm 1 20 0 0 [.ref m, .int wh, .int i, .int b] [(m, .inr (11, [.ref r_row, .int 0, .ref r_terms, .ref r_deltas, .int 0, .ref r_tapes, .ref r_taped, .ref r_first, .ref r_second, .int 0, .int 0, .ref r_seen, .ref r_seenWeights, .ref r_seenMedians, .int 0, .int 0, .ref r_term, .ref r_delta, .ref r_weights, .ref r_inputs, .ref r_guesses, .ref r_bases, .ref r_keptWeights, .ref r_keptInputs, .ref r_medians, .int 0, .int 0, .long 0, .long 0, .long 0, .ref r_bits, .int 0, .int 0, .int 0, .ref r_sideBits, .int 0, .int 0, .int 0, .int 0, .int 0, .int 0, .ref r_coded, .int 0, .ref r_read, .ref r_lows, .ref r_highs, .ref r_restsTaken, .ref r_isBelow, .ref r_isWritten, .ref r_five]))] (fun v_ w_ => v_ = some (.int 0)) := by
  refine Ev.intro (by decide) (Nat.le_of_ble_eq_true rfl) ?_
  intro X B hr hI
  have B : Bd E X cX11_harm RX11 4 1 20 0 0 := B
  have hr : Rt E X (some .boolean) 0 0 (fun v_ w_ => v_ = some (.int 0)) := hr
  show G E X 4 [(m, .inr (11, [.ref r_row, .int 0, .ref r_terms, .ref r_deltas, .int 0, .ref r_tapes, .ref r_taped, .ref r_first, .ref r_second, .int 0, .int 0, .ref r_seen, .ref r_seenWeights, .ref r_seenMedians, .int 0, .int 0, .ref r_term, .ref r_delta, .ref r_weights, .ref r_inputs, .ref r_guesses, .ref r_bases, .ref r_keptWeights, .ref r_keptInputs, .ref r_medians, .int 0, .int 0, .long 0, .long 0, .long 0, .ref r_bits, .int 0, .int 0, .int 0, .ref r_sideBits, .int 0, .int 0, .int 0, .int 0, .int 0, .int 0, .ref r_coded, .int 0, .ref r_read, .ref r_lows, .ref r_highs, .ref r_restsTaken, .ref r_isBelow, .ref r_isWritten, .ref r_five]))] 0 0 [(0, .ref m), (1, .int wh), (2, .int i), (3, .int b)] 0 []
  refine g_iload_n B dX11_harm_0 rfl 1 rfl ?_
  refine g_callS (st := []) (As := [.int wh]) (wr := [(m, .inr (11, [.ref r_row, .int 0, .ref r_terms, .ref r_deltas, .int 0, .ref r_tapes, .ref r_taped, .ref r_first, .ref r_second, .int 0, .int 0, .ref r_seen, .ref r_seenWeights, .ref r_seenMedians, .int 0, .int 0, .ref r_term, .ref r_delta, .ref r_weights, .ref r_inputs, .ref r_guesses, .ref r_bases, .ref r_keptWeights, .ref r_keptInputs, .ref r_medians, .int 0, .int 0, .long 0, .long 0, .long 0, .ref r_bits, .int 0, .int 0, .int 0, .ref r_sideBits, .int 0, .int 0, .int 0, .int 0, .int 0, .int 0, .ref r_coded, .int 0, .ref r_read, .ref r_lows, .ref r_highs, .ref r_restsTaken, .ref r_isBelow, .ref r_isWritten, .ref r_five]))]) (nc' := 0) (ns' := 0) B cl_X11_361 w_sm_X11_noWhich (ev_X11_noWhich_n E wh (by first | assumption | omega | decide) (by first | assumption | omega | decide)) rfl [] [0] rfl rfl (by decide) (by decide) (by decide) ⟨by decide, by decide⟩ rfl rfl (by decide) (by decide) rfl (Nat.le_of_ble_eq_true rfl) dX11_harm_1 (fun v w hq => ?_)
  obtain ⟨rfl, rfl⟩ := hq
  show G E X 4 [(m, .inr (11, [.ref r_row, .int 0, .ref r_terms, .ref r_deltas, .int 0, .ref r_tapes, .ref r_taped, .ref r_first, .ref r_second, .int 0, .int 0, .ref r_seen, .ref r_seenWeights, .ref r_seenMedians, .int 0, .int 0, .ref r_term, .ref r_delta, .ref r_weights, .ref r_inputs, .ref r_guesses, .ref r_bases, .ref r_keptWeights, .ref r_keptInputs, .ref r_medians, .int 0, .int 0, .long 0, .long 0, .long 0, .ref r_bits, .int 0, .int 0, .int 0, .ref r_sideBits, .int 0, .int 0, .int 0, .int 0, .int 0, .int 0, .ref r_coded, .int 0, .ref r_read, .ref r_lows, .ref r_highs, .ref r_restsTaken, .ref r_isBelow, .ref r_isWritten, .ref r_five]))] 0 0 [(0, .ref m), (1, .int wh), (2, .int i), (3, .int b)] 4 [.int 1]
  refine g_if_ne (tgt := 21) B dX11_harm_4 (by decide) (fun c4 => ?_) (fun h => absurd h (by decide))
  refine g_iconst (v := 0) B dX11_harm_21 (by decide) ?_
  exact g_zret B hr (by decide) dX11_harm_22 (by decide) (by decide) rfl
set_option maxRecDepth 100000 in
set_option maxHeartbeats 4000000 in
theorem ev_X11_seal_n (E : g_E) (m : Nat) (r_row : Nat) (r_terms : Nat) (r_deltas : Nat) (r_tapes : Nat) (r_taped : Nat) (r_first : Nat) (r_second : Nat) (r_seen : Nat) (r_seenWeights : Nat) (r_seenMedians : Nat) (r_term : Nat) (r_delta : Nat) (r_weights : Nat) (r_inputs : Nat) (r_guesses : Nat) (r_bases : Nat) (r_keptWeights : Nat) (r_keptInputs : Nat) (r_medians : Nat) (r_bits : Nat) (r_sideBits : Nat) (r_coded : Nat) (r_read : Nat) (r_lows : Nat) (r_highs : Nat) (r_restsTaken : Nat) (r_isBelow : Nat) (r_isWritten : Nat) (r_five : Nat) (wh : Int32) (h0 : ¬ wh = 0) (h1 : ¬ wh = 1) : Ev E MX11_seal 1 25 0 0 [.ref m, .int wh] [(m, .inr (11, [.ref r_row, .int 0, .ref r_terms, .ref r_deltas, .int 0, .ref r_tapes, .ref r_taped, .ref r_first, .ref r_second, .int 0, .int 0, .ref r_seen, .ref r_seenWeights, .ref r_seenMedians, .int 0, .int 0, .ref r_term, .ref r_delta, .ref r_weights, .ref r_inputs, .ref r_guesses, .ref r_bases, .ref r_keptWeights, .ref r_keptInputs, .ref r_medians, .int 0, .int 0, .long 0, .long 0, .long 0, .ref r_bits, .int 0, .int 0, .int 0, .ref r_sideBits, .int 0, .int 0, .int 0, .int 0, .int 0, .int 0, .ref r_coded, .int 0, .ref r_read, .ref r_lows, .ref r_highs, .ref r_restsTaken, .ref r_isBelow, .ref r_isWritten, .ref r_five]))] (fun v_ w_ => v_ = some (.int 0)) := by
  refine Ev.intro (by decide) (Nat.le_of_ble_eq_true rfl) ?_
  intro X B hr hI
  have B : Bd E X cX11_seal RX11 3 1 25 0 0 := B
  have hr : Rt E X (some .boolean) 0 0 (fun v_ w_ => v_ = some (.int 0)) := hr
  show G E X 3 [(m, .inr (11, [.ref r_row, .int 0, .ref r_terms, .ref r_deltas, .int 0, .ref r_tapes, .ref r_taped, .ref r_first, .ref r_second, .int 0, .int 0, .ref r_seen, .ref r_seenWeights, .ref r_seenMedians, .int 0, .int 0, .ref r_term, .ref r_delta, .ref r_weights, .ref r_inputs, .ref r_guesses, .ref r_bases, .ref r_keptWeights, .ref r_keptInputs, .ref r_medians, .int 0, .int 0, .long 0, .long 0, .long 0, .ref r_bits, .int 0, .int 0, .int 0, .ref r_sideBits, .int 0, .int 0, .int 0, .int 0, .int 0, .int 0, .ref r_coded, .int 0, .ref r_read, .ref r_lows, .ref r_highs, .ref r_restsTaken, .ref r_isBelow, .ref r_isWritten, .ref r_five]))] 0 0 [(0, .ref m), (1, .int wh)] 0 []
  refine g_iload_n B dX11_seal_0 rfl 1 rfl ?_
  refine g_callS (st := []) (As := [.int wh]) (wr := [(m, .inr (11, [.ref r_row, .int 0, .ref r_terms, .ref r_deltas, .int 0, .ref r_tapes, .ref r_taped, .ref r_first, .ref r_second, .int 0, .int 0, .ref r_seen, .ref r_seenWeights, .ref r_seenMedians, .int 0, .int 0, .ref r_term, .ref r_delta, .ref r_weights, .ref r_inputs, .ref r_guesses, .ref r_bases, .ref r_keptWeights, .ref r_keptInputs, .ref r_medians, .int 0, .int 0, .long 0, .long 0, .long 0, .ref r_bits, .int 0, .int 0, .int 0, .ref r_sideBits, .int 0, .int 0, .int 0, .int 0, .int 0, .int 0, .ref r_coded, .int 0, .ref r_read, .ref r_lows, .ref r_highs, .ref r_restsTaken, .ref r_isBelow, .ref r_isWritten, .ref r_five]))]) (nc' := 0) (ns' := 0) B cl_X11_361 w_sm_X11_noWhich (ev_X11_noWhich_n E wh (by first | assumption | omega | decide) (by first | assumption | omega | decide)) rfl [] [0] rfl rfl (by decide) (by decide) (by decide) ⟨by decide, by decide⟩ rfl rfl (by decide) (by decide) rfl (Nat.le_of_ble_eq_true rfl) dX11_seal_1 (fun v w hq => ?_)
  obtain ⟨rfl, rfl⟩ := hq
  show G E X 3 [(m, .inr (11, [.ref r_row, .int 0, .ref r_terms, .ref r_deltas, .int 0, .ref r_tapes, .ref r_taped, .ref r_first, .ref r_second, .int 0, .int 0, .ref r_seen, .ref r_seenWeights, .ref r_seenMedians, .int 0, .int 0, .ref r_term, .ref r_delta, .ref r_weights, .ref r_inputs, .ref r_guesses, .ref r_bases, .ref r_keptWeights, .ref r_keptInputs, .ref r_medians, .int 0, .int 0, .long 0, .long 0, .long 0, .ref r_bits, .int 0, .int 0, .int 0, .ref r_sideBits, .int 0, .int 0, .int 0, .int 0, .int 0, .int 0, .ref r_coded, .int 0, .ref r_read, .ref r_lows, .ref r_highs, .ref r_restsTaken, .ref r_isBelow, .ref r_isWritten, .ref r_five]))] 0 0 [(0, .ref m), (1, .int wh)] 4 [.int 1]
  refine g_if_ne (tgt := 17) B dX11_seal_4 (by decide) (fun c4 => ?_) (fun h => absurd h (by decide))
  refine g_iconst (v := 0) B dX11_seal_17 (by decide) ?_
  exact g_zret B hr (by decide) dX11_seal_18 (by decide) (by decide) rfl
theorem dX11_take_18 : decode cX11_take 18 = .ok (.iconst (-1), 1) := by decide +kernel
theorem dX11_take_19 : decode cX11_take 19 = .ok (.ireturn, 1) := by decide +kernel
set_option maxRecDepth 100000 in
set_option maxHeartbeats 4000000 in
theorem ev_X11_take_n (E : g_E) (m : Nat) (r_row : Nat) (r_terms : Nat) (r_deltas : Nat) (r_tapes : Nat) (r_taped : Nat) (r_first : Nat) (r_second : Nat) (r_seen : Nat) (r_seenWeights : Nat) (r_seenMedians : Nat) (r_term : Nat) (r_delta : Nat) (r_weights : Nat) (r_inputs : Nat) (r_guesses : Nat) (r_bases : Nat) (r_keptWeights : Nat) (r_keptInputs : Nat) (r_medians : Nat) (r_bits : Nat) (r_sideBits : Nat) (r_coded : Nat) (r_read : Nat) (r_lows : Nat) (r_highs : Nat) (r_restsTaken : Nat) (r_isBelow : Nat) (r_isWritten : Nat) (r_five : Nat) (wh : Int32) (h0 : ¬ wh = 0) (h1 : ¬ wh = 1) : Ev E MX11_take 1 21 0 0 [.ref m, .int wh] [(m, .inr (11, [.ref r_row, .int 0, .ref r_terms, .ref r_deltas, .int 0, .ref r_tapes, .ref r_taped, .ref r_first, .ref r_second, .int 0, .int 0, .ref r_seen, .ref r_seenWeights, .ref r_seenMedians, .int 0, .int 0, .ref r_term, .ref r_delta, .ref r_weights, .ref r_inputs, .ref r_guesses, .ref r_bases, .ref r_keptWeights, .ref r_keptInputs, .ref r_medians, .int 0, .int 0, .long 0, .long 0, .long 0, .ref r_bits, .int 0, .int 0, .int 0, .ref r_sideBits, .int 0, .int 0, .int 0, .int 0, .int 0, .int 0, .ref r_coded, .int 0, .ref r_read, .ref r_lows, .ref r_highs, .ref r_restsTaken, .ref r_isBelow, .ref r_isWritten, .ref r_five]))] (fun v_ w_ => v_ = some (.int (-1))) := by
  refine Ev.intro (by decide) (Nat.le_of_ble_eq_true rfl) ?_
  intro X B hr hI
  have B : Bd E X cX11_take RX11 3 1 21 0 0 := B
  have hr : Rt E X (some .int) 0 0 (fun v_ w_ => v_ = some (.int (-1))) := hr
  show G E X 3 [(m, .inr (11, [.ref r_row, .int 0, .ref r_terms, .ref r_deltas, .int 0, .ref r_tapes, .ref r_taped, .ref r_first, .ref r_second, .int 0, .int 0, .ref r_seen, .ref r_seenWeights, .ref r_seenMedians, .int 0, .int 0, .ref r_term, .ref r_delta, .ref r_weights, .ref r_inputs, .ref r_guesses, .ref r_bases, .ref r_keptWeights, .ref r_keptInputs, .ref r_medians, .int 0, .int 0, .long 0, .long 0, .long 0, .ref r_bits, .int 0, .int 0, .int 0, .ref r_sideBits, .int 0, .int 0, .int 0, .int 0, .int 0, .int 0, .ref r_coded, .int 0, .ref r_read, .ref r_lows, .ref r_highs, .ref r_restsTaken, .ref r_isBelow, .ref r_isWritten, .ref r_five]))] 0 0 [(0, .ref m), (1, .int wh)] 0 []
  refine g_iload_n B dX11_take_0 rfl 1 rfl ?_
  refine g_callS (st := []) (As := [.int wh]) (wr := [(m, .inr (11, [.ref r_row, .int 0, .ref r_terms, .ref r_deltas, .int 0, .ref r_tapes, .ref r_taped, .ref r_first, .ref r_second, .int 0, .int 0, .ref r_seen, .ref r_seenWeights, .ref r_seenMedians, .int 0, .int 0, .ref r_term, .ref r_delta, .ref r_weights, .ref r_inputs, .ref r_guesses, .ref r_bases, .ref r_keptWeights, .ref r_keptInputs, .ref r_medians, .int 0, .int 0, .long 0, .long 0, .long 0, .ref r_bits, .int 0, .int 0, .int 0, .ref r_sideBits, .int 0, .int 0, .int 0, .int 0, .int 0, .int 0, .ref r_coded, .int 0, .ref r_read, .ref r_lows, .ref r_highs, .ref r_restsTaken, .ref r_isBelow, .ref r_isWritten, .ref r_five]))]) (nc' := 0) (ns' := 0) B cl_X11_361 w_sm_X11_noWhich (ev_X11_noWhich_n E wh (by first | assumption | omega | decide) (by first | assumption | omega | decide)) rfl [] [0] rfl rfl (by decide) (by decide) (by decide) ⟨by decide, by decide⟩ rfl rfl (by decide) (by decide) rfl (Nat.le_of_ble_eq_true rfl) dX11_take_1 (fun v w hq => ?_)
  obtain ⟨rfl, rfl⟩ := hq
  show G E X 3 [(m, .inr (11, [.ref r_row, .int 0, .ref r_terms, .ref r_deltas, .int 0, .ref r_tapes, .ref r_taped, .ref r_first, .ref r_second, .int 0, .int 0, .ref r_seen, .ref r_seenWeights, .ref r_seenMedians, .int 0, .int 0, .ref r_term, .ref r_delta, .ref r_weights, .ref r_inputs, .ref r_guesses, .ref r_bases, .ref r_keptWeights, .ref r_keptInputs, .ref r_medians, .int 0, .int 0, .long 0, .long 0, .long 0, .ref r_bits, .int 0, .int 0, .int 0, .ref r_sideBits, .int 0, .int 0, .int 0, .int 0, .int 0, .int 0, .ref r_coded, .int 0, .ref r_read, .ref r_lows, .ref r_highs, .ref r_restsTaken, .ref r_isBelow, .ref r_isWritten, .ref r_five]))] 0 0 [(0, .ref m), (1, .int wh)] 4 [.int 1]
  refine g_if_ne (tgt := 18) B dX11_take_4 (by decide) (fun c4 => ?_) (fun h => absurd h (by decide))
  refine g_iconst (v := (-1)) B dX11_take_18 (by decide) ?_
  exact g_iret B hr dX11_take_19 (by decide) (by decide) rfl
