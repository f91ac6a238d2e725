theorem p1_ix {w : Int32} {n : Nat} {M : Int32} (hM : M.toInt = n) (h1 : ¬ w < 0) (h2 : w ≤ M) : ∃ j : Nat, j ≤ n ∧ w = nI j := nI_of2 hM h1 h2
theorem p1_in10 {w : Int32} (h1 : ¬ w < 0) (h2 : w ≤ 9) : vp_in w 10 := by
  obtain ⟨j, hj, rfl⟩ := p1_ix (n := 9) (by decide) h1 h2
  exact vp_in_nI (by omega) (by decide)
theorem p1_look0 {w : Int32} (h1 : ¬ w < 0) (h2 : w ≤ 9) : p1_look w = 0 := by
  obtain ⟨j, hj, rfl⟩ := p1_ix (n := 9) (by decide) h1 h2
  have h3 := nI_toInt (n := j) (by omega)
  unfold p1_look
  rw [if_neg]
  omega
theorem p1_look1 {w : Int32} (h1 : w < 0) : p1_look w = -1 := by
  have h3 : w.toInt < 0 := Int32.lt_iff_toInt_lt.mp h1
  unfold p1_look
  rw [if_pos (Or.inl h3)]
theorem p1_look2 {w : Int32} (h1 : ¬ w ≤ 9) : p1_look w = -1 := by
  have h3 : 9 < w.toInt := Int32.lt_iff_toInt_lt.mp (o_2 h1)
  unfold p1_look
  rw [if_pos (Or.inr h3)]
theorem p1_in16 {a b : Int32} (h1 : ¬ a < 0) (h2 : ¬ 8 ≤ a) (h3 : b = 0 ∨ b = 1) : vp_in (2 * a + b) 16 := by
  rcases pk_ix a (n := 8) (by decide) with h | h | ⟨j, hj, rfl⟩
  · exact absurd h h1
  · exact absurd h h2
  · have h4 : j = 0 ∨ j = 1 ∨ j = 2 ∨ j = 3 ∨ j = 4 ∨ j = 5 ∨ j = 6 ∨ j = 7 := by omega
    rcases h4 with rfl | rfl | rfl | rfl | rfl | rfl | rfl | rfl <;> rcases h3 with rfl | rfl <;> (unfold vp_in; decide)
theorem p1_in6 {a b : Int32} (h1 : ¬ b < 0) (h2 : b ≤ 2) (h3 : a = 0 ∨ a = 1) : vp_in (3 * a + b) 6 := by
  obtain ⟨j, hj, rfl⟩ := p1_ix (n := 2) (by decide) h1 h2
  have h4 : j = 0 ∨ j = 1 ∨ j = 2 := by omega
  rcases h4 with rfl | rfl | rfl <;> rcases h3 with rfl | rfl <;> (unfold vp_in; decide)
abbrev MX11_say : g_M := (yX11_say, cX11_say, 7, (some .int))
theorem dX11_say_0 : decode cX11_say 0 = .ok (.aload_n 0, 1) := by decide +kernel
theorem dX11_say_1 : decode cX11_say 1 = .ok (.getfield 178, 3) := by decide +kernel
theorem w_fl_X11_178 : Cond.fieldLink RX11 178 (TX11 1).1 (TX11 1).2.1 (TX11 1).2.2.1 ∈ g_tbl := g_tbl_in 881 (by decide +kernel) (by decide +kernel)
theorem fl_X11_178 : FL RX11 178 11 1 := ⟨RX11, TX11, 50, rfl, by decide, inX_X11, w_fl_X11_178⟩
theorem dX11_say_4 : decode cX11_say 4 = .ok (.iconst 5, 1) := by decide +kernel
theorem dX11_say_5 : decode cX11_say 5 = .ok (.iadd, 1) := by decide +kernel
theorem dX11_say_6 : decode cX11_say 6 = .ok (.sipush 1200, 3) := by decide +kernel
theorem dX11_say_9 : decode cX11_say 9 = .ok (.if_icmp .le 5, 3) := by decide +kernel
theorem dX11_say_14 : decode cX11_say 14 = .ok (.aload_n 0, 1) := by decide +kernel
theorem dX11_say_15 : decode cX11_say 15 = .ok (.getfield 99, 3) := by decide +kernel
theorem dX11_say_18 : decode cX11_say 18 = .ok (.iconst 0, 1) := by decide +kernel
theorem dX11_say_19 : decode cX11_say 19 = .ok (.iload_n 1, 1) := by decide +kernel
theorem dX11_say_20 : decode cX11_say 20 = .ok (.iastore, 1) := by decide +kernel
theorem dX11_say_21 : decode cX11_say 21 = .ok (.aload_n 0, 1) := by decide +kernel
theorem dX11_say_22 : decode cX11_say 22 = .ok (.getfield 99, 3) := by decide +kernel
theorem dX11_say_25 : decode cX11_say 25 = .ok (.iconst 1, 1) := by decide +kernel
theorem dX11_say_26 : decode cX11_say 26 = .ok (.iload_n 2, 1) := by decide +kernel
theorem dX11_say_27 : decode cX11_say 27 = .ok (.iastore, 1) := by decide +kernel
theorem dX11_say_28 : decode cX11_say 28 = .ok (.aload_n 0, 1) := by decide +kernel
theorem dX11_say_29 : decode cX11_say 29 = .ok (.getfield 99, 3) := by decide +kernel
theorem dX11_say_32 : decode cX11_say 32 = .ok (.iconst 2, 1) := by decide +kernel
theorem dX11_say_33 : decode cX11_say 33 = .ok (.iload_n 3, 1) := by decide +kernel
theorem dX11_say_34 : decode cX11_say 34 = .ok (.iastore, 1) := by decide +kernel
theorem dX11_say_35 : decode cX11_say 35 = .ok (.aload_n 0, 1) := by decide +kernel
theorem dX11_say_36 : decode cX11_say 36 = .ok (.getfield 99, 3) := by decide +kernel
theorem dX11_say_39 : decode cX11_say 39 = .ok (.iconst 3, 1) := by decide +kernel
theorem dX11_say_40 : decode cX11_say 40 = .ok (.iload 4, 2) := by decide +kernel
theorem dX11_say_42 : decode cX11_say 42 = .ok (.iastore, 1) := by decide +kernel
theorem dX11_say_43 : decode cX11_say 43 = .ok (.aload_n 0, 1) := by decide +kernel
theorem dX11_say_44 : decode cX11_say 44 = .ok (.getfield 99, 3) := by decide +kernel
theorem dX11_say_47 : decode cX11_say 47 = .ok (.iconst 4, 1) := by decide +kernel
theorem dX11_say_48 : decode cX11_say 48 = .ok (.iload 5, 2) := by decide +kernel
theorem dX11_say_50 : decode cX11_say 50 = .ok (.iastore, 1) := by decide +kernel
theorem dX11_say_51 : decode cX11_say 51 = .ok (.iconst 0, 1) := by decide +kernel
theorem dX11_say_52 : decode cX11_say 52 = .ok (.istore 6, 2) := by decide +kernel
theorem dX11_say_54 : decode cX11_say 54 = .ok (.iload 6, 2) := by decide +kernel
theorem dX11_say_56 : decode cX11_say 56 = .ok (.iconst 5, 1) := by decide +kernel
theorem dX11_say_57 : decode cX11_say 57 = .ok (.if_icmp .ge 28, 3) := by decide +kernel
theorem dX11_say_60 : decode cX11_say 60 = .ok (.aload_n 0, 1) := by decide +kernel
theorem dX11_say_61 : decode cX11_say 61 = .ok (.getfield 9, 3) := by decide +kernel
theorem dX11_say_64 : decode cX11_say 64 = .ok (.aload_n 0, 1) := by decide +kernel
theorem dX11_say_65 : decode cX11_say 65 = .ok (.getfield 178, 3) := by decide +kernel
theorem dX11_say_68 : decode cX11_say 68 = .ok (.iload 6, 2) := by decide +kernel
theorem dX11_say_70 : decode cX11_say 70 = .ok (.iadd, 1) := by decide +kernel
theorem dX11_say_71 : decode cX11_say 71 = .ok (.aload_n 0, 1) := by decide +kernel
theorem dX11_say_72 : decode cX11_say 72 = .ok (.getfield 99, 3) := by decide +kernel
theorem dX11_say_75 : decode cX11_say 75 = .ok (.iload 6, 2) := by decide +kernel
theorem dX11_say_77 : decode cX11_say 77 = .ok (.iaload, 1) := by decide +kernel
theorem dX11_say_78 : decode cX11_say 78 = .ok (.iastore, 1) := by decide +kernel
theorem dX11_say_79 : decode cX11_say 79 = .ok (.iinc 6 1, 3) := by decide +kernel
theorem dX11_say_82 : decode cX11_say 82 = .ok (.goto (-28), 3) := by decide +kernel
theorem dX11_say_85 : decode cX11_say 85 = .ok (.aload_n 0, 1) := by decide +kernel
theorem dX11_say_86 : decode cX11_say 86 = .ok (.dup, 1) := by decide +kernel
theorem dX11_say_87 : decode cX11_say 87 = .ok (.getfield 178, 3) := by decide +kernel
theorem dX11_say_90 : decode cX11_say 90 = .ok (.iconst 5, 1) := by decide +kernel
theorem dX11_say_91 : decode cX11_say 91 = .ok (.iadd, 1) := by decide +kernel
theorem dX11_say_92 : decode cX11_say 92 = .ok (.putfield 178, 3) := by decide +kernel
theorem pf_X11_1 : PF 11 1 .int false := fun C T N h => by cases h; exact ⟨⟨tyX11, tyX11_ok⟩, nmX11, by decide +kernel, rfl, rfl⟩
theorem dX11_say_95 : decode cX11_say 95 = .ok (.aload_n 0, 1) := by decide +kernel
theorem dX11_say_96 : decode cX11_say 96 = .ok (.getfield 178, 3) := by decide +kernel
theorem dX11_say_99 : decode cX11_say 99 = .ok (.ireturn, 1) := by decide +kernel
set_option maxRecDepth 100000 in
set_option maxHeartbeats 4000000 in
theorem ev_X11_say (E : g_E) (m : Nat) (r_row : Nat) (r_terms : Nat) (r_deltas : Nat) (r_tapes : Nat) (r_taped : Nat) (r_first : Nat) (r_second : Nat) (r_seen : Nat) (r_seenWeights : Nat) (r_seenMedians : Nat) (r_term : Nat) (r_delta : Nat) (r_weights : Nat) (r_inputs : Nat) (r_guesses : Nat) (r_bases : Nat) (r_keptWeights : Nat) (r_keptInputs : Nat) (r_medians : Nat) (r_bits : Nat) (r_sideBits : Nat) (r_coded : Nat) (r_read : Nat) (r_lows : Nat) (r_highs : Nat) (r_restsTaken : Nat) (r_isBelow : Nat) (r_isWritten : Nat) (r_five : Nat) (a1 : Int32) (a2 : Int32) (a3 : Int32) (a4 : Int32) (a5 : Int32)  : Ev E MX11_say 0 0 0 0 [.ref m, .int a1, .int a2, .int a3, .int a4, .int a5] [(m, .inr (11, [.ref r_row, .int 0, .ref r_terms, .ref r_deltas, .int 0, .ref r_tapes, .ref r_taped, .ref r_first, .ref r_second, .int 0, .int 0, .ref r_seen, .ref r_seenWeights, .ref r_seenMedians, .int 0, .int 0, .ref r_term, .ref r_delta, .ref r_weights, .ref r_inputs, .ref r_guesses, .ref r_bases, .ref r_keptWeights, .ref r_keptInputs, .ref r_medians, .int 0, .int 0, .long 0, .long 0, .long 0, .ref r_bits, .int 0, .int 0, .int 0, .ref r_sideBits, .int 0, .int 0, .int 0, .int 0, .int 0, .int 0, .ref r_coded, .int 0, .ref r_read, .ref r_lows, .ref r_highs, .ref r_restsTaken, .ref r_isBelow, .ref r_isWritten, .ref r_five])), (r_row, .inl (E.2.2.1 0, 1200, .inl (fun _ => 0))), (r_five, .inl (E.2.2.1 0, 5, .inl (fun _ => 0)))] (fun v_ w_ => v_ = some (.int 5)) := by
  refine Ev.intro (by decide) (Nat.le_of_ble_eq_true rfl) ?_
  intro X B hr hI
  have B : Bd E X cX11_say RX11 7 0 0 0 0 := B
  have hr : Rt E X (some .int) 0 0 (fun v_ w_ => v_ = some (.int 5)) := hr
  show G E X 7 [(m, .inr (11, [.ref r_row, .int 0, .ref r_terms, .ref r_deltas, .int 0, .ref r_tapes, .ref r_taped, .ref r_first, .ref r_second, .int 0, .int 0, .ref r_seen, .ref r_seenWeights, .ref r_seenMedians, .int 0, .int 0, .ref r_term, .ref r_delta, .ref r_weights, .ref r_inputs, .ref r_guesses, .ref r_bases, .ref r_keptWeights, .ref r_keptInputs, .ref r_medians, .int 0, .int 0, .long 0, .long 0, .long 0, .ref r_bits, .int 0, .int 0, .int 0, .ref r_sideBits, .int 0, .int 0, .int 0, .int 0, .int 0, .int 0, .ref r_coded, .int 0, .ref r_read, .ref r_lows, .ref r_highs, .ref r_restsTaken, .ref r_isBelow, .ref r_isWritten, .ref r_five])), (r_row, .inl (E.2.2.1 0, 1200, .inl (fun _ => 0))), (r_five, .inl (E.2.2.1 0, 5, .inl (fun _ => 0)))] 0 0 [(0, .ref m), (1, .int a1), (2, .int a2), (3, .int a3), (4, .int a4), (5, .int a5)] 0 []
  refine g_aload_n B dX11_say_0 rfl 0 rfl ?_
  refine g_get B 0 1 fl_X11_178 rfl rfl dX11_say_1 ?_
  refine g_iconst (v := 5) B dX11_say_4 (by decide) ?_
  refine g_iadd B dX11_say_5 ?_
  refine g_ri (x' := 5) (by decide) ?_
  refine g_sipush (v := 1200) B dX11_say_6 (by decide) ?_
  refine g_icmp_le (tgt := 14) B dX11_say_9 (by decide) (fun c9 => ?_) (fun h => absurd (by decide) h)
  refine g_aload_n B dX11_say_14 rfl 0 rfl ?_
  refine g_get B 0 49 fl_X11_99 rfl rfl dX11_say_15 ?_
  refine g_iconst (v := 0) B dX11_say_18 (by decide) ?_
  refine g_iload_n B dX11_say_19 rfl 1 rfl ?_
  refine g_iast (ws' := [(m, .inr (11, [.ref r_row, .int 0, .ref r_terms, .ref r_deltas, .int 0, .ref r_tapes, .ref r_taped, .ref r_first, .ref r_second, .int 0, .int 0, .ref r_seen, .ref r_seenWeights, .ref r_seenMedians, .int 0, .int 0, .ref r_term, .ref r_delta, .ref r_weights, .ref r_inputs, .ref r_guesses, .ref r_bases, .ref r_keptWeights, .ref r_keptInputs, .ref r_medians, .int 0, .int 0, .long 0, .long 0, .long 0, .ref r_bits, .int 0, .int 0, .int 0, .ref r_sideBits, .int 0, .int 0, .int 0, .int 0, .int 0, .int 0, .ref r_coded, .int 0, .ref r_read, .ref r_lows, .ref r_highs, .ref r_restsTaken, .ref r_isBelow, .ref r_isWritten, .ref r_five])), (r_row, .inl (E.2.2.1 0, 1200, .inl (fun _ => 0))), (r_five, .inl (E.2.2.1 0, 5, .inl (upd (fun _ => 0) (Int32.toNatClampNeg 0) a1)))]) B 2 rfl (by unfold vp_in; decide) rfl dX11_say_20 ?_
  refine g_aload_n B dX11_say_21 rfl 0 rfl ?_
  refine g_get B 0 49 fl_X11_99 rfl rfl dX11_say_22 ?_
  refine g_iconst (v := 1) B dX11_say_25 (by decide) ?_
  refine g_iload_n B dX11_say_26 rfl 2 rfl ?_
  refine g_iast (ws' := [(m, .inr (11, [.ref r_row, .int 0, .ref r_terms, .ref r_deltas, .int 0, .ref r_tapes, .ref r_taped, .ref r_first, .ref r_second, .int 0, .int 0, .ref r_seen, .ref r_seenWeights, .ref r_seenMedians, .int 0, .int 0, .ref r_term, .ref r_delta, .ref r_weights, .ref r_inputs, .ref r_guesses, .ref r_bases, .ref r_keptWeights, .ref r_keptInputs, .ref r_medians, .int 0, .int 0, .long 0, .long 0, .long 0, .ref r_bits, .int 0, .int 0, .int 0, .ref r_sideBits, .int 0, .int 0, .int 0, .int 0, .int 0, .int 0, .ref r_coded, .int 0, .ref r_read, .ref r_lows, .ref r_highs, .ref r_restsTaken, .ref r_isBelow, .ref r_isWritten, .ref r_five])), (r_row, .inl (E.2.2.1 0, 1200, .inl (fun _ => 0))), (r_five, .inl (E.2.2.1 0, 5, .inl (upd (upd (fun _ => 0) (Int32.toNatClampNeg 0) a1) (Int32.toNatClampNeg 1) a2)))]) B 2 rfl (by unfold vp_in; decide) rfl dX11_say_27 ?_
  refine g_aload_n B dX11_say_28 rfl 0 rfl ?_
  refine g_get B 0 49 fl_X11_99 rfl rfl dX11_say_29 ?_
  refine g_iconst (v := 2) B dX11_say_32 (by decide) ?_
  refine g_iload_n B dX11_say_33 rfl 3 rfl ?_
  refine g_iast (ws' := [(m, .inr (11, [.ref r_row, .int 0, .ref r_terms, .ref r_deltas, .int 0, .ref r_tapes, .ref r_taped, .ref r_first, .ref r_second, .int 0, .int 0, .ref r_seen, .ref r_seenWeights, .ref r_seenMedians, .int 0, .int 0, .ref r_term, .ref r_delta, .ref r_weights, .ref r_inputs, .ref r_guesses, .ref r_bases, .ref r_keptWeights, .ref r_keptInputs, .ref r_medians, .int 0, .int 0, .long 0, .long 0, .long 0, .ref r_bits, .int 0, .int 0, .int 0, .ref r_sideBits, .int 0, .int 0, .int 0, .int 0, .int 0, .int 0, .ref r_coded, .int 0, .ref r_read, .ref r_lows, .ref r_highs, .ref r_restsTaken, .ref r_isBelow, .ref r_isWritten, .ref r_five])), (r_row, .inl (E.2.2.1 0, 1200, .inl (fun _ => 0))), (r_five, .inl (E.2.2.1 0, 5, .inl (upd (upd (upd (fun _ => 0) (Int32.toNatClampNeg 0) a1) (Int32.toNatClampNeg 1) a2) (Int32.toNatClampNeg 2) a3)))]) B 2 rfl (by unfold vp_in; decide) rfl dX11_say_34 ?_
  refine g_aload_n B dX11_say_35 rfl 0 rfl ?_
  refine g_get B 0 49 fl_X11_99 rfl rfl dX11_say_36 ?_
  refine g_iconst (v := 3) B dX11_say_39 (by decide) ?_
  refine g_iload B dX11_say_40 4 rfl ?_
  refine g_iast (ws' := [(m, .inr (11, [.ref r_row, .int 0, .ref r_terms, .ref r_deltas, .int 0, .ref r_tapes, .ref r_taped, .ref r_first, .ref r_second, .int 0, .int 0, .ref r_seen, .ref r_seenWeights, .ref r_seenMedians, .int 0, .int 0, .ref r_term, .ref r_delta, .ref r_weights, .ref r_inputs, .ref r_guesses, .ref r_bases, .ref r_keptWeights, .ref r_keptInputs, .ref r_medians, .int 0, .int 0, .long 0, .long 0, .long 0, .ref r_bits, .int 0, .int 0, .int 0, .ref r_sideBits, .int 0, .int 0, .int 0, .int 0, .int 0, .int 0, .ref r_coded, .int 0, .ref r_read, .ref r_lows, .ref r_highs, .ref r_restsTaken, .ref r_isBelow, .ref r_isWritten, .ref r_five])), (r_row, .inl (E.2.2.1 0, 1200, .inl (fun _ => 0))), (r_five, .inl (E.2.2.1 0, 5, .inl (upd (upd (upd (upd (fun _ => 0) (Int32.toNatClampNeg 0) a1) (Int32.toNatClampNeg 1) a2) (Int32.toNatClampNeg 2) a3) (Int32.toNatClampNeg 3) a4)))]) B 2 rfl (by unfold vp_in; decide) rfl dX11_say_42 ?_
  refine g_aload_n B dX11_say_43 rfl 0 rfl ?_
  refine g_get B 0 49 fl_X11_99 rfl rfl dX11_say_44 ?_
  refine g_iconst (v := 4) B dX11_say_47 (by decide) ?_
  refine g_iload B dX11_say_48 5 rfl ?_
  refine g_iast (ws' := [(m, .inr (11, [.ref r_row, .int 0, .ref r_terms, .ref r_deltas, .int 0, .ref r_tapes, .ref r_taped, .ref r_first, .ref r_second, .int 0, .int 0, .ref r_seen, .ref r_seenWeights, .ref r_seenMedians, .int 0, .int 0, .ref r_term, .ref r_delta, .ref r_weights, .ref r_inputs, .ref r_guesses, .ref r_bases, .ref r_keptWeights, .ref r_keptInputs, .ref r_medians, .int 0, .int 0, .long 0, .long 0, .long 0, .ref r_bits, .int 0, .int 0, .int 0, .ref r_sideBits, .int 0, .int 0, .int 0, .int 0, .int 0, .int 0, .ref r_coded, .int 0, .ref r_read, .ref r_lows, .ref r_highs, .ref r_restsTaken, .ref r_isBelow, .ref r_isWritten, .ref r_five])), (r_row, .inl (E.2.2.1 0, 1200, .inl (fun _ => 0))), (r_five, .inl (E.2.2.1 0, 5, .inl (upd (upd (upd (upd (upd (fun _ => 0) (Int32.toNatClampNeg 0) a1) (Int32.toNatClampNeg 1) a2) (Int32.toNatClampNeg 2) a3) (Int32.toNatClampNeg 3) a4) (Int32.toNatClampNeg 4) a5)))]) B 2 rfl (by unfold vp_in; decide) rfl dX11_say_50 ?_
  refine g_iconst (v := 0) B dX11_say_51 (by decide) ?_
  refine g_istore (lv' := [(6, .int 0), (0, .ref m), (1, .int a1), (2, .int a2), (3, .int a3), (4, .int a4), (5, .int a5)]) B dX11_say_52 (by decide) rfl ?_
  refine g_iload B dX11_say_54 0 rfl ?_
  refine g_iconst (v := 5) B dX11_say_56 (by decide) ?_
  refine g_icmp_ge (tgt := 85) B dX11_say_57 (by decide) (fun h => absurd h (by decide)) (fun c57 => ?_)
  refine g_aload_n B dX11_say_60 rfl 1 rfl ?_
  refine g_get B 0 0 fl_X11_9 rfl rfl dX11_say_61 ?_
  refine g_aload_n B dX11_say_64 rfl 1 rfl ?_
  refine g_get B 0 1 fl_X11_178 rfl rfl dX11_say_65 ?_
  refine g_iload B dX11_say_68 0 rfl ?_
  refine g_iadd B dX11_say_70 ?_
  refine g_ri (x' := 0) (by decide) ?_
  refine g_aload_n B dX11_say_71 rfl 1 rfl ?_
  refine g_get B 0 49 fl_X11_99 rfl rfl dX11_say_72 ?_
  refine g_iload B dX11_say_75 0 rfl ?_
  refine g_iald B 2 rfl (by unfold vp_in; decide) dX11_say_77 ?_
  refine g_iast (ws' := [(m, .inr (11, [.ref r_row, .int 0, .ref r_terms, .ref r_deltas, .int 0, .ref r_tapes, .ref r_taped, .ref r_first, .ref r_second, .int 0, .int 0, .ref r_seen, .ref r_seenWeights, .ref r_seenMedians, .int 0, .int 0, .ref r_term, .ref r_delta, .ref r_weights, .ref r_inputs, .ref r_guesses, .ref r_bases, .ref r_keptWeights, .ref r_keptInputs, .ref r_medians, .int 0, .int 0, .long 0, .long 0, .long 0, .ref r_bits, .int 0, .int 0, .int 0, .ref r_sideBits, .int 0, .int 0, .int 0, .int 0, .int 0, .int 0, .ref r_coded, .int 0, .ref r_read, .ref r_lows, .ref r_highs, .ref r_restsTaken, .ref r_isBelow, .ref r_isWritten, .ref r_five])), (r_row, .inl (E.2.2.1 0, 1200, .inl (upd (fun _ => 0) (Int32.toNatClampNeg 0) ((upd (upd (upd (upd (upd (fun _ => 0) (Int32.toNatClampNeg 0) a1) (Int32.toNatClampNeg 1) a2) (Int32.toNatClampNeg 2) a3) (Int32.toNatClampNeg 3) a4) (Int32.toNatClampNeg 4) a5) (Int32.toNatClampNeg 0))))), (r_five, .inl (E.2.2.1 0, 5, .inl (upd (upd (upd (upd (upd (fun _ => 0) (Int32.toNatClampNeg 0) a1) (Int32.toNatClampNeg 1) a2) (Int32.toNatClampNeg 2) a3) (Int32.toNatClampNeg 3) a4) (Int32.toNatClampNeg 4) a5)))]) B 1 rfl (by unfold vp_in; decide) rfl dX11_say_78 ?_
  refine g_iinc (v := 1) (lv' := [(6, .int 1), (0, .ref m), (1, .int a1), (2, .int a2), (3, .int a3), (4, .int a4), (5, .int a5)]) B dX11_say_79 0 rfl (by decide) (by decide) rfl ?_
  refine g_goto (tgt := 54) B dX11_say_82 (by decide) ?_
  refine g_iload B dX11_say_54 0 rfl ?_
  refine g_iconst (v := 5) B dX11_say_56 (by decide) ?_
  refine g_icmp_ge (tgt := 85) B dX11_say_57 (by decide) (fun h => absurd h (by decide)) (fun c57 => ?_)
  refine g_aload_n B dX11_say_60 rfl 1 rfl ?_
  refine g_get B 0 0 fl_X11_9 rfl rfl dX11_say_61 ?_
  refine g_aload_n B dX11_say_64 rfl 1 rfl ?_
  refine g_get B 0 1 fl_X11_178 rfl rfl dX11_say_65 ?_
  refine g_iload B dX11_say_68 0 rfl ?_
  refine g_iadd B dX11_say_70 ?_
  refine g_ri (x' := 1) (by decide) ?_
  refine g_aload_n B dX11_say_71 rfl 1 rfl ?_
  refine g_get B 0 49 fl_X11_99 rfl rfl dX11_say_72 ?_
  refine g_iload B dX11_say_75 0 rfl ?_
  refine g_iald B 2 rfl (by unfold vp_in; decide) dX11_say_77 ?_
  refine g_iast (ws' := [(m, .inr (11, [.ref r_row, .int 0, .ref r_terms, .ref r_deltas, .int 0, .ref r_tapes, .ref r_taped, .ref r_first, .ref r_second, .int 0, .int 0, .ref r_seen, .ref r_seenWeights, .ref r_seenMedians, .int 0, .int 0, .ref r_term, .ref r_delta, .ref r_weights, .ref r_inputs, .ref r_guesses, .ref r_bases, .ref r_keptWeights, .ref r_keptInputs, .ref r_medians, .int 0, .int 0, .long 0, .long 0, .long 0, .ref r_bits, .int 0, .int 0, .int 0, .ref r_sideBits, .int 0, .int 0, .int 0, .int 0, .int 0, .int 0, .ref r_coded, .int 0, .ref r_read, .ref r_lows, .ref r_highs, .ref r_restsTaken, .ref r_isBelow, .ref r_isWritten, .ref r_five])), (r_row, .inl (E.2.2.1 0, 1200, .inl (upd (upd (fun _ => 0) (Int32.toNatClampNeg 0) ((upd (upd (upd (upd (upd (fun _ => 0) (Int32.toNatClampNeg 0) a1) (Int32.toNatClampNeg 1) a2) (Int32.toNatClampNeg 2) a3) (Int32.toNatClampNeg 3) a4) (Int32.toNatClampNeg 4) a5) (Int32.toNatClampNeg 0))) (Int32.toNatClampNeg 1) ((upd (upd (upd (upd (upd (fun _ => 0) (Int32.toNatClampNeg 0) a1) (Int32.toNatClampNeg 1) a2) (Int32.toNatClampNeg 2) a3) (Int32.toNatClampNeg 3) a4) (Int32.toNatClampNeg 4) a5) (Int32.toNatClampNeg 1))))), (r_five, .inl (E.2.2.1 0, 5, .inl (upd (upd (upd (upd (upd (fun _ => 0) (Int32.toNatClampNeg 0) a1) (Int32.toNatClampNeg 1) a2) (Int32.toNatClampNeg 2) a3) (Int32.toNatClampNeg 3) a4) (Int32.toNatClampNeg 4) a5)))]) B 1 rfl (by unfold vp_in; decide) rfl dX11_say_78 ?_
  refine g_iinc (v := 2) (lv' := [(6, .int 2), (0, .ref m), (1, .int a1), (2, .int a2), (3, .int a3), (4, .int a4), (5, .int a5)]) B dX11_say_79 0 rfl (by decide) (by decide) rfl ?_
  refine g_goto (tgt := 54) B dX11_say_82 (by decide) ?_
  refine g_iload B dX11_say_54 0 rfl ?_
  refine g_iconst (v := 5) B dX11_say_56 (by decide) ?_
  refine g_icmp_ge (tgt := 85) B dX11_say_57 (by decide) (fun h => absurd h (by decide)) (fun c57 => ?_)
  refine g_aload_n B dX11_say_60 rfl 1 rfl ?_
  refine g_get B 0 0 fl_X11_9 rfl rfl dX11_say_61 ?_
  refine g_aload_n B dX11_say_64 rfl 1 rfl ?_
  refine g_get B 0 1 fl_X11_178 rfl rfl dX11_say_65 ?_
  refine g_iload B dX11_say_68 0 rfl ?_
  refine g_iadd B dX11_say_70 ?_
  refine g_ri (x' := 2) (by decide) ?_
  refine g_aload_n B dX11_say_71 rfl 1 rfl ?_
  refine g_get B 0 49 fl_X11_99 rfl rfl dX11_say_72 ?_
  refine g_iload B dX11_say_75 0 rfl ?_
  refine g_iald B 2 rfl (by unfold vp_in; decide) dX11_say_77 ?_
  refine g_iast (ws' := [(m, .inr (11, [.ref r_row, .int 0, .ref r_terms, .ref r_deltas, .int 0, .ref r_tapes, .ref r_taped, .ref r_first, .ref r_second, .int 0, .int 0, .ref r_seen, .ref r_seenWeights, .ref r_seenMedians, .int 0, .int 0, .ref r_term, .ref r_delta, .ref r_weights, .ref r_inputs, .ref r_guesses, .ref r_bases, .ref r_keptWeights, .ref r_keptInputs, .ref r_medians, .int 0, .int 0, .long 0, .long 0, .long 0, .ref r_bits, .int 0, .int 0, .int 0, .ref r_sideBits, .int 0, .int 0, .int 0, .int 0, .int 0, .int 0, .ref r_coded, .int 0, .ref r_read, .ref r_lows, .ref r_highs, .ref r_restsTaken, .ref r_isBelow, .ref r_isWritten, .ref r_five])), (r_row, .inl (E.2.2.1 0, 1200, .inl (upd (upd (upd (fun _ => 0) (Int32.toNatClampNeg 0) ((upd (upd (upd (upd (upd (fun _ => 0) (Int32.toNatClampNeg 0) a1) (Int32.toNatClampNeg 1) a2) (Int32.toNatClampNeg 2) a3) (Int32.toNatClampNeg 3) a4) (Int32.toNatClampNeg 4) a5) (Int32.toNatClampNeg 0))) (Int32.toNatClampNeg 1) ((upd (upd (upd (upd (upd (fun _ => 0) (Int32.toNatClampNeg 0) a1) (Int32.toNatClampNeg 1) a2) (Int32.toNatClampNeg 2) a3) (Int32.toNatClampNeg 3) a4) (Int32.toNatClampNeg 4) a5) (Int32.toNatClampNeg 1))) (Int32.toNatClampNeg 2) ((upd (upd (upd (upd (upd (fun _ => 0) (Int32.toNatClampNeg 0) a1) (Int32.toNatClampNeg 1) a2) (Int32.toNatClampNeg 2) a3) (Int32.toNatClampNeg 3) a4) (Int32.toNatClampNeg 4) a5) (Int32.toNatClampNeg 2))))), (r_five, .inl (E.2.2.1 0, 5, .inl (upd (upd (upd (upd (upd (fun _ => 0) (Int32.toNatClampNeg 0) a1) (Int32.toNatClampNeg 1) a2) (Int32.toNatClampNeg 2) a3) (Int32.toNatClampNeg 3) a4) (Int32.toNatClampNeg 4) a5)))]) B 1 rfl (by unfold vp_in; decide) rfl dX11_say_78 ?_
  refine g_iinc (v := 3) (lv' := [(6, .int 3), (0, .ref m), (1, .int a1), (2, .int a2), (3, .int a3), (4, .int a4), (5, .int a5)]) B dX11_say_79 0 rfl (by decide) (by decide) rfl ?_
  refine g_goto (tgt := 54) B dX11_say_82 (by decide) ?_
  refine g_iload B dX11_say_54 0 rfl ?_
  refine g_iconst (v := 5) B dX11_say_56 (by decide) ?_
  refine g_icmp_ge (tgt := 85) B dX11_say_57 (by decide) (fun h => absurd h (by decide)) (fun c57 => ?_)
  refine g_aload_n B dX11_say_60 rfl 1 rfl ?_
  refine g_get B 0 0 fl_X11_9 rfl rfl dX11_say_61 ?_
  refine g_aload_n B dX11_say_64 rfl 1 rfl ?_
  refine g_get B 0 1 fl_X11_178 rfl rfl dX11_say_65 ?_
  refine g_iload B dX11_say_68 0 rfl ?_
  refine g_iadd B dX11_say_70 ?_
  refine g_ri (x' := 3) (by decide) ?_
  refine g_aload_n B dX11_say_71 rfl 1 rfl ?_
  refine g_get B 0 49 fl_X11_99 rfl rfl dX11_say_72 ?_
  refine g_iload B dX11_say_75 0 rfl ?_
  refine g_iald B 2 rfl (by unfold vp_in; decide) dX11_say_77 ?_
  refine g_iast (ws' := [(m, .inr (11, [.ref r_row, .int 0, .ref r_terms, .ref r_deltas, .int 0, .ref r_tapes, .ref r_taped, .ref r_first, .ref r_second, .int 0, .int 0, .ref r_seen, .ref r_seenWeights, .ref r_seenMedians, .int 0, .int 0, .ref r_term, .ref r_delta, .ref r_weights, .ref r_inputs, .ref r_guesses, .ref r_bases, .ref r_keptWeights, .ref r_keptInputs, .ref r_medians, .int 0, .int 0, .long 0, .long 0, .long 0, .ref r_bits, .int 0, .int 0, .int 0, .ref r_sideBits, .int 0, .int 0, .int 0, .int 0, .int 0, .int 0, .ref r_coded, .int 0, .ref r_read, .ref r_lows, .ref r_highs, .ref r_restsTaken, .ref r_isBelow, .ref r_isWritten, .ref r_five])), (r_row, .inl (E.2.2.1 0, 1200, .inl (upd (upd (upd (upd (fun _ => 0) (Int32.toNatClampNeg 0) ((upd (upd (upd (upd (upd (fun _ => 0) (Int32.toNatClampNeg 0) a1) (Int32.toNatClampNeg 1) a2) (Int32.toNatClampNeg 2) a3) (Int32.toNatClampNeg 3) a4) (Int32.toNatClampNeg 4) a5) (Int32.toNatClampNeg 0))) (Int32.toNatClampNeg 1) ((upd (upd (upd (upd (upd (fun _ => 0) (Int32.toNatClampNeg 0) a1) (Int32.toNatClampNeg 1) a2) (Int32.toNatClampNeg 2) a3) (Int32.toNatClampNeg 3) a4) (Int32.toNatClampNeg 4) a5) (Int32.toNatClampNeg 1))) (Int32.toNatClampNeg 2) ((upd (upd (upd (upd (upd (fun _ => 0) (Int32.toNatClampNeg 0) a1) (Int32.toNatClampNeg 1) a2) (Int32.toNatClampNeg 2) a3) (Int32.toNatClampNeg 3) a4) (Int32.toNatClampNeg 4) a5) (Int32.toNatClampNeg 2))) (Int32.toNatClampNeg 3) ((upd (upd (upd (upd (upd (fun _ => 0) (Int32.toNatClampNeg 0) a1) (Int32.toNatClampNeg 1) a2) (Int32.toNatClampNeg 2) a3) (Int32.toNatClampNeg 3) a4) (Int32.toNatClampNeg 4) a5) (Int32.toNatClampNeg 3))))), (r_five, .inl (E.2.2.1 0, 5, .inl (upd (upd (upd (upd (upd (fun _ => 0) (Int32.toNatClampNeg 0) a1) (Int32.toNatClampNeg 1) a2) (Int32.toNatClampNeg 2) a3) (Int32.toNatClampNeg 3) a4) (Int32.toNatClampNeg 4) a5)))]) B 1 rfl (by unfold vp_in; decide) rfl dX11_say_78 ?_
  refine g_iinc (v := 4) (lv' := [(6, .int 4), (0, .ref m), (1, .int a1), (2, .int a2), (3, .int a3), (4, .int a4), (5, .int a5)]) B dX11_say_79 0 rfl (by decide) (by decide) rfl ?_
  refine g_goto (tgt := 54) B dX11_say_82 (by decide) ?_
  refine g_iload B dX11_say_54 0 rfl ?_
  refine g_iconst (v := 5) B dX11_say_56 (by decide) ?_
  refine g_icmp_ge (tgt := 85) B dX11_say_57 (by decide) (fun h => absurd h (by decide)) (fun c57 => ?_)
  refine g_aload_n B dX11_say_60 rfl 1 rfl ?_
  refine g_get B 0 0 fl_X11_9 rfl rfl dX11_say_61 ?_
  refine g_aload_n B dX11_say_64 rfl 1 rfl ?_
  refine g_get B 0 1 fl_X11_178 rfl rfl dX11_say_65 ?_
  refine g_iload B dX11_say_68 0 rfl ?_
  refine g_iadd B dX11_say_70 ?_
  refine g_ri (x' := 4) (by decide) ?_
  refine g_aload_n B dX11_say_71 rfl 1 rfl ?_
  refine g_get B 0 49 fl_X11_99 rfl rfl dX11_say_72 ?_
  refine g_iload B dX11_say_75 0 rfl ?_
  refine g_iald B 2 rfl (by unfold vp_in; decide) dX11_say_77 ?_
  refine g_iast (ws' := [(m, .inr (11, [.ref r_row, .int 0, .ref r_terms, .ref r_deltas, .int 0, .ref r_tapes, .ref r_taped, .ref r_first, .ref r_second, .int 0, .int 0, .ref r_seen, .ref r_seenWeights, .ref r_seenMedians, .int 0, .int 0, .ref r_term, .ref r_delta, .ref r_weights, .ref r_inputs, .ref r_guesses, .ref r_bases, .ref r_keptWeights, .ref r_keptInputs, .ref r_medians, .int 0, .int 0, .long 0, .long 0, .long 0, .ref r_bits, .int 0, .int 0, .int 0, .ref r_sideBits, .int 0, .int 0, .int 0, .int 0, .int 0, .int 0, .ref r_coded, .int 0, .ref r_read, .ref r_lows, .ref r_highs, .ref r_restsTaken, .ref r_isBelow, .ref r_isWritten, .ref r_five])), (r_row, .inl (E.2.2.1 0, 1200, .inl (upd (upd (upd (upd (upd (fun _ => 0) (Int32.toNatClampNeg 0) ((upd (upd (upd (upd (upd (fun _ => 0) (Int32.toNatClampNeg 0) a1) (Int32.toNatClampNeg 1) a2) (Int32.toNatClampNeg 2) a3) (Int32.toNatClampNeg 3) a4) (Int32.toNatClampNeg 4) a5) (Int32.toNatClampNeg 0))) (Int32.toNatClampNeg 1) ((upd (upd (upd (upd (upd (fun _ => 0) (Int32.toNatClampNeg 0) a1) (Int32.toNatClampNeg 1) a2) (Int32.toNatClampNeg 2) a3) (Int32.toNatClampNeg 3) a4) (Int32.toNatClampNeg 4) a5) (Int32.toNatClampNeg 1))) (Int32.toNatClampNeg 2) ((upd (upd (upd (upd (upd (fun _ => 0) (Int32.toNatClampNeg 0) a1) (Int32.toNatClampNeg 1) a2) (Int32.toNatClampNeg 2) a3) (Int32.toNatClampNeg 3) a4) (Int32.toNatClampNeg 4) a5) (Int32.toNatClampNeg 2))) (Int32.toNatClampNeg 3) ((upd (upd (upd (upd (upd (fun _ => 0) (Int32.toNatClampNeg 0) a1) (Int32.toNatClampNeg 1) a2) (Int32.toNatClampNeg 2) a3) (Int32.toNatClampNeg 3) a4) (Int32.toNatClampNeg 4) a5) (Int32.toNatClampNeg 3))) (Int32.toNatClampNeg 4) ((upd (upd (upd (upd (upd (fun _ => 0) (Int32.toNatClampNeg 0) a1) (Int32.toNatClampNeg 1) a2) (Int32.toNatClampNeg 2) a3) (Int32.toNatClampNeg 3) a4) (Int32.toNatClampNeg 4) a5) (Int32.toNatClampNeg 4))))), (r_five, .inl (E.2.2.1 0, 5, .inl (upd (upd (upd (upd (upd (fun _ => 0) (Int32.toNatClampNeg 0) a1) (Int32.toNatClampNeg 1) a2) (Int32.toNatClampNeg 2) a3) (Int32.toNatClampNeg 3) a4) (Int32.toNatClampNeg 4) a5)))]) B 1 rfl (by unfold vp_in; decide) rfl dX11_say_78 ?_
  refine g_iinc (v := 5) (lv' := [(6, .int 5), (0, .ref m), (1, .int a1), (2, .int a2), (3, .int a3), (4, .int a4), (5, .int a5)]) B dX11_say_79 0 rfl (by decide) (by decide) rfl ?_
  refine g_goto (tgt := 54) B dX11_say_82 (by decide) ?_
  refine g_iload B dX11_say_54 0 rfl ?_
  refine g_iconst (v := 5) B dX11_say_56 (by decide) ?_
  refine g_icmp_ge (tgt := 85) B dX11_say_57 (by decide) (fun c57 => ?_) (fun h => absurd (by decide) h)
  refine g_aload_n B dX11_say_85 rfl 1 rfl ?_
  refine g_dup B dX11_say_86 rfl ?_
  refine g_get B 0 1 fl_X11_178 rfl rfl dX11_say_87 ?_
  refine g_iconst (v := 5) B dX11_say_90 (by decide) ?_
  refine g_iadd B dX11_say_91 ?_
  refine g_ri (x' := 5) (by decide) ?_
  refine g_put (ws' := [(m, .inr (11, [.ref r_row, .int 5, .ref r_terms, .ref r_deltas, .int 0, .ref r_tapes, .ref r_taped, .ref r_first, .ref r_second, .int 0, .int 0, .ref r_seen, .ref r_seenWeights, .ref r_seenMedians, .int 0, .int 0, .ref r_term, .ref r_delta, .ref r_weights, .ref r_inputs, .ref r_guesses, .ref r_bases, .ref r_keptWeights, .ref r_keptInputs, .ref r_medians, .int 0, .int 0, .long 0, .long 0, .long 0, .ref r_bits, .int 0, .int 0, .int 0, .ref r_sideBits, .int 0, .int 0, .int 0, .int 0, .int 0, .int 0, .ref r_coded, .int 0, .ref r_read, .ref r_lows, .ref r_highs, .ref r_restsTaken, .ref r_isBelow, .ref r_isWritten, .ref r_five])), (r_row, .inl (E.2.2.1 0, 1200, .inl (upd (upd (upd (upd (upd (fun _ => 0) (Int32.toNatClampNeg 0) ((upd (upd (upd (upd (upd (fun _ => 0) (Int32.toNatClampNeg 0) a1) (Int32.toNatClampNeg 1) a2) (Int32.toNatClampNeg 2) a3) (Int32.toNatClampNeg 3) a4) (Int32.toNatClampNeg 4) a5) (Int32.toNatClampNeg 0))) (Int32.toNatClampNeg 1) ((upd (upd (upd (upd (upd (fun _ => 0) (Int32.toNatClampNeg 0) a1) (Int32.toNatClampNeg 1) a2) (Int32.toNatClampNeg 2) a3) (Int32.toNatClampNeg 3) a4) (Int32.toNatClampNeg 4) a5) (Int32.toNatClampNeg 1))) (Int32.toNatClampNeg 2) ((upd (upd (upd (upd (upd (fun _ => 0) (Int32.toNatClampNeg 0) a1) (Int32.toNatClampNeg 1) a2) (Int32.toNatClampNeg 2) a3) (Int32.toNatClampNeg 3) a4) (Int32.toNatClampNeg 4) a5) (Int32.toNatClampNeg 2))) (Int32.toNatClampNeg 3) ((upd (upd (upd (upd (upd (fun _ => 0) (Int32.toNatClampNeg 0) a1) (Int32.toNatClampNeg 1) a2) (Int32.toNatClampNeg 2) a3) (Int32.toNatClampNeg 3) a4) (Int32.toNatClampNeg 4) a5) (Int32.toNatClampNeg 3))) (Int32.toNatClampNeg 4) ((upd (upd (upd (upd (upd (fun _ => 0) (Int32.toNatClampNeg 0) a1) (Int32.toNatClampNeg 1) a2) (Int32.toNatClampNeg 2) a3) (Int32.toNatClampNeg 3) a4) (Int32.toNatClampNeg 4) a5) (Int32.toNatClampNeg 4))))), (r_five, .inl (E.2.2.1 0, 5, .inl (upd (upd (upd (upd (upd (fun _ => 0) (Int32.toNatClampNeg 0) a1) (Int32.toNatClampNeg 1) a2) (Int32.toNatClampNeg 2) a3) (Int32.toNatClampNeg 3) a4) (Int32.toNatClampNeg 4) a5)))]) B 0 1 fl_X11_178 pf_X11_1 rfl (Nat.le_of_ble_eq_true rfl) rfl rfl rfl dX11_say_92 ?_
  refine g_aload_n B dX11_say_95 rfl 1 rfl ?_
  refine g_get B 0 1 fl_X11_178 rfl rfl dX11_say_96 ?_
  exact g_iret B hr dX11_say_99 (by decide) (by decide) rfl
abbrev MX11_cut : g_M := (yX11_cut, cX11_cut, 2, (some .boolean))
theorem dX11_cut_0 : decode cX11_cut 0 = .ok (.iload_n 1, 1) := by decide +kernel
theorem dX11_cut_1 : decode cX11_cut 1 = .ok (.ifCond .lt 11, 3) := by decide +kernel
theorem dX11_cut_12 : decode cX11_cut 12 = .ok (.iconst 0, 1) := by decide +kernel
theorem dX11_cut_13 : decode cX11_cut 13 = .ok (.ireturn, 1) := by decide +kernel
theorem dX11_cut_4 : decode cX11_cut 4 = .ok (.iload_n 1, 1) := by decide +kernel
theorem dX11_cut_5 : decode cX11_cut 5 = .ok (.aload_n 0, 1) := by decide +kernel
theorem dX11_cut_6 : decode cX11_cut 6 = .ok (.getfield 178, 3) := by decide +kernel
theorem dX11_cut_9 : decode cX11_cut 9 = .ok (.if_icmp .le 5, 3) := by decide +kernel
theorem dX11_cut_14 : decode cX11_cut 14 = .ok (.aload_n 0, 1) := by decide +kernel
theorem dX11_cut_15 : decode cX11_cut 15 = .ok (.iload_n 1, 1) := by decide +kernel
theorem dX11_cut_16 : decode cX11_cut 16 = .ok (.putfield 178, 3) := by decide +kernel
theorem dX11_cut_19 : decode cX11_cut 19 = .ok (.iconst 1, 1) := by decide +kernel
theorem dX11_cut_20 : decode cX11_cut 20 = .ok (.ireturn, 1) := by decide +kernel
set_option maxRecDepth 100000 in
set_option maxHeartbeats 4000000 in
theorem ev_X11_cut (E : g_E) (m : Nat) (r_row : Nat) (r_terms : Nat) (r_deltas : Nat) (r_tapes : Nat) (r_taped : Nat) (r_first : Nat) (r_second : Nat) (r_seen : Nat) (r_seenWeights : Nat) (r_seenMedians : Nat) (r_term : Nat) (r_delta : Nat) (r_weights : Nat) (r_inputs : Nat) (r_guesses : Nat) (r_bases : Nat) (r_keptWeights : Nat) (r_keptInputs : Nat) (r_medians : Nat) (r_bits : Nat) (r_sideBits : Nat) (r_coded : Nat) (r_read : Nat) (r_lows : Nat) (r_highs : Nat) (r_restsTaken : Nat) (r_isBelow : Nat) (r_isWritten : Nat) (r_five : Nat) (n : Int32)  : Ev E MX11_cut 0 0 0 0 [.ref m, .int n] [(m, .inr (11, [.ref r_row, .int 0, .ref r_terms, .ref r_deltas, .int 0, .ref r_tapes, .ref r_taped, .ref r_first, .ref r_second, .int 0, .int 0, .ref r_seen, .ref r_seenWeights, .ref r_seenMedians, .int 0, .int 0, .ref r_term, .ref r_delta, .ref r_weights, .ref r_inputs, .ref r_guesses, .ref r_bases, .ref r_keptWeights, .ref r_keptInputs, .ref r_medians, .int 0, .int 0, .long 0, .long 0, .long 0, .ref r_bits, .int 0, .int 0, .int 0, .ref r_sideBits, .int 0, .int 0, .int 0, .int 0, .int 0, .int 0, .ref r_coded, .int 0, .ref r_read, .ref r_lows, .ref r_highs, .ref r_restsTaken, .ref r_isBelow, .ref r_isWritten, .ref r_five]))] (fun v_ w_ => v_ = some (.int (p1_cut n))) := by
  refine Ev.intro (by decide) (Nat.le_of_ble_eq_true rfl) ?_
  intro X B hr hI
  have B : Bd E X cX11_cut RX11 2 0 0 0 0 := B
  have hr : Rt E X (some .boolean) 0 0 (fun v_ w_ => v_ = some (.int (p1_cut n))) := hr
  show G E X 2 [(m, .inr (11, [.ref r_row, .int 0, .ref r_terms, .ref r_deltas, .int 0, .ref r_tapes, .ref r_taped, .ref r_first, .ref r_second, .int 0, .int 0, .ref r_seen, .ref r_seenWeights, .ref r_seenMedians, .int 0, .int 0, .ref r_term, .ref r_delta, .ref r_weights, .ref r_inputs, .ref r_guesses, .ref r_bases, .ref r_keptWeights, .ref r_keptInputs, .ref r_medians, .int 0, .int 0, .long 0, .long 0, .long 0, .ref r_bits, .int 0, .int 0, .int 0, .ref r_sideBits, .int 0, .int 0, .int 0, .int 0, .int 0, .int 0, .ref r_coded, .int 0, .ref r_read, .ref r_lows, .ref r_highs, .ref r_restsTaken, .ref r_isBelow, .ref r_isWritten, .ref r_five]))] 0 0 [(0, .ref m), (1, .int n)] 0 []
  refine g_iload_n B dX11_cut_0 rfl 1 rfl ?_
  refine g_if_lt (tgt := 12) B dX11_cut_1 (by decide) (fun c1_156 => ?_) (fun c1_156 => ?_)
  · refine g_iconst (v := 0) B dX11_cut_12 (by decide) ?_
    exact g_zret B hr (by decide) dX11_cut_13 (by decide) (by decide) (by simp [p1_cut, c1_156])
  · refine g_iload_n B dX11_cut_4 rfl 1 rfl ?_
    refine g_aload_n B dX11_cut_5 rfl 0 rfl ?_
    refine g_get B 0 1 fl_X11_178 rfl rfl dX11_cut_6 ?_
    refine g_icmp_le (tgt := 14) B dX11_cut_9 (by decide) (fun c9_157 => ?_) (fun c9_157 => ?_)
    · refine g_aload_n B dX11_cut_14 rfl 0 rfl ?_
      refine g_iload_n B dX11_cut_15 rfl 1 rfl ?_
      refine g_put (ws' := [(m, .inr (11, [.ref r_row, .int n, .ref r_terms, .ref r_deltas, .int 0, .ref r_tapes, .ref r_taped, .ref r_first, .ref r_second, .int 0, .int 0, .ref r_seen, .ref r_seenWeights, .ref r_seenMedians, .int 0, .int 0, .ref r_term, .ref r_delta, .ref r_weights, .ref r_inputs, .ref r_guesses, .ref r_bases, .ref r_keptWeights, .ref r_keptInputs, .ref r_medians, .int 0, .int 0, .long 0, .long 0, .long 0, .ref r_bits, .int 0, .int 0, .int 0, .ref r_sideBits, .int 0, .int 0, .int 0, .int 0, .int 0, .int 0, .ref r_coded, .int 0, .ref r_read, .ref r_lows, .ref r_highs, .ref r_restsTaken, .ref r_isBelow, .ref r_isWritten, .ref r_five]))]) B 0 1 fl_X11_178 pf_X11_1 rfl (Nat.le_of_ble_eq_true rfl) rfl rfl rfl dX11_cut_16 ?_
      refine g_iconst (v := 1) B dX11_cut_19 (by decide) ?_
      exact g_zret B hr (by decide) dX11_cut_20 (by decide) (by decide) (by simp [p1_cut, c1_156, c9_157])
    · refine g_iconst (v := 0) B dX11_cut_12 (by decide) ?_
      exact g_zret B hr (by decide) dX11_cut_13 (by decide) (by decide) (by simp [p1_cut, c1_156, c9_157])
abbrev MX11_row : g_M := (yX11_row, cX11_row, 2, (some .int))
theorem dX11_row_0 : decode cX11_row 0 = .ok (.iload_n 1, 1) := by decide +kernel
theorem dX11_row_1 : decode cX11_row 1 = .ok (.ifCond .lt 11, 3) := by decide +kernel
theorem dX11_row_12 : decode cX11_row 12 = .ok (.iconst 0, 1) := by decide +kernel
theorem dX11_row_13 : decode cX11_row 13 = .ok (.goto 9, 3) := by decide +kernel
theorem dX11_row_22 : decode cX11_row 22 = .ok (.ireturn, 1) := by decide +kernel
theorem dX11_row_4 : decode cX11_row 4 = .ok (.iload_n 1, 1) := by decide +kernel
theorem dX11_row_5 : decode cX11_row 5 = .ok (.aload_n 0, 1) := by decide +kernel
theorem dX11_row_6 : decode cX11_row 6 = .ok (.getfield 178, 3) := by decide +kernel
theorem dX11_row_9 : decode cX11_row 9 = .ok (.if_icmp .lt 7, 3) := by decide +kernel
set_option maxRecDepth 100000 in
set_option maxHeartbeats 4000000 in
theorem ev_X11_row (E : g_E) (m : Nat) (r_row : Nat) (r_terms : Nat) (r_deltas : Nat) (r_tapes : Nat) (r_taped : Nat) (r_first : Nat) (r_second : Nat) (r_seen : Nat) (r_seenWeights : Nat) (r_seenMedians : Nat) (r_term : Nat) (r_delta : Nat) (r_weights : Nat) (r_inputs : Nat) (r_guesses : Nat) (r_bases : Nat) (r_keptWeights : Nat) (r_keptInputs : Nat) (r_medians : Nat) (r_bits : Nat) (r_sideBits : Nat) (r_coded : Nat) (r_read : Nat) (r_lows : Nat) (r_highs : Nat) (r_restsTaken : Nat) (r_isBelow : Nat) (r_isWritten : Nat) (r_five : Nat) (i : Int32)  : Ev E MX11_row 0 0 0 0 [.ref m, .int i] [(m, .inr (11, [.ref r_row, .int 0, .ref r_terms, .ref r_deltas, .int 0, .ref r_tapes, .ref r_taped, .ref r_first, .ref r_second, .int 0, .int 0, .ref r_seen, .ref r_seenWeights, .ref r_seenMedians, .int 0, .int 0, .ref r_term, .ref r_delta, .ref r_weights, .ref r_inputs, .ref r_guesses, .ref r_bases, .ref r_keptWeights, .ref r_keptInputs, .ref r_medians, .int 0, .int 0, .long 0, .long 0, .long 0, .ref r_bits, .int 0, .int 0, .int 0, .ref r_sideBits, .int 0, .int 0, .int 0, .int 0, .int 0, .int 0, .ref r_coded, .int 0, .ref r_read, .ref r_lows, .ref r_highs, .ref r_restsTaken, .ref r_isBelow, .ref r_isWritten, .ref r_five])), (r_row, .inl (E.2.2.1 0, 1200, .inl (fun _ => 0)))] (fun v_ w_ => v_ = some (.int 0)) := by
  refine Ev.intro (by decide) (Nat.le_of_ble_eq_true rfl) ?_
  intro X B hr hI
  have B : Bd E X cX11_row RX11 2 0 0 0 0 := B
  have hr : Rt E X (some .int) 0 0 (fun v_ w_ => v_ = some (.int 0)) := hr
  show G E X 2 [(m, .inr (11, [.ref r_row, .int 0, .ref r_terms, .ref r_deltas, .int 0, .ref r_tapes, .ref r_taped, .ref r_first, .ref r_second, .int 0, .int 0, .ref r_seen, .ref r_seenWeights, .ref r_seenMedians, .int 0, .int 0, .ref r_term, .ref r_delta, .ref r_weights, .ref r_inputs, .ref r_guesses, .ref r_bases, .ref r_keptWeights, .ref r_keptInputs, .ref r_medians, .int 0, .int 0, .long 0, .long 0, .long 0, .ref r_bits, .int 0, .int 0, .int 0, .ref r_sideBits, .int 0, .int 0, .int 0, .int 0, .int 0, .int 0, .ref r_coded, .int 0, .ref r_read, .ref r_lows, .ref r_highs, .ref r_restsTaken, .ref r_isBelow, .ref r_isWritten, .ref r_five])), (r_row, .inl (E.2.2.1 0, 1200, .inl (fun _ => 0)))] 0 0 [(0, .ref m), (1, .int i)] 0 []
  refine g_iload_n B dX11_row_0 rfl 1 rfl ?_
  refine g_if_lt (tgt := 12) B dX11_row_1 (by decide) (fun c1_158 => ?_) (fun c1_158 => ?_)
  · refine g_iconst (v := 0) B dX11_row_12 (by decide) ?_
    refine g_goto (tgt := 22) B dX11_row_13 (by decide) ?_
    exact g_iret B hr dX11_row_22 (by decide) (by decide) rfl
  · refine g_iload_n B dX11_row_4 rfl 1 rfl ?_
    refine g_aload_n B dX11_row_5 rfl 0 rfl ?_
    refine g_get B 0 1 fl_X11_178 rfl rfl dX11_row_6 ?_
    refine g_icmp_lt (tgt := 16) B dX11_row_9 (by decide) (fun h => absurd h c1_158) (fun c9 => ?_)
    refine g_iconst (v := 0) B dX11_row_12 (by decide) ?_
    refine g_goto (tgt := 22) B dX11_row_13 (by decide) ?_
    exact g_iret B hr dX11_row_22 (by decide) (by decide) rfl
abbrev MX11_rows : g_M := (yX11_rows, cX11_rows, 1, (some .int))
theorem dX11_rows_0 : decode cX11_rows 0 = .ok (.aload_n 0, 1) := by decide +kernel
theorem dX11_rows_1 : decode cX11_rows 1 = .ok (.getfield 178, 3) := by decide +kernel
theorem dX11_rows_4 : decode cX11_rows 4 = .ok (.ireturn, 1) := by decide +kernel
set_option maxRecDepth 100000 in
set_option maxHeartbeats 4000000 in
theorem ev_X11_rows (E : g_E) (m : Nat) (r_row : Nat) (r_terms : Nat) (r_deltas : Nat) (r_tapes : Nat) (r_taped : Nat) (r_first : Nat) (r_second : Nat) (r_seen : Nat) (r_seenWeights : Nat) (r_seenMedians : Nat) (r_term : Nat) (r_delta : Nat) (r_weights : Nat) (r_inputs : Nat) (r_guesses : Nat) (r_bases : Nat) (r_keptWeights : Nat) (r_keptInputs : Nat) (r_medians : Nat) (r_bits : Nat) (r_sideBits : Nat) (r_coded : Nat) (r_read : Nat) (r_lows : Nat) (r_highs : Nat) (r_restsTaken : Nat) (r_isBelow : Nat) (r_isWritten : Nat) (r_five : Nat)  : Ev E MX11_rows 0 0 0 0 [.ref m] [(m, .inr (11, [.ref r_row, .int 0, .ref r_terms, .ref r_deltas, .int 0, .ref r_tapes, .ref r_taped, .ref r_first, .ref r_second, .int 0, .int 0, .ref r_seen, .ref r_seenWeights, .ref r_seenMedians, .int 0, .int 0, .ref r_term, .ref r_delta, .ref r_weights, .ref r_inputs, .ref r_guesses, .ref r_bases, .ref r_keptWeights, .ref r_keptInputs, .ref r_medians, .int 0, .int 0, .long 0, .long 0, .long 0, .ref r_bits, .int 0, .int 0, .int 0, .ref r_sideBits, .int 0, .int 0, .int 0, .int 0, .int 0, .int 0, .ref r_coded, .int 0, .ref r_read, .ref r_lows, .ref r_highs, .ref r_restsTaken, .ref r_isBelow, .ref r_isWritten, .ref r_five]))] (fun v_ w_ => v_ = some (.int 0)) := by
  refine Ev.intro (by decide) (Nat.le_of_ble_eq_true rfl) ?_
  intro X B hr hI
  have B : Bd E X cX11_rows RX11 1 0 0 0 0 := B
  have hr : Rt E X (some .int) 0 0 (fun v_ w_ => v_ = some (.int 0)) := hr
  show G E X 1 [(m, .inr (11, [.ref r_row, .int 0, .ref r_terms, .ref r_deltas, .int 0, .ref r_tapes, .ref r_taped, .ref r_first, .ref r_second, .int 0, .int 0, .ref r_seen, .ref r_seenWeights, .ref r_seenMedians, .int 0, .int 0, .ref r_term, .ref r_delta, .ref r_weights, .ref r_inputs, .ref r_guesses, .ref r_bases, .ref r_keptWeights, .ref r_keptInputs, .ref r_medians, .int 0, .int 0, .long 0, .long 0, .long 0, .ref r_bits, .int 0, .int 0, .int 0, .ref r_sideBits, .int 0, .int 0, .int 0, .int 0, .int 0, .int 0, .ref r_coded, .int 0, .ref r_read, .ref r_lows, .ref r_highs, .ref r_restsTaken, .ref r_isBelow, .ref r_isWritten, .ref r_five]))] 0 0 [(0, .ref m)] 0 []
  refine g_aload_n B dX11_rows_0 rfl 0 rfl ?_
  refine g_get B 0 1 fl_X11_178 rfl rfl dX11_rows_1 ?_
  exact g_iret B hr dX11_rows_4 (by decide) (by decide) rfl
abbrev MX11_isTerm : g_M := (yX11_isTerm, cX11_isTerm, 1, (some .boolean))
theorem dX11_isTerm_0 : decode cX11_isTerm 0 = .ok (.iload_n 0, 1) := by decide +kernel
theorem dX11_isTerm_1 : decode cX11_isTerm 1 = .ok (.iconst 1, 1) := by decide +kernel
theorem dX11_isTerm_2 : decode cX11_isTerm 2 = .ok (.if_icmp .lt 9, 3) := by decide +kernel
theorem dX11_isTerm_11 : decode cX11_isTerm 11 = .ok (.iload_n 0, 1) := by decide +kernel
theorem dX11_isTerm_12 : decode cX11_isTerm 12 = .ok (.bipush 17, 2) := by decide +kernel
theorem dX11_isTerm_14 : decode cX11_isTerm 14 = .ok (.if_icmp .eq 20, 3) := by decide +kernel
theorem dX11_isTerm_34 : decode cX11_isTerm 34 = .ok (.iconst 1, 1) := by decide +kernel
theorem dX11_isTerm_35 : decode cX11_isTerm 35 = .ok (.goto 4, 3) := by decide +kernel
theorem dX11_isTerm_39 : decode cX11_isTerm 39 = .ok (.ireturn, 1) := by decide +kernel
theorem dX11_isTerm_17 : decode cX11_isTerm 17 = .ok (.iload_n 0, 1) := by decide +kernel
theorem dX11_isTerm_18 : decode cX11_isTerm 18 = .ok (.bipush 18, 2) := by decide +kernel
theorem dX11_isTerm_20 : decode cX11_isTerm 20 = .ok (.if_icmp .eq 14, 3) := by decide +kernel
theorem dX11_isTerm_23 : decode cX11_isTerm 23 = .ok (.iload_n 0, 1) := by decide +kernel
theorem dX11_isTerm_24 : decode cX11_isTerm 24 = .ok (.iconst (-1), 1) := by decide +kernel
theorem dX11_isTerm_25 : decode cX11_isTerm 25 = .ok (.if_icmp .eq 9, 3) := by decide +kernel
theorem dX11_isTerm_28 : decode cX11_isTerm 28 = .ok (.iload_n 0, 1) := by decide +kernel
theorem dX11_isTerm_29 : decode cX11_isTerm 29 = .ok (.bipush (-3), 2) := by decide +kernel
theorem dX11_isTerm_31 : decode cX11_isTerm 31 = .ok (.if_icmp .ne 7, 3) := by decide +kernel
theorem dX11_isTerm_38 : decode cX11_isTerm 38 = .ok (.iconst 0, 1) := by decide +kernel
theorem dX11_isTerm_5 : decode cX11_isTerm 5 = .ok (.iload_n 0, 1) := by decide +kernel
theorem dX11_isTerm_6 : decode cX11_isTerm 6 = .ok (.bipush 8, 2) := by decide +kernel
theorem dX11_isTerm_8 : decode cX11_isTerm 8 = .ok (.if_icmp .le 26, 3) := by decide +kernel
set_option maxRecDepth 100000 in
set_option maxHeartbeats 4000000 in
theorem ev_X11_isTerm (E : g_E) (t : Int32)  : Ev E MX11_isTerm 0 0 0 0 [.int t] [] (fun v_ w_ => v_ = some (.int (tI t)) ∧ w_ = []) := by
  refine Ev.intro (by decide) (Nat.le_of_ble_eq_true rfl) ?_
  intro X B hr hI
  have B : Bd E X cX11_isTerm RX11 1 0 0 0 0 := B
  have hr : Rt E X (some .boolean) 0 0 (fun v_ w_ => v_ = some (.int (tI t)) ∧ w_ = []) := hr
  show G E X 1 [] 0 0 [(0, .int t)] 0 []
  refine g_iload_n B dX11_isTerm_0 rfl 0 rfl ?_
  refine g_iconst (v := 1) B dX11_isTerm_1 (by decide) ?_
  refine g_icmp_lt (tgt := 11) B dX11_isTerm_2 (by decide) (fun c2_159 => ?_) (fun c2_159 => ?_)
  · refine g_iload_n B dX11_isTerm_11 rfl 0 rfl ?_
    refine g_bipush (v := 17) B dX11_isTerm_12 (by decide) ?_
    refine g_icmp_eq (tgt := 34) B dX11_isTerm_14 (by decide) (fun c14_160 => ?_) (fun c14_160 => ?_)
    · refine g_iconst (v := 1) B dX11_isTerm_34 (by decide) ?_
      refine g_goto (tgt := 39) B dX11_isTerm_35 (by decide) ?_
      exact g_zret B hr (by decide) dX11_isTerm_39 (by decide) (by decide) ⟨by simp [tI, c2_159, c14_160], rfl⟩
    · refine g_iload_n B dX11_isTerm_17 rfl 0 rfl ?_
      refine g_bipush (v := 18) B dX11_isTerm_18 (by decide) ?_
      refine g_icmp_eq (tgt := 34) B dX11_isTerm_20 (by decide) (fun c20_161 => ?_) (fun c20_161 => ?_)
      · refine g_iconst (v := 1) B dX11_isTerm_34 (by decide) ?_
        refine g_goto (tgt := 39) B dX11_isTerm_35 (by decide) ?_
        exact g_zret B hr (by decide) dX11_isTerm_39 (by decide) (by decide) ⟨by simp [tI, c2_159, c14_160, c20_161], rfl⟩
      · refine g_iload_n B dX11_isTerm_23 rfl 0 rfl ?_
        refine g_iconst (v := (-1)) B dX11_isTerm_24 (by decide) ?_
        refine g_icmp_eq (tgt := 34) B dX11_isTerm_25 (by decide) (fun c25_162 => ?_) (fun c25_162 => ?_)
        · refine g_iconst (v := 1) B dX11_isTerm_34 (by decide) ?_
          refine g_goto (tgt := 39) B dX11_isTerm_35 (by decide) ?_
          exact g_zret B hr (by decide) dX11_isTerm_39 (by decide) (by decide) ⟨by simp [tI, c2_159, c14_160, c20_161, c25_162], rfl⟩
        · refine g_iload_n B dX11_isTerm_28 rfl 0 rfl ?_
          refine g_bipush (v := (-3)) B dX11_isTerm_29 (by decide) ?_
          refine g_icmp_ne (tgt := 38) B dX11_isTerm_31 (by decide) (fun c31_163 => ?_) (fun c31_163 => ?_)
          · refine g_iconst (v := 0) B dX11_isTerm_38 (by decide) ?_
            exact g_zret B hr (by decide) dX11_isTerm_39 (by decide) (by decide) ⟨by simp [tI, c2_159, c14_160, c20_161, c25_162, c31_163], rfl⟩
          · refine g_iconst (v := 1) B dX11_isTerm_34 (by decide) ?_
            refine g_goto (tgt := 39) B dX11_isTerm_35 (by decide) ?_
            exact g_zret B hr (by decide) dX11_isTerm_39 (by decide) (by decide) ⟨by simp [tI, c2_159, c14_160, c20_161, c25_162, c31_163], rfl⟩
  · refine g_iload_n B dX11_isTerm_5 rfl 0 rfl ?_
    refine g_bipush (v := 8) B dX11_isTerm_6 (by decide) ?_
    refine g_icmp_le (tgt := 34) B dX11_isTerm_8 (by decide) (fun c8_164 => ?_) (fun c8_164 => ?_)
    · refine g_iconst (v := 1) B dX11_isTerm_34 (by decide) ?_
      refine g_goto (tgt := 39) B dX11_isTerm_35 (by decide) ?_
      exact g_zret B hr (by decide) dX11_isTerm_39 (by decide) (by decide) ⟨by simp [tI, c2_159, c8_164], rfl⟩
    · refine g_iload_n B dX11_isTerm_11 rfl 0 rfl ?_
      refine g_bipush (v := 17) B dX11_isTerm_12 (by decide) ?_
      refine g_icmp_eq (tgt := 34) B dX11_isTerm_14 (by decide) (fun c14_165 => ?_) (fun c14_165 => ?_)
      · refine g_iconst (v := 1) B dX11_isTerm_34 (by decide) ?_
        refine g_goto (tgt := 39) B dX11_isTerm_35 (by decide) ?_
        exact g_zret B hr (by decide) dX11_isTerm_39 (by decide) (by decide) ⟨by simp [tI, c2_159, c8_164, c14_165], rfl⟩
      · refine g_iload_n B dX11_isTerm_17 rfl 0 rfl ?_
        refine g_bipush (v := 18) B dX11_isTerm_18 (by decide) ?_
        refine g_icmp_eq (tgt := 34) B dX11_isTerm_20 (by decide) (fun c20_166 => ?_) (fun c20_166 => ?_)
        · refine g_iconst (v := 1) B dX11_isTerm_34 (by decide) ?_
          refine g_goto (tgt := 39) B dX11_isTerm_35 (by decide) ?_
          exact g_zret B hr (by decide) dX11_isTerm_39 (by decide) (by decide) ⟨by simp [tI, c2_159, c8_164, c14_165, c20_166], rfl⟩
        · refine g_iload_n B dX11_isTerm_23 rfl 0 rfl ?_
          refine g_iconst (v := (-1)) B dX11_isTerm_24 (by decide) ?_
          refine g_icmp_eq (tgt := 34) B dX11_isTerm_25 (by decide) (fun c25_167 => ?_) (fun c25_167 => ?_)
          · refine g_iconst (v := 1) B dX11_isTerm_34 (by decide) ?_
            refine g_goto (tgt := 39) B dX11_isTerm_35 (by decide) ?_
            exact g_zret B hr (by decide) dX11_isTerm_39 (by decide) (by decide) ⟨by simp [tI, c2_159, c8_164, c14_165, c20_166, c25_167], rfl⟩
          · refine g_iload_n B dX11_isTerm_28 rfl 0 rfl ?_
            refine g_bipush (v := (-3)) B dX11_isTerm_29 (by decide) ?_
            refine g_icmp_ne (tgt := 38) B dX11_isTerm_31 (by decide) (fun c31_168 => ?_) (fun c31_168 => ?_)
            · refine g_iconst (v := 0) B dX11_isTerm_38 (by decide) ?_
              exact g_zret B hr (by decide) dX11_isTerm_39 (by decide) (by decide) ⟨by simp [tI, c2_159, c8_164, c14_165, c20_166, c25_167, c31_168], rfl⟩
            · refine g_iconst (v := 1) B dX11_isTerm_34 (by decide) ?_
              refine g_goto (tgt := 39) B dX11_isTerm_35 (by decide) ?_
              exact g_zret B hr (by decide) dX11_isTerm_39 (by decide) (by decide) ⟨by simp [tI, c2_159, c8_164, c14_165, c20_166, c25_167, c31_168], rfl⟩
abbrev MX11_pass : g_M := (yX11_pass, cX11_pass, 3, (some .int))
theorem dX11_pass_0 : decode cX11_pass 0 = .ok (.aload_n 0, 1) := by decide +kernel
theorem dX11_pass_1 : decode cX11_pass 1 = .ok (.getfield 271, 3) := by decide +kernel
theorem w_fl_X11_271 : Cond.fieldLink RX11 271 (TX11 4).1 (TX11 4).2.1 (TX11 4).2.2.1 ∈ g_tbl := g_tbl_in 884 (by decide +kernel) (by decide +kernel)
theorem fl_X11_271 : FL RX11 271 11 4 := ⟨RX11, TX11, 50, rfl, by decide, inX_X11, w_fl_X11_271⟩
theorem dX11_pass_4 : decode cX11_pass 4 = .ok (.bipush 8, 2) := by decide +kernel
theorem dX11_pass_6 : decode cX11_pass 6 = .ok (.if_icmp .eq 21, 3) := by decide +kernel
theorem dX11_pass_9 : decode cX11_pass 9 = .ok (.iload_n 1, 1) := by decide +kernel
theorem dX11_pass_10 : decode cX11_pass 10 = .ok (.invokestatic 324, 3) := by decide +kernel
theorem w_ml_X11_324 : Cond.methodLink RX11 324 yX11_isTerm ∈ g_tbl := g_tbl_in 1206 (by decide +kernel) (by decide +kernel)
theorem w_cd_X11_isTerm : g_cw MX11_isTerm ∈ g_tbl := g_tbl_in 1208 (by decide +kernel) (by decide +kernel)
theorem w_ini_X11 : Cond.initialized RX11 ∈ g_tbl := g_tbl_in 80 (by decide +kernel) (by decide +kernel)
theorem cl_X11_324 : CL RX11 324 1 MX11_isTerm := ⟨w_ml_X11_324, w_cd_X11_isTerm, w_ini_X11, by decide +kernel, by decide +kernel, by decide +kernel⟩
theorem w_sm_X11_isTerm : Cond.static yX11_isTerm ∈ g_tbl := g_tbl_in 1207 (by decide +kernel) (by decide +kernel)
theorem dX11_pass_13 : decode cX11_pass 13 = .ok (.ifCond .eq 14, 3) := by decide +kernel
theorem dX11_pass_27 : decode cX11_pass 27 = .ok (.iconst (-1), 1) := by decide +kernel
theorem dX11_pass_28 : decode cX11_pass 28 = .ok (.ireturn, 1) := by decide +kernel
theorem dX11_pass_16 : decode cX11_pass 16 = .ok (.iload_n 2, 1) := by decide +kernel
theorem dX11_pass_17 : decode cX11_pass 17 = .ok (.iconst 1, 1) := by decide +kernel
theorem dX11_pass_18 : decode cX11_pass 18 = .ok (.if_icmp .lt 9, 3) := by decide +kernel
theorem dX11_pass_21 : decode cX11_pass 21 = .ok (.iload_n 2, 1) := by decide +kernel
theorem dX11_pass_22 : decode cX11_pass 22 = .ok (.bipush 7, 2) := by decide +kernel
theorem dX11_pass_24 : decode cX11_pass 24 = .ok (.if_icmp .le 5, 3) := by decide +kernel
theorem dX11_pass_29 : decode cX11_pass 29 = .ok (.aload_n 0, 1) := by decide +kernel
theorem dX11_pass_30 : decode cX11_pass 30 = .ok (.getfield 13, 3) := by decide +kernel
theorem dX11_pass_33 : decode cX11_pass 33 = .ok (.aload_n 0, 1) := by decide +kernel
theorem dX11_pass_34 : decode cX11_pass 34 = .ok (.getfield 271, 3) := by decide +kernel
theorem dX11_pass_37 : decode cX11_pass 37 = .ok (.iload_n 1, 1) := by decide +kernel
theorem dX11_pass_38 : decode cX11_pass 38 = .ok (.iastore, 1) := by decide +kernel
theorem dX11_pass_39 : decode cX11_pass 39 = .ok (.aload_n 0, 1) := by decide +kernel
theorem dX11_pass_40 : decode cX11_pass 40 = .ok (.getfield 16, 3) := by decide +kernel
theorem dX11_pass_43 : decode cX11_pass 43 = .ok (.aload_n 0, 1) := by decide +kernel
theorem dX11_pass_44 : decode cX11_pass 44 = .ok (.getfield 271, 3) := by decide +kernel
theorem dX11_pass_47 : decode cX11_pass 47 = .ok (.iload_n 2, 1) := by decide +kernel
theorem dX11_pass_48 : decode cX11_pass 48 = .ok (.iastore, 1) := by decide +kernel
theorem dX11_pass_49 : decode cX11_pass 49 = .ok (.aload_n 0, 1) := by decide +kernel
theorem dX11_pass_50 : decode cX11_pass 50 = .ok (.dup, 1) := by decide +kernel
theorem dX11_pass_51 : decode cX11_pass 51 = .ok (.getfield 271, 3) := by decide +kernel
theorem dX11_pass_54 : decode cX11_pass 54 = .ok (.iconst 1, 1) := by decide +kernel
theorem dX11_pass_55 : decode cX11_pass 55 = .ok (.iadd, 1) := by decide +kernel
theorem dX11_pass_56 : decode cX11_pass 56 = .ok (.putfield 271, 3) := by decide +kernel
theorem pf_X11_4 : PF 11 4 .int false := fun C T N h => by cases h; exact ⟨⟨tyX11, tyX11_ok⟩, nmX11, by decide +kernel, rfl, rfl⟩
theorem dX11_pass_59 : decode cX11_pass 59 = .ok (.aload_n 0, 1) := by decide +kernel
theorem dX11_pass_60 : decode cX11_pass 60 = .ok (.getfield 271, 3) := by decide +kernel
theorem dX11_pass_63 : decode cX11_pass 63 = .ok (.ireturn, 1) := by decide +kernel
set_option maxRecDepth 100000 in
set_option maxHeartbeats 4000000 in
theorem ev_X11_pass (E : g_E) (m : Nat) (r_row : Nat) (r_terms : Nat) (r_deltas : Nat) (r_tapes : Nat) (r_taped : Nat) (r_first : Nat) (r_second : Nat) (r_seen : Nat) (r_seenWeights : Nat) (r_seenMedians : Nat) (r_term : Nat) (r_delta : Nat) (r_weights : Nat) (r_inputs : Nat) (r_guesses : Nat) (r_bases : Nat) (r_keptWeights : Nat) (r_keptInputs : Nat) (r_medians : Nat) (r_bits : Nat) (r_sideBits : Nat) (r_coded : Nat) (r_read : Nat) (r_lows : Nat) (r_highs : Nat) (r_restsTaken : Nat) (r_isBelow : Nat) (r_isWritten : Nat) (r_five : Nat) (t : Int32) (d : Int32)  : Ev E MX11_pass 1 20 0 0 [.ref m, .int t, .int d] [(m, .inr (11, [.ref r_row, .int 0, .ref r_terms, .ref r_deltas, .int 0, .ref r_tapes, .ref r_taped, .ref r_first, .ref r_second, .int 0, .int 0, .ref r_seen, .ref r_seenWeights, .ref r_seenMedians, .int 0, .int 0, .ref r_term, .ref r_delta, .ref r_weights, .ref r_inputs, .ref r_guesses, .ref r_bases, .ref r_keptWeights, .ref r_keptInputs, .ref r_medians, .int 0, .int 0, .long 0, .long 0, .long 0, .ref r_bits, .int 0, .int 0, .int 0, .ref r_sideBits, .int 0, .int 0, .int 0, .int 0, .int 0, .int 0, .ref r_coded, .int 0, .ref r_read, .ref r_lows, .ref r_highs, .ref r_restsTaken, .ref r_isBelow, .ref r_isWritten, .ref r_five])), (r_terms, .inl (E.2.2.1 0, 8, .inl (fun _ => 0))), (r_deltas, .inl (E.2.2.1 0, 8, .inl (fun _ => 0)))] (fun v_ w_ => v_ = some (.int (p1_pass t d))) := by
  refine Ev.intro (by decide) (Nat.le_of_ble_eq_true rfl) ?_
  intro X B hr hI
  have B : Bd E X cX11_pass RX11 3 1 20 0 0 := B
  have hr : Rt E X (some .int) 0 0 (fun v_ w_ => v_ = some (.int (p1_pass t d))) := hr
  show G E X 3 [(m, .inr (11, [.ref r_row, .int 0, .ref r_terms, .ref r_deltas, .int 0, .ref r_tapes, .ref r_taped, .ref r_first, .ref r_second, .int 0, .int 0, .ref r_seen, .ref r_seenWeights, .ref r_seenMedians, .int 0, .int 0, .ref r_term, .ref r_delta, .ref r_weights, .ref r_inputs, .ref r_guesses, .ref r_bases, .ref r_keptWeights, .ref r_keptInputs, .ref r_medians, .int 0, .int 0, .long 0, .long 0, .long 0, .ref r_bits, .int 0, .int 0, .int 0, .ref r_sideBits, .int 0, .int 0, .int 0, .int 0, .int 0, .int 0, .ref r_coded, .int 0, .ref r_read, .ref r_lows, .ref r_highs, .ref r_restsTaken, .ref r_isBelow, .ref r_isWritten, .ref r_five])), (r_terms, .inl (E.2.2.1 0, 8, .inl (fun _ => 0))), (r_deltas, .inl (E.2.2.1 0, 8, .inl (fun _ => 0)))] 0 0 [(0, .ref m), (1, .int t), (2, .int d)] 0 []
  refine g_aload_n B dX11_pass_0 rfl 0 rfl ?_
  refine g_get B 0 4 fl_X11_271 rfl rfl dX11_pass_1 ?_
  refine g_bipush (v := 8) B dX11_pass_4 (by decide) ?_
  refine g_icmp_eq (tgt := 27) B dX11_pass_6 (by decide) (fun h => absurd h (by decide)) (fun c6 => ?_)
  refine g_iload_n B dX11_pass_9 rfl 1 rfl ?_
  refine g_callS (st := []) (As := [.int t]) (wr := [(m, .inr (11, [.ref r_row, .int 0, .ref r_terms, .ref r_deltas, .int 0, .ref r_tapes, .ref r_taped, .ref r_first, .ref r_second, .int 0, .int 0, .ref r_seen, .ref r_seenWeights, .ref r_seenMedians, .int 0, .int 0, .ref r_term, .ref r_delta, .ref r_weights, .ref r_inputs, .ref r_guesses, .ref r_bases, .ref r_keptWeights, .ref r_keptInputs, .ref r_medians, .int 0, .int 0, .long 0, .long 0, .long 0, .ref r_bits, .int 0, .int 0, .int 0, .ref r_sideBits, .int 0, .int 0, .int 0, .int 0, .int 0, .int 0, .ref r_coded, .int 0, .ref r_read, .ref r_lows, .ref r_highs, .ref r_restsTaken, .ref r_isBelow, .ref r_isWritten, .ref r_five])), (r_terms, .inl (E.2.2.1 0, 8, .inl (fun _ => 0))), (r_deltas, .inl (E.2.2.1 0, 8, .inl (fun _ => 0)))]) (nc' := 0) (ns' := 0) B cl_X11_324 w_sm_X11_isTerm (ev_X11_isTerm E t ) rfl [] [0, 1, 2] rfl rfl (by decide) (by decide) (by decide) ⟨by decide, by decide⟩ rfl rfl (by decide) (by decide) rfl (Nat.le_of_ble_eq_true rfl) dX11_pass_10 (fun v w hq => ?_)
  obtain ⟨rfl, rfl⟩ := hq
  show G E X 3 [(m, .inr (11, [.ref r_row, .int 0, .ref r_terms, .ref r_deltas, .int 0, .ref r_tapes, .ref r_taped, .ref r_first, .ref r_second, .int 0, .int 0, .ref r_seen, .ref r_seenWeights, .ref r_seenMedians, .int 0, .int 0, .ref r_term, .ref r_delta, .ref r_weights, .ref r_inputs, .ref r_guesses, .ref r_bases, .ref r_keptWeights, .ref r_keptInputs, .ref r_medians, .int 0, .int 0, .long 0, .long 0, .long 0, .ref r_bits, .int 0, .int 0, .int 0, .ref r_sideBits, .int 0, .int 0, .int 0, .int 0, .int 0, .int 0, .ref r_coded, .int 0, .ref r_read, .ref r_lows, .ref r_highs, .ref r_restsTaken, .ref r_isBelow, .ref r_isWritten, .ref r_five])), (r_terms, .inl (E.2.2.1 0, 8, .inl (fun _ => 0))), (r_deltas, .inl (E.2.2.1 0, 8, .inl (fun _ => 0)))] 0 0 [(0, .ref m), (1, .int t), (2, .int d)] 13 [.int (tI t)]
  refine g_if_eq (tgt := 27) B dX11_pass_13 (by decide) (fun c13_169 => ?_) (fun c13_169 => ?_)
  · refine g_iconst (v := (-1)) B dX11_pass_27 (by decide) ?_
    exact g_iret B hr dX11_pass_28 (by decide) (by decide) (by simp [p1_pass, p1_add, c13_169])
  · refine g_iload_n B dX11_pass_16 rfl 2 rfl ?_
    refine g_iconst (v := 1) B dX11_pass_17 (by decide) ?_
    refine g_icmp_lt (tgt := 27) B dX11_pass_18 (by decide) (fun c18_170 => ?_) (fun c18_170 => ?_)
    · refine g_iconst (v := (-1)) B dX11_pass_27 (by decide) ?_
      exact g_iret B hr dX11_pass_28 (by decide) (by decide) (by simp [p1_pass, p1_add, c13_169, c18_170])
    · refine g_iload_n B dX11_pass_21 rfl 2 rfl ?_
      refine g_bipush (v := 7) B dX11_pass_22 (by decide) ?_
      refine g_icmp_le (tgt := 29) B dX11_pass_24 (by decide) (fun c24_171 => ?_) (fun c24_171 => ?_)
      · refine g_aload_n B dX11_pass_29 rfl 0 rfl ?_
        refine g_get B 0 2 fl_X11_13 rfl rfl dX11_pass_30 ?_
        refine g_aload_n B dX11_pass_33 rfl 0 rfl ?_
        refine g_get B 0 4 fl_X11_271 rfl rfl dX11_pass_34 ?_
        refine g_iload_n B dX11_pass_37 rfl 1 rfl ?_
        refine g_iast (ws' := [(m, .inr (11, [.ref r_row, .int 0, .ref r_terms, .ref r_deltas, .int 0, .ref r_tapes, .ref r_taped, .ref r_first, .ref r_second, .int 0, .int 0, .ref r_seen, .ref r_seenWeights, .ref r_seenMedians, .int 0, .int 0, .ref r_term, .ref r_delta, .ref r_weights, .ref r_inputs, .ref r_guesses, .ref r_bases, .ref r_keptWeights, .ref r_keptInputs, .ref r_medians, .int 0, .int 0, .long 0, .long 0, .long 0, .ref r_bits, .int 0, .int 0, .int 0, .ref r_sideBits, .int 0, .int 0, .int 0, .int 0, .int 0, .int 0, .ref r_coded, .int 0, .ref r_read, .ref r_lows, .ref r_highs, .ref r_restsTaken, .ref r_isBelow, .ref r_isWritten, .ref r_five])), (r_terms, .inl (E.2.2.1 0, 8, .inl (upd (fun _ => 0) (Int32.toNatClampNeg 0) t))), (r_deltas, .inl (E.2.2.1 0, 8, .inl (fun _ => 0)))]) B 1 rfl (by unfold vp_in; decide) rfl dX11_pass_38 ?_
        refine g_aload_n B dX11_pass_39 rfl 0 rfl ?_
        refine g_get B 0 3 fl_X11_16 rfl rfl dX11_pass_40 ?_
        refine g_aload_n B dX11_pass_43 rfl 0 rfl ?_
        refine g_get B 0 4 fl_X11_271 rfl rfl dX11_pass_44 ?_
        refine g_iload_n B dX11_pass_47 rfl 2 rfl ?_
        refine g_iast (ws' := [(m, .inr (11, [.ref r_row, .int 0, .ref r_terms, .ref r_deltas, .int 0, .ref r_tapes, .ref r_taped, .ref r_first, .ref r_second, .int 0, .int 0, .ref r_seen, .ref r_seenWeights, .ref r_seenMedians, .int 0, .int 0, .ref r_term, .ref r_delta, .ref r_weights, .ref r_inputs, .ref r_guesses, .ref r_bases, .ref r_keptWeights, .ref r_keptInputs, .ref r_medians, .int 0, .int 0, .long 0, .long 0, .long 0, .ref r_bits, .int 0, .int 0, .int 0, .ref r_sideBits, .int 0, .int 0, .int 0, .int 0, .int 0, .int 0, .ref r_coded, .int 0, .ref r_read, .ref r_lows, .ref r_highs, .ref r_restsTaken, .ref r_isBelow, .ref r_isWritten, .ref r_five])), (r_terms, .inl (E.2.2.1 0, 8, .inl (upd (fun _ => 0) (Int32.toNatClampNeg 0) t))), (r_deltas, .inl (E.2.2.1 0, 8, .inl (upd (fun _ => 0) (Int32.toNatClampNeg 0) d)))]) B 2 rfl (by unfold vp_in; decide) rfl dX11_pass_48 ?_
        refine g_aload_n B dX11_pass_49 rfl 0 rfl ?_
        refine g_dup B dX11_pass_50 rfl ?_
        refine g_get B 0 4 fl_X11_271 rfl rfl dX11_pass_51 ?_
        refine g_iconst (v := 1) B dX11_pass_54 (by decide) ?_
        refine g_iadd B dX11_pass_55 ?_
        refine g_ri (x' := 1) (by decide) ?_
        refine g_put (ws' := [(m, .inr (11, [.ref r_row, .int 0, .ref r_terms, .ref r_deltas, .int 1, .ref r_tapes, .ref r_taped, .ref r_first, .ref r_second, .int 0, .int 0, .ref r_seen, .ref r_seenWeights, .ref r_seenMedians, .int 0, .int 0, .ref r_term, .ref r_delta, .ref r_weights, .ref r_inputs, .ref r_guesses, .ref r_bases, .ref r_keptWeights, .ref r_keptInputs, .ref r_medians, .int 0, .int 0, .long 0, .long 0, .long 0, .ref r_bits, .int 0, .int 0, .int 0, .ref r_sideBits, .int 0, .int 0, .int 0, .int 0, .int 0, .int 0, .ref r_coded, .int 0, .ref r_read, .ref r_lows, .ref r_highs, .ref r_restsTaken, .ref r_isBelow, .ref r_isWritten, .ref r_five])), (r_terms, .inl (E.2.2.1 0, 8, .inl (upd (fun _ => 0) (Int32.toNatClampNeg 0) t))), (r_deltas, .inl (E.2.2.1 0, 8, .inl (upd (fun _ => 0) (Int32.toNatClampNeg 0) d)))]) B 0 4 fl_X11_271 pf_X11_4 rfl (Nat.le_of_ble_eq_true rfl) rfl rfl rfl dX11_pass_56 ?_
        refine g_aload_n B dX11_pass_59 rfl 0 rfl ?_
        refine g_get B 0 4 fl_X11_271 rfl rfl dX11_pass_60 ?_
        exact g_iret B hr dX11_pass_63 (by decide) (by decide) (by simp [p1_pass, p1_add, c13_169, c18_170, c24_171])
      · refine g_iconst (v := (-1)) B dX11_pass_27 (by decide) ?_
        exact g_iret B hr dX11_pass_28 (by decide) (by decide) (by simp [p1_pass, p1_add, c13_169, c18_170, c24_171])
abbrev MX11_unpass : g_M := (yX11_unpass, cX11_unpass, 2, (some .int))
theorem dX11_unpass_0 : decode cX11_unpass 0 = .ok (.aload_n 0, 1) := by decide +kernel
theorem dX11_unpass_1 : decode cX11_unpass 1 = .ok (.getfield 271, 3) := by decide +kernel
theorem dX11_unpass_4 : decode cX11_unpass 4 = .ok (.istore_n 1, 1) := by decide +kernel
theorem dX11_unpass_5 : decode cX11_unpass 5 = .ok (.aload_n 0, 1) := by decide +kernel
theorem dX11_unpass_6 : decode cX11_unpass 6 = .ok (.iconst 0, 1) := by decide +kernel
theorem dX11_unpass_7 : decode cX11_unpass 7 = .ok (.putfield 271, 3) := by decide +kernel
theorem dX11_unpass_10 : decode cX11_unpass 10 = .ok (.iload_n 1, 1) := by decide +kernel
theorem dX11_unpass_11 : decode cX11_unpass 11 = .ok (.ireturn, 1) := by decide +kernel
set_option maxRecDepth 100000 in
set_option maxHeartbeats 4000000 in
theorem ev_X11_unpass (E : g_E) (m : Nat) (r_row : Nat) (r_terms : Nat) (r_deltas : Nat) (r_tapes : Nat) (r_taped : Nat) (r_first : Nat) (r_second : Nat) (r_seen : Nat) (r_seenWeights : Nat) (r_seenMedians : Nat) (r_term : Nat) (r_delta : Nat) (r_weights : Nat) (r_inputs : Nat) (r_guesses : Nat) (r_bases : Nat) (r_keptWeights : Nat) (r_keptInputs : Nat) (r_medians : Nat) (r_bits : Nat) (r_sideBits : Nat) (r_coded : Nat) (r_read : Nat) (r_lows : Nat) (r_highs : Nat) (r_restsTaken : Nat) (r_isBelow : Nat) (r_isWritten : Nat) (r_five : Nat)  : Ev E MX11_unpass 0 0 0 0 [.ref m] [(m, .inr (11, [.ref r_row, .int 0, .ref r_terms, .ref r_deltas, .int 0, .ref r_tapes, .ref r_taped, .ref r_first, .ref r_second, .int 0, .int 0, .ref r_seen, .ref r_seenWeights, .ref r_seenMedians, .int 0, .int 0, .ref r_term, .ref r_delta, .ref r_weights, .ref r_inputs, .ref r_guesses, .ref r_bases, .ref r_keptWeights, .ref r_keptInputs, .ref r_medians, .int 0, .int 0, .long 0, .long 0, .long 0, .ref r_bits, .int 0, .int 0, .int 0, .ref r_sideBits, .int 0, .int 0, .int 0, .int 0, .int 0, .int 0, .ref r_coded, .int 0, .ref r_read, .ref r_lows, .ref r_highs, .ref r_restsTaken, .ref r_isBelow, .ref r_isWritten, .ref r_five]))] (fun v_ w_ => v_ = some (.int 0)) := by
  refine Ev.intro (by decide) (Nat.le_of_ble_eq_true rfl) ?_
  intro X B hr hI
  have B : Bd E X cX11_unpass RX11 2 0 0 0 0 := B
  have hr : Rt E X (some .int) 0 0 (fun v_ w_ => v_ = some (.int 0)) := hr
  show G E X 2 [(m, .inr (11, [.ref r_row, .int 0, .ref r_terms, .ref r_deltas, .int 0, .ref r_tapes, .ref r_taped, .ref r_first, .ref r_second, .int 0, .int 0, .ref r_seen, .ref r_seenWeights, .ref r_seenMedians, .int 0, .int 0, .ref r_term, .ref r_delta, .ref r_weights, .ref r_inputs, .ref r_guesses, .ref r_bases, .ref r_keptWeights, .ref r_keptInputs, .ref r_medians, .int 0, .int 0, .long 0, .long 0, .long 0, .ref r_bits, .int 0, .int 0, .int 0, .ref r_sideBits, .int 0, .int 0, .int 0, .int 0, .int 0, .int 0, .ref r_coded, .int 0, .ref r_read, .ref r_lows, .ref r_highs, .ref r_restsTaken, .ref r_isBelow, .ref r_isWritten, .ref r_five]))] 0 0 [(0, .ref m)] 0 []
  refine g_aload_n B dX11_unpass_0 rfl 0 rfl ?_
  refine g_get B 0 4 fl_X11_271 rfl rfl dX11_unpass_1 ?_
  refine g_istore_n (lv' := [(1, .int 0), (0, .ref m)]) B dX11_unpass_4 rfl (by decide) rfl ?_
  refine g_aload_n B dX11_unpass_5 rfl 1 rfl ?_
  refine g_iconst (v := 0) B dX11_unpass_6 (by decide) ?_
  refine g_put (ws' := [(m, .inr (11, [.ref r_row, .int 0, .ref r_terms, .ref r_deltas, .int 0, .ref r_tapes, .ref r_taped, .ref r_first, .ref r_second, .int 0, .int 0, .ref r_seen, .ref r_seenWeights, .ref r_seenMedians, .int 0, .int 0, .ref r_term, .ref r_delta, .ref r_weights, .ref r_inputs, .ref r_guesses, .ref r_bases, .ref r_keptWeights, .ref r_keptInputs, .ref r_medians, .int 0, .int 0, .long 0, .long 0, .long 0, .ref r_bits, .int 0, .int 0, .int 0, .ref r_sideBits, .int 0, .int 0, .int 0, .int 0, .int 0, .int 0, .ref r_coded, .int 0, .ref r_read, .ref r_lows, .ref r_highs, .ref r_restsTaken, .ref r_isBelow, .ref r_isWritten, .ref r_five]))]) B 0 4 fl_X11_271 pf_X11_4 rfl (Nat.le_of_ble_eq_true rfl) rfl rfl rfl dX11_unpass_7 ?_
  refine g_iload_n B dX11_unpass_10 rfl 0 rfl ?_
  exact g_iret B hr dX11_unpass_11 (by decide) (by decide) rfl
abbrev MX11_isSound : g_M := (yX11_isSound, cX11_isSound, 4, (some .boolean))
theorem dX11_isSound_0 : decode cX11_isSound 0 = .ok (.iload_n 1, 1) := by decide +kernel
theorem dX11_isSound_1 : decode cX11_isSound 1 = .ok (.iconst 1, 1) := by decide +kernel
theorem dX11_isSound_2 : decode cX11_isSound 2 = .ok (.if_icmp .eq 8, 3) := by decide +kernel
theorem dX11_isSound_10 : decode cX11_isSound 10 = .ok (.aload_n 0, 1) := by decide +kernel
theorem dX11_isSound_11 : decode cX11_isSound 11 = .ok (.getfield 178, 3) := by decide +kernel
theorem dX11_isSound_14 : decode cX11_isSound 14 = .ok (.ifCond .eq 24, 3) := by decide +kernel
theorem dX11_isSound_38 : decode cX11_isSound 38 = .ok (.iconst 0, 1) := by decide +kernel
theorem dX11_isSound_39 : decode cX11_isSound 39 = .ok (.ireturn, 1) := by decide +kernel
theorem dX11_isSound_5 : decode cX11_isSound 5 = .ok (.iload_n 1, 1) := by decide +kernel
theorem dX11_isSound_6 : decode cX11_isSound 6 = .ok (.iconst 2, 1) := by decide +kernel
theorem dX11_isSound_7 : decode cX11_isSound 7 = .ok (.if_icmp .ne 31, 3) := by decide +kernel
set_option maxRecDepth 100000 in
set_option maxHeartbeats 4000000 in
theorem ev_X11_isSound (E : g_E) (m : Nat) (r_row : Nat) (r_terms : Nat) (r_deltas : Nat) (r_tapes : Nat) (r_taped : Nat) (r_first : Nat) (r_second : Nat) (r_seen : Nat) (r_seenWeights : Nat) (r_seenMedians : Nat) (r_term : Nat) (r_delta : Nat) (r_weights : Nat) (r_inputs : Nat) (r_guesses : Nat) (r_bases : Nat) (r_keptWeights : Nat) (r_keptInputs : Nat) (r_medians : Nat) (r_bits : Nat) (r_sideBits : Nat) (r_coded : Nat) (r_read : Nat) (r_lows : Nat) (r_highs : Nat) (r_restsTaken : Nat) (r_isBelow : Nat) (r_isWritten : Nat) (r_five : Nat) (ch : Int32)  : Ev E MX11_isSound 0 0 0 0 [.ref m, .int ch] [(m, .inr (11, [.ref r_row, .int 0, .ref r_terms, .ref r_deltas, .int 0, .ref r_tapes, .ref r_taped, .ref r_first, .ref r_second, .int 0, .int 0, .ref r_seen, .ref r_seenWeights, .ref r_seenMedians, .int 0, .int 0, .ref r_term, .ref r_delta, .ref r_weights, .ref r_inputs, .ref r_guesses, .ref r_bases, .ref r_keptWeights, .ref r_keptInputs, .ref r_medians, .int 0, .int 0, .long 0, .long 0, .long 0, .ref r_bits, .int 0, .int 0, .int 0, .ref r_sideBits, .int 0, .int 0, .int 0, .int 0, .int 0, .int 0, .ref r_coded, .int 0, .ref r_read, .ref r_lows, .ref r_highs, .ref r_restsTaken, .ref r_isBelow, .ref r_isWritten, .ref r_five]))] (fun v_ w_ => v_ = some (.int 0)) := by
  refine Ev.intro (by decide) (Nat.le_of_ble_eq_true rfl) ?_
  intro X B hr hI
  have B : Bd E X cX11_isSound RX11 4 0 0 0 0 := B
  have hr : Rt E X (some .boolean) 0 0 (fun v_ w_ => v_ = some (.int 0)) := hr
  show G E X 4 [(m, .inr (11, [.ref r_row, .int 0, .ref r_terms, .ref r_deltas, .int 0, .ref r_tapes, .ref r_taped, .ref r_first, .ref r_second, .int 0, .int 0, .ref r_seen, .ref r_seenWeights, .ref r_seenMedians, .int 0, .int 0, .ref r_term, .ref r_delta, .ref r_weights, .ref r_inputs, .ref r_guesses, .ref r_bases, .ref r_keptWeights, .ref r_keptInputs, .ref r_medians, .int 0, .int 0, .long 0, .long 0, .long 0, .ref r_bits, .int 0, .int 0, .int 0, .ref r_sideBits, .int 0, .int 0, .int 0, .int 0, .int 0, .int 0, .ref r_coded, .int 0, .ref r_read, .ref r_lows, .ref r_highs, .ref r_restsTaken, .ref r_isBelow, .ref r_isWritten, .ref r_five]))] 0 0 [(0, .ref m), (1, .int ch)] 0 []
  refine g_iload_n B dX11_isSound_0 rfl 1 rfl ?_
  refine g_iconst (v := 1) B dX11_isSound_1 (by decide) ?_
  refine g_icmp_eq (tgt := 10) B dX11_isSound_2 (by decide) (fun c2_172 => ?_) (fun c2_172 => ?_)
  · refine g_aload_n B dX11_isSound_10 rfl 0 rfl ?_
    refine g_get B 0 1 fl_X11_178 rfl rfl dX11_isSound_11 ?_
    refine g_if_eq (tgt := 38) B dX11_isSound_14 (by decide) (fun c14 => ?_) (fun h => absurd (by decide) h)
    refine g_iconst (v := 0) B dX11_isSound_38 (by decide) ?_
    exact g_zret B hr (by decide) dX11_isSound_39 (by decide) (by decide) rfl
  · refine g_iload_n B dX11_isSound_5 rfl 1 rfl ?_
    refine g_iconst (v := 2) B dX11_isSound_6 (by decide) ?_
    refine g_icmp_ne (tgt := 38) B dX11_isSound_7 (by decide) (fun c7_173 => ?_) (fun c7_173 => ?_)
    · refine g_iconst (v := 0) B dX11_isSound_38 (by decide) ?_
      exact g_zret B hr (by decide) dX11_isSound_39 (by decide) (by decide) rfl
    · refine g_aload_n B dX11_isSound_10 rfl 0 rfl ?_
      refine g_get B 0 1 fl_X11_178 rfl rfl dX11_isSound_11 ?_
      refine g_if_eq (tgt := 38) B dX11_isSound_14 (by decide) (fun c14 => ?_) (fun h => absurd (by decide) h)
      refine g_iconst (v := 0) B dX11_isSound_38 (by decide) ?_
      exact g_zret B hr (by decide) dX11_isSound_39 (by decide) (by decide) rfl
abbrev MX11_encode : g_M := (yX11_encode, cX11_encode, 5, (some .int))
theorem dX11_encode_0 : decode cX11_encode 0 = .ok (.iload_n 1, 1) := by decide +kernel
theorem dX11_encode_1 : decode cX11_encode 1 = .ok (.iconst 1, 1) := by decide +kernel
theorem dX11_encode_2 : decode cX11_encode 2 = .ok (.if_icmp .eq 8, 3) := by decide +kernel
theorem dX11_encode_10 : decode cX11_encode 10 = .ok (.iload_n 3, 1) := by decide +kernel
theorem dX11_encode_11 : decode cX11_encode 11 = .ok (.ifCond .lt 18, 3) := by decide +kernel
theorem dX11_encode_29 : decode cX11_encode 29 = .ok (.iconst (-1), 1) := by decide +kernel
theorem dX11_encode_30 : decode cX11_encode 30 = .ok (.ireturn, 1) := by decide +kernel
theorem dX11_encode_14 : decode cX11_encode 14 = .ok (.iload_n 3, 1) := by decide +kernel
theorem dX11_encode_15 : decode cX11_encode 15 = .ok (.ldc_w 267, 3) := by decide +kernel
theorem w_k_X11_267 : Cond.constant RX11 267 65535 ∈ g_tbl := g_tbl_in 1036 (by decide +kernel) (by decide +kernel)
theorem dX11_encode_18 : decode cX11_encode 18 = .ok (.if_icmp .gt 11, 3) := by decide +kernel
theorem dX11_encode_21 : decode cX11_encode 21 = .ok (.aload_n 0, 1) := by decide +kernel
theorem dX11_encode_22 : decode cX11_encode 22 = .ok (.iload_n 1, 1) := by decide +kernel
theorem dX11_encode_23 : decode cX11_encode 23 = .ok (.invokevirtual 268, 3) := by decide +kernel
theorem w_ml_X11_268 : Cond.methodLink RX11 268 yX11_isSound ∈ g_tbl := g_tbl_in 1037 (by decide +kernel) (by decide +kernel)
theorem w_cd_X11_isSound : g_cw MX11_isSound ∈ g_tbl := g_tbl_in 1040 (by decide +kernel) (by decide +kernel)
theorem cl_X11_268 : CL RX11 268 1 MX11_isSound := ⟨w_ml_X11_268, w_cd_X11_isSound, w_ini_X11, by decide +kernel, by decide +kernel, by decide +kernel⟩
theorem w_im_X11_isSound : Cond.instanceMethod yX11_isSound ∈ g_tbl := g_tbl_in 1039 (by decide +kernel) (by decide +kernel)
theorem w_se_X11_isSound : Cond.selects RX11 yX11_isSound yX11_isSound ∈ g_tbl := g_tbl_in 27 (by decide +kernel) (by decide +kernel)
theorem dX11_encode_26 : decode cX11_encode 26 = .ok (.ifCond .ne 5, 3) := by decide +kernel
theorem dX11_encode_5 : decode cX11_encode 5 = .ok (.iload_n 1, 1) := by decide +kernel
theorem dX11_encode_6 : decode cX11_encode 6 = .ok (.iconst 2, 1) := by decide +kernel
theorem dX11_encode_7 : decode cX11_encode 7 = .ok (.if_icmp .ne 22, 3) := by decide +kernel
set_option maxRecDepth 100000 in
set_option maxHeartbeats 4000000 in
theorem ev_X11_encode (E : g_E) (m : Nat) (r_row : Nat) (r_terms : Nat) (r_deltas : Nat) (r_tapes : Nat) (r_taped : Nat) (r_first : Nat) (r_second : Nat) (r_seen : Nat) (r_seenWeights : Nat) (r_seenMedians : Nat) (r_term : Nat) (r_delta : Nat) (r_weights : Nat) (r_inputs : Nat) (r_guesses : Nat) (r_bases : Nat) (r_keptWeights : Nat) (r_keptInputs : Nat) (r_medians : Nat) (r_bits : Nat) (r_sideBits : Nat) (r_coded : Nat) (r_read : Nat) (r_lows : Nat) (r_highs : Nat) (r_restsTaken : Nat) (r_isBelow : Nat) (r_isWritten : Nat) (r_five : Nat) (ch : Int32) (jo : Int32) (er : Int32)  : Ev E MX11_encode 6 149 0 0 [.ref m, .int ch, .int jo, .int er] [(m, .inr (11, [.ref r_row, .int 0, .ref r_terms, .ref r_deltas, .int 0, .ref r_tapes, .ref r_taped, .ref r_first, .ref r_second, .int 0, .int 0, .ref r_seen, .ref r_seenWeights, .ref r_seenMedians, .int 0, .int 0, .ref r_term, .ref r_delta, .ref r_weights, .ref r_inputs, .ref r_guesses, .ref r_bases, .ref r_keptWeights, .ref r_keptInputs, .ref r_medians, .int 0, .int 0, .long 0, .long 0, .long 0, .ref r_bits, .int 0, .int 0, .int 0, .ref r_sideBits, .int 0, .int 0, .int 0, .int 0, .int 0, .int 0, .ref r_coded, .int 0, .ref r_read, .ref r_lows, .ref r_highs, .ref r_restsTaken, .ref r_isBelow, .ref r_isWritten, .ref r_five]))] (fun v_ w_ => v_ = some (.int (-1))) := by
  refine Ev.intro (by decide) (Nat.le_of_ble_eq_true rfl) ?_
  intro X B hr hI
  have B : Bd E X cX11_encode RX11 5 6 149 0 0 := B
  have hr : Rt E X (some .int) 0 0 (fun v_ w_ => v_ = some (.int (-1))) := hr
  show G E X 5 [(m, .inr (11, [.ref r_row, .int 0, .ref r_terms, .ref r_deltas, .int 0, .ref r_tapes, .ref r_taped, .ref r_first, .ref r_second, .int 0, .int 0, .ref r_seen, .ref r_seenWeights, .ref r_seenMedians, .int 0, .int 0, .ref r_term, .ref r_delta, .ref r_weights, .ref r_inputs, .ref r_guesses, .ref r_bases, .ref r_keptWeights, .ref r_keptInputs, .ref r_medians, .int 0, .int 0, .long 0, .long 0, .long 0, .ref r_bits, .int 0, .int 0, .int 0, .ref r_sideBits, .int 0, .int 0, .int 0, .int 0, .int 0, .int 0, .ref r_coded, .int 0, .ref r_read, .ref r_lows, .ref r_highs, .ref r_restsTaken, .ref r_isBelow, .ref r_isWritten, .ref r_five]))] 0 0 [(0, .ref m), (1, .int ch), (2, .int jo), (3, .int er)] 0 []
  refine g_iload_n B dX11_encode_0 rfl 1 rfl ?_
  refine g_iconst (v := 1) B dX11_encode_1 (by decide) ?_
  refine g_icmp_eq (tgt := 10) B dX11_encode_2 (by decide) (fun c2_174 => ?_) (fun c2_174 => ?_)
  · refine g_iload_n B dX11_encode_10 rfl 3 rfl ?_
    refine g_if_lt (tgt := 29) B dX11_encode_11 (by decide) (fun c11_175 => ?_) (fun c11_175 => ?_)
    · refine g_iconst (v := (-1)) B dX11_encode_29 (by decide) ?_
      exact g_iret B hr dX11_encode_30 (by decide) (by decide) rfl
    · refine g_iload_n B dX11_encode_14 rfl 3 rfl ?_
      refine g_ldcw (v := 65535) B w_k_X11_267 dX11_encode_15 ?_
      refine g_icmp_gt (tgt := 29) B dX11_encode_18 (by decide) (fun c18_176 => ?_) (fun c18_176 => ?_)
      · refine g_iconst (v := (-1)) B dX11_encode_29 (by decide) ?_
        exact g_iret B hr dX11_encode_30 (by decide) (by decide) rfl
      · refine g_aload_n B dX11_encode_21 rfl 0 rfl ?_
        refine g_iload_n B dX11_encode_22 rfl 1 rfl ?_
        refine g_callV (st := []) (As := [.int ch]) (wr := []) (nc' := 0) (ns' := 0) B cl_X11_268 w_im_X11_isSound w_se_X11_isSound (ev_X11_isSound E m r_row r_terms r_deltas r_tapes r_taped r_first r_second r_seen r_seenWeights r_seenMedians r_term r_delta r_weights r_inputs r_guesses r_bases r_keptWeights r_keptInputs r_medians r_bits r_sideBits r_coded r_read r_lows r_highs r_restsTaken r_isBelow r_isWritten r_five ch ) rfl [0] [] rfl rfl (by decide) (by decide) (by decide) 0 rfl (fun q h => by cases h; rfl) rfl ⟨by decide, by decide⟩ rfl rfl (by decide) (by decide) rfl (Nat.le_of_ble_eq_true rfl) dX11_encode_23 (fun v w hq => ?_)
        obtain rfl := hq
        refine g_sub (ws' := []) [] (by decide) rfl ?_
        show G E X 5 [] 0 0 [(0, .ref m), (1, .int ch), (2, .int jo), (3, .int er)] 26 [.int 0]
        refine g_if_ne (tgt := 31) B dX11_encode_26 (by decide) (fun h => absurd (by decide) h) (fun c26 => ?_)
        refine g_iconst (v := (-1)) B dX11_encode_29 (by decide) ?_
        exact g_iret B hr dX11_encode_30 (by decide) (by decide) rfl
  · refine g_iload_n B dX11_encode_5 rfl 1 rfl ?_
    refine g_iconst (v := 2) B dX11_encode_6 (by decide) ?_
    refine g_icmp_ne (tgt := 29) B dX11_encode_7 (by decide) (fun c7_177 => ?_) (fun c7_177 => ?_)
    · refine g_iconst (v := (-1)) B dX11_encode_29 (by decide) ?_
      exact g_iret B hr dX11_encode_30 (by decide) (by decide) rfl
    · refine g_iload_n B dX11_encode_10 rfl 3 rfl ?_
      refine g_if_lt (tgt := 29) B dX11_encode_11 (by decide) (fun c11_178 => ?_) (fun c11_178 => ?_)
      · refine g_iconst (v := (-1)) B dX11_encode_29 (by decide) ?_
        exact g_iret B hr dX11_encode_30 (by decide) (by decide) rfl
      · refine g_iload_n B dX11_encode_14 rfl 3 rfl ?_
        refine g_ldcw (v := 65535) B w_k_X11_267 dX11_encode_15 ?_
        refine g_icmp_gt (tgt := 29) B dX11_encode_18 (by decide) (fun c18_179 => ?_) (fun c18_179 => ?_)
        · refine g_iconst (v := (-1)) B dX11_encode_29 (by decide) ?_
          exact g_iret B hr dX11_encode_30 (by decide) (by decide) rfl
        · refine g_aload_n B dX11_encode_21 rfl 0 rfl ?_
          refine g_iload_n B dX11_encode_22 rfl 1 rfl ?_
          refine g_callV (st := []) (As := [.int ch]) (wr := []) (nc' := 0) (ns' := 0) B cl_X11_268 w_im_X11_isSound w_se_X11_isSound (ev_X11_isSound E m r_row r_terms r_deltas r_tapes r_taped r_first r_second r_seen r_seenWeights r_seenMedians r_term r_delta r_weights r_inputs r_guesses r_bases r_keptWeights r_keptInputs r_medians r_bits r_sideBits r_coded r_read r_lows r_highs r_restsTaken r_isBelow r_isWritten r_five ch ) rfl [0] [] rfl rfl (by decide) (by decide) (by decide) 0 rfl (fun q h => by cases h; rfl) rfl ⟨by decide, by decide⟩ rfl rfl (by decide) (by decide) rfl (Nat.le_of_ble_eq_true rfl) dX11_encode_23 (fun v w hq => ?_)
          obtain rfl := hq
          refine g_sub (ws' := []) [] (by decide) rfl ?_
          show G E X 5 [] 0 0 [(0, .ref m), (1, .int ch), (2, .int jo), (3, .int er)] 26 [.int 0]
          refine g_if_ne (tgt := 31) B dX11_encode_26 (by decide) (fun h => absurd (by decide) h) (fun c26 => ?_)
          refine g_iconst (v := (-1)) B dX11_encode_29 (by decide) ?_
          exact g_iret B hr dX11_encode_30 (by decide) (by decide) rfl
