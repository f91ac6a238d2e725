theorem in_lt {i : Int32} {N : Nat} (hN : N < 2147483648) (h1 : ¬ i < 0) (h2 : i < nI N) : vp_in i N := by
  rcases pk_ix i (n := N) hN with h | h | ⟨j, hj, rfl⟩
  · exact absurd h h1
  · exact absurd h2 (o_4 h)
  · exact vp_in_nI hj hN
theorem st_up {i n : Int32} (h : i < n) : (n.toInt - (i + 1).toInt).toNat < (n.toInt - i.toInt).toNat := by
  have h1 := Int32.lt_iff_toInt_lt.mp h
  have h2 := n.toInt_lt
  have h3 := i.le_toInt
  have h4 : (i + 1).toInt = i.toInt + 1 := by
    rw [Int32.toInt_add]
    rw [Int.bmod_eq_of_le] <;> simp <;> omega
  omega
theorem st_dn {i : Int32} (h : ¬ i < 0) : ((i + (-1)).toInt + 1).toNat < (i.toInt + 1).toNat := by
  have h1 : ¬ i.toInt < 0 := fun q => h (Int32.lt_iff_toInt_lt.mpr q)
  have h2 := i.toInt_lt
  have h4 : (i + (-1)).toInt = i.toInt - 1 := by
    rw [Int32.toInt_add]
    rw [Int.bmod_eq_of_le] <;> simp <;> omega
  omega
abbrev MX2_at : g_M := (yX2_at, cX2_at, 2, (some .int))
theorem dX2_at_0 : decode cX2_at 0 = .ok (.iload_n 1, 1) := by decide +kernel
theorem dX2_at_1 : decode cX2_at 1 = .ok (.ifCond .lt 33, 3) := by decide +kernel
theorem dX2_at_34 : decode cX2_at 34 = .ok (.iconst (-1), 1) := by decide +kernel
theorem dX2_at_35 : decode cX2_at 35 = .ok (.ireturn, 1) := by decide +kernel
theorem dX2_at_4 : decode cX2_at 4 = .ok (.iload_n 1, 1) := by decide +kernel
theorem dX2_at_5 : decode cX2_at 5 = .ok (.aload_n 0, 1) := by decide +kernel
theorem dX2_at_6 : decode cX2_at 6 = .ok (.getfield 21, 3) := by decide +kernel
theorem dX2_at_9 : decode cX2_at 9 = .ok (.if_icmp .ge 25, 3) := by decide +kernel
theorem dX2_at_12 : decode cX2_at 12 = .ok (.iload_n 1, 1) := by decide +kernel
theorem dX2_at_13 : decode cX2_at 13 = .ok (.aload_n 0, 1) := by decide +kernel
theorem dX2_at_14 : decode cX2_at 14 = .ok (.getfield 15, 3) := by decide +kernel
theorem dX2_at_17 : decode cX2_at 17 = .ok (.arraylength, 1) := by decide +kernel
theorem dX2_at_18 : decode cX2_at 18 = .ok (.if_icmp .ge 16, 3) := by decide +kernel
theorem dX2_at_21 : decode cX2_at 21 = .ok (.aload_n 0, 1) := by decide +kernel
theorem dX2_at_22 : decode cX2_at 22 = .ok (.getfield 15, 3) := by decide +kernel
theorem dX2_at_25 : decode cX2_at 25 = .ok (.iload_n 1, 1) := by decide +kernel
theorem dX2_at_26 : decode cX2_at 26 = .ok (.baload, 1) := by decide +kernel
theorem dX2_at_27 : decode cX2_at 27 = .ok (.sipush 255, 3) := by decide +kernel
theorem dX2_at_30 : decode cX2_at 30 = .ok (.iand, 1) := by decide +kernel
theorem dX2_at_31 : decode cX2_at 31 = .ok (.goto 4, 3) := by decide +kernel
set_option maxRecDepth 100000 in
set_option maxHeartbeats 4000000 in
theorem wk_X2_at (E : g_E) (t : Nat) (a : Nat) (N : Nat) (t_1 : Int32) (a_f : Nat → Int32) (i : Int32) (hN : N < 2147483648) : Ev E MX2_at 0 0 0 0 [.ref t, .int i] [(t, .inr (2, [.ref a, .int t_1])), (a, .inl (E.2.2.1 1, N, .inl a_f))] (fun v_ w_ => ∃ zt_1 : Int32, ∃ za_f : Nat → Int32, ∃ zr : Int32, v_ = some (.int zr) ∧ w_ = [(t, .inr (2, [.ref a, .int zt_1])), (a, .inl (E.2.2.1 1, N, .inl za_f))]) := by
  refine Ev.intro (by decide) (Nat.le_of_ble_eq_true rfl) ?_
  intro X B hr hI
  have B : Bd E X cX2_at RX2 2 0 0 0 0 := B
  have hr : Rt E X (some .int) 0 0 (fun v_ w_ => ∃ zt_1 : Int32, ∃ za_f : Nat → Int32, ∃ zr : Int32, v_ = some (.int zr) ∧ w_ = [(t, .inr (2, [.ref a, .int zt_1])), (a, .inl (E.2.2.1 1, N, .inl za_f))]) := hr
  show G E X 2 [(t, .inr (2, [.ref a, .int t_1])), (a, .inl (E.2.2.1 1, N, .inl a_f))] 0 0 [(0, .ref t), (1, .int i)] 0 []
  refine g_iload_n B dX2_at_0 rfl 1 rfl ?_
  refine g_if_lt (tgt := 34) B dX2_at_1 (by decide) (fun c1_106 => ?_) (fun c1_106 => ?_)
  · refine g_iconst (v := (-1)) B dX2_at_34 (by decide) ?_
    exact g_iret B hr dX2_at_35 (by decide) (by decide) ⟨t_1, a_f, (-1), rfl, rfl⟩
  · refine g_iload_n B dX2_at_4 rfl 1 rfl ?_
    refine g_aload_n B dX2_at_5 rfl 0 rfl ?_
    refine g_get B 0 1 fl_X2_21 rfl rfl dX2_at_6 ?_
    refine g_icmp_ge (tgt := 34) B dX2_at_9 (by decide) (fun c9_107 => ?_) (fun c9_107 => ?_)
    · refine g_iconst (v := (-1)) B dX2_at_34 (by decide) ?_
      exact g_iret B hr dX2_at_35 (by decide) (by decide) ⟨t_1, a_f, (-1), rfl, rfl⟩
    · refine g_iload_n B dX2_at_12 rfl 1 rfl ?_
      refine g_aload_n B dX2_at_13 rfl 0 rfl ?_
      refine g_get B 0 0 fl_X2_15 rfl rfl dX2_at_14 ?_
      refine g_alen (v := nI N) B 1 (by decide) rfl rfl dX2_at_17 ?_
      refine g_icmp_ge (tgt := 34) B dX2_at_18 (by decide) (fun c18_108 => ?_) (fun c18_108 => ?_)
      · refine g_iconst (v := (-1)) B dX2_at_34 (by decide) ?_
        exact g_iret B hr dX2_at_35 (by decide) (by decide) ⟨t_1, a_f, (-1), rfl, rfl⟩
      · refine g_aload_n B dX2_at_21 rfl 0 rfl ?_
        refine g_get B 0 0 fl_X2_15 rfl rfl dX2_at_22 ?_
        refine g_iload_n B dX2_at_25 rfl 1 rfl ?_
        refine g_bald B 1 rfl (in_lt hN c1_106 (o_2 c18_108)) dX2_at_26 ?_
        refine g_sipush (v := 255) B dX2_at_27 (by decide) ?_
        refine g_iand B dX2_at_30 ?_
        refine g_goto (tgt := 35) B dX2_at_31 (by decide) ?_
        exact g_iret B hr dX2_at_35 (by decide) (by decide) ⟨t_1, a_f, ((a_f (Int32.toNatClampNeg i)) &&& 255), rfl, rfl⟩
abbrev MX2_add : g_M := (yX2_add, cX2_add, 2, none)
theorem dX2_add_0 : decode cX2_add 0 = .ok (.aload_n 0, 1) := by decide +kernel
theorem dX2_add_1 : decode cX2_add 1 = .ok (.getfield 21, 3) := by decide +kernel
theorem dX2_add_4 : decode cX2_add 4 = .ok (.ifCond .lt 36, 3) := by decide +kernel
theorem dX2_add_40 : decode cX2_add 40 = .ok (.return_, 1) := by decide +kernel
theorem dX2_add_7 : decode cX2_add 7 = .ok (.aload_n 0, 1) := by decide +kernel
theorem dX2_add_8 : decode cX2_add 8 = .ok (.getfield 21, 3) := by decide +kernel
theorem dX2_add_11 : decode cX2_add 11 = .ok (.aload_n 0, 1) := by decide +kernel
theorem dX2_add_12 : decode cX2_add 12 = .ok (.getfield 15, 3) := by decide +kernel
theorem dX2_add_15 : decode cX2_add 15 = .ok (.arraylength, 1) := by decide +kernel
theorem dX2_add_16 : decode cX2_add 16 = .ok (.if_icmp .ge 24, 3) := by decide +kernel
theorem dX2_add_19 : decode cX2_add 19 = .ok (.aload_n 0, 1) := by decide +kernel
theorem dX2_add_20 : decode cX2_add 20 = .ok (.getfield 15, 3) := by decide +kernel
theorem dX2_add_23 : decode cX2_add 23 = .ok (.aload_n 0, 1) := by decide +kernel
theorem dX2_add_24 : decode cX2_add 24 = .ok (.getfield 21, 3) := by decide +kernel
theorem dX2_add_27 : decode cX2_add 27 = .ok (.iload_n 1, 1) := by decide +kernel
theorem dX2_add_28 : decode cX2_add 28 = .ok (.i2b, 1) := by decide +kernel
theorem dX2_add_29 : decode cX2_add 29 = .ok (.bastore, 1) := by decide +kernel
theorem dX2_add_30 : decode cX2_add 30 = .ok (.aload_n 0, 1) := by decide +kernel
theorem dX2_add_31 : decode cX2_add 31 = .ok (.dup, 1) := by decide +kernel
theorem dX2_add_32 : decode cX2_add 32 = .ok (.getfield 21, 3) := by decide +kernel
theorem dX2_add_35 : decode cX2_add 35 = .ok (.iconst 1, 1) := by decide +kernel
theorem dX2_add_36 : decode cX2_add 36 = .ok (.iadd, 1) := by decide +kernel
theorem dX2_add_37 : decode cX2_add 37 = .ok (.putfield 21, 3) := by decide +kernel
set_option maxRecDepth 100000 in
set_option maxHeartbeats 4000000 in
theorem wk_X2_add (E : g_E) (t : Nat) (a : Nat) (N : Nat) (t_1 : Int32) (a_f : Nat → Int32) (b : Int32) (hN : N < 2147483648) : Ev E MX2_add 0 0 0 0 [.ref t, .int b] [(t, .inr (2, [.ref a, .int t_1])), (a, .inl (E.2.2.1 1, N, .inl a_f))] (fun v_ w_ => ∃ zt_1 : Int32, ∃ za_f : Nat → Int32, v_ = none ∧ w_ = [(t, .inr (2, [.ref a, .int zt_1])), (a, .inl (E.2.2.1 1, N, .inl za_f))]) := by
  refine Ev.intro (by decide) (Nat.le_of_ble_eq_true rfl) ?_
  intro X B hr hI
  have B : Bd E X cX2_add RX2 2 0 0 0 0 := B
  have hr : Rt E X none 0 0 (fun v_ w_ => ∃ zt_1 : Int32, ∃ za_f : Nat → Int32, v_ = none ∧ w_ = [(t, .inr (2, [.ref a, .int zt_1])), (a, .inl (E.2.2.1 1, N, .inl za_f))]) := hr
  show G E X 2 [(t, .inr (2, [.ref a, .int t_1])), (a, .inl (E.2.2.1 1, N, .inl a_f))] 0 0 [(0, .ref t), (1, .int b)] 0 []
  refine g_aload_n B dX2_add_0 rfl 0 rfl ?_
  refine g_get B 0 1 fl_X2_21 rfl rfl dX2_add_1 ?_
  refine g_if_lt (tgt := 40) B dX2_add_4 (by decide) (fun c4_109 => ?_) (fun c4_109 => ?_)
  · exact g_vret B hr dX2_add_40 (by decide) (by decide) ⟨t_1, a_f, rfl, rfl⟩
  · refine g_aload_n B dX2_add_7 rfl 0 rfl ?_
    refine g_get B 0 1 fl_X2_21 rfl rfl dX2_add_8 ?_
    refine g_aload_n B dX2_add_11 rfl 0 rfl ?_
    refine g_get B 0 0 fl_X2_15 rfl rfl dX2_add_12 ?_
    refine g_alen (v := nI N) B 1 (by decide) rfl rfl dX2_add_15 ?_
    refine g_icmp_ge (tgt := 40) B dX2_add_16 (by decide) (fun c16_110 => ?_) (fun c16_110 => ?_)
    · exact g_vret B hr dX2_add_40 (by decide) (by decide) ⟨t_1, a_f, rfl, rfl⟩
    · refine g_aload_n B dX2_add_19 rfl 0 rfl ?_
      refine g_get B 0 0 fl_X2_15 rfl rfl dX2_add_20 ?_
      refine g_aload_n B dX2_add_23 rfl 0 rfl ?_
      refine g_get B 0 1 fl_X2_21 rfl rfl dX2_add_24 ?_
      refine g_iload_n B dX2_add_27 rfl 1 rfl ?_
      refine g_i2b B dX2_add_28 ?_
      refine g_bast (ws' := [(t, .inr (2, [.ref a, .int t_1])), (a, .inl (E.2.2.1 1, N, .inl (upd a_f (Int32.toNatClampNeg t_1) (vp_nar .byte (Int8.toInt32 (Int32.toInt8 b))))))]) B 1 rfl (in_lt hN c4_109 (o_2 c16_110)) rfl dX2_add_29 ?_
      refine g_aload_n B dX2_add_30 rfl 0 rfl ?_
      refine g_dup B dX2_add_31 rfl ?_
      refine g_get B 0 1 fl_X2_21 rfl rfl dX2_add_32 ?_
      refine g_iconst (v := 1) B dX2_add_35 (by decide) ?_
      refine g_iadd B dX2_add_36 ?_
      refine g_put (ws' := [(t, .inr (2, [.ref a, .int (t_1 + 1)])), (a, .inl (E.2.2.1 1, N, .inl (upd a_f (Int32.toNatClampNeg t_1) (vp_nar .byte (Int8.toInt32 (Int32.toInt8 b))))))]) B 0 1 fl_X2_21 pf_X2_1 rfl (Nat.le_of_ble_eq_true rfl) rfl rfl rfl dX2_add_37 ?_
      exact g_vret B hr dX2_add_40 (by decide) (by decide) ⟨(t_1 + 1), (upd a_f (Int32.toNatClampNeg t_1) (vp_nar .byte (Int8.toInt32 (Int32.toInt8 b)))), rfl, rfl⟩
abbrev MX2_turn : g_M := (yX2_turn, cX2_turn, 3, (some .boolean))
theorem dX2_turn_0 : decode cX2_turn 0 = .ok (.iload_n 1, 1) := by decide +kernel
theorem dX2_turn_1 : decode cX2_turn 1 = .ok (.ifCond .lt 20, 3) := by decide +kernel
theorem dX2_turn_21 : decode cX2_turn 21 = .ok (.iconst 0, 1) := by decide +kernel
theorem dX2_turn_22 : decode cX2_turn 22 = .ok (.ireturn, 1) := by decide +kernel
theorem dX2_turn_4 : decode cX2_turn 4 = .ok (.iload_n 1, 1) := by decide +kernel
theorem dX2_turn_5 : decode cX2_turn 5 = .ok (.aload_n 0, 1) := by decide +kernel
theorem dX2_turn_6 : decode cX2_turn 6 = .ok (.getfield 21, 3) := by decide +kernel
theorem dX2_turn_9 : decode cX2_turn 9 = .ok (.if_icmp .ge 12, 3) := by decide +kernel
theorem dX2_turn_12 : decode cX2_turn 12 = .ok (.iload_n 1, 1) := by decide +kernel
theorem dX2_turn_13 : decode cX2_turn 13 = .ok (.aload_n 0, 1) := by decide +kernel
theorem dX2_turn_14 : decode cX2_turn 14 = .ok (.getfield 15, 3) := by decide +kernel
theorem dX2_turn_17 : decode cX2_turn 17 = .ok (.arraylength, 1) := by decide +kernel
theorem dX2_turn_18 : decode cX2_turn 18 = .ok (.if_icmp .lt 5, 3) := by decide +kernel
theorem dX2_turn_23 : decode cX2_turn 23 = .ok (.aload_n 0, 1) := by decide +kernel
theorem dX2_turn_24 : decode cX2_turn 24 = .ok (.getfield 15, 3) := by decide +kernel
theorem dX2_turn_27 : decode cX2_turn 27 = .ok (.iload_n 1, 1) := by decide +kernel
theorem dX2_turn_28 : decode cX2_turn 28 = .ok (.aload_n 0, 1) := by decide +kernel
theorem dX2_turn_29 : decode cX2_turn 29 = .ok (.getfield 15, 3) := by decide +kernel
theorem dX2_turn_32 : decode cX2_turn 32 = .ok (.iload_n 1, 1) := by decide +kernel
theorem dX2_turn_33 : decode cX2_turn 33 = .ok (.baload, 1) := by decide +kernel
theorem dX2_turn_34 : decode cX2_turn 34 = .ok (.iload_n 2, 1) := by decide +kernel
theorem dX2_turn_35 : decode cX2_turn 35 = .ok (.ixor, 1) := by decide +kernel
theorem dX2_turn_36 : decode cX2_turn 36 = .ok (.i2b, 1) := by decide +kernel
theorem dX2_turn_37 : decode cX2_turn 37 = .ok (.bastore, 1) := by decide +kernel
theorem dX2_turn_38 : decode cX2_turn 38 = .ok (.iconst 1, 1) := by decide +kernel
theorem dX2_turn_39 : decode cX2_turn 39 = .ok (.ireturn, 1) := by decide +kernel
set_option maxRecDepth 100000 in
set_option maxHeartbeats 4000000 in
theorem wk_X2_turn (E : g_E) (t : Nat) (a : Nat) (N : Nat) (t_1 : Int32) (a_f : Nat → Int32) (i : Int32) (b : Int32) (hN : N < 2147483648) : Ev E MX2_turn 0 0 0 0 [.ref t, .int i, .int b] [(t, .inr (2, [.ref a, .int t_1])), (a, .inl (E.2.2.1 1, N, .inl a_f))] (fun v_ w_ => ∃ zt_1 : Int32, ∃ za_f : Nat → Int32, ∃ zr : Int32, (zr = 0 ∨ zr = 1) ∧ v_ = some (.int zr) ∧ w_ = [(t, .inr (2, [.ref a, .int zt_1])), (a, .inl (E.2.2.1 1, N, .inl za_f))]) := by
  refine Ev.intro (by decide) (Nat.le_of_ble_eq_true rfl) ?_
  intro X B hr hI
  have B : Bd E X cX2_turn RX2 3 0 0 0 0 := B
  have hr : Rt E X (some .boolean) 0 0 (fun v_ w_ => ∃ zt_1 : Int32, ∃ za_f : Nat → Int32, ∃ zr : Int32, (zr = 0 ∨ zr = 1) ∧ v_ = some (.int zr) ∧ w_ = [(t, .inr (2, [.ref a, .int zt_1])), (a, .inl (E.2.2.1 1, N, .inl za_f))]) := hr
  show G E X 3 [(t, .inr (2, [.ref a, .int t_1])), (a, .inl (E.2.2.1 1, N, .inl a_f))] 0 0 [(0, .ref t), (1, .int i), (2, .int b)] 0 []
  refine g_iload_n B dX2_turn_0 rfl 1 rfl ?_
  refine g_if_lt (tgt := 21) B dX2_turn_1 (by decide) (fun c1_111 => ?_) (fun c1_111 => ?_)
  · refine g_iconst (v := 0) B dX2_turn_21 (by decide) ?_
    exact g_zret B hr (by decide) dX2_turn_22 (by decide) (by decide) ⟨t_1, a_f, 0, (Or.inl rfl), rfl, rfl⟩
  · refine g_iload_n B dX2_turn_4 rfl 1 rfl ?_
    refine g_aload_n B dX2_turn_5 rfl 0 rfl ?_
    refine g_get B 0 1 fl_X2_21 rfl rfl dX2_turn_6 ?_
    refine g_icmp_ge (tgt := 21) B dX2_turn_9 (by decide) (fun c9_112 => ?_) (fun c9_112 => ?_)
    · refine g_iconst (v := 0) B dX2_turn_21 (by decide) ?_
      exact g_zret B hr (by decide) dX2_turn_22 (by decide) (by decide) ⟨t_1, a_f, 0, (Or.inl rfl), rfl, rfl⟩
    · refine g_iload_n B dX2_turn_12 rfl 1 rfl ?_
      refine g_aload_n B dX2_turn_13 rfl 0 rfl ?_
      refine g_get B 0 0 fl_X2_15 rfl rfl dX2_turn_14 ?_
      refine g_alen (v := nI N) B 1 (by decide) rfl rfl dX2_turn_17 ?_
      refine g_icmp_lt (tgt := 23) B dX2_turn_18 (by decide) (fun c18_113 => ?_) (fun c18_113 => ?_)
      · refine g_aload_n B dX2_turn_23 rfl 0 rfl ?_
        refine g_get B 0 0 fl_X2_15 rfl rfl dX2_turn_24 ?_
        refine g_iload_n B dX2_turn_27 rfl 1 rfl ?_
        refine g_aload_n B dX2_turn_28 rfl 0 rfl ?_
        refine g_get B 0 0 fl_X2_15 rfl rfl dX2_turn_29 ?_
        refine g_iload_n B dX2_turn_32 rfl 1 rfl ?_
        refine g_bald B 1 rfl (in_lt hN c1_111 c18_113) dX2_turn_33 ?_
        refine g_iload_n B dX2_turn_34 rfl 2 rfl ?_
        refine g_ixor B dX2_turn_35 ?_
        refine g_i2b B dX2_turn_36 ?_
        refine g_bast (ws' := [(t, .inr (2, [.ref a, .int t_1])), (a, .inl (E.2.2.1 1, N, .inl (upd a_f (Int32.toNatClampNeg i) (vp_nar .byte (Int8.toInt32 (Int32.toInt8 ((a_f (Int32.toNatClampNeg i)) ^^^ b)))))))]) B 1 rfl (in_lt hN c1_111 c18_113) rfl dX2_turn_37 ?_
        refine g_iconst (v := 1) B dX2_turn_38 (by decide) ?_
        exact g_zret B hr (by decide) dX2_turn_39 (by decide) (by decide) ⟨t_1, (upd a_f (Int32.toNatClampNeg i) (vp_nar .byte (Int8.toInt32 (Int32.toInt8 ((a_f (Int32.toNatClampNeg i)) ^^^ b))))), 1, (Or.inr rfl), rfl, rfl⟩
      · refine g_iconst (v := 0) B dX2_turn_21 (by decide) ?_
        exact g_zret B hr (by decide) dX2_turn_22 (by decide) (by decide) ⟨t_1, a_f, 0, (Or.inl rfl), rfl, rfl⟩
abbrev MX2_shorten : g_M := (yX2_shorten, cX2_shorten, 2, (some .boolean))
theorem dX2_shorten_0 : decode cX2_shorten 0 = .ok (.iload_n 1, 1) := by decide +kernel
theorem dX2_shorten_1 : decode cX2_shorten 1 = .ok (.ifCond .lt 11, 3) := by decide +kernel
theorem dX2_shorten_12 : decode cX2_shorten 12 = .ok (.iconst 0, 1) := by decide +kernel
theorem dX2_shorten_13 : decode cX2_shorten 13 = .ok (.ireturn, 1) := by decide +kernel
theorem dX2_shorten_4 : decode cX2_shorten 4 = .ok (.iload_n 1, 1) := by decide +kernel
theorem dX2_shorten_5 : decode cX2_shorten 5 = .ok (.aload_n 0, 1) := by decide +kernel
theorem dX2_shorten_6 : decode cX2_shorten 6 = .ok (.getfield 21, 3) := by decide +kernel
theorem dX2_shorten_9 : decode cX2_shorten 9 = .ok (.if_icmp .le 5, 3) := by decide +kernel
theorem dX2_shorten_14 : decode cX2_shorten 14 = .ok (.aload_n 0, 1) := by decide +kernel
theorem dX2_shorten_15 : decode cX2_shorten 15 = .ok (.iload_n 1, 1) := by decide +kernel
theorem dX2_shorten_16 : decode cX2_shorten 16 = .ok (.putfield 21, 3) := by decide +kernel
theorem dX2_shorten_19 : decode cX2_shorten 19 = .ok (.iconst 1, 1) := by decide +kernel
theorem dX2_shorten_20 : decode cX2_shorten 20 = .ok (.ireturn, 1) := by decide +kernel
set_option maxRecDepth 100000 in
set_option maxHeartbeats 4000000 in
theorem wk_X2_shorten (E : g_E) (t : Nat) (a : Nat) (N : Nat) (t_1 : Int32) (a_f : Nat → Int32) (n : Int32) (hN : N < 2147483648) : Ev E MX2_shorten 0 0 0 0 [.ref t, .int n] [(t, .inr (2, [.ref a, .int t_1])), (a, .inl (E.2.2.1 1, N, .inl a_f))] (fun v_ w_ => ∃ zt_1 : Int32, ∃ za_f : Nat → Int32, ∃ zr : Int32, (zr = 0 ∨ zr = 1) ∧ v_ = some (.int zr) ∧ w_ = [(t, .inr (2, [.ref a, .int zt_1])), (a, .inl (E.2.2.1 1, N, .inl za_f))]) := by
  refine Ev.intro (by decide) (Nat.le_of_ble_eq_true rfl) ?_
  intro X B hr hI
  have B : Bd E X cX2_shorten RX2 2 0 0 0 0 := B
  have hr : Rt E X (some .boolean) 0 0 (fun v_ w_ => ∃ zt_1 : Int32, ∃ za_f : Nat → Int32, ∃ zr : Int32, (zr = 0 ∨ zr = 1) ∧ v_ = some (.int zr) ∧ w_ = [(t, .inr (2, [.ref a, .int zt_1])), (a, .inl (E.2.2.1 1, N, .inl za_f))]) := hr
  show G E X 2 [(t, .inr (2, [.ref a, .int t_1])), (a, .inl (E.2.2.1 1, N, .inl a_f))] 0 0 [(0, .ref t), (1, .int n)] 0 []
  refine g_iload_n B dX2_shorten_0 rfl 1 rfl ?_
  refine g_if_lt (tgt := 12) B dX2_shorten_1 (by decide) (fun c1_114 => ?_) (fun c1_114 => ?_)
  · refine g_iconst (v := 0) B dX2_shorten_12 (by decide) ?_
    exact g_zret B hr (by decide) dX2_shorten_13 (by decide) (by decide) ⟨t_1, a_f, 0, (Or.inl rfl), rfl, rfl⟩
  · refine g_iload_n B dX2_shorten_4 rfl 1 rfl ?_
    refine g_aload_n B dX2_shorten_5 rfl 0 rfl ?_
    refine g_get B 0 1 fl_X2_21 rfl rfl dX2_shorten_6 ?_
    refine g_icmp_le (tgt := 14) B dX2_shorten_9 (by decide) (fun c9_115 => ?_) (fun c9_115 => ?_)
    · refine g_aload_n B dX2_shorten_14 rfl 0 rfl ?_
      refine g_iload_n B dX2_shorten_15 rfl 1 rfl ?_
      refine g_put (ws' := [(t, .inr (2, [.ref a, .int n])), (a, .inl (E.2.2.1 1, N, .inl a_f))]) B 0 1 fl_X2_21 pf_X2_1 rfl (Nat.le_of_ble_eq_true rfl) rfl rfl rfl dX2_shorten_16 ?_
      refine g_iconst (v := 1) B dX2_shorten_19 (by decide) ?_
      exact g_zret B hr (by decide) dX2_shorten_20 (by decide) (by decide) ⟨n, a_f, 1, (Or.inr rfl), rfl, rfl⟩
    · refine g_iconst (v := 0) B dX2_shorten_12 (by decide) ?_
      exact g_zret B hr (by decide) dX2_shorten_13 (by decide) (by decide) ⟨t_1, a_f, 0, (Or.inl rfl), rfl, rfl⟩
