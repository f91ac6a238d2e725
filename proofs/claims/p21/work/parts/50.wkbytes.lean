def nb (f : Nat → Int32) : Nat → Int32 := fun j => (f j).toInt8.toInt32
theorem nb_upd (f : Nat → Int32) (k : Nat) (x : Int32) : upd (nb f) k (vp_nar .byte x) = nb (upd f k x) := by
  funext j
  unfold upd nb
  split <;> simp_all [vp_nar_byte]
theorem nb_cpy (f h : Nat → Int32) (a b n : Nat) : va_cpy (nb f) (nb h) a b n = nb (va_cpy f h a b n) := by
  funext j
  unfold va_cpy nb
  by_cases h1 : b ≤ j ∧ j < b + n
  · simp only [if_pos h1]
  · simp only [if_neg h1]
theorem in_pw {i : Int32} {N : Nat} (k : Nat) (hk : k < 4) (hN : N < 2147483648) (h1 : ¬ i < 0) (hi : i ≤ 2147483643) (h2 : ¬ nI N < i + 4) : vp_in (i + nI k) N := by
  obtain ⟨j, hj, rfl⟩ := nI_of2 (n := 2147483643) (by decide) h1 hi
  have e4 : nI j + 4 = nI (j + 4) := nI_add j 4
  rw [e4] at h2
  have h3 : j + 4 ≤ N := by
    rcases Nat.lt_or_ge N (j + 4) with h | h
    · exact absurd (nI_lt h (by omega)) h2
    · exact h
  rw [nI_add]
  exact vp_in_nI (by omega) hN
theorem cp_le {n : Int32} {N : Nat} (hN : N < 2147483648) (h1 : ¬ n < 0) (h2 : ¬ nI N < n) : Int32.toNatClampNeg 0 + n.toNatClampNeg ≤ N := by
  obtain ⟨j, hj, rfl⟩ := nI_of h1
  rw [nI_clamp hj]
  have h3 : j ≤ N := by
    rcases Nat.lt_or_ge N j with h | h
    · exact absurd (nI_lt h hj) h2
    · exact h
  have h4 : Int32.toNatClampNeg 0 = 0 := by decide
  omega
theorem inv_up {i n : Int32} (h0 : ¬ i < 0) (h : i < n) : ¬ (i + 1) < 0 := by
  obtain ⟨j, hj, rfl⟩ := nI_of h0
  rw [nI_1]
  have h1 := Int32.lt_iff_toInt_lt.mp h
  have h2 := n.toInt_lt
  rw [nI_toInt hj] at h1
  exact nI_pos (by omega)
theorem in_and15 (x : Int32) : vp_in (x &&& 15) 16 := pk_andIn x 4 (by decide) (by decide)
theorem in_lt {i : Int32} {N : Nat} (hN : N < 2147483648) (h1 : ¬ i < 0) (h2 : i < nI N) : vp_in i N := by
  rcases pk_ix i (n := N) hN with h | h | ⟨j, hj, rfl⟩
  · exact absurd h h1
  · exact absurd h2 (o_4 h)
  · exact vp_in_nI hj hN
theorem st_up {i n : Int32} (h : i < n) : (n.toInt - (i + 1).toInt).toNat < (n.toInt - i.toInt).toNat := by
  have h1 := Int32.lt_iff_toInt_lt.mp h
  have h2 := n.toInt_lt
  have h3 := i.le_toInt
  have h4 : (i + 1).toInt = i.toInt + 1 := by
    rw [Int32.toInt_add]
    rw [Int.bmod_eq_of_le] <;> simp <;> omega
  omega
theorem st_dn {i : Int32} (h : ¬ i < 0) : ((i + (-1)).toInt + 1).toNat < (i.toInt + 1).toNat := by
  have h1 : ¬ i.toInt < 0 := fun q => h (Int32.lt_iff_toInt_lt.mpr q)
  have h2 := i.toInt_lt
  have h4 : (i + (-1)).toInt = i.toInt - 1 := by
    rw [Int32.toInt_add]
    rw [Int.bmod_eq_of_le] <;> simp <;> omega
  omega
abbrev MX2_at : g_M := (yX2_at, cX2_at, 2, (some .int))
theorem dX2_at_0 : decode cX2_at 0 = .ok (.iload_n 1, 1) := by decide +kernel
theorem dX2_at_1 : decode cX2_at 1 = .ok (.ifCond .lt 33, 3) := by decide +kernel
theorem dX2_at_34 : decode cX2_at 34 = .ok (.iconst (-1), 1) := by decide +kernel
theorem dX2_at_35 : decode cX2_at 35 = .ok (.ireturn, 1) := by decide +kernel
theorem dX2_at_4 : decode cX2_at 4 = .ok (.iload_n 1, 1) := by decide +kernel
theorem dX2_at_5 : decode cX2_at 5 = .ok (.aload_n 0, 1) := by decide +kernel
theorem dX2_at_6 : decode cX2_at 6 = .ok (.getfield 21, 3) := by decide +kernel
theorem dX2_at_9 : decode cX2_at 9 = .ok (.if_icmp .ge 25, 3) := by decide +kernel
theorem dX2_at_12 : decode cX2_at 12 = .ok (.iload_n 1, 1) := by decide +kernel
theorem dX2_at_13 : decode cX2_at 13 = .ok (.aload_n 0, 1) := by decide +kernel
theorem dX2_at_14 : decode cX2_at 14 = .ok (.getfield 15, 3) := by decide +kernel
theorem dX2_at_17 : decode cX2_at 17 = .ok (.arraylength, 1) := by decide +kernel
theorem dX2_at_18 : decode cX2_at 18 = .ok (.if_icmp .ge 16, 3) := by decide +kernel
theorem dX2_at_21 : decode cX2_at 21 = .ok (.aload_n 0, 1) := by decide +kernel
theorem dX2_at_22 : decode cX2_at 22 = .ok (.getfield 15, 3) := by decide +kernel
theorem dX2_at_25 : decode cX2_at 25 = .ok (.iload_n 1, 1) := by decide +kernel
theorem dX2_at_26 : decode cX2_at 26 = .ok (.baload, 1) := by decide +kernel
theorem dX2_at_27 : decode cX2_at 27 = .ok (.sipush 255, 3) := by decide +kernel
theorem dX2_at_30 : decode cX2_at 30 = .ok (.iand, 1) := by decide +kernel
theorem dX2_at_31 : decode cX2_at 31 = .ok (.goto 4, 3) := by decide +kernel
set_option maxRecDepth 100000 in
def fn_wk_X2_at (N : Nat) (t_1 : Int32) (a_f : Nat → Int32) (i : Int32) (β : Type) (k_ : Int32 → β) : β := (if i < 0 then (k_ (-1)) else (if t_1 ≤ i then (k_ (-1)) else (if (nI N) ≤ i then (k_ (-1)) else (k_ (((nb a_f) (Int32.toNatClampNeg i)) &&& 255)))))
set_option maxRecDepth 100000 in
theorem fn_wk_X2_at_s {N : Nat} {t_1 : Int32} {a_f : Nat → Int32} {i : Int32} {β : Type} {k_ : Int32 → β} : fn_wk_X2_at N t_1 a_f i β k_ = (if i < 0 then (k_ (-1)) else (if t_1 ≤ i then (k_ (-1)) else (if (nI N) ≤ i then (k_ (-1)) else (k_ (((nb a_f) (Int32.toNatClampNeg i)) &&& 255))))) := rfl
set_option maxRecDepth 100000 in
set_option maxHeartbeats 4000000 in
theorem wk_X2_at (E : g_E) (t : Nat) (a : Nat) (N : Nat) (t_1 : Int32) (a_f : Nat → Int32) (i : Int32) (hN : N < 2147483648) : Ev E MX2_at 0 0 0 0 [.ref t, .int i] [(t, .inr (2, [.ref a, .int t_1])), (a, .inl (E.2.2.1 1, N, .inl (nb a_f)))] (fun v_ w_ => ∃ zr : Int32, (∀ (β : Type) (k_ : Int32 → β), fn_wk_X2_at N t_1 a_f i β k_ = k_ zr) ∧ v_ = some (.int zr) ∧ w_ = [(t, .inr (2, [.ref a, .int t_1])), (a, .inl (E.2.2.1 1, N, .inl (nb a_f)))]) := by
  refine Ev.intro (by decide) (Nat.le_of_ble_eq_true rfl) ?_
  intro X B hr hI
  have B : Bd E X cX2_at RX2 2 0 0 0 0 := B
  have hr : Rt E X (some .int) 0 0 (fun v_ w_ => ∃ zr : Int32, (∀ (β : Type) (k_ : Int32 → β), fn_wk_X2_at N t_1 a_f i β k_ = k_ zr) ∧ v_ = some (.int zr) ∧ w_ = [(t, .inr (2, [.ref a, .int t_1])), (a, .inl (E.2.2.1 1, N, .inl (nb a_f)))]) := hr
  have e_ := fun (β : Type) (k_ : Int32 → β) => fn_wk_X2_at_s (β := β) (k_ := k_) (N := N) (t_1 := t_1) (a_f := a_f) (i := i)
  show G E X 2 [(t, .inr (2, [.ref a, .int t_1])), (a, .inl (E.2.2.1 1, N, .inl (nb a_f)))] 0 0 [(0, .ref t), (1, .int i)] 0 []
  refine g_iload_n B dX2_at_0 rfl 1 rfl ?_
  refine g_if_lt (tgt := 34) B dX2_at_1 (by decide) (fun c1_123 => ?_) (fun c1_123 => ?_)
  · replace e_ := fun β k_ => (e_ β k_).trans (if_pos c1_123)
    refine g_iconst (v := (-1)) B dX2_at_34 (by decide) ?_
    exact g_iret B hr dX2_at_35 (by decide) (by decide) ⟨(-1), e_, rfl, rfl⟩
  · replace e_ := fun β k_ => (e_ β k_).trans (if_neg c1_123)
    refine g_iload_n B dX2_at_4 rfl 1 rfl ?_
    refine g_aload_n B dX2_at_5 rfl 0 rfl ?_
    refine g_get B 0 1 fl_X2_21 rfl rfl dX2_at_6 ?_
    refine g_icmp_ge (tgt := 34) B dX2_at_9 (by decide) (fun c9_124 => ?_) (fun c9_124 => ?_)
    · replace e_ := fun β k_ => (e_ β k_).trans (if_pos c9_124)
      refine g_iconst (v := (-1)) B dX2_at_34 (by decide) ?_
      exact g_iret B hr dX2_at_35 (by decide) (by decide) ⟨(-1), e_, rfl, rfl⟩
    · replace e_ := fun β k_ => (e_ β k_).trans (if_neg c9_124)
      refine g_iload_n B dX2_at_12 rfl 1 rfl ?_
      refine g_aload_n B dX2_at_13 rfl 0 rfl ?_
      refine g_get B 0 0 fl_X2_15 rfl rfl dX2_at_14 ?_
      refine g_alen (v := nI N) B 1 (by decide) rfl rfl dX2_at_17 ?_
      refine g_icmp_ge (tgt := 34) B dX2_at_18 (by decide) (fun c18_125 => ?_) (fun c18_125 => ?_)
      · replace e_ := fun β k_ => (e_ β k_).trans (if_pos c18_125)
        refine g_iconst (v := (-1)) B dX2_at_34 (by decide) ?_
        exact g_iret B hr dX2_at_35 (by decide) (by decide) ⟨(-1), e_, rfl, rfl⟩
      · replace e_ := fun β k_ => (e_ β k_).trans (if_neg c18_125)
        refine g_aload_n B dX2_at_21 rfl 0 rfl ?_
        refine g_get B 0 0 fl_X2_15 rfl rfl dX2_at_22 ?_
        refine g_iload_n B dX2_at_25 rfl 1 rfl ?_
        refine g_bald B 1 rfl (in_lt hN c1_123 (o_2 c18_125)) dX2_at_26 ?_
        refine g_sipush (v := 255) B dX2_at_27 (by decide) ?_
        refine g_iand B dX2_at_30 ?_
        refine g_goto (tgt := 35) B dX2_at_31 (by decide) ?_
        exact g_iret B hr dX2_at_35 (by decide) (by decide) ⟨(((nb a_f) (Int32.toNatClampNeg i)) &&& 255), e_, rfl, rfl⟩
abbrev MX2_add : g_M := (yX2_add, cX2_add, 2, none)
theorem dX2_add_0 : decode cX2_add 0 = .ok (.aload_n 0, 1) := by decide +kernel
theorem dX2_add_1 : decode cX2_add 1 = .ok (.getfield 21, 3) := by decide +kernel
theorem dX2_add_4 : decode cX2_add 4 = .ok (.ifCond .lt 36, 3) := by decide +kernel
theorem dX2_add_40 : decode cX2_add 40 = .ok (.return_, 1) := by decide +kernel
theorem dX2_add_7 : decode cX2_add 7 = .ok (.aload_n 0, 1) := by decide +kernel
theorem dX2_add_8 : decode cX2_add 8 = .ok (.getfield 21, 3) := by decide +kernel
theorem dX2_add_11 : decode cX2_add 11 = .ok (.aload_n 0, 1) := by decide +kernel
theorem dX2_add_12 : decode cX2_add 12 = .ok (.getfield 15, 3) := by decide +kernel
theorem dX2_add_15 : decode cX2_add 15 = .ok (.arraylength, 1) := by decide +kernel
theorem dX2_add_16 : decode cX2_add 16 = .ok (.if_icmp .ge 24, 3) := by decide +kernel
theorem dX2_add_19 : decode cX2_add 19 = .ok (.aload_n 0, 1) := by decide +kernel
theorem dX2_add_20 : decode cX2_add 20 = .ok (.getfield 15, 3) := by decide +kernel
theorem dX2_add_23 : decode cX2_add 23 = .ok (.aload_n 0, 1) := by decide +kernel
theorem dX2_add_24 : decode cX2_add 24 = .ok (.getfield 21, 3) := by decide +kernel
theorem dX2_add_27 : decode cX2_add 27 = .ok (.iload_n 1, 1) := by decide +kernel
theorem dX2_add_28 : decode cX2_add 28 = .ok (.i2b, 1) := by decide +kernel
theorem dX2_add_29 : decode cX2_add 29 = .ok (.bastore, 1) := by decide +kernel
theorem dX2_add_30 : decode cX2_add 30 = .ok (.aload_n 0, 1) := by decide +kernel
theorem dX2_add_31 : decode cX2_add 31 = .ok (.dup, 1) := by decide +kernel
theorem dX2_add_32 : decode cX2_add 32 = .ok (.getfield 21, 3) := by decide +kernel
theorem dX2_add_35 : decode cX2_add 35 = .ok (.iconst 1, 1) := by decide +kernel
theorem dX2_add_36 : decode cX2_add 36 = .ok (.iadd, 1) := by decide +kernel
theorem dX2_add_37 : decode cX2_add 37 = .ok (.putfield 21, 3) := by decide +kernel
set_option maxRecDepth 100000 in
def fn_wk_X2_add (N : Nat) (t_1 : Int32) (a_f : Nat → Int32) (b : Int32) (β : Type) (k_ : Int32 → (Nat → Int32) → β) : β := (if t_1 < 0 then (k_ t_1 a_f) else (if (nI N) ≤ t_1 then (k_ t_1 a_f) else (k_ (t_1 + 1) (upd a_f (Int32.toNatClampNeg t_1) (Int8.toInt32 (Int32.toInt8 b))))))
set_option maxRecDepth 100000 in
theorem fn_wk_X2_add_s {N : Nat} {t_1 : Int32} {a_f : Nat → Int32} {b : Int32} {β : Type} {k_ : Int32 → (Nat → Int32) → β} : fn_wk_X2_add N t_1 a_f b β k_ = (if t_1 < 0 then (k_ t_1 a_f) else (if (nI N) ≤ t_1 then (k_ t_1 a_f) else (k_ (t_1 + 1) (upd a_f (Int32.toNatClampNeg t_1) (Int8.toInt32 (Int32.toInt8 b)))))) := rfl
set_option maxRecDepth 100000 in
set_option maxHeartbeats 4000000 in
theorem wk_X2_add (E : g_E) (t : Nat) (a : Nat) (N : Nat) (t_1 : Int32) (a_f : Nat → Int32) (b : Int32) (hN : N < 2147483648) : Ev E MX2_add 0 0 0 0 [.ref t, .int b] [(t, .inr (2, [.ref a, .int t_1])), (a, .inl (E.2.2.1 1, N, .inl (nb a_f)))] (fun v_ w_ => ∃ zt_1 : Int32, ∃ za_f : Nat → Int32, (∀ (β : Type) (k_ : Int32 → (Nat → Int32) → β), fn_wk_X2_add N t_1 a_f b β k_ = k_ zt_1 za_f) ∧ v_ = none ∧ w_ = [(t, .inr (2, [.ref a, .int zt_1])), (a, .inl (E.2.2.1 1, N, .inl (nb za_f)))]) := by
  refine Ev.intro (by decide) (Nat.le_of_ble_eq_true rfl) ?_
  intro X B hr hI
  have B : Bd E X cX2_add RX2 2 0 0 0 0 := B
  have hr : Rt E X none 0 0 (fun v_ w_ => ∃ zt_1 : Int32, ∃ za_f : Nat → Int32, (∀ (β : Type) (k_ : Int32 → (Nat → Int32) → β), fn_wk_X2_add N t_1 a_f b β k_ = k_ zt_1 za_f) ∧ v_ = none ∧ w_ = [(t, .inr (2, [.ref a, .int zt_1])), (a, .inl (E.2.2.1 1, N, .inl (nb za_f)))]) := hr
  have e_ := fun (β : Type) (k_ : Int32 → (Nat → Int32) → β) => fn_wk_X2_add_s (β := β) (k_ := k_) (N := N) (t_1 := t_1) (a_f := a_f) (b := b)
  show G E X 2 [(t, .inr (2, [.ref a, .int t_1])), (a, .inl (E.2.2.1 1, N, .inl (nb a_f)))] 0 0 [(0, .ref t), (1, .int b)] 0 []
  refine g_aload_n B dX2_add_0 rfl 0 rfl ?_
  refine g_get B 0 1 fl_X2_21 rfl rfl dX2_add_1 ?_
  refine g_if_lt (tgt := 40) B dX2_add_4 (by decide) (fun c4_126 => ?_) (fun c4_126 => ?_)
  · replace e_ := fun β k_ => (e_ β k_).trans (if_pos c4_126)
    exact g_vret B hr dX2_add_40 (by decide) (by decide) ⟨t_1, a_f, e_, rfl, rfl⟩
  · replace e_ := fun β k_ => (e_ β k_).trans (if_neg c4_126)
    refine g_aload_n B dX2_add_7 rfl 0 rfl ?_
    refine g_get B 0 1 fl_X2_21 rfl rfl dX2_add_8 ?_
    refine g_aload_n B dX2_add_11 rfl 0 rfl ?_
    refine g_get B 0 0 fl_X2_15 rfl rfl dX2_add_12 ?_
    refine g_alen (v := nI N) B 1 (by decide) rfl rfl dX2_add_15 ?_
    refine g_icmp_ge (tgt := 40) B dX2_add_16 (by decide) (fun c16_127 => ?_) (fun c16_127 => ?_)
    · replace e_ := fun β k_ => (e_ β k_).trans (if_pos c16_127)
      exact g_vret B hr dX2_add_40 (by decide) (by decide) ⟨t_1, a_f, e_, rfl, rfl⟩
    · replace e_ := fun β k_ => (e_ β k_).trans (if_neg c16_127)
      refine g_aload_n B dX2_add_19 rfl 0 rfl ?_
      refine g_get B 0 0 fl_X2_15 rfl rfl dX2_add_20 ?_
      refine g_aload_n B dX2_add_23 rfl 0 rfl ?_
      refine g_get B 0 1 fl_X2_21 rfl rfl dX2_add_24 ?_
      refine g_iload_n B dX2_add_27 rfl 1 rfl ?_
      refine g_i2b B dX2_add_28 ?_
      refine g_bast (ws' := [(t, .inr (2, [.ref a, .int t_1])), (a, .inl (E.2.2.1 1, N, .inl (nb (upd a_f (Int32.toNatClampNeg t_1) (Int8.toInt32 (Int32.toInt8 b))))))]) B 1 rfl (in_lt hN c4_126 (o_2 c16_127)) (by rw [nb_upd]; rfl) dX2_add_29 ?_
      refine g_aload_n B dX2_add_30 rfl 0 rfl ?_
      refine g_dup B dX2_add_31 rfl ?_
      refine g_get B 0 1 fl_X2_21 rfl rfl dX2_add_32 ?_
      refine g_iconst (v := 1) B dX2_add_35 (by decide) ?_
      refine g_iadd B dX2_add_36 ?_
      refine g_put (ws' := [(t, .inr (2, [.ref a, .int (t_1 + 1)])), (a, .inl (E.2.2.1 1, N, .inl (nb (upd a_f (Int32.toNatClampNeg t_1) (Int8.toInt32 (Int32.toInt8 b))))))]) B 0 1 fl_X2_21 pf_X2_1 rfl (Nat.le_of_ble_eq_true rfl) rfl rfl rfl dX2_add_37 ?_
      exact g_vret B hr dX2_add_40 (by decide) (by decide) ⟨(t_1 + 1), (upd a_f (Int32.toNatClampNeg t_1) (Int8.toInt32 (Int32.toInt8 b))), e_, rfl, rfl⟩
abbrev MX2_turn : g_M := (yX2_turn, cX2_turn, 3, (some .boolean))
theorem dX2_turn_0 : decode cX2_turn 0 = .ok (.iload_n 1, 1) := by decide +kernel
theorem dX2_turn_1 : decode cX2_turn 1 = .ok (.ifCond .lt 20, 3) := by decide +kernel
theorem dX2_turn_21 : decode cX2_turn 21 = .ok (.iconst 0, 1) := by decide +kernel
theorem dX2_turn_22 : decode cX2_turn 22 = .ok (.ireturn, 1) := by decide +kernel
theorem dX2_turn_4 : decode cX2_turn 4 = .ok (.iload_n 1, 1) := by decide +kernel
theorem dX2_turn_5 : decode cX2_turn 5 = .ok (.aload_n 0, 1) := by decide +kernel
theorem dX2_turn_6 : decode cX2_turn 6 = .ok (.getfield 21, 3) := by decide +kernel
theorem dX2_turn_9 : decode cX2_turn 9 = .ok (.if_icmp .ge 12, 3) := by decide +kernel
theorem dX2_turn_12 : decode cX2_turn 12 = .ok (.iload_n 1, 1) := by decide +kernel
theorem dX2_turn_13 : decode cX2_turn 13 = .ok (.aload_n 0, 1) := by decide +kernel
theorem dX2_turn_14 : decode cX2_turn 14 = .ok (.getfield 15, 3) := by decide +kernel
theorem dX2_turn_17 : decode cX2_turn 17 = .ok (.arraylength, 1) := by decide +kernel
theorem dX2_turn_18 : decode cX2_turn 18 = .ok (.if_icmp .lt 5, 3) := by decide +kernel
theorem dX2_turn_23 : decode cX2_turn 23 = .ok (.aload_n 0, 1) := by decide +kernel
theorem dX2_turn_24 : decode cX2_turn 24 = .ok (.getfield 15, 3) := by decide +kernel
theorem dX2_turn_27 : decode cX2_turn 27 = .ok (.iload_n 1, 1) := by decide +kernel
theorem dX2_turn_28 : decode cX2_turn 28 = .ok (.aload_n 0, 1) := by decide +kernel
theorem dX2_turn_29 : decode cX2_turn 29 = .ok (.getfield 15, 3) := by decide +kernel
theorem dX2_turn_32 : decode cX2_turn 32 = .ok (.iload_n 1, 1) := by decide +kernel
theorem dX2_turn_33 : decode cX2_turn 33 = .ok (.baload, 1) := by decide +kernel
theorem dX2_turn_34 : decode cX2_turn 34 = .ok (.iload_n 2, 1) := by decide +kernel
theorem dX2_turn_35 : decode cX2_turn 35 = .ok (.ixor, 1) := by decide +kernel
theorem dX2_turn_36 : decode cX2_turn 36 = .ok (.i2b, 1) := by decide +kernel
theorem dX2_turn_37 : decode cX2_turn 37 = .ok (.bastore, 1) := by decide +kernel
theorem dX2_turn_38 : decode cX2_turn 38 = .ok (.iconst 1, 1) := by decide +kernel
theorem dX2_turn_39 : decode cX2_turn 39 = .ok (.ireturn, 1) := by decide +kernel
set_option maxRecDepth 100000 in
def fn_wk_X2_turn (N : Nat) (t_1 : Int32) (a_f : Nat → Int32) (i : Int32) (b : Int32) (β : Type) (k_ : (Nat → Int32) → Int32 → β) : β := (if i < 0 then (k_ a_f 0) else (if t_1 ≤ i then (k_ a_f 0) else (if i < (nI N) then (k_ (upd a_f (Int32.toNatClampNeg i) (Int8.toInt32 (Int32.toInt8 (((nb a_f) (Int32.toNatClampNeg i)) ^^^ b)))) 1) else (k_ a_f 0))))
set_option maxRecDepth 100000 in
theorem fn_wk_X2_turn_s {N : Nat} {t_1 : Int32} {a_f : Nat → Int32} {i : Int32} {b : Int32} {β : Type} {k_ : (Nat → Int32) → Int32 → β} : fn_wk_X2_turn N t_1 a_f i b β k_ = (if i < 0 then (k_ a_f 0) else (if t_1 ≤ i then (k_ a_f 0) else (if i < (nI N) then (k_ (upd a_f (Int32.toNatClampNeg i) (Int8.toInt32 (Int32.toInt8 (((nb a_f) (Int32.toNatClampNeg i)) ^^^ b)))) 1) else (k_ a_f 0)))) := rfl
set_option maxRecDepth 100000 in
set_option maxHeartbeats 4000000 in
theorem wk_X2_turn (E : g_E) (t : Nat) (a : Nat) (N : Nat) (t_1 : Int32) (a_f : Nat → Int32) (i : Int32) (b : Int32) (hN : N < 2147483648) : Ev E MX2_turn 0 0 0 0 [.ref t, .int i, .int b] [(t, .inr (2, [.ref a, .int t_1])), (a, .inl (E.2.2.1 1, N, .inl (nb a_f)))] (fun v_ w_ => ∃ za_f : Nat → Int32, ∃ zr : Int32, (zr = 0 ∨ zr = 1) ∧ (∀ (β : Type) (k_ : (Nat → Int32) → Int32 → β), fn_wk_X2_turn N t_1 a_f i b β k_ = k_ za_f zr) ∧ v_ = some (.int zr) ∧ w_ = [(t, .inr (2, [.ref a, .int t_1])), (a, .inl (E.2.2.1 1, N, .inl (nb za_f)))]) := by
  refine Ev.intro (by decide) (Nat.le_of_ble_eq_true rfl) ?_
  intro X B hr hI
  have B : Bd E X cX2_turn RX2 3 0 0 0 0 := B
  have hr : Rt E X (some .boolean) 0 0 (fun v_ w_ => ∃ za_f : Nat → Int32, ∃ zr : Int32, (zr = 0 ∨ zr = 1) ∧ (∀ (β : Type) (k_ : (Nat → Int32) → Int32 → β), fn_wk_X2_turn N t_1 a_f i b β k_ = k_ za_f zr) ∧ v_ = some (.int zr) ∧ w_ = [(t, .inr (2, [.ref a, .int t_1])), (a, .inl (E.2.2.1 1, N, .inl (nb za_f)))]) := hr
  have e_ := fun (β : Type) (k_ : (Nat → Int32) → Int32 → β) => fn_wk_X2_turn_s (β := β) (k_ := k_) (N := N) (t_1 := t_1) (a_f := a_f) (i := i) (b := b)
  show G E X 3 [(t, .inr (2, [.ref a, .int t_1])), (a, .inl (E.2.2.1 1, N, .inl (nb a_f)))] 0 0 [(0, .ref t), (1, .int i), (2, .int b)] 0 []
  refine g_iload_n B dX2_turn_0 rfl 1 rfl ?_
  refine g_if_lt (tgt := 21) B dX2_turn_1 (by decide) (fun c1_128 => ?_) (fun c1_128 => ?_)
  · replace e_ := fun β k_ => (e_ β k_).trans (if_pos c1_128)
    refine g_iconst (v := 0) B dX2_turn_21 (by decide) ?_
    exact g_zret B hr (by decide) dX2_turn_22 (by decide) (by decide) ⟨a_f, 0, (Or.inl rfl), e_, rfl, rfl⟩
  · replace e_ := fun β k_ => (e_ β k_).trans (if_neg c1_128)
    refine g_iload_n B dX2_turn_4 rfl 1 rfl ?_
    refine g_aload_n B dX2_turn_5 rfl 0 rfl ?_
    refine g_get B 0 1 fl_X2_21 rfl rfl dX2_turn_6 ?_
    refine g_icmp_ge (tgt := 21) B dX2_turn_9 (by decide) (fun c9_129 => ?_) (fun c9_129 => ?_)
    · replace e_ := fun β k_ => (e_ β k_).trans (if_pos c9_129)
      refine g_iconst (v := 0) B dX2_turn_21 (by decide) ?_
      exact g_zret B hr (by decide) dX2_turn_22 (by decide) (by decide) ⟨a_f, 0, (Or.inl rfl), e_, rfl, rfl⟩
    · replace e_ := fun β k_ => (e_ β k_).trans (if_neg c9_129)
      refine g_iload_n B dX2_turn_12 rfl 1 rfl ?_
      refine g_aload_n B dX2_turn_13 rfl 0 rfl ?_
      refine g_get B 0 0 fl_X2_15 rfl rfl dX2_turn_14 ?_
      refine g_alen (v := nI N) B 1 (by decide) rfl rfl dX2_turn_17 ?_
      refine g_icmp_lt (tgt := 23) B dX2_turn_18 (by decide) (fun c18_130 => ?_) (fun c18_130 => ?_)
      · replace e_ := fun β k_ => (e_ β k_).trans (if_pos c18_130)
        refine g_aload_n B dX2_turn_23 rfl 0 rfl ?_
        refine g_get B 0 0 fl_X2_15 rfl rfl dX2_turn_24 ?_
        refine g_iload_n B dX2_turn_27 rfl 1 rfl ?_
        refine g_aload_n B dX2_turn_28 rfl 0 rfl ?_
        refine g_get B 0 0 fl_X2_15 rfl rfl dX2_turn_29 ?_
        refine g_iload_n B dX2_turn_32 rfl 1 rfl ?_
        refine g_bald B 1 rfl (in_lt hN c1_128 c18_130) dX2_turn_33 ?_
        refine g_iload_n B dX2_turn_34 rfl 2 rfl ?_
        refine g_ixor B dX2_turn_35 ?_
        refine g_i2b B dX2_turn_36 ?_
        refine g_bast (ws' := [(t, .inr (2, [.ref a, .int t_1])), (a, .inl (E.2.2.1 1, N, .inl (nb (upd a_f (Int32.toNatClampNeg i) (Int8.toInt32 (Int32.toInt8 (((nb a_f) (Int32.toNatClampNeg i)) ^^^ b)))))))]) B 1 rfl (in_lt hN c1_128 c18_130) (by rw [nb_upd]; rfl) dX2_turn_37 ?_
        refine g_iconst (v := 1) B dX2_turn_38 (by decide) ?_
        exact g_zret B hr (by decide) dX2_turn_39 (by decide) (by decide) ⟨(upd a_f (Int32.toNatClampNeg i) (Int8.toInt32 (Int32.toInt8 (((nb a_f) (Int32.toNatClampNeg i)) ^^^ b)))), 1, (Or.inr rfl), e_, rfl, rfl⟩
      · replace e_ := fun β k_ => (e_ β k_).trans (if_neg c18_130)
        refine g_iconst (v := 0) B dX2_turn_21 (by decide) ?_
        exact g_zret B hr (by decide) dX2_turn_22 (by decide) (by decide) ⟨a_f, 0, (Or.inl rfl), e_, rfl, rfl⟩
abbrev MX2_shorten : g_M := (yX2_shorten, cX2_shorten, 2, (some .boolean))
theorem dX2_shorten_0 : decode cX2_shorten 0 = .ok (.iload_n 1, 1) := by decide +kernel
theorem dX2_shorten_1 : decode cX2_shorten 1 = .ok (.ifCond .lt 11, 3) := by decide +kernel
theorem dX2_shorten_12 : decode cX2_shorten 12 = .ok (.iconst 0, 1) := by decide +kernel
theorem dX2_shorten_13 : decode cX2_shorten 13 = .ok (.ireturn, 1) := by decide +kernel
theorem dX2_shorten_4 : decode cX2_shorten 4 = .ok (.iload_n 1, 1) := by decide +kernel
theorem dX2_shorten_5 : decode cX2_shorten 5 = .ok (.aload_n 0, 1) := by decide +kernel
theorem dX2_shorten_6 : decode cX2_shorten 6 = .ok (.getfield 21, 3) := by decide +kernel
theorem dX2_shorten_9 : decode cX2_shorten 9 = .ok (.if_icmp .le 5, 3) := by decide +kernel
theorem dX2_shorten_14 : decode cX2_shorten 14 = .ok (.aload_n 0, 1) := by decide +kernel
theorem dX2_shorten_15 : decode cX2_shorten 15 = .ok (.iload_n 1, 1) := by decide +kernel
theorem dX2_shorten_16 : decode cX2_shorten 16 = .ok (.putfield 21, 3) := by decide +kernel
theorem dX2_shorten_19 : decode cX2_shorten 19 = .ok (.iconst 1, 1) := by decide +kernel
theorem dX2_shorten_20 : decode cX2_shorten 20 = .ok (.ireturn, 1) := by decide +kernel
set_option maxRecDepth 100000 in
def fn_wk_X2_shorten (t_1 : Int32) (n : Int32) (β : Type) (k_ : Int32 → Int32 → β) : β := (if n < 0 then (k_ t_1 0) else (if n ≤ t_1 then (k_ n 1) else (k_ t_1 0)))
set_option maxRecDepth 100000 in
theorem fn_wk_X2_shorten_s {t_1 : Int32} {n : Int32} {β : Type} {k_ : Int32 → Int32 → β} : fn_wk_X2_shorten t_1 n β k_ = (if n < 0 then (k_ t_1 0) else (if n ≤ t_1 then (k_ n 1) else (k_ t_1 0))) := rfl
set_option maxRecDepth 100000 in
set_option maxHeartbeats 4000000 in
theorem wk_X2_shorten (E : g_E) (t : Nat) (a : Nat) (N : Nat) (a_f : Nat → Int32) (t_1 : Int32) (n : Int32) (hN : N < 2147483648) : Ev E MX2_shorten 0 0 0 0 [.ref t, .int n] [(t, .inr (2, [.ref a, .int t_1])), (a, .inl (E.2.2.1 1, N, .inl (nb a_f)))] (fun v_ w_ => ∃ zt_1 : Int32, ∃ zr : Int32, (zr = 0 ∨ zr = 1) ∧ (∀ (β : Type) (k_ : Int32 → Int32 → β), fn_wk_X2_shorten t_1 n β k_ = k_ zt_1 zr) ∧ v_ = some (.int zr) ∧ w_ = [(t, .inr (2, [.ref a, .int zt_1])), (a, .inl (E.2.2.1 1, N, .inl (nb a_f)))]) := by
  refine Ev.intro (by decide) (Nat.le_of_ble_eq_true rfl) ?_
  intro X B hr hI
  have B : Bd E X cX2_shorten RX2 2 0 0 0 0 := B
  have hr : Rt E X (some .boolean) 0 0 (fun v_ w_ => ∃ zt_1 : Int32, ∃ zr : Int32, (zr = 0 ∨ zr = 1) ∧ (∀ (β : Type) (k_ : Int32 → Int32 → β), fn_wk_X2_shorten t_1 n β k_ = k_ zt_1 zr) ∧ v_ = some (.int zr) ∧ w_ = [(t, .inr (2, [.ref a, .int zt_1])), (a, .inl (E.2.2.1 1, N, .inl (nb a_f)))]) := hr
  have e_ := fun (β : Type) (k_ : Int32 → Int32 → β) => fn_wk_X2_shorten_s (β := β) (k_ := k_) (t_1 := t_1) (n := n)
  show G E X 2 [(t, .inr (2, [.ref a, .int t_1])), (a, .inl (E.2.2.1 1, N, .inl (nb a_f)))] 0 0 [(0, .ref t), (1, .int n)] 0 []
  refine g_iload_n B dX2_shorten_0 rfl 1 rfl ?_
  refine g_if_lt (tgt := 12) B dX2_shorten_1 (by decide) (fun c1_131 => ?_) (fun c1_131 => ?_)
  · replace e_ := fun β k_ => (e_ β k_).trans (if_pos c1_131)
    refine g_iconst (v := 0) B dX2_shorten_12 (by decide) ?_
    exact g_zret B hr (by decide) dX2_shorten_13 (by decide) (by decide) ⟨t_1, 0, (Or.inl rfl), e_, rfl, rfl⟩
  · replace e_ := fun β k_ => (e_ β k_).trans (if_neg c1_131)
    refine g_iload_n B dX2_shorten_4 rfl 1 rfl ?_
    refine g_aload_n B dX2_shorten_5 rfl 0 rfl ?_
    refine g_get B 0 1 fl_X2_21 rfl rfl dX2_shorten_6 ?_
    refine g_icmp_le (tgt := 14) B dX2_shorten_9 (by decide) (fun c9_132 => ?_) (fun c9_132 => ?_)
    · replace e_ := fun β k_ => (e_ β k_).trans (if_pos c9_132)
      refine g_aload_n B dX2_shorten_14 rfl 0 rfl ?_
      refine g_iload_n B dX2_shorten_15 rfl 1 rfl ?_
      refine g_put (ws' := [(t, .inr (2, [.ref a, .int n])), (a, .inl (E.2.2.1 1, N, .inl (nb a_f)))]) B 0 1 fl_X2_21 pf_X2_1 rfl (Nat.le_of_ble_eq_true rfl) rfl rfl rfl dX2_shorten_16 ?_
      refine g_iconst (v := 1) B dX2_shorten_19 (by decide) ?_
      exact g_zret B hr (by decide) dX2_shorten_20 (by decide) (by decide) ⟨n, 1, (Or.inr rfl), e_, rfl, rfl⟩
    · replace e_ := fun β k_ => (e_ β k_).trans (if_neg c9_132)
      refine g_iconst (v := 0) B dX2_shorten_12 (by decide) ?_
      exact g_zret B hr (by decide) dX2_shorten_13 (by decide) (by decide) ⟨t_1, 0, (Or.inl rfl), e_, rfl, rfl⟩
abbrev MX2_addWord : g_M := (yX2_addWord, cX2_addWord, 3, none)
theorem dX2_addWord_0 : decode cX2_addWord 0 = .ok (.bipush 24, 2) := by decide +kernel
theorem dX2_addWord_2 : decode cX2_addWord 2 = .ok (.istore_n 2, 1) := by decide +kernel
theorem dX2_addWord_3 : decode cX2_addWord 3 = .ok (.iload_n 2, 1) := by decide +kernel
theorem dX2_addWord_4 : decode cX2_addWord 4 = .ok (.ifCond .lt 16, 3) := by decide +kernel
theorem dX2_addWord_7 : decode cX2_addWord 7 = .ok (.aload_n 0, 1) := by decide +kernel
theorem dX2_addWord_8 : decode cX2_addWord 8 = .ok (.iload_n 1, 1) := by decide +kernel
theorem dX2_addWord_9 : decode cX2_addWord 9 = .ok (.iload_n 2, 1) := by decide +kernel
theorem dX2_addWord_10 : decode cX2_addWord 10 = .ok (.ishr, 1) := by decide +kernel
theorem dX2_addWord_11 : decode cX2_addWord 11 = .ok (.invokevirtual 25, 3) := by decide +kernel
theorem w_ml_X2_25 : Cond.methodLink RX2 25 yX2_add ∈ g_tbl := g_tbl_in 500 (by decide +kernel) (by decide +kernel)
theorem w_cd_X2_add : g_cw MX2_add ∈ g_tbl := g_tbl_in 495 (by decide +kernel) (by decide +kernel)
theorem cl_X2_25 : CL RX2 25 1 MX2_add := ⟨w_ml_X2_25, w_cd_X2_add, w_ini_X2, by decide +kernel, by decide +kernel, by decide +kernel⟩
theorem w_im_X2_add : Cond.instanceMethod yX2_add ∈ g_tbl := g_tbl_in 493 (by decide +kernel) (by decide +kernel)
theorem w_se_X2_add : Cond.selects RX2 yX2_add yX2_add ∈ g_tbl := g_tbl_in 494 (by decide +kernel) (by decide +kernel)
theorem dX2_addWord_14 : decode cX2_addWord 14 = .ok (.iinc 2 (-8), 3) := by decide +kernel
theorem dX2_addWord_17 : decode cX2_addWord 17 = .ok (.goto (-14), 3) := by decide +kernel
theorem dX2_addWord_20 : decode cX2_addWord 20 = .ok (.return_, 1) := by decide +kernel
set_option maxRecDepth 100000 in
def fn_wk_X2_addWord (N : Nat) (t_1 : Int32) (a_f : Nat → Int32) (w : Int32) (β : Type) (k_ : Int32 → (Nat → Int32) → β) : β := (fn_wk_X2_add N t_1 a_f (w >>> (24 &&& 31)) β (fun zt_1_133 za_f_134 => (fn_wk_X2_add N zt_1_133 za_f_134 (w >>> (16 &&& 31)) β (fun zt_1_136 za_f_137 => (fn_wk_X2_add N zt_1_136 za_f_137 (w >>> (8 &&& 31)) β (fun zt_1_139 za_f_140 => (fn_wk_X2_add N zt_1_139 za_f_140 (w >>> (0 &&& 31)) β (fun zt_1_142 za_f_143 => (k_ zt_1_142 za_f_143)))))))))
set_option maxRecDepth 100000 in
theorem fn_wk_X2_addWord_s {N : Nat} {t_1 : Int32} {a_f : Nat → Int32} {w : Int32} {β : Type} {k_ : Int32 → (Nat → Int32) → β} : fn_wk_X2_addWord N t_1 a_f w β k_ = (fn_wk_X2_add N t_1 a_f (w >>> (24 &&& 31)) β (fun zt_1_133 za_f_134 => (fn_wk_X2_add N zt_1_133 za_f_134 (w >>> (16 &&& 31)) β (fun zt_1_136 za_f_137 => (fn_wk_X2_add N zt_1_136 za_f_137 (w >>> (8 &&& 31)) β (fun zt_1_139 za_f_140 => (fn_wk_X2_add N zt_1_139 za_f_140 (w >>> (0 &&& 31)) β (fun zt_1_142 za_f_143 => (k_ zt_1_142 za_f_143))))))))) := rfl
set_option maxRecDepth 100000 in
set_option maxHeartbeats 4000000 in
theorem wk_X2_addWord (E : g_E) (t : Nat) (a : Nat) (N : Nat) (t_1 : Int32) (a_f : Nat → Int32) (w : Int32) (hN : N < 2147483648) : Ev E MX2_addWord 1 21 0 0 [.ref t, .int w] [(t, .inr (2, [.ref a, .int t_1])), (a, .inl (E.2.2.1 1, N, .inl (nb a_f)))] (fun v_ w_ => ∃ zt_1 : Int32, ∃ za_f : Nat → Int32, (∀ (β : Type) (k_ : Int32 → (Nat → Int32) → β), fn_wk_X2_addWord N t_1 a_f w β k_ = k_ zt_1 za_f) ∧ v_ = none ∧ w_ = [(t, .inr (2, [.ref a, .int zt_1])), (a, .inl (E.2.2.1 1, N, .inl (nb za_f)))]) := by
  refine Ev.intro (by decide) (Nat.le_of_ble_eq_true rfl) ?_
  intro X B hr hI
  have B : Bd E X cX2_addWord RX2 3 1 21 0 0 := B
  have hr : Rt E X none 0 0 (fun v_ w_ => ∃ zt_1 : Int32, ∃ za_f : Nat → Int32, (∀ (β : Type) (k_ : Int32 → (Nat → Int32) → β), fn_wk_X2_addWord N t_1 a_f w β k_ = k_ zt_1 za_f) ∧ v_ = none ∧ w_ = [(t, .inr (2, [.ref a, .int zt_1])), (a, .inl (E.2.2.1 1, N, .inl (nb za_f)))]) := hr
  have e_ := fun (β : Type) (k_ : Int32 → (Nat → Int32) → β) => fn_wk_X2_addWord_s (β := β) (k_ := k_) (N := N) (t_1 := t_1) (a_f := a_f) (w := w)
  show G E X 3 [(t, .inr (2, [.ref a, .int t_1])), (a, .inl (E.2.2.1 1, N, .inl (nb a_f)))] 0 0 [(0, .ref t), (1, .int w)] 0 []
  refine g_bipush (v := 24) B dX2_addWord_0 (by decide) ?_
  refine g_istore_n (lv' := [(2, .int 24), (0, .ref t), (1, .int w)]) B dX2_addWord_2 rfl (by decide) rfl ?_
  refine g_iload_n B dX2_addWord_3 rfl 0 rfl ?_
  refine g_if_lt (tgt := 20) B dX2_addWord_4 (by decide) (fun h => absurd h (by decide)) (fun c4 => ?_)
  refine g_aload_n B dX2_addWord_7 rfl 1 rfl ?_
  refine g_iload_n B dX2_addWord_8 rfl 2 rfl ?_
  refine g_iload_n B dX2_addWord_9 rfl 0 rfl ?_
  refine g_ishr B dX2_addWord_10 ?_
  refine g_callV (st := []) (As := [.int (w >>> (24 &&& 31))]) (wr := []) (nc' := 0) (ns' := 0) B cl_X2_25 w_im_X2_add w_se_X2_add (wk_X2_add E t a N t_1 a_f (w >>> (24 &&& 31)) (by first | assumption | omega | decide)) rfl [0, 1] [] rfl rfl (by decide) (by decide) (by decide) 0 rfl (fun q h => by cases h; rfl) rfl ⟨by decide, by decide⟩ rfl rfl (by decide) (by decide) rfl (Nat.le_of_ble_eq_true rfl) dX2_addWord_11 (fun v w hq => ?_)
  obtain ⟨zt_1_133, za_f_134, hz_135, rfl, rfl⟩ := hq
  replace e_ := fun β k_ => (e_ β k_).trans (hz_135 β _)
  show G E X 3 [(t, .inr (2, [.ref a, .int zt_1_133])), (a, .inl (E.2.2.1 1, N, .inl (nb za_f_134)))] 0 0 [(2, .int 24), (0, .ref t), (1, .int w)] 14 []
  refine g_iinc (v := 16) (lv' := [(2, .int 16), (0, .ref t), (1, .int w)]) B dX2_addWord_14 0 rfl (by decide) (by decide) rfl ?_
  refine g_goto (tgt := 3) B dX2_addWord_17 (by decide) ?_
  refine g_iload_n B dX2_addWord_3 rfl 0 rfl ?_
  refine g_if_lt (tgt := 20) B dX2_addWord_4 (by decide) (fun h => absurd h (by decide)) (fun c4 => ?_)
  refine g_aload_n B dX2_addWord_7 rfl 1 rfl ?_
  refine g_iload_n B dX2_addWord_8 rfl 2 rfl ?_
  refine g_iload_n B dX2_addWord_9 rfl 0 rfl ?_
  refine g_ishr B dX2_addWord_10 ?_
  refine g_callV (st := []) (As := [.int (w >>> (16 &&& 31))]) (wr := []) (nc' := 0) (ns' := 0) B cl_X2_25 w_im_X2_add w_se_X2_add (wk_X2_add E t a N zt_1_133 za_f_134 (w >>> (16 &&& 31)) (by first | assumption | omega | decide)) rfl [0, 1] [] rfl rfl (by decide) (by decide) (by decide) 0 rfl (fun q h => by cases h; rfl) rfl ⟨by decide, by decide⟩ rfl rfl (by decide) (by decide) rfl (Nat.le_of_ble_eq_true rfl) dX2_addWord_11 (fun v w hq => ?_)
  obtain ⟨zt_1_136, za_f_137, hz_138, rfl, rfl⟩ := hq
  replace e_ := fun β k_ => (e_ β k_).trans (hz_138 β _)
  show G E X 3 [(t, .inr (2, [.ref a, .int zt_1_136])), (a, .inl (E.2.2.1 1, N, .inl (nb za_f_137)))] 0 0 [(2, .int 16), (0, .ref t), (1, .int w)] 14 []
  refine g_iinc (v := 8) (lv' := [(2, .int 8), (0, .ref t), (1, .int w)]) B dX2_addWord_14 0 rfl (by decide) (by decide) rfl ?_
  refine g_goto (tgt := 3) B dX2_addWord_17 (by decide) ?_
  refine g_iload_n B dX2_addWord_3 rfl 0 rfl ?_
  refine g_if_lt (tgt := 20) B dX2_addWord_4 (by decide) (fun h => absurd h (by decide)) (fun c4 => ?_)
  refine g_aload_n B dX2_addWord_7 rfl 1 rfl ?_
  refine g_iload_n B dX2_addWord_8 rfl 2 rfl ?_
  refine g_iload_n B dX2_addWord_9 rfl 0 rfl ?_
  refine g_ishr B dX2_addWord_10 ?_
  refine g_callV (st := []) (As := [.int (w >>> (8 &&& 31))]) (wr := []) (nc' := 0) (ns' := 0) B cl_X2_25 w_im_X2_add w_se_X2_add (wk_X2_add E t a N zt_1_136 za_f_137 (w >>> (8 &&& 31)) (by first | assumption | omega | decide)) rfl [0, 1] [] rfl rfl (by decide) (by decide) (by decide) 0 rfl (fun q h => by cases h; rfl) rfl ⟨by decide, by decide⟩ rfl rfl (by decide) (by decide) rfl (Nat.le_of_ble_eq_true rfl) dX2_addWord_11 (fun v w hq => ?_)
  obtain ⟨zt_1_139, za_f_140, hz_141, rfl, rfl⟩ := hq
  replace e_ := fun β k_ => (e_ β k_).trans (hz_141 β _)
  show G E X 3 [(t, .inr (2, [.ref a, .int zt_1_139])), (a, .inl (E.2.2.1 1, N, .inl (nb za_f_140)))] 0 0 [(2, .int 8), (0, .ref t), (1, .int w)] 14 []
  refine g_iinc (v := 0) (lv' := [(2, .int 0), (0, .ref t), (1, .int w)]) B dX2_addWord_14 0 rfl (by decide) (by decide) rfl ?_
  refine g_goto (tgt := 3) B dX2_addWord_17 (by decide) ?_
  refine g_iload_n B dX2_addWord_3 rfl 0 rfl ?_
  refine g_if_lt (tgt := 20) B dX2_addWord_4 (by decide) (fun h => absurd h (by decide)) (fun c4 => ?_)
  refine g_aload_n B dX2_addWord_7 rfl 1 rfl ?_
  refine g_iload_n B dX2_addWord_8 rfl 2 rfl ?_
  refine g_iload_n B dX2_addWord_9 rfl 0 rfl ?_
  refine g_ishr B dX2_addWord_10 ?_
  refine g_callV (st := []) (As := [.int (w >>> (0 &&& 31))]) (wr := []) (nc' := 0) (ns' := 0) B cl_X2_25 w_im_X2_add w_se_X2_add (wk_X2_add E t a N zt_1_139 za_f_140 (w >>> (0 &&& 31)) (by first | assumption | omega | decide)) rfl [0, 1] [] rfl rfl (by decide) (by decide) (by decide) 0 rfl (fun q h => by cases h; rfl) rfl ⟨by decide, by decide⟩ rfl rfl (by decide) (by decide) rfl (Nat.le_of_ble_eq_true rfl) dX2_addWord_11 (fun v w hq => ?_)
  obtain ⟨zt_1_142, za_f_143, hz_144, rfl, rfl⟩ := hq
  replace e_ := fun β k_ => (e_ β k_).trans (hz_144 β _)
  show G E X 3 [(t, .inr (2, [.ref a, .int zt_1_142])), (a, .inl (E.2.2.1 1, N, .inl (nb za_f_143)))] 0 0 [(2, .int 0), (0, .ref t), (1, .int w)] 14 []
  refine g_iinc (v := (-8)) (lv' := [(2, .int (-8)), (0, .ref t), (1, .int w)]) B dX2_addWord_14 0 rfl (by decide) (by decide) rfl ?_
  refine g_goto (tgt := 3) B dX2_addWord_17 (by decide) ?_
  refine g_iload_n B dX2_addWord_3 rfl 0 rfl ?_
  refine g_if_lt (tgt := 20) B dX2_addWord_4 (by decide) (fun c4 => ?_) (fun h => absurd (by decide) h)
  exact g_vret B hr dX2_addWord_20 (by decide) (by decide) ⟨zt_1_142, za_f_143, e_, rfl, rfl⟩
abbrev MX2_wordAt : g_M := (yX2_wordAt, cX2_wordAt, 4, (some .int))
theorem dX2_wordAt_0 : decode cX2_wordAt 0 = .ok (.iconst 0, 1) := by decide +kernel
theorem dX2_wordAt_1 : decode cX2_wordAt 1 = .ok (.istore_n 2, 1) := by decide +kernel
theorem dX2_wordAt_2 : decode cX2_wordAt 2 = .ok (.iconst 0, 1) := by decide +kernel
theorem dX2_wordAt_3 : decode cX2_wordAt 3 = .ok (.istore_n 3, 1) := by decide +kernel
theorem dX2_wordAt_4 : decode cX2_wordAt 4 = .ok (.iload_n 3, 1) := by decide +kernel
theorem dX2_wordAt_5 : decode cX2_wordAt 5 = .ok (.iconst 4, 1) := by decide +kernel
theorem dX2_wordAt_6 : decode cX2_wordAt 6 = .ok (.if_icmp .ge 26, 3) := by decide +kernel
theorem dX2_wordAt_9 : decode cX2_wordAt 9 = .ok (.iload_n 2, 1) := by decide +kernel
theorem dX2_wordAt_10 : decode cX2_wordAt 10 = .ok (.bipush 8, 2) := by decide +kernel
theorem dX2_wordAt_12 : decode cX2_wordAt 12 = .ok (.ishl, 1) := by decide +kernel
theorem dX2_wordAt_13 : decode cX2_wordAt 13 = .ok (.aload_n 0, 1) := by decide +kernel
theorem dX2_wordAt_14 : decode cX2_wordAt 14 = .ok (.iload_n 1, 1) := by decide +kernel
theorem dX2_wordAt_15 : decode cX2_wordAt 15 = .ok (.iload_n 3, 1) := by decide +kernel
theorem dX2_wordAt_16 : decode cX2_wordAt 16 = .ok (.iadd, 1) := by decide +kernel
theorem dX2_wordAt_17 : decode cX2_wordAt 17 = .ok (.invokevirtual 29, 3) := by decide +kernel
theorem w_ml_X2_29 : Cond.methodLink RX2 29 yX2_at ∈ g_tbl := g_tbl_in 754 (by decide +kernel) (by decide +kernel)
theorem w_cd_X2_at : g_cw MX2_at ∈ g_tbl := g_tbl_in 702 (by decide +kernel) (by decide +kernel)
theorem cl_X2_29 : CL RX2 29 1 MX2_at := ⟨w_ml_X2_29, w_cd_X2_at, w_ini_X2, by decide +kernel, by decide +kernel, by decide +kernel⟩
theorem w_im_X2_at : Cond.instanceMethod yX2_at ∈ g_tbl := g_tbl_in 700 (by decide +kernel) (by decide +kernel)
theorem w_se_X2_at : Cond.selects RX2 yX2_at yX2_at ∈ g_tbl := g_tbl_in 701 (by decide +kernel) (by decide +kernel)
theorem dX2_wordAt_20 : decode cX2_wordAt 20 = .ok (.sipush 255, 3) := by decide +kernel
theorem dX2_wordAt_23 : decode cX2_wordAt 23 = .ok (.iand, 1) := by decide +kernel
theorem dX2_wordAt_24 : decode cX2_wordAt 24 = .ok (.ior, 1) := by decide +kernel
theorem dX2_wordAt_25 : decode cX2_wordAt 25 = .ok (.istore_n 2, 1) := by decide +kernel
theorem dX2_wordAt_26 : decode cX2_wordAt 26 = .ok (.iinc 3 1, 3) := by decide +kernel
theorem dX2_wordAt_29 : decode cX2_wordAt 29 = .ok (.goto (-25), 3) := by decide +kernel
theorem dX2_wordAt_32 : decode cX2_wordAt 32 = .ok (.iload_n 2, 1) := by decide +kernel
theorem dX2_wordAt_33 : decode cX2_wordAt 33 = .ok (.ireturn, 1) := by decide +kernel
set_option maxRecDepth 100000 in
def fn_wk_X2_wordAt (N : Nat) (t_1 : Int32) (a_f : Nat → Int32) (i : Int32) (β : Type) (k_ : Int32 → β) : β := (fn_wk_X2_at N t_1 a_f (i + 0) β (fun zr_145 => (fn_wk_X2_at N t_1 a_f (i + 1) β (fun zr_147 => (fn_wk_X2_at N t_1 a_f (i + 2) β (fun zr_149 => (fn_wk_X2_at N t_1 a_f (i + 3) β (fun zr_151 => (fnL (((((((0 ||| (zr_145 &&& 255)) <<< (8 &&& 31)) ||| (zr_147 &&& 255)) <<< (8 &&& 31)) ||| (zr_149 &&& 255)) <<< (8 &&& 31)) ||| (zr_151 &&& 255)) (fun x_153 => (k_ x_153)))))))))))
set_option maxRecDepth 100000 in
theorem fn_wk_X2_wordAt_s {N : Nat} {t_1 : Int32} {a_f : Nat → Int32} {i : Int32} {β : Type} {k_ : Int32 → β} : fn_wk_X2_wordAt N t_1 a_f i β k_ = (fn_wk_X2_at N t_1 a_f (i + 0) β (fun zr_145 => (fn_wk_X2_at N t_1 a_f (i + 1) β (fun zr_147 => (fn_wk_X2_at N t_1 a_f (i + 2) β (fun zr_149 => (fn_wk_X2_at N t_1 a_f (i + 3) β (fun zr_151 => (fnL (((((((0 ||| (zr_145 &&& 255)) <<< (8 &&& 31)) ||| (zr_147 &&& 255)) <<< (8 &&& 31)) ||| (zr_149 &&& 255)) <<< (8 &&& 31)) ||| (zr_151 &&& 255)) (fun x_153 => (k_ x_153))))))))))) := rfl
set_option maxRecDepth 100000 in
set_option maxHeartbeats 4000000 in
theorem wk_X2_wordAt (E : g_E) (t : Nat) (a : Nat) (N : Nat) (t_1 : Int32) (a_f : Nat → Int32) (i : Int32) (hN : N < 2147483648) : Ev E MX2_wordAt 1 21 0 0 [.ref t, .int i] [(t, .inr (2, [.ref a, .int t_1])), (a, .inl (E.2.2.1 1, N, .inl (nb a_f)))] (fun v_ w_ => ∃ zr : Int32, (∀ (β : Type) (k_ : Int32 → β), fn_wk_X2_wordAt N t_1 a_f i β k_ = k_ zr) ∧ v_ = some (.int zr) ∧ w_ = [(t, .inr (2, [.ref a, .int t_1])), (a, .inl (E.2.2.1 1, N, .inl (nb a_f)))]) := by
  refine Ev.intro (by decide) (Nat.le_of_ble_eq_true rfl) ?_
  intro X B hr hI
  have B : Bd E X cX2_wordAt RX2 4 1 21 0 0 := B
  have hr : Rt E X (some .int) 0 0 (fun v_ w_ => ∃ zr : Int32, (∀ (β : Type) (k_ : Int32 → β), fn_wk_X2_wordAt N t_1 a_f i β k_ = k_ zr) ∧ v_ = some (.int zr) ∧ w_ = [(t, .inr (2, [.ref a, .int t_1])), (a, .inl (E.2.2.1 1, N, .inl (nb a_f)))]) := hr
  have e_ := fun (β : Type) (k_ : Int32 → β) => fn_wk_X2_wordAt_s (β := β) (k_ := k_) (N := N) (t_1 := t_1) (a_f := a_f) (i := i)
  show G E X 4 [(t, .inr (2, [.ref a, .int t_1])), (a, .inl (E.2.2.1 1, N, .inl (nb a_f)))] 0 0 [(0, .ref t), (1, .int i)] 0 []
  refine g_iconst (v := 0) B dX2_wordAt_0 (by decide) ?_
  refine g_istore_n (lv' := [(2, .int 0), (0, .ref t), (1, .int i)]) B dX2_wordAt_1 rfl (by decide) rfl ?_
  refine g_iconst (v := 0) B dX2_wordAt_2 (by decide) ?_
  refine g_istore_n (lv' := [(3, .int 0), (2, .int 0), (0, .ref t), (1, .int i)]) B dX2_wordAt_3 rfl (by decide) rfl ?_
  refine g_iload_n B dX2_wordAt_4 rfl 0 rfl ?_
  refine g_iconst (v := 4) B dX2_wordAt_5 (by decide) ?_
  refine g_icmp_ge (tgt := 32) B dX2_wordAt_6 (by decide) (fun h => absurd h (by decide)) (fun c6 => ?_)
  refine g_iload_n B dX2_wordAt_9 rfl 1 rfl ?_
  refine g_bipush (v := 8) B dX2_wordAt_10 (by decide) ?_
  refine g_ishl B dX2_wordAt_12 ?_
  refine g_ri (x' := 0) (by decide) ?_
  refine g_aload_n B dX2_wordAt_13 rfl 2 rfl ?_
  refine g_iload_n B dX2_wordAt_14 rfl 3 rfl ?_
  refine g_iload_n B dX2_wordAt_15 rfl 0 rfl ?_
  refine g_iadd B dX2_wordAt_16 ?_
  refine g_callV (st := [.int 0]) (As := [.int (i + 0)]) (wr := []) (nc' := 0) (ns' := 0) B cl_X2_29 w_im_X2_at w_se_X2_at (wk_X2_at E t a N t_1 a_f (i + 0) (by first | assumption | omega | decide)) rfl [0, 1] [] rfl rfl (by decide) (by decide) (by decide) 0 rfl (fun q h => by cases h; rfl) rfl ⟨by decide, by decide⟩ rfl rfl (by decide) (by decide) rfl (Nat.le_of_ble_eq_true rfl) dX2_wordAt_17 (fun v w hq => ?_)
  obtain ⟨zr_145, hz_146, rfl, rfl⟩ := hq
  replace e_ := fun β k_ => (e_ β k_).trans (hz_146 β _)
  show G E X 4 [(t, .inr (2, [.ref a, .int t_1])), (a, .inl (E.2.2.1 1, N, .inl (nb a_f)))] 0 0 [(3, .int 0), (2, .int 0), (0, .ref t), (1, .int i)] 20 [.int zr_145, .int 0]
  refine g_sipush (v := 255) B dX2_wordAt_20 (by decide) ?_
  refine g_iand B dX2_wordAt_23 ?_
  refine g_ior B dX2_wordAt_24 ?_
  refine g_istore_n (lv' := [(2, .int (0 ||| (zr_145 &&& 255))), (3, .int 0), (0, .ref t), (1, .int i)]) B dX2_wordAt_25 rfl (by decide) rfl ?_
  refine g_iinc (v := 1) (lv' := [(3, .int 1), (2, .int (0 ||| (zr_145 &&& 255))), (0, .ref t), (1, .int i)]) B dX2_wordAt_26 1 rfl (by decide) (by decide) rfl ?_
  refine g_goto (tgt := 4) B dX2_wordAt_29 (by decide) ?_
  refine g_iload_n B dX2_wordAt_4 rfl 0 rfl ?_
  refine g_iconst (v := 4) B dX2_wordAt_5 (by decide) ?_
  refine g_icmp_ge (tgt := 32) B dX2_wordAt_6 (by decide) (fun h => absurd h (by decide)) (fun c6 => ?_)
  refine g_iload_n B dX2_wordAt_9 rfl 1 rfl ?_
  refine g_bipush (v := 8) B dX2_wordAt_10 (by decide) ?_
  refine g_ishl B dX2_wordAt_12 ?_
  refine g_aload_n B dX2_wordAt_13 rfl 2 rfl ?_
  refine g_iload_n B dX2_wordAt_14 rfl 3 rfl ?_
  refine g_iload_n B dX2_wordAt_15 rfl 0 rfl ?_
  refine g_iadd B dX2_wordAt_16 ?_
  refine g_callV (st := [.int ((0 ||| (zr_145 &&& 255)) <<< (8 &&& 31))]) (As := [.int (i + 1)]) (wr := []) (nc' := 0) (ns' := 0) B cl_X2_29 w_im_X2_at w_se_X2_at (wk_X2_at E t a N t_1 a_f (i + 1) (by first | assumption | omega | decide)) rfl [0, 1] [] rfl rfl (by decide) (by decide) (by decide) 0 rfl (fun q h => by cases h; rfl) rfl ⟨by decide, by decide⟩ rfl rfl (by decide) (by decide) rfl (Nat.le_of_ble_eq_true rfl) dX2_wordAt_17 (fun v w hq => ?_)
  obtain ⟨zr_147, hz_148, rfl, rfl⟩ := hq
  replace e_ := fun β k_ => (e_ β k_).trans (hz_148 β _)
  show G E X 4 [(t, .inr (2, [.ref a, .int t_1])), (a, .inl (E.2.2.1 1, N, .inl (nb a_f)))] 0 0 [(3, .int 1), (2, .int (0 ||| (zr_145 &&& 255))), (0, .ref t), (1, .int i)] 20 [.int zr_147, .int ((0 ||| (zr_145 &&& 255)) <<< (8 &&& 31))]
  refine g_sipush (v := 255) B dX2_wordAt_20 (by decide) ?_
  refine g_iand B dX2_wordAt_23 ?_
  refine g_ior B dX2_wordAt_24 ?_
  refine g_istore_n (lv' := [(2, .int (((0 ||| (zr_145 &&& 255)) <<< (8 &&& 31)) ||| (zr_147 &&& 255))), (3, .int 1), (0, .ref t), (1, .int i)]) B dX2_wordAt_25 rfl (by decide) rfl ?_
  refine g_iinc (v := 2) (lv' := [(3, .int 2), (2, .int (((0 ||| (zr_145 &&& 255)) <<< (8 &&& 31)) ||| (zr_147 &&& 255))), (0, .ref t), (1, .int i)]) B dX2_wordAt_26 1 rfl (by decide) (by decide) rfl ?_
  refine g_goto (tgt := 4) B dX2_wordAt_29 (by decide) ?_
  refine g_iload_n B dX2_wordAt_4 rfl 0 rfl ?_
  refine g_iconst (v := 4) B dX2_wordAt_5 (by decide) ?_
  refine g_icmp_ge (tgt := 32) B dX2_wordAt_6 (by decide) (fun h => absurd h (by decide)) (fun c6 => ?_)
  refine g_iload_n B dX2_wordAt_9 rfl 1 rfl ?_
  refine g_bipush (v := 8) B dX2_wordAt_10 (by decide) ?_
  refine g_ishl B dX2_wordAt_12 ?_
  refine g_aload_n B dX2_wordAt_13 rfl 2 rfl ?_
  refine g_iload_n B dX2_wordAt_14 rfl 3 rfl ?_
  refine g_iload_n B dX2_wordAt_15 rfl 0 rfl ?_
  refine g_iadd B dX2_wordAt_16 ?_
  refine g_callV (st := [.int ((((0 ||| (zr_145 &&& 255)) <<< (8 &&& 31)) ||| (zr_147 &&& 255)) <<< (8 &&& 31))]) (As := [.int (i + 2)]) (wr := []) (nc' := 0) (ns' := 0) B cl_X2_29 w_im_X2_at w_se_X2_at (wk_X2_at E t a N t_1 a_f (i + 2) (by first | assumption | omega | decide)) rfl [0, 1] [] rfl rfl (by decide) (by decide) (by decide) 0 rfl (fun q h => by cases h; rfl) rfl ⟨by decide, by decide⟩ rfl rfl (by decide) (by decide) rfl (Nat.le_of_ble_eq_true rfl) dX2_wordAt_17 (fun v w hq => ?_)
  obtain ⟨zr_149, hz_150, rfl, rfl⟩ := hq
  replace e_ := fun β k_ => (e_ β k_).trans (hz_150 β _)
  show G E X 4 [(t, .inr (2, [.ref a, .int t_1])), (a, .inl (E.2.2.1 1, N, .inl (nb a_f)))] 0 0 [(3, .int 2), (2, .int (((0 ||| (zr_145 &&& 255)) <<< (8 &&& 31)) ||| (zr_147 &&& 255))), (0, .ref t), (1, .int i)] 20 [.int zr_149, .int ((((0 ||| (zr_145 &&& 255)) <<< (8 &&& 31)) ||| (zr_147 &&& 255)) <<< (8 &&& 31))]
  refine g_sipush (v := 255) B dX2_wordAt_20 (by decide) ?_
  refine g_iand B dX2_wordAt_23 ?_
  refine g_ior B dX2_wordAt_24 ?_
  refine g_istore_n (lv' := [(2, .int (((((0 ||| (zr_145 &&& 255)) <<< (8 &&& 31)) ||| (zr_147 &&& 255)) <<< (8 &&& 31)) ||| (zr_149 &&& 255))), (3, .int 2), (0, .ref t), (1, .int i)]) B dX2_wordAt_25 rfl (by decide) rfl ?_
  refine g_iinc (v := 3) (lv' := [(3, .int 3), (2, .int (((((0 ||| (zr_145 &&& 255)) <<< (8 &&& 31)) ||| (zr_147 &&& 255)) <<< (8 &&& 31)) ||| (zr_149 &&& 255))), (0, .ref t), (1, .int i)]) B dX2_wordAt_26 1 rfl (by decide) (by decide) rfl ?_
  refine g_goto (tgt := 4) B dX2_wordAt_29 (by decide) ?_
  refine g_iload_n B dX2_wordAt_4 rfl 0 rfl ?_
  refine g_iconst (v := 4) B dX2_wordAt_5 (by decide) ?_
  refine g_icmp_ge (tgt := 32) B dX2_wordAt_6 (by decide) (fun h => absurd h (by decide)) (fun c6 => ?_)
  refine g_iload_n B dX2_wordAt_9 rfl 1 rfl ?_
  refine g_bipush (v := 8) B dX2_wordAt_10 (by decide) ?_
  refine g_ishl B dX2_wordAt_12 ?_
  refine g_aload_n B dX2_wordAt_13 rfl 2 rfl ?_
  refine g_iload_n B dX2_wordAt_14 rfl 3 rfl ?_
  refine g_iload_n B dX2_wordAt_15 rfl 0 rfl ?_
  refine g_iadd B dX2_wordAt_16 ?_
  refine g_callV (st := [.int ((((((0 ||| (zr_145 &&& 255)) <<< (8 &&& 31)) ||| (zr_147 &&& 255)) <<< (8 &&& 31)) ||| (zr_149 &&& 255)) <<< (8 &&& 31))]) (As := [.int (i + 3)]) (wr := []) (nc' := 0) (ns' := 0) B cl_X2_29 w_im_X2_at w_se_X2_at (wk_X2_at E t a N t_1 a_f (i + 3) (by first | assumption | omega | decide)) rfl [0, 1] [] rfl rfl (by decide) (by decide) (by decide) 0 rfl (fun q h => by cases h; rfl) rfl ⟨by decide, by decide⟩ rfl rfl (by decide) (by decide) rfl (Nat.le_of_ble_eq_true rfl) dX2_wordAt_17 (fun v w hq => ?_)
  obtain ⟨zr_151, hz_152, rfl, rfl⟩ := hq
  replace e_ := fun β k_ => (e_ β k_).trans (hz_152 β _)
  show G E X 4 [(t, .inr (2, [.ref a, .int t_1])), (a, .inl (E.2.2.1 1, N, .inl (nb a_f)))] 0 0 [(3, .int 3), (2, .int (((((0 ||| (zr_145 &&& 255)) <<< (8 &&& 31)) ||| (zr_147 &&& 255)) <<< (8 &&& 31)) ||| (zr_149 &&& 255))), (0, .ref t), (1, .int i)] 20 [.int zr_151, .int ((((((0 ||| (zr_145 &&& 255)) <<< (8 &&& 31)) ||| (zr_147 &&& 255)) <<< (8 &&& 31)) ||| (zr_149 &&& 255)) <<< (8 &&& 31))]
  refine g_sipush (v := 255) B dX2_wordAt_20 (by decide) ?_
  refine g_iand B dX2_wordAt_23 ?_
  refine g_ior B dX2_wordAt_24 ?_
  refine g_topi (fun x_153 ex_153 => ?_)
  replace e_ := fun β k_ => (e_ β k_).trans (fnL_eq (x := x_153) ex_153.symm _)
  refine g_istore_n (lv' := [(2, .int x_153), (3, .int 3), (0, .ref t), (1, .int i)]) B dX2_wordAt_25 rfl (by decide) rfl ?_
  refine g_iinc (v := 4) (lv' := [(3, .int 4), (2, .int x_153), (0, .ref t), (1, .int i)]) B dX2_wordAt_26 1 rfl (by decide) (by decide) rfl ?_
  refine g_goto (tgt := 4) B dX2_wordAt_29 (by decide) ?_
  refine g_iload_n B dX2_wordAt_4 rfl 0 rfl ?_
  refine g_iconst (v := 4) B dX2_wordAt_5 (by decide) ?_
  refine g_icmp_ge (tgt := 32) B dX2_wordAt_6 (by decide) (fun c6 => ?_) (fun h => absurd (by decide) h)
  refine g_iload_n B dX2_wordAt_32 rfl 1 rfl ?_
  exact g_iret B hr dX2_wordAt_33 (by decide) (by decide) ⟨x_153, e_, rfl, rfl⟩
abbrev MX2_putWord : g_M := (yX2_putWord, cX2_putWord, 4, none)
theorem dX2_putWord_0 : decode cX2_putWord 0 = .ok (.iload_n 1, 1) := by decide +kernel
theorem dX2_putWord_1 : decode cX2_putWord 1 = .ok (.ifCond .lt 24, 3) := by decide +kernel
theorem dX2_putWord_25 : decode cX2_putWord 25 = .ok (.return_, 1) := by decide +kernel
theorem dX2_putWord_4 : decode cX2_putWord 4 = .ok (.iload_n 1, 1) := by decide +kernel
theorem dX2_putWord_5 : decode cX2_putWord 5 = .ok (.iconst 4, 1) := by decide +kernel
theorem dX2_putWord_6 : decode cX2_putWord 6 = .ok (.iadd, 1) := by decide +kernel
theorem dX2_putWord_7 : decode cX2_putWord 7 = .ok (.aload_n 0, 1) := by decide +kernel
theorem dX2_putWord_8 : decode cX2_putWord 8 = .ok (.getfield 21, 3) := by decide +kernel
theorem dX2_putWord_11 : decode cX2_putWord 11 = .ok (.if_icmp .gt 14, 3) := by decide +kernel
theorem dX2_putWord_14 : decode cX2_putWord 14 = .ok (.iload_n 1, 1) := by decide +kernel
theorem dX2_putWord_15 : decode cX2_putWord 15 = .ok (.iconst 4, 1) := by decide +kernel
theorem dX2_putWord_16 : decode cX2_putWord 16 = .ok (.iadd, 1) := by decide +kernel
theorem dX2_putWord_17 : decode cX2_putWord 17 = .ok (.aload_n 0, 1) := by decide +kernel
theorem dX2_putWord_18 : decode cX2_putWord 18 = .ok (.getfield 15, 3) := by decide +kernel
theorem dX2_putWord_21 : decode cX2_putWord 21 = .ok (.arraylength, 1) := by decide +kernel
theorem dX2_putWord_22 : decode cX2_putWord 22 = .ok (.if_icmp .le 4, 3) := by decide +kernel
theorem dX2_putWord_26 : decode cX2_putWord 26 = .ok (.iconst 0, 1) := by decide +kernel
theorem dX2_putWord_27 : decode cX2_putWord 27 = .ok (.istore_n 3, 1) := by decide +kernel
theorem dX2_putWord_28 : decode cX2_putWord 28 = .ok (.iload_n 3, 1) := by decide +kernel
theorem dX2_putWord_29 : decode cX2_putWord 29 = .ok (.iconst 4, 1) := by decide +kernel
theorem dX2_putWord_30 : decode cX2_putWord 30 = .ok (.if_icmp .ge 27, 3) := by decide +kernel
theorem dX2_putWord_33 : decode cX2_putWord 33 = .ok (.aload_n 0, 1) := by decide +kernel
theorem dX2_putWord_34 : decode cX2_putWord 34 = .ok (.getfield 15, 3) := by decide +kernel
theorem dX2_putWord_37 : decode cX2_putWord 37 = .ok (.iload_n 1, 1) := by decide +kernel
theorem dX2_putWord_38 : decode cX2_putWord 38 = .ok (.iload_n 3, 1) := by decide +kernel
theorem dX2_putWord_39 : decode cX2_putWord 39 = .ok (.iadd, 1) := by decide +kernel
theorem dX2_putWord_40 : decode cX2_putWord 40 = .ok (.iload_n 2, 1) := by decide +kernel
theorem dX2_putWord_41 : decode cX2_putWord 41 = .ok (.bipush 24, 2) := by decide +kernel
theorem dX2_putWord_43 : decode cX2_putWord 43 = .ok (.bipush 8, 2) := by decide +kernel
theorem dX2_putWord_45 : decode cX2_putWord 45 = .ok (.iload_n 3, 1) := by decide +kernel
theorem dX2_putWord_46 : decode cX2_putWord 46 = .ok (.imul, 1) := by decide +kernel
theorem dX2_putWord_47 : decode cX2_putWord 47 = .ok (.isub, 1) := by decide +kernel
theorem dX2_putWord_48 : decode cX2_putWord 48 = .ok (.ishr, 1) := by decide +kernel
theorem dX2_putWord_49 : decode cX2_putWord 49 = .ok (.i2b, 1) := by decide +kernel
theorem dX2_putWord_50 : decode cX2_putWord 50 = .ok (.bastore, 1) := by decide +kernel
theorem dX2_putWord_51 : decode cX2_putWord 51 = .ok (.iinc 3 1, 3) := by decide +kernel
theorem dX2_putWord_54 : decode cX2_putWord 54 = .ok (.goto (-26), 3) := by decide +kernel
theorem dX2_putWord_57 : decode cX2_putWord 57 = .ok (.return_, 1) := by decide +kernel
set_option maxRecDepth 100000 in
def fn_wk_X2_putWord (N : Nat) (t_1 : Int32) (a_f : Nat → Int32) (i : Int32) (w : Int32) (β : Type) (k_ : (Nat → Int32) → β) : β := (if i < 0 then (k_ a_f) else (if t_1 < (i + 4) then (k_ a_f) else (if (i + 4) ≤ (nI N) then (k_ (upd (upd (upd (upd a_f (Int32.toNatClampNeg (i + 0)) (Int8.toInt32 (Int32.toInt8 (w >>> (24 &&& 31))))) (Int32.toNatClampNeg (i + 1)) (Int8.toInt32 (Int32.toInt8 (w >>> (16 &&& 31))))) (Int32.toNatClampNeg (i + 2)) (Int8.toInt32 (Int32.toInt8 (w >>> (8 &&& 31))))) (Int32.toNatClampNeg (i + 3)) (Int8.toInt32 (Int32.toInt8 (w >>> (0 &&& 31)))))) else (k_ a_f))))
set_option maxRecDepth 100000 in
theorem fn_wk_X2_putWord_s {N : Nat} {t_1 : Int32} {a_f : Nat → Int32} {i : Int32} {w : Int32} {β : Type} {k_ : (Nat → Int32) → β} : fn_wk_X2_putWord N t_1 a_f i w β k_ = (if i < 0 then (k_ a_f) else (if t_1 < (i + 4) then (k_ a_f) else (if (i + 4) ≤ (nI N) then (k_ (upd (upd (upd (upd a_f (Int32.toNatClampNeg (i + 0)) (Int8.toInt32 (Int32.toInt8 (w >>> (24 &&& 31))))) (Int32.toNatClampNeg (i + 1)) (Int8.toInt32 (Int32.toInt8 (w >>> (16 &&& 31))))) (Int32.toNatClampNeg (i + 2)) (Int8.toInt32 (Int32.toInt8 (w >>> (8 &&& 31))))) (Int32.toNatClampNeg (i + 3)) (Int8.toInt32 (Int32.toInt8 (w >>> (0 &&& 31)))))) else (k_ a_f)))) := rfl
set_option maxRecDepth 100000 in
set_option maxHeartbeats 4000000 in
theorem wk_X2_putWord (E : g_E) (t : Nat) (a : Nat) (N : Nat) (t_1 : Int32) (a_f : Nat → Int32) (i : Int32) (w : Int32) (hN : N < 2147483648) (hi : i ≤ 2147483643) : Ev E MX2_putWord 0 0 0 0 [.ref t, .int i, .int w] [(t, .inr (2, [.ref a, .int t_1])), (a, .inl (E.2.2.1 1, N, .inl (nb a_f)))] (fun v_ w_ => ∃ za_f : Nat → Int32, (∀ (β : Type) (k_ : (Nat → Int32) → β), fn_wk_X2_putWord N t_1 a_f i w β k_ = k_ za_f) ∧ v_ = none ∧ w_ = [(t, .inr (2, [.ref a, .int t_1])), (a, .inl (E.2.2.1 1, N, .inl (nb za_f)))]) := by
  refine Ev.intro (by decide) (Nat.le_of_ble_eq_true rfl) ?_
  intro X B hr hI
  have B : Bd E X cX2_putWord RX2 4 0 0 0 0 := B
  have hr : Rt E X none 0 0 (fun v_ w_ => ∃ za_f : Nat → Int32, (∀ (β : Type) (k_ : (Nat → Int32) → β), fn_wk_X2_putWord N t_1 a_f i w β k_ = k_ za_f) ∧ v_ = none ∧ w_ = [(t, .inr (2, [.ref a, .int t_1])), (a, .inl (E.2.2.1 1, N, .inl (nb za_f)))]) := hr
  have e_ := fun (β : Type) (k_ : (Nat → Int32) → β) => fn_wk_X2_putWord_s (β := β) (k_ := k_) (N := N) (t_1 := t_1) (a_f := a_f) (i := i) (w := w)
  show G E X 4 [(t, .inr (2, [.ref a, .int t_1])), (a, .inl (E.2.2.1 1, N, .inl (nb a_f)))] 0 0 [(0, .ref t), (1, .int i), (2, .int w)] 0 []
  refine g_iload_n B dX2_putWord_0 rfl 1 rfl ?_
  refine g_if_lt (tgt := 25) B dX2_putWord_1 (by decide) (fun c1_154 => ?_) (fun c1_154 => ?_)
  · replace e_ := fun β k_ => (e_ β k_).trans (if_pos c1_154)
    exact g_vret B hr dX2_putWord_25 (by decide) (by decide) ⟨a_f, e_, rfl, rfl⟩
  · replace e_ := fun β k_ => (e_ β k_).trans (if_neg c1_154)
    refine g_iload_n B dX2_putWord_4 rfl 1 rfl ?_
    refine g_iconst (v := 4) B dX2_putWord_5 (by decide) ?_
    refine g_iadd B dX2_putWord_6 ?_
    refine g_aload_n B dX2_putWord_7 rfl 0 rfl ?_
    refine g_get B 0 1 fl_X2_21 rfl rfl dX2_putWord_8 ?_
    refine g_icmp_gt (tgt := 25) B dX2_putWord_11 (by decide) (fun c11_155 => ?_) (fun c11_155 => ?_)
    · replace e_ := fun β k_ => (e_ β k_).trans (if_pos c11_155)
      exact g_vret B hr dX2_putWord_25 (by decide) (by decide) ⟨a_f, e_, rfl, rfl⟩
    · replace e_ := fun β k_ => (e_ β k_).trans (if_neg c11_155)
      refine g_iload_n B dX2_putWord_14 rfl 1 rfl ?_
      refine g_iconst (v := 4) B dX2_putWord_15 (by decide) ?_
      refine g_iadd B dX2_putWord_16 ?_
      refine g_aload_n B dX2_putWord_17 rfl 0 rfl ?_
      refine g_get B 0 0 fl_X2_15 rfl rfl dX2_putWord_18 ?_
      refine g_alen (v := nI N) B 1 (by decide) rfl rfl dX2_putWord_21 ?_
      refine g_icmp_le (tgt := 26) B dX2_putWord_22 (by decide) (fun c22_156 => ?_) (fun c22_156 => ?_)
      · replace e_ := fun β k_ => (e_ β k_).trans (if_pos c22_156)
        refine g_iconst (v := 0) B dX2_putWord_26 (by decide) ?_
        refine g_istore_n (lv' := [(3, .int 0), (0, .ref t), (1, .int i), (2, .int w)]) B dX2_putWord_27 rfl (by decide) rfl ?_
        refine g_iload_n B dX2_putWord_28 rfl 0 rfl ?_
        refine g_iconst (v := 4) B dX2_putWord_29 (by decide) ?_
        refine g_icmp_ge (tgt := 57) B dX2_putWord_30 (by decide) (fun h => absurd h (by decide)) (fun c30 => ?_)
        refine g_aload_n B dX2_putWord_33 rfl 1 rfl ?_
        refine g_get B 0 0 fl_X2_15 rfl rfl dX2_putWord_34 ?_
        refine g_iload_n B dX2_putWord_37 rfl 2 rfl ?_
        refine g_iload_n B dX2_putWord_38 rfl 0 rfl ?_
        refine g_iadd B dX2_putWord_39 ?_
        refine g_iload_n B dX2_putWord_40 rfl 3 rfl ?_
        refine g_bipush (v := 24) B dX2_putWord_41 (by decide) ?_
        refine g_bipush (v := 8) B dX2_putWord_43 (by decide) ?_
        refine g_iload_n B dX2_putWord_45 rfl 0 rfl ?_
        refine g_imul B dX2_putWord_46 ?_
        refine g_ri (x' := 0) (by decide) ?_
        refine g_isub B dX2_putWord_47 ?_
        refine g_ri (x' := 24) (by decide) ?_
        refine g_ishr B dX2_putWord_48 ?_
        refine g_i2b B dX2_putWord_49 ?_
        refine g_bast (ws' := [(t, .inr (2, [.ref a, .int t_1])), (a, .inl (E.2.2.1 1, N, .inl (nb (upd a_f (Int32.toNatClampNeg (i + 0)) (Int8.toInt32 (Int32.toInt8 (w >>> (24 &&& 31))))))))]) B 1 rfl (in_pw 0 (by decide) hN c1_154 hi (o_4 c22_156)) (by rw [nb_upd]; rfl) dX2_putWord_50 ?_
        refine g_iinc (v := 1) (lv' := [(3, .int 1), (0, .ref t), (1, .int i), (2, .int w)]) B dX2_putWord_51 0 rfl (by decide) (by decide) rfl ?_
        refine g_goto (tgt := 28) B dX2_putWord_54 (by decide) ?_
        refine g_iload_n B dX2_putWord_28 rfl 0 rfl ?_
        refine g_iconst (v := 4) B dX2_putWord_29 (by decide) ?_
        refine g_icmp_ge (tgt := 57) B dX2_putWord_30 (by decide) (fun h => absurd h (by decide)) (fun c30 => ?_)
        refine g_aload_n B dX2_putWord_33 rfl 1 rfl ?_
        refine g_get B 0 0 fl_X2_15 rfl rfl dX2_putWord_34 ?_
        refine g_iload_n B dX2_putWord_37 rfl 2 rfl ?_
        refine g_iload_n B dX2_putWord_38 rfl 0 rfl ?_
        refine g_iadd B dX2_putWord_39 ?_
        refine g_iload_n B dX2_putWord_40 rfl 3 rfl ?_
        refine g_bipush (v := 24) B dX2_putWord_41 (by decide) ?_
        refine g_bipush (v := 8) B dX2_putWord_43 (by decide) ?_
        refine g_iload_n B dX2_putWord_45 rfl 0 rfl ?_
        refine g_imul B dX2_putWord_46 ?_
        refine g_ri (x' := 8) (by decide) ?_
        refine g_isub B dX2_putWord_47 ?_
        refine g_ri (x' := 16) (by decide) ?_
        refine g_ishr B dX2_putWord_48 ?_
        refine g_i2b B dX2_putWord_49 ?_
        refine g_bast (ws' := [(t, .inr (2, [.ref a, .int t_1])), (a, .inl (E.2.2.1 1, N, .inl (nb (upd (upd a_f (Int32.toNatClampNeg (i + 0)) (Int8.toInt32 (Int32.toInt8 (w >>> (24 &&& 31))))) (Int32.toNatClampNeg (i + 1)) (Int8.toInt32 (Int32.toInt8 (w >>> (16 &&& 31))))))))]) B 1 rfl (in_pw 1 (by decide) hN c1_154 hi (o_4 c22_156)) (by rw [nb_upd]; rfl) dX2_putWord_50 ?_
        refine g_iinc (v := 2) (lv' := [(3, .int 2), (0, .ref t), (1, .int i), (2, .int w)]) B dX2_putWord_51 0 rfl (by decide) (by decide) rfl ?_
        refine g_goto (tgt := 28) B dX2_putWord_54 (by decide) ?_
        refine g_iload_n B dX2_putWord_28 rfl 0 rfl ?_
        refine g_iconst (v := 4) B dX2_putWord_29 (by decide) ?_
        refine g_icmp_ge (tgt := 57) B dX2_putWord_30 (by decide) (fun h => absurd h (by decide)) (fun c30 => ?_)
        refine g_aload_n B dX2_putWord_33 rfl 1 rfl ?_
        refine g_get B 0 0 fl_X2_15 rfl rfl dX2_putWord_34 ?_
        refine g_iload_n B dX2_putWord_37 rfl 2 rfl ?_
        refine g_iload_n B dX2_putWord_38 rfl 0 rfl ?_
        refine g_iadd B dX2_putWord_39 ?_
        refine g_iload_n B dX2_putWord_40 rfl 3 rfl ?_
        refine g_bipush (v := 24) B dX2_putWord_41 (by decide) ?_
        refine g_bipush (v := 8) B dX2_putWord_43 (by decide) ?_
        refine g_iload_n B dX2_putWord_45 rfl 0 rfl ?_
        refine g_imul B dX2_putWord_46 ?_
        refine g_ri (x' := 16) (by decide) ?_
        refine g_isub B dX2_putWord_47 ?_
        refine g_ri (x' := 8) (by decide) ?_
        refine g_ishr B dX2_putWord_48 ?_
        refine g_i2b B dX2_putWord_49 ?_
        refine g_bast (ws' := [(t, .inr (2, [.ref a, .int t_1])), (a, .inl (E.2.2.1 1, N, .inl (nb (upd (upd (upd a_f (Int32.toNatClampNeg (i + 0)) (Int8.toInt32 (Int32.toInt8 (w >>> (24 &&& 31))))) (Int32.toNatClampNeg (i + 1)) (Int8.toInt32 (Int32.toInt8 (w >>> (16 &&& 31))))) (Int32.toNatClampNeg (i + 2)) (Int8.toInt32 (Int32.toInt8 (w >>> (8 &&& 31))))))))]) B 1 rfl (in_pw 2 (by decide) hN c1_154 hi (o_4 c22_156)) (by rw [nb_upd]; rfl) dX2_putWord_50 ?_
        refine g_iinc (v := 3) (lv' := [(3, .int 3), (0, .ref t), (1, .int i), (2, .int w)]) B dX2_putWord_51 0 rfl (by decide) (by decide) rfl ?_
        refine g_goto (tgt := 28) B dX2_putWord_54 (by decide) ?_
        refine g_iload_n B dX2_putWord_28 rfl 0 rfl ?_
        refine g_iconst (v := 4) B dX2_putWord_29 (by decide) ?_
        refine g_icmp_ge (tgt := 57) B dX2_putWord_30 (by decide) (fun h => absurd h (by decide)) (fun c30 => ?_)
        refine g_aload_n B dX2_putWord_33 rfl 1 rfl ?_
        refine g_get B 0 0 fl_X2_15 rfl rfl dX2_putWord_34 ?_
        refine g_iload_n B dX2_putWord_37 rfl 2 rfl ?_
        refine g_iload_n B dX2_putWord_38 rfl 0 rfl ?_
        refine g_iadd B dX2_putWord_39 ?_
        refine g_iload_n B dX2_putWord_40 rfl 3 rfl ?_
        refine g_bipush (v := 24) B dX2_putWord_41 (by decide) ?_
        refine g_bipush (v := 8) B dX2_putWord_43 (by decide) ?_
        refine g_iload_n B dX2_putWord_45 rfl 0 rfl ?_
        refine g_imul B dX2_putWord_46 ?_
        refine g_ri (x' := 24) (by decide) ?_
        refine g_isub B dX2_putWord_47 ?_
        refine g_ri (x' := 0) (by decide) ?_
        refine g_ishr B dX2_putWord_48 ?_
        refine g_i2b B dX2_putWord_49 ?_
        refine g_bast (ws' := [(t, .inr (2, [.ref a, .int t_1])), (a, .inl (E.2.2.1 1, N, .inl (nb (upd (upd (upd (upd a_f (Int32.toNatClampNeg (i + 0)) (Int8.toInt32 (Int32.toInt8 (w >>> (24 &&& 31))))) (Int32.toNatClampNeg (i + 1)) (Int8.toInt32 (Int32.toInt8 (w >>> (16 &&& 31))))) (Int32.toNatClampNeg (i + 2)) (Int8.toInt32 (Int32.toInt8 (w >>> (8 &&& 31))))) (Int32.toNatClampNeg (i + 3)) (Int8.toInt32 (Int32.toInt8 (w >>> (0 &&& 31))))))))]) B 1 rfl (in_pw 3 (by decide) hN c1_154 hi (o_4 c22_156)) (by rw [nb_upd]; rfl) dX2_putWord_50 ?_
        refine g_iinc (v := 4) (lv' := [(3, .int 4), (0, .ref t), (1, .int i), (2, .int w)]) B dX2_putWord_51 0 rfl (by decide) (by decide) rfl ?_
        refine g_goto (tgt := 28) B dX2_putWord_54 (by decide) ?_
        refine g_iload_n B dX2_putWord_28 rfl 0 rfl ?_
        refine g_iconst (v := 4) B dX2_putWord_29 (by decide) ?_
        refine g_icmp_ge (tgt := 57) B dX2_putWord_30 (by decide) (fun c30 => ?_) (fun h => absurd (by decide) h)
        exact g_vret B hr dX2_putWord_57 (by decide) (by decide) ⟨(upd (upd (upd (upd a_f (Int32.toNatClampNeg (i + 0)) (Int8.toInt32 (Int32.toInt8 (w >>> (24 &&& 31))))) (Int32.toNatClampNeg (i + 1)) (Int8.toInt32 (Int32.toInt8 (w >>> (16 &&& 31))))) (Int32.toNatClampNeg (i + 2)) (Int8.toInt32 (Int32.toInt8 (w >>> (8 &&& 31))))) (Int32.toNatClampNeg (i + 3)) (Int8.toInt32 (Int32.toInt8 (w >>> (0 &&& 31))))), e_, rfl, rfl⟩
      · replace e_ := fun β k_ => (e_ β k_).trans (if_neg c22_156)
        exact g_vret B hr dX2_putWord_25 (by decide) (by decide) ⟨a_f, e_, rfl, rfl⟩
abbrev MX2_copy : g_M := (yX2_copy, cX2_copy, 3, (some .boolean))
theorem dX2_copy_0 : decode cX2_copy 0 = .ok (.aload_n 1, 1) := by decide +kernel
theorem dX2_copy_1 : decode cX2_copy 1 = .ok (.getfield 21, 3) := by decide +kernel
theorem dX2_copy_4 : decode cX2_copy 4 = .ok (.istore_n 2, 1) := by decide +kernel
theorem dX2_copy_5 : decode cX2_copy 5 = .ok (.iload_n 2, 1) := by decide +kernel
theorem dX2_copy_6 : decode cX2_copy 6 = .ok (.ifCond .lt 21, 3) := by decide +kernel
theorem dX2_copy_27 : decode cX2_copy 27 = .ok (.iconst 0, 1) := by decide +kernel
theorem dX2_copy_28 : decode cX2_copy 28 = .ok (.ireturn, 1) := by decide +kernel
theorem dX2_copy_9 : decode cX2_copy 9 = .ok (.iload_n 2, 1) := by decide +kernel
theorem dX2_copy_10 : decode cX2_copy 10 = .ok (.aload_n 0, 1) := by decide +kernel
theorem dX2_copy_11 : decode cX2_copy 11 = .ok (.getfield 15, 3) := by decide +kernel
theorem dX2_copy_14 : decode cX2_copy 14 = .ok (.arraylength, 1) := by decide +kernel
theorem dX2_copy_15 : decode cX2_copy 15 = .ok (.if_icmp .gt 12, 3) := by decide +kernel
theorem dX2_copy_18 : decode cX2_copy 18 = .ok (.iload_n 2, 1) := by decide +kernel
theorem dX2_copy_19 : decode cX2_copy 19 = .ok (.aload_n 1, 1) := by decide +kernel
theorem dX2_copy_20 : decode cX2_copy 20 = .ok (.getfield 15, 3) := by decide +kernel
theorem dX2_copy_23 : decode cX2_copy 23 = .ok (.arraylength, 1) := by decide +kernel
theorem dX2_copy_24 : decode cX2_copy 24 = .ok (.if_icmp .le 5, 3) := by decide +kernel
theorem dX2_copy_29 : decode cX2_copy 29 = .ok (.aload_n 1, 1) := by decide +kernel
theorem dX2_copy_30 : decode cX2_copy 30 = .ok (.getfield 15, 3) := by decide +kernel
theorem dX2_copy_33 : decode cX2_copy 33 = .ok (.iconst 0, 1) := by decide +kernel
theorem dX2_copy_34 : decode cX2_copy 34 = .ok (.aload_n 0, 1) := by decide +kernel
theorem dX2_copy_35 : decode cX2_copy 35 = .ok (.getfield 15, 3) := by decide +kernel
theorem dX2_copy_38 : decode cX2_copy 38 = .ok (.iconst 0, 1) := by decide +kernel
theorem dX2_copy_39 : decode cX2_copy 39 = .ok (.iload_n 2, 1) := by decide +kernel
theorem dX2_copy_40 : decode cX2_copy 40 = .ok (.invokestatic 33, 3) := by decide +kernel
theorem w_mla_X2_33 : Cond.methodLink RX2 33 arraycopyName ∈ g_tbl := g_tbl_in 725 (by decide +kernel) (by decide +kernel)
theorem w_nat_ac : Cond.native arraycopyName ∈ g_tbl := g_tbl_in 727 (by decide +kernel) (by decide +kernel)
theorem w_sm_ac : Cond.static arraycopyName ∈ g_tbl := g_tbl_in 726 (by decide +kernel) (by decide +kernel)
theorem w_ini_Sys : Cond.initialized "java/lang/System" ∈ g_tbl := g_tbl_in 84 (by decide +kernel) (by decide +kernel)
theorem dX2_copy_43 : decode cX2_copy 43 = .ok (.aload_n 0, 1) := by decide +kernel
theorem dX2_copy_44 : decode cX2_copy 44 = .ok (.iload_n 2, 1) := by decide +kernel
theorem dX2_copy_45 : decode cX2_copy 45 = .ok (.putfield 21, 3) := by decide +kernel
theorem dX2_copy_48 : decode cX2_copy 48 = .ok (.iconst 1, 1) := by decide +kernel
theorem dX2_copy_49 : decode cX2_copy 49 = .ok (.ireturn, 1) := by decide +kernel
set_option maxRecDepth 100000 in
def fn_wk_X2_copy (N : Nat) (N2 : Nat) (u_1 : Int32) (c_f : Nat → Int32) (t_1 : Int32) (a_f : Nat → Int32) (β : Type) (k_ : Int32 → (Nat → Int32) → Int32 → β) : β := (if u_1 < 0 then (k_ t_1 a_f 0) else (if (nI N) < u_1 then (k_ t_1 a_f 0) else (if u_1 ≤ (nI N2) then (k_ u_1 (va_cpy c_f a_f (Int32.toNatClampNeg 0) (Int32.toNatClampNeg 0) (Int32.toNatClampNeg u_1)) 1) else (k_ t_1 a_f 0))))
set_option maxRecDepth 100000 in
theorem fn_wk_X2_copy_s {N : Nat} {N2 : Nat} {u_1 : Int32} {c_f : Nat → Int32} {t_1 : Int32} {a_f : Nat → Int32} {β : Type} {k_ : Int32 → (Nat → Int32) → Int32 → β} : fn_wk_X2_copy N N2 u_1 c_f t_1 a_f β k_ = (if u_1 < 0 then (k_ t_1 a_f 0) else (if (nI N) < u_1 then (k_ t_1 a_f 0) else (if u_1 ≤ (nI N2) then (k_ u_1 (va_cpy c_f a_f (Int32.toNatClampNeg 0) (Int32.toNatClampNeg 0) (Int32.toNatClampNeg u_1)) 1) else (k_ t_1 a_f 0)))) := rfl
set_option maxRecDepth 100000 in
set_option maxHeartbeats 4000000 in
theorem wk_X2_copy (E : g_E) (t : Nat) (a : Nat) (u : Nat) (c : Nat) (N : Nat) (N2 : Nat) (u_1 : Int32) (c_f : Nat → Int32) (t_1 : Int32) (a_f : Nat → Int32) (hN : N < 2147483648) (hM : N2 < 2147483648) : Ev E MX2_copy 1 60 0 0 [.ref t, .ref u] [(t, .inr (2, [.ref a, .int t_1])), (a, .inl (E.2.2.1 1, N, .inl (nb a_f))), (u, .inr (2, [.ref c, .int u_1])), (c, .inl (E.2.2.1 1, N2, .inl (nb c_f)))] (fun v_ w_ => ∃ zt_1 : Int32, ∃ za_f : Nat → Int32, ∃ zr : Int32, (zr = 0 ∨ zr = 1) ∧ (∀ (β : Type) (k_ : Int32 → (Nat → Int32) → Int32 → β), fn_wk_X2_copy N N2 u_1 c_f t_1 a_f β k_ = k_ zt_1 za_f zr) ∧ v_ = some (.int zr) ∧ w_ = [(t, .inr (2, [.ref a, .int zt_1])), (a, .inl (E.2.2.1 1, N, .inl (nb za_f))), (u, .inr (2, [.ref c, .int u_1])), (c, .inl (E.2.2.1 1, N2, .inl (nb c_f)))]) := by
  refine Ev.intro (by decide) (Nat.le_of_ble_eq_true rfl) ?_
  intro X B hr hI
  have B : Bd E X cX2_copy RX2 3 1 60 0 0 := B
  have hr : Rt E X (some .boolean) 0 0 (fun v_ w_ => ∃ zt_1 : Int32, ∃ za_f : Nat → Int32, ∃ zr : Int32, (zr = 0 ∨ zr = 1) ∧ (∀ (β : Type) (k_ : Int32 → (Nat → Int32) → Int32 → β), fn_wk_X2_copy N N2 u_1 c_f t_1 a_f β k_ = k_ zt_1 za_f zr) ∧ v_ = some (.int zr) ∧ w_ = [(t, .inr (2, [.ref a, .int zt_1])), (a, .inl (E.2.2.1 1, N, .inl (nb za_f))), (u, .inr (2, [.ref c, .int u_1])), (c, .inl (E.2.2.1 1, N2, .inl (nb c_f)))]) := hr
  have e_ := fun (β : Type) (k_ : Int32 → (Nat → Int32) → Int32 → β) => fn_wk_X2_copy_s (β := β) (k_ := k_) (N := N) (N2 := N2) (u_1 := u_1) (c_f := c_f) (t_1 := t_1) (a_f := a_f)
  show G E X 3 [(t, .inr (2, [.ref a, .int t_1])), (a, .inl (E.2.2.1 1, N, .inl (nb a_f))), (u, .inr (2, [.ref c, .int u_1])), (c, .inl (E.2.2.1 1, N2, .inl (nb c_f)))] 0 0 [(0, .ref t), (1, .ref u)] 0 []
  refine g_aload_n B dX2_copy_0 rfl 1 rfl ?_
  refine g_get B 2 1 fl_X2_21 rfl rfl dX2_copy_1 ?_
  refine g_istore_n (lv' := [(2, .int u_1), (0, .ref t), (1, .ref u)]) B dX2_copy_4 rfl (by decide) rfl ?_
  refine g_iload_n B dX2_copy_5 rfl 0 rfl ?_
  refine g_if_lt (tgt := 27) B dX2_copy_6 (by decide) (fun c6_157 => ?_) (fun c6_157 => ?_)
  · replace e_ := fun β k_ => (e_ β k_).trans (if_pos c6_157)
    refine g_iconst (v := 0) B dX2_copy_27 (by decide) ?_
    exact g_zret B hr (by decide) dX2_copy_28 (by decide) (by decide) ⟨t_1, a_f, 0, (Or.inl rfl), e_, rfl, rfl⟩
  · replace e_ := fun β k_ => (e_ β k_).trans (if_neg c6_157)
    refine g_iload_n B dX2_copy_9 rfl 0 rfl ?_
    refine g_aload_n B dX2_copy_10 rfl 1 rfl ?_
    refine g_get B 0 0 fl_X2_15 rfl rfl dX2_copy_11 ?_
    refine g_alen (v := nI N) B 1 (by decide) rfl rfl dX2_copy_14 ?_
    refine g_icmp_gt (tgt := 27) B dX2_copy_15 (by decide) (fun c15_158 => ?_) (fun c15_158 => ?_)
    · replace e_ := fun β k_ => (e_ β k_).trans (if_pos c15_158)
      refine g_iconst (v := 0) B dX2_copy_27 (by decide) ?_
      exact g_zret B hr (by decide) dX2_copy_28 (by decide) (by decide) ⟨t_1, a_f, 0, (Or.inl rfl), e_, rfl, rfl⟩
    · replace e_ := fun β k_ => (e_ β k_).trans (if_neg c15_158)
      refine g_iload_n B dX2_copy_18 rfl 0 rfl ?_
      refine g_aload_n B dX2_copy_19 rfl 2 rfl ?_
      refine g_get B 2 0 fl_X2_15 rfl rfl dX2_copy_20 ?_
      refine g_alen (v := nI N2) B 3 (by decide) rfl rfl dX2_copy_23 ?_
      refine g_icmp_le (tgt := 29) B dX2_copy_24 (by decide) (fun c24_159 => ?_) (fun c24_159 => ?_)
      · replace e_ := fun β k_ => (e_ β k_).trans (if_pos c24_159)
        refine g_aload_n B dX2_copy_29 rfl 2 rfl ?_
        refine g_get B 2 0 fl_X2_15 rfl rfl dX2_copy_30 ?_
        refine g_iconst (v := 0) B dX2_copy_33 (by decide) ?_
        refine g_aload_n B dX2_copy_34 rfl 1 rfl ?_
        refine g_get B 0 0 fl_X2_15 rfl rfl dX2_copy_35 ?_
        refine g_iconst (v := 0) B dX2_copy_38 (by decide) ?_
        refine g_iload_n B dX2_copy_39 rfl 0 rfl ?_
        refine g_copyb (ws' := [(t, .inr (2, [.ref a, .int t_1])), (a, .inl (E.2.2.1 1, N, .inl (nb (va_cpy c_f a_f (Int32.toNatClampNeg 0) (Int32.toNatClampNeg 0) (Int32.toNatClampNeg u_1))))), (u, .inr (2, [.ref c, .int u_1])), (c, .inl (E.2.2.1 1, N2, .inl (nb c_f)))]) B w_mla_X2_33 w_nat_ac w_sm_ac w_ini_Sys 3 1 rfl rfl (by decide) (by decide) c6_157 (cp_le hM c6_157 (o_4 c24_159)) (cp_le hN c6_157 c15_158) (fun i _ => pk_fb _) (by decide) (Nat.le_of_ble_eq_true rfl) (by rw [nb_cpy]; rfl) dX2_copy_40 ?_
        refine g_aload_n B dX2_copy_43 rfl 1 rfl ?_
        refine g_iload_n B dX2_copy_44 rfl 0 rfl ?_
        refine g_put (ws' := [(t, .inr (2, [.ref a, .int u_1])), (a, .inl (E.2.2.1 1, N, .inl (nb (va_cpy c_f a_f (Int32.toNatClampNeg 0) (Int32.toNatClampNeg 0) (Int32.toNatClampNeg u_1))))), (u, .inr (2, [.ref c, .int u_1])), (c, .inl (E.2.2.1 1, N2, .inl (nb c_f)))]) B 0 1 fl_X2_21 pf_X2_1 rfl (Nat.le_of_ble_eq_true rfl) rfl rfl rfl dX2_copy_45 ?_
        refine g_iconst (v := 1) B dX2_copy_48 (by decide) ?_
        exact g_zret B hr (by decide) dX2_copy_49 (by decide) (by decide) ⟨u_1, (va_cpy c_f a_f (Int32.toNatClampNeg 0) (Int32.toNatClampNeg 0) (Int32.toNatClampNeg u_1)), 1, (Or.inr rfl), e_, rfl, rfl⟩
      · replace e_ := fun β k_ => (e_ β k_).trans (if_neg c24_159)
        refine g_iconst (v := 0) B dX2_copy_27 (by decide) ?_
        exact g_zret B hr (by decide) dX2_copy_28 (by decide) (by decide) ⟨t_1, a_f, 0, (Or.inl rfl), e_, rfl, rfl⟩
abbrev MX2_crc : g_M := (yX2_crc, cX2_crc, 4, (some .int))
theorem dX2_crc_0 : decode cX2_crc 0 = .ok (.iconst (-1), 1) := by decide +kernel
theorem dX2_crc_1 : decode cX2_crc 1 = .ok (.istore_n 2, 1) := by decide +kernel
theorem dX2_crc_2 : decode cX2_crc 2 = .ok (.iconst 0, 1) := by decide +kernel
theorem dX2_crc_3 : decode cX2_crc 3 = .ok (.istore_n 3, 1) := by decide +kernel
theorem dX2_crc_4 : decode cX2_crc 4 = .ok (.iload_n 3, 1) := by decide +kernel
theorem dX2_crc_5 : decode cX2_crc 5 = .ok (.iload_n 1, 1) := by decide +kernel
theorem dX2_crc_6 : decode cX2_crc 6 = .ok (.if_icmp .ge 65, 3) := by decide +kernel
theorem dX2_crc_9 : decode cX2_crc 9 = .ok (.iload_n 3, 1) := by decide +kernel
theorem dX2_crc_10 : decode cX2_crc 10 = .ok (.aload_n 0, 1) := by decide +kernel
theorem dX2_crc_11 : decode cX2_crc 11 = .ok (.getfield 21, 3) := by decide +kernel
theorem dX2_crc_14 : decode cX2_crc 14 = .ok (.if_icmp .ge 57, 3) := by decide +kernel
theorem dX2_crc_17 : decode cX2_crc 17 = .ok (.iload_n 3, 1) := by decide +kernel
theorem dX2_crc_18 : decode cX2_crc 18 = .ok (.aload_n 0, 1) := by decide +kernel
theorem dX2_crc_19 : decode cX2_crc 19 = .ok (.getfield 15, 3) := by decide +kernel
theorem dX2_crc_22 : decode cX2_crc 22 = .ok (.arraylength, 1) := by decide +kernel
theorem dX2_crc_23 : decode cX2_crc 23 = .ok (.if_icmp .ge 48, 3) := by decide +kernel
theorem dX2_crc_26 : decode cX2_crc 26 = .ok (.iload_n 2, 1) := by decide +kernel
theorem dX2_crc_27 : decode cX2_crc 27 = .ok (.aload_n 0, 1) := by decide +kernel
theorem dX2_crc_28 : decode cX2_crc 28 = .ok (.getfield 15, 3) := by decide +kernel
theorem dX2_crc_31 : decode cX2_crc 31 = .ok (.iload_n 3, 1) := by decide +kernel
theorem dX2_crc_32 : decode cX2_crc 32 = .ok (.baload, 1) := by decide +kernel
theorem dX2_crc_33 : decode cX2_crc 33 = .ok (.sipush 255, 3) := by decide +kernel
theorem dX2_crc_36 : decode cX2_crc 36 = .ok (.iand, 1) := by decide +kernel
theorem dX2_crc_37 : decode cX2_crc 37 = .ok (.ixor, 1) := by decide +kernel
theorem dX2_crc_38 : decode cX2_crc 38 = .ok (.istore_n 2, 1) := by decide +kernel
theorem dX2_crc_39 : decode cX2_crc 39 = .ok (.iload_n 2, 1) := by decide +kernel
theorem dX2_crc_40 : decode cX2_crc 40 = .ok (.iconst 4, 1) := by decide +kernel
theorem dX2_crc_41 : decode cX2_crc 41 = .ok (.iushr, 1) := by decide +kernel
theorem dX2_crc_42 : decode cX2_crc 42 = .ok (.getstatic 39, 3) := by decide +kernel
theorem dX2_crc_45 : decode cX2_crc 45 = .ok (.iload_n 2, 1) := by decide +kernel
theorem dX2_crc_46 : decode cX2_crc 46 = .ok (.bipush 15, 2) := by decide +kernel
theorem dX2_crc_48 : decode cX2_crc 48 = .ok (.iand, 1) := by decide +kernel
theorem dX2_crc_49 : decode cX2_crc 49 = .ok (.iaload, 1) := by decide +kernel
theorem dX2_crc_50 : decode cX2_crc 50 = .ok (.ixor, 1) := by decide +kernel
theorem dX2_crc_51 : decode cX2_crc 51 = .ok (.istore_n 2, 1) := by decide +kernel
theorem dX2_crc_52 : decode cX2_crc 52 = .ok (.iload_n 2, 1) := by decide +kernel
theorem dX2_crc_53 : decode cX2_crc 53 = .ok (.iconst 4, 1) := by decide +kernel
theorem dX2_crc_54 : decode cX2_crc 54 = .ok (.iushr, 1) := by decide +kernel
theorem dX2_crc_55 : decode cX2_crc 55 = .ok (.getstatic 39, 3) := by decide +kernel
theorem dX2_crc_58 : decode cX2_crc 58 = .ok (.iload_n 2, 1) := by decide +kernel
theorem dX2_crc_59 : decode cX2_crc 59 = .ok (.bipush 15, 2) := by decide +kernel
theorem dX2_crc_61 : decode cX2_crc 61 = .ok (.iand, 1) := by decide +kernel
theorem dX2_crc_62 : decode cX2_crc 62 = .ok (.iaload, 1) := by decide +kernel
theorem dX2_crc_63 : decode cX2_crc 63 = .ok (.ixor, 1) := by decide +kernel
theorem dX2_crc_64 : decode cX2_crc 64 = .ok (.istore_n 2, 1) := by decide +kernel
theorem dX2_crc_65 : decode cX2_crc 65 = .ok (.iinc 3 1, 3) := by decide +kernel
theorem dX2_crc_68 : decode cX2_crc 68 = .ok (.goto (-64), 3) := by decide +kernel
set_option maxRecDepth 100000 in
def lf_wk_X2_crc_4 (N : Nat) (t_1 : Int32) (a_f : Nat → Int32) (β : Type) (kx_ : Int32 → Int32 → Int32 → β)  : Nat → Int32 → Int32 → Int32 → β
  | 0, l1, l2, l3 => kx_ l1 l2 l3
  | fuel + 1, l1, l2, l3 => (if l1 ≤ l3 then (kx_ l1 l2 l3) else (if t_1 ≤ l3 then (kx_ l1 l2 l3) else (if (nI N) ≤ l3 then (kx_ l1 l2 l3) else (fnL (((Int32.toUInt32 (l2 ^^^ (((nb a_f) (Int32.toNatClampNeg l3)) &&& 255)) >>> (Int32.toUInt32 4 &&& Int32.toUInt32 31)).toInt32) ^^^ (g_crc.getD (Int32.toNatClampNeg ((l2 ^^^ (((nb a_f) (Int32.toNatClampNeg l3)) &&& 255)) &&& 15)) 0)) (fun x_163 => (fnL (((Int32.toUInt32 x_163 >>> (Int32.toUInt32 4 &&& Int32.toUInt32 31)).toInt32) ^^^ (g_crc.getD (Int32.toNatClampNeg (x_163 &&& 15)) 0)) (fun x_164 => (lf_wk_X2_crc_4 N t_1 a_f β kx_ fuel l1 x_164 (l3 + 1)))))))))
set_option maxRecDepth 100000 in
theorem lf_wk_X2_crc_4_s {N : Nat} {t_1 : Int32} {a_f : Nat → Int32} {β : Type} {kx_ : Int32 → Int32 → Int32 → β}  {fuel : Nat} {l1 : Int32} {l2 : Int32} {l3 : Int32} : lf_wk_X2_crc_4 N t_1 a_f β kx_  (fuel + 1) l1 l2 l3 = (if l1 ≤ l3 then (kx_ l1 l2 l3) else (if t_1 ≤ l3 then (kx_ l1 l2 l3) else (if (nI N) ≤ l3 then (kx_ l1 l2 l3) else (fnL (((Int32.toUInt32 (l2 ^^^ (((nb a_f) (Int32.toNatClampNeg l3)) &&& 255)) >>> (Int32.toUInt32 4 &&& Int32.toUInt32 31)).toInt32) ^^^ (g_crc.getD (Int32.toNatClampNeg ((l2 ^^^ (((nb a_f) (Int32.toNatClampNeg l3)) &&& 255)) &&& 15)) 0)) (fun x_163 => (fnL (((Int32.toUInt32 x_163 >>> (Int32.toUInt32 4 &&& Int32.toUInt32 31)).toInt32) ^^^ (g_crc.getD (Int32.toNatClampNeg (x_163 &&& 15)) 0)) (fun x_164 => (lf_wk_X2_crc_4 N t_1 a_f β kx_ fuel l1 x_164 (l3 + 1))))))))) := rfl
set_option maxRecDepth 100000 in
set_option maxHeartbeats 4000000 in
theorem lp_wk_X2_crc_4 (E : g_E) (t : Nat) (a : Nat) (N : Nat) (t_1 : Int32) (a_f : Nat → Int32) (hN : N < 2147483648) {X : g_X} {rr : (β : Type) → (Int32 → β) → β} (kx_ : (β : Type) → (Int32 → β) → Int32 → Int32 → Int32 → β) (B : Bd E X cX2_crc RX2 4 0 0 0 0) (hr : Rt E X (some .int) 0 0 (fun v_ w_ => ∃ zr : Int32, (∀ (β : Type) (k_ : Int32 → β), rr β k_ = k_ zr) ∧ v_ = some (.int zr) ∧ w_ = [(t, .inr (2, [.ref a, .int t_1])), (a, .inl (E.2.2.1 1, N, .inl (nb a_f)))])) (K : ∀ (l1 : Int32) (l2 : Int32) (l3 : Int32), (∀ (β : Type) (k_ : Int32 → β), rr β k_ = kx_ β k_ l1 l2 l3) → G E X 4 [(t, .inr (2, [.ref a, .int t_1])), (a, .inl (E.2.2.1 1, N, .inl (nb a_f)))] 0 0 [(0, .ref t), (1, .int l1), (2, .int l2), (3, .int l3)] 71 []) : ∀ (n : Nat) (l1 : Int32) (l2 : Int32) (l3 : Int32), ¬ l3 < 0 → (Int32.toInt l1 - Int32.toInt l3).toNat < n → (∀ (β : Type) (k_ : Int32 → β), rr β k_ = lf_wk_X2_crc_4 N t_1 a_f β (kx_ β k_) n l1 l2 l3) → G E X 4 [(t, .inr (2, [.ref a, .int t_1])), (a, .inl (E.2.2.1 1, N, .inl (nb a_f)))] 0 0 [(0, .ref t), (1, .int l1), (2, .int l2), (3, .int l3)] 4 [] := by
  intro n
  induction n with
  | zero => intro l1 l2 l3 _ h _; exact absurd h (Nat.not_lt_zero _)
  | succ n ih =>
    intro l1 l2 l3 hv0 hm e_
    replace e_ := fun β k_ => (e_ β k_).trans lf_wk_X2_crc_4_s
    refine g_iload_n B dX2_crc_4 rfl 3 rfl ?_
    refine g_iload_n B dX2_crc_5 rfl 1 rfl ?_
    refine g_icmp_ge (tgt := 71) B dX2_crc_6 (by decide) (fun c6_160 => ?_) (fun c6_160 => ?_)
    · replace e_ := fun β k_ => (e_ β k_).trans (if_pos c6_160)
      exact K l1 l2 l3 e_
    · replace e_ := fun β k_ => (e_ β k_).trans (if_neg c6_160)
      refine g_iload_n B dX2_crc_9 rfl 3 rfl ?_
      refine g_aload_n B dX2_crc_10 rfl 0 rfl ?_
      refine g_get B 0 1 fl_X2_21 rfl rfl dX2_crc_11 ?_
      refine g_icmp_ge (tgt := 71) B dX2_crc_14 (by decide) (fun c14_161 => ?_) (fun c14_161 => ?_)
      · replace e_ := fun β k_ => (e_ β k_).trans (if_pos c14_161)
        exact K l1 l2 l3 e_
      · replace e_ := fun β k_ => (e_ β k_).trans (if_neg c14_161)
        refine g_iload_n B dX2_crc_17 rfl 3 rfl ?_
        refine g_aload_n B dX2_crc_18 rfl 0 rfl ?_
        refine g_get B 0 0 fl_X2_15 rfl rfl dX2_crc_19 ?_
        refine g_alen (v := nI N) B 1 (by decide) rfl rfl dX2_crc_22 ?_
        refine g_icmp_ge (tgt := 71) B dX2_crc_23 (by decide) (fun c23_162 => ?_) (fun c23_162 => ?_)
        · replace e_ := fun β k_ => (e_ β k_).trans (if_pos c23_162)
          exact K l1 l2 l3 e_
        · replace e_ := fun β k_ => (e_ β k_).trans (if_neg c23_162)
          refine g_iload_n B dX2_crc_26 rfl 2 rfl ?_
          refine g_aload_n B dX2_crc_27 rfl 0 rfl ?_
          refine g_get B 0 0 fl_X2_15 rfl rfl dX2_crc_28 ?_
          refine g_iload_n B dX2_crc_31 rfl 3 rfl ?_
          refine g_bald B 1 rfl (in_lt hN hv0 (o_2 c23_162)) dX2_crc_32 ?_
          refine g_sipush (v := 255) B dX2_crc_33 (by decide) ?_
          refine g_iand B dX2_crc_36 ?_
          refine g_ixor B dX2_crc_37 ?_
          refine g_istore_n (lv' := [(2, .int (l2 ^^^ (((nb a_f) (Int32.toNatClampNeg l3)) &&& 255))), (0, .ref t), (1, .int l1), (3, .int l3)]) B dX2_crc_38 rfl (by decide) rfl ?_
          refine g_iload_n B dX2_crc_39 rfl 0 rfl ?_
          refine g_iconst (v := 4) B dX2_crc_40 (by decide) ?_
          refine g_iushr B dX2_crc_41 ?_
          refine g_getsN B dX2_crc_42 ?_
          refine g_iload_n B dX2_crc_45 rfl 0 rfl ?_
          refine g_bipush (v := 15) B dX2_crc_46 (by decide) ?_
          refine g_iand B dX2_crc_48 ?_
          refine g_tald B (in_and15 _) dX2_crc_49 ?_
          refine g_ixor B dX2_crc_50 ?_
          refine g_topi (fun x_163 ex_163 => ?_)
          replace e_ := fun β k_ => (e_ β k_).trans (fnL_eq (x := x_163) ex_163.symm _)
          refine g_istore_n (lv' := [(2, .int x_163), (0, .ref t), (1, .int l1), (3, .int l3)]) B dX2_crc_51 rfl (by decide) rfl ?_
          refine g_iload_n B dX2_crc_52 rfl 0 rfl ?_
          refine g_iconst (v := 4) B dX2_crc_53 (by decide) ?_
          refine g_iushr B dX2_crc_54 ?_
          refine g_getsN B dX2_crc_55 ?_
          refine g_iload_n B dX2_crc_58 rfl 0 rfl ?_
          refine g_bipush (v := 15) B dX2_crc_59 (by decide) ?_
          refine g_iand B dX2_crc_61 ?_
          refine g_tald B (in_and15 _) dX2_crc_62 ?_
          refine g_ixor B dX2_crc_63 ?_
          refine g_topi (fun x_164 ex_164 => ?_)
          replace e_ := fun β k_ => (e_ β k_).trans (fnL_eq (x := x_164) ex_164.symm _)
          refine g_istore_n (lv' := [(2, .int x_164), (0, .ref t), (1, .int l1), (3, .int l3)]) B dX2_crc_64 rfl (by decide) rfl ?_
          refine g_iinc (v := (l3 + 1)) (lv' := [(3, .int (l3 + 1)), (2, .int x_164), (0, .ref t), (1, .int l1)]) B dX2_crc_65 3 rfl rfl (by decide) rfl ?_
          refine g_goto (tgt := 4) B dX2_crc_68 (by decide) ?_
          refine g_lvsub (lv' := [(0, .ref t), (1, .int l1), (2, .int x_164), (3, .int (l3 + 1))]) [2, 3, 1, 0] rfl ?_
          exact ih l1 x_164 (l3 + 1) (inv_up hv0 (o_2 c6_160)) (Nat.lt_of_lt_of_le (st_up (o_2 c6_160)) (Nat.le_of_lt_succ hm)) e_
theorem dX2_crc_71 : decode cX2_crc 71 = .ok (.iload_n 2, 1) := by decide +kernel
theorem dX2_crc_72 : decode cX2_crc 72 = .ok (.iconst (-1), 1) := by decide +kernel
theorem dX2_crc_73 : decode cX2_crc 73 = .ok (.ixor, 1) := by decide +kernel
theorem dX2_crc_74 : decode cX2_crc 74 = .ok (.ireturn, 1) := by decide +kernel
set_option maxRecDepth 100000 in
def fn_wk_X2_crc (N : Nat) (t_1 : Int32) (a_f : Nat → Int32) (n : Int32) (β : Type) (k_ : Int32 → β) : β := (lf_wk_X2_crc_4 N t_1 a_f β (fun y_165l1 y_165l2 y_165l3 => (k_ (y_165l2 ^^^ (-1)))) ((Int32.toInt n - Int32.toInt 0).toNat + 1) n (-1) 0)
set_option maxRecDepth 100000 in
theorem fn_wk_X2_crc_s {N : Nat} {t_1 : Int32} {a_f : Nat → Int32} {n : Int32} {β : Type} {k_ : Int32 → β} : fn_wk_X2_crc N t_1 a_f n β k_ = (lf_wk_X2_crc_4 N t_1 a_f β (fun y_165l1 y_165l2 y_165l3 => (k_ (y_165l2 ^^^ (-1)))) ((Int32.toInt n - Int32.toInt 0).toNat + 1) n (-1) 0) := rfl
set_option maxRecDepth 100000 in
set_option maxHeartbeats 4000000 in
theorem wk_X2_crc (E : g_E) (t : Nat) (a : Nat) (N : Nat) (t_1 : Int32) (a_f : Nat → Int32) (n : Int32) (hN : N < 2147483648) : Ev E MX2_crc 0 0 0 0 [.ref t, .int n] [(t, .inr (2, [.ref a, .int t_1])), (a, .inl (E.2.2.1 1, N, .inl (nb a_f)))] (fun v_ w_ => ∃ zr : Int32, (∀ (β : Type) (k_ : Int32 → β), fn_wk_X2_crc N t_1 a_f n β k_ = k_ zr) ∧ v_ = some (.int zr) ∧ w_ = [(t, .inr (2, [.ref a, .int t_1])), (a, .inl (E.2.2.1 1, N, .inl (nb a_f)))]) := by
  refine Ev.intro (by decide) (Nat.le_of_ble_eq_true rfl) ?_
  intro X B hr hI
  have B : Bd E X cX2_crc RX2 4 0 0 0 0 := B
  have hr : Rt E X (some .int) 0 0 (fun v_ w_ => ∃ zr : Int32, (∀ (β : Type) (k_ : Int32 → β), fn_wk_X2_crc N t_1 a_f n β k_ = k_ zr) ∧ v_ = some (.int zr) ∧ w_ = [(t, .inr (2, [.ref a, .int t_1])), (a, .inl (E.2.2.1 1, N, .inl (nb a_f)))]) := hr
  have e_ := fun (β : Type) (k_ : Int32 → β) => fn_wk_X2_crc_s (β := β) (k_ := k_) (N := N) (t_1 := t_1) (a_f := a_f) (n := n)
  show G E X 4 [(t, .inr (2, [.ref a, .int t_1])), (a, .inl (E.2.2.1 1, N, .inl (nb a_f)))] 0 0 [(0, .ref t), (1, .int n)] 0 []
  refine g_iconst (v := (-1)) B dX2_crc_0 (by decide) ?_
  refine g_istore_n (lv' := [(2, .int (-1)), (0, .ref t), (1, .int n)]) B dX2_crc_1 rfl (by decide) rfl ?_
  refine g_iconst (v := 0) B dX2_crc_2 (by decide) ?_
  refine g_istore_n (lv' := [(3, .int 0), (2, .int (-1)), (0, .ref t), (1, .int n)]) B dX2_crc_3 rfl (by decide) rfl ?_
  refine g_lvsub (lv' := [(0, .ref t), (1, .int n), (2, .int (-1)), (3, .int 0)]) [2, 3, 1, 0] rfl ?_
  refine lp_wk_X2_crc_4 E t a N t_1 a_f hN _ B hr (fun y_165l1 y_165l2 y_165l3 e_ => ?_) _ n (-1) 0 (by decide) (Nat.lt_succ_self _) e_
  refine g_iload_n B dX2_crc_71 rfl 2 rfl ?_
  refine g_iconst (v := (-1)) B dX2_crc_72 (by decide) ?_
  refine g_ixor B dX2_crc_73 ?_
  exact g_iret B hr dX2_crc_74 (by decide) (by decide) ⟨(y_165l2 ^^^ (-1)), e_, rfl, rfl⟩
