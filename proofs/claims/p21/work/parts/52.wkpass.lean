abbrev MJ7_fill_53178 : g_M := (yJ7_fill_53178, cJ7_fill_53178, 4, none)
theorem dJ7_fill_53178_0 : decode cJ7_fill_53178 0 = .ok (.iconst 0, 1) := by decide +kernel
theorem dJ7_fill_53178_1 : decode cJ7_fill_53178 1 = .ok (.istore_n 2, 1) := by decide +kernel
theorem dJ7_fill_53178_2 : decode cJ7_fill_53178 2 = .ok (.aload_n 0, 1) := by decide +kernel
theorem dJ7_fill_53178_3 : decode cJ7_fill_53178 3 = .ok (.arraylength, 1) := by decide +kernel
theorem dJ7_fill_53178_4 : decode cJ7_fill_53178 4 = .ok (.istore_n 3, 1) := by decide +kernel
theorem dJ7_fill_53178_5 : decode cJ7_fill_53178 5 = .ok (.iload_n 2, 1) := by decide +kernel
theorem dJ7_fill_53178_6 : decode cJ7_fill_53178 6 = .ok (.iload_n 3, 1) := by decide +kernel
theorem dJ7_fill_53178_7 : decode cJ7_fill_53178 7 = .ok (.if_icmp .ge 13, 3) := by decide +kernel
theorem dJ7_fill_53178_10 : decode cJ7_fill_53178 10 = .ok (.aload_n 0, 1) := by decide +kernel
theorem dJ7_fill_53178_11 : decode cJ7_fill_53178 11 = .ok (.iload_n 2, 1) := by decide +kernel
theorem dJ7_fill_53178_12 : decode cJ7_fill_53178 12 = .ok (.iload_n 1, 1) := by decide +kernel
theorem dJ7_fill_53178_13 : decode cJ7_fill_53178 13 = .ok (.iastore, 1) := by decide +kernel
theorem dJ7_fill_53178_14 : decode cJ7_fill_53178 14 = .ok (.iinc 2 1, 3) := by decide +kernel
theorem dJ7_fill_53178_17 : decode cJ7_fill_53178 17 = .ok (.goto (-12), 3) := by decide +kernel
set_option maxRecDepth 100000 in
def lf_wk_J7_fill_53178_5 (N : Nat) (β : Type) (kx_ : (Nat → Int32) → Int32 → Int32 → β)  : Nat → (Nat → Int32) → Int32 → Int32 → β
  | 0, a_f, l1, l2 => kx_ a_f l1 l2
  | fuel + 1, a_f, l1, l2 => (if (nI N) ≤ l2 then (kx_ a_f l1 l2) else (lf_wk_J7_fill_53178_5 N β kx_ fuel (upd a_f (Int32.toNatClampNeg l2) l1) l1 (l2 + 1)))
set_option maxRecDepth 100000 in
theorem lf_wk_J7_fill_53178_5_s {N : Nat} {β : Type} {kx_ : (Nat → Int32) → Int32 → Int32 → β}  {fuel : Nat} {a_f : Nat → Int32} {l1 : Int32} {l2 : Int32} : lf_wk_J7_fill_53178_5 N β kx_  (fuel + 1) a_f l1 l2 = (if (nI N) ≤ l2 then (kx_ a_f l1 l2) else (lf_wk_J7_fill_53178_5 N β kx_ fuel (upd a_f (Int32.toNatClampNeg l2) l1) l1 (l2 + 1))) := rfl
set_option maxRecDepth 100000 in
set_option maxHeartbeats 4000000 in
theorem lp_wk_J7_fill_53178_5 (E : g_E) (a : Nat) (N : Nat) (hN : N < 2147483648) {X : g_X} {rr : (β : Type) → ((Nat → Int32) → β) → β} (kx_ : (β : Type) → ((Nat → Int32) → β) → (Nat → Int32) → Int32 → Int32 → β) (B : Bd E X cJ7_fill_53178 RJ7 4 0 0 0 0) (hr : Rt E X none 0 0 (fun v_ w_ => ∃ za_f : Nat → Int32, (∀ (β : Type) (k_ : (Nat → Int32) → β), rr β k_ = k_ za_f) ∧ v_ = none ∧ w_ = [(a, .inl (E.2.2.1 0, N, .inl za_f))])) (K : ∀ (a_f : Nat → Int32) (l1 : Int32) (l2 : Int32), (∀ (β : Type) (k_ : (Nat → Int32) → β), rr β k_ = kx_ β k_ a_f l1 l2) → G E X 4 [(a, .inl (E.2.2.1 0, N, .inl a_f))] 0 0 [(0, .ref a), (1, .int l1), (2, .int l2), (3, .int (nI N))] 20 []) : ∀ (n : Nat) (a_f : Nat → Int32) (l1 : Int32) (l2 : Int32), ¬ l2 < 0 → (Int32.toInt (nI N) - Int32.toInt l2).toNat < n → (∀ (β : Type) (k_ : (Nat → Int32) → β), rr β k_ = lf_wk_J7_fill_53178_5 N β (kx_ β k_) n a_f l1 l2) → G E X 4 [(a, .inl (E.2.2.1 0, N, .inl a_f))] 0 0 [(0, .ref a), (1, .int l1), (2, .int l2), (3, .int (nI N))] 5 [] := by
  intro n
  induction n with
  | zero => intro a_f l1 l2 _ h _; exact absurd h (Nat.not_lt_zero _)
  | succ n ih =>
    intro a_f l1 l2 hv0 hm e_
    replace e_ := fun β k_ => (e_ β k_).trans lf_wk_J7_fill_53178_5_s
    refine g_iload_n B dJ7_fill_53178_5 rfl 2 rfl ?_
    refine g_iload_n B dJ7_fill_53178_6 rfl 3 rfl ?_
    refine g_icmp_ge (tgt := 20) B dJ7_fill_53178_7 (by decide) (fun c7_253 => ?_) (fun c7_253 => ?_)
    · replace e_ := fun β k_ => (e_ β k_).trans (if_pos c7_253)
      exact K a_f l1 l2 e_
    · replace e_ := fun β k_ => (e_ β k_).trans (if_neg c7_253)
      refine g_aload_n B dJ7_fill_53178_10 rfl 0 rfl ?_
      refine g_iload_n B dJ7_fill_53178_11 rfl 2 rfl ?_
      refine g_iload_n B dJ7_fill_53178_12 rfl 1 rfl ?_
      refine g_iast (ws' := [(a, .inl (E.2.2.1 0, N, .inl (upd a_f (Int32.toNatClampNeg l2) l1)))]) B 0 rfl (in_lt hN hv0 (o_2 c7_253)) rfl dJ7_fill_53178_13 ?_
      refine g_iinc (v := (l2 + 1)) (lv' := [(2, .int (l2 + 1)), (0, .ref a), (1, .int l1), (3, .int (nI N))]) B dJ7_fill_53178_14 2 rfl rfl (by decide) rfl ?_
      refine g_goto (tgt := 5) B dJ7_fill_53178_17 (by decide) ?_
      refine g_lvsub (lv' := [(0, .ref a), (1, .int l1), (2, .int (l2 + 1)), (3, .int (nI N))]) [1, 2, 0, 3] rfl ?_
      exact ih (upd a_f (Int32.toNatClampNeg l2) l1) l1 (l2 + 1) (inv_up hv0 (o_2 c7_253)) (Nat.lt_of_lt_of_le (st_up (o_2 c7_253)) (Nat.le_of_lt_succ hm)) e_
theorem dJ7_fill_53178_20 : decode cJ7_fill_53178 20 = .ok (.return_, 1) := by decide +kernel
set_option maxRecDepth 100000 in
def fn_wk_J7_fill_53178 (N : Nat) (a_f : Nat → Int32) (v : Int32) (β : Type) (k_ : (Nat → Int32) → β) : β := (lf_wk_J7_fill_53178_5 N β (fun y_254a_f y_254l1 y_254l2 => (k_ y_254a_f)) ((Int32.toInt (nI N) - Int32.toInt 0).toNat + 1) a_f v 0)
set_option maxRecDepth 100000 in
theorem fn_wk_J7_fill_53178_s {N : Nat} {a_f : Nat → Int32} {v : Int32} {β : Type} {k_ : (Nat → Int32) → β} : fn_wk_J7_fill_53178 N a_f v β k_ = (lf_wk_J7_fill_53178_5 N β (fun y_254a_f y_254l1 y_254l2 => (k_ y_254a_f)) ((Int32.toInt (nI N) - Int32.toInt 0).toNat + 1) a_f v 0) := rfl
set_option maxRecDepth 100000 in
set_option maxHeartbeats 4000000 in
theorem wk_J7_fill_53178 (E : g_E) (a : Nat) (N : Nat) (a_f : Nat → Int32) (v : Int32) (hN : N < 2147483648) : Ev E MJ7_fill_53178 0 0 0 0 [.ref a, .int v] [(a, .inl (E.2.2.1 0, N, .inl a_f))] (fun v_ w_ => ∃ za_f : Nat → Int32, (∀ (β : Type) (k_ : (Nat → Int32) → β), fn_wk_J7_fill_53178 N a_f v β k_ = k_ za_f) ∧ v_ = none ∧ w_ = [(a, .inl (E.2.2.1 0, N, .inl za_f))]) := by
  refine Ev.intro (by decide) (Nat.le_of_ble_eq_true rfl) ?_
  intro X B hr hI
  have B : Bd E X cJ7_fill_53178 RJ7 4 0 0 0 0 := B
  have hr : Rt E X none 0 0 (fun v_ w_ => ∃ za_f : Nat → Int32, (∀ (β : Type) (k_ : (Nat → Int32) → β), fn_wk_J7_fill_53178 N a_f v β k_ = k_ za_f) ∧ v_ = none ∧ w_ = [(a, .inl (E.2.2.1 0, N, .inl za_f))]) := hr
  have e_ := fun (β : Type) (k_ : (Nat → Int32) → β) => fn_wk_J7_fill_53178_s (β := β) (k_ := k_) (N := N) (a_f := a_f) (v := v)
  show G E X 4 [(a, .inl (E.2.2.1 0, N, .inl a_f))] 0 0 [(0, .ref a), (1, .int v)] 0 []
  refine g_iconst (v := 0) B dJ7_fill_53178_0 (by decide) ?_
  refine g_istore_n (lv' := [(2, .int 0), (0, .ref a), (1, .int v)]) B dJ7_fill_53178_1 rfl (by decide) rfl ?_
  refine g_aload_n B dJ7_fill_53178_2 rfl 1 rfl ?_
  refine g_alen (v := nI N) B 0 (by decide) rfl rfl dJ7_fill_53178_3 ?_
  refine g_istore_n (lv' := [(3, .int (nI N)), (2, .int 0), (0, .ref a), (1, .int v)]) B dJ7_fill_53178_4 rfl (by decide) rfl ?_
  refine g_lvsub (lv' := [(0, .ref a), (1, .int v), (2, .int 0), (3, .int (nI N))]) [2, 3, 1, 0] rfl ?_
  refine lp_wk_J7_fill_53178_5 E a N hN _ B hr (fun y_254a_f y_254l1 y_254l2 e_ => ?_) _ a_f v 0 (by decide) (Nat.lt_succ_self _) e_
  exact g_vret B hr dJ7_fill_53178_20 (by decide) (by decide) ⟨y_254a_f, e_, rfl, rfl⟩
abbrev MJ7_fill_d0a16 : g_M := (yJ7_fill_d0a16, cJ7_fill_d0a16, 5, none)
theorem dJ7_fill_d0a16_0 : decode cJ7_fill_d0a16 0 = .ok (.iconst 0, 1) := by decide +kernel
theorem dJ7_fill_d0a16_1 : decode cJ7_fill_d0a16 1 = .ok (.istore_n 3, 1) := by decide +kernel
theorem dJ7_fill_d0a16_2 : decode cJ7_fill_d0a16 2 = .ok (.aload_n 0, 1) := by decide +kernel
theorem dJ7_fill_d0a16_3 : decode cJ7_fill_d0a16 3 = .ok (.arraylength, 1) := by decide +kernel
theorem dJ7_fill_d0a16_4 : decode cJ7_fill_d0a16 4 = .ok (.istore 4, 2) := by decide +kernel
theorem dJ7_fill_d0a16_6 : decode cJ7_fill_d0a16 6 = .ok (.iload_n 3, 1) := by decide +kernel
theorem dJ7_fill_d0a16_7 : decode cJ7_fill_d0a16 7 = .ok (.iload 4, 2) := by decide +kernel
theorem dJ7_fill_d0a16_9 : decode cJ7_fill_d0a16 9 = .ok (.if_icmp .ge 13, 3) := by decide +kernel
theorem dJ7_fill_d0a16_12 : decode cJ7_fill_d0a16 12 = .ok (.aload_n 0, 1) := by decide +kernel
theorem dJ7_fill_d0a16_13 : decode cJ7_fill_d0a16 13 = .ok (.iload_n 3, 1) := by decide +kernel
theorem dJ7_fill_d0a16_14 : decode cJ7_fill_d0a16 14 = .ok (.lload_n 1, 1) := by decide +kernel
theorem dJ7_fill_d0a16_15 : decode cJ7_fill_d0a16 15 = .ok (.lastore, 1) := by decide +kernel
theorem dJ7_fill_d0a16_16 : decode cJ7_fill_d0a16 16 = .ok (.iinc 3 1, 3) := by decide +kernel
theorem dJ7_fill_d0a16_19 : decode cJ7_fill_d0a16 19 = .ok (.goto (-13), 3) := by decide +kernel
set_option maxRecDepth 100000 in
def lf_wk_J7_fill_d0a16_6 (N : Nat) (β : Type) (kx_ : (Nat → Int64) → Int64 → Int32 → β)  : Nat → (Nat → Int64) → Int64 → Int32 → β
  | 0, a_f, l1, l3 => kx_ a_f l1 l3
  | fuel + 1, a_f, l1, l3 => (if (nI N) ≤ l3 then (kx_ a_f l1 l3) else (lf_wk_J7_fill_d0a16_6 N β kx_ fuel (vp_updL a_f (Int32.toNatClampNeg l3) l1) l1 (l3 + 1)))
set_option maxRecDepth 100000 in
theorem lf_wk_J7_fill_d0a16_6_s {N : Nat} {β : Type} {kx_ : (Nat → Int64) → Int64 → Int32 → β}  {fuel : Nat} {a_f : Nat → Int64} {l1 : Int64} {l3 : Int32} : lf_wk_J7_fill_d0a16_6 N β kx_  (fuel + 1) a_f l1 l3 = (if (nI N) ≤ l3 then (kx_ a_f l1 l3) else (lf_wk_J7_fill_d0a16_6 N β kx_ fuel (vp_updL a_f (Int32.toNatClampNeg l3) l1) l1 (l3 + 1))) := rfl
set_option maxRecDepth 100000 in
set_option maxHeartbeats 4000000 in
theorem lp_wk_J7_fill_d0a16_6 (E : g_E) (a : Nat) (N : Nat) (hN : N < 2147483648) {X : g_X} {rr : (β : Type) → ((Nat → Int64) → β) → β} (kx_ : (β : Type) → ((Nat → Int64) → β) → (Nat → Int64) → Int64 → Int32 → β) (B : Bd E X cJ7_fill_d0a16 RJ7 5 0 0 0 0) (hr : Rt E X none 0 0 (fun v_ w_ => ∃ za_f : Nat → Int64, (∀ (β : Type) (k_ : (Nat → Int64) → β), rr β k_ = k_ za_f) ∧ v_ = none ∧ w_ = [(a, .inl (E.2.2.1 3, N, .inr (.inl za_f)))])) (K : ∀ (a_f : Nat → Int64) (l1 : Int64) (l3 : Int32), (∀ (β : Type) (k_ : (Nat → Int64) → β), rr β k_ = kx_ β k_ a_f l1 l3) → G E X 5 [(a, .inl (E.2.2.1 3, N, .inr (.inl a_f)))] 0 0 [(0, .ref a), (1, .long l1), (3, .int l3), (4, .int (nI N))] 22 []) : ∀ (n : Nat) (a_f : Nat → Int64) (l1 : Int64) (l3 : Int32), ¬ l3 < 0 → (Int32.toInt (nI N) - Int32.toInt l3).toNat < n → (∀ (β : Type) (k_ : (Nat → Int64) → β), rr β k_ = lf_wk_J7_fill_d0a16_6 N β (kx_ β k_) n a_f l1 l3) → G E X 5 [(a, .inl (E.2.2.1 3, N, .inr (.inl a_f)))] 0 0 [(0, .ref a), (1, .long l1), (3, .int l3), (4, .int (nI N))] 6 [] := by
  intro n
  induction n with
  | zero => intro a_f l1 l3 _ h _; exact absurd h (Nat.not_lt_zero _)
  | succ n ih =>
    intro a_f l1 l3 hv0 hm e_
    replace e_ := fun β k_ => (e_ β k_).trans lf_wk_J7_fill_d0a16_6_s
    refine g_iload_n B dJ7_fill_d0a16_6 rfl 2 rfl ?_
    refine g_iload B dJ7_fill_d0a16_7 3 rfl ?_
    refine g_icmp_ge (tgt := 22) B dJ7_fill_d0a16_9 (by decide) (fun c9_255 => ?_) (fun c9_255 => ?_)
    · replace e_ := fun β k_ => (e_ β k_).trans (if_pos c9_255)
      exact K a_f l1 l3 e_
    · replace e_ := fun β k_ => (e_ β k_).trans (if_neg c9_255)
      refine g_aload_n B dJ7_fill_d0a16_12 rfl 0 rfl ?_
      refine g_iload_n B dJ7_fill_d0a16_13 rfl 2 rfl ?_
      refine g_lload_n B dJ7_fill_d0a16_14 rfl 1 rfl ?_
      refine g_last (ws' := [(a, .inl (E.2.2.1 3, N, .inr (.inl (vp_updL a_f (Int32.toNatClampNeg l3) l1))))]) B 0 rfl (in_lt hN hv0 (o_2 c9_255)) rfl dJ7_fill_d0a16_15 ?_
      refine g_iinc (v := (l3 + 1)) (lv' := [(3, .int (l3 + 1)), (0, .ref a), (1, .long l1), (4, .int (nI N))]) B dJ7_fill_d0a16_16 2 rfl rfl (by decide) rfl ?_
      refine g_goto (tgt := 6) B dJ7_fill_d0a16_19 (by decide) ?_
      refine g_lvsub (lv' := [(0, .ref a), (1, .long l1), (3, .int (l3 + 1)), (4, .int (nI N))]) [1, 2, 0, 3] rfl ?_
      exact ih (vp_updL a_f (Int32.toNatClampNeg l3) l1) l1 (l3 + 1) (inv_up hv0 (o_2 c9_255)) (Nat.lt_of_lt_of_le (st_up (o_2 c9_255)) (Nat.le_of_lt_succ hm)) e_
theorem dJ7_fill_d0a16_22 : decode cJ7_fill_d0a16 22 = .ok (.return_, 1) := by decide +kernel
set_option maxRecDepth 100000 in
def fn_wk_J7_fill_d0a16 (N : Nat) (a_f : Nat → Int64) (v : Int64) (β : Type) (k_ : (Nat → Int64) → β) : β := (lf_wk_J7_fill_d0a16_6 N β (fun y_256a_f y_256l1 y_256l3 => (k_ y_256a_f)) ((Int32.toInt (nI N) - Int32.toInt 0).toNat + 1) a_f v 0)
set_option maxRecDepth 100000 in
theorem fn_wk_J7_fill_d0a16_s {N : Nat} {a_f : Nat → Int64} {v : Int64} {β : Type} {k_ : (Nat → Int64) → β} : fn_wk_J7_fill_d0a16 N a_f v β k_ = (lf_wk_J7_fill_d0a16_6 N β (fun y_256a_f y_256l1 y_256l3 => (k_ y_256a_f)) ((Int32.toInt (nI N) - Int32.toInt 0).toNat + 1) a_f v 0) := rfl
set_option maxRecDepth 100000 in
set_option maxHeartbeats 4000000 in
theorem wk_J7_fill_d0a16 (E : g_E) (a : Nat) (N : Nat) (a_f : Nat → Int64) (v : Int64) (hN : N < 2147483648) : Ev E MJ7_fill_d0a16 0 0 0 0 [.ref a, .long v] [(a, .inl (E.2.2.1 3, N, .inr (.inl a_f)))] (fun v_ w_ => ∃ za_f : Nat → Int64, (∀ (β : Type) (k_ : (Nat → Int64) → β), fn_wk_J7_fill_d0a16 N a_f v β k_ = k_ za_f) ∧ v_ = none ∧ w_ = [(a, .inl (E.2.2.1 3, N, .inr (.inl za_f)))]) := by
  refine Ev.intro (by decide) (Nat.le_of_ble_eq_true rfl) ?_
  intro X B hr hI
  have B : Bd E X cJ7_fill_d0a16 RJ7 5 0 0 0 0 := B
  have hr : Rt E X none 0 0 (fun v_ w_ => ∃ za_f : Nat → Int64, (∀ (β : Type) (k_ : (Nat → Int64) → β), fn_wk_J7_fill_d0a16 N a_f v β k_ = k_ za_f) ∧ v_ = none ∧ w_ = [(a, .inl (E.2.2.1 3, N, .inr (.inl za_f)))]) := hr
  have e_ := fun (β : Type) (k_ : (Nat → Int64) → β) => fn_wk_J7_fill_d0a16_s (β := β) (k_ := k_) (N := N) (a_f := a_f) (v := v)
  show G E X 5 [(a, .inl (E.2.2.1 3, N, .inr (.inl a_f)))] 0 0 [(0, .ref a), (1, .long v)] 0 []
  refine g_iconst (v := 0) B dJ7_fill_d0a16_0 (by decide) ?_
  refine g_istore_n (lv' := [(3, .int 0), (0, .ref a), (1, .long v)]) B dJ7_fill_d0a16_1 rfl (by decide) rfl ?_
  refine g_aload_n B dJ7_fill_d0a16_2 rfl 1 rfl ?_
  refine g_alen (v := nI N) B 0 (by decide) rfl rfl dJ7_fill_d0a16_3 ?_
  refine g_istore (lv' := [(4, .int (nI N)), (3, .int 0), (0, .ref a), (1, .long v)]) B dJ7_fill_d0a16_4 (by decide) rfl ?_
  refine g_lvsub (lv' := [(0, .ref a), (1, .long v), (3, .int 0), (4, .int (nI N))]) [2, 3, 1, 0] rfl ?_
  refine lp_wk_J7_fill_d0a16_6 E a N hN _ B hr (fun y_256a_f y_256l1 y_256l3 e_ => ?_) _ a_f v 0 (by decide) (Nat.lt_succ_self _) e_
  exact g_vret B hr dJ7_fill_d0a16_22 (by decide) (by decide) ⟨y_256a_f, e_, rfl, rfl⟩
theorem pl_lt {k : Nat} (hk : k ≤ 8) (h : ¬ (8 : Int32) ≤ nI k) : k + 1 ≤ 8 := by
  rcases Nat.lt_or_ge k 8 with h1 | h1
  · exact h1
  · exact absurd (nI_le h1 (by omega)) h
theorem lr_0 {k : Nat} (hk : k ≤ 8) : ((if (8 : Int32) < nI k then 8 else nI k) - 1) < 8 := by
  have h : k = 0 ∨ k = 1 ∨ k = 2 ∨ k = 3 ∨ k = 4 ∨ k = 5 ∨ k = 6 ∨ k = 7 ∨ k = 8 := by omega
  rcases h with rfl | rfl | rfl | rfl | rfl | rfl | rfl | rfl | rfl <;> decide
theorem lr_s {i : Int32} (h : ¬ i < 0) (h8 : i < 8) : i + (-1) < 8 := by
  rcases pk_ix i (n := 8) (by decide) with h1 | h1 | ⟨j, hj, rfl⟩
  · exact absurd h1 h
  · exact absurd h8 (o_4 h1)
  · have h4 : j = 0 ∨ j = 1 ∨ j = 2 ∨ j = 3 ∨ j = 4 ∨ j = 5 ∨ j = 6 ∨ j = 7 := by omega
    rcases h4 with rfl | rfl | rfl | rfl | rfl | rfl | rfl | rfl <;> decide
theorem in_tr (p c : Int32) : vp_in (((p &&& 7) * 2) + (c &&& 1)) 16 := by
  obtain ⟨j, hj, e1⟩ := pk_andE p (m := 7) 3 (by decide)
  obtain ⟨k, hk, e2⟩ := pk_andE c (m := 1) 1 (by decide)
  rw [e1, e2]
  have e3 : nI j * 2 = nI (j * 2) := pk_mul j 2
  rw [e3, nI_add]
  exact vp_in_nI (by omega) (by decide)
theorem in_sl (p c x : Int32) : vp_in ((((p &&& 7) * 16) + ((c &&& 1) * 8)) + (x &&& 7)) 128 := by
  obtain ⟨j, hj, e1⟩ := pk_andE p (m := 7) 3 (by decide)
  obtain ⟨k, hk, e2⟩ := pk_andE c (m := 1) 1 (by decide)
  obtain ⟨i, hi, e3⟩ := pk_andE x (m := 7) 3 (by decide)
  rw [e1, e2, e3]
  have e4 : nI j * 16 = nI (j * 16) := pk_mul j 16
  have e5 : nI k * 8 = nI (k * 8) := pk_mul k 8
  rw [e4, e5, nI_add, nI_add]
  exact vp_in_nI (by omega) (by decide)
theorem cmp_ne {x : Int64} (h : ¬ lg_cmp x 0 ≤ 0) : ¬ x = 0 := by
  rintro rfl
  exact h (by decide)
abbrev MX7_isTerm : g_M := (yX7_isTerm, cX7_isTerm, 1, (some .boolean))
theorem dX7_isTerm_0 : decode cX7_isTerm 0 = .ok (.iload_n 0, 1) := by decide +kernel
theorem dX7_isTerm_1 : decode cX7_isTerm 1 = .ok (.iconst 1, 1) := by decide +kernel
theorem dX7_isTerm_2 : decode cX7_isTerm 2 = .ok (.if_icmp .lt 9, 3) := by decide +kernel
theorem dX7_isTerm_11 : decode cX7_isTerm 11 = .ok (.iload_n 0, 1) := by decide +kernel
theorem dX7_isTerm_12 : decode cX7_isTerm 12 = .ok (.bipush 17, 2) := by decide +kernel
theorem dX7_isTerm_14 : decode cX7_isTerm 14 = .ok (.if_icmp .eq 20, 3) := by decide +kernel
theorem dX7_isTerm_34 : decode cX7_isTerm 34 = .ok (.iconst 1, 1) := by decide +kernel
theorem dX7_isTerm_35 : decode cX7_isTerm 35 = .ok (.goto 4, 3) := by decide +kernel
theorem dX7_isTerm_39 : decode cX7_isTerm 39 = .ok (.ireturn, 1) := by decide +kernel
theorem dX7_isTerm_17 : decode cX7_isTerm 17 = .ok (.iload_n 0, 1) := by decide +kernel
theorem dX7_isTerm_18 : decode cX7_isTerm 18 = .ok (.bipush 18, 2) := by decide +kernel
theorem dX7_isTerm_20 : decode cX7_isTerm 20 = .ok (.if_icmp .eq 14, 3) := by decide +kernel
theorem dX7_isTerm_23 : decode cX7_isTerm 23 = .ok (.iload_n 0, 1) := by decide +kernel
theorem dX7_isTerm_24 : decode cX7_isTerm 24 = .ok (.iconst (-1), 1) := by decide +kernel
theorem dX7_isTerm_25 : decode cX7_isTerm 25 = .ok (.if_icmp .eq 9, 3) := by decide +kernel
theorem dX7_isTerm_28 : decode cX7_isTerm 28 = .ok (.iload_n 0, 1) := by decide +kernel
theorem dX7_isTerm_29 : decode cX7_isTerm 29 = .ok (.bipush (-3), 2) := by decide +kernel
theorem dX7_isTerm_31 : decode cX7_isTerm 31 = .ok (.if_icmp .ne 7, 3) := by decide +kernel
theorem dX7_isTerm_38 : decode cX7_isTerm 38 = .ok (.iconst 0, 1) := by decide +kernel
theorem dX7_isTerm_5 : decode cX7_isTerm 5 = .ok (.iload_n 0, 1) := by decide +kernel
theorem dX7_isTerm_6 : decode cX7_isTerm 6 = .ok (.bipush 8, 2) := by decide +kernel
theorem dX7_isTerm_8 : decode cX7_isTerm 8 = .ok (.if_icmp .le 26, 3) := by decide +kernel
set_option maxRecDepth 100000 in
def fn_wk_X7_isTerm (t : Int32) (β : Type) (k_ : Int32 → β) : β := (if t < 1 then (if t = 17 then (k_ 1) else (if t = 18 then (k_ 1) else (if t = (-1) then (k_ 1) else (if t = (-3) then (k_ 1) else (k_ 0))))) else (if t ≤ 8 then (k_ 1) else (if t = 17 then (k_ 1) else (if t = 18 then (k_ 1) else (if t = (-1) then (k_ 1) else (if t = (-3) then (k_ 1) else (k_ 0)))))))
set_option maxRecDepth 100000 in
theorem fn_wk_X7_isTerm_s {t : Int32} {β : Type} {k_ : Int32 → β} : fn_wk_X7_isTerm t β k_ = (if t < 1 then (if t = 17 then (k_ 1) else (if t = 18 then (k_ 1) else (if t = (-1) then (k_ 1) else (if t = (-3) then (k_ 1) else (k_ 0))))) else (if t ≤ 8 then (k_ 1) else (if t = 17 then (k_ 1) else (if t = 18 then (k_ 1) else (if t = (-1) then (k_ 1) else (if t = (-3) then (k_ 1) else (k_ 0))))))) := rfl
set_option maxRecDepth 100000 in
set_option maxHeartbeats 4000000 in
theorem wk_X7_isTerm (E : g_E) (t : Int32)  : Ev E MX7_isTerm 0 0 0 0 [.int t] [] (fun v_ w_ => ∃ zr : Int32, (zr = 0 ∨ zr = 1) ∧ (∀ (β : Type) (k_ : Int32 → β), fn_wk_X7_isTerm t β k_ = k_ zr) ∧ v_ = some (.int zr) ∧ w_ = []) := by
  refine Ev.intro (by decide) (Nat.le_of_ble_eq_true rfl) ?_
  intro X B hr hI
  have B : Bd E X cX7_isTerm RX7 1 0 0 0 0 := B
  have hr : Rt E X (some .boolean) 0 0 (fun v_ w_ => ∃ zr : Int32, (zr = 0 ∨ zr = 1) ∧ (∀ (β : Type) (k_ : Int32 → β), fn_wk_X7_isTerm t β k_ = k_ zr) ∧ v_ = some (.int zr) ∧ w_ = []) := hr
  have e_ := fun (β : Type) (k_ : Int32 → β) => fn_wk_X7_isTerm_s (β := β) (k_ := k_) (t := t)
  show G E X 1 [] 0 0 [(0, .int t)] 0 []
  refine g_iload_n B dX7_isTerm_0 rfl 0 rfl ?_
  refine g_iconst (v := 1) B dX7_isTerm_1 (by decide) ?_
  refine g_icmp_lt (tgt := 11) B dX7_isTerm_2 (by decide) (fun c2_257 => ?_) (fun c2_257 => ?_)
  · replace e_ := fun β k_ => (e_ β k_).trans (if_pos c2_257)
    refine g_iload_n B dX7_isTerm_11 rfl 0 rfl ?_
    refine g_bipush (v := 17) B dX7_isTerm_12 (by decide) ?_
    refine g_icmp_eq (tgt := 34) B dX7_isTerm_14 (by decide) (fun c14_258 => ?_) (fun c14_258 => ?_)
    · replace e_ := fun β k_ => (e_ β k_).trans (if_pos c14_258)
      refine g_iconst (v := 1) B dX7_isTerm_34 (by decide) ?_
      refine g_goto (tgt := 39) B dX7_isTerm_35 (by decide) ?_
      exact g_zret B hr (by decide) dX7_isTerm_39 (by decide) (by decide) ⟨1, (Or.inr rfl), e_, rfl, rfl⟩
    · replace e_ := fun β k_ => (e_ β k_).trans (if_neg c14_258)
      refine g_iload_n B dX7_isTerm_17 rfl 0 rfl ?_
      refine g_bipush (v := 18) B dX7_isTerm_18 (by decide) ?_
      refine g_icmp_eq (tgt := 34) B dX7_isTerm_20 (by decide) (fun c20_259 => ?_) (fun c20_259 => ?_)
      · replace e_ := fun β k_ => (e_ β k_).trans (if_pos c20_259)
        refine g_iconst (v := 1) B dX7_isTerm_34 (by decide) ?_
        refine g_goto (tgt := 39) B dX7_isTerm_35 (by decide) ?_
        exact g_zret B hr (by decide) dX7_isTerm_39 (by decide) (by decide) ⟨1, (Or.inr rfl), e_, rfl, rfl⟩
      · replace e_ := fun β k_ => (e_ β k_).trans (if_neg c20_259)
        refine g_iload_n B dX7_isTerm_23 rfl 0 rfl ?_
        refine g_iconst (v := (-1)) B dX7_isTerm_24 (by decide) ?_
        refine g_icmp_eq (tgt := 34) B dX7_isTerm_25 (by decide) (fun c25_260 => ?_) (fun c25_260 => ?_)
        · replace e_ := fun β k_ => (e_ β k_).trans (if_pos c25_260)
          refine g_iconst (v := 1) B dX7_isTerm_34 (by decide) ?_
          refine g_goto (tgt := 39) B dX7_isTerm_35 (by decide) ?_
          exact g_zret B hr (by decide) dX7_isTerm_39 (by decide) (by decide) ⟨1, (Or.inr rfl), e_, rfl, rfl⟩
        · replace e_ := fun β k_ => (e_ β k_).trans (if_neg c25_260)
          refine g_iload_n B dX7_isTerm_28 rfl 0 rfl ?_
          refine g_bipush (v := (-3)) B dX7_isTerm_29 (by decide) ?_
          refine g_icmp_ne (tgt := 38) B dX7_isTerm_31 (by decide) (fun c31_261 => ?_) (fun c31_261 => ?_)
          · replace e_ := fun β k_ => (e_ β k_).trans (if_neg c31_261)
            refine g_iconst (v := 0) B dX7_isTerm_38 (by decide) ?_
            exact g_zret B hr (by decide) dX7_isTerm_39 (by decide) (by decide) ⟨0, (Or.inl rfl), e_, rfl, rfl⟩
          · replace e_ := fun β k_ => (e_ β k_).trans (if_pos c31_261)
            refine g_iconst (v := 1) B dX7_isTerm_34 (by decide) ?_
            refine g_goto (tgt := 39) B dX7_isTerm_35 (by decide) ?_
            exact g_zret B hr (by decide) dX7_isTerm_39 (by decide) (by decide) ⟨1, (Or.inr rfl), e_, rfl, rfl⟩
  · replace e_ := fun β k_ => (e_ β k_).trans (if_neg c2_257)
    refine g_iload_n B dX7_isTerm_5 rfl 0 rfl ?_
    refine g_bipush (v := 8) B dX7_isTerm_6 (by decide) ?_
    refine g_icmp_le (tgt := 34) B dX7_isTerm_8 (by decide) (fun c8_262 => ?_) (fun c8_262 => ?_)
    · replace e_ := fun β k_ => (e_ β k_).trans (if_pos c8_262)
      refine g_iconst (v := 1) B dX7_isTerm_34 (by decide) ?_
      refine g_goto (tgt := 39) B dX7_isTerm_35 (by decide) ?_
      exact g_zret B hr (by decide) dX7_isTerm_39 (by decide) (by decide) ⟨1, (Or.inr rfl), e_, rfl, rfl⟩
    · replace e_ := fun β k_ => (e_ β k_).trans (if_neg c8_262)
      refine g_iload_n B dX7_isTerm_11 rfl 0 rfl ?_
      refine g_bipush (v := 17) B dX7_isTerm_12 (by decide) ?_
      refine g_icmp_eq (tgt := 34) B dX7_isTerm_14 (by decide) (fun c14_263 => ?_) (fun c14_263 => ?_)
      · replace e_ := fun β k_ => (e_ β k_).trans (if_pos c14_263)
        refine g_iconst (v := 1) B dX7_isTerm_34 (by decide) ?_
        refine g_goto (tgt := 39) B dX7_isTerm_35 (by decide) ?_
        exact g_zret B hr (by decide) dX7_isTerm_39 (by decide) (by decide) ⟨1, (Or.inr rfl), e_, rfl, rfl⟩
      · replace e_ := fun β k_ => (e_ β k_).trans (if_neg c14_263)
        refine g_iload_n B dX7_isTerm_17 rfl 0 rfl ?_
        refine g_bipush (v := 18) B dX7_isTerm_18 (by decide) ?_
        refine g_icmp_eq (tgt := 34) B dX7_isTerm_20 (by decide) (fun c20_264 => ?_) (fun c20_264 => ?_)
        · replace e_ := fun β k_ => (e_ β k_).trans (if_pos c20_264)
          refine g_iconst (v := 1) B dX7_isTerm_34 (by decide) ?_
          refine g_goto (tgt := 39) B dX7_isTerm_35 (by decide) ?_
          exact g_zret B hr (by decide) dX7_isTerm_39 (by decide) (by decide) ⟨1, (Or.inr rfl), e_, rfl, rfl⟩
        · replace e_ := fun β k_ => (e_ β k_).trans (if_neg c20_264)
          refine g_iload_n B dX7_isTerm_23 rfl 0 rfl ?_
          refine g_iconst (v := (-1)) B dX7_isTerm_24 (by decide) ?_
          refine g_icmp_eq (tgt := 34) B dX7_isTerm_25 (by decide) (fun c25_265 => ?_) (fun c25_265 => ?_)
          · replace e_ := fun β k_ => (e_ β k_).trans (if_pos c25_265)
            refine g_iconst (v := 1) B dX7_isTerm_34 (by decide) ?_
            refine g_goto (tgt := 39) B dX7_isTerm_35 (by decide) ?_
            exact g_zret B hr (by decide) dX7_isTerm_39 (by decide) (by decide) ⟨1, (Or.inr rfl), e_, rfl, rfl⟩
          · replace e_ := fun β k_ => (e_ β k_).trans (if_neg c25_265)
            refine g_iload_n B dX7_isTerm_28 rfl 0 rfl ?_
            refine g_bipush (v := (-3)) B dX7_isTerm_29 (by decide) ?_
            refine g_icmp_ne (tgt := 38) B dX7_isTerm_31 (by decide) (fun c31_266 => ?_) (fun c31_266 => ?_)
            · replace e_ := fun β k_ => (e_ β k_).trans (if_neg c31_266)
              refine g_iconst (v := 0) B dX7_isTerm_38 (by decide) ?_
              exact g_zret B hr (by decide) dX7_isTerm_39 (by decide) (by decide) ⟨0, (Or.inl rfl), e_, rfl, rfl⟩
            · replace e_ := fun β k_ => (e_ β k_).trans (if_pos c31_266)
              refine g_iconst (v := 1) B dX7_isTerm_34 (by decide) ?_
              refine g_goto (tgt := 39) B dX7_isTerm_35 (by decide) ?_
              exact g_zret B hr (by decide) dX7_isTerm_39 (by decide) (by decide) ⟨1, (Or.inr rfl), e_, rfl, rfl⟩
abbrev MX7_add : g_M := (yX7_add, cX7_add, 3, (some .boolean))
theorem dX7_add_0 : decode cX7_add 0 = .ok (.aload_n 0, 1) := by decide +kernel
theorem dX7_add_1 : decode cX7_add 1 = .ok (.getfield 18, 3) := by decide +kernel
theorem dX7_add_4 : decode cX7_add 4 = .ok (.ifCond .lt 30, 3) := by decide +kernel
theorem dX7_add_34 : decode cX7_add 34 = .ok (.iconst 0, 1) := by decide +kernel
theorem dX7_add_35 : decode cX7_add 35 = .ok (.ireturn, 1) := by decide +kernel
theorem dX7_add_7 : decode cX7_add 7 = .ok (.aload_n 0, 1) := by decide +kernel
theorem dX7_add_8 : decode cX7_add 8 = .ok (.getfield 18, 3) := by decide +kernel
theorem dX7_add_11 : decode cX7_add 11 = .ok (.bipush 8, 2) := by decide +kernel
theorem dX7_add_13 : decode cX7_add 13 = .ok (.if_icmp .ge 21, 3) := by decide +kernel
theorem dX7_add_16 : decode cX7_add 16 = .ok (.iload_n 1, 1) := by decide +kernel
theorem dX7_add_17 : decode cX7_add 17 = .ok (.invokestatic 22, 3) := by decide +kernel
theorem w_ml_X7_22 : Cond.methodLink RX7 22 yX7_isTerm ∈ g_tbl := g_tbl_in 424 (by decide +kernel) (by decide +kernel)
theorem w_cd_X7_isTerm : g_cw MX7_isTerm ∈ g_tbl := g_tbl_in 426 (by decide +kernel) (by decide +kernel)
theorem cl_X7_22 : CL RX7 22 1 MX7_isTerm := ⟨w_ml_X7_22, w_cd_X7_isTerm, w_ini_X7, by decide +kernel, by decide +kernel, by decide +kernel⟩
theorem w_sm_X7_isTerm : Cond.static yX7_isTerm ∈ g_tbl := g_tbl_in 425 (by decide +kernel) (by decide +kernel)
theorem dX7_add_20 : decode cX7_add 20 = .ok (.ifCond .eq 14, 3) := by decide +kernel
theorem dX7_add_23 : decode cX7_add 23 = .ok (.iload_n 2, 1) := by decide +kernel
theorem dX7_add_24 : decode cX7_add 24 = .ok (.iconst 1, 1) := by decide +kernel
theorem dX7_add_25 : decode cX7_add 25 = .ok (.if_icmp .lt 9, 3) := by decide +kernel
theorem dX7_add_28 : decode cX7_add 28 = .ok (.iload_n 2, 1) := by decide +kernel
theorem dX7_add_29 : decode cX7_add 29 = .ok (.bipush 7, 2) := by decide +kernel
theorem dX7_add_31 : decode cX7_add 31 = .ok (.if_icmp .le 5, 3) := by decide +kernel
theorem dX7_add_36 : decode cX7_add 36 = .ok (.aload_n 0, 1) := by decide +kernel
theorem dX7_add_37 : decode cX7_add 37 = .ok (.getfield 9, 3) := by decide +kernel
theorem dX7_add_40 : decode cX7_add 40 = .ok (.aload_n 0, 1) := by decide +kernel
theorem dX7_add_41 : decode cX7_add 41 = .ok (.getfield 18, 3) := by decide +kernel
theorem dX7_add_44 : decode cX7_add 44 = .ok (.iload_n 1, 1) := by decide +kernel
theorem dX7_add_45 : decode cX7_add 45 = .ok (.iastore, 1) := by decide +kernel
theorem dX7_add_46 : decode cX7_add 46 = .ok (.aload_n 0, 1) := by decide +kernel
theorem dX7_add_47 : decode cX7_add 47 = .ok (.getfield 15, 3) := by decide +kernel
theorem dX7_add_50 : decode cX7_add 50 = .ok (.aload_n 0, 1) := by decide +kernel
theorem dX7_add_51 : decode cX7_add 51 = .ok (.getfield 18, 3) := by decide +kernel
theorem dX7_add_54 : decode cX7_add 54 = .ok (.iload_n 2, 1) := by decide +kernel
theorem dX7_add_55 : decode cX7_add 55 = .ok (.iastore, 1) := by decide +kernel
theorem dX7_add_56 : decode cX7_add 56 = .ok (.aload_n 0, 1) := by decide +kernel
theorem dX7_add_57 : decode cX7_add 57 = .ok (.dup, 1) := by decide +kernel
theorem dX7_add_58 : decode cX7_add 58 = .ok (.getfield 18, 3) := by decide +kernel
theorem dX7_add_61 : decode cX7_add 61 = .ok (.iconst 1, 1) := by decide +kernel
theorem dX7_add_62 : decode cX7_add 62 = .ok (.iadd, 1) := by decide +kernel
theorem dX7_add_63 : decode cX7_add 63 = .ok (.putfield 18, 3) := by decide +kernel
theorem dX7_add_66 : decode cX7_add 66 = .ok (.iconst 1, 1) := by decide +kernel
theorem dX7_add_67 : decode cX7_add 67 = .ok (.ireturn, 1) := by decide +kernel
set_option maxRecDepth 100000 in
def fn_wk_X7_add (p_2 : Nat) (te_f : Nat → Int32) (de_f : Nat → Int32) (t : Int32) (d : Int32) (β : Type) (k_ : Nat → (Nat → Int32) → (Nat → Int32) → Int32 → β) : β := (if nI p_2 < 0 then (k_ p_2 te_f de_f 0) else (if 8 ≤ nI p_2 then (k_ p_2 te_f de_f 0) else (fn_wk_X7_isTerm t β (fun zr_269 => (if zr_269 = 0 then (k_ p_2 te_f de_f 0) else (if d < 1 then (k_ p_2 te_f de_f 0) else (if d ≤ 7 then (k_ (p_2 + 1) (upd te_f p_2 t) (upd de_f p_2 d) 1) else (k_ p_2 te_f de_f 0))))))))
set_option maxRecDepth 100000 in
theorem fn_wk_X7_add_s {p_2 : Nat} {te_f : Nat → Int32} {de_f : Nat → Int32} {t : Int32} {d : Int32} {β : Type} {k_ : Nat → (Nat → Int32) → (Nat → Int32) → Int32 → β} : fn_wk_X7_add p_2 te_f de_f t d β k_ = (if nI p_2 < 0 then (k_ p_2 te_f de_f 0) else (if 8 ≤ nI p_2 then (k_ p_2 te_f de_f 0) else (fn_wk_X7_isTerm t β (fun zr_269 => (if zr_269 = 0 then (k_ p_2 te_f de_f 0) else (if d < 1 then (k_ p_2 te_f de_f 0) else (if d ≤ 7 then (k_ (p_2 + 1) (upd te_f p_2 t) (upd de_f p_2 d) 1) else (k_ p_2 te_f de_f 0)))))))) := rfl
set_option maxRecDepth 100000 in
set_option maxHeartbeats 4000000 in
theorem wk_X7_add (E : g_E) (p : Nat) (te : Nat) (de : Nat) (p_2 : Nat) (te_f : Nat → Int32) (de_f : Nat → Int32) (t : Int32) (d : Int32) (hp0 : p_2 ≤ 8) : Ev E MX7_add 1 20 0 0 [.ref p, .int t, .int d] [(p, .inr (7, [.ref te, .ref de, .int (nI p_2)])), (te, .inl (E.2.2.1 0, 8, .inl te_f)), (de, .inl (E.2.2.1 0, 8, .inl de_f))] (fun v_ w_ => ∃ zp_2 : Nat, ∃ zte_f : Nat → Int32, ∃ zde_f : Nat → Int32, ∃ zr : Int32, (zr = 0 ∨ zr = 1) ∧ (zp_2 ≤ 8) ∧ (∀ (β : Type) (k_ : Nat → (Nat → Int32) → (Nat → Int32) → Int32 → β), fn_wk_X7_add p_2 te_f de_f t d β k_ = k_ zp_2 zte_f zde_f zr) ∧ v_ = some (.int zr) ∧ w_ = [(p, .inr (7, [.ref te, .ref de, .int (nI zp_2)])), (te, .inl (E.2.2.1 0, 8, .inl zte_f)), (de, .inl (E.2.2.1 0, 8, .inl zde_f))]) := by
  refine Ev.intro (by decide) (Nat.le_of_ble_eq_true rfl) ?_
  intro X B hr hI
  have B : Bd E X cX7_add RX7 3 1 20 0 0 := B
  have hr : Rt E X (some .boolean) 0 0 (fun v_ w_ => ∃ zp_2 : Nat, ∃ zte_f : Nat → Int32, ∃ zde_f : Nat → Int32, ∃ zr : Int32, (zr = 0 ∨ zr = 1) ∧ (zp_2 ≤ 8) ∧ (∀ (β : Type) (k_ : Nat → (Nat → Int32) → (Nat → Int32) → Int32 → β), fn_wk_X7_add p_2 te_f de_f t d β k_ = k_ zp_2 zte_f zde_f zr) ∧ v_ = some (.int zr) ∧ w_ = [(p, .inr (7, [.ref te, .ref de, .int (nI zp_2)])), (te, .inl (E.2.2.1 0, 8, .inl zte_f)), (de, .inl (E.2.2.1 0, 8, .inl zde_f))]) := hr
  have e_ := fun (β : Type) (k_ : Nat → (Nat → Int32) → (Nat → Int32) → Int32 → β) => fn_wk_X7_add_s (β := β) (k_ := k_) (p_2 := p_2) (te_f := te_f) (de_f := de_f) (t := t) (d := d)
  show G E X 3 [(p, .inr (7, [.ref te, .ref de, .int (nI p_2)])), (te, .inl (E.2.2.1 0, 8, .inl te_f)), (de, .inl (E.2.2.1 0, 8, .inl de_f))] 0 0 [(0, .ref p), (1, .int t), (2, .int d)] 0 []
  refine g_aload_n B dX7_add_0 rfl 0 rfl ?_
  refine g_get B 0 2 fl_X7_18 rfl rfl dX7_add_1 ?_
  refine g_if_lt (tgt := 34) B dX7_add_4 (by decide) (fun c4_267 => ?_) (fun c4_267 => ?_)
  · replace e_ := fun β k_ => (e_ β k_).trans (if_pos c4_267)
    refine g_iconst (v := 0) B dX7_add_34 (by decide) ?_
    exact g_zret B hr (by decide) dX7_add_35 (by decide) (by decide) ⟨p_2, te_f, de_f, 0, (Or.inl rfl), (by first | assumption | omega | decide), e_, rfl, rfl⟩
  · replace e_ := fun β k_ => (e_ β k_).trans (if_neg c4_267)
    refine g_aload_n B dX7_add_7 rfl 0 rfl ?_
    refine g_get B 0 2 fl_X7_18 rfl rfl dX7_add_8 ?_
    refine g_bipush (v := 8) B dX7_add_11 (by decide) ?_
    refine g_icmp_ge (tgt := 34) B dX7_add_13 (by decide) (fun c13_268 => ?_) (fun c13_268 => ?_)
    · replace e_ := fun β k_ => (e_ β k_).trans (if_pos c13_268)
      refine g_iconst (v := 0) B dX7_add_34 (by decide) ?_
      exact g_zret B hr (by decide) dX7_add_35 (by decide) (by decide) ⟨p_2, te_f, de_f, 0, (Or.inl rfl), (by first | assumption | omega | decide), e_, rfl, rfl⟩
    · replace e_ := fun β k_ => (e_ β k_).trans (if_neg c13_268)
      refine g_iload_n B dX7_add_16 rfl 1 rfl ?_
      refine g_callS (st := []) (As := [.int t]) (wr := [(p, .inr (7, [.ref te, .ref de, .int (nI p_2)])), (te, .inl (E.2.2.1 0, 8, .inl te_f)), (de, .inl (E.2.2.1 0, 8, .inl de_f))]) (nc' := 0) (ns' := 0) B cl_X7_22 w_sm_X7_isTerm (wk_X7_isTerm E t ) rfl [] [0, 1, 2] rfl rfl (by decide) (by decide) (by decide) ⟨by decide, by decide⟩ rfl rfl (by decide) (by decide) rfl (Nat.le_of_ble_eq_true rfl) dX7_add_17 (fun v w hq => ?_)
      obtain ⟨zr_269, hf_270, hz_271, rfl, rfl⟩ := hq
      replace e_ := fun β k_ => (e_ β k_).trans (hz_271 β _)
      show G E X 3 [(p, .inr (7, [.ref te, .ref de, .int (nI p_2)])), (te, .inl (E.2.2.1 0, 8, .inl te_f)), (de, .inl (E.2.2.1 0, 8, .inl de_f))] 0 0 [(0, .ref p), (1, .int t), (2, .int d)] 20 [.int zr_269]
      refine g_if_eq (tgt := 34) B dX7_add_20 (by decide) (fun c20_272 => ?_) (fun c20_272 => ?_)
      · replace e_ := fun β k_ => (e_ β k_).trans (if_pos c20_272)
        refine g_iconst (v := 0) B dX7_add_34 (by decide) ?_
        exact g_zret B hr (by decide) dX7_add_35 (by decide) (by decide) ⟨p_2, te_f, de_f, 0, (Or.inl rfl), (by first | assumption | omega | decide), e_, rfl, rfl⟩
      · replace e_ := fun β k_ => (e_ β k_).trans (if_neg c20_272)
        refine g_iload_n B dX7_add_23 rfl 2 rfl ?_
        refine g_iconst (v := 1) B dX7_add_24 (by decide) ?_
        refine g_icmp_lt (tgt := 34) B dX7_add_25 (by decide) (fun c25_273 => ?_) (fun c25_273 => ?_)
        · replace e_ := fun β k_ => (e_ β k_).trans (if_pos c25_273)
          refine g_iconst (v := 0) B dX7_add_34 (by decide) ?_
          exact g_zret B hr (by decide) dX7_add_35 (by decide) (by decide) ⟨p_2, te_f, de_f, 0, (Or.inl rfl), (by first | assumption | omega | decide), e_, rfl, rfl⟩
        · replace e_ := fun β k_ => (e_ β k_).trans (if_neg c25_273)
          refine g_iload_n B dX7_add_28 rfl 2 rfl ?_
          refine g_bipush (v := 7) B dX7_add_29 (by decide) ?_
          refine g_icmp_le (tgt := 36) B dX7_add_31 (by decide) (fun c31_274 => ?_) (fun c31_274 => ?_)
          · replace e_ := fun β k_ => (e_ β k_).trans (if_pos c31_274)
            refine g_aload_n B dX7_add_36 rfl 0 rfl ?_
            refine g_get B 0 0 fl_X7_9 rfl rfl dX7_add_37 ?_
            refine g_aload_n B dX7_add_40 rfl 0 rfl ?_
            refine g_get B 0 2 fl_X7_18 rfl rfl dX7_add_41 ?_
            refine g_iload_n B dX7_add_44 rfl 1 rfl ?_
            refine g_iast (ws' := [(p, .inr (7, [.ref te, .ref de, .int (nI p_2)])), (te, .inl (E.2.2.1 0, 8, .inl (upd te_f p_2 t))), (de, .inl (E.2.2.1 0, 8, .inl de_f))]) B 1 rfl (in_lt (by decide) c4_267 (o_2 c13_268)) (by rw [nI_clamp (n := p_2) (by omega)]; rfl) dX7_add_45 ?_
            refine g_aload_n B dX7_add_46 rfl 0 rfl ?_
            refine g_get B 0 1 fl_X7_15 rfl rfl dX7_add_47 ?_
            refine g_aload_n B dX7_add_50 rfl 0 rfl ?_
            refine g_get B 0 2 fl_X7_18 rfl rfl dX7_add_51 ?_
            refine g_iload_n B dX7_add_54 rfl 2 rfl ?_
            refine g_iast (ws' := [(p, .inr (7, [.ref te, .ref de, .int (nI p_2)])), (te, .inl (E.2.2.1 0, 8, .inl (upd te_f p_2 t))), (de, .inl (E.2.2.1 0, 8, .inl (upd de_f p_2 d)))]) B 2 rfl (in_lt (by decide) c4_267 (o_2 c13_268)) (by rw [nI_clamp (n := p_2) (by omega)]; rfl) dX7_add_55 ?_
            refine g_aload_n B dX7_add_56 rfl 0 rfl ?_
            refine g_dup B dX7_add_57 rfl ?_
            refine g_get B 0 2 fl_X7_18 rfl rfl dX7_add_58 ?_
            refine g_iconst (v := 1) B dX7_add_61 (by decide) ?_
            refine g_iadd B dX7_add_62 ?_
            have hq1 : p_2 + 1 ≤ 8 := pl_lt hp0 c13_268
            refine g_ri (x' := nI (p_2 + 1)) (nI_1 p_2) ?_
            refine g_put (ws' := [(p, .inr (7, [.ref te, .ref de, .int (nI (p_2 + 1))])), (te, .inl (E.2.2.1 0, 8, .inl (upd te_f p_2 t))), (de, .inl (E.2.2.1 0, 8, .inl (upd de_f p_2 d)))]) B 0 2 fl_X7_18 pf_X7_2 rfl (Nat.le_of_ble_eq_true rfl) rfl rfl rfl dX7_add_63 ?_
            refine g_iconst (v := 1) B dX7_add_66 (by decide) ?_
            exact g_zret B hr (by decide) dX7_add_67 (by decide) (by decide) ⟨(p_2 + 1), (upd te_f p_2 t), (upd de_f p_2 d), 1, (Or.inr rfl), (by first | assumption | omega | decide), e_, rfl, rfl⟩
          · replace e_ := fun β k_ => (e_ β k_).trans (if_neg c31_274)
            refine g_iconst (v := 0) B dX7_add_34 (by decide) ?_
            exact g_zret B hr (by decide) dX7_add_35 (by decide) (by decide) ⟨p_2, te_f, de_f, 0, (Or.inl rfl), (by first | assumption | omega | decide), e_, rfl, rfl⟩
abbrev MX7_clear : g_M := (yX7_clear, cX7_clear, 1, none)
theorem dX7_clear_0 : decode cX7_clear 0 = .ok (.aload_n 0, 1) := by decide +kernel
theorem dX7_clear_1 : decode cX7_clear 1 = .ok (.iconst 0, 1) := by decide +kernel
theorem dX7_clear_2 : decode cX7_clear 2 = .ok (.putfield 18, 3) := by decide +kernel
theorem dX7_clear_5 : decode cX7_clear 5 = .ok (.return_, 1) := by decide +kernel
set_option maxRecDepth 100000 in
def fn_wk_X7_clear  (β : Type) (k_ : Nat → β) : β := (k_ 0)
set_option maxRecDepth 100000 in
theorem fn_wk_X7_clear_s  {β : Type} {k_ : Nat → β} : fn_wk_X7_clear  β k_ = (k_ 0) := rfl
set_option maxRecDepth 100000 in
set_option maxHeartbeats 4000000 in
theorem wk_X7_clear (E : g_E) (p : Nat) (te : Nat) (de : Nat) (p_2 : Nat) (hp0 : p_2 ≤ 8) : Ev E MX7_clear 0 0 0 0 [.ref p] [(p, .inr (7, [.ref te, .ref de, .int (nI p_2)]))] (fun v_ w_ => ∃ zp_2 : Nat, (zp_2 ≤ 8) ∧ (∀ (β : Type) (k_ : Nat → β), fn_wk_X7_clear β k_ = k_ zp_2) ∧ v_ = none ∧ w_ = [(p, .inr (7, [.ref te, .ref de, .int (nI zp_2)]))]) := by
  refine Ev.intro (by decide) (Nat.le_of_ble_eq_true rfl) ?_
  intro X B hr hI
  have B : Bd E X cX7_clear RX7 1 0 0 0 0 := B
  have hr : Rt E X none 0 0 (fun v_ w_ => ∃ zp_2 : Nat, (zp_2 ≤ 8) ∧ (∀ (β : Type) (k_ : Nat → β), fn_wk_X7_clear β k_ = k_ zp_2) ∧ v_ = none ∧ w_ = [(p, .inr (7, [.ref te, .ref de, .int (nI zp_2)]))]) := hr
  have e_ := fun (β : Type) (k_ : Nat → β) => fn_wk_X7_clear_s (β := β) (k_ := k_) 
  show G E X 1 [(p, .inr (7, [.ref te, .ref de, .int (nI p_2)]))] 0 0 [(0, .ref p)] 0 []
  refine g_aload_n B dX7_clear_0 rfl 0 rfl ?_
  refine g_iconst (v := 0) B dX7_clear_1 (by decide) ?_
  refine g_put (ws' := [(p, .inr (7, [.ref te, .ref de, .int 0]))]) B 0 2 fl_X7_18 pf_X7_2 rfl (Nat.le_of_ble_eq_true rfl) rfl rfl rfl dX7_clear_2 ?_
  exact g_vret B hr dX7_clear_5 (by decide) (by decide) ⟨0, (by first | assumption | omega | decide), e_, rfl, rfl⟩
abbrev MX7_copy : g_M := (yX7_copy, cX7_copy, 3, none)
theorem dX7_copy_0 : decode cX7_copy 0 = .ok (.iconst 0, 1) := by decide +kernel
theorem dX7_copy_1 : decode cX7_copy 1 = .ok (.istore_n 2, 1) := by decide +kernel
theorem dX7_copy_2 : decode cX7_copy 2 = .ok (.iload_n 2, 1) := by decide +kernel
theorem dX7_copy_3 : decode cX7_copy 3 = .ok (.bipush 8, 2) := by decide +kernel
theorem dX7_copy_5 : decode cX7_copy 5 = .ok (.if_icmp .ge 33, 3) := by decide +kernel
theorem dX7_copy_8 : decode cX7_copy 8 = .ok (.aload_n 0, 1) := by decide +kernel
theorem dX7_copy_9 : decode cX7_copy 9 = .ok (.getfield 9, 3) := by decide +kernel
theorem dX7_copy_12 : decode cX7_copy 12 = .ok (.iload_n 2, 1) := by decide +kernel
theorem dX7_copy_13 : decode cX7_copy 13 = .ok (.aload_n 1, 1) := by decide +kernel
theorem dX7_copy_14 : decode cX7_copy 14 = .ok (.getfield 9, 3) := by decide +kernel
theorem dX7_copy_17 : decode cX7_copy 17 = .ok (.iload_n 2, 1) := by decide +kernel
theorem dX7_copy_18 : decode cX7_copy 18 = .ok (.iaload, 1) := by decide +kernel
theorem dX7_copy_19 : decode cX7_copy 19 = .ok (.iastore, 1) := by decide +kernel
theorem dX7_copy_20 : decode cX7_copy 20 = .ok (.aload_n 0, 1) := by decide +kernel
theorem dX7_copy_21 : decode cX7_copy 21 = .ok (.getfield 15, 3) := by decide +kernel
theorem dX7_copy_24 : decode cX7_copy 24 = .ok (.iload_n 2, 1) := by decide +kernel
theorem dX7_copy_25 : decode cX7_copy 25 = .ok (.aload_n 1, 1) := by decide +kernel
theorem dX7_copy_26 : decode cX7_copy 26 = .ok (.getfield 15, 3) := by decide +kernel
theorem dX7_copy_29 : decode cX7_copy 29 = .ok (.iload_n 2, 1) := by decide +kernel
theorem dX7_copy_30 : decode cX7_copy 30 = .ok (.iaload, 1) := by decide +kernel
theorem dX7_copy_31 : decode cX7_copy 31 = .ok (.iastore, 1) := by decide +kernel
theorem dX7_copy_32 : decode cX7_copy 32 = .ok (.iinc 2 1, 3) := by decide +kernel
theorem dX7_copy_35 : decode cX7_copy 35 = .ok (.goto (-33), 3) := by decide +kernel
theorem dX7_copy_38 : decode cX7_copy 38 = .ok (.aload_n 0, 1) := by decide +kernel
theorem dX7_copy_39 : decode cX7_copy 39 = .ok (.aload_n 1, 1) := by decide +kernel
theorem dX7_copy_40 : decode cX7_copy 40 = .ok (.getfield 18, 3) := by decide +kernel
theorem dX7_copy_43 : decode cX7_copy 43 = .ok (.putfield 18, 3) := by decide +kernel
theorem dX7_copy_46 : decode cX7_copy 46 = .ok (.return_, 1) := by decide +kernel
set_option maxRecDepth 100000 in
def fn_wk_X7_copy (p2_2 : Nat) (te2_f : Nat → Int32) (de2_f : Nat → Int32) (te_f : Nat → Int32) (de_f : Nat → Int32) (β : Type) (k_ : Nat → (Nat → Int32) → (Nat → Int32) → β) : β := (k_ p2_2 (upd (upd (upd (upd (upd (upd (upd (upd te_f 0 (te2_f 0)) 1 (te2_f 1)) 2 (te2_f 2)) 3 (te2_f 3)) 4 (te2_f 4)) 5 (te2_f 5)) 6 (te2_f 6)) 7 (te2_f 7)) (upd (upd (upd (upd (upd (upd (upd (upd de_f 0 (de2_f 0)) 1 (de2_f 1)) 2 (de2_f 2)) 3 (de2_f 3)) 4 (de2_f 4)) 5 (de2_f 5)) 6 (de2_f 6)) 7 (de2_f 7)))
set_option maxRecDepth 100000 in
theorem fn_wk_X7_copy_s {p2_2 : Nat} {te2_f : Nat → Int32} {de2_f : Nat → Int32} {te_f : Nat → Int32} {de_f : Nat → Int32} {β : Type} {k_ : Nat → (Nat → Int32) → (Nat → Int32) → β} : fn_wk_X7_copy p2_2 te2_f de2_f te_f de_f β k_ = (k_ p2_2 (upd (upd (upd (upd (upd (upd (upd (upd te_f 0 (te2_f 0)) 1 (te2_f 1)) 2 (te2_f 2)) 3 (te2_f 3)) 4 (te2_f 4)) 5 (te2_f 5)) 6 (te2_f 6)) 7 (te2_f 7)) (upd (upd (upd (upd (upd (upd (upd (upd de_f 0 (de2_f 0)) 1 (de2_f 1)) 2 (de2_f 2)) 3 (de2_f 3)) 4 (de2_f 4)) 5 (de2_f 5)) 6 (de2_f 6)) 7 (de2_f 7))) := rfl
set_option maxRecDepth 100000 in
set_option maxHeartbeats 4000000 in
theorem wk_X7_copy (E : g_E) (p : Nat) (te : Nat) (de : Nat) (p2 : Nat) (te2 : Nat) (de2 : Nat) (p2_2 : Nat) (te2_f : Nat → Int32) (de2_f : Nat → Int32) (p_2 : Nat) (te_f : Nat → Int32) (de_f : Nat → Int32) (hk0 : p2_2 ≤ 8) (hp0 : p_2 ≤ 8) : Ev E MX7_copy 0 0 0 0 [.ref p, .ref p2] [(p, .inr (7, [.ref te, .ref de, .int (nI p_2)])), (te, .inl (E.2.2.1 0, 8, .inl te_f)), (de, .inl (E.2.2.1 0, 8, .inl de_f)), (p2, .inr (7, [.ref te2, .ref de2, .int (nI p2_2)])), (te2, .inl (E.2.2.1 0, 8, .inl te2_f)), (de2, .inl (E.2.2.1 0, 8, .inl de2_f))] (fun v_ w_ => ∃ zp_2 : Nat, ∃ zte_f : Nat → Int32, ∃ zde_f : Nat → Int32, (zp_2 ≤ 8) ∧ (∀ (β : Type) (k_ : Nat → (Nat → Int32) → (Nat → Int32) → β), fn_wk_X7_copy p2_2 te2_f de2_f te_f de_f β k_ = k_ zp_2 zte_f zde_f) ∧ v_ = none ∧ w_ = [(p, .inr (7, [.ref te, .ref de, .int (nI zp_2)])), (te, .inl (E.2.2.1 0, 8, .inl zte_f)), (de, .inl (E.2.2.1 0, 8, .inl zde_f)), (p2, .inr (7, [.ref te2, .ref de2, .int (nI p2_2)])), (te2, .inl (E.2.2.1 0, 8, .inl te2_f)), (de2, .inl (E.2.2.1 0, 8, .inl de2_f))]) := by
  refine Ev.intro (by decide) (Nat.le_of_ble_eq_true rfl) ?_
  intro X B hr hI
  have B : Bd E X cX7_copy RX7 3 0 0 0 0 := B
  have hr : Rt E X none 0 0 (fun v_ w_ => ∃ zp_2 : Nat, ∃ zte_f : Nat → Int32, ∃ zde_f : Nat → Int32, (zp_2 ≤ 8) ∧ (∀ (β : Type) (k_ : Nat → (Nat → Int32) → (Nat → Int32) → β), fn_wk_X7_copy p2_2 te2_f de2_f te_f de_f β k_ = k_ zp_2 zte_f zde_f) ∧ v_ = none ∧ w_ = [(p, .inr (7, [.ref te, .ref de, .int (nI zp_2)])), (te, .inl (E.2.2.1 0, 8, .inl zte_f)), (de, .inl (E.2.2.1 0, 8, .inl zde_f)), (p2, .inr (7, [.ref te2, .ref de2, .int (nI p2_2)])), (te2, .inl (E.2.2.1 0, 8, .inl te2_f)), (de2, .inl (E.2.2.1 0, 8, .inl de2_f))]) := hr
  have e_ := fun (β : Type) (k_ : Nat → (Nat → Int32) → (Nat → Int32) → β) => fn_wk_X7_copy_s (β := β) (k_ := k_) (p2_2 := p2_2) (te2_f := te2_f) (de2_f := de2_f) (te_f := te_f) (de_f := de_f)
  show G E X 3 [(p, .inr (7, [.ref te, .ref de, .int (nI p_2)])), (te, .inl (E.2.2.1 0, 8, .inl te_f)), (de, .inl (E.2.2.1 0, 8, .inl de_f)), (p2, .inr (7, [.ref te2, .ref de2, .int (nI p2_2)])), (te2, .inl (E.2.2.1 0, 8, .inl te2_f)), (de2, .inl (E.2.2.1 0, 8, .inl de2_f))] 0 0 [(0, .ref p), (1, .ref p2)] 0 []
  refine g_iconst (v := 0) B dX7_copy_0 (by decide) ?_
  refine g_istore_n (lv' := [(2, .int 0), (0, .ref p), (1, .ref p2)]) B dX7_copy_1 rfl (by decide) rfl ?_
  refine g_iload_n B dX7_copy_2 rfl 0 rfl ?_
  refine g_bipush (v := 8) B dX7_copy_3 (by decide) ?_
  refine g_icmp_ge (tgt := 38) B dX7_copy_5 (by decide) (fun h => absurd h (by decide)) (fun c5 => ?_)
  refine g_aload_n B dX7_copy_8 rfl 1 rfl ?_
  refine g_get B 0 0 fl_X7_9 rfl rfl dX7_copy_9 ?_
  refine g_iload_n B dX7_copy_12 rfl 0 rfl ?_
  refine g_aload_n B dX7_copy_13 rfl 2 rfl ?_
  refine g_get B 3 0 fl_X7_9 rfl rfl dX7_copy_14 ?_
  refine g_iload_n B dX7_copy_17 rfl 0 rfl ?_
  refine g_iald B 4 rfl (by unfold vp_in; decide) dX7_copy_18 ?_
  refine g_ri (x' := (te2_f 0)) (congrArg te2_f (by decide)) ?_
  refine g_iast (ws' := [(p, .inr (7, [.ref te, .ref de, .int (nI p_2)])), (te, .inl (E.2.2.1 0, 8, .inl (upd te_f 0 (te2_f 0)))), (de, .inl (E.2.2.1 0, 8, .inl de_f)), (p2, .inr (7, [.ref te2, .ref de2, .int (nI p2_2)])), (te2, .inl (E.2.2.1 0, 8, .inl te2_f)), (de2, .inl (E.2.2.1 0, 8, .inl de2_f))]) B 1 rfl (by unfold vp_in; decide) (by rw [show Int32.toNatClampNeg 0 = 0 from by decide]; rfl) dX7_copy_19 ?_
  refine g_aload_n B dX7_copy_20 rfl 1 rfl ?_
  refine g_get B 0 1 fl_X7_15 rfl rfl dX7_copy_21 ?_
  refine g_iload_n B dX7_copy_24 rfl 0 rfl ?_
  refine g_aload_n B dX7_copy_25 rfl 2 rfl ?_
  refine g_get B 3 1 fl_X7_15 rfl rfl dX7_copy_26 ?_
  refine g_iload_n B dX7_copy_29 rfl 0 rfl ?_
  refine g_iald B 5 rfl (by unfold vp_in; decide) dX7_copy_30 ?_
  refine g_ri (x' := (de2_f 0)) (congrArg de2_f (by decide)) ?_
  refine g_iast (ws' := [(p, .inr (7, [.ref te, .ref de, .int (nI p_2)])), (te, .inl (E.2.2.1 0, 8, .inl (upd te_f 0 (te2_f 0)))), (de, .inl (E.2.2.1 0, 8, .inl (upd de_f 0 (de2_f 0)))), (p2, .inr (7, [.ref te2, .ref de2, .int (nI p2_2)])), (te2, .inl (E.2.2.1 0, 8, .inl te2_f)), (de2, .inl (E.2.2.1 0, 8, .inl de2_f))]) B 2 rfl (by unfold vp_in; decide) (by rw [show Int32.toNatClampNeg 0 = 0 from by decide]; rfl) dX7_copy_31 ?_
  refine g_iinc (v := 1) (lv' := [(2, .int 1), (0, .ref p), (1, .ref p2)]) B dX7_copy_32 0 rfl (by decide) (by decide) rfl ?_
  refine g_goto (tgt := 2) B dX7_copy_35 (by decide) ?_
  refine g_iload_n B dX7_copy_2 rfl 0 rfl ?_
  refine g_bipush (v := 8) B dX7_copy_3 (by decide) ?_
  refine g_icmp_ge (tgt := 38) B dX7_copy_5 (by decide) (fun h => absurd h (by decide)) (fun c5 => ?_)
  refine g_aload_n B dX7_copy_8 rfl 1 rfl ?_
  refine g_get B 0 0 fl_X7_9 rfl rfl dX7_copy_9 ?_
  refine g_iload_n B dX7_copy_12 rfl 0 rfl ?_
  refine g_aload_n B dX7_copy_13 rfl 2 rfl ?_
  refine g_get B 3 0 fl_X7_9 rfl rfl dX7_copy_14 ?_
  refine g_iload_n B dX7_copy_17 rfl 0 rfl ?_
  refine g_iald B 4 rfl (by unfold vp_in; decide) dX7_copy_18 ?_
  refine g_ri (x' := (te2_f 1)) (congrArg te2_f (by decide)) ?_
  refine g_iast (ws' := [(p, .inr (7, [.ref te, .ref de, .int (nI p_2)])), (te, .inl (E.2.2.1 0, 8, .inl (upd (upd te_f 0 (te2_f 0)) 1 (te2_f 1)))), (de, .inl (E.2.2.1 0, 8, .inl (upd de_f 0 (de2_f 0)))), (p2, .inr (7, [.ref te2, .ref de2, .int (nI p2_2)])), (te2, .inl (E.2.2.1 0, 8, .inl te2_f)), (de2, .inl (E.2.2.1 0, 8, .inl de2_f))]) B 1 rfl (by unfold vp_in; decide) (by rw [show Int32.toNatClampNeg 1 = 1 from by decide]; rfl) dX7_copy_19 ?_
  refine g_aload_n B dX7_copy_20 rfl 1 rfl ?_
  refine g_get B 0 1 fl_X7_15 rfl rfl dX7_copy_21 ?_
  refine g_iload_n B dX7_copy_24 rfl 0 rfl ?_
  refine g_aload_n B dX7_copy_25 rfl 2 rfl ?_
  refine g_get B 3 1 fl_X7_15 rfl rfl dX7_copy_26 ?_
  refine g_iload_n B dX7_copy_29 rfl 0 rfl ?_
  refine g_iald B 5 rfl (by unfold vp_in; decide) dX7_copy_30 ?_
  refine g_ri (x' := (de2_f 1)) (congrArg de2_f (by decide)) ?_
  refine g_iast (ws' := [(p, .inr (7, [.ref te, .ref de, .int (nI p_2)])), (te, .inl (E.2.2.1 0, 8, .inl (upd (upd te_f 0 (te2_f 0)) 1 (te2_f 1)))), (de, .inl (E.2.2.1 0, 8, .inl (upd (upd de_f 0 (de2_f 0)) 1 (de2_f 1)))), (p2, .inr (7, [.ref te2, .ref de2, .int (nI p2_2)])), (te2, .inl (E.2.2.1 0, 8, .inl te2_f)), (de2, .inl (E.2.2.1 0, 8, .inl de2_f))]) B 2 rfl (by unfold vp_in; decide) (by rw [show Int32.toNatClampNeg 1 = 1 from by decide]; rfl) dX7_copy_31 ?_
  refine g_iinc (v := 2) (lv' := [(2, .int 2), (0, .ref p), (1, .ref p2)]) B dX7_copy_32 0 rfl (by decide) (by decide) rfl ?_
  refine g_goto (tgt := 2) B dX7_copy_35 (by decide) ?_
  refine g_iload_n B dX7_copy_2 rfl 0 rfl ?_
  refine g_bipush (v := 8) B dX7_copy_3 (by decide) ?_
  refine g_icmp_ge (tgt := 38) B dX7_copy_5 (by decide) (fun h => absurd h (by decide)) (fun c5 => ?_)
  refine g_aload_n B dX7_copy_8 rfl 1 rfl ?_
  refine g_get B 0 0 fl_X7_9 rfl rfl dX7_copy_9 ?_
  refine g_iload_n B dX7_copy_12 rfl 0 rfl ?_
  refine g_aload_n B dX7_copy_13 rfl 2 rfl ?_
  refine g_get B 3 0 fl_X7_9 rfl rfl dX7_copy_14 ?_
  refine g_iload_n B dX7_copy_17 rfl 0 rfl ?_
  refine g_iald B 4 rfl (by unfold vp_in; decide) dX7_copy_18 ?_
  refine g_ri (x' := (te2_f 2)) (congrArg te2_f (by decide)) ?_
  refine g_iast (ws' := [(p, .inr (7, [.ref te, .ref de, .int (nI p_2)])), (te, .inl (E.2.2.1 0, 8, .inl (upd (upd (upd te_f 0 (te2_f 0)) 1 (te2_f 1)) 2 (te2_f 2)))), (de, .inl (E.2.2.1 0, 8, .inl (upd (upd de_f 0 (de2_f 0)) 1 (de2_f 1)))), (p2, .inr (7, [.ref te2, .ref de2, .int (nI p2_2)])), (te2, .inl (E.2.2.1 0, 8, .inl te2_f)), (de2, .inl (E.2.2.1 0, 8, .inl de2_f))]) B 1 rfl (by unfold vp_in; decide) (by rw [show Int32.toNatClampNeg 2 = 2 from by decide]; rfl) dX7_copy_19 ?_
  refine g_aload_n B dX7_copy_20 rfl 1 rfl ?_
  refine g_get B 0 1 fl_X7_15 rfl rfl dX7_copy_21 ?_
  refine g_iload_n B dX7_copy_24 rfl 0 rfl ?_
  refine g_aload_n B dX7_copy_25 rfl 2 rfl ?_
  refine g_get B 3 1 fl_X7_15 rfl rfl dX7_copy_26 ?_
  refine g_iload_n B dX7_copy_29 rfl 0 rfl ?_
  refine g_iald B 5 rfl (by unfold vp_in; decide) dX7_copy_30 ?_
  refine g_ri (x' := (de2_f 2)) (congrArg de2_f (by decide)) ?_
  refine g_iast (ws' := [(p, .inr (7, [.ref te, .ref de, .int (nI p_2)])), (te, .inl (E.2.2.1 0, 8, .inl (upd (upd (upd te_f 0 (te2_f 0)) 1 (te2_f 1)) 2 (te2_f 2)))), (de, .inl (E.2.2.1 0, 8, .inl (upd (upd (upd de_f 0 (de2_f 0)) 1 (de2_f 1)) 2 (de2_f 2)))), (p2, .inr (7, [.ref te2, .ref de2, .int (nI p2_2)])), (te2, .inl (E.2.2.1 0, 8, .inl te2_f)), (de2, .inl (E.2.2.1 0, 8, .inl de2_f))]) B 2 rfl (by unfold vp_in; decide) (by rw [show Int32.toNatClampNeg 2 = 2 from by decide]; rfl) dX7_copy_31 ?_
  refine g_iinc (v := 3) (lv' := [(2, .int 3), (0, .ref p), (1, .ref p2)]) B dX7_copy_32 0 rfl (by decide) (by decide) rfl ?_
  refine g_goto (tgt := 2) B dX7_copy_35 (by decide) ?_
  refine g_iload_n B dX7_copy_2 rfl 0 rfl ?_
  refine g_bipush (v := 8) B dX7_copy_3 (by decide) ?_
  refine g_icmp_ge (tgt := 38) B dX7_copy_5 (by decide) (fun h => absurd h (by decide)) (fun c5 => ?_)
  refine g_aload_n B dX7_copy_8 rfl 1 rfl ?_
  refine g_get B 0 0 fl_X7_9 rfl rfl dX7_copy_9 ?_
  refine g_iload_n B dX7_copy_12 rfl 0 rfl ?_
  refine g_aload_n B dX7_copy_13 rfl 2 rfl ?_
  refine g_get B 3 0 fl_X7_9 rfl rfl dX7_copy_14 ?_
  refine g_iload_n B dX7_copy_17 rfl 0 rfl ?_
  refine g_iald B 4 rfl (by unfold vp_in; decide) dX7_copy_18 ?_
  refine g_ri (x' := (te2_f 3)) (congrArg te2_f (by decide)) ?_
  refine g_iast (ws' := [(p, .inr (7, [.ref te, .ref de, .int (nI p_2)])), (te, .inl (E.2.2.1 0, 8, .inl (upd (upd (upd (upd te_f 0 (te2_f 0)) 1 (te2_f 1)) 2 (te2_f 2)) 3 (te2_f 3)))), (de, .inl (E.2.2.1 0, 8, .inl (upd (upd (upd de_f 0 (de2_f 0)) 1 (de2_f 1)) 2 (de2_f 2)))), (p2, .inr (7, [.ref te2, .ref de2, .int (nI p2_2)])), (te2, .inl (E.2.2.1 0, 8, .inl te2_f)), (de2, .inl (E.2.2.1 0, 8, .inl de2_f))]) B 1 rfl (by unfold vp_in; decide) (by rw [show Int32.toNatClampNeg 3 = 3 from by decide]; rfl) dX7_copy_19 ?_
  refine g_aload_n B dX7_copy_20 rfl 1 rfl ?_
  refine g_get B 0 1 fl_X7_15 rfl rfl dX7_copy_21 ?_
  refine g_iload_n B dX7_copy_24 rfl 0 rfl ?_
  refine g_aload_n B dX7_copy_25 rfl 2 rfl ?_
  refine g_get B 3 1 fl_X7_15 rfl rfl dX7_copy_26 ?_
  refine g_iload_n B dX7_copy_29 rfl 0 rfl ?_
  refine g_iald B 5 rfl (by unfold vp_in; decide) dX7_copy_30 ?_
  refine g_ri (x' := (de2_f 3)) (congrArg de2_f (by decide)) ?_
  refine g_iast (ws' := [(p, .inr (7, [.ref te, .ref de, .int (nI p_2)])), (te, .inl (E.2.2.1 0, 8, .inl (upd (upd (upd (upd te_f 0 (te2_f 0)) 1 (te2_f 1)) 2 (te2_f 2)) 3 (te2_f 3)))), (de, .inl (E.2.2.1 0, 8, .inl (upd (upd (upd (upd de_f 0 (de2_f 0)) 1 (de2_f 1)) 2 (de2_f 2)) 3 (de2_f 3)))), (p2, .inr (7, [.ref te2, .ref de2, .int (nI p2_2)])), (te2, .inl (E.2.2.1 0, 8, .inl te2_f)), (de2, .inl (E.2.2.1 0, 8, .inl de2_f))]) B 2 rfl (by unfold vp_in; decide) (by rw [show Int32.toNatClampNeg 3 = 3 from by decide]; rfl) dX7_copy_31 ?_
  refine g_iinc (v := 4) (lv' := [(2, .int 4), (0, .ref p), (1, .ref p2)]) B dX7_copy_32 0 rfl (by decide) (by decide) rfl ?_
  refine g_goto (tgt := 2) B dX7_copy_35 (by decide) ?_
  refine g_iload_n B dX7_copy_2 rfl 0 rfl ?_
  refine g_bipush (v := 8) B dX7_copy_3 (by decide) ?_
  refine g_icmp_ge (tgt := 38) B dX7_copy_5 (by decide) (fun h => absurd h (by decide)) (fun c5 => ?_)
  refine g_aload_n B dX7_copy_8 rfl 1 rfl ?_
  refine g_get B 0 0 fl_X7_9 rfl rfl dX7_copy_9 ?_
  refine g_iload_n B dX7_copy_12 rfl 0 rfl ?_
  refine g_aload_n B dX7_copy_13 rfl 2 rfl ?_
  refine g_get B 3 0 fl_X7_9 rfl rfl dX7_copy_14 ?_
  refine g_iload_n B dX7_copy_17 rfl 0 rfl ?_
  refine g_iald B 4 rfl (by unfold vp_in; decide) dX7_copy_18 ?_
  refine g_ri (x' := (te2_f 4)) (congrArg te2_f (by decide)) ?_
  refine g_iast (ws' := [(p, .inr (7, [.ref te, .ref de, .int (nI p_2)])), (te, .inl (E.2.2.1 0, 8, .inl (upd (upd (upd (upd (upd te_f 0 (te2_f 0)) 1 (te2_f 1)) 2 (te2_f 2)) 3 (te2_f 3)) 4 (te2_f 4)))), (de, .inl (E.2.2.1 0, 8, .inl (upd (upd (upd (upd de_f 0 (de2_f 0)) 1 (de2_f 1)) 2 (de2_f 2)) 3 (de2_f 3)))), (p2, .inr (7, [.ref te2, .ref de2, .int (nI p2_2)])), (te2, .inl (E.2.2.1 0, 8, .inl te2_f)), (de2, .inl (E.2.2.1 0, 8, .inl de2_f))]) B 1 rfl (by unfold vp_in; decide) (by rw [show Int32.toNatClampNeg 4 = 4 from by decide]; rfl) dX7_copy_19 ?_
  refine g_aload_n B dX7_copy_20 rfl 1 rfl ?_
  refine g_get B 0 1 fl_X7_15 rfl rfl dX7_copy_21 ?_
  refine g_iload_n B dX7_copy_24 rfl 0 rfl ?_
  refine g_aload_n B dX7_copy_25 rfl 2 rfl ?_
  refine g_get B 3 1 fl_X7_15 rfl rfl dX7_copy_26 ?_
  refine g_iload_n B dX7_copy_29 rfl 0 rfl ?_
  refine g_iald B 5 rfl (by unfold vp_in; decide) dX7_copy_30 ?_
  refine g_ri (x' := (de2_f 4)) (congrArg de2_f (by decide)) ?_
  refine g_iast (ws' := [(p, .inr (7, [.ref te, .ref de, .int (nI p_2)])), (te, .inl (E.2.2.1 0, 8, .inl (upd (upd (upd (upd (upd te_f 0 (te2_f 0)) 1 (te2_f 1)) 2 (te2_f 2)) 3 (te2_f 3)) 4 (te2_f 4)))), (de, .inl (E.2.2.1 0, 8, .inl (upd (upd (upd (upd (upd de_f 0 (de2_f 0)) 1 (de2_f 1)) 2 (de2_f 2)) 3 (de2_f 3)) 4 (de2_f 4)))), (p2, .inr (7, [.ref te2, .ref de2, .int (nI p2_2)])), (te2, .inl (E.2.2.1 0, 8, .inl te2_f)), (de2, .inl (E.2.2.1 0, 8, .inl de2_f))]) B 2 rfl (by unfold vp_in; decide) (by rw [show Int32.toNatClampNeg 4 = 4 from by decide]; rfl) dX7_copy_31 ?_
  refine g_iinc (v := 5) (lv' := [(2, .int 5), (0, .ref p), (1, .ref p2)]) B dX7_copy_32 0 rfl (by decide) (by decide) rfl ?_
  refine g_goto (tgt := 2) B dX7_copy_35 (by decide) ?_
  refine g_iload_n B dX7_copy_2 rfl 0 rfl ?_
  refine g_bipush (v := 8) B dX7_copy_3 (by decide) ?_
  refine g_icmp_ge (tgt := 38) B dX7_copy_5 (by decide) (fun h => absurd h (by decide)) (fun c5 => ?_)
  refine g_aload_n B dX7_copy_8 rfl 1 rfl ?_
  refine g_get B 0 0 fl_X7_9 rfl rfl dX7_copy_9 ?_
  refine g_iload_n B dX7_copy_12 rfl 0 rfl ?_
  refine g_aload_n B dX7_copy_13 rfl 2 rfl ?_
  refine g_get B 3 0 fl_X7_9 rfl rfl dX7_copy_14 ?_
  refine g_iload_n B dX7_copy_17 rfl 0 rfl ?_
  refine g_iald B 4 rfl (by unfold vp_in; decide) dX7_copy_18 ?_
  refine g_ri (x' := (te2_f 5)) (congrArg te2_f (by decide)) ?_
  refine g_iast (ws' := [(p, .inr (7, [.ref te, .ref de, .int (nI p_2)])), (te, .inl (E.2.2.1 0, 8, .inl (upd (upd (upd (upd (upd (upd te_f 0 (te2_f 0)) 1 (te2_f 1)) 2 (te2_f 2)) 3 (te2_f 3)) 4 (te2_f 4)) 5 (te2_f 5)))), (de, .inl (E.2.2.1 0, 8, .inl (upd (upd (upd (upd (upd de_f 0 (de2_f 0)) 1 (de2_f 1)) 2 (de2_f 2)) 3 (de2_f 3)) 4 (de2_f 4)))), (p2, .inr (7, [.ref te2, .ref de2, .int (nI p2_2)])), (te2, .inl (E.2.2.1 0, 8, .inl te2_f)), (de2, .inl (E.2.2.1 0, 8, .inl de2_f))]) B 1 rfl (by unfold vp_in; decide) (by rw [show Int32.toNatClampNeg 5 = 5 from by decide]; rfl) dX7_copy_19 ?_
  refine g_aload_n B dX7_copy_20 rfl 1 rfl ?_
  refine g_get B 0 1 fl_X7_15 rfl rfl dX7_copy_21 ?_
  refine g_iload_n B dX7_copy_24 rfl 0 rfl ?_
  refine g_aload_n B dX7_copy_25 rfl 2 rfl ?_
  refine g_get B 3 1 fl_X7_15 rfl rfl dX7_copy_26 ?_
  refine g_iload_n B dX7_copy_29 rfl 0 rfl ?_
  refine g_iald B 5 rfl (by unfold vp_in; decide) dX7_copy_30 ?_
  refine g_ri (x' := (de2_f 5)) (congrArg de2_f (by decide)) ?_
  refine g_iast (ws' := [(p, .inr (7, [.ref te, .ref de, .int (nI p_2)])), (te, .inl (E.2.2.1 0, 8, .inl (upd (upd (upd (upd (upd (upd te_f 0 (te2_f 0)) 1 (te2_f 1)) 2 (te2_f 2)) 3 (te2_f 3)) 4 (te2_f 4)) 5 (te2_f 5)))), (de, .inl (E.2.2.1 0, 8, .inl (upd (upd (upd (upd (upd (upd de_f 0 (de2_f 0)) 1 (de2_f 1)) 2 (de2_f 2)) 3 (de2_f 3)) 4 (de2_f 4)) 5 (de2_f 5)))), (p2, .inr (7, [.ref te2, .ref de2, .int (nI p2_2)])), (te2, .inl (E.2.2.1 0, 8, .inl te2_f)), (de2, .inl (E.2.2.1 0, 8, .inl de2_f))]) B 2 rfl (by unfold vp_in; decide) (by rw [show Int32.toNatClampNeg 5 = 5 from by decide]; rfl) dX7_copy_31 ?_
  refine g_iinc (v := 6) (lv' := [(2, .int 6), (0, .ref p), (1, .ref p2)]) B dX7_copy_32 0 rfl (by decide) (by decide) rfl ?_
  refine g_goto (tgt := 2) B dX7_copy_35 (by decide) ?_
  refine g_iload_n B dX7_copy_2 rfl 0 rfl ?_
  refine g_bipush (v := 8) B dX7_copy_3 (by decide) ?_
  refine g_icmp_ge (tgt := 38) B dX7_copy_5 (by decide) (fun h => absurd h (by decide)) (fun c5 => ?_)
  refine g_aload_n B dX7_copy_8 rfl 1 rfl ?_
  refine g_get B 0 0 fl_X7_9 rfl rfl dX7_copy_9 ?_
  refine g_iload_n B dX7_copy_12 rfl 0 rfl ?_
  refine g_aload_n B dX7_copy_13 rfl 2 rfl ?_
  refine g_get B 3 0 fl_X7_9 rfl rfl dX7_copy_14 ?_
  refine g_iload_n B dX7_copy_17 rfl 0 rfl ?_
  refine g_iald B 4 rfl (by unfold vp_in; decide) dX7_copy_18 ?_
  refine g_ri (x' := (te2_f 6)) (congrArg te2_f (by decide)) ?_
  refine g_iast (ws' := [(p, .inr (7, [.ref te, .ref de, .int (nI p_2)])), (te, .inl (E.2.2.1 0, 8, .inl (upd (upd (upd (upd (upd (upd (upd te_f 0 (te2_f 0)) 1 (te2_f 1)) 2 (te2_f 2)) 3 (te2_f 3)) 4 (te2_f 4)) 5 (te2_f 5)) 6 (te2_f 6)))), (de, .inl (E.2.2.1 0, 8, .inl (upd (upd (upd (upd (upd (upd de_f 0 (de2_f 0)) 1 (de2_f 1)) 2 (de2_f 2)) 3 (de2_f 3)) 4 (de2_f 4)) 5 (de2_f 5)))), (p2, .inr (7, [.ref te2, .ref de2, .int (nI p2_2)])), (te2, .inl (E.2.2.1 0, 8, .inl te2_f)), (de2, .inl (E.2.2.1 0, 8, .inl de2_f))]) B 1 rfl (by unfold vp_in; decide) (by rw [show Int32.toNatClampNeg 6 = 6 from by decide]; rfl) dX7_copy_19 ?_
  refine g_aload_n B dX7_copy_20 rfl 1 rfl ?_
  refine g_get B 0 1 fl_X7_15 rfl rfl dX7_copy_21 ?_
  refine g_iload_n B dX7_copy_24 rfl 0 rfl ?_
  refine g_aload_n B dX7_copy_25 rfl 2 rfl ?_
  refine g_get B 3 1 fl_X7_15 rfl rfl dX7_copy_26 ?_
  refine g_iload_n B dX7_copy_29 rfl 0 rfl ?_
  refine g_iald B 5 rfl (by unfold vp_in; decide) dX7_copy_30 ?_
  refine g_ri (x' := (de2_f 6)) (congrArg de2_f (by decide)) ?_
  refine g_iast (ws' := [(p, .inr (7, [.ref te, .ref de, .int (nI p_2)])), (te, .inl (E.2.2.1 0, 8, .inl (upd (upd (upd (upd (upd (upd (upd te_f 0 (te2_f 0)) 1 (te2_f 1)) 2 (te2_f 2)) 3 (te2_f 3)) 4 (te2_f 4)) 5 (te2_f 5)) 6 (te2_f 6)))), (de, .inl (E.2.2.1 0, 8, .inl (upd (upd (upd (upd (upd (upd (upd de_f 0 (de2_f 0)) 1 (de2_f 1)) 2 (de2_f 2)) 3 (de2_f 3)) 4 (de2_f 4)) 5 (de2_f 5)) 6 (de2_f 6)))), (p2, .inr (7, [.ref te2, .ref de2, .int (nI p2_2)])), (te2, .inl (E.2.2.1 0, 8, .inl te2_f)), (de2, .inl (E.2.2.1 0, 8, .inl de2_f))]) B 2 rfl (by unfold vp_in; decide) (by rw [show Int32.toNatClampNeg 6 = 6 from by decide]; rfl) dX7_copy_31 ?_
  refine g_iinc (v := 7) (lv' := [(2, .int 7), (0, .ref p), (1, .ref p2)]) B dX7_copy_32 0 rfl (by decide) (by decide) rfl ?_
  refine g_goto (tgt := 2) B dX7_copy_35 (by decide) ?_
  refine g_iload_n B dX7_copy_2 rfl 0 rfl ?_
  refine g_bipush (v := 8) B dX7_copy_3 (by decide) ?_
  refine g_icmp_ge (tgt := 38) B dX7_copy_5 (by decide) (fun h => absurd h (by decide)) (fun c5 => ?_)
  refine g_aload_n B dX7_copy_8 rfl 1 rfl ?_
  refine g_get B 0 0 fl_X7_9 rfl rfl dX7_copy_9 ?_
  refine g_iload_n B dX7_copy_12 rfl 0 rfl ?_
  refine g_aload_n B dX7_copy_13 rfl 2 rfl ?_
  refine g_get B 3 0 fl_X7_9 rfl rfl dX7_copy_14 ?_
  refine g_iload_n B dX7_copy_17 rfl 0 rfl ?_
  refine g_iald B 4 rfl (by unfold vp_in; decide) dX7_copy_18 ?_
  refine g_ri (x' := (te2_f 7)) (congrArg te2_f (by decide)) ?_
  refine g_iast (ws' := [(p, .inr (7, [.ref te, .ref de, .int (nI p_2)])), (te, .inl (E.2.2.1 0, 8, .inl (upd (upd (upd (upd (upd (upd (upd (upd te_f 0 (te2_f 0)) 1 (te2_f 1)) 2 (te2_f 2)) 3 (te2_f 3)) 4 (te2_f 4)) 5 (te2_f 5)) 6 (te2_f 6)) 7 (te2_f 7)))), (de, .inl (E.2.2.1 0, 8, .inl (upd (upd (upd (upd (upd (upd (upd de_f 0 (de2_f 0)) 1 (de2_f 1)) 2 (de2_f 2)) 3 (de2_f 3)) 4 (de2_f 4)) 5 (de2_f 5)) 6 (de2_f 6)))), (p2, .inr (7, [.ref te2, .ref de2, .int (nI p2_2)])), (te2, .inl (E.2.2.1 0, 8, .inl te2_f)), (de2, .inl (E.2.2.1 0, 8, .inl de2_f))]) B 1 rfl (by unfold vp_in; decide) (by rw [show Int32.toNatClampNeg 7 = 7 from by decide]; rfl) dX7_copy_19 ?_
  refine g_aload_n B dX7_copy_20 rfl 1 rfl ?_
  refine g_get B 0 1 fl_X7_15 rfl rfl dX7_copy_21 ?_
  refine g_iload_n B dX7_copy_24 rfl 0 rfl ?_
  refine g_aload_n B dX7_copy_25 rfl 2 rfl ?_
  refine g_get B 3 1 fl_X7_15 rfl rfl dX7_copy_26 ?_
  refine g_iload_n B dX7_copy_29 rfl 0 rfl ?_
  refine g_iald B 5 rfl (by unfold vp_in; decide) dX7_copy_30 ?_
  refine g_ri (x' := (de2_f 7)) (congrArg de2_f (by decide)) ?_
  refine g_iast (ws' := [(p, .inr (7, [.ref te, .ref de, .int (nI p_2)])), (te, .inl (E.2.2.1 0, 8, .inl (upd (upd (upd (upd (upd (upd (upd (upd te_f 0 (te2_f 0)) 1 (te2_f 1)) 2 (te2_f 2)) 3 (te2_f 3)) 4 (te2_f 4)) 5 (te2_f 5)) 6 (te2_f 6)) 7 (te2_f 7)))), (de, .inl (E.2.2.1 0, 8, .inl (upd (upd (upd (upd (upd (upd (upd (upd de_f 0 (de2_f 0)) 1 (de2_f 1)) 2 (de2_f 2)) 3 (de2_f 3)) 4 (de2_f 4)) 5 (de2_f 5)) 6 (de2_f 6)) 7 (de2_f 7)))), (p2, .inr (7, [.ref te2, .ref de2, .int (nI p2_2)])), (te2, .inl (E.2.2.1 0, 8, .inl te2_f)), (de2, .inl (E.2.2.1 0, 8, .inl de2_f))]) B 2 rfl (by unfold vp_in; decide) (by rw [show Int32.toNatClampNeg 7 = 7 from by decide]; rfl) dX7_copy_31 ?_
  refine g_iinc (v := 8) (lv' := [(2, .int 8), (0, .ref p), (1, .ref p2)]) B dX7_copy_32 0 rfl (by decide) (by decide) rfl ?_
  refine g_goto (tgt := 2) B dX7_copy_35 (by decide) ?_
  refine g_iload_n B dX7_copy_2 rfl 0 rfl ?_
  refine g_bipush (v := 8) B dX7_copy_3 (by decide) ?_
  refine g_icmp_ge (tgt := 38) B dX7_copy_5 (by decide) (fun c5 => ?_) (fun h => absurd (by decide) h)
  refine g_aload_n B dX7_copy_38 rfl 1 rfl ?_
  refine g_aload_n B dX7_copy_39 rfl 2 rfl ?_
  refine g_get B 3 2 fl_X7_18 rfl rfl dX7_copy_40 ?_
  refine g_put (ws' := [(p, .inr (7, [.ref te, .ref de, .int (nI p2_2)])), (te, .inl (E.2.2.1 0, 8, .inl (upd (upd (upd (upd (upd (upd (upd (upd te_f 0 (te2_f 0)) 1 (te2_f 1)) 2 (te2_f 2)) 3 (te2_f 3)) 4 (te2_f 4)) 5 (te2_f 5)) 6 (te2_f 6)) 7 (te2_f 7)))), (de, .inl (E.2.2.1 0, 8, .inl (upd (upd (upd (upd (upd (upd (upd (upd de_f 0 (de2_f 0)) 1 (de2_f 1)) 2 (de2_f 2)) 3 (de2_f 3)) 4 (de2_f 4)) 5 (de2_f 5)) 6 (de2_f 6)) 7 (de2_f 7)))), (p2, .inr (7, [.ref te2, .ref de2, .int (nI p2_2)])), (te2, .inl (E.2.2.1 0, 8, .inl te2_f)), (de2, .inl (E.2.2.1 0, 8, .inl de2_f))]) B 0 2 fl_X7_18 pf_X7_2 rfl (Nat.le_of_ble_eq_true rfl) rfl rfl rfl dX7_copy_43 ?_
  exact g_vret B hr dX7_copy_46 (by decide) (by decide) ⟨p2_2, (upd (upd (upd (upd (upd (upd (upd (upd te_f 0 (te2_f 0)) 1 (te2_f 1)) 2 (te2_f 2)) 3 (te2_f 3)) 4 (te2_f 4)) 5 (te2_f 5)) 6 (te2_f 6)) 7 (te2_f 7)), (upd (upd (upd (upd (upd (upd (upd (upd de_f 0 (de2_f 0)) 1 (de2_f 1)) 2 (de2_f 2)) 3 (de2_f 3)) 4 (de2_f 4)) 5 (de2_f 5)) 6 (de2_f 6)) 7 (de2_f 7)), (by first | assumption | omega | decide), e_, rfl, rfl⟩
abbrev MX6_begin : g_M := (yX6_begin, cX6_begin, 2, none)
theorem dX6_begin_0 : decode cX6_begin 0 = .ok (.aload_n 0, 1) := by decide +kernel
theorem dX6_begin_1 : decode cX6_begin 1 = .ok (.getfield 18, 3) := by decide +kernel
theorem dX6_begin_4 : decode cX6_begin 4 = .ok (.iconst 0, 1) := by decide +kernel
theorem dX6_begin_5 : decode cX6_begin 5 = .ok (.invokestatic 41, 3) := by decide +kernel
theorem w_ml_X6_41 : Cond.methodLink RX6 41 yJ7_fill_53178 ∈ g_tbl := g_tbl_in 466 (by decide +kernel) (by decide +kernel)
theorem w_cd_J7_fill_53178 : g_cw MJ7_fill_53178 ∈ g_tbl := g_tbl_in 468 (by decide +kernel) (by decide +kernel)
theorem w_ini_J7 : Cond.initialized RJ7 ∈ g_tbl := g_tbl_in 81 (by decide +kernel) (by decide +kernel)
theorem cl_X6_41 : CL RX6 41 2 MJ7_fill_53178 := ⟨w_ml_X6_41, w_cd_J7_fill_53178, w_ini_J7, by decide +kernel, by decide +kernel, by decide +kernel⟩
theorem w_sm_J7_fill_53178 : Cond.static yJ7_fill_53178 ∈ g_tbl := g_tbl_in 467 (by decide +kernel) (by decide +kernel)
theorem dX6_begin_8 : decode cX6_begin 8 = .ok (.aload_n 0, 1) := by decide +kernel
theorem dX6_begin_9 : decode cX6_begin 9 = .ok (.getfield 22, 3) := by decide +kernel
theorem dX6_begin_12 : decode cX6_begin 12 = .ok (.iconst 0, 1) := by decide +kernel
theorem dX6_begin_13 : decode cX6_begin 13 = .ok (.invokestatic 41, 3) := by decide +kernel
theorem dX6_begin_16 : decode cX6_begin 16 = .ok (.aload_n 0, 1) := by decide +kernel
theorem dX6_begin_17 : decode cX6_begin 17 = .ok (.iload_n 1, 1) := by decide +kernel
theorem dX6_begin_18 : decode cX6_begin 18 = .ok (.putfield 31, 3) := by decide +kernel
theorem dX6_begin_21 : decode cX6_begin 21 = .ok (.return_, 1) := by decide +kernel
set_option maxRecDepth 100000 in
def fn_wk_X6_begin (we_f : Nat → Int32) (inp_f : Nat → Int32) (cc : Int32) (β : Type) (k_ : Int32 → (Nat → Int32) → (Nat → Int32) → β) : β := (fn_wk_J7_fill_53178 16 we_f 0 β (fun za_f_275 => (fn_wk_J7_fill_53178 128 inp_f 0 β (fun za_f_277 => (k_ cc za_f_275 za_f_277)))))
set_option maxRecDepth 100000 in
theorem fn_wk_X6_begin_s {we_f : Nat → Int32} {inp_f : Nat → Int32} {cc : Int32} {β : Type} {k_ : Int32 → (Nat → Int32) → (Nat → Int32) → β} : fn_wk_X6_begin we_f inp_f cc β k_ = (fn_wk_J7_fill_53178 16 we_f 0 β (fun za_f_275 => (fn_wk_J7_fill_53178 128 inp_f 0 β (fun za_f_277 => (k_ cc za_f_275 za_f_277))))) := rfl
set_option maxRecDepth 100000 in
set_option maxHeartbeats 4000000 in
theorem wk_X6_begin (E : g_E) (ps : Nat) (p : Nat) (we : Nat) (inp : Nat) (ba : Nat) (gu : Nat) (ps_6 : Int32) (ps_7 : Int32) (ps_5 : Int32) (we_f : Nat → Int32) (inp_f : Nat → Int32) (cc : Int32)  : Ev E MX6_begin 1 23 0 0 [.ref ps, .int cc] [(ps, .inr (6, [.ref p, .ref we, .ref inp, .ref ba, .ref gu, .int ps_5, .int ps_6, .int ps_7])), (we, .inl (E.2.2.1 0, 16, .inl we_f)), (inp, .inl (E.2.2.1 0, 128, .inl inp_f))] (fun v_ w_ => ∃ zps_5 : Int32, ∃ zwe_f : Nat → Int32, ∃ zinp_f : Nat → Int32, (∀ (β : Type) (k_ : Int32 → (Nat → Int32) → (Nat → Int32) → β), fn_wk_X6_begin we_f inp_f cc β k_ = k_ zps_5 zwe_f zinp_f) ∧ v_ = none ∧ w_ = [(ps, .inr (6, [.ref p, .ref we, .ref inp, .ref ba, .ref gu, .int zps_5, .int ps_6, .int ps_7])), (we, .inl (E.2.2.1 0, 16, .inl zwe_f)), (inp, .inl (E.2.2.1 0, 128, .inl zinp_f))]) := by
  refine Ev.intro (by decide) (Nat.le_of_ble_eq_true rfl) ?_
  intro X B hr hI
  have B : Bd E X cX6_begin RX6 2 1 23 0 0 := B
  have hr : Rt E X none 0 0 (fun v_ w_ => ∃ zps_5 : Int32, ∃ zwe_f : Nat → Int32, ∃ zinp_f : Nat → Int32, (∀ (β : Type) (k_ : Int32 → (Nat → Int32) → (Nat → Int32) → β), fn_wk_X6_begin we_f inp_f cc β k_ = k_ zps_5 zwe_f zinp_f) ∧ v_ = none ∧ w_ = [(ps, .inr (6, [.ref p, .ref we, .ref inp, .ref ba, .ref gu, .int zps_5, .int ps_6, .int ps_7])), (we, .inl (E.2.2.1 0, 16, .inl zwe_f)), (inp, .inl (E.2.2.1 0, 128, .inl zinp_f))]) := hr
  have e_ := fun (β : Type) (k_ : Int32 → (Nat → Int32) → (Nat → Int32) → β) => fn_wk_X6_begin_s (β := β) (k_ := k_) (we_f := we_f) (inp_f := inp_f) (cc := cc)
  show G E X 2 [(ps, .inr (6, [.ref p, .ref we, .ref inp, .ref ba, .ref gu, .int ps_5, .int ps_6, .int ps_7])), (we, .inl (E.2.2.1 0, 16, .inl we_f)), (inp, .inl (E.2.2.1 0, 128, .inl inp_f))] 0 0 [(0, .ref ps), (1, .int cc)] 0 []
  refine g_aload_n B dX6_begin_0 rfl 0 rfl ?_
  refine g_get B 0 1 fl_X6_18 rfl rfl dX6_begin_1 ?_
  refine g_iconst (v := 0) B dX6_begin_4 (by decide) ?_
  refine g_callS (st := []) (As := [.ref we, .int 0]) (wr := [(ps, .inr (6, [.ref p, .ref we, .ref inp, .ref ba, .ref gu, .int ps_5, .int ps_6, .int ps_7])), (inp, .inl (E.2.2.1 0, 128, .inl inp_f))]) (nc' := 0) (ns' := 0) B cl_X6_41 w_sm_J7_fill_53178 (wk_J7_fill_53178 E we 16 we_f 0 (by first | assumption | omega | decide)) rfl [1] [0, 2] rfl rfl (by decide) (by decide) (by decide) ⟨by decide, by decide⟩ rfl rfl (by decide) (by decide) rfl (Nat.le_of_ble_eq_true rfl) dX6_begin_5 (fun v w hq => ?_)
  obtain ⟨za_f_275, hz_276, rfl, rfl⟩ := hq
  replace e_ := fun β k_ => (e_ β k_).trans (hz_276 β _)
  show G E X 2 [(ps, .inr (6, [.ref p, .ref we, .ref inp, .ref ba, .ref gu, .int ps_5, .int ps_6, .int ps_7])), (inp, .inl (E.2.2.1 0, 128, .inl inp_f)), (we, .inl (E.2.2.1 0, 16, .inl za_f_275))] 0 0 [(0, .ref ps), (1, .int cc)] 8 []
  refine g_aload_n B dX6_begin_8 rfl 0 rfl ?_
  refine g_get B 0 2 fl_X6_22 rfl rfl dX6_begin_9 ?_
  refine g_iconst (v := 0) B dX6_begin_12 (by decide) ?_
  refine g_callS (st := []) (As := [.ref inp, .int 0]) (wr := [(ps, .inr (6, [.ref p, .ref we, .ref inp, .ref ba, .ref gu, .int ps_5, .int ps_6, .int ps_7])), (we, .inl (E.2.2.1 0, 16, .inl za_f_275))]) (nc' := 0) (ns' := 0) B cl_X6_41 w_sm_J7_fill_53178 (wk_J7_fill_53178 E inp 128 inp_f 0 (by first | assumption | omega | decide)) rfl [1] [0, 2] rfl rfl (by decide) (by decide) (by decide) ⟨by decide, by decide⟩ rfl rfl (by decide) (by decide) rfl (Nat.le_of_ble_eq_true rfl) dX6_begin_13 (fun v w hq => ?_)
  obtain ⟨za_f_277, hz_278, rfl, rfl⟩ := hq
  replace e_ := fun β k_ => (e_ β k_).trans (hz_278 β _)
  show G E X 2 [(ps, .inr (6, [.ref p, .ref we, .ref inp, .ref ba, .ref gu, .int ps_5, .int ps_6, .int ps_7])), (we, .inl (E.2.2.1 0, 16, .inl za_f_275)), (inp, .inl (E.2.2.1 0, 128, .inl za_f_277))] 0 0 [(0, .ref ps), (1, .int cc)] 16 []
  refine g_aload_n B dX6_begin_16 rfl 0 rfl ?_
  refine g_iload_n B dX6_begin_17 rfl 1 rfl ?_
  refine g_put (ws' := [(ps, .inr (6, [.ref p, .ref we, .ref inp, .ref ba, .ref gu, .int cc, .int ps_6, .int ps_7])), (we, .inl (E.2.2.1 0, 16, .inl za_f_275)), (inp, .inl (E.2.2.1 0, 128, .inl za_f_277))]) B 0 5 fl_X6_31 pf_X6_5 rfl (Nat.le_of_ble_eq_true rfl) rfl rfl rfl dX6_begin_18 ?_
  exact g_vret B hr dX6_begin_21 (by decide) (by decide) ⟨cc, za_f_275, za_f_277, e_, rfl, rfl⟩
abbrev MX6_track : g_M := (yX6_track, cX6_track, 3, (some .int))
theorem dX6_track_0 : decode cX6_track 0 = .ok (.iload_n 1, 1) := by decide +kernel
theorem dX6_track_1 : decode cX6_track 1 = .ok (.bipush 7, 2) := by decide +kernel
theorem dX6_track_3 : decode cX6_track 3 = .ok (.iand, 1) := by decide +kernel
theorem dX6_track_4 : decode cX6_track 4 = .ok (.iconst 2, 1) := by decide +kernel
theorem dX6_track_5 : decode cX6_track 5 = .ok (.imul, 1) := by decide +kernel
theorem dX6_track_6 : decode cX6_track 6 = .ok (.iload_n 2, 1) := by decide +kernel
theorem dX6_track_7 : decode cX6_track 7 = .ok (.iconst 1, 1) := by decide +kernel
theorem dX6_track_8 : decode cX6_track 8 = .ok (.iand, 1) := by decide +kernel
theorem dX6_track_9 : decode cX6_track 9 = .ok (.iadd, 1) := by decide +kernel
theorem dX6_track_10 : decode cX6_track 10 = .ok (.ireturn, 1) := by decide +kernel
set_option maxRecDepth 100000 in
set_option maxHeartbeats 4000000 in
theorem ev_X6_track (E : g_E) (ps : Nat) (p : Nat) (we : Nat) (inp : Nat) (ba : Nat) (gu : Nat) (f5 : Int32) (f6 : Int32) (f7 : Int32) (pp : Int32) (oc : Int32)  : Ev E MX6_track 0 0 0 0 [.ref ps, .int pp, .int oc] [(ps, .inr (6, [.ref p, .ref we, .ref inp, .ref ba, .ref gu, .int f5, .int f6, .int f7]))] (fun v_ w_ => v_ = some (.int (((pp &&& 7) * 2) + (oc &&& 1))) ∧ w_ = [(ps, .inr (6, [.ref p, .ref we, .ref inp, .ref ba, .ref gu, .int f5, .int f6, .int f7]))]) := by
  refine Ev.intro (by decide) (Nat.le_of_ble_eq_true rfl) ?_
  intro X B hr hI
  have B : Bd E X cX6_track RX6 3 0 0 0 0 := B
  have hr : Rt E X (some .int) 0 0 (fun v_ w_ => v_ = some (.int (((pp &&& 7) * 2) + (oc &&& 1))) ∧ w_ = [(ps, .inr (6, [.ref p, .ref we, .ref inp, .ref ba, .ref gu, .int f5, .int f6, .int f7]))]) := hr
  show G E X 3 [(ps, .inr (6, [.ref p, .ref we, .ref inp, .ref ba, .ref gu, .int f5, .int f6, .int f7]))] 0 0 [(0, .ref ps), (1, .int pp), (2, .int oc)] 0 []
  refine g_iload_n B dX6_track_0 rfl 1 rfl ?_
  refine g_bipush (v := 7) B dX6_track_1 (by decide) ?_
  refine g_iand B dX6_track_3 ?_
  refine g_iconst (v := 2) B dX6_track_4 (by decide) ?_
  refine g_imul B dX6_track_5 ?_
  refine g_iload_n B dX6_track_6 rfl 2 rfl ?_
  refine g_iconst (v := 1) B dX6_track_7 (by decide) ?_
  refine g_iand B dX6_track_8 ?_
  refine g_iadd B dX6_track_9 ?_
  exact g_iret B hr dX6_track_10 (by decide) (by decide) ⟨rfl, rfl⟩
abbrev MX6_slot : g_M := (yX6_slot, cX6_slot, 4, (some .int))
theorem dX6_slot_0 : decode cX6_slot 0 = .ok (.iload_n 1, 1) := by decide +kernel
theorem dX6_slot_1 : decode cX6_slot 1 = .ok (.bipush 7, 2) := by decide +kernel
theorem dX6_slot_3 : decode cX6_slot 3 = .ok (.iand, 1) := by decide +kernel
theorem dX6_slot_4 : decode cX6_slot 4 = .ok (.bipush 16, 2) := by decide +kernel
theorem dX6_slot_6 : decode cX6_slot 6 = .ok (.imul, 1) := by decide +kernel
theorem dX6_slot_7 : decode cX6_slot 7 = .ok (.iload_n 2, 1) := by decide +kernel
theorem dX6_slot_8 : decode cX6_slot 8 = .ok (.iconst 1, 1) := by decide +kernel
theorem dX6_slot_9 : decode cX6_slot 9 = .ok (.iand, 1) := by decide +kernel
theorem dX6_slot_10 : decode cX6_slot 10 = .ok (.bipush 8, 2) := by decide +kernel
theorem dX6_slot_12 : decode cX6_slot 12 = .ok (.imul, 1) := by decide +kernel
theorem dX6_slot_13 : decode cX6_slot 13 = .ok (.iadd, 1) := by decide +kernel
theorem dX6_slot_14 : decode cX6_slot 14 = .ok (.aload_n 0, 1) := by decide +kernel
theorem dX6_slot_15 : decode cX6_slot 15 = .ok (.getfield 35, 3) := by decide +kernel
theorem dX6_slot_18 : decode cX6_slot 18 = .ok (.iload_n 3, 1) := by decide +kernel
theorem dX6_slot_19 : decode cX6_slot 19 = .ok (.isub, 1) := by decide +kernel
theorem dX6_slot_20 : decode cX6_slot 20 = .ok (.bipush 7, 2) := by decide +kernel
theorem dX6_slot_22 : decode cX6_slot 22 = .ok (.iand, 1) := by decide +kernel
theorem dX6_slot_23 : decode cX6_slot 23 = .ok (.iadd, 1) := by decide +kernel
theorem dX6_slot_24 : decode cX6_slot 24 = .ok (.ireturn, 1) := by decide +kernel
set_option maxRecDepth 100000 in
set_option maxHeartbeats 4000000 in
theorem ev_X6_slot (E : g_E) (ps : Nat) (p : Nat) (we : Nat) (inp : Nat) (ba : Nat) (gu : Nat) (f5 : Int32) (f6 : Int32) (f7 : Int32) (pp : Int32) (oc : Int32) (ago : Int32)  : Ev E MX6_slot 0 0 0 0 [.ref ps, .int pp, .int oc, .int ago] [(ps, .inr (6, [.ref p, .ref we, .ref inp, .ref ba, .ref gu, .int f5, .int f6, .int f7]))] (fun v_ w_ => v_ = some (.int ((((pp &&& 7) * 16) + ((oc &&& 1) * 8)) + ((f6 - ago) &&& 7))) ∧ w_ = [(ps, .inr (6, [.ref p, .ref we, .ref inp, .ref ba, .ref gu, .int f5, .int f6, .int f7]))]) := by
  refine Ev.intro (by decide) (Nat.le_of_ble_eq_true rfl) ?_
  intro X B hr hI
  have B : Bd E X cX6_slot RX6 4 0 0 0 0 := B
  have hr : Rt E X (some .int) 0 0 (fun v_ w_ => v_ = some (.int ((((pp &&& 7) * 16) + ((oc &&& 1) * 8)) + ((f6 - ago) &&& 7))) ∧ w_ = [(ps, .inr (6, [.ref p, .ref we, .ref inp, .ref ba, .ref gu, .int f5, .int f6, .int f7]))]) := hr
  show G E X 4 [(ps, .inr (6, [.ref p, .ref we, .ref inp, .ref ba, .ref gu, .int f5, .int f6, .int f7]))] 0 0 [(0, .ref ps), (1, .int pp), (2, .int oc), (3, .int ago)] 0 []
  refine g_iload_n B dX6_slot_0 rfl 1 rfl ?_
  refine g_bipush (v := 7) B dX6_slot_1 (by decide) ?_
  refine g_iand B dX6_slot_3 ?_
  refine g_bipush (v := 16) B dX6_slot_4 (by decide) ?_
  refine g_imul B dX6_slot_6 ?_
  refine g_iload_n B dX6_slot_7 rfl 2 rfl ?_
  refine g_iconst (v := 1) B dX6_slot_8 (by decide) ?_
  refine g_iand B dX6_slot_9 ?_
  refine g_bipush (v := 8) B dX6_slot_10 (by decide) ?_
  refine g_imul B dX6_slot_12 ?_
  refine g_iadd B dX6_slot_13 ?_
  refine g_aload_n B dX6_slot_14 rfl 0 rfl ?_
  refine g_get B 0 6 fl_X6_35 rfl rfl dX6_slot_15 ?_
  refine g_iload_n B dX6_slot_18 rfl 3 rfl ?_
  refine g_isub B dX6_slot_19 ?_
  refine g_bipush (v := 7) B dX6_slot_20 (by decide) ?_
  refine g_iand B dX6_slot_22 ?_
  refine g_iadd B dX6_slot_23 ?_
  exact g_iret B hr dX6_slot_24 (by decide) (by decide) ⟨rfl, rfl⟩
abbrev MX6_weightOf : g_M := (yX6_weightOf, cX6_weightOf, 3, (some .int))
theorem dX6_weightOf_0 : decode cX6_weightOf 0 = .ok (.aload_n 0, 1) := by decide +kernel
theorem dX6_weightOf_1 : decode cX6_weightOf 1 = .ok (.getfield 18, 3) := by decide +kernel
theorem dX6_weightOf_4 : decode cX6_weightOf 4 = .ok (.aload_n 0, 1) := by decide +kernel
theorem dX6_weightOf_5 : decode cX6_weightOf 5 = .ok (.iload_n 1, 1) := by decide +kernel
theorem dX6_weightOf_6 : decode cX6_weightOf 6 = .ok (.iload_n 2, 1) := by decide +kernel
theorem dX6_weightOf_7 : decode cX6_weightOf 7 = .ok (.invokevirtual 78, 3) := by decide +kernel
theorem w_ml_X6_78 : Cond.methodLink RX6 78 yX6_track ∈ g_tbl := g_tbl_in 529 (by decide +kernel) (by decide +kernel)
theorem w_cd_X6_track : g_cw MX6_track ∈ g_tbl := g_tbl_in 532 (by decide +kernel) (by decide +kernel)
theorem cl_X6_78 : CL RX6 78 2 MX6_track := ⟨w_ml_X6_78, w_cd_X6_track, w_ini_X6, by decide +kernel, by decide +kernel, by decide +kernel⟩
theorem w_im_X6_track : Cond.instanceMethod yX6_track ∈ g_tbl := g_tbl_in 531 (by decide +kernel) (by decide +kernel)
theorem w_se_X6_track : Cond.selects RX6 yX6_track yX6_track ∈ g_tbl := g_tbl_in 7 (by decide +kernel) (by decide +kernel)
theorem dX6_weightOf_10 : decode cX6_weightOf 10 = .ok (.iaload, 1) := by decide +kernel
theorem dX6_weightOf_11 : decode cX6_weightOf 11 = .ok (.ireturn, 1) := by decide +kernel
set_option maxRecDepth 100000 in
def fn_wk_X6_weightOf (we_f : Nat → Int32) (pp : Int32) (oc : Int32) (β : Type) (k_ : Int32 → β) : β := (k_ (we_f (Int32.toNatClampNeg (((pp &&& 7) * 2) + (oc &&& 1)))))
set_option maxRecDepth 100000 in
theorem fn_wk_X6_weightOf_s {we_f : Nat → Int32} {pp : Int32} {oc : Int32} {β : Type} {k_ : Int32 → β} : fn_wk_X6_weightOf we_f pp oc β k_ = (k_ (we_f (Int32.toNatClampNeg (((pp &&& 7) * 2) + (oc &&& 1))))) := rfl
set_option maxRecDepth 100000 in
set_option maxHeartbeats 4000000 in
theorem wk_X6_weightOf (E : g_E) (ps : Nat) (p : Nat) (we : Nat) (inp : Nat) (ba : Nat) (gu : Nat) (ps_5 : Int32) (ps_6 : Int32) (ps_7 : Int32) (we_f : Nat → Int32) (pp : Int32) (oc : Int32)  : Ev E MX6_weightOf 1 22 0 0 [.ref ps, .int pp, .int oc] [(ps, .inr (6, [.ref p, .ref we, .ref inp, .ref ba, .ref gu, .int ps_5, .int ps_6, .int ps_7])), (we, .inl (E.2.2.1 0, 16, .inl we_f))] (fun v_ w_ => ∃ zr : Int32, (∀ (β : Type) (k_ : Int32 → β), fn_wk_X6_weightOf we_f pp oc β k_ = k_ zr) ∧ v_ = some (.int zr) ∧ w_ = [(ps, .inr (6, [.ref p, .ref we, .ref inp, .ref ba, .ref gu, .int ps_5, .int ps_6, .int ps_7])), (we, .inl (E.2.2.1 0, 16, .inl we_f))]) := by
  refine Ev.intro (by decide) (Nat.le_of_ble_eq_true rfl) ?_
  intro X B hr hI
  have B : Bd E X cX6_weightOf RX6 3 1 22 0 0 := B
  have hr : Rt E X (some .int) 0 0 (fun v_ w_ => ∃ zr : Int32, (∀ (β : Type) (k_ : Int32 → β), fn_wk_X6_weightOf we_f pp oc β k_ = k_ zr) ∧ v_ = some (.int zr) ∧ w_ = [(ps, .inr (6, [.ref p, .ref we, .ref inp, .ref ba, .ref gu, .int ps_5, .int ps_6, .int ps_7])), (we, .inl (E.2.2.1 0, 16, .inl we_f))]) := hr
  have e_ := fun (β : Type) (k_ : Int32 → β) => fn_wk_X6_weightOf_s (β := β) (k_ := k_) (we_f := we_f) (pp := pp) (oc := oc)
  show G E X 3 [(ps, .inr (6, [.ref p, .ref we, .ref inp, .ref ba, .ref gu, .int ps_5, .int ps_6, .int ps_7])), (we, .inl (E.2.2.1 0, 16, .inl we_f))] 0 0 [(0, .ref ps), (1, .int pp), (2, .int oc)] 0 []
  refine g_aload_n B dX6_weightOf_0 rfl 0 rfl ?_
  refine g_get B 0 1 fl_X6_18 rfl rfl dX6_weightOf_1 ?_
  refine g_aload_n B dX6_weightOf_4 rfl 0 rfl ?_
  refine g_iload_n B dX6_weightOf_5 rfl 1 rfl ?_
  refine g_iload_n B dX6_weightOf_6 rfl 2 rfl ?_
  refine g_callV (st := [.ref we]) (As := [.int pp, .int oc]) (wr := [(we, .inl (E.2.2.1 0, 16, .inl we_f))]) (nc' := 0) (ns' := 0) B cl_X6_78 w_im_X6_track w_se_X6_track (ev_X6_track E ps p we inp ba gu ps_5 ps_6 ps_7 pp oc ) rfl [0] [1] rfl rfl (by decide) (by decide) (by decide) 0 rfl (fun q h => by cases h; rfl) rfl ⟨by decide, by decide⟩ rfl rfl (by decide) (by decide) rfl (Nat.le_of_ble_eq_true rfl) dX6_weightOf_7 (fun v w hq => ?_)
  obtain ⟨rfl, rfl⟩ := hq
  show G E X 3 [(we, .inl (E.2.2.1 0, 16, .inl we_f)), (ps, .inr (6, [.ref p, .ref we, .ref inp, .ref ba, .ref gu, .int ps_5, .int ps_6, .int ps_7]))] 0 0 [(0, .ref ps), (1, .int pp), (2, .int oc)] 10 [.int (((pp &&& 7) * 2) + (oc &&& 1)), .ref we]
  refine g_iald B 0 rfl (in_tr _ _) dX6_weightOf_10 ?_
  refine g_sub (ws' := [(ps, .inr (6, [.ref p, .ref we, .ref inp, .ref ba, .ref gu, .int ps_5, .int ps_6, .int ps_7])), (we, .inl (E.2.2.1 0, 16, .inl we_f))]) [1, 0] (by decide) rfl ?_
  exact g_iret B hr dX6_weightOf_11 (by decide) (by decide) ⟨(we_f (Int32.toNatClampNeg (((pp &&& 7) * 2) + (oc &&& 1)))), e_, rfl, rfl⟩
abbrev MX6_moveWeight : g_M := (yX6_moveWeight, cX6_moveWeight, 4, none)
theorem dX6_moveWeight_0 : decode cX6_moveWeight 0 = .ok (.aload_n 0, 1) := by decide +kernel
theorem dX6_moveWeight_1 : decode cX6_moveWeight 1 = .ok (.iload_n 1, 1) := by decide +kernel
theorem dX6_moveWeight_2 : decode cX6_moveWeight 2 = .ok (.aload_n 0, 1) := by decide +kernel
theorem dX6_moveWeight_3 : decode cX6_moveWeight 3 = .ok (.getfield 38, 3) := by decide +kernel
theorem dX6_moveWeight_6 : decode cX6_moveWeight 6 = .ok (.invokevirtual 78, 3) := by decide +kernel
theorem dX6_moveWeight_9 : decode cX6_moveWeight 9 = .ok (.istore_n 3, 1) := by decide +kernel
theorem dX6_moveWeight_10 : decode cX6_moveWeight 10 = .ok (.aload_n 0, 1) := by decide +kernel
theorem dX6_moveWeight_11 : decode cX6_moveWeight 11 = .ok (.getfield 18, 3) := by decide +kernel
theorem dX6_moveWeight_14 : decode cX6_moveWeight 14 = .ok (.iload_n 3, 1) := by decide +kernel
theorem dX6_moveWeight_15 : decode cX6_moveWeight 15 = .ok (.sipush (-1024), 3) := by decide +kernel
theorem dX6_moveWeight_18 : decode cX6_moveWeight 18 = .ok (.sipush 1024, 3) := by decide +kernel
theorem dX6_moveWeight_21 : decode cX6_moveWeight 21 = .ok (.aload_n 0, 1) := by decide +kernel
theorem dX6_moveWeight_22 : decode cX6_moveWeight 22 = .ok (.getfield 18, 3) := by decide +kernel
theorem dX6_moveWeight_25 : decode cX6_moveWeight 25 = .ok (.iload_n 3, 1) := by decide +kernel
theorem dX6_moveWeight_26 : decode cX6_moveWeight 26 = .ok (.iaload, 1) := by decide +kernel
theorem dX6_moveWeight_27 : decode cX6_moveWeight 27 = .ok (.iload_n 2, 1) := by decide +kernel
theorem dX6_moveWeight_28 : decode cX6_moveWeight 28 = .ok (.iadd, 1) := by decide +kernel
theorem dX6_moveWeight_29 : decode cX6_moveWeight 29 = .ok (.invokestatic 62, 3) := by decide +kernel
theorem w_mlm_X6_62 : Cond.methodLink RX6 62 Lib.Math.min.name ∈ g_tbl := g_tbl_in 538 (by decide +kernel) (by decide +kernel)
theorem w_smm_min_II_I : Cond.static Lib.Math.min.name ∈ g_tbl := g_tbl_in 539 (by decide +kernel) (by decide +kernel)
theorem w_cdm_min_II_I : Cond.code Lib.Math.min.name Lib.Math.min.code 2 (some .int) ∈ g_tbl := g_tbl_in 540 (by decide +kernel) (by decide +kernel)
theorem dX6_moveWeight_32 : decode cX6_moveWeight 32 = .ok (.invokestatic 81, 3) := by decide +kernel
theorem w_mlm_X6_81 : Cond.methodLink RX6 81 Lib.Math.max.name ∈ g_tbl := g_tbl_in 545 (by decide +kernel) (by decide +kernel)
theorem dX6_moveWeight_35 : decode cX6_moveWeight 35 = .ok (.iastore, 1) := by decide +kernel
theorem dX6_moveWeight_36 : decode cX6_moveWeight 36 = .ok (.return_, 1) := by decide +kernel
set_option maxRecDepth 100000 in
def fn_wk_X6_moveWeight (ps_7 : Int32) (we_f : Nat → Int32) (pp : Int32) (by_ : Int32) (β : Type) (k_ : (Nat → Int32) → β) : β := (fnL (if (-1024) < (if ((we_f (Int32.toNatClampNeg (((pp &&& 7) * 2) + (ps_7 &&& 1)))) + by_) < 1024 then ((we_f (Int32.toNatClampNeg (((pp &&& 7) * 2) + (ps_7 &&& 1)))) + by_) else 1024) then (if ((we_f (Int32.toNatClampNeg (((pp &&& 7) * 2) + (ps_7 &&& 1)))) + by_) < 1024 then ((we_f (Int32.toNatClampNeg (((pp &&& 7) * 2) + (ps_7 &&& 1)))) + by_) else 1024) else (-1024)) (fun x_281 => (k_ (upd we_f (Int32.toNatClampNeg (((pp &&& 7) * 2) + (ps_7 &&& 1))) x_281))))
set_option maxRecDepth 100000 in
theorem fn_wk_X6_moveWeight_s {ps_7 : Int32} {we_f : Nat → Int32} {pp : Int32} {by_ : Int32} {β : Type} {k_ : (Nat → Int32) → β} : fn_wk_X6_moveWeight ps_7 we_f pp by_ β k_ = (fnL (if (-1024) < (if ((we_f (Int32.toNatClampNeg (((pp &&& 7) * 2) + (ps_7 &&& 1)))) + by_) < 1024 then ((we_f (Int32.toNatClampNeg (((pp &&& 7) * 2) + (ps_7 &&& 1)))) + by_) else 1024) then (if ((we_f (Int32.toNatClampNeg (((pp &&& 7) * 2) + (ps_7 &&& 1)))) + by_) < 1024 then ((we_f (Int32.toNatClampNeg (((pp &&& 7) * 2) + (ps_7 &&& 1)))) + by_) else 1024) else (-1024)) (fun x_281 => (k_ (upd we_f (Int32.toNatClampNeg (((pp &&& 7) * 2) + (ps_7 &&& 1))) x_281)))) := rfl
set_option maxRecDepth 100000 in
set_option maxHeartbeats 4000000 in
theorem wk_X6_moveWeight (E : g_E) (ps : Nat) (p : Nat) (we : Nat) (inp : Nat) (ba : Nat) (gu : Nat) (ps_5 : Int32) (ps_6 : Int32) (ps_7 : Int32) (we_f : Nat → Int32) (pp : Int32) (by_ : Int32)  : Ev E MX6_moveWeight 1 23 0 0 [.ref ps, .int pp, .int by_] [(ps, .inr (6, [.ref p, .ref we, .ref inp, .ref ba, .ref gu, .int ps_5, .int ps_6, .int ps_7])), (we, .inl (E.2.2.1 0, 16, .inl we_f))] (fun v_ w_ => ∃ zwe_f : Nat → Int32, (∀ (β : Type) (k_ : (Nat → Int32) → β), fn_wk_X6_moveWeight ps_7 we_f pp by_ β k_ = k_ zwe_f) ∧ v_ = none ∧ w_ = [(ps, .inr (6, [.ref p, .ref we, .ref inp, .ref ba, .ref gu, .int ps_5, .int ps_6, .int ps_7])), (we, .inl (E.2.2.1 0, 16, .inl zwe_f))]) := by
  refine Ev.intro (by decide) (Nat.le_of_ble_eq_true rfl) ?_
  intro X B hr hI
  have B : Bd E X cX6_moveWeight RX6 4 1 23 0 0 := B
  have hr : Rt E X none 0 0 (fun v_ w_ => ∃ zwe_f : Nat → Int32, (∀ (β : Type) (k_ : (Nat → Int32) → β), fn_wk_X6_moveWeight ps_7 we_f pp by_ β k_ = k_ zwe_f) ∧ v_ = none ∧ w_ = [(ps, .inr (6, [.ref p, .ref we, .ref inp, .ref ba, .ref gu, .int ps_5, .int ps_6, .int ps_7])), (we, .inl (E.2.2.1 0, 16, .inl zwe_f))]) := hr
  have e_ := fun (β : Type) (k_ : (Nat → Int32) → β) => fn_wk_X6_moveWeight_s (β := β) (k_ := k_) (ps_7 := ps_7) (we_f := we_f) (pp := pp) (by_ := by_)
  show G E X 4 [(ps, .inr (6, [.ref p, .ref we, .ref inp, .ref ba, .ref gu, .int ps_5, .int ps_6, .int ps_7])), (we, .inl (E.2.2.1 0, 16, .inl we_f))] 0 0 [(0, .ref ps), (1, .int pp), (2, .int by_)] 0 []
  refine g_aload_n B dX6_moveWeight_0 rfl 0 rfl ?_
  refine g_iload_n B dX6_moveWeight_1 rfl 1 rfl ?_
  refine g_aload_n B dX6_moveWeight_2 rfl 0 rfl ?_
  refine g_get B 0 7 fl_X6_38 rfl rfl dX6_moveWeight_3 ?_
  refine g_callV (st := []) (As := [.int pp, .int ps_7]) (wr := [(we, .inl (E.2.2.1 0, 16, .inl we_f))]) (nc' := 0) (ns' := 0) B cl_X6_78 w_im_X6_track w_se_X6_track (ev_X6_track E ps p we inp ba gu ps_5 ps_6 ps_7 pp ps_7 ) rfl [0] [1] rfl rfl (by decide) (by decide) (by decide) 0 rfl (fun q h => by cases h; rfl) rfl ⟨by decide, by decide⟩ rfl rfl (by decide) (by decide) rfl (Nat.le_of_ble_eq_true rfl) dX6_moveWeight_6 (fun v w hq => ?_)
  obtain ⟨rfl, rfl⟩ := hq
  show G E X 4 [(we, .inl (E.2.2.1 0, 16, .inl we_f)), (ps, .inr (6, [.ref p, .ref we, .ref inp, .ref ba, .ref gu, .int ps_5, .int ps_6, .int ps_7]))] 0 0 [(0, .ref ps), (1, .int pp), (2, .int by_)] 9 [.int (((pp &&& 7) * 2) + (ps_7 &&& 1))]
  refine g_istore_n (lv' := [(3, .int (((pp &&& 7) * 2) + (ps_7 &&& 1))), (0, .ref ps), (1, .int pp), (2, .int by_)]) B dX6_moveWeight_9 rfl (by decide) rfl ?_
  refine g_aload_n B dX6_moveWeight_10 rfl 1 rfl ?_
  refine g_get B 1 1 fl_X6_18 rfl rfl dX6_moveWeight_11 ?_
  refine g_iload_n B dX6_moveWeight_14 rfl 0 rfl ?_
  refine g_sipush (v := (-1024)) B dX6_moveWeight_15 (by decide) ?_
  refine g_sipush (v := 1024) B dX6_moveWeight_18 (by decide) ?_
  refine g_aload_n B dX6_moveWeight_21 rfl 1 rfl ?_
  refine g_get B 1 1 fl_X6_18 rfl rfl dX6_moveWeight_22 ?_
  refine g_iload_n B dX6_moveWeight_25 rfl 0 rfl ?_
  refine g_iald B 0 rfl (in_tr _ _) dX6_moveWeight_26 ?_
  refine g_iload_n B dX6_moveWeight_27 rfl 3 rfl ?_
  refine g_iadd B dX6_moveWeight_28 ?_
  refine g_mmin B w_mlm_X6_62 w_smm_min_II_I w_ini_Math w_cdm_min_II_I (by decide) (Nat.le_of_ble_eq_true rfl) (by decide) (by decide) dX6_moveWeight_29 ?_
  refine g_mmax B w_mlm_X6_81 w_smm_max_II_I w_ini_Math w_cdm_max_II_I (by decide) (Nat.le_of_ble_eq_true rfl) (by decide) (by decide) dX6_moveWeight_32 ?_
  refine g_topi (fun x_281 ex_281 => ?_)
  replace e_ := fun β k_ => (e_ β k_).trans (fnL_eq (x := x_281) ex_281.symm _)
  refine g_iast (ws' := [(we, .inl (E.2.2.1 0, 16, .inl (upd we_f (Int32.toNatClampNeg (((pp &&& 7) * 2) + (ps_7 &&& 1))) x_281))), (ps, .inr (6, [.ref p, .ref we, .ref inp, .ref ba, .ref gu, .int ps_5, .int ps_6, .int ps_7]))]) B 0 rfl (in_tr _ _) rfl dX6_moveWeight_35 ?_
  refine g_sub (ws' := [(ps, .inr (6, [.ref p, .ref we, .ref inp, .ref ba, .ref gu, .int ps_5, .int ps_6, .int ps_7])), (we, .inl (E.2.2.1 0, 16, .inl (upd we_f (Int32.toNatClampNeg (((pp &&& 7) * 2) + (ps_7 &&& 1))) x_281)))]) [1, 0] (by decide) rfl ?_
  exact g_vret B hr dX6_moveWeight_36 (by decide) (by decide) ⟨(upd we_f (Int32.toNatClampNeg (((pp &&& 7) * 2) + (ps_7 &&& 1))) x_281), e_, rfl, rfl⟩
abbrev MX6_baseOf : g_M := (yX6_baseOf, cX6_baseOf, 5, (some .int))
theorem dX6_baseOf_0 : decode cX6_baseOf 0 = .ok (.iload_n 2, 1) := by decide +kernel
theorem dX6_baseOf_1 : decode cX6_baseOf 1 = .ok (.ifCond .ge 13, 3) := by decide +kernel
theorem dX6_baseOf_14 : decode cX6_baseOf 14 = .ok (.iload_n 2, 1) := by decide +kernel
theorem dX6_baseOf_15 : decode cX6_baseOf 15 = .ok (.ifCond .ge 40, 3) := by decide +kernel
theorem dX6_baseOf_55 : decode cX6_baseOf 55 = .ok (.iload_n 2, 1) := by decide +kernel
theorem dX6_baseOf_56 : decode cX6_baseOf 56 = .ok (.bipush 8, 2) := by decide +kernel
theorem dX6_baseOf_58 : decode cX6_baseOf 58 = .ok (.if_icmp .gt 19, 3) := by decide +kernel
theorem dX6_baseOf_77 : decode cX6_baseOf 77 = .ok (.aload_n 0, 1) := by decide +kernel
theorem dX6_baseOf_78 : decode cX6_baseOf 78 = .ok (.getfield 22, 3) := by decide +kernel
theorem dX6_baseOf_81 : decode cX6_baseOf 81 = .ok (.aload_n 0, 1) := by decide +kernel
theorem dX6_baseOf_82 : decode cX6_baseOf 82 = .ok (.iload_n 1, 1) := by decide +kernel
theorem dX6_baseOf_83 : decode cX6_baseOf 83 = .ok (.aload_n 0, 1) := by decide +kernel
theorem dX6_baseOf_84 : decode cX6_baseOf 84 = .ok (.getfield 38, 3) := by decide +kernel
theorem dX6_baseOf_87 : decode cX6_baseOf 87 = .ok (.iconst 1, 1) := by decide +kernel
theorem dX6_baseOf_88 : decode cX6_baseOf 88 = .ok (.invokevirtual 74, 3) := by decide +kernel
theorem w_ml_X6_74 : Cond.methodLink RX6 74 yX6_slot ∈ g_tbl := g_tbl_in 521 (by decide +kernel) (by decide +kernel)
theorem w_cd_X6_slot : g_cw MX6_slot ∈ g_tbl := g_tbl_in 524 (by decide +kernel) (by decide +kernel)
theorem cl_X6_74 : CL RX6 74 3 MX6_slot := ⟨w_ml_X6_74, w_cd_X6_slot, w_ini_X6, by decide +kernel, by decide +kernel, by decide +kernel⟩
theorem w_im_X6_slot : Cond.instanceMethod yX6_slot ∈ g_tbl := g_tbl_in 523 (by decide +kernel) (by decide +kernel)
theorem w_se_X6_slot : Cond.selects RX6 yX6_slot yX6_slot ∈ g_tbl := g_tbl_in 6 (by decide +kernel) (by decide +kernel)
theorem dX6_baseOf_91 : decode cX6_baseOf 91 = .ok (.iaload, 1) := by decide +kernel
theorem dX6_baseOf_92 : decode cX6_baseOf 92 = .ok (.istore_n 3, 1) := by decide +kernel
theorem dX6_baseOf_93 : decode cX6_baseOf 93 = .ok (.aload_n 0, 1) := by decide +kernel
theorem dX6_baseOf_94 : decode cX6_baseOf 94 = .ok (.getfield 22, 3) := by decide +kernel
theorem dX6_baseOf_97 : decode cX6_baseOf 97 = .ok (.aload_n 0, 1) := by decide +kernel
theorem dX6_baseOf_98 : decode cX6_baseOf 98 = .ok (.iload_n 1, 1) := by decide +kernel
theorem dX6_baseOf_99 : decode cX6_baseOf 99 = .ok (.aload_n 0, 1) := by decide +kernel
theorem dX6_baseOf_100 : decode cX6_baseOf 100 = .ok (.getfield 38, 3) := by decide +kernel
theorem dX6_baseOf_103 : decode cX6_baseOf 103 = .ok (.iconst 2, 1) := by decide +kernel
theorem dX6_baseOf_104 : decode cX6_baseOf 104 = .ok (.invokevirtual 74, 3) := by decide +kernel
theorem dX6_baseOf_107 : decode cX6_baseOf 107 = .ok (.iaload, 1) := by decide +kernel
theorem dX6_baseOf_108 : decode cX6_baseOf 108 = .ok (.istore 4, 2) := by decide +kernel
theorem dX6_baseOf_110 : decode cX6_baseOf 110 = .ok (.iload_n 2, 1) := by decide +kernel
theorem dX6_baseOf_111 : decode cX6_baseOf 111 = .ok (.bipush 17, 2) := by decide +kernel
theorem dX6_baseOf_113 : decode cX6_baseOf 113 = .ok (.if_icmp .ne 12, 3) := by decide +kernel
theorem dX6_baseOf_125 : decode cX6_baseOf 125 = .ok (.iload_n 3, 1) := by decide +kernel
theorem dX6_baseOf_126 : decode cX6_baseOf 126 = .ok (.iload_n 3, 1) := by decide +kernel
theorem dX6_baseOf_127 : decode cX6_baseOf 127 = .ok (.iload 4, 2) := by decide +kernel
theorem dX6_baseOf_129 : decode cX6_baseOf 129 = .ok (.isub, 1) := by decide +kernel
theorem dX6_baseOf_130 : decode cX6_baseOf 130 = .ok (.iconst 1, 1) := by decide +kernel
theorem dX6_baseOf_131 : decode cX6_baseOf 131 = .ok (.ishr, 1) := by decide +kernel
theorem dX6_baseOf_132 : decode cX6_baseOf 132 = .ok (.iadd, 1) := by decide +kernel
theorem dX6_baseOf_133 : decode cX6_baseOf 133 = .ok (.ireturn, 1) := by decide +kernel
theorem dX6_baseOf_116 : decode cX6_baseOf 116 = .ok (.iconst 2, 1) := by decide +kernel
theorem dX6_baseOf_117 : decode cX6_baseOf 117 = .ok (.iload_n 3, 1) := by decide +kernel
theorem dX6_baseOf_118 : decode cX6_baseOf 118 = .ok (.imul, 1) := by decide +kernel
theorem dX6_baseOf_119 : decode cX6_baseOf 119 = .ok (.iload 4, 2) := by decide +kernel
theorem dX6_baseOf_121 : decode cX6_baseOf 121 = .ok (.isub, 1) := by decide +kernel
theorem dX6_baseOf_122 : decode cX6_baseOf 122 = .ok (.goto 11, 3) := by decide +kernel
theorem dX6_baseOf_61 : decode cX6_baseOf 61 = .ok (.aload_n 0, 1) := by decide +kernel
theorem dX6_baseOf_62 : decode cX6_baseOf 62 = .ok (.getfield 22, 3) := by decide +kernel
theorem dX6_baseOf_65 : decode cX6_baseOf 65 = .ok (.aload_n 0, 1) := by decide +kernel
theorem dX6_baseOf_66 : decode cX6_baseOf 66 = .ok (.iload_n 1, 1) := by decide +kernel
theorem dX6_baseOf_67 : decode cX6_baseOf 67 = .ok (.aload_n 0, 1) := by decide +kernel
theorem dX6_baseOf_68 : decode cX6_baseOf 68 = .ok (.getfield 38, 3) := by decide +kernel
theorem dX6_baseOf_71 : decode cX6_baseOf 71 = .ok (.iload_n 2, 1) := by decide +kernel
theorem dX6_baseOf_72 : decode cX6_baseOf 72 = .ok (.invokevirtual 74, 3) := by decide +kernel
theorem dX6_baseOf_75 : decode cX6_baseOf 75 = .ok (.iaload, 1) := by decide +kernel
theorem dX6_baseOf_76 : decode cX6_baseOf 76 = .ok (.ireturn, 1) := by decide +kernel
theorem dX6_baseOf_4 : decode cX6_baseOf 4 = .ok (.aload_n 0, 1) := by decide +kernel
theorem dX6_baseOf_5 : decode cX6_baseOf 5 = .ok (.getfield 31, 3) := by decide +kernel
theorem dX6_baseOf_8 : decode cX6_baseOf 8 = .ok (.iconst 2, 1) := by decide +kernel
theorem dX6_baseOf_9 : decode cX6_baseOf 9 = .ok (.if_icmp .ge 5, 3) := by decide +kernel
theorem dX6_baseOf_18 : decode cX6_baseOf 18 = .ok (.iload_n 2, 1) := by decide +kernel
theorem dX6_baseOf_19 : decode cX6_baseOf 19 = .ok (.iconst (-1), 1) := by decide +kernel
theorem dX6_baseOf_20 : decode cX6_baseOf 20 = .ok (.if_icmp .ne 15, 3) := by decide +kernel
theorem dX6_baseOf_35 : decode cX6_baseOf 35 = .ok (.iconst 1, 1) := by decide +kernel
theorem dX6_baseOf_36 : decode cX6_baseOf 36 = .ok (.istore_n 3, 1) := by decide +kernel
theorem dX6_baseOf_37 : decode cX6_baseOf 37 = .ok (.aload_n 0, 1) := by decide +kernel
theorem dX6_baseOf_38 : decode cX6_baseOf 38 = .ok (.getfield 22, 3) := by decide +kernel
theorem dX6_baseOf_41 : decode cX6_baseOf 41 = .ok (.aload_n 0, 1) := by decide +kernel
theorem dX6_baseOf_42 : decode cX6_baseOf 42 = .ok (.iload_n 1, 1) := by decide +kernel
theorem dX6_baseOf_43 : decode cX6_baseOf 43 = .ok (.iconst 1, 1) := by decide +kernel
theorem dX6_baseOf_44 : decode cX6_baseOf 44 = .ok (.aload_n 0, 1) := by decide +kernel
theorem dX6_baseOf_45 : decode cX6_baseOf 45 = .ok (.getfield 38, 3) := by decide +kernel
theorem dX6_baseOf_48 : decode cX6_baseOf 48 = .ok (.isub, 1) := by decide +kernel
theorem dX6_baseOf_49 : decode cX6_baseOf 49 = .ok (.iload_n 3, 1) := by decide +kernel
theorem dX6_baseOf_50 : decode cX6_baseOf 50 = .ok (.invokevirtual 74, 3) := by decide +kernel
theorem dX6_baseOf_53 : decode cX6_baseOf 53 = .ok (.iaload, 1) := by decide +kernel
theorem dX6_baseOf_54 : decode cX6_baseOf 54 = .ok (.ireturn, 1) := by decide +kernel
theorem dX6_baseOf_23 : decode cX6_baseOf 23 = .ok (.aload_n 0, 1) := by decide +kernel
theorem dX6_baseOf_24 : decode cX6_baseOf 24 = .ok (.getfield 38, 3) := by decide +kernel
theorem dX6_baseOf_27 : decode cX6_baseOf 27 = .ok (.iconst 1, 1) := by decide +kernel
theorem dX6_baseOf_28 : decode cX6_baseOf 28 = .ok (.if_icmp .ne 7, 3) := by decide +kernel
theorem dX6_baseOf_31 : decode cX6_baseOf 31 = .ok (.iconst 0, 1) := by decide +kernel
theorem dX6_baseOf_32 : decode cX6_baseOf 32 = .ok (.goto 4, 3) := by decide +kernel
theorem dX6_baseOf_12 : decode cX6_baseOf 12 = .ok (.iconst 0, 1) := by decide +kernel
theorem dX6_baseOf_13 : decode cX6_baseOf 13 = .ok (.ireturn, 1) := by decide +kernel
set_option maxRecDepth 100000 in
def fn_wk_X6_baseOf (ps_5 : Int32) (ps_6 : Int32) (ps_7 : Int32) (inp_f : Nat → Int32) (pp : Int32) (tm : Int32) (β : Type) (k_ : Int32 → β) : β := (if 0 ≤ tm then (if 8 < tm then (if tm = 17 then (k_ ((2 * (inp_f (Int32.toNatClampNeg ((((pp &&& 7) * 16) + ((ps_7 &&& 1) * 8)) + ((ps_6 - 1) &&& 7))))) - (inp_f (Int32.toNatClampNeg ((((pp &&& 7) * 16) + ((ps_7 &&& 1) * 8)) + ((ps_6 - 2) &&& 7)))))) else (k_ ((inp_f (Int32.toNatClampNeg ((((pp &&& 7) * 16) + ((ps_7 &&& 1) * 8)) + ((ps_6 - 1) &&& 7)))) + (((inp_f (Int32.toNatClampNeg ((((pp &&& 7) * 16) + ((ps_7 &&& 1) * 8)) + ((ps_6 - 1) &&& 7)))) - (inp_f (Int32.toNatClampNeg ((((pp &&& 7) * 16) + ((ps_7 &&& 1) * 8)) + ((ps_6 - 2) &&& 7))))) >>> (1 &&& 31))))) else (k_ (inp_f (Int32.toNatClampNeg ((((pp &&& 7) * 16) + ((ps_7 &&& 1) * 8)) + ((ps_6 - tm) &&& 7)))))) else (if 2 ≤ ps_5 then (if tm = (-1) then (if ps_7 = 1 then (k_ (inp_f (Int32.toNatClampNeg ((((pp &&& 7) * 16) + (((1 - ps_7) &&& 1) * 8)) + ((ps_6 - 0) &&& 7))))) else (k_ (inp_f (Int32.toNatClampNeg ((((pp &&& 7) * 16) + (((1 - ps_7) &&& 1) * 8)) + ((ps_6 - 1) &&& 7)))))) else (k_ (inp_f (Int32.toNatClampNeg ((((pp &&& 7) * 16) + (((1 - ps_7) &&& 1) * 8)) + ((ps_6 - 1) &&& 7)))))) else (k_ 0)))
set_option maxRecDepth 100000 in
theorem fn_wk_X6_baseOf_s {ps_5 : Int32} {ps_6 : Int32} {ps_7 : Int32} {inp_f : Nat → Int32} {pp : Int32} {tm : Int32} {β : Type} {k_ : Int32 → β} : fn_wk_X6_baseOf ps_5 ps_6 ps_7 inp_f pp tm β k_ = (if 0 ≤ tm then (if 8 < tm then (if tm = 17 then (k_ ((2 * (inp_f (Int32.toNatClampNeg ((((pp &&& 7) * 16) + ((ps_7 &&& 1) * 8)) + ((ps_6 - 1) &&& 7))))) - (inp_f (Int32.toNatClampNeg ((((pp &&& 7) * 16) + ((ps_7 &&& 1) * 8)) + ((ps_6 - 2) &&& 7)))))) else (k_ ((inp_f (Int32.toNatClampNeg ((((pp &&& 7) * 16) + ((ps_7 &&& 1) * 8)) + ((ps_6 - 1) &&& 7)))) + (((inp_f (Int32.toNatClampNeg ((((pp &&& 7) * 16) + ((ps_7 &&& 1) * 8)) + ((ps_6 - 1) &&& 7)))) - (inp_f (Int32.toNatClampNeg ((((pp &&& 7) * 16) + ((ps_7 &&& 1) * 8)) + ((ps_6 - 2) &&& 7))))) >>> (1 &&& 31))))) else (k_ (inp_f (Int32.toNatClampNeg ((((pp &&& 7) * 16) + ((ps_7 &&& 1) * 8)) + ((ps_6 - tm) &&& 7)))))) else (if 2 ≤ ps_5 then (if tm = (-1) then (if ps_7 = 1 then (k_ (inp_f (Int32.toNatClampNeg ((((pp &&& 7) * 16) + (((1 - ps_7) &&& 1) * 8)) + ((ps_6 - 0) &&& 7))))) else (k_ (inp_f (Int32.toNatClampNeg ((((pp &&& 7) * 16) + (((1 - ps_7) &&& 1) * 8)) + ((ps_6 - 1) &&& 7)))))) else (k_ (inp_f (Int32.toNatClampNeg ((((pp &&& 7) * 16) + (((1 - ps_7) &&& 1) * 8)) + ((ps_6 - 1) &&& 7)))))) else (k_ 0))) := rfl
set_option maxRecDepth 100000 in
set_option maxHeartbeats 4000000 in
theorem wk_X6_baseOf (E : g_E) (ps : Nat) (p : Nat) (we : Nat) (inp : Nat) (ba : Nat) (gu : Nat) (ps_5 : Int32) (ps_6 : Int32) (ps_7 : Int32) (inp_f : Nat → Int32) (pp : Int32) (tm : Int32)  : Ev E MX6_baseOf 1 23 0 0 [.ref ps, .int pp, .int tm] [(ps, .inr (6, [.ref p, .ref we, .ref inp, .ref ba, .ref gu, .int ps_5, .int ps_6, .int ps_7])), (inp, .inl (E.2.2.1 0, 128, .inl inp_f))] (fun v_ w_ => ∃ zr : Int32, (∀ (β : Type) (k_ : Int32 → β), fn_wk_X6_baseOf ps_5 ps_6 ps_7 inp_f pp tm β k_ = k_ zr) ∧ v_ = some (.int zr) ∧ w_ = [(ps, .inr (6, [.ref p, .ref we, .ref inp, .ref ba, .ref gu, .int ps_5, .int ps_6, .int ps_7])), (inp, .inl (E.2.2.1 0, 128, .inl inp_f))]) := by
  refine Ev.intro (by decide) (Nat.le_of_ble_eq_true rfl) ?_
  intro X B hr hI
  have B : Bd E X cX6_baseOf RX6 5 1 23 0 0 := B
  have hr : Rt E X (some .int) 0 0 (fun v_ w_ => ∃ zr : Int32, (∀ (β : Type) (k_ : Int32 → β), fn_wk_X6_baseOf ps_5 ps_6 ps_7 inp_f pp tm β k_ = k_ zr) ∧ v_ = some (.int zr) ∧ w_ = [(ps, .inr (6, [.ref p, .ref we, .ref inp, .ref ba, .ref gu, .int ps_5, .int ps_6, .int ps_7])), (inp, .inl (E.2.2.1 0, 128, .inl inp_f))]) := hr
  have e_ := fun (β : Type) (k_ : Int32 → β) => fn_wk_X6_baseOf_s (β := β) (k_ := k_) (ps_5 := ps_5) (ps_6 := ps_6) (ps_7 := ps_7) (inp_f := inp_f) (pp := pp) (tm := tm)
  show G E X 5 [(ps, .inr (6, [.ref p, .ref we, .ref inp, .ref ba, .ref gu, .int ps_5, .int ps_6, .int ps_7])), (inp, .inl (E.2.2.1 0, 128, .inl inp_f))] 0 0 [(0, .ref ps), (1, .int pp), (2, .int tm)] 0 []
  refine g_iload_n B dX6_baseOf_0 rfl 2 rfl ?_
  refine g_if_ge (tgt := 14) B dX6_baseOf_1 (by decide) (fun c1_282 => ?_) (fun c1_282 => ?_)
  · replace e_ := fun β k_ => (e_ β k_).trans (if_pos c1_282)
    refine g_iload_n B dX6_baseOf_14 rfl 2 rfl ?_
    refine g_if_ge (tgt := 55) B dX6_baseOf_15 (by decide) (fun c15 => ?_) (fun h => absurd c1_282 h)
    refine g_iload_n B dX6_baseOf_55 rfl 2 rfl ?_
    refine g_bipush (v := 8) B dX6_baseOf_56 (by decide) ?_
    refine g_icmp_gt (tgt := 77) B dX6_baseOf_58 (by decide) (fun c58_283 => ?_) (fun c58_283 => ?_)
    · replace e_ := fun β k_ => (e_ β k_).trans (if_pos c58_283)
      refine g_aload_n B dX6_baseOf_77 rfl 0 rfl ?_
      refine g_get B 0 2 fl_X6_22 rfl rfl dX6_baseOf_78 ?_
      refine g_aload_n B dX6_baseOf_81 rfl 0 rfl ?_
      refine g_iload_n B dX6_baseOf_82 rfl 1 rfl ?_
      refine g_aload_n B dX6_baseOf_83 rfl 0 rfl ?_
      refine g_get B 0 7 fl_X6_38 rfl rfl dX6_baseOf_84 ?_
      refine g_iconst (v := 1) B dX6_baseOf_87 (by decide) ?_
      refine g_callV (st := [.ref inp]) (As := [.int pp, .int ps_7, .int 1]) (wr := [(inp, .inl (E.2.2.1 0, 128, .inl inp_f))]) (nc' := 0) (ns' := 0) B cl_X6_74 w_im_X6_slot w_se_X6_slot (ev_X6_slot E ps p we inp ba gu ps_5 ps_6 ps_7 pp ps_7 1 ) rfl [0] [1] rfl rfl (by decide) (by decide) (by decide) 0 rfl (fun q h => by cases h; rfl) rfl ⟨by decide, by decide⟩ rfl rfl (by decide) (by decide) rfl (Nat.le_of_ble_eq_true rfl) dX6_baseOf_88 (fun v w hq => ?_)
      obtain ⟨rfl, rfl⟩ := hq
      show G E X 5 [(inp, .inl (E.2.2.1 0, 128, .inl inp_f)), (ps, .inr (6, [.ref p, .ref we, .ref inp, .ref ba, .ref gu, .int ps_5, .int ps_6, .int ps_7]))] 0 0 [(0, .ref ps), (1, .int pp), (2, .int tm)] 91 [.int ((((pp &&& 7) * 16) + ((ps_7 &&& 1) * 8)) + ((ps_6 - 1) &&& 7)), .ref inp]
      refine g_iald B 0 rfl (in_sl _ _ _) dX6_baseOf_91 ?_
      refine g_istore_n (lv' := [(3, .int (inp_f (Int32.toNatClampNeg ((((pp &&& 7) * 16) + ((ps_7 &&& 1) * 8)) + ((ps_6 - 1) &&& 7))))), (0, .ref ps), (1, .int pp), (2, .int tm)]) B dX6_baseOf_92 rfl (by decide) rfl ?_
      refine g_aload_n B dX6_baseOf_93 rfl 1 rfl ?_
      refine g_get B 1 2 fl_X6_22 rfl rfl dX6_baseOf_94 ?_
      refine g_aload_n B dX6_baseOf_97 rfl 1 rfl ?_
      refine g_iload_n B dX6_baseOf_98 rfl 2 rfl ?_
      refine g_aload_n B dX6_baseOf_99 rfl 1 rfl ?_
      refine g_get B 1 7 fl_X6_38 rfl rfl dX6_baseOf_100 ?_
      refine g_iconst (v := 2) B dX6_baseOf_103 (by decide) ?_
      refine g_callV (st := [.ref inp]) (As := [.int pp, .int ps_7, .int 2]) (wr := [(inp, .inl (E.2.2.1 0, 128, .inl inp_f))]) (nc' := 0) (ns' := 0) B cl_X6_74 w_im_X6_slot w_se_X6_slot (ev_X6_slot E ps p we inp ba gu ps_5 ps_6 ps_7 pp ps_7 2 ) rfl [1] [0] rfl rfl (by decide) (by decide) (by decide) 0 rfl (fun q h => by cases h; rfl) rfl ⟨by decide, by decide⟩ rfl rfl (by decide) (by decide) rfl (Nat.le_of_ble_eq_true rfl) dX6_baseOf_104 (fun v w hq => ?_)
      obtain ⟨rfl, rfl⟩ := hq
      show G E X 5 [(inp, .inl (E.2.2.1 0, 128, .inl inp_f)), (ps, .inr (6, [.ref p, .ref we, .ref inp, .ref ba, .ref gu, .int ps_5, .int ps_6, .int ps_7]))] 0 0 [(3, .int (inp_f (Int32.toNatClampNeg ((((pp &&& 7) * 16) + ((ps_7 &&& 1) * 8)) + ((ps_6 - 1) &&& 7))))), (0, .ref ps), (1, .int pp), (2, .int tm)] 107 [.int ((((pp &&& 7) * 16) + ((ps_7 &&& 1) * 8)) + ((ps_6 - 2) &&& 7)), .ref inp]
      refine g_iald B 0 rfl (in_sl _ _ _) dX6_baseOf_107 ?_
      refine g_istore (lv' := [(4, .int (inp_f (Int32.toNatClampNeg ((((pp &&& 7) * 16) + ((ps_7 &&& 1) * 8)) + ((ps_6 - 2) &&& 7))))), (3, .int (inp_f (Int32.toNatClampNeg ((((pp &&& 7) * 16) + ((ps_7 &&& 1) * 8)) + ((ps_6 - 1) &&& 7))))), (0, .ref ps), (1, .int pp), (2, .int tm)]) B dX6_baseOf_108 (by decide) rfl ?_
      refine g_iload_n B dX6_baseOf_110 rfl 4 rfl ?_
      refine g_bipush (v := 17) B dX6_baseOf_111 (by decide) ?_
      refine g_icmp_ne (tgt := 125) B dX6_baseOf_113 (by decide) (fun c113_286 => ?_) (fun c113_286 => ?_)
      · replace e_ := fun β k_ => (e_ β k_).trans (if_neg c113_286)
        refine g_iload_n B dX6_baseOf_125 rfl 1 rfl ?_
        refine g_iload_n B dX6_baseOf_126 rfl 1 rfl ?_
        refine g_iload B dX6_baseOf_127 0 rfl ?_
        refine g_isub B dX6_baseOf_129 ?_
        refine g_iconst (v := 1) B dX6_baseOf_130 (by decide) ?_
        refine g_ishr B dX6_baseOf_131 ?_
        refine g_iadd B dX6_baseOf_132 ?_
        refine g_sub (ws' := [(ps, .inr (6, [.ref p, .ref we, .ref inp, .ref ba, .ref gu, .int ps_5, .int ps_6, .int ps_7])), (inp, .inl (E.2.2.1 0, 128, .inl inp_f))]) [1, 0] (by decide) rfl ?_
        exact g_iret B hr dX6_baseOf_133 (by decide) (by decide) ⟨((inp_f (Int32.toNatClampNeg ((((pp &&& 7) * 16) + ((ps_7 &&& 1) * 8)) + ((ps_6 - 1) &&& 7)))) + (((inp_f (Int32.toNatClampNeg ((((pp &&& 7) * 16) + ((ps_7 &&& 1) * 8)) + ((ps_6 - 1) &&& 7)))) - (inp_f (Int32.toNatClampNeg ((((pp &&& 7) * 16) + ((ps_7 &&& 1) * 8)) + ((ps_6 - 2) &&& 7))))) >>> (1 &&& 31))), e_, rfl, rfl⟩
      · replace e_ := fun β k_ => (e_ β k_).trans (if_pos c113_286)
        refine g_iconst (v := 2) B dX6_baseOf_116 (by decide) ?_
        refine g_iload_n B dX6_baseOf_117 rfl 1 rfl ?_
        refine g_imul B dX6_baseOf_118 ?_
        refine g_iload B dX6_baseOf_119 0 rfl ?_
        refine g_isub B dX6_baseOf_121 ?_
        refine g_goto (tgt := 133) B dX6_baseOf_122 (by decide) ?_
        refine g_sub (ws' := [(ps, .inr (6, [.ref p, .ref we, .ref inp, .ref ba, .ref gu, .int ps_5, .int ps_6, .int ps_7])), (inp, .inl (E.2.2.1 0, 128, .inl inp_f))]) [1, 0] (by decide) rfl ?_
        exact g_iret B hr dX6_baseOf_133 (by decide) (by decide) ⟨((2 * (inp_f (Int32.toNatClampNeg ((((pp &&& 7) * 16) + ((ps_7 &&& 1) * 8)) + ((ps_6 - 1) &&& 7))))) - (inp_f (Int32.toNatClampNeg ((((pp &&& 7) * 16) + ((ps_7 &&& 1) * 8)) + ((ps_6 - 2) &&& 7))))), e_, rfl, rfl⟩
    · replace e_ := fun β k_ => (e_ β k_).trans (if_neg c58_283)
      refine g_aload_n B dX6_baseOf_61 rfl 0 rfl ?_
      refine g_get B 0 2 fl_X6_22 rfl rfl dX6_baseOf_62 ?_
      refine g_aload_n B dX6_baseOf_65 rfl 0 rfl ?_
      refine g_iload_n B dX6_baseOf_66 rfl 1 rfl ?_
      refine g_aload_n B dX6_baseOf_67 rfl 0 rfl ?_
      refine g_get B 0 7 fl_X6_38 rfl rfl dX6_baseOf_68 ?_
      refine g_iload_n B dX6_baseOf_71 rfl 2 rfl ?_
      refine g_callV (st := [.ref inp]) (As := [.int pp, .int ps_7, .int tm]) (wr := [(inp, .inl (E.2.2.1 0, 128, .inl inp_f))]) (nc' := 0) (ns' := 0) B cl_X6_74 w_im_X6_slot w_se_X6_slot (ev_X6_slot E ps p we inp ba gu ps_5 ps_6 ps_7 pp ps_7 tm ) rfl [0] [1] rfl rfl (by decide) (by decide) (by decide) 0 rfl (fun q h => by cases h; rfl) rfl ⟨by decide, by decide⟩ rfl rfl (by decide) (by decide) rfl (Nat.le_of_ble_eq_true rfl) dX6_baseOf_72 (fun v w hq => ?_)
      obtain ⟨rfl, rfl⟩ := hq
      show G E X 5 [(inp, .inl (E.2.2.1 0, 128, .inl inp_f)), (ps, .inr (6, [.ref p, .ref we, .ref inp, .ref ba, .ref gu, .int ps_5, .int ps_6, .int ps_7]))] 0 0 [(0, .ref ps), (1, .int pp), (2, .int tm)] 75 [.int ((((pp &&& 7) * 16) + ((ps_7 &&& 1) * 8)) + ((ps_6 - tm) &&& 7)), .ref inp]
      refine g_iald B 0 rfl (in_sl _ _ _) dX6_baseOf_75 ?_
      refine g_sub (ws' := [(ps, .inr (6, [.ref p, .ref we, .ref inp, .ref ba, .ref gu, .int ps_5, .int ps_6, .int ps_7])), (inp, .inl (E.2.2.1 0, 128, .inl inp_f))]) [1, 0] (by decide) rfl ?_
      exact g_iret B hr dX6_baseOf_76 (by decide) (by decide) ⟨(inp_f (Int32.toNatClampNeg ((((pp &&& 7) * 16) + ((ps_7 &&& 1) * 8)) + ((ps_6 - tm) &&& 7)))), e_, rfl, rfl⟩
  · replace e_ := fun β k_ => (e_ β k_).trans (if_neg c1_282)
    refine g_aload_n B dX6_baseOf_4 rfl 0 rfl ?_
    refine g_get B 0 5 fl_X6_31 rfl rfl dX6_baseOf_5 ?_
    refine g_iconst (v := 2) B dX6_baseOf_8 (by decide) ?_
    refine g_icmp_ge (tgt := 14) B dX6_baseOf_9 (by decide) (fun c9_288 => ?_) (fun c9_288 => ?_)
    · replace e_ := fun β k_ => (e_ β k_).trans (if_pos c9_288)
      refine g_iload_n B dX6_baseOf_14 rfl 2 rfl ?_
      refine g_if_ge (tgt := 55) B dX6_baseOf_15 (by decide) (fun h => absurd h c1_282) (fun c15 => ?_)
      refine g_iload_n B dX6_baseOf_18 rfl 2 rfl ?_
      refine g_iconst (v := (-1)) B dX6_baseOf_19 (by decide) ?_
      refine g_icmp_ne (tgt := 35) B dX6_baseOf_20 (by decide) (fun c20_289 => ?_) (fun c20_289 => ?_)
      · replace e_ := fun β k_ => (e_ β k_).trans (if_neg c20_289)
        refine g_iconst (v := 1) B dX6_baseOf_35 (by decide) ?_
        refine g_istore_n (lv' := [(3, .int 1), (0, .ref ps), (1, .int pp), (2, .int tm)]) B dX6_baseOf_36 rfl (by decide) rfl ?_
        refine g_aload_n B dX6_baseOf_37 rfl 1 rfl ?_
        refine g_get B 0 2 fl_X6_22 rfl rfl dX6_baseOf_38 ?_
        refine g_aload_n B dX6_baseOf_41 rfl 1 rfl ?_
        refine g_iload_n B dX6_baseOf_42 rfl 2 rfl ?_
        refine g_iconst (v := 1) B dX6_baseOf_43 (by decide) ?_
        refine g_aload_n B dX6_baseOf_44 rfl 1 rfl ?_
        refine g_get B 0 7 fl_X6_38 rfl rfl dX6_baseOf_45 ?_
        refine g_isub B dX6_baseOf_48 ?_
        refine g_iload_n B dX6_baseOf_49 rfl 0 rfl ?_
        refine g_callV (st := [.ref inp]) (As := [.int pp, .int (1 - ps_7), .int 1]) (wr := [(inp, .inl (E.2.2.1 0, 128, .inl inp_f))]) (nc' := 0) (ns' := 0) B cl_X6_74 w_im_X6_slot w_se_X6_slot (ev_X6_slot E ps p we inp ba gu ps_5 ps_6 ps_7 pp (1 - ps_7) 1 ) rfl [0] [1] rfl rfl (by decide) (by decide) (by decide) 0 rfl (fun q h => by cases h; rfl) rfl ⟨by decide, by decide⟩ rfl rfl (by decide) (by decide) rfl (Nat.le_of_ble_eq_true rfl) dX6_baseOf_50 (fun v w hq => ?_)
        obtain ⟨rfl, rfl⟩ := hq
        show G E X 5 [(inp, .inl (E.2.2.1 0, 128, .inl inp_f)), (ps, .inr (6, [.ref p, .ref we, .ref inp, .ref ba, .ref gu, .int ps_5, .int ps_6, .int ps_7]))] 0 0 [(3, .int 1), (0, .ref ps), (1, .int pp), (2, .int tm)] 53 [.int ((((pp &&& 7) * 16) + (((1 - ps_7) &&& 1) * 8)) + ((ps_6 - 1) &&& 7)), .ref inp]
        refine g_iald B 0 rfl (in_sl _ _ _) dX6_baseOf_53 ?_
        refine g_sub (ws' := [(ps, .inr (6, [.ref p, .ref we, .ref inp, .ref ba, .ref gu, .int ps_5, .int ps_6, .int ps_7])), (inp, .inl (E.2.2.1 0, 128, .inl inp_f))]) [1, 0] (by decide) rfl ?_
        exact g_iret B hr dX6_baseOf_54 (by decide) (by decide) ⟨(inp_f (Int32.toNatClampNeg ((((pp &&& 7) * 16) + (((1 - ps_7) &&& 1) * 8)) + ((ps_6 - 1) &&& 7)))), e_, rfl, rfl⟩
      · replace e_ := fun β k_ => (e_ β k_).trans (if_pos c20_289)
        refine g_aload_n B dX6_baseOf_23 rfl 0 rfl ?_
        refine g_get B 0 7 fl_X6_38 rfl rfl dX6_baseOf_24 ?_
        refine g_iconst (v := 1) B dX6_baseOf_27 (by decide) ?_
        refine g_icmp_ne (tgt := 35) B dX6_baseOf_28 (by decide) (fun c28_291 => ?_) (fun c28_291 => ?_)
        · replace e_ := fun β k_ => (e_ β k_).trans (if_neg c28_291)
          refine g_iconst (v := 1) B dX6_baseOf_35 (by decide) ?_
          refine g_istore_n (lv' := [(3, .int 1), (0, .ref ps), (1, .int pp), (2, .int tm)]) B dX6_baseOf_36 rfl (by decide) rfl ?_
          refine g_aload_n B dX6_baseOf_37 rfl 1 rfl ?_
          refine g_get B 0 2 fl_X6_22 rfl rfl dX6_baseOf_38 ?_
          refine g_aload_n B dX6_baseOf_41 rfl 1 rfl ?_
          refine g_iload_n B dX6_baseOf_42 rfl 2 rfl ?_
          refine g_iconst (v := 1) B dX6_baseOf_43 (by decide) ?_
          refine g_aload_n B dX6_baseOf_44 rfl 1 rfl ?_
          refine g_get B 0 7 fl_X6_38 rfl rfl dX6_baseOf_45 ?_
          refine g_isub B dX6_baseOf_48 ?_
          refine g_iload_n B dX6_baseOf_49 rfl 0 rfl ?_
          refine g_callV (st := [.ref inp]) (As := [.int pp, .int (1 - ps_7), .int 1]) (wr := [(inp, .inl (E.2.2.1 0, 128, .inl inp_f))]) (nc' := 0) (ns' := 0) B cl_X6_74 w_im_X6_slot w_se_X6_slot (ev_X6_slot E ps p we inp ba gu ps_5 ps_6 ps_7 pp (1 - ps_7) 1 ) rfl [0] [1] rfl rfl (by decide) (by decide) (by decide) 0 rfl (fun q h => by cases h; rfl) rfl ⟨by decide, by decide⟩ rfl rfl (by decide) (by decide) rfl (Nat.le_of_ble_eq_true rfl) dX6_baseOf_50 (fun v w hq => ?_)
          obtain ⟨rfl, rfl⟩ := hq
          show G E X 5 [(inp, .inl (E.2.2.1 0, 128, .inl inp_f)), (ps, .inr (6, [.ref p, .ref we, .ref inp, .ref ba, .ref gu, .int ps_5, .int ps_6, .int ps_7]))] 0 0 [(3, .int 1), (0, .ref ps), (1, .int pp), (2, .int tm)] 53 [.int ((((pp &&& 7) * 16) + (((1 - ps_7) &&& 1) * 8)) + ((ps_6 - 1) &&& 7)), .ref inp]
          refine g_iald B 0 rfl (in_sl _ _ _) dX6_baseOf_53 ?_
          refine g_sub (ws' := [(ps, .inr (6, [.ref p, .ref we, .ref inp, .ref ba, .ref gu, .int ps_5, .int ps_6, .int ps_7])), (inp, .inl (E.2.2.1 0, 128, .inl inp_f))]) [1, 0] (by decide) rfl ?_
          exact g_iret B hr dX6_baseOf_54 (by decide) (by decide) ⟨(inp_f (Int32.toNatClampNeg ((((pp &&& 7) * 16) + (((1 - ps_7) &&& 1) * 8)) + ((ps_6 - 1) &&& 7)))), e_, rfl, rfl⟩
        · replace e_ := fun β k_ => (e_ β k_).trans (if_pos c28_291)
          refine g_iconst (v := 0) B dX6_baseOf_31 (by decide) ?_
          refine g_goto (tgt := 36) B dX6_baseOf_32 (by decide) ?_
          refine g_istore_n (lv' := [(3, .int 0), (0, .ref ps), (1, .int pp), (2, .int tm)]) B dX6_baseOf_36 rfl (by decide) rfl ?_
          refine g_aload_n B dX6_baseOf_37 rfl 1 rfl ?_
          refine g_get B 0 2 fl_X6_22 rfl rfl dX6_baseOf_38 ?_
          refine g_aload_n B dX6_baseOf_41 rfl 1 rfl ?_
          refine g_iload_n B dX6_baseOf_42 rfl 2 rfl ?_
          refine g_iconst (v := 1) B dX6_baseOf_43 (by decide) ?_
          refine g_aload_n B dX6_baseOf_44 rfl 1 rfl ?_
          refine g_get B 0 7 fl_X6_38 rfl rfl dX6_baseOf_45 ?_
          refine g_isub B dX6_baseOf_48 ?_
          refine g_iload_n B dX6_baseOf_49 rfl 0 rfl ?_
          refine g_callV (st := [.ref inp]) (As := [.int pp, .int (1 - ps_7), .int 0]) (wr := [(inp, .inl (E.2.2.1 0, 128, .inl inp_f))]) (nc' := 0) (ns' := 0) B cl_X6_74 w_im_X6_slot w_se_X6_slot (ev_X6_slot E ps p we inp ba gu ps_5 ps_6 ps_7 pp (1 - ps_7) 0 ) rfl [0] [1] rfl rfl (by decide) (by decide) (by decide) 0 rfl (fun q h => by cases h; rfl) rfl ⟨by decide, by decide⟩ rfl rfl (by decide) (by decide) rfl (Nat.le_of_ble_eq_true rfl) dX6_baseOf_50 (fun v w hq => ?_)
          obtain ⟨rfl, rfl⟩ := hq
          show G E X 5 [(inp, .inl (E.2.2.1 0, 128, .inl inp_f)), (ps, .inr (6, [.ref p, .ref we, .ref inp, .ref ba, .ref gu, .int ps_5, .int ps_6, .int ps_7]))] 0 0 [(3, .int 0), (0, .ref ps), (1, .int pp), (2, .int tm)] 53 [.int ((((pp &&& 7) * 16) + (((1 - ps_7) &&& 1) * 8)) + ((ps_6 - 0) &&& 7)), .ref inp]
          refine g_iald B 0 rfl (in_sl _ _ _) dX6_baseOf_53 ?_
          refine g_sub (ws' := [(ps, .inr (6, [.ref p, .ref we, .ref inp, .ref ba, .ref gu, .int ps_5, .int ps_6, .int ps_7])), (inp, .inl (E.2.2.1 0, 128, .inl inp_f))]) [1, 0] (by decide) rfl ?_
          exact g_iret B hr dX6_baseOf_54 (by decide) (by decide) ⟨(inp_f (Int32.toNatClampNeg ((((pp &&& 7) * 16) + (((1 - ps_7) &&& 1) * 8)) + ((ps_6 - 0) &&& 7)))), e_, rfl, rfl⟩
    · replace e_ := fun β k_ => (e_ β k_).trans (if_neg c9_288)
      refine g_iconst (v := 0) B dX6_baseOf_12 (by decide) ?_
      exact g_iret B hr dX6_baseOf_13 (by decide) (by decide) ⟨0, e_, rfl, rfl⟩
abbrev MX6_foretell : g_M := (yX6_foretell, cX6_foretell, 5, (some .int))
theorem dX6_foretell_0 : decode cX6_foretell 0 = .ok (.aload_n 0, 1) := by decide +kernel
theorem dX6_foretell_1 : decode cX6_foretell 1 = .ok (.iload_n 1, 1) := by decide +kernel
theorem dX6_foretell_2 : decode cX6_foretell 2 = .ok (.putfield 35, 3) := by decide +kernel
theorem dX6_foretell_5 : decode cX6_foretell 5 = .ok (.aload_n 0, 1) := by decide +kernel
theorem dX6_foretell_6 : decode cX6_foretell 6 = .ok (.iload_n 2, 1) := by decide +kernel
theorem dX6_foretell_7 : decode cX6_foretell 7 = .ok (.putfield 38, 3) := by decide +kernel
theorem dX6_foretell_10 : decode cX6_foretell 10 = .ok (.iconst 0, 1) := by decide +kernel
theorem dX6_foretell_11 : decode cX6_foretell 11 = .ok (.istore_n 3, 1) := by decide +kernel
theorem dX6_foretell_12 : decode cX6_foretell 12 = .ok (.iconst 0, 1) := by decide +kernel
theorem dX6_foretell_13 : decode cX6_foretell 13 = .ok (.istore 4, 2) := by decide +kernel
theorem dX6_foretell_15 : decode cX6_foretell 15 = .ok (.iload 4, 2) := by decide +kernel
theorem dX6_foretell_17 : decode cX6_foretell 17 = .ok (.aload_n 0, 1) := by decide +kernel
theorem dX6_foretell_18 : decode cX6_foretell 18 = .ok (.getfield 12, 3) := by decide +kernel
theorem dX6_foretell_21 : decode cX6_foretell 21 = .ok (.getfield 47, 3) := by decide +kernel
theorem w_fl_X6_47 : Cond.fieldLink RX6 47 (TX7 2).1 (TX7 2).2.1 (TX7 2).2.2.1 ∈ g_tbl := g_tbl_in 106 (by decide +kernel) (by decide +kernel)
theorem fl_X6_47 : FL RX6 47 7 2 := ⟨RX7, TX7, 3, rfl, by decide, inX_X7, w_fl_X6_47⟩
theorem dX6_foretell_24 : decode cX6_foretell 24 = .ok (.if_icmp .ge 84, 3) := by decide +kernel
theorem dX6_foretell_27 : decode cX6_foretell 27 = .ok (.iload 4, 2) := by decide +kernel
theorem dX6_foretell_29 : decode cX6_foretell 29 = .ok (.bipush 8, 2) := by decide +kernel
theorem dX6_foretell_31 : decode cX6_foretell 31 = .ok (.if_icmp .ge 77, 3) := by decide +kernel
theorem dX6_foretell_34 : decode cX6_foretell 34 = .ok (.aload_n 0, 1) := by decide +kernel
theorem dX6_foretell_35 : decode cX6_foretell 35 = .ok (.getfield 25, 3) := by decide +kernel
theorem dX6_foretell_38 : decode cX6_foretell 38 = .ok (.iload 4, 2) := by decide +kernel
theorem dX6_foretell_40 : decode cX6_foretell 40 = .ok (.aload_n 0, 1) := by decide +kernel
theorem dX6_foretell_41 : decode cX6_foretell 41 = .ok (.iload 4, 2) := by decide +kernel
theorem dX6_foretell_43 : decode cX6_foretell 43 = .ok (.aload_n 0, 1) := by decide +kernel
theorem dX6_foretell_44 : decode cX6_foretell 44 = .ok (.getfield 12, 3) := by decide +kernel
theorem dX6_foretell_47 : decode cX6_foretell 47 = .ok (.getfield 50, 3) := by decide +kernel
theorem w_fl_X6_50 : Cond.fieldLink RX6 50 (TX7 0).1 (TX7 0).2.1 (TX7 0).2.2.1 ∈ g_tbl := g_tbl_in 100 (by decide +kernel) (by decide +kernel)
theorem fl_X6_50 : FL RX6 50 7 0 := ⟨RX7, TX7, 3, rfl, by decide, inX_X7, w_fl_X6_50⟩
theorem dX6_foretell_50 : decode cX6_foretell 50 = .ok (.iload 4, 2) := by decide +kernel
theorem dX6_foretell_52 : decode cX6_foretell 52 = .ok (.iaload, 1) := by decide +kernel
theorem dX6_foretell_53 : decode cX6_foretell 53 = .ok (.invokevirtual 53, 3) := by decide +kernel
theorem w_ml_X6_53 : Cond.methodLink RX6 53 yX6_baseOf ∈ g_tbl := g_tbl_in 517 (by decide +kernel) (by decide +kernel)
theorem w_cd_X6_baseOf : g_cw MX6_baseOf ∈ g_tbl := g_tbl_in 520 (by decide +kernel) (by decide +kernel)
theorem cl_X6_53 : CL RX6 53 2 MX6_baseOf := ⟨w_ml_X6_53, w_cd_X6_baseOf, w_ini_X6, by decide +kernel, by decide +kernel, by decide +kernel⟩
theorem w_im_X6_baseOf : Cond.instanceMethod yX6_baseOf ∈ g_tbl := g_tbl_in 519 (by decide +kernel) (by decide +kernel)
theorem w_se_X6_baseOf : Cond.selects RX6 yX6_baseOf yX6_baseOf ∈ g_tbl := g_tbl_in 5 (by decide +kernel) (by decide +kernel)
theorem dX6_foretell_56 : decode cX6_foretell 56 = .ok (.iastore, 1) := by decide +kernel
theorem dX6_foretell_57 : decode cX6_foretell 57 = .ok (.aload_n 0, 1) := by decide +kernel
theorem dX6_foretell_58 : decode cX6_foretell 58 = .ok (.getfield 28, 3) := by decide +kernel
theorem dX6_foretell_61 : decode cX6_foretell 61 = .ok (.iload 4, 2) := by decide +kernel
theorem dX6_foretell_63 : decode cX6_foretell 63 = .ok (.aload_n 0, 1) := by decide +kernel
theorem dX6_foretell_64 : decode cX6_foretell 64 = .ok (.iload 4, 2) := by decide +kernel
theorem dX6_foretell_66 : decode cX6_foretell 66 = .ok (.aload_n 0, 1) := by decide +kernel
theorem dX6_foretell_67 : decode cX6_foretell 67 = .ok (.getfield 38, 3) := by decide +kernel
theorem dX6_foretell_70 : decode cX6_foretell 70 = .ok (.invokevirtual 57, 3) := by decide +kernel
theorem w_ml_X6_57 : Cond.methodLink RX6 57 yX6_weightOf ∈ g_tbl := g_tbl_in 525 (by decide +kernel) (by decide +kernel)
theorem w_cd_X6_weightOf : g_cw MX6_weightOf ∈ g_tbl := g_tbl_in 528 (by decide +kernel) (by decide +kernel)
theorem cl_X6_57 : CL RX6 57 2 MX6_weightOf := ⟨w_ml_X6_57, w_cd_X6_weightOf, w_ini_X6, by decide +kernel, by decide +kernel, by decide +kernel⟩
theorem w_im_X6_weightOf : Cond.instanceMethod yX6_weightOf ∈ g_tbl := g_tbl_in 526 (by decide +kernel) (by decide +kernel)
theorem w_se_X6_weightOf : Cond.selects RX6 yX6_weightOf yX6_weightOf ∈ g_tbl := g_tbl_in 527 (by decide +kernel) (by decide +kernel)
theorem dX6_foretell_73 : decode cX6_foretell 73 = .ok (.i2l, 1) := by decide +kernel
theorem dX6_foretell_74 : decode cX6_foretell 74 = .ok (.aload_n 0, 1) := by decide +kernel
theorem dX6_foretell_75 : decode cX6_foretell 75 = .ok (.getfield 25, 3) := by decide +kernel
theorem dX6_foretell_78 : decode cX6_foretell 78 = .ok (.iload 4, 2) := by decide +kernel
theorem dX6_foretell_80 : decode cX6_foretell 80 = .ok (.iaload, 1) := by decide +kernel
theorem dX6_foretell_81 : decode cX6_foretell 81 = .ok (.i2l, 1) := by decide +kernel
theorem dX6_foretell_82 : decode cX6_foretell 82 = .ok (.lmul, 1) := by decide +kernel
theorem dX6_foretell_83 : decode cX6_foretell 83 = .ok (.ldc2_w 60, 3) := by decide +kernel
theorem w_k_X6_60 : Cond.constantLong RX6 60 512 ∈ g_tbl := g_tbl_in 533 (by decide +kernel) (by decide +kernel)
theorem dX6_foretell_86 : decode cX6_foretell 86 = .ok (.ladd, 1) := by decide +kernel
theorem dX6_foretell_87 : decode cX6_foretell 87 = .ok (.bipush 10, 2) := by decide +kernel
theorem dX6_foretell_89 : decode cX6_foretell 89 = .ok (.lshr, 1) := by decide +kernel
theorem dX6_foretell_90 : decode cX6_foretell 90 = .ok (.l2i, 1) := by decide +kernel
theorem dX6_foretell_91 : decode cX6_foretell 91 = .ok (.iastore, 1) := by decide +kernel
theorem dX6_foretell_92 : decode cX6_foretell 92 = .ok (.iload_n 3, 1) := by decide +kernel
theorem dX6_foretell_93 : decode cX6_foretell 93 = .ok (.aload_n 0, 1) := by decide +kernel
theorem dX6_foretell_94 : decode cX6_foretell 94 = .ok (.getfield 28, 3) := by decide +kernel
theorem dX6_foretell_97 : decode cX6_foretell 97 = .ok (.iload 4, 2) := by decide +kernel
theorem dX6_foretell_99 : decode cX6_foretell 99 = .ok (.iaload, 1) := by decide +kernel
theorem dX6_foretell_100 : decode cX6_foretell 100 = .ok (.iadd, 1) := by decide +kernel
theorem dX6_foretell_101 : decode cX6_foretell 101 = .ok (.istore_n 3, 1) := by decide +kernel
theorem dX6_foretell_102 : decode cX6_foretell 102 = .ok (.iinc 4 1, 3) := by decide +kernel
theorem dX6_foretell_105 : decode cX6_foretell 105 = .ok (.goto (-90), 3) := by decide +kernel
set_option maxRecDepth 100000 in
def lf_wk_X6_foretell_15 (ps_5 : Int32) (p_2 : Nat) (te_f : Nat → Int32) (we_f : Nat → Int32) (inp_f : Nat → Int32) (β : Type) (kx_ : Int32 → Int32 → (Nat → Int32) → (Nat → Int32) → Int32 → Int32 → Int32 → Int32 → β)  : Nat → Int32 → Int32 → (Nat → Int32) → (Nat → Int32) → Int32 → Int32 → Int32 → Int32 → β
  | 0, ps_6, ps_7, ba_f, gu_f, l1, l2, l3, l4 => kx_ ps_6 ps_7 ba_f gu_f l1 l2 l3 l4
  | fuel + 1, ps_6, ps_7, ba_f, gu_f, l1, l2, l3, l4 => (if nI p_2 ≤ l4 then (kx_ ps_6 ps_7 ba_f gu_f l1 l2 l3 l4) else (if 8 ≤ l4 then (kx_ ps_6 ps_7 ba_f gu_f l1 l2 l3 l4) else (fn_wk_X6_baseOf ps_5 ps_6 ps_7 inp_f l4 (te_f (Int32.toNatClampNeg l4)) β (fun zr_296 => (fn_wk_X6_weightOf we_f l4 ps_7 β (fun zr_298 => (fnL (Int64.toInt32 ((((Int32.toInt64 zr_298) * (Int32.toInt64 ((upd ba_f (Int32.toNatClampNeg l4) zr_296) (Int32.toNatClampNeg l4)))) + 512) >>> (Int32.toInt64 10 &&& 63))) (fun x_300 => (lf_wk_X6_foretell_15 ps_5 p_2 te_f we_f inp_f β kx_ fuel ps_6 ps_7 (upd ba_f (Int32.toNatClampNeg l4) zr_296) (upd gu_f (Int32.toNatClampNeg l4) x_300) l1 l2 (l3 + ((upd gu_f (Int32.toNatClampNeg l4) x_300) (Int32.toNatClampNeg l4))) (l4 + 1))))))))))
set_option maxRecDepth 100000 in
theorem lf_wk_X6_foretell_15_s {ps_5 : Int32} {p_2 : Nat} {te_f : Nat → Int32} {we_f : Nat → Int32} {inp_f : Nat → Int32} {β : Type} {kx_ : Int32 → Int32 → (Nat → Int32) → (Nat → Int32) → Int32 → Int32 → Int32 → Int32 → β}  {fuel : Nat} {ps_6 : Int32} {ps_7 : Int32} {ba_f : Nat → Int32} {gu_f : Nat → Int32} {l1 : Int32} {l2 : Int32} {l3 : Int32} {l4 : Int32} : lf_wk_X6_foretell_15 ps_5 p_2 te_f we_f inp_f β kx_  (fuel + 1) ps_6 ps_7 ba_f gu_f l1 l2 l3 l4 = (if nI p_2 ≤ l4 then (kx_ ps_6 ps_7 ba_f gu_f l1 l2 l3 l4) else (if 8 ≤ l4 then (kx_ ps_6 ps_7 ba_f gu_f l1 l2 l3 l4) else (fn_wk_X6_baseOf ps_5 ps_6 ps_7 inp_f l4 (te_f (Int32.toNatClampNeg l4)) β (fun zr_296 => (fn_wk_X6_weightOf we_f l4 ps_7 β (fun zr_298 => (fnL (Int64.toInt32 ((((Int32.toInt64 zr_298) * (Int32.toInt64 ((upd ba_f (Int32.toNatClampNeg l4) zr_296) (Int32.toNatClampNeg l4)))) + 512) >>> (Int32.toInt64 10 &&& 63))) (fun x_300 => (lf_wk_X6_foretell_15 ps_5 p_2 te_f we_f inp_f β kx_ fuel ps_6 ps_7 (upd ba_f (Int32.toNatClampNeg l4) zr_296) (upd gu_f (Int32.toNatClampNeg l4) x_300) l1 l2 (l3 + ((upd gu_f (Int32.toNatClampNeg l4) x_300) (Int32.toNatClampNeg l4))) (l4 + 1)))))))))) := rfl
set_option maxRecDepth 100000 in
set_option maxHeartbeats 4000000 in
theorem lp_wk_X6_foretell_15 (E : g_E) (ps : Nat) (p : Nat) (we : Nat) (inp : Nat) (ba : Nat) (gu : Nat) (te : Nat) (de : Nat) (ps_5 : Int32) (p_2 : Nat) (te_f : Nat → Int32) (de_f : Nat → Int32) (we_f : Nat → Int32) (inp_f : Nat → Int32) (hk0 : p_2 ≤ 8) {X : g_X} {rr : (β : Type) → (Int32 → Int32 → (Nat → Int32) → (Nat → Int32) → Int32 → β) → β} (kx_ : (β : Type) → (Int32 → Int32 → (Nat → Int32) → (Nat → Int32) → Int32 → β) → Int32 → Int32 → (Nat → Int32) → (Nat → Int32) → Int32 → Int32 → Int32 → Int32 → β) (B : Bd E X cX6_foretell RX6 5 2 47 0 0) (hr : Rt E X (some .int) 0 0 (fun v_ w_ => ∃ zps_6 : Int32, ∃ zps_7 : Int32, ∃ zba_f : Nat → Int32, ∃ zgu_f : Nat → Int32, ∃ zr : Int32, (∀ (β : Type) (k_ : Int32 → Int32 → (Nat → Int32) → (Nat → Int32) → Int32 → β), rr β k_ = k_ zps_6 zps_7 zba_f zgu_f zr) ∧ v_ = some (.int zr) ∧ w_ = [(ps, .inr (6, [.ref p, .ref we, .ref inp, .ref ba, .ref gu, .int ps_5, .int zps_6, .int zps_7])), (p, .inr (7, [.ref te, .ref de, .int (nI p_2)])), (te, .inl (E.2.2.1 0, 8, .inl te_f)), (de, .inl (E.2.2.1 0, 8, .inl de_f)), (we, .inl (E.2.2.1 0, 16, .inl we_f)), (inp, .inl (E.2.2.1 0, 128, .inl inp_f)), (ba, .inl (E.2.2.1 0, 8, .inl zba_f)), (gu, .inl (E.2.2.1 0, 8, .inl zgu_f))])) (K : ∀ (ps_6 : Int32) (ps_7 : Int32) (ba_f : Nat → Int32) (gu_f : Nat → Int32) (l1 : Int32) (l2 : Int32) (l3 : Int32) (l4 : Int32), (∀ (β : Type) (k_ : Int32 → Int32 → (Nat → Int32) → (Nat → Int32) → Int32 → β), rr β k_ = kx_ β k_ ps_6 ps_7 ba_f gu_f l1 l2 l3 l4) → G E X 5 [(ps, .inr (6, [.ref p, .ref we, .ref inp, .ref ba, .ref gu, .int ps_5, .int ps_6, .int ps_7])), (p, .inr (7, [.ref te, .ref de, .int (nI p_2)])), (te, .inl (E.2.2.1 0, 8, .inl te_f)), (de, .inl (E.2.2.1 0, 8, .inl de_f)), (we, .inl (E.2.2.1 0, 16, .inl we_f)), (inp, .inl (E.2.2.1 0, 128, .inl inp_f)), (ba, .inl (E.2.2.1 0, 8, .inl ba_f)), (gu, .inl (E.2.2.1 0, 8, .inl gu_f))] 0 0 [(0, .ref ps), (1, .int l1), (2, .int l2), (3, .int l3), (4, .int l4)] 108 []) : ∀ (n : Nat) (ps_6 : Int32) (ps_7 : Int32) (ba_f : Nat → Int32) (gu_f : Nat → Int32) (l1 : Int32) (l2 : Int32) (l3 : Int32) (l4 : Int32), ¬ l4 < 0 → (Int32.toInt 8 - Int32.toInt l4).toNat < n → (∀ (β : Type) (k_ : Int32 → Int32 → (Nat → Int32) → (Nat → Int32) → Int32 → β), rr β k_ = lf_wk_X6_foretell_15 ps_5 p_2 te_f we_f inp_f β (kx_ β k_) n ps_6 ps_7 ba_f gu_f l1 l2 l3 l4) → G E X 5 [(ps, .inr (6, [.ref p, .ref we, .ref inp, .ref ba, .ref gu, .int ps_5, .int ps_6, .int ps_7])), (p, .inr (7, [.ref te, .ref de, .int (nI p_2)])), (te, .inl (E.2.2.1 0, 8, .inl te_f)), (de, .inl (E.2.2.1 0, 8, .inl de_f)), (we, .inl (E.2.2.1 0, 16, .inl we_f)), (inp, .inl (E.2.2.1 0, 128, .inl inp_f)), (ba, .inl (E.2.2.1 0, 8, .inl ba_f)), (gu, .inl (E.2.2.1 0, 8, .inl gu_f))] 0 0 [(0, .ref ps), (1, .int l1), (2, .int l2), (3, .int l3), (4, .int l4)] 15 [] := by
  intro n
  induction n with
  | zero => intro ps_6 ps_7 ba_f gu_f l1 l2 l3 l4 _ h _; exact absurd h (Nat.not_lt_zero _)
  | succ n ih =>
    intro ps_6 ps_7 ba_f gu_f l1 l2 l3 l4 hv0 hm e_
    replace e_ := fun β k_ => (e_ β k_).trans lf_wk_X6_foretell_15_s
    refine g_iload B dX6_foretell_15 4 rfl ?_
    refine g_aload_n B dX6_foretell_17 rfl 0 rfl ?_
    refine g_get B 0 0 fl_X6_12 rfl rfl dX6_foretell_18 ?_
    refine g_get B 1 2 fl_X6_47 rfl rfl dX6_foretell_21 ?_
    refine g_icmp_ge (tgt := 108) B dX6_foretell_24 (by decide) (fun c24_294 => ?_) (fun c24_294 => ?_)
    · replace e_ := fun β k_ => (e_ β k_).trans (if_pos c24_294)
      exact K ps_6 ps_7 ba_f gu_f l1 l2 l3 l4 e_
    · replace e_ := fun β k_ => (e_ β k_).trans (if_neg c24_294)
      refine g_iload B dX6_foretell_27 4 rfl ?_
      refine g_bipush (v := 8) B dX6_foretell_29 (by decide) ?_
      refine g_icmp_ge (tgt := 108) B dX6_foretell_31 (by decide) (fun c31_295 => ?_) (fun c31_295 => ?_)
      · replace e_ := fun β k_ => (e_ β k_).trans (if_pos c31_295)
        exact K ps_6 ps_7 ba_f gu_f l1 l2 l3 l4 e_
      · replace e_ := fun β k_ => (e_ β k_).trans (if_neg c31_295)
        refine g_aload_n B dX6_foretell_34 rfl 0 rfl ?_
        refine g_get B 0 3 fl_X6_25 rfl rfl dX6_foretell_35 ?_
        refine g_iload B dX6_foretell_38 4 rfl ?_
        refine g_aload_n B dX6_foretell_40 rfl 0 rfl ?_
        refine g_iload B dX6_foretell_41 4 rfl ?_
        refine g_aload_n B dX6_foretell_43 rfl 0 rfl ?_
        refine g_get B 0 0 fl_X6_12 rfl rfl dX6_foretell_44 ?_
        refine g_get B 1 0 fl_X6_50 rfl rfl dX6_foretell_47 ?_
        refine g_iload B dX6_foretell_50 4 rfl ?_
        refine g_iald B 2 rfl (in_lt (by decide) hv0 (o_2 c31_295)) dX6_foretell_52 ?_
        refine g_callV (st := [.int l4, .ref ba]) (As := [.int l4, .int (te_f (Int32.toNatClampNeg l4))]) (wr := [(p, .inr (7, [.ref te, .ref de, .int (nI p_2)])), (te, .inl (E.2.2.1 0, 8, .inl te_f)), (de, .inl (E.2.2.1 0, 8, .inl de_f)), (we, .inl (E.2.2.1 0, 16, .inl we_f)), (ba, .inl (E.2.2.1 0, 8, .inl ba_f)), (gu, .inl (E.2.2.1 0, 8, .inl gu_f))]) (nc' := 0) (ns' := 0) B cl_X6_53 w_im_X6_baseOf w_se_X6_baseOf (wk_X6_baseOf E ps p we inp ba gu ps_5 ps_6 ps_7 inp_f l4 (te_f (Int32.toNatClampNeg l4)) ) rfl [0, 5] [1, 2, 3, 4, 6, 7] rfl rfl (by decide) (by decide) (by decide) 0 rfl (fun q h => by cases h; rfl) rfl ⟨by decide, by decide⟩ rfl rfl (by decide) (by decide) rfl (Nat.le_of_ble_eq_true rfl) dX6_foretell_53 (fun v w hq => ?_)
        obtain ⟨zr_296, hz_297, rfl, rfl⟩ := hq
        replace e_ := fun β k_ => (e_ β k_).trans (hz_297 β _)
        show G E X 5 [(p, .inr (7, [.ref te, .ref de, .int (nI p_2)])), (te, .inl (E.2.2.1 0, 8, .inl te_f)), (de, .inl (E.2.2.1 0, 8, .inl de_f)), (we, .inl (E.2.2.1 0, 16, .inl we_f)), (ba, .inl (E.2.2.1 0, 8, .inl ba_f)), (gu, .inl (E.2.2.1 0, 8, .inl gu_f)), (ps, .inr (6, [.ref p, .ref we, .ref inp, .ref ba, .ref gu, .int ps_5, .int ps_6, .int ps_7])), (inp, .inl (E.2.2.1 0, 128, .inl inp_f))] 0 0 [(0, .ref ps), (1, .int l1), (2, .int l2), (3, .int l3), (4, .int l4)] 56 [.int zr_296, .int l4, .ref ba]
        refine g_iast (ws' := [(p, .inr (7, [.ref te, .ref de, .int (nI p_2)])), (te, .inl (E.2.2.1 0, 8, .inl te_f)), (de, .inl (E.2.2.1 0, 8, .inl de_f)), (we, .inl (E.2.2.1 0, 16, .inl we_f)), (ba, .inl (E.2.2.1 0, 8, .inl (upd ba_f (Int32.toNatClampNeg l4) zr_296))), (gu, .inl (E.2.2.1 0, 8, .inl gu_f)), (ps, .inr (6, [.ref p, .ref we, .ref inp, .ref ba, .ref gu, .int ps_5, .int ps_6, .int ps_7])), (inp, .inl (E.2.2.1 0, 128, .inl inp_f))]) B 4 rfl (in_lt (by decide) hv0 (o_2 c31_295)) rfl dX6_foretell_56 ?_
        refine g_aload_n B dX6_foretell_57 rfl 0 rfl ?_
        refine g_get B 6 4 fl_X6_28 rfl rfl dX6_foretell_58 ?_
        refine g_iload B dX6_foretell_61 4 rfl ?_
        refine g_aload_n B dX6_foretell_63 rfl 0 rfl ?_
        refine g_iload B dX6_foretell_64 4 rfl ?_
        refine g_aload_n B dX6_foretell_66 rfl 0 rfl ?_
        refine g_get B 6 7 fl_X6_38 rfl rfl dX6_foretell_67 ?_
        refine g_callV (st := [.int l4, .ref gu]) (As := [.int l4, .int ps_7]) (wr := [(p, .inr (7, [.ref te, .ref de, .int (nI p_2)])), (te, .inl (E.2.2.1 0, 8, .inl te_f)), (de, .inl (E.2.2.1 0, 8, .inl de_f)), (ba, .inl (E.2.2.1 0, 8, .inl (upd ba_f (Int32.toNatClampNeg l4) zr_296))), (gu, .inl (E.2.2.1 0, 8, .inl gu_f)), (inp, .inl (E.2.2.1 0, 128, .inl inp_f))]) (nc' := 0) (ns' := 0) B cl_X6_57 w_im_X6_weightOf w_se_X6_weightOf (wk_X6_weightOf E ps p we inp ba gu ps_5 ps_6 ps_7 we_f l4 ps_7 ) rfl [6, 3] [0, 1, 2, 4, 5, 7] rfl rfl (by decide) (by decide) (by decide) 0 rfl (fun q h => by cases h; rfl) rfl ⟨by decide, by decide⟩ rfl rfl (by decide) (by decide) rfl (Nat.le_of_ble_eq_true rfl) dX6_foretell_70 (fun v w hq => ?_)
        obtain ⟨zr_298, hz_299, rfl, rfl⟩ := hq
        replace e_ := fun β k_ => (e_ β k_).trans (hz_299 β _)
        show G E X 5 [(p, .inr (7, [.ref te, .ref de, .int (nI p_2)])), (te, .inl (E.2.2.1 0, 8, .inl te_f)), (de, .inl (E.2.2.1 0, 8, .inl de_f)), (ba, .inl (E.2.2.1 0, 8, .inl (upd ba_f (Int32.toNatClampNeg l4) zr_296))), (gu, .inl (E.2.2.1 0, 8, .inl gu_f)), (inp, .inl (E.2.2.1 0, 128, .inl inp_f)), (ps, .inr (6, [.ref p, .ref we, .ref inp, .ref ba, .ref gu, .int ps_5, .int ps_6, .int ps_7])), (we, .inl (E.2.2.1 0, 16, .inl we_f))] 0 0 [(0, .ref ps), (1, .int l1), (2, .int l2), (3, .int l3), (4, .int l4)] 73 [.int zr_298, .int l4, .ref gu]
        refine g_i2l B dX6_foretell_73 ?_
        refine g_aload_n B dX6_foretell_74 rfl 0 rfl ?_
        refine g_get B 6 3 fl_X6_25 rfl rfl dX6_foretell_75 ?_
        refine g_iload B dX6_foretell_78 4 rfl ?_
        refine g_iald B 3 rfl (in_lt (by decide) hv0 (o_2 c31_295)) dX6_foretell_80 ?_
        refine g_i2l B dX6_foretell_81 ?_
        refine g_lmul B dX6_foretell_82 ?_
        refine g_ldc2 (v := 512) B w_k_X6_60 dX6_foretell_83 ?_
        refine g_ladd B dX6_foretell_86 ?_
        refine g_bipush (v := 10) B dX6_foretell_87 (by decide) ?_
        refine g_lshr B dX6_foretell_89 ?_
        refine g_l2i B dX6_foretell_90 ?_
        refine g_topi (fun x_300 ex_300 => ?_)
        replace e_ := fun β k_ => (e_ β k_).trans (fnL_eq (x := x_300) ex_300.symm _)
        refine g_iast (ws' := [(p, .inr (7, [.ref te, .ref de, .int (nI p_2)])), (te, .inl (E.2.2.1 0, 8, .inl te_f)), (de, .inl (E.2.2.1 0, 8, .inl de_f)), (ba, .inl (E.2.2.1 0, 8, .inl (upd ba_f (Int32.toNatClampNeg l4) zr_296))), (gu, .inl (E.2.2.1 0, 8, .inl (upd gu_f (Int32.toNatClampNeg l4) x_300))), (inp, .inl (E.2.2.1 0, 128, .inl inp_f)), (ps, .inr (6, [.ref p, .ref we, .ref inp, .ref ba, .ref gu, .int ps_5, .int ps_6, .int ps_7])), (we, .inl (E.2.2.1 0, 16, .inl we_f))]) B 4 rfl (in_lt (by decide) hv0 (o_2 c31_295)) rfl dX6_foretell_91 ?_
        refine g_iload_n B dX6_foretell_92 rfl 3 rfl ?_
        refine g_aload_n B dX6_foretell_93 rfl 0 rfl ?_
        refine g_get B 6 4 fl_X6_28 rfl rfl dX6_foretell_94 ?_
        refine g_iload B dX6_foretell_97 4 rfl ?_
        refine g_iald B 4 rfl (in_lt (by decide) hv0 (o_2 c31_295)) dX6_foretell_99 ?_
        refine g_iadd B dX6_foretell_100 ?_
        refine g_istore_n (lv' := [(3, .int (l3 + ((upd gu_f (Int32.toNatClampNeg l4) x_300) (Int32.toNatClampNeg l4)))), (0, .ref ps), (1, .int l1), (2, .int l2), (4, .int l4)]) B dX6_foretell_101 rfl (by decide) rfl ?_
        refine g_iinc (v := (l4 + 1)) (lv' := [(4, .int (l4 + 1)), (3, .int (l3 + ((upd gu_f (Int32.toNatClampNeg l4) x_300) (Int32.toNatClampNeg l4)))), (0, .ref ps), (1, .int l1), (2, .int l2)]) B dX6_foretell_102 4 rfl rfl (by decide) rfl ?_
        refine g_goto (tgt := 15) B dX6_foretell_105 (by decide) ?_
        refine g_sub (ws' := [(ps, .inr (6, [.ref p, .ref we, .ref inp, .ref ba, .ref gu, .int ps_5, .int ps_6, .int ps_7])), (p, .inr (7, [.ref te, .ref de, .int (nI p_2)])), (te, .inl (E.2.2.1 0, 8, .inl te_f)), (de, .inl (E.2.2.1 0, 8, .inl de_f)), (we, .inl (E.2.2.1 0, 16, .inl we_f)), (inp, .inl (E.2.2.1 0, 128, .inl inp_f)), (ba, .inl (E.2.2.1 0, 8, .inl (upd ba_f (Int32.toNatClampNeg l4) zr_296))), (gu, .inl (E.2.2.1 0, 8, .inl (upd gu_f (Int32.toNatClampNeg l4) x_300)))]) [6, 0, 1, 2, 7, 5, 3, 4] (by decide) rfl ?_
        refine g_lvsub (lv' := [(0, .ref ps), (1, .int l1), (2, .int l2), (3, .int (l3 + ((upd gu_f (Int32.toNatClampNeg l4) x_300) (Int32.toNatClampNeg l4)))), (4, .int (l4 + 1))]) [2, 3, 4, 1, 0] rfl ?_
        exact ih ps_6 ps_7 (upd ba_f (Int32.toNatClampNeg l4) zr_296) (upd gu_f (Int32.toNatClampNeg l4) x_300) l1 l2 (l3 + ((upd gu_f (Int32.toNatClampNeg l4) x_300) (Int32.toNatClampNeg l4))) (l4 + 1) (inv_up hv0 (o_2 c31_295)) (Nat.lt_of_lt_of_le (st_up (o_2 c31_295)) (Nat.le_of_lt_succ hm)) e_
theorem dX6_foretell_108 : decode cX6_foretell 108 = .ok (.iload_n 3, 1) := by decide +kernel
theorem dX6_foretell_109 : decode cX6_foretell 109 = .ok (.ireturn, 1) := by decide +kernel
set_option maxRecDepth 100000 in
def fn_wk_X6_foretell (ps_5 : Int32) (p_2 : Nat) (te_f : Nat → Int32) (we_f : Nat → Int32) (inp_f : Nat → Int32) (ba_f : Nat → Int32) (gu_f : Nat → Int32) (fr_ : Int32) (ch_ : Int32) (β : Type) (k_ : Int32 → Int32 → (Nat → Int32) → (Nat → Int32) → Int32 → β) : β := (lf_wk_X6_foretell_15 ps_5 p_2 te_f we_f inp_f β (fun y_301ps_6 y_301ps_7 y_301ba_f y_301gu_f y_301l1 y_301l2 y_301l3 y_301l4 => (k_ y_301ps_6 y_301ps_7 y_301ba_f y_301gu_f y_301l3)) ((Int32.toInt 8 - Int32.toInt 0).toNat + 1) fr_ ch_ ba_f gu_f fr_ ch_ 0 0)
set_option maxRecDepth 100000 in
theorem fn_wk_X6_foretell_s {ps_5 : Int32} {p_2 : Nat} {te_f : Nat → Int32} {we_f : Nat → Int32} {inp_f : Nat → Int32} {ba_f : Nat → Int32} {gu_f : Nat → Int32} {fr_ : Int32} {ch_ : Int32} {β : Type} {k_ : Int32 → Int32 → (Nat → Int32) → (Nat → Int32) → Int32 → β} : fn_wk_X6_foretell ps_5 p_2 te_f we_f inp_f ba_f gu_f fr_ ch_ β k_ = (lf_wk_X6_foretell_15 ps_5 p_2 te_f we_f inp_f β (fun y_301ps_6 y_301ps_7 y_301ba_f y_301gu_f y_301l1 y_301l2 y_301l3 y_301l4 => (k_ y_301ps_6 y_301ps_7 y_301ba_f y_301gu_f y_301l3)) ((Int32.toInt 8 - Int32.toInt 0).toNat + 1) fr_ ch_ ba_f gu_f fr_ ch_ 0 0) := rfl
set_option maxRecDepth 100000 in
set_option maxHeartbeats 4000000 in
theorem wk_X6_foretell (E : g_E) (ps : Nat) (p : Nat) (we : Nat) (inp : Nat) (ba : Nat) (gu : Nat) (te : Nat) (de : Nat) (ps_5 : Int32) (p_2 : Nat) (te_f : Nat → Int32) (de_f : Nat → Int32) (we_f : Nat → Int32) (inp_f : Nat → Int32) (ps_6 : Int32) (ps_7 : Int32) (ba_f : Nat → Int32) (gu_f : Nat → Int32) (fr_ : Int32) (ch_ : Int32) (hk0 : p_2 ≤ 8) : Ev E MX6_foretell 2 47 0 0 [.ref ps, .int fr_, .int ch_] [(ps, .inr (6, [.ref p, .ref we, .ref inp, .ref ba, .ref gu, .int ps_5, .int ps_6, .int ps_7])), (p, .inr (7, [.ref te, .ref de, .int (nI p_2)])), (te, .inl (E.2.2.1 0, 8, .inl te_f)), (de, .inl (E.2.2.1 0, 8, .inl de_f)), (we, .inl (E.2.2.1 0, 16, .inl we_f)), (inp, .inl (E.2.2.1 0, 128, .inl inp_f)), (ba, .inl (E.2.2.1 0, 8, .inl ba_f)), (gu, .inl (E.2.2.1 0, 8, .inl gu_f))] (fun v_ w_ => ∃ zps_6 : Int32, ∃ zps_7 : Int32, ∃ zba_f : Nat → Int32, ∃ zgu_f : Nat → Int32, ∃ zr : Int32, (∀ (β : Type) (k_ : Int32 → Int32 → (Nat → Int32) → (Nat → Int32) → Int32 → β), fn_wk_X6_foretell ps_5 p_2 te_f we_f inp_f ba_f gu_f fr_ ch_ β k_ = k_ zps_6 zps_7 zba_f zgu_f zr) ∧ v_ = some (.int zr) ∧ w_ = [(ps, .inr (6, [.ref p, .ref we, .ref inp, .ref ba, .ref gu, .int ps_5, .int zps_6, .int zps_7])), (p, .inr (7, [.ref te, .ref de, .int (nI p_2)])), (te, .inl (E.2.2.1 0, 8, .inl te_f)), (de, .inl (E.2.2.1 0, 8, .inl de_f)), (we, .inl (E.2.2.1 0, 16, .inl we_f)), (inp, .inl (E.2.2.1 0, 128, .inl inp_f)), (ba, .inl (E.2.2.1 0, 8, .inl zba_f)), (gu, .inl (E.2.2.1 0, 8, .inl zgu_f))]) := by
  refine Ev.intro (by decide) (Nat.le_of_ble_eq_true rfl) ?_
  intro X B hr hI
  have B : Bd E X cX6_foretell RX6 5 2 47 0 0 := B
  have hr : Rt E X (some .int) 0 0 (fun v_ w_ => ∃ zps_6 : Int32, ∃ zps_7 : Int32, ∃ zba_f : Nat → Int32, ∃ zgu_f : Nat → Int32, ∃ zr : Int32, (∀ (β : Type) (k_ : Int32 → Int32 → (Nat → Int32) → (Nat → Int32) → Int32 → β), fn_wk_X6_foretell ps_5 p_2 te_f we_f inp_f ba_f gu_f fr_ ch_ β k_ = k_ zps_6 zps_7 zba_f zgu_f zr) ∧ v_ = some (.int zr) ∧ w_ = [(ps, .inr (6, [.ref p, .ref we, .ref inp, .ref ba, .ref gu, .int ps_5, .int zps_6, .int zps_7])), (p, .inr (7, [.ref te, .ref de, .int (nI p_2)])), (te, .inl (E.2.2.1 0, 8, .inl te_f)), (de, .inl (E.2.2.1 0, 8, .inl de_f)), (we, .inl (E.2.2.1 0, 16, .inl we_f)), (inp, .inl (E.2.2.1 0, 128, .inl inp_f)), (ba, .inl (E.2.2.1 0, 8, .inl zba_f)), (gu, .inl (E.2.2.1 0, 8, .inl zgu_f))]) := hr
  have e_ := fun (β : Type) (k_ : Int32 → Int32 → (Nat → Int32) → (Nat → Int32) → Int32 → β) => fn_wk_X6_foretell_s (β := β) (k_ := k_) (ps_5 := ps_5) (p_2 := p_2) (te_f := te_f) (we_f := we_f) (inp_f := inp_f) (ba_f := ba_f) (gu_f := gu_f) (fr_ := fr_) (ch_ := ch_)
  show G E X 5 [(ps, .inr (6, [.ref p, .ref we, .ref inp, .ref ba, .ref gu, .int ps_5, .int ps_6, .int ps_7])), (p, .inr (7, [.ref te, .ref de, .int (nI p_2)])), (te, .inl (E.2.2.1 0, 8, .inl te_f)), (de, .inl (E.2.2.1 0, 8, .inl de_f)), (we, .inl (E.2.2.1 0, 16, .inl we_f)), (inp, .inl (E.2.2.1 0, 128, .inl inp_f)), (ba, .inl (E.2.2.1 0, 8, .inl ba_f)), (gu, .inl (E.2.2.1 0, 8, .inl gu_f))] 0 0 [(0, .ref ps), (1, .int fr_), (2, .int ch_)] 0 []
  refine g_aload_n B dX6_foretell_0 rfl 0 rfl ?_
  refine g_iload_n B dX6_foretell_1 rfl 1 rfl ?_
  refine g_put (ws' := [(ps, .inr (6, [.ref p, .ref we, .ref inp, .ref ba, .ref gu, .int ps_5, .int fr_, .int ps_7])), (p, .inr (7, [.ref te, .ref de, .int (nI p_2)])), (te, .inl (E.2.2.1 0, 8, .inl te_f)), (de, .inl (E.2.2.1 0, 8, .inl de_f)), (we, .inl (E.2.2.1 0, 16, .inl we_f)), (inp, .inl (E.2.2.1 0, 128, .inl inp_f)), (ba, .inl (E.2.2.1 0, 8, .inl ba_f)), (gu, .inl (E.2.2.1 0, 8, .inl gu_f))]) B 0 6 fl_X6_35 pf_X6_6 rfl (Nat.le_of_ble_eq_true rfl) rfl rfl rfl dX6_foretell_2 ?_
  refine g_aload_n B dX6_foretell_5 rfl 0 rfl ?_
  refine g_iload_n B dX6_foretell_6 rfl 2 rfl ?_
  refine g_put (ws' := [(ps, .inr (6, [.ref p, .ref we, .ref inp, .ref ba, .ref gu, .int ps_5, .int fr_, .int ch_])), (p, .inr (7, [.ref te, .ref de, .int (nI p_2)])), (te, .inl (E.2.2.1 0, 8, .inl te_f)), (de, .inl (E.2.2.1 0, 8, .inl de_f)), (we, .inl (E.2.2.1 0, 16, .inl we_f)), (inp, .inl (E.2.2.1 0, 128, .inl inp_f)), (ba, .inl (E.2.2.1 0, 8, .inl ba_f)), (gu, .inl (E.2.2.1 0, 8, .inl gu_f))]) B 0 7 fl_X6_38 pf_X6_7 rfl (Nat.le_of_ble_eq_true rfl) rfl rfl rfl dX6_foretell_7 ?_
  refine g_iconst (v := 0) B dX6_foretell_10 (by decide) ?_
  refine g_istore_n (lv' := [(3, .int 0), (0, .ref ps), (1, .int fr_), (2, .int ch_)]) B dX6_foretell_11 rfl (by decide) rfl ?_
  refine g_iconst (v := 0) B dX6_foretell_12 (by decide) ?_
  refine g_istore (lv' := [(4, .int 0), (3, .int 0), (0, .ref ps), (1, .int fr_), (2, .int ch_)]) B dX6_foretell_13 (by decide) rfl ?_
  refine g_lvsub (lv' := [(0, .ref ps), (1, .int fr_), (2, .int ch_), (3, .int 0), (4, .int 0)]) [2, 3, 4, 1, 0] rfl ?_
  refine lp_wk_X6_foretell_15 E ps p we inp ba gu te de ps_5 p_2 te_f de_f we_f inp_f hk0 _ B hr (fun y_301ps_6 y_301ps_7 y_301ba_f y_301gu_f y_301l1 y_301l2 y_301l3 y_301l4 e_ => ?_) _ fr_ ch_ ba_f gu_f fr_ ch_ 0 0 (by decide) (Nat.lt_succ_self _) e_
  refine g_iload_n B dX6_foretell_108 rfl 3 rfl ?_
  exact g_iret B hr dX6_foretell_109 (by decide) (by decide) ⟨y_301ps_6, y_301ps_7, y_301ba_f, y_301gu_f, y_301l3, e_, rfl, rfl⟩
abbrev MX6_learn : g_M := (yX6_learn, cX6_learn, 5, (some .int))
theorem dX6_learn_0 : decode cX6_learn 0 = .ok (.iload_n 1, 1) := by decide +kernel
theorem dX6_learn_1 : decode cX6_learn 1 = .ok (.istore_n 2, 1) := by decide +kernel
theorem dX6_learn_2 : decode cX6_learn 2 = .ok (.aload_n 0, 1) := by decide +kernel
theorem dX6_learn_3 : decode cX6_learn 3 = .ok (.getfield 12, 3) := by decide +kernel
theorem dX6_learn_6 : decode cX6_learn 6 = .ok (.getfield 47, 3) := by decide +kernel
theorem dX6_learn_9 : decode cX6_learn 9 = .ok (.bipush 8, 2) := by decide +kernel
theorem dX6_learn_11 : decode cX6_learn 11 = .ok (.invokestatic 62, 3) := by decide +kernel
theorem dX6_learn_14 : decode cX6_learn 14 = .ok (.iconst 1, 1) := by decide +kernel
theorem dX6_learn_15 : decode cX6_learn 15 = .ok (.isub, 1) := by decide +kernel
theorem dX6_learn_16 : decode cX6_learn 16 = .ok (.istore_n 3, 1) := by decide +kernel
theorem dX6_learn_17 : decode cX6_learn 17 = .ok (.iload_n 3, 1) := by decide +kernel
theorem dX6_learn_18 : decode cX6_learn 18 = .ok (.ifCond .lt 112, 3) := by decide +kernel
theorem dX6_learn_21 : decode cX6_learn 21 = .ok (.aload_n 0, 1) := by decide +kernel
theorem dX6_learn_22 : decode cX6_learn 22 = .ok (.getfield 25, 3) := by decide +kernel
theorem dX6_learn_25 : decode cX6_learn 25 = .ok (.iload_n 3, 1) := by decide +kernel
theorem dX6_learn_26 : decode cX6_learn 26 = .ok (.iaload, 1) := by decide +kernel
theorem dX6_learn_27 : decode cX6_learn 27 = .ok (.ifCond .eq 72, 3) := by decide +kernel
theorem dX6_learn_99 : decode cX6_learn 99 = .ok (.iload_n 2, 1) := by decide +kernel
theorem dX6_learn_100 : decode cX6_learn 100 = .ok (.aload_n 0, 1) := by decide +kernel
theorem dX6_learn_101 : decode cX6_learn 101 = .ok (.getfield 28, 3) := by decide +kernel
theorem dX6_learn_104 : decode cX6_learn 104 = .ok (.iload_n 3, 1) := by decide +kernel
theorem dX6_learn_105 : decode cX6_learn 105 = .ok (.iaload, 1) := by decide +kernel
theorem dX6_learn_106 : decode cX6_learn 106 = .ok (.iadd, 1) := by decide +kernel
theorem dX6_learn_107 : decode cX6_learn 107 = .ok (.istore_n 2, 1) := by decide +kernel
theorem dX6_learn_108 : decode cX6_learn 108 = .ok (.aload_n 0, 1) := by decide +kernel
theorem dX6_learn_109 : decode cX6_learn 109 = .ok (.getfield 22, 3) := by decide +kernel
theorem dX6_learn_112 : decode cX6_learn 112 = .ok (.aload_n 0, 1) := by decide +kernel
theorem dX6_learn_113 : decode cX6_learn 113 = .ok (.iload_n 3, 1) := by decide +kernel
theorem dX6_learn_114 : decode cX6_learn 114 = .ok (.aload_n 0, 1) := by decide +kernel
theorem dX6_learn_115 : decode cX6_learn 115 = .ok (.getfield 38, 3) := by decide +kernel
theorem dX6_learn_118 : decode cX6_learn 118 = .ok (.iconst 0, 1) := by decide +kernel
theorem dX6_learn_119 : decode cX6_learn 119 = .ok (.invokevirtual 74, 3) := by decide +kernel
theorem dX6_learn_122 : decode cX6_learn 122 = .ok (.iload_n 2, 1) := by decide +kernel
theorem dX6_learn_123 : decode cX6_learn 123 = .ok (.iastore, 1) := by decide +kernel
theorem dX6_learn_124 : decode cX6_learn 124 = .ok (.iinc 3 (-1), 3) := by decide +kernel
theorem dX6_learn_127 : decode cX6_learn 127 = .ok (.goto (-110), 3) := by decide +kernel
theorem dX6_learn_30 : decode cX6_learn 30 = .ok (.iload_n 2, 1) := by decide +kernel
theorem dX6_learn_31 : decode cX6_learn 31 = .ok (.ifCond .eq 68, 3) := by decide +kernel
theorem dX6_learn_34 : decode cX6_learn 34 = .ok (.aload_n 0, 1) := by decide +kernel
theorem dX6_learn_35 : decode cX6_learn 35 = .ok (.getfield 25, 3) := by decide +kernel
theorem dX6_learn_38 : decode cX6_learn 38 = .ok (.iload_n 3, 1) := by decide +kernel
theorem dX6_learn_39 : decode cX6_learn 39 = .ok (.iaload, 1) := by decide +kernel
theorem dX6_learn_40 : decode cX6_learn 40 = .ok (.ifCond .ge 7, 3) := by decide +kernel
theorem dX6_learn_47 : decode cX6_learn 47 = .ok (.iconst 0, 1) := by decide +kernel
theorem dX6_learn_48 : decode cX6_learn 48 = .ok (.iload_n 2, 1) := by decide +kernel
theorem dX6_learn_49 : decode cX6_learn 49 = .ok (.ifCond .ge 7, 3) := by decide +kernel
theorem dX6_learn_56 : decode cX6_learn 56 = .ok (.iconst 0, 1) := by decide +kernel
theorem dX6_learn_57 : decode cX6_learn 57 = .ok (.if_icmp .ne 7, 3) := by decide +kernel
theorem dX6_learn_60 : decode cX6_learn 60 = .ok (.iconst 1, 1) := by decide +kernel
theorem dX6_learn_61 : decode cX6_learn 61 = .ok (.goto 4, 3) := by decide +kernel
theorem dX6_learn_65 : decode cX6_learn 65 = .ok (.istore 4, 2) := by decide +kernel
theorem dX6_learn_67 : decode cX6_learn 67 = .ok (.aload_n 0, 1) := by decide +kernel
theorem dX6_learn_68 : decode cX6_learn 68 = .ok (.iload_n 3, 1) := by decide +kernel
theorem dX6_learn_69 : decode cX6_learn 69 = .ok (.iload 4, 2) := by decide +kernel
theorem dX6_learn_71 : decode cX6_learn 71 = .ok (.ifCond .eq 15, 3) := by decide +kernel
theorem dX6_learn_74 : decode cX6_learn 74 = .ok (.aload_n 0, 1) := by decide +kernel
theorem dX6_learn_75 : decode cX6_learn 75 = .ok (.getfield 12, 3) := by decide +kernel
theorem dX6_learn_78 : decode cX6_learn 78 = .ok (.getfield 67, 3) := by decide +kernel
theorem w_fl_X6_67 : Cond.fieldLink RX6 67 (TX7 1).1 (TX7 1).2.1 (TX7 1).2.2.1 ∈ g_tbl := g_tbl_in 104 (by decide +kernel) (by decide +kernel)
theorem fl_X6_67 : FL RX6 67 7 1 := ⟨RX7, TX7, 3, rfl, by decide, inX_X7, w_fl_X6_67⟩
theorem dX6_learn_81 : decode cX6_learn 81 = .ok (.iload_n 3, 1) := by decide +kernel
theorem dX6_learn_82 : decode cX6_learn 82 = .ok (.iaload, 1) := by decide +kernel
theorem dX6_learn_83 : decode cX6_learn 83 = .ok (.goto 13, 3) := by decide +kernel
theorem dX6_learn_96 : decode cX6_learn 96 = .ok (.invokevirtual 70, 3) := by decide +kernel
theorem w_ml_X6_70 : Cond.methodLink RX6 70 yX6_moveWeight ∈ g_tbl := g_tbl_in 541 (by decide +kernel) (by decide +kernel)
theorem w_cd_X6_moveWeight : g_cw MX6_moveWeight ∈ g_tbl := g_tbl_in 544 (by decide +kernel) (by decide +kernel)
theorem cl_X6_70 : CL RX6 70 2 MX6_moveWeight := ⟨w_ml_X6_70, w_cd_X6_moveWeight, w_ini_X6, by decide +kernel, by decide +kernel, by decide +kernel⟩
theorem w_im_X6_moveWeight : Cond.instanceMethod yX6_moveWeight ∈ g_tbl := g_tbl_in 543 (by decide +kernel) (by decide +kernel)
theorem w_se_X6_moveWeight : Cond.selects RX6 yX6_moveWeight yX6_moveWeight ∈ g_tbl := g_tbl_in 8 (by decide +kernel) (by decide +kernel)
theorem dX6_learn_52 : decode cX6_learn 52 = .ok (.iconst 1, 1) := by decide +kernel
theorem dX6_learn_53 : decode cX6_learn 53 = .ok (.goto 4, 3) := by decide +kernel
theorem dX6_learn_64 : decode cX6_learn 64 = .ok (.iconst 0, 1) := by decide +kernel
theorem dX6_learn_86 : decode cX6_learn 86 = .ok (.aload_n 0, 1) := by decide +kernel
theorem dX6_learn_87 : decode cX6_learn 87 = .ok (.getfield 12, 3) := by decide +kernel
theorem dX6_learn_90 : decode cX6_learn 90 = .ok (.getfield 67, 3) := by decide +kernel
theorem dX6_learn_93 : decode cX6_learn 93 = .ok (.iload_n 3, 1) := by decide +kernel
theorem dX6_learn_94 : decode cX6_learn 94 = .ok (.iaload, 1) := by decide +kernel
theorem dX6_learn_95 : decode cX6_learn 95 = .ok (.ineg, 1) := by decide +kernel
theorem dX6_learn_43 : decode cX6_learn 43 = .ok (.iconst 1, 1) := by decide +kernel
theorem dX6_learn_44 : decode cX6_learn 44 = .ok (.goto 4, 3) := by decide +kernel
set_option maxRecDepth 100000 in
def lf_wk_X6_learn_17 (ps_6 : Int32) (ps_7 : Int32) (de_f : Nat → Int32) (ba_f : Nat → Int32) (gu_f : Nat → Int32) (β : Type) (kx_ : (Nat → Int32) → (Nat → Int32) → Int32 → Int32 → Int32 → β)  : Nat → (Nat → Int32) → (Nat → Int32) → Int32 → Int32 → Int32 → β
  | 0, we_f, inp_f, l1, l2, l3 => kx_ we_f inp_f l1 l2 l3
  | fuel + 1, we_f, inp_f, l1, l2, l3 => (if l3 < 0 then (kx_ we_f inp_f l1 l2 l3) else (if (ba_f (Int32.toNatClampNeg l3)) = 0 then (lf_wk_X6_learn_17 ps_6 ps_7 de_f ba_f gu_f β kx_ fuel we_f (upd inp_f (Int32.toNatClampNeg ((((l3 &&& 7) * 16) + ((ps_7 &&& 1) * 8)) + ((ps_6 - 0) &&& 7))) (l2 + (gu_f (Int32.toNatClampNeg l3)))) l1 (l2 + (gu_f (Int32.toNatClampNeg l3))) (l3 + (-1))) else (if l2 = 0 then (lf_wk_X6_learn_17 ps_6 ps_7 de_f ba_f gu_f β kx_ fuel we_f (upd inp_f (Int32.toNatClampNeg ((((l3 &&& 7) * 16) + ((ps_7 &&& 1) * 8)) + ((ps_6 - 0) &&& 7))) (l2 + (gu_f (Int32.toNatClampNeg l3)))) l1 (l2 + (gu_f (Int32.toNatClampNeg l3))) (l3 + (-1))) else (if 0 ≤ (ba_f (Int32.toNatClampNeg l3)) then (if 0 ≤ l2 then (fn_wk_X6_moveWeight ps_7 we_f l3 (de_f (Int32.toNatClampNeg l3)) β (fun zwe_f_309 => (lf_wk_X6_learn_17 ps_6 ps_7 de_f ba_f gu_f β kx_ fuel zwe_f_309 (upd inp_f (Int32.toNatClampNeg ((((l3 &&& 7) * 16) + ((ps_7 &&& 1) * 8)) + ((ps_6 - 0) &&& 7))) (l2 + (gu_f (Int32.toNatClampNeg l3)))) l1 (l2 + (gu_f (Int32.toNatClampNeg l3))) (l3 + (-1))))) else (fn_wk_X6_moveWeight ps_7 we_f l3 (-(de_f (Int32.toNatClampNeg l3))) β (fun zwe_f_312 => (lf_wk_X6_learn_17 ps_6 ps_7 de_f ba_f gu_f β kx_ fuel zwe_f_312 (upd inp_f (Int32.toNatClampNeg ((((l3 &&& 7) * 16) + ((ps_7 &&& 1) * 8)) + ((ps_6 - 0) &&& 7))) (l2 + (gu_f (Int32.toNatClampNeg l3)))) l1 (l2 + (gu_f (Int32.toNatClampNeg l3))) (l3 + (-1)))))) else (if 0 ≤ l2 then (fn_wk_X6_moveWeight ps_7 we_f l3 (-(de_f (Int32.toNatClampNeg l3))) β (fun zwe_f_316 => (lf_wk_X6_learn_17 ps_6 ps_7 de_f ba_f gu_f β kx_ fuel zwe_f_316 (upd inp_f (Int32.toNatClampNeg ((((l3 &&& 7) * 16) + ((ps_7 &&& 1) * 8)) + ((ps_6 - 0) &&& 7))) (l2 + (gu_f (Int32.toNatClampNeg l3)))) l1 (l2 + (gu_f (Int32.toNatClampNeg l3))) (l3 + (-1))))) else (fn_wk_X6_moveWeight ps_7 we_f l3 (de_f (Int32.toNatClampNeg l3)) β (fun zwe_f_319 => (lf_wk_X6_learn_17 ps_6 ps_7 de_f ba_f gu_f β kx_ fuel zwe_f_319 (upd inp_f (Int32.toNatClampNeg ((((l3 &&& 7) * 16) + ((ps_7 &&& 1) * 8)) + ((ps_6 - 0) &&& 7))) (l2 + (gu_f (Int32.toNatClampNeg l3)))) l1 (l2 + (gu_f (Int32.toNatClampNeg l3))) (l3 + (-1))))))))))
set_option maxRecDepth 100000 in
theorem lf_wk_X6_learn_17_s {ps_6 : Int32} {ps_7 : Int32} {de_f : Nat → Int32} {ba_f : Nat → Int32} {gu_f : Nat → Int32} {β : Type} {kx_ : (Nat → Int32) → (Nat → Int32) → Int32 → Int32 → Int32 → β}  {fuel : Nat} {we_f : Nat → Int32} {inp_f : Nat → Int32} {l1 : Int32} {l2 : Int32} {l3 : Int32} : lf_wk_X6_learn_17 ps_6 ps_7 de_f ba_f gu_f β kx_  (fuel + 1) we_f inp_f l1 l2 l3 = (if l3 < 0 then (kx_ we_f inp_f l1 l2 l3) else (if (ba_f (Int32.toNatClampNeg l3)) = 0 then (lf_wk_X6_learn_17 ps_6 ps_7 de_f ba_f gu_f β kx_ fuel we_f (upd inp_f (Int32.toNatClampNeg ((((l3 &&& 7) * 16) + ((ps_7 &&& 1) * 8)) + ((ps_6 - 0) &&& 7))) (l2 + (gu_f (Int32.toNatClampNeg l3)))) l1 (l2 + (gu_f (Int32.toNatClampNeg l3))) (l3 + (-1))) else (if l2 = 0 then (lf_wk_X6_learn_17 ps_6 ps_7 de_f ba_f gu_f β kx_ fuel we_f (upd inp_f (Int32.toNatClampNeg ((((l3 &&& 7) * 16) + ((ps_7 &&& 1) * 8)) + ((ps_6 - 0) &&& 7))) (l2 + (gu_f (Int32.toNatClampNeg l3)))) l1 (l2 + (gu_f (Int32.toNatClampNeg l3))) (l3 + (-1))) else (if 0 ≤ (ba_f (Int32.toNatClampNeg l3)) then (if 0 ≤ l2 then (fn_wk_X6_moveWeight ps_7 we_f l3 (de_f (Int32.toNatClampNeg l3)) β (fun zwe_f_309 => (lf_wk_X6_learn_17 ps_6 ps_7 de_f ba_f gu_f β kx_ fuel zwe_f_309 (upd inp_f (Int32.toNatClampNeg ((((l3 &&& 7) * 16) + ((ps_7 &&& 1) * 8)) + ((ps_6 - 0) &&& 7))) (l2 + (gu_f (Int32.toNatClampNeg l3)))) l1 (l2 + (gu_f (Int32.toNatClampNeg l3))) (l3 + (-1))))) else (fn_wk_X6_moveWeight ps_7 we_f l3 (-(de_f (Int32.toNatClampNeg l3))) β (fun zwe_f_312 => (lf_wk_X6_learn_17 ps_6 ps_7 de_f ba_f gu_f β kx_ fuel zwe_f_312 (upd inp_f (Int32.toNatClampNeg ((((l3 &&& 7) * 16) + ((ps_7 &&& 1) * 8)) + ((ps_6 - 0) &&& 7))) (l2 + (gu_f (Int32.toNatClampNeg l3)))) l1 (l2 + (gu_f (Int32.toNatClampNeg l3))) (l3 + (-1)))))) else (if 0 ≤ l2 then (fn_wk_X6_moveWeight ps_7 we_f l3 (-(de_f (Int32.toNatClampNeg l3))) β (fun zwe_f_316 => (lf_wk_X6_learn_17 ps_6 ps_7 de_f ba_f gu_f β kx_ fuel zwe_f_316 (upd inp_f (Int32.toNatClampNeg ((((l3 &&& 7) * 16) + ((ps_7 &&& 1) * 8)) + ((ps_6 - 0) &&& 7))) (l2 + (gu_f (Int32.toNatClampNeg l3)))) l1 (l2 + (gu_f (Int32.toNatClampNeg l3))) (l3 + (-1))))) else (fn_wk_X6_moveWeight ps_7 we_f l3 (de_f (Int32.toNatClampNeg l3)) β (fun zwe_f_319 => (lf_wk_X6_learn_17 ps_6 ps_7 de_f ba_f gu_f β kx_ fuel zwe_f_319 (upd inp_f (Int32.toNatClampNeg ((((l3 &&& 7) * 16) + ((ps_7 &&& 1) * 8)) + ((ps_6 - 0) &&& 7))) (l2 + (gu_f (Int32.toNatClampNeg l3)))) l1 (l2 + (gu_f (Int32.toNatClampNeg l3))) (l3 + (-1)))))))))) := rfl
set_option maxRecDepth 100000 in
set_option maxHeartbeats 4000000 in
theorem lp_wk_X6_learn_17 (E : g_E) (ps : Nat) (p : Nat) (we : Nat) (inp : Nat) (ba : Nat) (gu : Nat) (te : Nat) (de : Nat) (ps_5 : Int32) (ps_6 : Int32) (ps_7 : Int32) (p_2 : Nat) (te_f : Nat → Int32) (de_f : Nat → Int32) (ba_f : Nat → Int32) (gu_f : Nat → Int32) (hk0 : p_2 ≤ 8) {X : g_X} {rr : (β : Type) → ((Nat → Int32) → (Nat → Int32) → Int32 → β) → β} (kx_ : (β : Type) → ((Nat → Int32) → (Nat → Int32) → Int32 → β) → (Nat → Int32) → (Nat → Int32) → Int32 → Int32 → Int32 → β) (B : Bd E X cX6_learn RX6 5 2 46 0 0) (hr : Rt E X (some .int) 0 0 (fun v_ w_ => ∃ zwe_f : Nat → Int32, ∃ zinp_f : Nat → Int32, ∃ zr : Int32, (∀ (β : Type) (k_ : (Nat → Int32) → (Nat → Int32) → Int32 → β), rr β k_ = k_ zwe_f zinp_f zr) ∧ v_ = some (.int zr) ∧ w_ = [(ps, .inr (6, [.ref p, .ref we, .ref inp, .ref ba, .ref gu, .int ps_5, .int ps_6, .int ps_7])), (p, .inr (7, [.ref te, .ref de, .int (nI p_2)])), (te, .inl (E.2.2.1 0, 8, .inl te_f)), (de, .inl (E.2.2.1 0, 8, .inl de_f)), (we, .inl (E.2.2.1 0, 16, .inl zwe_f)), (inp, .inl (E.2.2.1 0, 128, .inl zinp_f)), (ba, .inl (E.2.2.1 0, 8, .inl ba_f)), (gu, .inl (E.2.2.1 0, 8, .inl gu_f))])) (K : ∀ (we_f : Nat → Int32) (inp_f : Nat → Int32) (l1 : Int32) (l2 : Int32) (l3 : Int32), (∀ (β : Type) (k_ : (Nat → Int32) → (Nat → Int32) → Int32 → β), rr β k_ = kx_ β k_ we_f inp_f l1 l2 l3) → G E X 5 [(ps, .inr (6, [.ref p, .ref we, .ref inp, .ref ba, .ref gu, .int ps_5, .int ps_6, .int ps_7])), (p, .inr (7, [.ref te, .ref de, .int (nI p_2)])), (te, .inl (E.2.2.1 0, 8, .inl te_f)), (de, .inl (E.2.2.1 0, 8, .inl de_f)), (we, .inl (E.2.2.1 0, 16, .inl we_f)), (inp, .inl (E.2.2.1 0, 128, .inl inp_f)), (ba, .inl (E.2.2.1 0, 8, .inl ba_f)), (gu, .inl (E.2.2.1 0, 8, .inl gu_f))] 0 0 [(0, .ref ps), (1, .int l1), (2, .int l2), (3, .int l3)] 130 []) : ∀ (n : Nat) (we_f : Nat → Int32) (inp_f : Nat → Int32) (l1 : Int32) (l2 : Int32) (l3 : Int32), l3 < 8 → (Int32.toInt l3 + 1).toNat < n → (∀ (β : Type) (k_ : (Nat → Int32) → (Nat → Int32) → Int32 → β), rr β k_ = lf_wk_X6_learn_17 ps_6 ps_7 de_f ba_f gu_f β (kx_ β k_) n we_f inp_f l1 l2 l3) → G E X 5 [(ps, .inr (6, [.ref p, .ref we, .ref inp, .ref ba, .ref gu, .int ps_5, .int ps_6, .int ps_7])), (p, .inr (7, [.ref te, .ref de, .int (nI p_2)])), (te, .inl (E.2.2.1 0, 8, .inl te_f)), (de, .inl (E.2.2.1 0, 8, .inl de_f)), (we, .inl (E.2.2.1 0, 16, .inl we_f)), (inp, .inl (E.2.2.1 0, 128, .inl inp_f)), (ba, .inl (E.2.2.1 0, 8, .inl ba_f)), (gu, .inl (E.2.2.1 0, 8, .inl gu_f))] 0 0 [(0, .ref ps), (1, .int l1), (2, .int l2), (3, .int l3)] 17 [] := by
  intro n
  induction n with
  | zero => intro we_f inp_f l1 l2 l3 _ h _; exact absurd h (Nat.not_lt_zero _)
  | succ n ih =>
    intro we_f inp_f l1 l2 l3 hv0 hm e_
    replace e_ := fun β k_ => (e_ β k_).trans lf_wk_X6_learn_17_s
    refine g_iload_n B dX6_learn_17 rfl 3 rfl ?_
    refine g_if_lt (tgt := 130) B dX6_learn_18 (by decide) (fun c18_302 => ?_) (fun c18_302 => ?_)
    · replace e_ := fun β k_ => (e_ β k_).trans (if_pos c18_302)
      exact K we_f inp_f l1 l2 l3 e_
    · replace e_ := fun β k_ => (e_ β k_).trans (if_neg c18_302)
      refine g_aload_n B dX6_learn_21 rfl 0 rfl ?_
      refine g_get B 0 3 fl_X6_25 rfl rfl dX6_learn_22 ?_
      refine g_iload_n B dX6_learn_25 rfl 3 rfl ?_
      refine g_iald B 6 rfl (in_lt (by decide) c18_302 hv0) dX6_learn_26 ?_
      refine g_if_eq (tgt := 99) B dX6_learn_27 (by decide) (fun c27_303 => ?_) (fun c27_303 => ?_)
      · replace e_ := fun β k_ => (e_ β k_).trans (if_pos c27_303)
        refine g_iload_n B dX6_learn_99 rfl 2 rfl ?_
        refine g_aload_n B dX6_learn_100 rfl 0 rfl ?_
        refine g_get B 0 4 fl_X6_28 rfl rfl dX6_learn_101 ?_
        refine g_iload_n B dX6_learn_104 rfl 3 rfl ?_
        refine g_iald B 7 rfl (in_lt (by decide) c18_302 hv0) dX6_learn_105 ?_
        refine g_iadd B dX6_learn_106 ?_
        refine g_istore_n (lv' := [(2, .int (l2 + (gu_f (Int32.toNatClampNeg l3)))), (0, .ref ps), (1, .int l1), (3, .int l3)]) B dX6_learn_107 rfl (by decide) rfl ?_
        refine g_aload_n B dX6_learn_108 rfl 1 rfl ?_
        refine g_get B 0 2 fl_X6_22 rfl rfl dX6_learn_109 ?_
        refine g_aload_n B dX6_learn_112 rfl 1 rfl ?_
        refine g_iload_n B dX6_learn_113 rfl 3 rfl ?_
        refine g_aload_n B dX6_learn_114 rfl 1 rfl ?_
        refine g_get B 0 7 fl_X6_38 rfl rfl dX6_learn_115 ?_
        refine g_iconst (v := 0) B dX6_learn_118 (by decide) ?_
        refine g_callV (st := [.ref inp]) (As := [.int l3, .int ps_7, .int 0]) (wr := [(p, .inr (7, [.ref te, .ref de, .int (nI p_2)])), (te, .inl (E.2.2.1 0, 8, .inl te_f)), (de, .inl (E.2.2.1 0, 8, .inl de_f)), (we, .inl (E.2.2.1 0, 16, .inl we_f)), (inp, .inl (E.2.2.1 0, 128, .inl inp_f)), (ba, .inl (E.2.2.1 0, 8, .inl ba_f)), (gu, .inl (E.2.2.1 0, 8, .inl gu_f))]) (nc' := 0) (ns' := 0) B cl_X6_74 w_im_X6_slot w_se_X6_slot (ev_X6_slot E ps p we inp ba gu ps_5 ps_6 ps_7 l3 ps_7 0 ) rfl [0] [1, 2, 3, 4, 5, 6, 7] rfl rfl (by decide) (by decide) (by decide) 0 rfl (fun q h => by cases h; rfl) rfl ⟨by decide, by decide⟩ rfl rfl (by decide) (by decide) rfl (Nat.le_of_ble_eq_true rfl) dX6_learn_119 (fun v w hq => ?_)
        obtain ⟨rfl, rfl⟩ := hq
        show G E X 5 [(p, .inr (7, [.ref te, .ref de, .int (nI p_2)])), (te, .inl (E.2.2.1 0, 8, .inl te_f)), (de, .inl (E.2.2.1 0, 8, .inl de_f)), (we, .inl (E.2.2.1 0, 16, .inl we_f)), (inp, .inl (E.2.2.1 0, 128, .inl inp_f)), (ba, .inl (E.2.2.1 0, 8, .inl ba_f)), (gu, .inl (E.2.2.1 0, 8, .inl gu_f)), (ps, .inr (6, [.ref p, .ref we, .ref inp, .ref ba, .ref gu, .int ps_5, .int ps_6, .int ps_7]))] 0 0 [(2, .int (l2 + (gu_f (Int32.toNatClampNeg l3)))), (0, .ref ps), (1, .int l1), (3, .int l3)] 122 [.int ((((l3 &&& 7) * 16) + ((ps_7 &&& 1) * 8)) + ((ps_6 - 0) &&& 7)), .ref inp]
        refine g_iload_n B dX6_learn_122 rfl 0 rfl ?_
        refine g_iast (ws' := [(p, .inr (7, [.ref te, .ref de, .int (nI p_2)])), (te, .inl (E.2.2.1 0, 8, .inl te_f)), (de, .inl (E.2.2.1 0, 8, .inl de_f)), (we, .inl (E.2.2.1 0, 16, .inl we_f)), (inp, .inl (E.2.2.1 0, 128, .inl (upd inp_f (Int32.toNatClampNeg ((((l3 &&& 7) * 16) + ((ps_7 &&& 1) * 8)) + ((ps_6 - 0) &&& 7))) (l2 + (gu_f (Int32.toNatClampNeg l3)))))), (ba, .inl (E.2.2.1 0, 8, .inl ba_f)), (gu, .inl (E.2.2.1 0, 8, .inl gu_f)), (ps, .inr (6, [.ref p, .ref we, .ref inp, .ref ba, .ref gu, .int ps_5, .int ps_6, .int ps_7]))]) B 4 rfl (in_sl _ _ _) rfl dX6_learn_123 ?_
        refine g_iinc (v := (l3 + (-1))) (lv' := [(3, .int (l3 + (-1))), (2, .int (l2 + (gu_f (Int32.toNatClampNeg l3)))), (0, .ref ps), (1, .int l1)]) B dX6_learn_124 3 rfl rfl (by decide) rfl ?_
        refine g_goto (tgt := 17) B dX6_learn_127 (by decide) ?_
        refine g_sub (ws' := [(ps, .inr (6, [.ref p, .ref we, .ref inp, .ref ba, .ref gu, .int ps_5, .int ps_6, .int ps_7])), (p, .inr (7, [.ref te, .ref de, .int (nI p_2)])), (te, .inl (E.2.2.1 0, 8, .inl te_f)), (de, .inl (E.2.2.1 0, 8, .inl de_f)), (we, .inl (E.2.2.1 0, 16, .inl we_f)), (inp, .inl (E.2.2.1 0, 128, .inl (upd inp_f (Int32.toNatClampNeg ((((l3 &&& 7) * 16) + ((ps_7 &&& 1) * 8)) + ((ps_6 - 0) &&& 7))) (l2 + (gu_f (Int32.toNatClampNeg l3)))))), (ba, .inl (E.2.2.1 0, 8, .inl ba_f)), (gu, .inl (E.2.2.1 0, 8, .inl gu_f))]) [7, 0, 1, 2, 3, 4, 5, 6] (by decide) rfl ?_
        refine g_lvsub (lv' := [(0, .ref ps), (1, .int l1), (2, .int (l2 + (gu_f (Int32.toNatClampNeg l3)))), (3, .int (l3 + (-1)))]) [2, 3, 1, 0] rfl ?_
        exact ih we_f (upd inp_f (Int32.toNatClampNeg ((((l3 &&& 7) * 16) + ((ps_7 &&& 1) * 8)) + ((ps_6 - 0) &&& 7))) (l2 + (gu_f (Int32.toNatClampNeg l3)))) l1 (l2 + (gu_f (Int32.toNatClampNeg l3))) (l3 + (-1)) (lr_s c18_302 hv0) (Nat.lt_of_lt_of_le (st_dn c18_302) (Nat.le_of_lt_succ hm)) e_
      · replace e_ := fun β k_ => (e_ β k_).trans (if_neg c27_303)
        refine g_iload_n B dX6_learn_30 rfl 2 rfl ?_
        refine g_if_eq (tgt := 99) B dX6_learn_31 (by decide) (fun c31_305 => ?_) (fun c31_305 => ?_)
        · replace e_ := fun β k_ => (e_ β k_).trans (if_pos c31_305)
          refine g_iload_n B dX6_learn_99 rfl 2 rfl ?_
          refine g_aload_n B dX6_learn_100 rfl 0 rfl ?_
          refine g_get B 0 4 fl_X6_28 rfl rfl dX6_learn_101 ?_
          refine g_iload_n B dX6_learn_104 rfl 3 rfl ?_
          refine g_iald B 7 rfl (in_lt (by decide) c18_302 hv0) dX6_learn_105 ?_
          refine g_iadd B dX6_learn_106 ?_
          refine g_istore_n (lv' := [(2, .int (l2 + (gu_f (Int32.toNatClampNeg l3)))), (0, .ref ps), (1, .int l1), (3, .int l3)]) B dX6_learn_107 rfl (by decide) rfl ?_
          refine g_aload_n B dX6_learn_108 rfl 1 rfl ?_
          refine g_get B 0 2 fl_X6_22 rfl rfl dX6_learn_109 ?_
          refine g_aload_n B dX6_learn_112 rfl 1 rfl ?_
          refine g_iload_n B dX6_learn_113 rfl 3 rfl ?_
          refine g_aload_n B dX6_learn_114 rfl 1 rfl ?_
          refine g_get B 0 7 fl_X6_38 rfl rfl dX6_learn_115 ?_
          refine g_iconst (v := 0) B dX6_learn_118 (by decide) ?_
          refine g_callV (st := [.ref inp]) (As := [.int l3, .int ps_7, .int 0]) (wr := [(p, .inr (7, [.ref te, .ref de, .int (nI p_2)])), (te, .inl (E.2.2.1 0, 8, .inl te_f)), (de, .inl (E.2.2.1 0, 8, .inl de_f)), (we, .inl (E.2.2.1 0, 16, .inl we_f)), (inp, .inl (E.2.2.1 0, 128, .inl inp_f)), (ba, .inl (E.2.2.1 0, 8, .inl ba_f)), (gu, .inl (E.2.2.1 0, 8, .inl gu_f))]) (nc' := 0) (ns' := 0) B cl_X6_74 w_im_X6_slot w_se_X6_slot (ev_X6_slot E ps p we inp ba gu ps_5 ps_6 ps_7 l3 ps_7 0 ) rfl [0] [1, 2, 3, 4, 5, 6, 7] rfl rfl (by decide) (by decide) (by decide) 0 rfl (fun q h => by cases h; rfl) rfl ⟨by decide, by decide⟩ rfl rfl (by decide) (by decide) rfl (Nat.le_of_ble_eq_true rfl) dX6_learn_119 (fun v w hq => ?_)
          obtain ⟨rfl, rfl⟩ := hq
          show G E X 5 [(p, .inr (7, [.ref te, .ref de, .int (nI p_2)])), (te, .inl (E.2.2.1 0, 8, .inl te_f)), (de, .inl (E.2.2.1 0, 8, .inl de_f)), (we, .inl (E.2.2.1 0, 16, .inl we_f)), (inp, .inl (E.2.2.1 0, 128, .inl inp_f)), (ba, .inl (E.2.2.1 0, 8, .inl ba_f)), (gu, .inl (E.2.2.1 0, 8, .inl gu_f)), (ps, .inr (6, [.ref p, .ref we, .ref inp, .ref ba, .ref gu, .int ps_5, .int ps_6, .int ps_7]))] 0 0 [(2, .int (l2 + (gu_f (Int32.toNatClampNeg l3)))), (0, .ref ps), (1, .int l1), (3, .int l3)] 122 [.int ((((l3 &&& 7) * 16) + ((ps_7 &&& 1) * 8)) + ((ps_6 - 0) &&& 7)), .ref inp]
          refine g_iload_n B dX6_learn_122 rfl 0 rfl ?_
          refine g_iast (ws' := [(p, .inr (7, [.ref te, .ref de, .int (nI p_2)])), (te, .inl (E.2.2.1 0, 8, .inl te_f)), (de, .inl (E.2.2.1 0, 8, .inl de_f)), (we, .inl (E.2.2.1 0, 16, .inl we_f)), (inp, .inl (E.2.2.1 0, 128, .inl (upd inp_f (Int32.toNatClampNeg ((((l3 &&& 7) * 16) + ((ps_7 &&& 1) * 8)) + ((ps_6 - 0) &&& 7))) (l2 + (gu_f (Int32.toNatClampNeg l3)))))), (ba, .inl (E.2.2.1 0, 8, .inl ba_f)), (gu, .inl (E.2.2.1 0, 8, .inl gu_f)), (ps, .inr (6, [.ref p, .ref we, .ref inp, .ref ba, .ref gu, .int ps_5, .int ps_6, .int ps_7]))]) B 4 rfl (in_sl _ _ _) rfl dX6_learn_123 ?_
          refine g_iinc (v := (l3 + (-1))) (lv' := [(3, .int (l3 + (-1))), (2, .int (l2 + (gu_f (Int32.toNatClampNeg l3)))), (0, .ref ps), (1, .int l1)]) B dX6_learn_124 3 rfl rfl (by decide) rfl ?_
          refine g_goto (tgt := 17) B dX6_learn_127 (by decide) ?_
          refine g_sub (ws' := [(ps, .inr (6, [.ref p, .ref we, .ref inp, .ref ba, .ref gu, .int ps_5, .int ps_6, .int ps_7])), (p, .inr (7, [.ref te, .ref de, .int (nI p_2)])), (te, .inl (E.2.2.1 0, 8, .inl te_f)), (de, .inl (E.2.2.1 0, 8, .inl de_f)), (we, .inl (E.2.2.1 0, 16, .inl we_f)), (inp, .inl (E.2.2.1 0, 128, .inl (upd inp_f (Int32.toNatClampNeg ((((l3 &&& 7) * 16) + ((ps_7 &&& 1) * 8)) + ((ps_6 - 0) &&& 7))) (l2 + (gu_f (Int32.toNatClampNeg l3)))))), (ba, .inl (E.2.2.1 0, 8, .inl ba_f)), (gu, .inl (E.2.2.1 0, 8, .inl gu_f))]) [7, 0, 1, 2, 3, 4, 5, 6] (by decide) rfl ?_
          refine g_lvsub (lv' := [(0, .ref ps), (1, .int l1), (2, .int (l2 + (gu_f (Int32.toNatClampNeg l3)))), (3, .int (l3 + (-1)))]) [2, 3, 1, 0] rfl ?_
          exact ih we_f (upd inp_f (Int32.toNatClampNeg ((((l3 &&& 7) * 16) + ((ps_7 &&& 1) * 8)) + ((ps_6 - 0) &&& 7))) (l2 + (gu_f (Int32.toNatClampNeg l3)))) l1 (l2 + (gu_f (Int32.toNatClampNeg l3))) (l3 + (-1)) (lr_s c18_302 hv0) (Nat.lt_of_lt_of_le (st_dn c18_302) (Nat.le_of_lt_succ hm)) e_
        · replace e_ := fun β k_ => (e_ β k_).trans (if_neg c31_305)
          refine g_aload_n B dX6_learn_34 rfl 0 rfl ?_
          refine g_get B 0 3 fl_X6_25 rfl rfl dX6_learn_35 ?_
          refine g_iload_n B dX6_learn_38 rfl 3 rfl ?_
          refine g_iald B 6 rfl (in_lt (by decide) c18_302 hv0) dX6_learn_39 ?_
          refine g_if_ge (tgt := 47) B dX6_learn_40 (by decide) (fun c40_307 => ?_) (fun c40_307 => ?_)
          · replace e_ := fun β k_ => (e_ β k_).trans (if_pos c40_307)
            refine g_iconst (v := 0) B dX6_learn_47 (by decide) ?_
            refine g_iload_n B dX6_learn_48 rfl 2 rfl ?_
            refine g_if_ge (tgt := 56) B dX6_learn_49 (by decide) (fun c49_308 => ?_) (fun c49_308 => ?_)
            · replace e_ := fun β k_ => (e_ β k_).trans (if_pos c49_308)
              refine g_iconst (v := 0) B dX6_learn_56 (by decide) ?_
              refine g_icmp_ne (tgt := 64) B dX6_learn_57 (by decide) (fun h => absurd (by decide) h) (fun c57 => ?_)
              refine g_iconst (v := 1) B dX6_learn_60 (by decide) ?_
              refine g_goto (tgt := 65) B dX6_learn_61 (by decide) ?_
              refine g_istore (lv' := [(4, .int 1), (0, .ref ps), (1, .int l1), (2, .int l2), (3, .int l3)]) B dX6_learn_65 (by decide) rfl ?_
              refine g_aload_n B dX6_learn_67 rfl 1 rfl ?_
              refine g_iload_n B dX6_learn_68 rfl 4 rfl ?_
              refine g_iload B dX6_learn_69 0 rfl ?_
              refine g_if_eq (tgt := 86) B dX6_learn_71 (by decide) (fun h => absurd h (by decide)) (fun c71 => ?_)
              refine g_aload_n B dX6_learn_74 rfl 1 rfl ?_
              refine g_get B 0 0 fl_X6_12 rfl rfl dX6_learn_75 ?_
              refine g_get B 1 1 fl_X6_67 rfl rfl dX6_learn_78 ?_
              refine g_iload_n B dX6_learn_81 rfl 4 rfl ?_
              refine g_iald B 3 rfl (in_lt (by decide) c18_302 hv0) dX6_learn_82 ?_
              refine g_goto (tgt := 96) B dX6_learn_83 (by decide) ?_
              refine g_callV (st := []) (As := [.int l3, .int (de_f (Int32.toNatClampNeg l3))]) (wr := [(p, .inr (7, [.ref te, .ref de, .int (nI p_2)])), (te, .inl (E.2.2.1 0, 8, .inl te_f)), (de, .inl (E.2.2.1 0, 8, .inl de_f)), (inp, .inl (E.2.2.1 0, 128, .inl inp_f)), (ba, .inl (E.2.2.1 0, 8, .inl ba_f)), (gu, .inl (E.2.2.1 0, 8, .inl gu_f))]) (nc' := 0) (ns' := 0) B cl_X6_70 w_im_X6_moveWeight w_se_X6_moveWeight (wk_X6_moveWeight E ps p we inp ba gu ps_5 ps_6 ps_7 we_f l3 (de_f (Int32.toNatClampNeg l3)) ) rfl [0, 4] [1, 2, 3, 5, 6, 7] rfl rfl (by decide) (by decide) (by decide) 0 rfl (fun q h => by cases h; rfl) rfl ⟨by decide, by decide⟩ rfl rfl (by decide) (by decide) rfl (Nat.le_of_ble_eq_true rfl) dX6_learn_96 (fun v w hq => ?_)
              obtain ⟨zwe_f_309, hz_310, rfl, rfl⟩ := hq
              replace e_ := fun β k_ => (e_ β k_).trans (hz_310 β _)
              show G E X 5 [(p, .inr (7, [.ref te, .ref de, .int (nI p_2)])), (te, .inl (E.2.2.1 0, 8, .inl te_f)), (de, .inl (E.2.2.1 0, 8, .inl de_f)), (inp, .inl (E.2.2.1 0, 128, .inl inp_f)), (ba, .inl (E.2.2.1 0, 8, .inl ba_f)), (gu, .inl (E.2.2.1 0, 8, .inl gu_f)), (ps, .inr (6, [.ref p, .ref we, .ref inp, .ref ba, .ref gu, .int ps_5, .int ps_6, .int ps_7])), (we, .inl (E.2.2.1 0, 16, .inl zwe_f_309))] 0 0 [(4, .int 1), (0, .ref ps), (1, .int l1), (2, .int l2), (3, .int l3)] 99 []
              refine g_iload_n B dX6_learn_99 rfl 3 rfl ?_
              refine g_aload_n B dX6_learn_100 rfl 1 rfl ?_
              refine g_get B 6 4 fl_X6_28 rfl rfl dX6_learn_101 ?_
              refine g_iload_n B dX6_learn_104 rfl 4 rfl ?_
              refine g_iald B 5 rfl (in_lt (by decide) c18_302 hv0) dX6_learn_105 ?_
              refine g_iadd B dX6_learn_106 ?_
              refine g_istore_n (lv' := [(2, .int (l2 + (gu_f (Int32.toNatClampNeg l3)))), (4, .int 1), (0, .ref ps), (1, .int l1), (3, .int l3)]) B dX6_learn_107 rfl (by decide) rfl ?_
              refine g_aload_n B dX6_learn_108 rfl 2 rfl ?_
              refine g_get B 6 2 fl_X6_22 rfl rfl dX6_learn_109 ?_
              refine g_aload_n B dX6_learn_112 rfl 2 rfl ?_
              refine g_iload_n B dX6_learn_113 rfl 4 rfl ?_
              refine g_aload_n B dX6_learn_114 rfl 2 rfl ?_
              refine g_get B 6 7 fl_X6_38 rfl rfl dX6_learn_115 ?_
              refine g_iconst (v := 0) B dX6_learn_118 (by decide) ?_
              refine g_callV (st := [.ref inp]) (As := [.int l3, .int ps_7, .int 0]) (wr := [(p, .inr (7, [.ref te, .ref de, .int (nI p_2)])), (te, .inl (E.2.2.1 0, 8, .inl te_f)), (de, .inl (E.2.2.1 0, 8, .inl de_f)), (inp, .inl (E.2.2.1 0, 128, .inl inp_f)), (ba, .inl (E.2.2.1 0, 8, .inl ba_f)), (gu, .inl (E.2.2.1 0, 8, .inl gu_f)), (we, .inl (E.2.2.1 0, 16, .inl zwe_f_309))]) (nc' := 0) (ns' := 0) B cl_X6_74 w_im_X6_slot w_se_X6_slot (ev_X6_slot E ps p we inp ba gu ps_5 ps_6 ps_7 l3 ps_7 0 ) rfl [6] [0, 1, 2, 3, 4, 5, 7] rfl rfl (by decide) (by decide) (by decide) 0 rfl (fun q h => by cases h; rfl) rfl ⟨by decide, by decide⟩ rfl rfl (by decide) (by decide) rfl (Nat.le_of_ble_eq_true rfl) dX6_learn_119 (fun v w hq => ?_)
              obtain ⟨rfl, rfl⟩ := hq
              show G E X 5 [(p, .inr (7, [.ref te, .ref de, .int (nI p_2)])), (te, .inl (E.2.2.1 0, 8, .inl te_f)), (de, .inl (E.2.2.1 0, 8, .inl de_f)), (inp, .inl (E.2.2.1 0, 128, .inl inp_f)), (ba, .inl (E.2.2.1 0, 8, .inl ba_f)), (gu, .inl (E.2.2.1 0, 8, .inl gu_f)), (we, .inl (E.2.2.1 0, 16, .inl zwe_f_309)), (ps, .inr (6, [.ref p, .ref we, .ref inp, .ref ba, .ref gu, .int ps_5, .int ps_6, .int ps_7]))] 0 0 [(2, .int (l2 + (gu_f (Int32.toNatClampNeg l3)))), (4, .int 1), (0, .ref ps), (1, .int l1), (3, .int l3)] 122 [.int ((((l3 &&& 7) * 16) + ((ps_7 &&& 1) * 8)) + ((ps_6 - 0) &&& 7)), .ref inp]
              refine g_iload_n B dX6_learn_122 rfl 0 rfl ?_
              refine g_iast (ws' := [(p, .inr (7, [.ref te, .ref de, .int (nI p_2)])), (te, .inl (E.2.2.1 0, 8, .inl te_f)), (de, .inl (E.2.2.1 0, 8, .inl de_f)), (inp, .inl (E.2.2.1 0, 128, .inl (upd inp_f (Int32.toNatClampNeg ((((l3 &&& 7) * 16) + ((ps_7 &&& 1) * 8)) + ((ps_6 - 0) &&& 7))) (l2 + (gu_f (Int32.toNatClampNeg l3)))))), (ba, .inl (E.2.2.1 0, 8, .inl ba_f)), (gu, .inl (E.2.2.1 0, 8, .inl gu_f)), (we, .inl (E.2.2.1 0, 16, .inl zwe_f_309)), (ps, .inr (6, [.ref p, .ref we, .ref inp, .ref ba, .ref gu, .int ps_5, .int ps_6, .int ps_7]))]) B 3 rfl (in_sl _ _ _) rfl dX6_learn_123 ?_
              refine g_iinc (v := (l3 + (-1))) (lv' := [(3, .int (l3 + (-1))), (2, .int (l2 + (gu_f (Int32.toNatClampNeg l3)))), (4, .int 1), (0, .ref ps), (1, .int l1)]) B dX6_learn_124 4 rfl rfl (by decide) rfl ?_
              refine g_goto (tgt := 17) B dX6_learn_127 (by decide) ?_
              refine g_sub (ws' := [(ps, .inr (6, [.ref p, .ref we, .ref inp, .ref ba, .ref gu, .int ps_5, .int ps_6, .int ps_7])), (p, .inr (7, [.ref te, .ref de, .int (nI p_2)])), (te, .inl (E.2.2.1 0, 8, .inl te_f)), (de, .inl (E.2.2.1 0, 8, .inl de_f)), (we, .inl (E.2.2.1 0, 16, .inl zwe_f_309)), (inp, .inl (E.2.2.1 0, 128, .inl (upd inp_f (Int32.toNatClampNeg ((((l3 &&& 7) * 16) + ((ps_7 &&& 1) * 8)) + ((ps_6 - 0) &&& 7))) (l2 + (gu_f (Int32.toNatClampNeg l3)))))), (ba, .inl (E.2.2.1 0, 8, .inl ba_f)), (gu, .inl (E.2.2.1 0, 8, .inl gu_f))]) [7, 0, 1, 2, 6, 3, 4, 5] (by decide) rfl ?_
              refine g_lvsub (lv' := [(0, .ref ps), (1, .int l1), (2, .int (l2 + (gu_f (Int32.toNatClampNeg l3)))), (3, .int (l3 + (-1)))]) [3, 4, 1, 0] rfl ?_
              exact ih zwe_f_309 (upd inp_f (Int32.toNatClampNeg ((((l3 &&& 7) * 16) + ((ps_7 &&& 1) * 8)) + ((ps_6 - 0) &&& 7))) (l2 + (gu_f (Int32.toNatClampNeg l3)))) l1 (l2 + (gu_f (Int32.toNatClampNeg l3))) (l3 + (-1)) (lr_s c18_302 hv0) (Nat.lt_of_lt_of_le (st_dn c18_302) (Nat.le_of_lt_succ hm)) e_
            · replace e_ := fun β k_ => (e_ β k_).trans (if_neg c49_308)
              refine g_iconst (v := 1) B dX6_learn_52 (by decide) ?_
              refine g_goto (tgt := 57) B dX6_learn_53 (by decide) ?_
              refine g_icmp_ne (tgt := 64) B dX6_learn_57 (by decide) (fun c57 => ?_) (fun h => absurd h (by decide))
              refine g_iconst (v := 0) B dX6_learn_64 (by decide) ?_
              refine g_istore (lv' := [(4, .int 0), (0, .ref ps), (1, .int l1), (2, .int l2), (3, .int l3)]) B dX6_learn_65 (by decide) rfl ?_
              refine g_aload_n B dX6_learn_67 rfl 1 rfl ?_
              refine g_iload_n B dX6_learn_68 rfl 4 rfl ?_
              refine g_iload B dX6_learn_69 0 rfl ?_
              refine g_if_eq (tgt := 86) B dX6_learn_71 (by decide) (fun c71 => ?_) (fun h => absurd (by decide) h)
              refine g_aload_n B dX6_learn_86 rfl 1 rfl ?_
              refine g_get B 0 0 fl_X6_12 rfl rfl dX6_learn_87 ?_
              refine g_get B 1 1 fl_X6_67 rfl rfl dX6_learn_90 ?_
              refine g_iload_n B dX6_learn_93 rfl 4 rfl ?_
              refine g_iald B 3 rfl (in_lt (by decide) c18_302 hv0) dX6_learn_94 ?_
              refine g_ineg B dX6_learn_95 ?_
              refine g_callV (st := []) (As := [.int l3, .int (-(de_f (Int32.toNatClampNeg l3)))]) (wr := [(p, .inr (7, [.ref te, .ref de, .int (nI p_2)])), (te, .inl (E.2.2.1 0, 8, .inl te_f)), (de, .inl (E.2.2.1 0, 8, .inl de_f)), (inp, .inl (E.2.2.1 0, 128, .inl inp_f)), (ba, .inl (E.2.2.1 0, 8, .inl ba_f)), (gu, .inl (E.2.2.1 0, 8, .inl gu_f))]) (nc' := 0) (ns' := 0) B cl_X6_70 w_im_X6_moveWeight w_se_X6_moveWeight (wk_X6_moveWeight E ps p we inp ba gu ps_5 ps_6 ps_7 we_f l3 (-(de_f (Int32.toNatClampNeg l3))) ) rfl [0, 4] [1, 2, 3, 5, 6, 7] rfl rfl (by decide) (by decide) (by decide) 0 rfl (fun q h => by cases h; rfl) rfl ⟨by decide, by decide⟩ rfl rfl (by decide) (by decide) rfl (Nat.le_of_ble_eq_true rfl) dX6_learn_96 (fun v w hq => ?_)
              obtain ⟨zwe_f_312, hz_313, rfl, rfl⟩ := hq
              replace e_ := fun β k_ => (e_ β k_).trans (hz_313 β _)
              show G E X 5 [(p, .inr (7, [.ref te, .ref de, .int (nI p_2)])), (te, .inl (E.2.2.1 0, 8, .inl te_f)), (de, .inl (E.2.2.1 0, 8, .inl de_f)), (inp, .inl (E.2.2.1 0, 128, .inl inp_f)), (ba, .inl (E.2.2.1 0, 8, .inl ba_f)), (gu, .inl (E.2.2.1 0, 8, .inl gu_f)), (ps, .inr (6, [.ref p, .ref we, .ref inp, .ref ba, .ref gu, .int ps_5, .int ps_6, .int ps_7])), (we, .inl (E.2.2.1 0, 16, .inl zwe_f_312))] 0 0 [(4, .int 0), (0, .ref ps), (1, .int l1), (2, .int l2), (3, .int l3)] 99 []
              refine g_iload_n B dX6_learn_99 rfl 3 rfl ?_
              refine g_aload_n B dX6_learn_100 rfl 1 rfl ?_
              refine g_get B 6 4 fl_X6_28 rfl rfl dX6_learn_101 ?_
              refine g_iload_n B dX6_learn_104 rfl 4 rfl ?_
              refine g_iald B 5 rfl (in_lt (by decide) c18_302 hv0) dX6_learn_105 ?_
              refine g_iadd B dX6_learn_106 ?_
              refine g_istore_n (lv' := [(2, .int (l2 + (gu_f (Int32.toNatClampNeg l3)))), (4, .int 0), (0, .ref ps), (1, .int l1), (3, .int l3)]) B dX6_learn_107 rfl (by decide) rfl ?_
              refine g_aload_n B dX6_learn_108 rfl 2 rfl ?_
              refine g_get B 6 2 fl_X6_22 rfl rfl dX6_learn_109 ?_
              refine g_aload_n B dX6_learn_112 rfl 2 rfl ?_
              refine g_iload_n B dX6_learn_113 rfl 4 rfl ?_
              refine g_aload_n B dX6_learn_114 rfl 2 rfl ?_
              refine g_get B 6 7 fl_X6_38 rfl rfl dX6_learn_115 ?_
              refine g_iconst (v := 0) B dX6_learn_118 (by decide) ?_
              refine g_callV (st := [.ref inp]) (As := [.int l3, .int ps_7, .int 0]) (wr := [(p, .inr (7, [.ref te, .ref de, .int (nI p_2)])), (te, .inl (E.2.2.1 0, 8, .inl te_f)), (de, .inl (E.2.2.1 0, 8, .inl de_f)), (inp, .inl (E.2.2.1 0, 128, .inl inp_f)), (ba, .inl (E.2.2.1 0, 8, .inl ba_f)), (gu, .inl (E.2.2.1 0, 8, .inl gu_f)), (we, .inl (E.2.2.1 0, 16, .inl zwe_f_312))]) (nc' := 0) (ns' := 0) B cl_X6_74 w_im_X6_slot w_se_X6_slot (ev_X6_slot E ps p we inp ba gu ps_5 ps_6 ps_7 l3 ps_7 0 ) rfl [6] [0, 1, 2, 3, 4, 5, 7] rfl rfl (by decide) (by decide) (by decide) 0 rfl (fun q h => by cases h; rfl) rfl ⟨by decide, by decide⟩ rfl rfl (by decide) (by decide) rfl (Nat.le_of_ble_eq_true rfl) dX6_learn_119 (fun v w hq => ?_)
              obtain ⟨rfl, rfl⟩ := hq
              show G E X 5 [(p, .inr (7, [.ref te, .ref de, .int (nI p_2)])), (te, .inl (E.2.2.1 0, 8, .inl te_f)), (de, .inl (E.2.2.1 0, 8, .inl de_f)), (inp, .inl (E.2.2.1 0, 128, .inl inp_f)), (ba, .inl (E.2.2.1 0, 8, .inl ba_f)), (gu, .inl (E.2.2.1 0, 8, .inl gu_f)), (we, .inl (E.2.2.1 0, 16, .inl zwe_f_312)), (ps, .inr (6, [.ref p, .ref we, .ref inp, .ref ba, .ref gu, .int ps_5, .int ps_6, .int ps_7]))] 0 0 [(2, .int (l2 + (gu_f (Int32.toNatClampNeg l3)))), (4, .int 0), (0, .ref ps), (1, .int l1), (3, .int l3)] 122 [.int ((((l3 &&& 7) * 16) + ((ps_7 &&& 1) * 8)) + ((ps_6 - 0) &&& 7)), .ref inp]
              refine g_iload_n B dX6_learn_122 rfl 0 rfl ?_
              refine g_iast (ws' := [(p, .inr (7, [.ref te, .ref de, .int (nI p_2)])), (te, .inl (E.2.2.1 0, 8, .inl te_f)), (de, .inl (E.2.2.1 0, 8, .inl de_f)), (inp, .inl (E.2.2.1 0, 128, .inl (upd inp_f (Int32.toNatClampNeg ((((l3 &&& 7) * 16) + ((ps_7 &&& 1) * 8)) + ((ps_6 - 0) &&& 7))) (l2 + (gu_f (Int32.toNatClampNeg l3)))))), (ba, .inl (E.2.2.1 0, 8, .inl ba_f)), (gu, .inl (E.2.2.1 0, 8, .inl gu_f)), (we, .inl (E.2.2.1 0, 16, .inl zwe_f_312)), (ps, .inr (6, [.ref p, .ref we, .ref inp, .ref ba, .ref gu, .int ps_5, .int ps_6, .int ps_7]))]) B 3 rfl (in_sl _ _ _) rfl dX6_learn_123 ?_
              refine g_iinc (v := (l3 + (-1))) (lv' := [(3, .int (l3 + (-1))), (2, .int (l2 + (gu_f (Int32.toNatClampNeg l3)))), (4, .int 0), (0, .ref ps), (1, .int l1)]) B dX6_learn_124 4 rfl rfl (by decide) rfl ?_
              refine g_goto (tgt := 17) B dX6_learn_127 (by decide) ?_
              refine g_sub (ws' := [(ps, .inr (6, [.ref p, .ref we, .ref inp, .ref ba, .ref gu, .int ps_5, .int ps_6, .int ps_7])), (p, .inr (7, [.ref te, .ref de, .int (nI p_2)])), (te, .inl (E.2.2.1 0, 8, .inl te_f)), (de, .inl (E.2.2.1 0, 8, .inl de_f)), (we, .inl (E.2.2.1 0, 16, .inl zwe_f_312)), (inp, .inl (E.2.2.1 0, 128, .inl (upd inp_f (Int32.toNatClampNeg ((((l3 &&& 7) * 16) + ((ps_7 &&& 1) * 8)) + ((ps_6 - 0) &&& 7))) (l2 + (gu_f (Int32.toNatClampNeg l3)))))), (ba, .inl (E.2.2.1 0, 8, .inl ba_f)), (gu, .inl (E.2.2.1 0, 8, .inl gu_f))]) [7, 0, 1, 2, 6, 3, 4, 5] (by decide) rfl ?_
              refine g_lvsub (lv' := [(0, .ref ps), (1, .int l1), (2, .int (l2 + (gu_f (Int32.toNatClampNeg l3)))), (3, .int (l3 + (-1)))]) [3, 4, 1, 0] rfl ?_
              exact ih zwe_f_312 (upd inp_f (Int32.toNatClampNeg ((((l3 &&& 7) * 16) + ((ps_7 &&& 1) * 8)) + ((ps_6 - 0) &&& 7))) (l2 + (gu_f (Int32.toNatClampNeg l3)))) l1 (l2 + (gu_f (Int32.toNatClampNeg l3))) (l3 + (-1)) (lr_s c18_302 hv0) (Nat.lt_of_lt_of_le (st_dn c18_302) (Nat.le_of_lt_succ hm)) e_
          · replace e_ := fun β k_ => (e_ β k_).trans (if_neg c40_307)
            refine g_iconst (v := 1) B dX6_learn_43 (by decide) ?_
            refine g_goto (tgt := 48) B dX6_learn_44 (by decide) ?_
            refine g_iload_n B dX6_learn_48 rfl 2 rfl ?_
            refine g_if_ge (tgt := 56) B dX6_learn_49 (by decide) (fun c49_315 => ?_) (fun c49_315 => ?_)
            · replace e_ := fun β k_ => (e_ β k_).trans (if_pos c49_315)
              refine g_iconst (v := 0) B dX6_learn_56 (by decide) ?_
              refine g_icmp_ne (tgt := 64) B dX6_learn_57 (by decide) (fun c57 => ?_) (fun h => absurd h (by decide))
              refine g_iconst (v := 0) B dX6_learn_64 (by decide) ?_
              refine g_istore (lv' := [(4, .int 0), (0, .ref ps), (1, .int l1), (2, .int l2), (3, .int l3)]) B dX6_learn_65 (by decide) rfl ?_
              refine g_aload_n B dX6_learn_67 rfl 1 rfl ?_
              refine g_iload_n B dX6_learn_68 rfl 4 rfl ?_
              refine g_iload B dX6_learn_69 0 rfl ?_
              refine g_if_eq (tgt := 86) B dX6_learn_71 (by decide) (fun c71 => ?_) (fun h => absurd (by decide) h)
              refine g_aload_n B dX6_learn_86 rfl 1 rfl ?_
              refine g_get B 0 0 fl_X6_12 rfl rfl dX6_learn_87 ?_
              refine g_get B 1 1 fl_X6_67 rfl rfl dX6_learn_90 ?_
              refine g_iload_n B dX6_learn_93 rfl 4 rfl ?_
              refine g_iald B 3 rfl (in_lt (by decide) c18_302 hv0) dX6_learn_94 ?_
              refine g_ineg B dX6_learn_95 ?_
              refine g_callV (st := []) (As := [.int l3, .int (-(de_f (Int32.toNatClampNeg l3)))]) (wr := [(p, .inr (7, [.ref te, .ref de, .int (nI p_2)])), (te, .inl (E.2.2.1 0, 8, .inl te_f)), (de, .inl (E.2.2.1 0, 8, .inl de_f)), (inp, .inl (E.2.2.1 0, 128, .inl inp_f)), (ba, .inl (E.2.2.1 0, 8, .inl ba_f)), (gu, .inl (E.2.2.1 0, 8, .inl gu_f))]) (nc' := 0) (ns' := 0) B cl_X6_70 w_im_X6_moveWeight w_se_X6_moveWeight (wk_X6_moveWeight E ps p we inp ba gu ps_5 ps_6 ps_7 we_f l3 (-(de_f (Int32.toNatClampNeg l3))) ) rfl [0, 4] [1, 2, 3, 5, 6, 7] rfl rfl (by decide) (by decide) (by decide) 0 rfl (fun q h => by cases h; rfl) rfl ⟨by decide, by decide⟩ rfl rfl (by decide) (by decide) rfl (Nat.le_of_ble_eq_true rfl) dX6_learn_96 (fun v w hq => ?_)
              obtain ⟨zwe_f_316, hz_317, rfl, rfl⟩ := hq
              replace e_ := fun β k_ => (e_ β k_).trans (hz_317 β _)
              show G E X 5 [(p, .inr (7, [.ref te, .ref de, .int (nI p_2)])), (te, .inl (E.2.2.1 0, 8, .inl te_f)), (de, .inl (E.2.2.1 0, 8, .inl de_f)), (inp, .inl (E.2.2.1 0, 128, .inl inp_f)), (ba, .inl (E.2.2.1 0, 8, .inl ba_f)), (gu, .inl (E.2.2.1 0, 8, .inl gu_f)), (ps, .inr (6, [.ref p, .ref we, .ref inp, .ref ba, .ref gu, .int ps_5, .int ps_6, .int ps_7])), (we, .inl (E.2.2.1 0, 16, .inl zwe_f_316))] 0 0 [(4, .int 0), (0, .ref ps), (1, .int l1), (2, .int l2), (3, .int l3)] 99 []
              refine g_iload_n B dX6_learn_99 rfl 3 rfl ?_
              refine g_aload_n B dX6_learn_100 rfl 1 rfl ?_
              refine g_get B 6 4 fl_X6_28 rfl rfl dX6_learn_101 ?_
              refine g_iload_n B dX6_learn_104 rfl 4 rfl ?_
              refine g_iald B 5 rfl (in_lt (by decide) c18_302 hv0) dX6_learn_105 ?_
              refine g_iadd B dX6_learn_106 ?_
              refine g_istore_n (lv' := [(2, .int (l2 + (gu_f (Int32.toNatClampNeg l3)))), (4, .int 0), (0, .ref ps), (1, .int l1), (3, .int l3)]) B dX6_learn_107 rfl (by decide) rfl ?_
              refine g_aload_n B dX6_learn_108 rfl 2 rfl ?_
              refine g_get B 6 2 fl_X6_22 rfl rfl dX6_learn_109 ?_
              refine g_aload_n B dX6_learn_112 rfl 2 rfl ?_
              refine g_iload_n B dX6_learn_113 rfl 4 rfl ?_
              refine g_aload_n B dX6_learn_114 rfl 2 rfl ?_
              refine g_get B 6 7 fl_X6_38 rfl rfl dX6_learn_115 ?_
              refine g_iconst (v := 0) B dX6_learn_118 (by decide) ?_
              refine g_callV (st := [.ref inp]) (As := [.int l3, .int ps_7, .int 0]) (wr := [(p, .inr (7, [.ref te, .ref de, .int (nI p_2)])), (te, .inl (E.2.2.1 0, 8, .inl te_f)), (de, .inl (E.2.2.1 0, 8, .inl de_f)), (inp, .inl (E.2.2.1 0, 128, .inl inp_f)), (ba, .inl (E.2.2.1 0, 8, .inl ba_f)), (gu, .inl (E.2.2.1 0, 8, .inl gu_f)), (we, .inl (E.2.2.1 0, 16, .inl zwe_f_316))]) (nc' := 0) (ns' := 0) B cl_X6_74 w_im_X6_slot w_se_X6_slot (ev_X6_slot E ps p we inp ba gu ps_5 ps_6 ps_7 l3 ps_7 0 ) rfl [6] [0, 1, 2, 3, 4, 5, 7] rfl rfl (by decide) (by decide) (by decide) 0 rfl (fun q h => by cases h; rfl) rfl ⟨by decide, by decide⟩ rfl rfl (by decide) (by decide) rfl (Nat.le_of_ble_eq_true rfl) dX6_learn_119 (fun v w hq => ?_)
              obtain ⟨rfl, rfl⟩ := hq
              show G E X 5 [(p, .inr (7, [.ref te, .ref de, .int (nI p_2)])), (te, .inl (E.2.2.1 0, 8, .inl te_f)), (de, .inl (E.2.2.1 0, 8, .inl de_f)), (inp, .inl (E.2.2.1 0, 128, .inl inp_f)), (ba, .inl (E.2.2.1 0, 8, .inl ba_f)), (gu, .inl (E.2.2.1 0, 8, .inl gu_f)), (we, .inl (E.2.2.1 0, 16, .inl zwe_f_316)), (ps, .inr (6, [.ref p, .ref we, .ref inp, .ref ba, .ref gu, .int ps_5, .int ps_6, .int ps_7]))] 0 0 [(2, .int (l2 + (gu_f (Int32.toNatClampNeg l3)))), (4, .int 0), (0, .ref ps), (1, .int l1), (3, .int l3)] 122 [.int ((((l3 &&& 7) * 16) + ((ps_7 &&& 1) * 8)) + ((ps_6 - 0) &&& 7)), .ref inp]
              refine g_iload_n B dX6_learn_122 rfl 0 rfl ?_
              refine g_iast (ws' := [(p, .inr (7, [.ref te, .ref de, .int (nI p_2)])), (te, .inl (E.2.2.1 0, 8, .inl te_f)), (de, .inl (E.2.2.1 0, 8, .inl de_f)), (inp, .inl (E.2.2.1 0, 128, .inl (upd inp_f (Int32.toNatClampNeg ((((l3 &&& 7) * 16) + ((ps_7 &&& 1) * 8)) + ((ps_6 - 0) &&& 7))) (l2 + (gu_f (Int32.toNatClampNeg l3)))))), (ba, .inl (E.2.2.1 0, 8, .inl ba_f)), (gu, .inl (E.2.2.1 0, 8, .inl gu_f)), (we, .inl (E.2.2.1 0, 16, .inl zwe_f_316)), (ps, .inr (6, [.ref p, .ref we, .ref inp, .ref ba, .ref gu, .int ps_5, .int ps_6, .int ps_7]))]) B 3 rfl (in_sl _ _ _) rfl dX6_learn_123 ?_
              refine g_iinc (v := (l3 + (-1))) (lv' := [(3, .int (l3 + (-1))), (2, .int (l2 + (gu_f (Int32.toNatClampNeg l3)))), (4, .int 0), (0, .ref ps), (1, .int l1)]) B dX6_learn_124 4 rfl rfl (by decide) rfl ?_
              refine g_goto (tgt := 17) B dX6_learn_127 (by decide) ?_
              refine g_sub (ws' := [(ps, .inr (6, [.ref p, .ref we, .ref inp, .ref ba, .ref gu, .int ps_5, .int ps_6, .int ps_7])), (p, .inr (7, [.ref te, .ref de, .int (nI p_2)])), (te, .inl (E.2.2.1 0, 8, .inl te_f)), (de, .inl (E.2.2.1 0, 8, .inl de_f)), (we, .inl (E.2.2.1 0, 16, .inl zwe_f_316)), (inp, .inl (E.2.2.1 0, 128, .inl (upd inp_f (Int32.toNatClampNeg ((((l3 &&& 7) * 16) + ((ps_7 &&& 1) * 8)) + ((ps_6 - 0) &&& 7))) (l2 + (gu_f (Int32.toNatClampNeg l3)))))), (ba, .inl (E.2.2.1 0, 8, .inl ba_f)), (gu, .inl (E.2.2.1 0, 8, .inl gu_f))]) [7, 0, 1, 2, 6, 3, 4, 5] (by decide) rfl ?_
              refine g_lvsub (lv' := [(0, .ref ps), (1, .int l1), (2, .int (l2 + (gu_f (Int32.toNatClampNeg l3)))), (3, .int (l3 + (-1)))]) [3, 4, 1, 0] rfl ?_
              exact ih zwe_f_316 (upd inp_f (Int32.toNatClampNeg ((((l3 &&& 7) * 16) + ((ps_7 &&& 1) * 8)) + ((ps_6 - 0) &&& 7))) (l2 + (gu_f (Int32.toNatClampNeg l3)))) l1 (l2 + (gu_f (Int32.toNatClampNeg l3))) (l3 + (-1)) (lr_s c18_302 hv0) (Nat.lt_of_lt_of_le (st_dn c18_302) (Nat.le_of_lt_succ hm)) e_
            · replace e_ := fun β k_ => (e_ β k_).trans (if_neg c49_315)
              refine g_iconst (v := 1) B dX6_learn_52 (by decide) ?_
              refine g_goto (tgt := 57) B dX6_learn_53 (by decide) ?_
              refine g_icmp_ne (tgt := 64) B dX6_learn_57 (by decide) (fun h => absurd (by decide) h) (fun c57 => ?_)
              refine g_iconst (v := 1) B dX6_learn_60 (by decide) ?_
              refine g_goto (tgt := 65) B dX6_learn_61 (by decide) ?_
              refine g_istore (lv' := [(4, .int 1), (0, .ref ps), (1, .int l1), (2, .int l2), (3, .int l3)]) B dX6_learn_65 (by decide) rfl ?_
              refine g_aload_n B dX6_learn_67 rfl 1 rfl ?_
              refine g_iload_n B dX6_learn_68 rfl 4 rfl ?_
              refine g_iload B dX6_learn_69 0 rfl ?_
              refine g_if_eq (tgt := 86) B dX6_learn_71 (by decide) (fun h => absurd h (by decide)) (fun c71 => ?_)
              refine g_aload_n B dX6_learn_74 rfl 1 rfl ?_
              refine g_get B 0 0 fl_X6_12 rfl rfl dX6_learn_75 ?_
              refine g_get B 1 1 fl_X6_67 rfl rfl dX6_learn_78 ?_
              refine g_iload_n B dX6_learn_81 rfl 4 rfl ?_
              refine g_iald B 3 rfl (in_lt (by decide) c18_302 hv0) dX6_learn_82 ?_
              refine g_goto (tgt := 96) B dX6_learn_83 (by decide) ?_
              refine g_callV (st := []) (As := [.int l3, .int (de_f (Int32.toNatClampNeg l3))]) (wr := [(p, .inr (7, [.ref te, .ref de, .int (nI p_2)])), (te, .inl (E.2.2.1 0, 8, .inl te_f)), (de, .inl (E.2.2.1 0, 8, .inl de_f)), (inp, .inl (E.2.2.1 0, 128, .inl inp_f)), (ba, .inl (E.2.2.1 0, 8, .inl ba_f)), (gu, .inl (E.2.2.1 0, 8, .inl gu_f))]) (nc' := 0) (ns' := 0) B cl_X6_70 w_im_X6_moveWeight w_se_X6_moveWeight (wk_X6_moveWeight E ps p we inp ba gu ps_5 ps_6 ps_7 we_f l3 (de_f (Int32.toNatClampNeg l3)) ) rfl [0, 4] [1, 2, 3, 5, 6, 7] rfl rfl (by decide) (by decide) (by decide) 0 rfl (fun q h => by cases h; rfl) rfl ⟨by decide, by decide⟩ rfl rfl (by decide) (by decide) rfl (Nat.le_of_ble_eq_true rfl) dX6_learn_96 (fun v w hq => ?_)
              obtain ⟨zwe_f_319, hz_320, rfl, rfl⟩ := hq
              replace e_ := fun β k_ => (e_ β k_).trans (hz_320 β _)
              show G E X 5 [(p, .inr (7, [.ref te, .ref de, .int (nI p_2)])), (te, .inl (E.2.2.1 0, 8, .inl te_f)), (de, .inl (E.2.2.1 0, 8, .inl de_f)), (inp, .inl (E.2.2.1 0, 128, .inl inp_f)), (ba, .inl (E.2.2.1 0, 8, .inl ba_f)), (gu, .inl (E.2.2.1 0, 8, .inl gu_f)), (ps, .inr (6, [.ref p, .ref we, .ref inp, .ref ba, .ref gu, .int ps_5, .int ps_6, .int ps_7])), (we, .inl (E.2.2.1 0, 16, .inl zwe_f_319))] 0 0 [(4, .int 1), (0, .ref ps), (1, .int l1), (2, .int l2), (3, .int l3)] 99 []
              refine g_iload_n B dX6_learn_99 rfl 3 rfl ?_
              refine g_aload_n B dX6_learn_100 rfl 1 rfl ?_
              refine g_get B 6 4 fl_X6_28 rfl rfl dX6_learn_101 ?_
              refine g_iload_n B dX6_learn_104 rfl 4 rfl ?_
              refine g_iald B 5 rfl (in_lt (by decide) c18_302 hv0) dX6_learn_105 ?_
              refine g_iadd B dX6_learn_106 ?_
              refine g_istore_n (lv' := [(2, .int (l2 + (gu_f (Int32.toNatClampNeg l3)))), (4, .int 1), (0, .ref ps), (1, .int l1), (3, .int l3)]) B dX6_learn_107 rfl (by decide) rfl ?_
              refine g_aload_n B dX6_learn_108 rfl 2 rfl ?_
              refine g_get B 6 2 fl_X6_22 rfl rfl dX6_learn_109 ?_
              refine g_aload_n B dX6_learn_112 rfl 2 rfl ?_
              refine g_iload_n B dX6_learn_113 rfl 4 rfl ?_
              refine g_aload_n B dX6_learn_114 rfl 2 rfl ?_
              refine g_get B 6 7 fl_X6_38 rfl rfl dX6_learn_115 ?_
              refine g_iconst (v := 0) B dX6_learn_118 (by decide) ?_
              refine g_callV (st := [.ref inp]) (As := [.int l3, .int ps_7, .int 0]) (wr := [(p, .inr (7, [.ref te, .ref de, .int (nI p_2)])), (te, .inl (E.2.2.1 0, 8, .inl te_f)), (de, .inl (E.2.2.1 0, 8, .inl de_f)), (inp, .inl (E.2.2.1 0, 128, .inl inp_f)), (ba, .inl (E.2.2.1 0, 8, .inl ba_f)), (gu, .inl (E.2.2.1 0, 8, .inl gu_f)), (we, .inl (E.2.2.1 0, 16, .inl zwe_f_319))]) (nc' := 0) (ns' := 0) B cl_X6_74 w_im_X6_slot w_se_X6_slot (ev_X6_slot E ps p we inp ba gu ps_5 ps_6 ps_7 l3 ps_7 0 ) rfl [6] [0, 1, 2, 3, 4, 5, 7] rfl rfl (by decide) (by decide) (by decide) 0 rfl (fun q h => by cases h; rfl) rfl ⟨by decide, by decide⟩ rfl rfl (by decide) (by decide) rfl (Nat.le_of_ble_eq_true rfl) dX6_learn_119 (fun v w hq => ?_)
              obtain ⟨rfl, rfl⟩ := hq
              show G E X 5 [(p, .inr (7, [.ref te, .ref de, .int (nI p_2)])), (te, .inl (E.2.2.1 0, 8, .inl te_f)), (de, .inl (E.2.2.1 0, 8, .inl de_f)), (inp, .inl (E.2.2.1 0, 128, .inl inp_f)), (ba, .inl (E.2.2.1 0, 8, .inl ba_f)), (gu, .inl (E.2.2.1 0, 8, .inl gu_f)), (we, .inl (E.2.2.1 0, 16, .inl zwe_f_319)), (ps, .inr (6, [.ref p, .ref we, .ref inp, .ref ba, .ref gu, .int ps_5, .int ps_6, .int ps_7]))] 0 0 [(2, .int (l2 + (gu_f (Int32.toNatClampNeg l3)))), (4, .int 1), (0, .ref ps), (1, .int l1), (3, .int l3)] 122 [.int ((((l3 &&& 7) * 16) + ((ps_7 &&& 1) * 8)) + ((ps_6 - 0) &&& 7)), .ref inp]
              refine g_iload_n B dX6_learn_122 rfl 0 rfl ?_
              refine g_iast (ws' := [(p, .inr (7, [.ref te, .ref de, .int (nI p_2)])), (te, .inl (E.2.2.1 0, 8, .inl te_f)), (de, .inl (E.2.2.1 0, 8, .inl de_f)), (inp, .inl (E.2.2.1 0, 128, .inl (upd inp_f (Int32.toNatClampNeg ((((l3 &&& 7) * 16) + ((ps_7 &&& 1) * 8)) + ((ps_6 - 0) &&& 7))) (l2 + (gu_f (Int32.toNatClampNeg l3)))))), (ba, .inl (E.2.2.1 0, 8, .inl ba_f)), (gu, .inl (E.2.2.1 0, 8, .inl gu_f)), (we, .inl (E.2.2.1 0, 16, .inl zwe_f_319)), (ps, .inr (6, [.ref p, .ref we, .ref inp, .ref ba, .ref gu, .int ps_5, .int ps_6, .int ps_7]))]) B 3 rfl (in_sl _ _ _) rfl dX6_learn_123 ?_
              refine g_iinc (v := (l3 + (-1))) (lv' := [(3, .int (l3 + (-1))), (2, .int (l2 + (gu_f (Int32.toNatClampNeg l3)))), (4, .int 1), (0, .ref ps), (1, .int l1)]) B dX6_learn_124 4 rfl rfl (by decide) rfl ?_
              refine g_goto (tgt := 17) B dX6_learn_127 (by decide) ?_
              refine g_sub (ws' := [(ps, .inr (6, [.ref p, .ref we, .ref inp, .ref ba, .ref gu, .int ps_5, .int ps_6, .int ps_7])), (p, .inr (7, [.ref te, .ref de, .int (nI p_2)])), (te, .inl (E.2.2.1 0, 8, .inl te_f)), (de, .inl (E.2.2.1 0, 8, .inl de_f)), (we, .inl (E.2.2.1 0, 16, .inl zwe_f_319)), (inp, .inl (E.2.2.1 0, 128, .inl (upd inp_f (Int32.toNatClampNeg ((((l3 &&& 7) * 16) + ((ps_7 &&& 1) * 8)) + ((ps_6 - 0) &&& 7))) (l2 + (gu_f (Int32.toNatClampNeg l3)))))), (ba, .inl (E.2.2.1 0, 8, .inl ba_f)), (gu, .inl (E.2.2.1 0, 8, .inl gu_f))]) [7, 0, 1, 2, 6, 3, 4, 5] (by decide) rfl ?_
              refine g_lvsub (lv' := [(0, .ref ps), (1, .int l1), (2, .int (l2 + (gu_f (Int32.toNatClampNeg l3)))), (3, .int (l3 + (-1)))]) [3, 4, 1, 0] rfl ?_
              exact ih zwe_f_319 (upd inp_f (Int32.toNatClampNeg ((((l3 &&& 7) * 16) + ((ps_7 &&& 1) * 8)) + ((ps_6 - 0) &&& 7))) (l2 + (gu_f (Int32.toNatClampNeg l3)))) l1 (l2 + (gu_f (Int32.toNatClampNeg l3))) (l3 + (-1)) (lr_s c18_302 hv0) (Nat.lt_of_lt_of_le (st_dn c18_302) (Nat.le_of_lt_succ hm)) e_
theorem dX6_learn_130 : decode cX6_learn 130 = .ok (.iload_n 2, 1) := by decide +kernel
theorem dX6_learn_131 : decode cX6_learn 131 = .ok (.ireturn, 1) := by decide +kernel
set_option maxRecDepth 100000 in
def fn_wk_X6_learn (ps_6 : Int32) (ps_7 : Int32) (p_2 : Nat) (de_f : Nat → Int32) (ba_f : Nat → Int32) (gu_f : Nat → Int32) (we_f : Nat → Int32) (inp_f : Nat → Int32) (re : Int32) (β : Type) (k_ : (Nat → Int32) → (Nat → Int32) → Int32 → β) : β := (lf_wk_X6_learn_17 ps_6 ps_7 de_f ba_f gu_f β (fun y_322we_f y_322inp_f y_322l1 y_322l2 y_322l3 => (k_ y_322we_f y_322inp_f y_322l2)) ((Int32.toInt ((if 8 < nI p_2 then 8 else nI p_2) - 1) + 1).toNat + 1) we_f inp_f re re ((if 8 < nI p_2 then 8 else nI p_2) - 1))
set_option maxRecDepth 100000 in
theorem fn_wk_X6_learn_s {ps_6 : Int32} {ps_7 : Int32} {p_2 : Nat} {de_f : Nat → Int32} {ba_f : Nat → Int32} {gu_f : Nat → Int32} {we_f : Nat → Int32} {inp_f : Nat → Int32} {re : Int32} {β : Type} {k_ : (Nat → Int32) → (Nat → Int32) → Int32 → β} : fn_wk_X6_learn ps_6 ps_7 p_2 de_f ba_f gu_f we_f inp_f re β k_ = (lf_wk_X6_learn_17 ps_6 ps_7 de_f ba_f gu_f β (fun y_322we_f y_322inp_f y_322l1 y_322l2 y_322l3 => (k_ y_322we_f y_322inp_f y_322l2)) ((Int32.toInt ((if 8 < nI p_2 then 8 else nI p_2) - 1) + 1).toNat + 1) we_f inp_f re re ((if 8 < nI p_2 then 8 else nI p_2) - 1)) := rfl
set_option maxRecDepth 100000 in
set_option maxHeartbeats 4000000 in
theorem wk_X6_learn (E : g_E) (ps : Nat) (p : Nat) (we : Nat) (inp : Nat) (ba : Nat) (gu : Nat) (te : Nat) (de : Nat) (ps_5 : Int32) (ps_6 : Int32) (ps_7 : Int32) (p_2 : Nat) (te_f : Nat → Int32) (de_f : Nat → Int32) (ba_f : Nat → Int32) (gu_f : Nat → Int32) (we_f : Nat → Int32) (inp_f : Nat → Int32) (re : Int32) (hk0 : p_2 ≤ 8) : Ev E MX6_learn 2 46 0 0 [.ref ps, .int re] [(ps, .inr (6, [.ref p, .ref we, .ref inp, .ref ba, .ref gu, .int ps_5, .int ps_6, .int ps_7])), (p, .inr (7, [.ref te, .ref de, .int (nI p_2)])), (te, .inl (E.2.2.1 0, 8, .inl te_f)), (de, .inl (E.2.2.1 0, 8, .inl de_f)), (we, .inl (E.2.2.1 0, 16, .inl we_f)), (inp, .inl (E.2.2.1 0, 128, .inl inp_f)), (ba, .inl (E.2.2.1 0, 8, .inl ba_f)), (gu, .inl (E.2.2.1 0, 8, .inl gu_f))] (fun v_ w_ => ∃ zwe_f : Nat → Int32, ∃ zinp_f : Nat → Int32, ∃ zr : Int32, (∀ (β : Type) (k_ : (Nat → Int32) → (Nat → Int32) → Int32 → β), fn_wk_X6_learn ps_6 ps_7 p_2 de_f ba_f gu_f we_f inp_f re β k_ = k_ zwe_f zinp_f zr) ∧ v_ = some (.int zr) ∧ w_ = [(ps, .inr (6, [.ref p, .ref we, .ref inp, .ref ba, .ref gu, .int ps_5, .int ps_6, .int ps_7])), (p, .inr (7, [.ref te, .ref de, .int (nI p_2)])), (te, .inl (E.2.2.1 0, 8, .inl te_f)), (de, .inl (E.2.2.1 0, 8, .inl de_f)), (we, .inl (E.2.2.1 0, 16, .inl zwe_f)), (inp, .inl (E.2.2.1 0, 128, .inl zinp_f)), (ba, .inl (E.2.2.1 0, 8, .inl ba_f)), (gu, .inl (E.2.2.1 0, 8, .inl gu_f))]) := by
  refine Ev.intro (by decide) (Nat.le_of_ble_eq_true rfl) ?_
  intro X B hr hI
  have B : Bd E X cX6_learn RX6 5 2 46 0 0 := B
  have hr : Rt E X (some .int) 0 0 (fun v_ w_ => ∃ zwe_f : Nat → Int32, ∃ zinp_f : Nat → Int32, ∃ zr : Int32, (∀ (β : Type) (k_ : (Nat → Int32) → (Nat → Int32) → Int32 → β), fn_wk_X6_learn ps_6 ps_7 p_2 de_f ba_f gu_f we_f inp_f re β k_ = k_ zwe_f zinp_f zr) ∧ v_ = some (.int zr) ∧ w_ = [(ps, .inr (6, [.ref p, .ref we, .ref inp, .ref ba, .ref gu, .int ps_5, .int ps_6, .int ps_7])), (p, .inr (7, [.ref te, .ref de, .int (nI p_2)])), (te, .inl (E.2.2.1 0, 8, .inl te_f)), (de, .inl (E.2.2.1 0, 8, .inl de_f)), (we, .inl (E.2.2.1 0, 16, .inl zwe_f)), (inp, .inl (E.2.2.1 0, 128, .inl zinp_f)), (ba, .inl (E.2.2.1 0, 8, .inl ba_f)), (gu, .inl (E.2.2.1 0, 8, .inl gu_f))]) := hr
  have e_ := fun (β : Type) (k_ : (Nat → Int32) → (Nat → Int32) → Int32 → β) => fn_wk_X6_learn_s (β := β) (k_ := k_) (ps_6 := ps_6) (ps_7 := ps_7) (p_2 := p_2) (de_f := de_f) (ba_f := ba_f) (gu_f := gu_f) (we_f := we_f) (inp_f := inp_f) (re := re)
  show G E X 5 [(ps, .inr (6, [.ref p, .ref we, .ref inp, .ref ba, .ref gu, .int ps_5, .int ps_6, .int ps_7])), (p, .inr (7, [.ref te, .ref de, .int (nI p_2)])), (te, .inl (E.2.2.1 0, 8, .inl te_f)), (de, .inl (E.2.2.1 0, 8, .inl de_f)), (we, .inl (E.2.2.1 0, 16, .inl we_f)), (inp, .inl (E.2.2.1 0, 128, .inl inp_f)), (ba, .inl (E.2.2.1 0, 8, .inl ba_f)), (gu, .inl (E.2.2.1 0, 8, .inl gu_f))] 0 0 [(0, .ref ps), (1, .int re)] 0 []
  refine g_iload_n B dX6_learn_0 rfl 1 rfl ?_
  refine g_istore_n (lv' := [(2, .int re), (0, .ref ps), (1, .int re)]) B dX6_learn_1 rfl (by decide) rfl ?_
  refine g_aload_n B dX6_learn_2 rfl 1 rfl ?_
  refine g_get B 0 0 fl_X6_12 rfl rfl dX6_learn_3 ?_
  refine g_get B 1 2 fl_X6_47 rfl rfl dX6_learn_6 ?_
  refine g_bipush (v := 8) B dX6_learn_9 (by decide) ?_
  refine g_mmin B w_mlm_X6_62 w_smm_min_II_I w_ini_Math w_cdm_min_II_I (by decide) (Nat.le_of_ble_eq_true rfl) (by decide) (by decide) dX6_learn_11 ?_
  refine g_iconst (v := 1) B dX6_learn_14 (by decide) ?_
  refine g_isub B dX6_learn_15 ?_
  refine g_istore_n (lv' := [(3, .int ((if 8 < nI p_2 then 8 else nI p_2) - 1)), (2, .int re), (0, .ref ps), (1, .int re)]) B dX6_learn_16 rfl (by decide) rfl ?_
  refine g_lvsub (lv' := [(0, .ref ps), (1, .int re), (2, .int re), (3, .int ((if 8 < nI p_2 then 8 else nI p_2) - 1))]) [2, 3, 1, 0] rfl ?_
  refine lp_wk_X6_learn_17 E ps p we inp ba gu te de ps_5 ps_6 ps_7 p_2 te_f de_f ba_f gu_f hk0 _ B hr (fun y_322we_f y_322inp_f y_322l1 y_322l2 y_322l3 e_ => ?_) _ we_f inp_f re re ((if 8 < nI p_2 then 8 else nI p_2) - 1) (lr_0 hk0) (Nat.lt_succ_self _) e_
  refine g_iload_n B dX6_learn_130 rfl 2 rfl ?_
  exact g_iret B hr dX6_learn_131 (by decide) (by decide) ⟨y_322we_f, y_322inp_f, y_322l2, e_, rfl, rfl⟩
