abbrev MX10_highestBit : g_M := (yX10_highestBit, cX10_highestBit, 3, (some .int))
theorem dX10_highestBit_0 : decode cX10_highestBit 0 = .ok (.iconst 0, 1) := by decide +kernel
theorem dX10_highestBit_1 : decode cX10_highestBit 1 = .ok (.istore_n 2, 1) := by decide +kernel
theorem dX10_highestBit_2 : decode cX10_highestBit 2 = .ok (.iload_n 2, 1) := by decide +kernel
theorem dX10_highestBit_3 : decode cX10_highestBit 3 = .ok (.bipush 62, 2) := by decide +kernel
theorem dX10_highestBit_5 : decode cX10_highestBit 5 = .ok (.if_icmp .ge 19, 3) := by decide +kernel
theorem dX10_highestBit_8 : decode cX10_highestBit 8 = .ok (.lload_n 0, 1) := by decide +kernel
theorem dX10_highestBit_9 : decode cX10_highestBit 9 = .ok (.iload_n 2, 1) := by decide +kernel
theorem dX10_highestBit_10 : decode cX10_highestBit 10 = .ok (.iconst 1, 1) := by decide +kernel
theorem dX10_highestBit_11 : decode cX10_highestBit 11 = .ok (.iadd, 1) := by decide +kernel
theorem dX10_highestBit_12 : decode cX10_highestBit 12 = .ok (.lshr, 1) := by decide +kernel
theorem dX10_highestBit_13 : decode cX10_highestBit 13 = .ok (.lconst 0, 1) := by decide +kernel
theorem dX10_highestBit_14 : decode cX10_highestBit 14 = .ok (.lcmp, 1) := by decide +kernel
theorem dX10_highestBit_15 : decode cX10_highestBit 15 = .ok (.ifCond .le 9, 3) := by decide +kernel
theorem dX10_highestBit_18 : decode cX10_highestBit 18 = .ok (.iinc 2 1, 3) := by decide +kernel
theorem dX10_highestBit_21 : decode cX10_highestBit 21 = .ok (.goto (-19), 3) := by decide +kernel
set_option maxRecDepth 100000 in
def lf_wk_X10_highestBit_2  (β : Type) (kx_ : Int64 → Int32 → β)  : Nat → Int64 → Int32 → β
  | 0, l0, l2 => kx_ l0 l2
  | fuel + 1, l0, l2 => (if 62 ≤ l2 then (kx_ l0 l2) else (if (lg_cmp (l0 >>> (Int32.toInt64 (l2 + 1) &&& 63)) 0) ≤ 0 then (kx_ l0 l2) else (lf_wk_X10_highestBit_2  β kx_ fuel l0 (l2 + 1))))
set_option maxRecDepth 100000 in
theorem lf_wk_X10_highestBit_2_s  {β : Type} {kx_ : Int64 → Int32 → β}  {fuel : Nat} {l0 : Int64} {l2 : Int32} : lf_wk_X10_highestBit_2  β kx_  (fuel + 1) l0 l2 = (if 62 ≤ l2 then (kx_ l0 l2) else (if (lg_cmp (l0 >>> (Int32.toInt64 (l2 + 1) &&& 63)) 0) ≤ 0 then (kx_ l0 l2) else (lf_wk_X10_highestBit_2  β kx_ fuel l0 (l2 + 1)))) := rfl
set_option maxRecDepth 100000 in
set_option maxHeartbeats 4000000 in
theorem lp_wk_X10_highestBit_2 (E : g_E)   {X : g_X} {rr : (β : Type) → (Int32 → β) → β} (kx_ : (β : Type) → (Int32 → β) → Int64 → Int32 → β) (B : Bd E X cX10_highestBit RX10 3 0 0 0 0) (hr : Rt E X (some .int) 0 0 (fun v_ w_ => ∃ zr : Int32, (∀ (β : Type) (k_ : Int32 → β), rr β k_ = k_ zr) ∧ v_ = some (.int zr) ∧ w_ = [])) (K : ∀ (l0 : Int64) (l2 : Int32), (∀ (β : Type) (k_ : Int32 → β), rr β k_ = kx_ β k_ l0 l2) → G E X 3 [] 0 0 [(0, .long l0), (2, .int l2)] 24 []) : ∀ (n : Nat) (l0 : Int64) (l2 : Int32), (Int32.toInt 62 - Int32.toInt l2).toNat < n → (∀ (β : Type) (k_ : Int32 → β), rr β k_ = lf_wk_X10_highestBit_2  β (kx_ β k_) n l0 l2) → G E X 3 [] 0 0 [(0, .long l0), (2, .int l2)] 2 [] := by
  intro n
  induction n with
  | zero => intro l0 l2 h _; exact absurd h (Nat.not_lt_zero _)
  | succ n ih =>
    intro l0 l2 hm e_
    replace e_ := fun β k_ => (e_ β k_).trans lf_wk_X10_highestBit_2_s
    refine g_iload_n B dX10_highestBit_2 rfl 1 rfl ?_
    refine g_bipush (v := 62) B dX10_highestBit_3 (by decide) ?_
    refine g_icmp_ge (tgt := 24) B dX10_highestBit_5 (by decide) (fun c5_166 => ?_) (fun c5_166 => ?_)
    · replace e_ := fun β k_ => (e_ β k_).trans (if_pos c5_166)
      exact K l0 l2 e_
    · replace e_ := fun β k_ => (e_ β k_).trans (if_neg c5_166)
      refine g_lload_n B dX10_highestBit_8 rfl 0 rfl ?_
      refine g_iload_n B dX10_highestBit_9 rfl 1 rfl ?_
      refine g_iconst (v := 1) B dX10_highestBit_10 (by decide) ?_
      refine g_iadd B dX10_highestBit_11 ?_
      refine g_lshr B dX10_highestBit_12 ?_
      refine g_lconst (v := 0) B dX10_highestBit_13 (by decide) ?_
      refine g_lcmp B dX10_highestBit_14 ?_
      refine g_if_le (tgt := 24) B dX10_highestBit_15 (by decide) (fun c15_167 => ?_) (fun c15_167 => ?_)
      · replace e_ := fun β k_ => (e_ β k_).trans (if_pos c15_167)
        exact K l0 l2 e_
      · replace e_ := fun β k_ => (e_ β k_).trans (if_neg c15_167)
        refine g_iinc (v := (l2 + 1)) (lv' := [(2, .int (l2 + 1)), (0, .long l0)]) B dX10_highestBit_18 1 rfl rfl (by decide) rfl ?_
        refine g_goto (tgt := 2) B dX10_highestBit_21 (by decide) ?_
        refine g_lvsub (lv' := [(0, .long l0), (2, .int (l2 + 1))]) [1, 0] rfl ?_
        exact ih l0 (l2 + 1)  (Nat.lt_of_lt_of_le (st_up (o_2 c5_166)) (Nat.le_of_lt_succ hm)) e_
theorem dX10_highestBit_24 : decode cX10_highestBit 24 = .ok (.iload_n 2, 1) := by decide +kernel
theorem dX10_highestBit_25 : decode cX10_highestBit 25 = .ok (.ireturn, 1) := by decide +kernel
set_option maxRecDepth 100000 in
def fn_wk_X10_highestBit (n : Int64) (β : Type) (k_ : Int32 → β) : β := (lf_wk_X10_highestBit_2  β (fun y_168l0 y_168l2 => (k_ y_168l2)) ((Int32.toInt 62 - Int32.toInt 0).toNat + 1) n 0)
set_option maxRecDepth 100000 in
theorem fn_wk_X10_highestBit_s {n : Int64} {β : Type} {k_ : Int32 → β} : fn_wk_X10_highestBit n β k_ = (lf_wk_X10_highestBit_2  β (fun y_168l0 y_168l2 => (k_ y_168l2)) ((Int32.toInt 62 - Int32.toInt 0).toNat + 1) n 0) := rfl
set_option maxRecDepth 100000 in
set_option maxHeartbeats 4000000 in
theorem wk_X10_highestBit (E : g_E) (n : Int64)  : Ev E MX10_highestBit 0 0 0 0 [.long n] [] (fun v_ w_ => ∃ zr : Int32, (∀ (β : Type) (k_ : Int32 → β), fn_wk_X10_highestBit n β k_ = k_ zr) ∧ v_ = some (.int zr) ∧ w_ = []) := by
  refine Ev.intro (by decide) (Nat.le_of_ble_eq_true rfl) ?_
  intro X B hr hI
  have B : Bd E X cX10_highestBit RX10 3 0 0 0 0 := B
  have hr : Rt E X (some .int) 0 0 (fun v_ w_ => ∃ zr : Int32, (∀ (β : Type) (k_ : Int32 → β), fn_wk_X10_highestBit n β k_ = k_ zr) ∧ v_ = some (.int zr) ∧ w_ = []) := hr
  have e_ := fun (β : Type) (k_ : Int32 → β) => fn_wk_X10_highestBit_s (β := β) (k_ := k_) (n := n)
  show G E X 3 [] 0 0 [(0, .long n)] 0 []
  refine g_iconst (v := 0) B dX10_highestBit_0 (by decide) ?_
  refine g_istore_n (lv' := [(2, .int 0), (0, .long n)]) B dX10_highestBit_1 rfl (by decide) rfl ?_
  refine g_lvsub (lv' := [(0, .long n), (2, .int 0)]) [1, 0] rfl ?_
  refine lp_wk_X10_highestBit_2 E   _ B hr (fun y_168l0 y_168l2 e_ => ?_) _ n 0  (Nat.lt_succ_self _) e_
  refine g_iload_n B dX10_highestBit_24 rfl 1 rfl ?_
  exact g_iret B hr dX10_highestBit_25 (by decide) (by decide) ⟨y_168l2, e_, rfl, rfl⟩
abbrev MX1_writeBits : g_M := (yX1_writeBits, cX1_writeBits, 5, none)
theorem dX1_writeBits_0 : decode cX1_writeBits 0 = .ok (.iload_n 3, 1) := by decide +kernel
theorem dX1_writeBits_1 : decode cX1_writeBits 1 = .ok (.iconst 1, 1) := by decide +kernel
theorem dX1_writeBits_2 : decode cX1_writeBits 2 = .ok (.isub, 1) := by decide +kernel
theorem dX1_writeBits_3 : decode cX1_writeBits 3 = .ok (.istore 4, 2) := by decide +kernel
theorem dX1_writeBits_5 : decode cX1_writeBits 5 = .ok (.iload 4, 2) := by decide +kernel
theorem dX1_writeBits_7 : decode cX1_writeBits 7 = .ok (.ifCond .lt 67, 3) := by decide +kernel
theorem dX1_writeBits_10 : decode cX1_writeBits 10 = .ok (.aload_n 0, 1) := by decide +kernel
theorem dX1_writeBits_11 : decode cX1_writeBits 11 = .ok (.aload_n 0, 1) := by decide +kernel
theorem dX1_writeBits_12 : decode cX1_writeBits 12 = .ok (.getfield 13, 3) := by decide +kernel
theorem dX1_writeBits_15 : decode cX1_writeBits 15 = .ok (.iconst 1, 1) := by decide +kernel
theorem dX1_writeBits_16 : decode cX1_writeBits 16 = .ok (.ishl, 1) := by decide +kernel
theorem dX1_writeBits_17 : decode cX1_writeBits 17 = .ok (.lload_n 1, 1) := by decide +kernel
theorem dX1_writeBits_18 : decode cX1_writeBits 18 = .ok (.iload 4, 2) := by decide +kernel
theorem dX1_writeBits_20 : decode cX1_writeBits 20 = .ok (.lshr, 1) := by decide +kernel
theorem dX1_writeBits_21 : decode cX1_writeBits 21 = .ok (.lconst 1, 1) := by decide +kernel
theorem dX1_writeBits_22 : decode cX1_writeBits 22 = .ok (.land, 1) := by decide +kernel
theorem dX1_writeBits_23 : decode cX1_writeBits 23 = .ok (.l2i, 1) := by decide +kernel
theorem dX1_writeBits_24 : decode cX1_writeBits 24 = .ok (.ior, 1) := by decide +kernel
theorem dX1_writeBits_25 : decode cX1_writeBits 25 = .ok (.putfield 13, 3) := by decide +kernel
theorem dX1_writeBits_28 : decode cX1_writeBits 28 = .ok (.aload_n 0, 1) := by decide +kernel
theorem dX1_writeBits_29 : decode cX1_writeBits 29 = .ok (.dup, 1) := by decide +kernel
theorem dX1_writeBits_30 : decode cX1_writeBits 30 = .ok (.getfield 17, 3) := by decide +kernel
theorem dX1_writeBits_33 : decode cX1_writeBits 33 = .ok (.iconst 1, 1) := by decide +kernel
theorem dX1_writeBits_34 : decode cX1_writeBits 34 = .ok (.iadd, 1) := by decide +kernel
theorem dX1_writeBits_35 : decode cX1_writeBits 35 = .ok (.putfield 17, 3) := by decide +kernel
theorem dX1_writeBits_38 : decode cX1_writeBits 38 = .ok (.aload_n 0, 1) := by decide +kernel
theorem dX1_writeBits_39 : decode cX1_writeBits 39 = .ok (.getfield 17, 3) := by decide +kernel
theorem dX1_writeBits_42 : decode cX1_writeBits 42 = .ok (.bipush 8, 2) := by decide +kernel
theorem dX1_writeBits_44 : decode cX1_writeBits 44 = .ok (.if_icmp .ne 24, 3) := by decide +kernel
theorem dX1_writeBits_68 : decode cX1_writeBits 68 = .ok (.iinc 4 (-1), 3) := by decide +kernel
theorem dX1_writeBits_71 : decode cX1_writeBits 71 = .ok (.goto (-66), 3) := by decide +kernel
theorem dX1_writeBits_47 : decode cX1_writeBits 47 = .ok (.aload_n 0, 1) := by decide +kernel
theorem dX1_writeBits_48 : decode cX1_writeBits 48 = .ok (.getfield 7, 3) := by decide +kernel
theorem dX1_writeBits_51 : decode cX1_writeBits 51 = .ok (.aload_n 0, 1) := by decide +kernel
theorem dX1_writeBits_52 : decode cX1_writeBits 52 = .ok (.getfield 13, 3) := by decide +kernel
theorem dX1_writeBits_55 : decode cX1_writeBits 55 = .ok (.invokevirtual 20, 3) := by decide +kernel
theorem w_ml_X1_20 : Cond.methodLink RX1 20 yX2_add ∈ g_tbl := g_tbl_in 585 (by decide +kernel) (by decide +kernel)
theorem cl_X1_20 : CL RX1 20 1 MX2_add := ⟨w_ml_X1_20, w_cd_X2_add, w_ini_X2, by decide +kernel, by decide +kernel, by decide +kernel⟩
theorem dX1_writeBits_58 : decode cX1_writeBits 58 = .ok (.aload_n 0, 1) := by decide +kernel
theorem dX1_writeBits_59 : decode cX1_writeBits 59 = .ok (.iconst 0, 1) := by decide +kernel
theorem dX1_writeBits_60 : decode cX1_writeBits 60 = .ok (.putfield 13, 3) := by decide +kernel
theorem dX1_writeBits_63 : decode cX1_writeBits 63 = .ok (.aload_n 0, 1) := by decide +kernel
theorem dX1_writeBits_64 : decode cX1_writeBits 64 = .ok (.iconst 0, 1) := by decide +kernel
theorem dX1_writeBits_65 : decode cX1_writeBits 65 = .ok (.putfield 17, 3) := by decide +kernel
set_option maxRecDepth 100000 in
def lf_wk_X1_writeBits_5 (N : Nat) (β : Type) (kx_ : Int32 → Int32 → Int32 → (Nat → Int32) → Int64 → Int32 → Int32 → β)  : Nat → Int32 → Int32 → Int32 → (Nat → Int32) → Int64 → Int32 → Int32 → β
  | 0, b_1, b_2, t_1, a_f, l1, l3, l4 => kx_ b_1 b_2 t_1 a_f l1 l3 l4
  | fuel + 1, b_1, b_2, t_1, a_f, l1, l3, l4 => (if l4 < 0 then (kx_ b_1 b_2 t_1 a_f l1 l3 l4) else (if (b_2 + 1) = 8 then (fn_wk_X2_add N t_1 a_f ((b_1 <<< (1 &&& 31)) ||| (Int64.toInt32 ((l1 >>> (Int32.toInt64 l4 &&& 63)) &&& 1))) β (fun zt_1_171 za_f_172 => (lf_wk_X1_writeBits_5 N β kx_ fuel 0 0 zt_1_171 za_f_172 l1 l3 (l4 + (-1))))) else (lf_wk_X1_writeBits_5 N β kx_ fuel ((b_1 <<< (1 &&& 31)) ||| (Int64.toInt32 ((l1 >>> (Int32.toInt64 l4 &&& 63)) &&& 1))) (b_2 + 1) t_1 a_f l1 l3 (l4 + (-1)))))
set_option maxRecDepth 100000 in
theorem lf_wk_X1_writeBits_5_s {N : Nat} {β : Type} {kx_ : Int32 → Int32 → Int32 → (Nat → Int32) → Int64 → Int32 → Int32 → β}  {fuel : Nat} {b_1 : Int32} {b_2 : Int32} {t_1 : Int32} {a_f : Nat → Int32} {l1 : Int64} {l3 : Int32} {l4 : Int32} : lf_wk_X1_writeBits_5 N β kx_  (fuel + 1) b_1 b_2 t_1 a_f l1 l3 l4 = (if l4 < 0 then (kx_ b_1 b_2 t_1 a_f l1 l3 l4) else (if (b_2 + 1) = 8 then (fn_wk_X2_add N t_1 a_f ((b_1 <<< (1 &&& 31)) ||| (Int64.toInt32 ((l1 >>> (Int32.toInt64 l4 &&& 63)) &&& 1))) β (fun zt_1_171 za_f_172 => (lf_wk_X1_writeBits_5 N β kx_ fuel 0 0 zt_1_171 za_f_172 l1 l3 (l4 + (-1))))) else (lf_wk_X1_writeBits_5 N β kx_ fuel ((b_1 <<< (1 &&& 31)) ||| (Int64.toInt32 ((l1 >>> (Int32.toInt64 l4 &&& 63)) &&& 1))) (b_2 + 1) t_1 a_f l1 l3 (l4 + (-1))))) := rfl
set_option maxRecDepth 100000 in
set_option maxHeartbeats 4000000 in
theorem lp_wk_X1_writeBits_5 (E : g_E) (b : Nat) (t : Nat) (a : Nat) (N : Nat) (hN : N < 2147483648) {X : g_X} {rr : (β : Type) → (Int32 → Int32 → Int32 → (Nat → Int32) → β) → β} (kx_ : (β : Type) → (Int32 → Int32 → Int32 → (Nat → Int32) → β) → Int32 → Int32 → Int32 → (Nat → Int32) → Int64 → Int32 → Int32 → β) (B : Bd E X cX1_writeBits RX1 5 1 21 0 0) (hr : Rt E X none 0 0 (fun v_ w_ => ∃ zb_1 : Int32, ∃ zb_2 : Int32, ∃ zt_1 : Int32, ∃ za_f : Nat → Int32, (∀ (β : Type) (k_ : Int32 → Int32 → Int32 → (Nat → Int32) → β), rr β k_ = k_ zb_1 zb_2 zt_1 za_f) ∧ v_ = none ∧ w_ = [(b, .inr (1, [.ref t, .int zb_1, .int zb_2])), (t, .inr (2, [.ref a, .int zt_1])), (a, .inl (E.2.2.1 1, N, .inl (nb za_f)))])) (K : ∀ (b_1 : Int32) (b_2 : Int32) (t_1 : Int32) (a_f : Nat → Int32) (l1 : Int64) (l3 : Int32) (l4 : Int32), (∀ (β : Type) (k_ : Int32 → Int32 → Int32 → (Nat → Int32) → β), rr β k_ = kx_ β k_ b_1 b_2 t_1 a_f l1 l3 l4) → G E X 5 [(b, .inr (1, [.ref t, .int b_1, .int b_2])), (t, .inr (2, [.ref a, .int t_1])), (a, .inl (E.2.2.1 1, N, .inl (nb a_f)))] 0 0 [(0, .ref b), (1, .long l1), (3, .int l3), (4, .int l4)] 74 []) : ∀ (n : Nat) (b_1 : Int32) (b_2 : Int32) (t_1 : Int32) (a_f : Nat → Int32) (l1 : Int64) (l3 : Int32) (l4 : Int32), (Int32.toInt l4 + 1).toNat < n → (∀ (β : Type) (k_ : Int32 → Int32 → Int32 → (Nat → Int32) → β), rr β k_ = lf_wk_X1_writeBits_5 N β (kx_ β k_) n b_1 b_2 t_1 a_f l1 l3 l4) → G E X 5 [(b, .inr (1, [.ref t, .int b_1, .int b_2])), (t, .inr (2, [.ref a, .int t_1])), (a, .inl (E.2.2.1 1, N, .inl (nb a_f)))] 0 0 [(0, .ref b), (1, .long l1), (3, .int l3), (4, .int l4)] 5 [] := by
  intro n
  induction n with
  | zero => intro b_1 b_2 t_1 a_f l1 l3 l4 h _; exact absurd h (Nat.not_lt_zero _)
  | succ n ih =>
    intro b_1 b_2 t_1 a_f l1 l3 l4 hm e_
    replace e_ := fun β k_ => (e_ β k_).trans lf_wk_X1_writeBits_5_s
    refine g_iload B dX1_writeBits_5 3 rfl ?_
    refine g_if_lt (tgt := 74) B dX1_writeBits_7 (by decide) (fun c7_169 => ?_) (fun c7_169 => ?_)
    · replace e_ := fun β k_ => (e_ β k_).trans (if_pos c7_169)
      exact K b_1 b_2 t_1 a_f l1 l3 l4 e_
    · replace e_ := fun β k_ => (e_ β k_).trans (if_neg c7_169)
      refine g_aload_n B dX1_writeBits_10 rfl 0 rfl ?_
      refine g_aload_n B dX1_writeBits_11 rfl 0 rfl ?_
      refine g_get B 0 1 fl_X1_13 rfl rfl dX1_writeBits_12 ?_
      refine g_iconst (v := 1) B dX1_writeBits_15 (by decide) ?_
      refine g_ishl B dX1_writeBits_16 ?_
      refine g_lload_n B dX1_writeBits_17 rfl 1 rfl ?_
      refine g_iload B dX1_writeBits_18 3 rfl ?_
      refine g_lshr B dX1_writeBits_20 ?_
      refine g_lconst (v := 1) B dX1_writeBits_21 (by decide) ?_
      refine g_land B dX1_writeBits_22 ?_
      refine g_l2i B dX1_writeBits_23 ?_
      refine g_ior B dX1_writeBits_24 ?_
      refine g_put (ws' := [(b, .inr (1, [.ref t, .int ((b_1 <<< (1 &&& 31)) ||| (Int64.toInt32 ((l1 >>> (Int32.toInt64 l4 &&& 63)) &&& 1))), .int b_2])), (t, .inr (2, [.ref a, .int t_1])), (a, .inl (E.2.2.1 1, N, .inl (nb a_f)))]) B 0 1 fl_X1_13 pf_X1_1 rfl (Nat.le_of_ble_eq_true rfl) rfl rfl rfl dX1_writeBits_25 ?_
      refine g_aload_n B dX1_writeBits_28 rfl 0 rfl ?_
      refine g_dup B dX1_writeBits_29 rfl ?_
      refine g_get B 0 2 fl_X1_17 rfl rfl dX1_writeBits_30 ?_
      refine g_iconst (v := 1) B dX1_writeBits_33 (by decide) ?_
      refine g_iadd B dX1_writeBits_34 ?_
      refine g_put (ws' := [(b, .inr (1, [.ref t, .int ((b_1 <<< (1 &&& 31)) ||| (Int64.toInt32 ((l1 >>> (Int32.toInt64 l4 &&& 63)) &&& 1))), .int (b_2 + 1)])), (t, .inr (2, [.ref a, .int t_1])), (a, .inl (E.2.2.1 1, N, .inl (nb a_f)))]) B 0 2 fl_X1_17 pf_X1_2 rfl (Nat.le_of_ble_eq_true rfl) rfl rfl rfl dX1_writeBits_35 ?_
      refine g_aload_n B dX1_writeBits_38 rfl 0 rfl ?_
      refine g_get B 0 2 fl_X1_17 rfl rfl dX1_writeBits_39 ?_
      refine g_bipush (v := 8) B dX1_writeBits_42 (by decide) ?_
      refine g_icmp_ne (tgt := 68) B dX1_writeBits_44 (by decide) (fun c44_170 => ?_) (fun c44_170 => ?_)
      · replace e_ := fun β k_ => (e_ β k_).trans (if_neg c44_170)
        refine g_iinc (v := (l4 + (-1))) (lv' := [(4, .int (l4 + (-1))), (0, .ref b), (1, .long l1), (3, .int l3)]) B dX1_writeBits_68 3 rfl rfl (by decide) rfl ?_
        refine g_goto (tgt := 5) B dX1_writeBits_71 (by decide) ?_
        refine g_lvsub (lv' := [(0, .ref b), (1, .long l1), (3, .int l3), (4, .int (l4 + (-1)))]) [1, 2, 3, 0] rfl ?_
        exact ih ((b_1 <<< (1 &&& 31)) ||| (Int64.toInt32 ((l1 >>> (Int32.toInt64 l4 &&& 63)) &&& 1))) (b_2 + 1) t_1 a_f l1 l3 (l4 + (-1))  (Nat.lt_of_lt_of_le (st_dn c7_169) (Nat.le_of_lt_succ hm)) e_
      · replace e_ := fun β k_ => (e_ β k_).trans (if_pos c44_170)
        refine g_aload_n B dX1_writeBits_47 rfl 0 rfl ?_
        refine g_get B 0 0 fl_X1_7 rfl rfl dX1_writeBits_48 ?_
        refine g_aload_n B dX1_writeBits_51 rfl 0 rfl ?_
        refine g_get B 0 1 fl_X1_13 rfl rfl dX1_writeBits_52 ?_
        refine g_callV (st := []) (As := [.int ((b_1 <<< (1 &&& 31)) ||| (Int64.toInt32 ((l1 >>> (Int32.toInt64 l4 &&& 63)) &&& 1)))]) (wr := [(b, .inr (1, [.ref t, .int ((b_1 <<< (1 &&& 31)) ||| (Int64.toInt32 ((l1 >>> (Int32.toInt64 l4 &&& 63)) &&& 1))), .int (b_2 + 1)]))]) (nc' := 0) (ns' := 0) B cl_X1_20 w_im_X2_add w_se_X2_add (wk_X2_add E t a N t_1 a_f ((b_1 <<< (1 &&& 31)) ||| (Int64.toInt32 ((l1 >>> (Int32.toInt64 l4 &&& 63)) &&& 1))) (by first | assumption | omega | decide)) rfl [1, 2] [0] rfl rfl (by decide) (by decide) (by decide) 0 rfl (fun q h => by cases h; rfl) rfl ⟨by decide, by decide⟩ rfl rfl (by decide) (by decide) rfl (Nat.le_of_ble_eq_true rfl) dX1_writeBits_55 (fun v w hq => ?_)
        obtain ⟨zt_1_171, za_f_172, hz_173, rfl, rfl⟩ := hq
        replace e_ := fun β k_ => (e_ β k_).trans (hz_173 β _)
        show G E X 5 [(b, .inr (1, [.ref t, .int ((b_1 <<< (1 &&& 31)) ||| (Int64.toInt32 ((l1 >>> (Int32.toInt64 l4 &&& 63)) &&& 1))), .int (b_2 + 1)])), (t, .inr (2, [.ref a, .int zt_1_171])), (a, .inl (E.2.2.1 1, N, .inl (nb za_f_172)))] 0 0 [(0, .ref b), (1, .long l1), (3, .int l3), (4, .int l4)] 58 []
        refine g_aload_n B dX1_writeBits_58 rfl 0 rfl ?_
        refine g_iconst (v := 0) B dX1_writeBits_59 (by decide) ?_
        refine g_put (ws' := [(b, .inr (1, [.ref t, .int 0, .int (b_2 + 1)])), (t, .inr (2, [.ref a, .int zt_1_171])), (a, .inl (E.2.2.1 1, N, .inl (nb za_f_172)))]) B 0 1 fl_X1_13 pf_X1_1 rfl (Nat.le_of_ble_eq_true rfl) rfl rfl rfl dX1_writeBits_60 ?_
        refine g_aload_n B dX1_writeBits_63 rfl 0 rfl ?_
        refine g_iconst (v := 0) B dX1_writeBits_64 (by decide) ?_
        refine g_put (ws' := [(b, .inr (1, [.ref t, .int 0, .int 0])), (t, .inr (2, [.ref a, .int zt_1_171])), (a, .inl (E.2.2.1 1, N, .inl (nb za_f_172)))]) B 0 2 fl_X1_17 pf_X1_2 rfl (Nat.le_of_ble_eq_true rfl) rfl rfl rfl dX1_writeBits_65 ?_
        refine g_iinc (v := (l4 + (-1))) (lv' := [(4, .int (l4 + (-1))), (0, .ref b), (1, .long l1), (3, .int l3)]) B dX1_writeBits_68 3 rfl rfl (by decide) rfl ?_
        refine g_goto (tgt := 5) B dX1_writeBits_71 (by decide) ?_
        refine g_lvsub (lv' := [(0, .ref b), (1, .long l1), (3, .int l3), (4, .int (l4 + (-1)))]) [1, 2, 3, 0] rfl ?_
        exact ih 0 0 zt_1_171 za_f_172 l1 l3 (l4 + (-1))  (Nat.lt_of_lt_of_le (st_dn c7_169) (Nat.le_of_lt_succ hm)) e_
theorem dX1_writeBits_74 : decode cX1_writeBits 74 = .ok (.return_, 1) := by decide +kernel
set_option maxRecDepth 100000 in
def fn_wk_X1_writeBits (N : Nat) (b_1 : Int32) (b_2 : Int32) (t_1 : Int32) (a_f : Nat → Int32) (nu : Int64) (n : Int32) (β : Type) (k_ : Int32 → Int32 → Int32 → (Nat → Int32) → β) : β := (lf_wk_X1_writeBits_5 N β (fun y_174b_1 y_174b_2 y_174t_1 y_174a_f y_174l1 y_174l3 y_174l4 => (k_ y_174b_1 y_174b_2 y_174t_1 y_174a_f)) ((Int32.toInt (n - 1) + 1).toNat + 1) b_1 b_2 t_1 a_f nu n (n - 1))
set_option maxRecDepth 100000 in
theorem fn_wk_X1_writeBits_s {N : Nat} {b_1 : Int32} {b_2 : Int32} {t_1 : Int32} {a_f : Nat → Int32} {nu : Int64} {n : Int32} {β : Type} {k_ : Int32 → Int32 → Int32 → (Nat → Int32) → β} : fn_wk_X1_writeBits N b_1 b_2 t_1 a_f nu n β k_ = (lf_wk_X1_writeBits_5 N β (fun y_174b_1 y_174b_2 y_174t_1 y_174a_f y_174l1 y_174l3 y_174l4 => (k_ y_174b_1 y_174b_2 y_174t_1 y_174a_f)) ((Int32.toInt (n - 1) + 1).toNat + 1) b_1 b_2 t_1 a_f nu n (n - 1)) := rfl
set_option maxRecDepth 100000 in
set_option maxHeartbeats 4000000 in
theorem wk_X1_writeBits (E : g_E) (b : Nat) (t : Nat) (a : Nat) (N : Nat) (b_1 : Int32) (b_2 : Int32) (t_1 : Int32) (a_f : Nat → Int32) (nu : Int64) (n : Int32) (hN : N < 2147483648) : Ev E MX1_writeBits 1 21 0 0 [.ref b, .long nu, .int n] [(b, .inr (1, [.ref t, .int b_1, .int b_2])), (t, .inr (2, [.ref a, .int t_1])), (a, .inl (E.2.2.1 1, N, .inl (nb a_f)))] (fun v_ w_ => ∃ zb_1 : Int32, ∃ zb_2 : Int32, ∃ zt_1 : Int32, ∃ za_f : Nat → Int32, (∀ (β : Type) (k_ : Int32 → Int32 → Int32 → (Nat → Int32) → β), fn_wk_X1_writeBits N b_1 b_2 t_1 a_f nu n β k_ = k_ zb_1 zb_2 zt_1 za_f) ∧ v_ = none ∧ w_ = [(b, .inr (1, [.ref t, .int zb_1, .int zb_2])), (t, .inr (2, [.ref a, .int zt_1])), (a, .inl (E.2.2.1 1, N, .inl (nb za_f)))]) := by
  refine Ev.intro (by decide) (Nat.le_of_ble_eq_true rfl) ?_
  intro X B hr hI
  have B : Bd E X cX1_writeBits RX1 5 1 21 0 0 := B
  have hr : Rt E X none 0 0 (fun v_ w_ => ∃ zb_1 : Int32, ∃ zb_2 : Int32, ∃ zt_1 : Int32, ∃ za_f : Nat → Int32, (∀ (β : Type) (k_ : Int32 → Int32 → Int32 → (Nat → Int32) → β), fn_wk_X1_writeBits N b_1 b_2 t_1 a_f nu n β k_ = k_ zb_1 zb_2 zt_1 za_f) ∧ v_ = none ∧ w_ = [(b, .inr (1, [.ref t, .int zb_1, .int zb_2])), (t, .inr (2, [.ref a, .int zt_1])), (a, .inl (E.2.2.1 1, N, .inl (nb za_f)))]) := hr
  have e_ := fun (β : Type) (k_ : Int32 → Int32 → Int32 → (Nat → Int32) → β) => fn_wk_X1_writeBits_s (β := β) (k_ := k_) (N := N) (b_1 := b_1) (b_2 := b_2) (t_1 := t_1) (a_f := a_f) (nu := nu) (n := n)
  show G E X 5 [(b, .inr (1, [.ref t, .int b_1, .int b_2])), (t, .inr (2, [.ref a, .int t_1])), (a, .inl (E.2.2.1 1, N, .inl (nb a_f)))] 0 0 [(0, .ref b), (1, .long nu), (3, .int n)] 0 []
  refine g_iload_n B dX1_writeBits_0 rfl 2 rfl ?_
  refine g_iconst (v := 1) B dX1_writeBits_1 (by decide) ?_
  refine g_isub B dX1_writeBits_2 ?_
  refine g_istore (lv' := [(4, .int (n - 1)), (0, .ref b), (1, .long nu), (3, .int n)]) B dX1_writeBits_3 (by decide) rfl ?_
  refine g_lvsub (lv' := [(0, .ref b), (1, .long nu), (3, .int n), (4, .int (n - 1))]) [1, 2, 3, 0] rfl ?_
  refine lp_wk_X1_writeBits_5 E b t a N hN _ B hr (fun y_174b_1 y_174b_2 y_174t_1 y_174a_f y_174l1 y_174l3 y_174l4 e_ => ?_) _ b_1 b_2 t_1 a_f nu n (n - 1)  (Nat.lt_succ_self _) e_
  exact g_vret B hr dX1_writeBits_74 (by decide) (by decide) ⟨y_174b_1, y_174b_2, y_174t_1, y_174a_f, e_, rfl, rfl⟩
abbrev MX1_writeOnes : g_M := (yX1_writeOnes, cX1_writeOnes, 3, none)
theorem dX1_writeOnes_0 : decode cX1_writeOnes 0 = .ok (.lload_n 1, 1) := by decide +kernel
theorem dX1_writeOnes_1 : decode cX1_writeOnes 1 = .ok (.ldc2_w 26, 3) := by decide +kernel
theorem w_k_X1_26 : Cond.constantLong RX1 26 16 ∈ g_tbl := g_tbl_in 623 (by decide +kernel) (by decide +kernel)
theorem dX1_writeOnes_4 : decode cX1_writeOnes 4 = .ok (.lcmp, 1) := by decide +kernel
theorem dX1_writeOnes_5 : decode cX1_writeOnes 5 = .ok (.ifCond .ge 24, 3) := by decide +kernel
theorem dX1_writeOnes_29 : decode cX1_writeOnes 29 = .ok (.aload_n 0, 1) := by decide +kernel
theorem dX1_writeOnes_30 : decode cX1_writeOnes 30 = .ok (.ldc2_w 34, 3) := by decide +kernel
theorem w_k_X1_34 : Cond.constantLong RX1 34 65535 ∈ g_tbl := g_tbl_in 625 (by decide +kernel) (by decide +kernel)
theorem dX1_writeOnes_33 : decode cX1_writeOnes 33 = .ok (.bipush 16, 2) := by decide +kernel
theorem dX1_writeOnes_35 : decode cX1_writeOnes 35 = .ok (.invokevirtual 30, 3) := by decide +kernel
theorem w_ml_X1_30 : Cond.methodLink RX1 30 yX1_writeBits ∈ g_tbl := g_tbl_in 581 (by decide +kernel) (by decide +kernel)
theorem w_cd_X1_writeBits : g_cw MX1_writeBits ∈ g_tbl := g_tbl_in 584 (by decide +kernel) (by decide +kernel)
theorem cl_X1_30 : CL RX1 30 2 MX1_writeBits := ⟨w_ml_X1_30, w_cd_X1_writeBits, w_ini_X1, by decide +kernel, by decide +kernel, by decide +kernel⟩
theorem w_im_X1_writeBits : Cond.instanceMethod yX1_writeBits ∈ g_tbl := g_tbl_in 582 (by decide +kernel) (by decide +kernel)
theorem w_se_X1_writeBits : Cond.selects RX1 yX1_writeBits yX1_writeBits ∈ g_tbl := g_tbl_in 583 (by decide +kernel) (by decide +kernel)
theorem dX1_writeOnes_38 : decode cX1_writeOnes 38 = .ok (.return_, 1) := by decide +kernel
theorem dX1_writeOnes_8 : decode cX1_writeOnes 8 = .ok (.aload_n 0, 1) := by decide +kernel
theorem dX1_writeOnes_9 : decode cX1_writeOnes 9 = .ok (.ldc2_w 28, 3) := by decide +kernel
theorem w_k_X1_28 : Cond.constantLong RX1 28 2 ∈ g_tbl := g_tbl_in 624 (by decide +kernel) (by decide +kernel)
theorem dX1_writeOnes_12 : decode cX1_writeOnes 12 = .ok (.lload_n 1, 1) := by decide +kernel
theorem dX1_writeOnes_13 : decode cX1_writeOnes 13 = .ok (.l2i, 1) := by decide +kernel
theorem dX1_writeOnes_14 : decode cX1_writeOnes 14 = .ok (.lshl, 1) := by decide +kernel
theorem dX1_writeOnes_15 : decode cX1_writeOnes 15 = .ok (.ldc2_w 28, 3) := by decide +kernel
theorem dX1_writeOnes_18 : decode cX1_writeOnes 18 = .ok (.lsub, 1) := by decide +kernel
theorem dX1_writeOnes_19 : decode cX1_writeOnes 19 = .ok (.lload_n 1, 1) := by decide +kernel
theorem dX1_writeOnes_20 : decode cX1_writeOnes 20 = .ok (.l2i, 1) := by decide +kernel
theorem dX1_writeOnes_21 : decode cX1_writeOnes 21 = .ok (.iconst 1, 1) := by decide +kernel
theorem dX1_writeOnes_22 : decode cX1_writeOnes 22 = .ok (.iadd, 1) := by decide +kernel
theorem dX1_writeOnes_23 : decode cX1_writeOnes 23 = .ok (.invokevirtual 30, 3) := by decide +kernel
theorem dX1_writeOnes_26 : decode cX1_writeOnes 26 = .ok (.goto 12, 3) := by decide +kernel
set_option maxRecDepth 100000 in
def fn_wk_X1_writeOnes (N : Nat) (b_1 : Int32) (b_2 : Int32) (t_1 : Int32) (a_f : Nat → Int32) (v : Int64) (β : Type) (k_ : Int32 → Int32 → Int32 → (Nat → Int32) → β) : β := (if 0 ≤ (lg_cmp v 16) then (fn_wk_X1_writeBits N b_1 b_2 t_1 a_f 65535 16 β (fun zb_1_176 zb_2_177 zt_1_178 za_f_179 => (k_ zb_1_176 zb_2_177 zt_1_178 za_f_179))) else (fn_wk_X1_writeBits N b_1 b_2 t_1 a_f (((2 : Int64) <<< (Int32.toInt64 (Int64.toInt32 v) &&& 63)) - 2) ((Int64.toInt32 v) + 1) β (fun zb_1_181 zb_2_182 zt_1_183 za_f_184 => (k_ zb_1_181 zb_2_182 zt_1_183 za_f_184))))
set_option maxRecDepth 100000 in
theorem fn_wk_X1_writeOnes_s {N : Nat} {b_1 : Int32} {b_2 : Int32} {t_1 : Int32} {a_f : Nat → Int32} {v : Int64} {β : Type} {k_ : Int32 → Int32 → Int32 → (Nat → Int32) → β} : fn_wk_X1_writeOnes N b_1 b_2 t_1 a_f v β k_ = (if 0 ≤ (lg_cmp v 16) then (fn_wk_X1_writeBits N b_1 b_2 t_1 a_f 65535 16 β (fun zb_1_176 zb_2_177 zt_1_178 za_f_179 => (k_ zb_1_176 zb_2_177 zt_1_178 za_f_179))) else (fn_wk_X1_writeBits N b_1 b_2 t_1 a_f (((2 : Int64) <<< (Int32.toInt64 (Int64.toInt32 v) &&& 63)) - 2) ((Int64.toInt32 v) + 1) β (fun zb_1_181 zb_2_182 zt_1_183 za_f_184 => (k_ zb_1_181 zb_2_182 zt_1_183 za_f_184)))) := rfl
set_option maxRecDepth 100000 in
set_option maxHeartbeats 4000000 in
theorem wk_X1_writeOnes (E : g_E) (b : Nat) (t : Nat) (a : Nat) (N : Nat) (b_1 : Int32) (b_2 : Int32) (t_1 : Int32) (a_f : Nat → Int32) (v : Int64) (hN : N < 2147483648) : Ev E MX1_writeOnes 2 45 0 0 [.ref b, .long v] [(b, .inr (1, [.ref t, .int b_1, .int b_2])), (t, .inr (2, [.ref a, .int t_1])), (a, .inl (E.2.2.1 1, N, .inl (nb a_f)))] (fun v_ w_ => ∃ zb_1 : Int32, ∃ zb_2 : Int32, ∃ zt_1 : Int32, ∃ za_f : Nat → Int32, (∀ (β : Type) (k_ : Int32 → Int32 → Int32 → (Nat → Int32) → β), fn_wk_X1_writeOnes N b_1 b_2 t_1 a_f v β k_ = k_ zb_1 zb_2 zt_1 za_f) ∧ v_ = none ∧ w_ = [(b, .inr (1, [.ref t, .int zb_1, .int zb_2])), (t, .inr (2, [.ref a, .int zt_1])), (a, .inl (E.2.2.1 1, N, .inl (nb za_f)))]) := by
  refine Ev.intro (by decide) (Nat.le_of_ble_eq_true rfl) ?_
  intro X B hr hI
  have B : Bd E X cX1_writeOnes RX1 3 2 45 0 0 := B
  have hr : Rt E X none 0 0 (fun v_ w_ => ∃ zb_1 : Int32, ∃ zb_2 : Int32, ∃ zt_1 : Int32, ∃ za_f : Nat → Int32, (∀ (β : Type) (k_ : Int32 → Int32 → Int32 → (Nat → Int32) → β), fn_wk_X1_writeOnes N b_1 b_2 t_1 a_f v β k_ = k_ zb_1 zb_2 zt_1 za_f) ∧ v_ = none ∧ w_ = [(b, .inr (1, [.ref t, .int zb_1, .int zb_2])), (t, .inr (2, [.ref a, .int zt_1])), (a, .inl (E.2.2.1 1, N, .inl (nb za_f)))]) := hr
  have e_ := fun (β : Type) (k_ : Int32 → Int32 → Int32 → (Nat → Int32) → β) => fn_wk_X1_writeOnes_s (β := β) (k_ := k_) (N := N) (b_1 := b_1) (b_2 := b_2) (t_1 := t_1) (a_f := a_f) (v := v)
  show G E X 3 [(b, .inr (1, [.ref t, .int b_1, .int b_2])), (t, .inr (2, [.ref a, .int t_1])), (a, .inl (E.2.2.1 1, N, .inl (nb a_f)))] 0 0 [(0, .ref b), (1, .long v)] 0 []
  refine g_lload_n B dX1_writeOnes_0 rfl 1 rfl ?_
  refine g_ldc2 (v := 16) B w_k_X1_26 dX1_writeOnes_1 ?_
  refine g_lcmp B dX1_writeOnes_4 ?_
  refine g_if_ge (tgt := 29) B dX1_writeOnes_5 (by decide) (fun c5_175 => ?_) (fun c5_175 => ?_)
  · replace e_ := fun β k_ => (e_ β k_).trans (if_pos c5_175)
    refine g_aload_n B dX1_writeOnes_29 rfl 0 rfl ?_
    refine g_ldc2 (v := 65535) B w_k_X1_34 dX1_writeOnes_30 ?_
    refine g_bipush (v := 16) B dX1_writeOnes_33 (by decide) ?_
    refine g_callV (st := []) (As := [.long 65535, .int 16]) (wr := []) (nc' := 0) (ns' := 0) B cl_X1_30 w_im_X1_writeBits w_se_X1_writeBits (wk_X1_writeBits E b t a N b_1 b_2 t_1 a_f 65535 16 (by first | assumption | omega | decide)) rfl [0, 1, 2] [] rfl rfl (by decide) (by decide) (by decide) 0 rfl (fun q h => by cases h; rfl) rfl ⟨by decide, by decide⟩ rfl rfl (by decide) (by decide) rfl (Nat.le_of_ble_eq_true rfl) dX1_writeOnes_35 (fun v w hq => ?_)
    obtain ⟨zb_1_176, zb_2_177, zt_1_178, za_f_179, hz_180, rfl, rfl⟩ := hq
    replace e_ := fun β k_ => (e_ β k_).trans (hz_180 β _)
    show G E X 3 [(b, .inr (1, [.ref t, .int zb_1_176, .int zb_2_177])), (t, .inr (2, [.ref a, .int zt_1_178])), (a, .inl (E.2.2.1 1, N, .inl (nb za_f_179)))] 0 0 [(0, .ref b), (1, .long v)] 38 []
    exact g_vret B hr dX1_writeOnes_38 (by decide) (by decide) ⟨zb_1_176, zb_2_177, zt_1_178, za_f_179, e_, rfl, rfl⟩
  · replace e_ := fun β k_ => (e_ β k_).trans (if_neg c5_175)
    refine g_aload_n B dX1_writeOnes_8 rfl 0 rfl ?_
    refine g_ldc2 (v := 2) B w_k_X1_28 dX1_writeOnes_9 ?_
    refine g_lload_n B dX1_writeOnes_12 rfl 1 rfl ?_
    refine g_l2i B dX1_writeOnes_13 ?_
    refine g_lshl B dX1_writeOnes_14 ?_
    refine g_ldc2 (v := 2) B w_k_X1_28 dX1_writeOnes_15 ?_
    refine g_lsub B dX1_writeOnes_18 ?_
    refine g_lload_n B dX1_writeOnes_19 rfl 1 rfl ?_
    refine g_l2i B dX1_writeOnes_20 ?_
    refine g_iconst (v := 1) B dX1_writeOnes_21 (by decide) ?_
    refine g_iadd B dX1_writeOnes_22 ?_
    refine g_callV (st := []) (As := [.long (((2 : Int64) <<< (Int32.toInt64 (Int64.toInt32 v) &&& 63)) - 2), .int ((Int64.toInt32 v) + 1)]) (wr := []) (nc' := 0) (ns' := 0) B cl_X1_30 w_im_X1_writeBits w_se_X1_writeBits (wk_X1_writeBits E b t a N b_1 b_2 t_1 a_f (((2 : Int64) <<< (Int32.toInt64 (Int64.toInt32 v) &&& 63)) - 2) ((Int64.toInt32 v) + 1) (by first | assumption | omega | decide)) rfl [0, 1, 2] [] rfl rfl (by decide) (by decide) (by decide) 0 rfl (fun q h => by cases h; rfl) rfl ⟨by decide, by decide⟩ rfl rfl (by decide) (by decide) rfl (Nat.le_of_ble_eq_true rfl) dX1_writeOnes_23 (fun v w hq => ?_)
    obtain ⟨zb_1_181, zb_2_182, zt_1_183, za_f_184, hz_185, rfl, rfl⟩ := hq
    replace e_ := fun β k_ => (e_ β k_).trans (hz_185 β _)
    show G E X 3 [(b, .inr (1, [.ref t, .int zb_1_181, .int zb_2_182])), (t, .inr (2, [.ref a, .int zt_1_183])), (a, .inl (E.2.2.1 1, N, .inl (nb za_f_184)))] 0 0 [(0, .ref b), (1, .long v)] 26 []
    refine g_goto (tgt := 38) B dX1_writeOnes_26 (by decide) ?_
    exact g_vret B hr dX1_writeOnes_38 (by decide) (by decide) ⟨zb_1_181, zb_2_182, zt_1_183, za_f_184, e_, rfl, rfl⟩
abbrev MX1_writeG : g_M := (yX1_writeG, cX1_writeG, 4, none)
theorem dX1_writeG_0 : decode cX1_writeG 0 = .ok (.lload_n 1, 1) := by decide +kernel
theorem dX1_writeG_1 : decode cX1_writeG 1 = .ok (.invokestatic 36, 3) := by decide +kernel
theorem w_cd_X10_highestBit : g_cw MX10_highestBit ∈ g_tbl := g_tbl_in 580 (by decide +kernel) (by decide +kernel)
theorem w_ini_X10 : Cond.initialized RX10 ∈ g_tbl := g_tbl_in 68 (by decide +kernel) (by decide +kernel)
theorem w_sm_X10_highestBit : Cond.static yX10_highestBit ∈ g_tbl := g_tbl_in 579 (by decide +kernel) (by decide +kernel)
theorem dX1_writeG_4 : decode cX1_writeG 4 = .ok (.istore_n 3, 1) := by decide +kernel
theorem dX1_writeG_5 : decode cX1_writeG 5 = .ok (.aload_n 0, 1) := by decide +kernel
theorem dX1_writeG_6 : decode cX1_writeG 6 = .ok (.iload_n 3, 1) := by decide +kernel
theorem dX1_writeG_7 : decode cX1_writeG 7 = .ok (.i2l, 1) := by decide +kernel
theorem dX1_writeG_8 : decode cX1_writeG 8 = .ok (.iconst 5, 1) := by decide +kernel
theorem dX1_writeG_9 : decode cX1_writeG 9 = .ok (.invokevirtual 30, 3) := by decide +kernel
theorem dX1_writeG_12 : decode cX1_writeG 12 = .ok (.aload_n 0, 1) := by decide +kernel
theorem dX1_writeG_13 : decode cX1_writeG 13 = .ok (.lload_n 1, 1) := by decide +kernel
theorem dX1_writeG_14 : decode cX1_writeG 14 = .ok (.iload_n 3, 1) := by decide +kernel
theorem dX1_writeG_15 : decode cX1_writeG 15 = .ok (.invokevirtual 30, 3) := by decide +kernel
theorem dX1_writeG_18 : decode cX1_writeG 18 = .ok (.return_, 1) := by decide +kernel
set_option maxRecDepth 100000 in
def fn_wk_X1_writeG (N : Nat) (b_1 : Int32) (b_2 : Int32) (t_1 : Int32) (a_f : Nat → Int32) (v : Int64) (β : Type) (k_ : Int32 → Int32 → Int32 → (Nat → Int32) → β) : β := (fn_wk_X10_highestBit v β (fun zr_186 => (fn_wk_X1_writeBits N b_1 b_2 t_1 a_f (Int32.toInt64 zr_186) 5 β (fun zb_1_188 zb_2_189 zt_1_190 za_f_191 => (fn_wk_X1_writeBits N zb_1_188 zb_2_189 zt_1_190 za_f_191 v zr_186 β (fun zb_1_193 zb_2_194 zt_1_195 za_f_196 => (k_ zb_1_193 zb_2_194 zt_1_195 za_f_196)))))))
set_option maxRecDepth 100000 in
theorem fn_wk_X1_writeG_s {N : Nat} {b_1 : Int32} {b_2 : Int32} {t_1 : Int32} {a_f : Nat → Int32} {v : Int64} {β : Type} {k_ : Int32 → Int32 → Int32 → (Nat → Int32) → β} : fn_wk_X1_writeG N b_1 b_2 t_1 a_f v β k_ = (fn_wk_X10_highestBit v β (fun zr_186 => (fn_wk_X1_writeBits N b_1 b_2 t_1 a_f (Int32.toInt64 zr_186) 5 β (fun zb_1_188 zb_2_189 zt_1_190 za_f_191 => (fn_wk_X1_writeBits N zb_1_188 zb_2_189 zt_1_190 za_f_191 v zr_186 β (fun zb_1_193 zb_2_194 zt_1_195 za_f_196 => (k_ zb_1_193 zb_2_194 zt_1_195 za_f_196))))))) := rfl
set_option maxRecDepth 100000 in
set_option maxHeartbeats 4000000 in
theorem wk_X1_writeG (E : g_E) (b : Nat) (t : Nat) (a : Nat) (N : Nat) (b_1 : Int32) (b_2 : Int32) (t_1 : Int32) (a_f : Nat → Int32) (v : Int64) (hN : N < 2147483648) : Ev E MX1_writeG 2 45 0 0 [.ref b, .long v] [(b, .inr (1, [.ref t, .int b_1, .int b_2])), (t, .inr (2, [.ref a, .int t_1])), (a, .inl (E.2.2.1 1, N, .inl (nb a_f)))] (fun v_ w_ => ∃ zb_1 : Int32, ∃ zb_2 : Int32, ∃ zt_1 : Int32, ∃ za_f : Nat → Int32, (∀ (β : Type) (k_ : Int32 → Int32 → Int32 → (Nat → Int32) → β), fn_wk_X1_writeG N b_1 b_2 t_1 a_f v β k_ = k_ zb_1 zb_2 zt_1 za_f) ∧ v_ = none ∧ w_ = [(b, .inr (1, [.ref t, .int zb_1, .int zb_2])), (t, .inr (2, [.ref a, .int zt_1])), (a, .inl (E.2.2.1 1, N, .inl (nb za_f)))]) := by
  refine Ev.intro (by decide) (Nat.le_of_ble_eq_true rfl) ?_
  intro X B hr hI
  have B : Bd E X cX1_writeG RX1 4 2 45 0 0 := B
  have hr : Rt E X none 0 0 (fun v_ w_ => ∃ zb_1 : Int32, ∃ zb_2 : Int32, ∃ zt_1 : Int32, ∃ za_f : Nat → Int32, (∀ (β : Type) (k_ : Int32 → Int32 → Int32 → (Nat → Int32) → β), fn_wk_X1_writeG N b_1 b_2 t_1 a_f v β k_ = k_ zb_1 zb_2 zt_1 za_f) ∧ v_ = none ∧ w_ = [(b, .inr (1, [.ref t, .int zb_1, .int zb_2])), (t, .inr (2, [.ref a, .int zt_1])), (a, .inl (E.2.2.1 1, N, .inl (nb za_f)))]) := hr
  have e_ := fun (β : Type) (k_ : Int32 → Int32 → Int32 → (Nat → Int32) → β) => fn_wk_X1_writeG_s (β := β) (k_ := k_) (N := N) (b_1 := b_1) (b_2 := b_2) (t_1 := t_1) (a_f := a_f) (v := v)
  show G E X 4 [(b, .inr (1, [.ref t, .int b_1, .int b_2])), (t, .inr (2, [.ref a, .int t_1])), (a, .inl (E.2.2.1 1, N, .inl (nb a_f)))] 0 0 [(0, .ref b), (1, .long v)] 0 []
  refine g_lload_n B dX1_writeG_0 rfl 1 rfl ?_
  refine g_callSW (st := []) (As := [.long v]) (wr := [(b, .inr (1, [.ref t, .int b_1, .int b_2])), (t, .inr (2, [.ref a, .int t_1])), (a, .inl (E.2.2.1 1, N, .inl (nb a_f)))]) (nc' := 0) (ns' := 0) B w_cd_X10_highestBit w_ini_X10 w_sm_X10_highestBit (wk_X10_highestBit E v ) rfl [] [0, 1, 2] rfl rfl (by decide) (by decide) (by decide) ⟨by decide, by decide⟩ rfl rfl (by decide) (by decide) rfl (Nat.le_of_ble_eq_true rfl) dX1_writeG_1 (fun v w hq => ?_)
  obtain ⟨zr_186, hz_187, rfl, rfl⟩ := hq
  replace e_ := fun β k_ => (e_ β k_).trans (hz_187 β _)
  show G E X 4 [(b, .inr (1, [.ref t, .int b_1, .int b_2])), (t, .inr (2, [.ref a, .int t_1])), (a, .inl (E.2.2.1 1, N, .inl (nb a_f)))] 0 0 [(0, .ref b), (1, .long v)] 4 [.int zr_186]
  refine g_istore_n (lv' := [(3, .int zr_186), (0, .ref b), (1, .long v)]) B dX1_writeG_4 rfl (by decide) rfl ?_
  refine g_aload_n B dX1_writeG_5 rfl 1 rfl ?_
  refine g_iload_n B dX1_writeG_6 rfl 0 rfl ?_
  refine g_i2l B dX1_writeG_7 ?_
  refine g_iconst (v := 5) B dX1_writeG_8 (by decide) ?_
  refine g_callV (st := []) (As := [.long (Int32.toInt64 zr_186), .int 5]) (wr := []) (nc' := 0) (ns' := 0) B cl_X1_30 w_im_X1_writeBits w_se_X1_writeBits (wk_X1_writeBits E b t a N b_1 b_2 t_1 a_f (Int32.toInt64 zr_186) 5 (by first | assumption | omega | decide)) rfl [0, 1, 2] [] rfl rfl (by decide) (by decide) (by decide) 0 rfl (fun q h => by cases h; rfl) rfl ⟨by decide, by decide⟩ rfl rfl (by decide) (by decide) rfl (Nat.le_of_ble_eq_true rfl) dX1_writeG_9 (fun v w hq => ?_)
  obtain ⟨zb_1_188, zb_2_189, zt_1_190, za_f_191, hz_192, rfl, rfl⟩ := hq
  replace e_ := fun β k_ => (e_ β k_).trans (hz_192 β _)
  show G E X 4 [(b, .inr (1, [.ref t, .int zb_1_188, .int zb_2_189])), (t, .inr (2, [.ref a, .int zt_1_190])), (a, .inl (E.2.2.1 1, N, .inl (nb za_f_191)))] 0 0 [(3, .int zr_186), (0, .ref b), (1, .long v)] 12 []
  refine g_aload_n B dX1_writeG_12 rfl 1 rfl ?_
  refine g_lload_n B dX1_writeG_13 rfl 2 rfl ?_
  refine g_iload_n B dX1_writeG_14 rfl 0 rfl ?_
  refine g_callV (st := []) (As := [.long v, .int zr_186]) (wr := []) (nc' := 0) (ns' := 0) B cl_X1_30 w_im_X1_writeBits w_se_X1_writeBits (wk_X1_writeBits E b t a N zb_1_188 zb_2_189 zt_1_190 za_f_191 v zr_186 (by first | assumption | omega | decide)) rfl [0, 1, 2] [] rfl rfl (by decide) (by decide) (by decide) 0 rfl (fun q h => by cases h; rfl) rfl ⟨by decide, by decide⟩ rfl rfl (by decide) (by decide) rfl (Nat.le_of_ble_eq_true rfl) dX1_writeG_15 (fun v w hq => ?_)
  obtain ⟨zb_1_193, zb_2_194, zt_1_195, za_f_196, hz_197, rfl, rfl⟩ := hq
  replace e_ := fun β k_ => (e_ β k_).trans (hz_197 β _)
  show G E X 4 [(b, .inr (1, [.ref t, .int zb_1_193, .int zb_2_194])), (t, .inr (2, [.ref a, .int zt_1_195])), (a, .inl (E.2.2.1 1, N, .inl (nb za_f_196)))] 0 0 [(3, .int zr_186), (0, .ref b), (1, .long v)] 18 []
  exact g_vret B hr dX1_writeG_18 (by decide) (by decide) ⟨zb_1_193, zb_2_194, zt_1_195, za_f_196, e_, rfl, rfl⟩
abbrev MX1_writeT : g_M := (yX1_writeT, cX1_writeT, 8, none)
theorem dX1_writeT_0 : decode cX1_writeT 0 = .ok (.lload_n 3, 1) := by decide +kernel
theorem dX1_writeT_1 : decode cX1_writeT 1 = .ok (.invokestatic 36, 3) := by decide +kernel
theorem dX1_writeT_4 : decode cX1_writeT 4 = .ok (.istore 5, 2) := by decide +kernel
theorem dX1_writeT_6 : decode cX1_writeT 6 = .ok (.ldc2_w 28, 3) := by decide +kernel
theorem dX1_writeT_9 : decode cX1_writeT 9 = .ok (.iload 5, 2) := by decide +kernel
theorem dX1_writeT_11 : decode cX1_writeT 11 = .ok (.lshl, 1) := by decide +kernel
theorem dX1_writeT_12 : decode cX1_writeT 12 = .ok (.lload_n 3, 1) := by decide +kernel
theorem dX1_writeT_13 : decode cX1_writeT 13 = .ok (.lsub, 1) := by decide +kernel
theorem dX1_writeT_14 : decode cX1_writeT 14 = .ok (.lstore 6, 2) := by decide +kernel
theorem dX1_writeT_16 : decode cX1_writeT 16 = .ok (.lload_n 1, 1) := by decide +kernel
theorem dX1_writeT_17 : decode cX1_writeT 17 = .ok (.lload 6, 2) := by decide +kernel
theorem dX1_writeT_19 : decode cX1_writeT 19 = .ok (.lcmp, 1) := by decide +kernel
theorem dX1_writeT_20 : decode cX1_writeT 20 = .ok (.ifCond .ge 13, 3) := by decide +kernel
theorem dX1_writeT_33 : decode cX1_writeT 33 = .ok (.aload_n 0, 1) := by decide +kernel
theorem dX1_writeT_34 : decode cX1_writeT 34 = .ok (.lload_n 1, 1) := by decide +kernel
theorem dX1_writeT_35 : decode cX1_writeT 35 = .ok (.lload 6, 2) := by decide +kernel
theorem dX1_writeT_37 : decode cX1_writeT 37 = .ok (.ladd, 1) := by decide +kernel
theorem dX1_writeT_38 : decode cX1_writeT 38 = .ok (.iload 5, 2) := by decide +kernel
theorem dX1_writeT_40 : decode cX1_writeT 40 = .ok (.iconst 1, 1) := by decide +kernel
theorem dX1_writeT_41 : decode cX1_writeT 41 = .ok (.iadd, 1) := by decide +kernel
theorem dX1_writeT_42 : decode cX1_writeT 42 = .ok (.invokevirtual 30, 3) := by decide +kernel
theorem dX1_writeT_45 : decode cX1_writeT 45 = .ok (.return_, 1) := by decide +kernel
theorem dX1_writeT_23 : decode cX1_writeT 23 = .ok (.aload_n 0, 1) := by decide +kernel
theorem dX1_writeT_24 : decode cX1_writeT 24 = .ok (.lload_n 1, 1) := by decide +kernel
theorem dX1_writeT_25 : decode cX1_writeT 25 = .ok (.iload 5, 2) := by decide +kernel
theorem dX1_writeT_27 : decode cX1_writeT 27 = .ok (.invokevirtual 30, 3) := by decide +kernel
theorem dX1_writeT_30 : decode cX1_writeT 30 = .ok (.goto 15, 3) := by decide +kernel
set_option maxRecDepth 100000 in
def fn_wk_X1_writeT (N : Nat) (b_1 : Int32) (b_2 : Int32) (t_1 : Int32) (a_f : Nat → Int32) (o : Int64) (n : Int64) (β : Type) (k_ : Int32 → Int32 → Int32 → (Nat → Int32) → β) : β := (fn_wk_X10_highestBit n β (fun zr_198 => (if 0 ≤ (lg_cmp o (((2 : Int64) <<< (Int32.toInt64 zr_198 &&& 63)) - n)) then (fn_wk_X1_writeBits N b_1 b_2 t_1 a_f (o + (((2 : Int64) <<< (Int32.toInt64 zr_198 &&& 63)) - n)) (zr_198 + 1) β (fun zb_1_201 zb_2_202 zt_1_203 za_f_204 => (k_ zb_1_201 zb_2_202 zt_1_203 za_f_204))) else (fn_wk_X1_writeBits N b_1 b_2 t_1 a_f o zr_198 β (fun zb_1_206 zb_2_207 zt_1_208 za_f_209 => (k_ zb_1_206 zb_2_207 zt_1_208 za_f_209))))))
set_option maxRecDepth 100000 in
theorem fn_wk_X1_writeT_s {N : Nat} {b_1 : Int32} {b_2 : Int32} {t_1 : Int32} {a_f : Nat → Int32} {o : Int64} {n : Int64} {β : Type} {k_ : Int32 → Int32 → Int32 → (Nat → Int32) → β} : fn_wk_X1_writeT N b_1 b_2 t_1 a_f o n β k_ = (fn_wk_X10_highestBit n β (fun zr_198 => (if 0 ≤ (lg_cmp o (((2 : Int64) <<< (Int32.toInt64 zr_198 &&& 63)) - n)) then (fn_wk_X1_writeBits N b_1 b_2 t_1 a_f (o + (((2 : Int64) <<< (Int32.toInt64 zr_198 &&& 63)) - n)) (zr_198 + 1) β (fun zb_1_201 zb_2_202 zt_1_203 za_f_204 => (k_ zb_1_201 zb_2_202 zt_1_203 za_f_204))) else (fn_wk_X1_writeBits N b_1 b_2 t_1 a_f o zr_198 β (fun zb_1_206 zb_2_207 zt_1_208 za_f_209 => (k_ zb_1_206 zb_2_207 zt_1_208 za_f_209)))))) := rfl
set_option maxRecDepth 100000 in
set_option maxHeartbeats 4000000 in
theorem wk_X1_writeT (E : g_E) (b : Nat) (t : Nat) (a : Nat) (N : Nat) (b_1 : Int32) (b_2 : Int32) (t_1 : Int32) (a_f : Nat → Int32) (o : Int64) (n : Int64) (hN : N < 2147483648) : Ev E MX1_writeT 2 45 0 0 [.ref b, .long o, .long n] [(b, .inr (1, [.ref t, .int b_1, .int b_2])), (t, .inr (2, [.ref a, .int t_1])), (a, .inl (E.2.2.1 1, N, .inl (nb a_f)))] (fun v_ w_ => ∃ zb_1 : Int32, ∃ zb_2 : Int32, ∃ zt_1 : Int32, ∃ za_f : Nat → Int32, (∀ (β : Type) (k_ : Int32 → Int32 → Int32 → (Nat → Int32) → β), fn_wk_X1_writeT N b_1 b_2 t_1 a_f o n β k_ = k_ zb_1 zb_2 zt_1 za_f) ∧ v_ = none ∧ w_ = [(b, .inr (1, [.ref t, .int zb_1, .int zb_2])), (t, .inr (2, [.ref a, .int zt_1])), (a, .inl (E.2.2.1 1, N, .inl (nb za_f)))]) := by
  refine Ev.intro (by decide) (Nat.le_of_ble_eq_true rfl) ?_
  intro X B hr hI
  have B : Bd E X cX1_writeT RX1 8 2 45 0 0 := B
  have hr : Rt E X none 0 0 (fun v_ w_ => ∃ zb_1 : Int32, ∃ zb_2 : Int32, ∃ zt_1 : Int32, ∃ za_f : Nat → Int32, (∀ (β : Type) (k_ : Int32 → Int32 → Int32 → (Nat → Int32) → β), fn_wk_X1_writeT N b_1 b_2 t_1 a_f o n β k_ = k_ zb_1 zb_2 zt_1 za_f) ∧ v_ = none ∧ w_ = [(b, .inr (1, [.ref t, .int zb_1, .int zb_2])), (t, .inr (2, [.ref a, .int zt_1])), (a, .inl (E.2.2.1 1, N, .inl (nb za_f)))]) := hr
  have e_ := fun (β : Type) (k_ : Int32 → Int32 → Int32 → (Nat → Int32) → β) => fn_wk_X1_writeT_s (β := β) (k_ := k_) (N := N) (b_1 := b_1) (b_2 := b_2) (t_1 := t_1) (a_f := a_f) (o := o) (n := n)
  show G E X 8 [(b, .inr (1, [.ref t, .int b_1, .int b_2])), (t, .inr (2, [.ref a, .int t_1])), (a, .inl (E.2.2.1 1, N, .inl (nb a_f)))] 0 0 [(0, .ref b), (1, .long o), (3, .long n)] 0 []
  refine g_lload_n B dX1_writeT_0 rfl 2 rfl ?_
  refine g_callSW (st := []) (As := [.long n]) (wr := [(b, .inr (1, [.ref t, .int b_1, .int b_2])), (t, .inr (2, [.ref a, .int t_1])), (a, .inl (E.2.2.1 1, N, .inl (nb a_f)))]) (nc' := 0) (ns' := 0) B w_cd_X10_highestBit w_ini_X10 w_sm_X10_highestBit (wk_X10_highestBit E n ) rfl [] [0, 1, 2] rfl rfl (by decide) (by decide) (by decide) ⟨by decide, by decide⟩ rfl rfl (by decide) (by decide) rfl (Nat.le_of_ble_eq_true rfl) dX1_writeT_1 (fun v w hq => ?_)
  obtain ⟨zr_198, hz_199, rfl, rfl⟩ := hq
  replace e_ := fun β k_ => (e_ β k_).trans (hz_199 β _)
  show G E X 8 [(b, .inr (1, [.ref t, .int b_1, .int b_2])), (t, .inr (2, [.ref a, .int t_1])), (a, .inl (E.2.2.1 1, N, .inl (nb a_f)))] 0 0 [(0, .ref b), (1, .long o), (3, .long n)] 4 [.int zr_198]
  refine g_istore (lv' := [(5, .int zr_198), (0, .ref b), (1, .long o), (3, .long n)]) B dX1_writeT_4 (by decide) rfl ?_
  refine g_ldc2 (v := 2) B w_k_X1_28 dX1_writeT_6 ?_
  refine g_iload B dX1_writeT_9 0 rfl ?_
  refine g_lshl B dX1_writeT_11 ?_
  refine g_lload_n B dX1_writeT_12 rfl 3 rfl ?_
  refine g_lsub B dX1_writeT_13 ?_
  refine g_lstore (lv' := [(6, .long (((2 : Int64) <<< (Int32.toInt64 zr_198 &&& 63)) - n)), (5, .int zr_198), (0, .ref b), (1, .long o), (3, .long n)]) B dX1_writeT_14 (by decide) rfl ?_
  refine g_lload_n B dX1_writeT_16 rfl 3 rfl ?_
  refine g_lload B dX1_writeT_17 0 rfl ?_
  refine g_lcmp B dX1_writeT_19 ?_
  refine g_if_ge (tgt := 33) B dX1_writeT_20 (by decide) (fun c20_200 => ?_) (fun c20_200 => ?_)
  · replace e_ := fun β k_ => (e_ β k_).trans (if_pos c20_200)
    refine g_aload_n B dX1_writeT_33 rfl 2 rfl ?_
    refine g_lload_n B dX1_writeT_34 rfl 3 rfl ?_
    refine g_lload B dX1_writeT_35 0 rfl ?_
    refine g_ladd B dX1_writeT_37 ?_
    refine g_iload B dX1_writeT_38 1 rfl ?_
    refine g_iconst (v := 1) B dX1_writeT_40 (by decide) ?_
    refine g_iadd B dX1_writeT_41 ?_
    refine g_callV (st := []) (As := [.long (o + (((2 : Int64) <<< (Int32.toInt64 zr_198 &&& 63)) - n)), .int (zr_198 + 1)]) (wr := []) (nc' := 0) (ns' := 0) B cl_X1_30 w_im_X1_writeBits w_se_X1_writeBits (wk_X1_writeBits E b t a N b_1 b_2 t_1 a_f (o + (((2 : Int64) <<< (Int32.toInt64 zr_198 &&& 63)) - n)) (zr_198 + 1) (by first | assumption | omega | decide)) rfl [0, 1, 2] [] rfl rfl (by decide) (by decide) (by decide) 0 rfl (fun q h => by cases h; rfl) rfl ⟨by decide, by decide⟩ rfl rfl (by decide) (by decide) rfl (Nat.le_of_ble_eq_true rfl) dX1_writeT_42 (fun v w hq => ?_)
    obtain ⟨zb_1_201, zb_2_202, zt_1_203, za_f_204, hz_205, rfl, rfl⟩ := hq
    replace e_ := fun β k_ => (e_ β k_).trans (hz_205 β _)
    show G E X 8 [(b, .inr (1, [.ref t, .int zb_1_201, .int zb_2_202])), (t, .inr (2, [.ref a, .int zt_1_203])), (a, .inl (E.2.2.1 1, N, .inl (nb za_f_204)))] 0 0 [(6, .long (((2 : Int64) <<< (Int32.toInt64 zr_198 &&& 63)) - n)), (5, .int zr_198), (0, .ref b), (1, .long o), (3, .long n)] 45 []
    exact g_vret B hr dX1_writeT_45 (by decide) (by decide) ⟨zb_1_201, zb_2_202, zt_1_203, za_f_204, e_, rfl, rfl⟩
  · replace e_ := fun β k_ => (e_ β k_).trans (if_neg c20_200)
    refine g_aload_n B dX1_writeT_23 rfl 2 rfl ?_
    refine g_lload_n B dX1_writeT_24 rfl 3 rfl ?_
    refine g_iload B dX1_writeT_25 1 rfl ?_
    refine g_callV (st := []) (As := [.long o, .int zr_198]) (wr := []) (nc' := 0) (ns' := 0) B cl_X1_30 w_im_X1_writeBits w_se_X1_writeBits (wk_X1_writeBits E b t a N b_1 b_2 t_1 a_f o zr_198 (by first | assumption | omega | decide)) rfl [0, 1, 2] [] rfl rfl (by decide) (by decide) (by decide) 0 rfl (fun q h => by cases h; rfl) rfl ⟨by decide, by decide⟩ rfl rfl (by decide) (by decide) rfl (Nat.le_of_ble_eq_true rfl) dX1_writeT_27 (fun v w hq => ?_)
    obtain ⟨zb_1_206, zb_2_207, zt_1_208, za_f_209, hz_210, rfl, rfl⟩ := hq
    replace e_ := fun β k_ => (e_ β k_).trans (hz_210 β _)
    show G E X 8 [(b, .inr (1, [.ref t, .int zb_1_206, .int zb_2_207])), (t, .inr (2, [.ref a, .int zt_1_208])), (a, .inl (E.2.2.1 1, N, .inl (nb za_f_209)))] 0 0 [(6, .long (((2 : Int64) <<< (Int32.toInt64 zr_198 &&& 63)) - n)), (5, .int zr_198), (0, .ref b), (1, .long o), (3, .long n)] 30 []
    refine g_goto (tgt := 45) B dX1_writeT_30 (by decide) ?_
    exact g_vret B hr dX1_writeT_45 (by decide) (by decide) ⟨zb_1_206, zb_2_207, zt_1_208, za_f_209, e_, rfl, rfl⟩
abbrev MX1_finish : g_M := (yX1_finish, cX1_finish, 1, none)
theorem dX1_finish_0 : decode cX1_finish 0 = .ok (.aload_n 0, 1) := by decide +kernel
theorem dX1_finish_1 : decode cX1_finish 1 = .ok (.getfield 17, 3) := by decide +kernel
theorem dX1_finish_4 : decode cX1_finish 4 = .ok (.ifCond .le 22, 3) := by decide +kernel
theorem dX1_finish_26 : decode cX1_finish 26 = .ok (.aload_n 0, 1) := by decide +kernel
theorem dX1_finish_27 : decode cX1_finish 27 = .ok (.iconst 0, 1) := by decide +kernel
theorem dX1_finish_28 : decode cX1_finish 28 = .ok (.putfield 13, 3) := by decide +kernel
theorem dX1_finish_31 : decode cX1_finish 31 = .ok (.aload_n 0, 1) := by decide +kernel
theorem dX1_finish_32 : decode cX1_finish 32 = .ok (.iconst 0, 1) := by decide +kernel
theorem dX1_finish_33 : decode cX1_finish 33 = .ok (.putfield 17, 3) := by decide +kernel
theorem dX1_finish_36 : decode cX1_finish 36 = .ok (.return_, 1) := by decide +kernel
theorem dX1_finish_7 : decode cX1_finish 7 = .ok (.aload_n 0, 1) := by decide +kernel
theorem dX1_finish_8 : decode cX1_finish 8 = .ok (.getfield 7, 3) := by decide +kernel
theorem dX1_finish_11 : decode cX1_finish 11 = .ok (.aload_n 0, 1) := by decide +kernel
theorem dX1_finish_12 : decode cX1_finish 12 = .ok (.getfield 13, 3) := by decide +kernel
theorem dX1_finish_15 : decode cX1_finish 15 = .ok (.bipush 8, 2) := by decide +kernel
theorem dX1_finish_17 : decode cX1_finish 17 = .ok (.aload_n 0, 1) := by decide +kernel
theorem dX1_finish_18 : decode cX1_finish 18 = .ok (.getfield 17, 3) := by decide +kernel
theorem dX1_finish_21 : decode cX1_finish 21 = .ok (.isub, 1) := by decide +kernel
theorem dX1_finish_22 : decode cX1_finish 22 = .ok (.ishl, 1) := by decide +kernel
theorem dX1_finish_23 : decode cX1_finish 23 = .ok (.invokevirtual 20, 3) := by decide +kernel
set_option maxRecDepth 100000 in
def fn_wk_X1_finish (N : Nat) (b_1 : Int32) (b_2 : Int32) (t_1 : Int32) (a_f : Nat → Int32) (β : Type) (k_ : Int32 → Int32 → Int32 → (Nat → Int32) → β) : β := (if b_2 ≤ 0 then (k_ 0 0 t_1 a_f) else (fn_wk_X2_add N t_1 a_f (b_1 <<< ((8 - b_2) &&& 31)) β (fun zt_1_212 za_f_213 => (k_ 0 0 zt_1_212 za_f_213))))
set_option maxRecDepth 100000 in
theorem fn_wk_X1_finish_s {N : Nat} {b_1 : Int32} {b_2 : Int32} {t_1 : Int32} {a_f : Nat → Int32} {β : Type} {k_ : Int32 → Int32 → Int32 → (Nat → Int32) → β} : fn_wk_X1_finish N b_1 b_2 t_1 a_f β k_ = (if b_2 ≤ 0 then (k_ 0 0 t_1 a_f) else (fn_wk_X2_add N t_1 a_f (b_1 <<< ((8 - b_2) &&& 31)) β (fun zt_1_212 za_f_213 => (k_ 0 0 zt_1_212 za_f_213)))) := rfl
set_option maxRecDepth 100000 in
set_option maxHeartbeats 4000000 in
theorem wk_X1_finish (E : g_E) (b : Nat) (t : Nat) (a : Nat) (N : Nat) (b_1 : Int32) (b_2 : Int32) (t_1 : Int32) (a_f : Nat → Int32) (hN : N < 2147483648) : Ev E MX1_finish 1 21 0 0 [.ref b] [(b, .inr (1, [.ref t, .int b_1, .int b_2])), (t, .inr (2, [.ref a, .int t_1])), (a, .inl (E.2.2.1 1, N, .inl (nb a_f)))] (fun v_ w_ => ∃ zb_1 : Int32, ∃ zb_2 : Int32, ∃ zt_1 : Int32, ∃ za_f : Nat → Int32, (∀ (β : Type) (k_ : Int32 → Int32 → Int32 → (Nat → Int32) → β), fn_wk_X1_finish N b_1 b_2 t_1 a_f β k_ = k_ zb_1 zb_2 zt_1 za_f) ∧ v_ = none ∧ w_ = [(b, .inr (1, [.ref t, .int zb_1, .int zb_2])), (t, .inr (2, [.ref a, .int zt_1])), (a, .inl (E.2.2.1 1, N, .inl (nb za_f)))]) := by
  refine Ev.intro (by decide) (Nat.le_of_ble_eq_true rfl) ?_
  intro X B hr hI
  have B : Bd E X cX1_finish RX1 1 1 21 0 0 := B
  have hr : Rt E X none 0 0 (fun v_ w_ => ∃ zb_1 : Int32, ∃ zb_2 : Int32, ∃ zt_1 : Int32, ∃ za_f : Nat → Int32, (∀ (β : Type) (k_ : Int32 → Int32 → Int32 → (Nat → Int32) → β), fn_wk_X1_finish N b_1 b_2 t_1 a_f β k_ = k_ zb_1 zb_2 zt_1 za_f) ∧ v_ = none ∧ w_ = [(b, .inr (1, [.ref t, .int zb_1, .int zb_2])), (t, .inr (2, [.ref a, .int zt_1])), (a, .inl (E.2.2.1 1, N, .inl (nb za_f)))]) := hr
  have e_ := fun (β : Type) (k_ : Int32 → Int32 → Int32 → (Nat → Int32) → β) => fn_wk_X1_finish_s (β := β) (k_ := k_) (N := N) (b_1 := b_1) (b_2 := b_2) (t_1 := t_1) (a_f := a_f)
  show G E X 1 [(b, .inr (1, [.ref t, .int b_1, .int b_2])), (t, .inr (2, [.ref a, .int t_1])), (a, .inl (E.2.2.1 1, N, .inl (nb a_f)))] 0 0 [(0, .ref b)] 0 []
  refine g_aload_n B dX1_finish_0 rfl 0 rfl ?_
  refine g_get B 0 2 fl_X1_17 rfl rfl dX1_finish_1 ?_
  refine g_if_le (tgt := 26) B dX1_finish_4 (by decide) (fun c4_211 => ?_) (fun c4_211 => ?_)
  · replace e_ := fun β k_ => (e_ β k_).trans (if_pos c4_211)
    refine g_aload_n B dX1_finish_26 rfl 0 rfl ?_
    refine g_iconst (v := 0) B dX1_finish_27 (by decide) ?_
    refine g_put (ws' := [(b, .inr (1, [.ref t, .int 0, .int b_2])), (t, .inr (2, [.ref a, .int t_1])), (a, .inl (E.2.2.1 1, N, .inl (nb a_f)))]) B 0 1 fl_X1_13 pf_X1_1 rfl (Nat.le_of_ble_eq_true rfl) rfl rfl rfl dX1_finish_28 ?_
    refine g_aload_n B dX1_finish_31 rfl 0 rfl ?_
    refine g_iconst (v := 0) B dX1_finish_32 (by decide) ?_
    refine g_put (ws' := [(b, .inr (1, [.ref t, .int 0, .int 0])), (t, .inr (2, [.ref a, .int t_1])), (a, .inl (E.2.2.1 1, N, .inl (nb a_f)))]) B 0 2 fl_X1_17 pf_X1_2 rfl (Nat.le_of_ble_eq_true rfl) rfl rfl rfl dX1_finish_33 ?_
    exact g_vret B hr dX1_finish_36 (by decide) (by decide) ⟨0, 0, t_1, a_f, e_, rfl, rfl⟩
  · replace e_ := fun β k_ => (e_ β k_).trans (if_neg c4_211)
    refine g_aload_n B dX1_finish_7 rfl 0 rfl ?_
    refine g_get B 0 0 fl_X1_7 rfl rfl dX1_finish_8 ?_
    refine g_aload_n B dX1_finish_11 rfl 0 rfl ?_
    refine g_get B 0 1 fl_X1_13 rfl rfl dX1_finish_12 ?_
    refine g_bipush (v := 8) B dX1_finish_15 (by decide) ?_
    refine g_aload_n B dX1_finish_17 rfl 0 rfl ?_
    refine g_get B 0 2 fl_X1_17 rfl rfl dX1_finish_18 ?_
    refine g_isub B dX1_finish_21 ?_
    refine g_ishl B dX1_finish_22 ?_
    refine g_callV (st := []) (As := [.int (b_1 <<< ((8 - b_2) &&& 31))]) (wr := [(b, .inr (1, [.ref t, .int b_1, .int b_2]))]) (nc' := 0) (ns' := 0) B cl_X1_20 w_im_X2_add w_se_X2_add (wk_X2_add E t a N t_1 a_f (b_1 <<< ((8 - b_2) &&& 31)) (by first | assumption | omega | decide)) rfl [1, 2] [0] rfl rfl (by decide) (by decide) (by decide) 0 rfl (fun q h => by cases h; rfl) rfl ⟨by decide, by decide⟩ rfl rfl (by decide) (by decide) rfl (Nat.le_of_ble_eq_true rfl) dX1_finish_23 (fun v w hq => ?_)
    obtain ⟨zt_1_212, za_f_213, hz_214, rfl, rfl⟩ := hq
    replace e_ := fun β k_ => (e_ β k_).trans (hz_214 β _)
    show G E X 1 [(b, .inr (1, [.ref t, .int b_1, .int b_2])), (t, .inr (2, [.ref a, .int zt_1_212])), (a, .inl (E.2.2.1 1, N, .inl (nb za_f_213)))] 0 0 [(0, .ref b)] 26 []
    refine g_aload_n B dX1_finish_26 rfl 0 rfl ?_
    refine g_iconst (v := 0) B dX1_finish_27 (by decide) ?_
    refine g_put (ws' := [(b, .inr (1, [.ref t, .int 0, .int b_2])), (t, .inr (2, [.ref a, .int zt_1_212])), (a, .inl (E.2.2.1 1, N, .inl (nb za_f_213)))]) B 0 1 fl_X1_13 pf_X1_1 rfl (Nat.le_of_ble_eq_true rfl) rfl rfl rfl dX1_finish_28 ?_
    refine g_aload_n B dX1_finish_31 rfl 0 rfl ?_
    refine g_iconst (v := 0) B dX1_finish_32 (by decide) ?_
    refine g_put (ws' := [(b, .inr (1, [.ref t, .int 0, .int 0])), (t, .inr (2, [.ref a, .int zt_1_212])), (a, .inl (E.2.2.1 1, N, .inl (nb za_f_213)))]) B 0 2 fl_X1_17 pf_X1_2 rfl (Nat.le_of_ble_eq_true rfl) rfl rfl rfl dX1_finish_33 ?_
    exact g_vret B hr dX1_finish_36 (by decide) (by decide) ⟨0, 0, zt_1_212, za_f_213, e_, rfl, rfl⟩
abbrev MX0_start : g_M := (yX0_start, cX0_start, 3, none)
theorem dX0_start_0 : decode cX0_start 0 = .ok (.aload_n 0, 1) := by decide +kernel
theorem dX0_start_1 : decode cX0_start 1 = .ok (.iload_n 1, 1) := by decide +kernel
theorem dX0_start_2 : decode cX0_start 2 = .ok (.bipush 8, 2) := by decide +kernel
theorem dX0_start_4 : decode cX0_start 4 = .ok (.imul, 1) := by decide +kernel
theorem dX0_start_5 : decode cX0_start 5 = .ok (.putfield 13, 3) := by decide +kernel
theorem dX0_start_8 : decode cX0_start 8 = .ok (.aload_n 0, 1) := by decide +kernel
theorem dX0_start_9 : decode cX0_start 9 = .ok (.iload_n 2, 1) := by decide +kernel
theorem dX0_start_10 : decode cX0_start 10 = .ok (.bipush 8, 2) := by decide +kernel
theorem dX0_start_12 : decode cX0_start 12 = .ok (.imul, 1) := by decide +kernel
theorem dX0_start_13 : decode cX0_start 13 = .ok (.putfield 17, 3) := by decide +kernel
theorem dX0_start_16 : decode cX0_start 16 = .ok (.aload_n 0, 1) := by decide +kernel
theorem dX0_start_17 : decode cX0_start 17 = .ok (.iconst 0, 1) := by decide +kernel
theorem dX0_start_18 : decode cX0_start 18 = .ok (.putfield 20, 3) := by decide +kernel
theorem dX0_start_21 : decode cX0_start 21 = .ok (.return_, 1) := by decide +kernel
set_option maxRecDepth 100000 in
def fn_wk_X0_start (f : Int32) (t2 : Int32) (β : Type) (k_ : Int32 → Int32 → Int32 → β) : β := (k_ (f * 8) (t2 * 8) 0)
set_option maxRecDepth 100000 in
theorem fn_wk_X0_start_s {f : Int32} {t2 : Int32} {β : Type} {k_ : Int32 → Int32 → Int32 → β} : fn_wk_X0_start f t2 β k_ = (k_ (f * 8) (t2 * 8) 0) := rfl
set_option maxRecDepth 100000 in
set_option maxHeartbeats 4000000 in
theorem wk_X0_start (E : g_E) (b : Nat) (t : Nat) (b_1 : Int32) (b_2 : Int32) (b_3 : Int32) (f : Int32) (t2 : Int32)  : Ev E MX0_start 0 0 0 0 [.ref b, .int f, .int t2] [(b, .inr (0, [.ref t, .int b_1, .int b_2, .int b_3]))] (fun v_ w_ => ∃ zb_1 : Int32, ∃ zb_2 : Int32, ∃ zb_3 : Int32, (∀ (β : Type) (k_ : Int32 → Int32 → Int32 → β), fn_wk_X0_start f t2 β k_ = k_ zb_1 zb_2 zb_3) ∧ v_ = none ∧ w_ = [(b, .inr (0, [.ref t, .int zb_1, .int zb_2, .int zb_3]))]) := by
  refine Ev.intro (by decide) (Nat.le_of_ble_eq_true rfl) ?_
  intro X B hr hI
  have B : Bd E X cX0_start RX0 3 0 0 0 0 := B
  have hr : Rt E X none 0 0 (fun v_ w_ => ∃ zb_1 : Int32, ∃ zb_2 : Int32, ∃ zb_3 : Int32, (∀ (β : Type) (k_ : Int32 → Int32 → Int32 → β), fn_wk_X0_start f t2 β k_ = k_ zb_1 zb_2 zb_3) ∧ v_ = none ∧ w_ = [(b, .inr (0, [.ref t, .int zb_1, .int zb_2, .int zb_3]))]) := hr
  have e_ := fun (β : Type) (k_ : Int32 → Int32 → Int32 → β) => fn_wk_X0_start_s (β := β) (k_ := k_) (f := f) (t2 := t2)
  show G E X 3 [(b, .inr (0, [.ref t, .int b_1, .int b_2, .int b_3]))] 0 0 [(0, .ref b), (1, .int f), (2, .int t2)] 0 []
  refine g_aload_n B dX0_start_0 rfl 0 rfl ?_
  refine g_iload_n B dX0_start_1 rfl 1 rfl ?_
  refine g_bipush (v := 8) B dX0_start_2 (by decide) ?_
  refine g_imul B dX0_start_4 ?_
  refine g_put (ws' := [(b, .inr (0, [.ref t, .int (f * 8), .int b_2, .int b_3]))]) B 0 1 fl_X0_13 pf_X0_1 rfl (Nat.le_of_ble_eq_true rfl) rfl rfl rfl dX0_start_5 ?_
  refine g_aload_n B dX0_start_8 rfl 0 rfl ?_
  refine g_iload_n B dX0_start_9 rfl 2 rfl ?_
  refine g_bipush (v := 8) B dX0_start_10 (by decide) ?_
  refine g_imul B dX0_start_12 ?_
  refine g_put (ws' := [(b, .inr (0, [.ref t, .int (f * 8), .int (t2 * 8), .int b_3]))]) B 0 2 fl_X0_17 pf_X0_2 rfl (Nat.le_of_ble_eq_true rfl) rfl rfl rfl dX0_start_13 ?_
  refine g_aload_n B dX0_start_16 rfl 0 rfl ?_
  refine g_iconst (v := 0) B dX0_start_17 (by decide) ?_
  refine g_put (ws' := [(b, .inr (0, [.ref t, .int (f * 8), .int (t2 * 8), .int 0]))]) B 0 3 fl_X0_20 pf_X0_3 rfl (Nat.le_of_ble_eq_true rfl) (by decide) rfl rfl dX0_start_18 ?_
  exact g_vret B hr dX0_start_21 (by decide) (by decide) ⟨(f * 8), (t2 * 8), 0, e_, rfl, rfl⟩
abbrev MX0_readBits : g_M := (yX0_readBits, cX0_readBits, 7, (some .long))
theorem dX0_readBits_0 : decode cX0_readBits 0 = .ok (.lconst 0, 1) := by decide +kernel
theorem dX0_readBits_1 : decode cX0_readBits 1 = .ok (.lstore_n 2, 1) := by decide +kernel
theorem dX0_readBits_2 : decode cX0_readBits 2 = .ok (.iconst 0, 1) := by decide +kernel
theorem dX0_readBits_3 : decode cX0_readBits 3 = .ok (.istore 4, 2) := by decide +kernel
theorem dX0_readBits_5 : decode cX0_readBits 5 = .ok (.iload 4, 2) := by decide +kernel
theorem dX0_readBits_7 : decode cX0_readBits 7 = .ok (.iload_n 1, 1) := by decide +kernel
theorem dX0_readBits_8 : decode cX0_readBits 8 = .ok (.if_icmp .ge 100, 3) := by decide +kernel
theorem dX0_readBits_11 : decode cX0_readBits 11 = .ok (.iconst 0, 1) := by decide +kernel
theorem dX0_readBits_12 : decode cX0_readBits 12 = .ok (.istore 5, 2) := by decide +kernel
theorem dX0_readBits_14 : decode cX0_readBits 14 = .ok (.aload_n 0, 1) := by decide +kernel
theorem dX0_readBits_15 : decode cX0_readBits 15 = .ok (.getfield 13, 3) := by decide +kernel
theorem dX0_readBits_18 : decode cX0_readBits 18 = .ok (.iconst 3, 1) := by decide +kernel
theorem dX0_readBits_19 : decode cX0_readBits 19 = .ok (.ishr, 1) := by decide +kernel
theorem dX0_readBits_20 : decode cX0_readBits 20 = .ok (.istore 6, 2) := by decide +kernel
theorem dX0_readBits_22 : decode cX0_readBits 22 = .ok (.aload_n 0, 1) := by decide +kernel
theorem dX0_readBits_23 : decode cX0_readBits 23 = .ok (.getfield 13, 3) := by decide +kernel
theorem dX0_readBits_26 : decode cX0_readBits 26 = .ok (.aload_n 0, 1) := by decide +kernel
theorem dX0_readBits_27 : decode cX0_readBits 27 = .ok (.getfield 17, 3) := by decide +kernel
theorem dX0_readBits_30 : decode cX0_readBits 30 = .ok (.if_icmp .ge 59, 3) := by decide +kernel
theorem dX0_readBits_89 : decode cX0_readBits 89 = .ok (.aload_n 0, 1) := by decide +kernel
theorem dX0_readBits_90 : decode cX0_readBits 90 = .ok (.iconst 1, 1) := by decide +kernel
theorem dX0_readBits_91 : decode cX0_readBits 91 = .ok (.putfield 20, 3) := by decide +kernel
theorem dX0_readBits_94 : decode cX0_readBits 94 = .ok (.lload_n 2, 1) := by decide +kernel
theorem dX0_readBits_95 : decode cX0_readBits 95 = .ok (.iconst 1, 1) := by decide +kernel
theorem dX0_readBits_96 : decode cX0_readBits 96 = .ok (.lshl, 1) := by decide +kernel
theorem dX0_readBits_97 : decode cX0_readBits 97 = .ok (.iload 5, 2) := by decide +kernel
theorem dX0_readBits_99 : decode cX0_readBits 99 = .ok (.i2l, 1) := by decide +kernel
theorem dX0_readBits_100 : decode cX0_readBits 100 = .ok (.lor, 1) := by decide +kernel
theorem dX0_readBits_101 : decode cX0_readBits 101 = .ok (.lstore_n 2, 1) := by decide +kernel
theorem dX0_readBits_102 : decode cX0_readBits 102 = .ok (.iinc 4 1, 3) := by decide +kernel
theorem dX0_readBits_105 : decode cX0_readBits 105 = .ok (.goto (-100), 3) := by decide +kernel
theorem dX0_readBits_33 : decode cX0_readBits 33 = .ok (.iload 6, 2) := by decide +kernel
theorem dX0_readBits_35 : decode cX0_readBits 35 = .ok (.ifCond .lt 54, 3) := by decide +kernel
theorem dX0_readBits_38 : decode cX0_readBits 38 = .ok (.iload 6, 2) := by decide +kernel
theorem dX0_readBits_40 : decode cX0_readBits 40 = .ok (.aload_n 0, 1) := by decide +kernel
theorem dX0_readBits_41 : decode cX0_readBits 41 = .ok (.getfield 7, 3) := by decide +kernel
theorem dX0_readBits_44 : decode cX0_readBits 44 = .ok (.getfield 24, 3) := by decide +kernel
theorem w_fl_X0_24 : Cond.fieldLink RX0 24 (TX2 0).1 (TX2 0).2.1 (TX2 0).2.2.1 ∈ g_tbl := g_tbl_in 128 (by decide +kernel) (by decide +kernel)
theorem fl_X0_24 : FL RX0 24 2 0 := ⟨RX2, TX2, 2, rfl, by decide, inX_X2, w_fl_X0_24⟩
theorem dX0_readBits_47 : decode cX0_readBits 47 = .ok (.arraylength, 1) := by decide +kernel
theorem dX0_readBits_48 : decode cX0_readBits 48 = .ok (.if_icmp .ge 41, 3) := by decide +kernel
theorem dX0_readBits_51 : decode cX0_readBits 51 = .ok (.aload_n 0, 1) := by decide +kernel
theorem dX0_readBits_52 : decode cX0_readBits 52 = .ok (.getfield 7, 3) := by decide +kernel
theorem dX0_readBits_55 : decode cX0_readBits 55 = .ok (.getfield 24, 3) := by decide +kernel
theorem dX0_readBits_58 : decode cX0_readBits 58 = .ok (.iload 6, 2) := by decide +kernel
theorem dX0_readBits_60 : decode cX0_readBits 60 = .ok (.baload, 1) := by decide +kernel
theorem dX0_readBits_61 : decode cX0_readBits 61 = .ok (.bipush 7, 2) := by decide +kernel
theorem dX0_readBits_63 : decode cX0_readBits 63 = .ok (.aload_n 0, 1) := by decide +kernel
theorem dX0_readBits_64 : decode cX0_readBits 64 = .ok (.getfield 13, 3) := by decide +kernel
theorem dX0_readBits_67 : decode cX0_readBits 67 = .ok (.bipush 7, 2) := by decide +kernel
theorem dX0_readBits_69 : decode cX0_readBits 69 = .ok (.iand, 1) := by decide +kernel
theorem dX0_readBits_70 : decode cX0_readBits 70 = .ok (.isub, 1) := by decide +kernel
theorem dX0_readBits_71 : decode cX0_readBits 71 = .ok (.ishr, 1) := by decide +kernel
theorem dX0_readBits_72 : decode cX0_readBits 72 = .ok (.iconst 1, 1) := by decide +kernel
theorem dX0_readBits_73 : decode cX0_readBits 73 = .ok (.iand, 1) := by decide +kernel
theorem dX0_readBits_74 : decode cX0_readBits 74 = .ok (.istore 5, 2) := by decide +kernel
theorem dX0_readBits_76 : decode cX0_readBits 76 = .ok (.aload_n 0, 1) := by decide +kernel
theorem dX0_readBits_77 : decode cX0_readBits 77 = .ok (.dup, 1) := by decide +kernel
theorem dX0_readBits_78 : decode cX0_readBits 78 = .ok (.getfield 13, 3) := by decide +kernel
theorem dX0_readBits_81 : decode cX0_readBits 81 = .ok (.iconst 1, 1) := by decide +kernel
theorem dX0_readBits_82 : decode cX0_readBits 82 = .ok (.iadd, 1) := by decide +kernel
theorem dX0_readBits_83 : decode cX0_readBits 83 = .ok (.putfield 13, 3) := by decide +kernel
theorem dX0_readBits_86 : decode cX0_readBits 86 = .ok (.goto 8, 3) := by decide +kernel
set_option maxRecDepth 100000 in
def lf_wk_X0_readBits_5 (N : Nat) (b_2 : Int32) (a_f : Nat → Int32) (β : Type) (kx_ : Int32 → Int32 → Int32 → Int64 → Int32 → β)  : Nat → Int32 → Int32 → Int32 → Int64 → Int32 → β
  | 0, b_1, b_3, l1, l2, l4 => kx_ b_1 b_3 l1 l2 l4
  | fuel + 1, b_1, b_3, l1, l2, l4 => (if l1 ≤ l4 then (kx_ b_1 b_3 l1 l2 l4) else (if b_2 ≤ b_1 then (lf_wk_X0_readBits_5 N b_2 a_f β kx_ fuel b_1 1 l1 ((l2 <<< (Int32.toInt64 1 &&& 63)) ||| 0) (l4 + 1)) else (if (b_1 >>> (3 &&& 31)) < 0 then (lf_wk_X0_readBits_5 N b_2 a_f β kx_ fuel b_1 1 l1 ((l2 <<< (Int32.toInt64 1 &&& 63)) ||| 0) (l4 + 1)) else (if (nI N) ≤ (b_1 >>> (3 &&& 31)) then (lf_wk_X0_readBits_5 N b_2 a_f β kx_ fuel b_1 1 l1 ((l2 <<< (Int32.toInt64 1 &&& 63)) ||| 0) (l4 + 1)) else (fnL ((l2 <<< (Int32.toInt64 1 &&& 63)) ||| (Int32.toInt64 ((((nb a_f) (Int32.toNatClampNeg (b_1 >>> (3 &&& 31)))) >>> ((7 - (b_1 &&& 7)) &&& 31)) &&& 1))) (fun x_219 => (lf_wk_X0_readBits_5 N b_2 a_f β kx_ fuel (b_1 + 1) b_3 l1 x_219 (l4 + 1))))))))
set_option maxRecDepth 100000 in
theorem lf_wk_X0_readBits_5_s {N : Nat} {b_2 : Int32} {a_f : Nat → Int32} {β : Type} {kx_ : Int32 → Int32 → Int32 → Int64 → Int32 → β}  {fuel : Nat} {b_1 : Int32} {b_3 : Int32} {l1 : Int32} {l2 : Int64} {l4 : Int32} : lf_wk_X0_readBits_5 N b_2 a_f β kx_  (fuel + 1) b_1 b_3 l1 l2 l4 = (if l1 ≤ l4 then (kx_ b_1 b_3 l1 l2 l4) else (if b_2 ≤ b_1 then (lf_wk_X0_readBits_5 N b_2 a_f β kx_ fuel b_1 1 l1 ((l2 <<< (Int32.toInt64 1 &&& 63)) ||| 0) (l4 + 1)) else (if (b_1 >>> (3 &&& 31)) < 0 then (lf_wk_X0_readBits_5 N b_2 a_f β kx_ fuel b_1 1 l1 ((l2 <<< (Int32.toInt64 1 &&& 63)) ||| 0) (l4 + 1)) else (if (nI N) ≤ (b_1 >>> (3 &&& 31)) then (lf_wk_X0_readBits_5 N b_2 a_f β kx_ fuel b_1 1 l1 ((l2 <<< (Int32.toInt64 1 &&& 63)) ||| 0) (l4 + 1)) else (fnL ((l2 <<< (Int32.toInt64 1 &&& 63)) ||| (Int32.toInt64 ((((nb a_f) (Int32.toNatClampNeg (b_1 >>> (3 &&& 31)))) >>> ((7 - (b_1 &&& 7)) &&& 31)) &&& 1))) (fun x_219 => (lf_wk_X0_readBits_5 N b_2 a_f β kx_ fuel (b_1 + 1) b_3 l1 x_219 (l4 + 1)))))))) := rfl
set_option maxRecDepth 100000 in
set_option maxHeartbeats 4000000 in
theorem lp_wk_X0_readBits_5 (E : g_E) (b : Nat) (t : Nat) (a : Nat) (N : Nat) (b_2 : Int32) (t_1 : Int32) (a_f : Nat → Int32) (hN : N < 2147483648) {X : g_X} {rr : (β : Type) → (Int32 → Int32 → Int64 → β) → β} (kx_ : (β : Type) → (Int32 → Int32 → Int64 → β) → Int32 → Int32 → Int32 → Int64 → Int32 → β) (B : Bd E X cX0_readBits RX0 7 0 0 0 0) (hr : Rt E X (some .long) 0 0 (fun v_ w_ => ∃ zb_1 : Int32, ∃ zb_3 : Int32, ∃ zr : Int64, (∀ (β : Type) (k_ : Int32 → Int32 → Int64 → β), rr β k_ = k_ zb_1 zb_3 zr) ∧ v_ = some (.long zr) ∧ w_ = [(b, .inr (0, [.ref t, .int zb_1, .int b_2, .int zb_3])), (t, .inr (2, [.ref a, .int t_1])), (a, .inl (E.2.2.1 1, N, .inl (nb a_f)))])) (K : ∀ (b_1 : Int32) (b_3 : Int32) (l1 : Int32) (l2 : Int64) (l4 : Int32), (∀ (β : Type) (k_ : Int32 → Int32 → Int64 → β), rr β k_ = kx_ β k_ b_1 b_3 l1 l2 l4) → G E X 7 [(b, .inr (0, [.ref t, .int b_1, .int b_2, .int b_3])), (t, .inr (2, [.ref a, .int t_1])), (a, .inl (E.2.2.1 1, N, .inl (nb a_f)))] 0 0 [(0, .ref b), (1, .int l1), (2, .long l2), (4, .int l4)] 108 []) : ∀ (n : Nat) (b_1 : Int32) (b_3 : Int32) (l1 : Int32) (l2 : Int64) (l4 : Int32), (Int32.toInt l1 - Int32.toInt l4).toNat < n → (∀ (β : Type) (k_ : Int32 → Int32 → Int64 → β), rr β k_ = lf_wk_X0_readBits_5 N b_2 a_f β (kx_ β k_) n b_1 b_3 l1 l2 l4) → G E X 7 [(b, .inr (0, [.ref t, .int b_1, .int b_2, .int b_3])), (t, .inr (2, [.ref a, .int t_1])), (a, .inl (E.2.2.1 1, N, .inl (nb a_f)))] 0 0 [(0, .ref b), (1, .int l1), (2, .long l2), (4, .int l4)] 5 [] := by
  intro n
  induction n with
  | zero => intro b_1 b_3 l1 l2 l4 h _; exact absurd h (Nat.not_lt_zero _)
  | succ n ih =>
    intro b_1 b_3 l1 l2 l4 hm e_
    replace e_ := fun β k_ => (e_ β k_).trans lf_wk_X0_readBits_5_s
    refine g_iload B dX0_readBits_5 3 rfl ?_
    refine g_iload_n B dX0_readBits_7 rfl 1 rfl ?_
    refine g_icmp_ge (tgt := 108) B dX0_readBits_8 (by decide) (fun c8_215 => ?_) (fun c8_215 => ?_)
    · replace e_ := fun β k_ => (e_ β k_).trans (if_pos c8_215)
      exact K b_1 b_3 l1 l2 l4 e_
    · replace e_ := fun β k_ => (e_ β k_).trans (if_neg c8_215)
      refine g_iconst (v := 0) B dX0_readBits_11 (by decide) ?_
      refine g_istore (lv' := [(5, .int 0), (0, .ref b), (1, .int l1), (2, .long l2), (4, .int l4)]) B dX0_readBits_12 (by decide) rfl ?_
      refine g_aload_n B dX0_readBits_14 rfl 1 rfl ?_
      refine g_get B 0 1 fl_X0_13 rfl rfl dX0_readBits_15 ?_
      refine g_iconst (v := 3) B dX0_readBits_18 (by decide) ?_
      refine g_ishr B dX0_readBits_19 ?_
      refine g_istore (lv' := [(6, .int (b_1 >>> (3 &&& 31))), (5, .int 0), (0, .ref b), (1, .int l1), (2, .long l2), (4, .int l4)]) B dX0_readBits_20 (by decide) rfl ?_
      refine g_aload_n B dX0_readBits_22 rfl 2 rfl ?_
      refine g_get B 0 1 fl_X0_13 rfl rfl dX0_readBits_23 ?_
      refine g_aload_n B dX0_readBits_26 rfl 2 rfl ?_
      refine g_get B 0 2 fl_X0_17 rfl rfl dX0_readBits_27 ?_
      refine g_icmp_ge (tgt := 89) B dX0_readBits_30 (by decide) (fun c30_216 => ?_) (fun c30_216 => ?_)
      · replace e_ := fun β k_ => (e_ β k_).trans (if_pos c30_216)
        refine g_aload_n B dX0_readBits_89 rfl 2 rfl ?_
        refine g_iconst (v := 1) B dX0_readBits_90 (by decide) ?_
        refine g_put (ws' := [(b, .inr (0, [.ref t, .int b_1, .int b_2, .int 1])), (t, .inr (2, [.ref a, .int t_1])), (a, .inl (E.2.2.1 1, N, .inl (nb a_f)))]) B 0 3 fl_X0_20 pf_X0_3 rfl (Nat.le_of_ble_eq_true rfl) (by decide) rfl rfl dX0_readBits_91 ?_
        refine g_lload_n B dX0_readBits_94 rfl 4 rfl ?_
        refine g_iconst (v := 1) B dX0_readBits_95 (by decide) ?_
        refine g_lshl B dX0_readBits_96 ?_
        refine g_iload B dX0_readBits_97 1 rfl ?_
        refine g_i2l B dX0_readBits_99 ?_
        refine g_rl (x' := 0) (by decide) ?_
        refine g_lor B dX0_readBits_100 ?_
        refine g_lstore_n (lv' := [(2, .long ((l2 <<< (Int32.toInt64 1 &&& 63)) ||| 0)), (6, .int (b_1 >>> (3 &&& 31))), (5, .int 0), (0, .ref b), (1, .int l1), (4, .int l4)]) B dX0_readBits_101 rfl (by decide) rfl ?_
        refine g_iinc (v := (l4 + 1)) (lv' := [(4, .int (l4 + 1)), (2, .long ((l2 <<< (Int32.toInt64 1 &&& 63)) ||| 0)), (6, .int (b_1 >>> (3 &&& 31))), (5, .int 0), (0, .ref b), (1, .int l1)]) B dX0_readBits_102 5 rfl rfl (by decide) rfl ?_
        refine g_goto (tgt := 5) B dX0_readBits_105 (by decide) ?_
        refine g_lvsub (lv' := [(0, .ref b), (1, .int l1), (2, .long ((l2 <<< (Int32.toInt64 1 &&& 63)) ||| 0)), (4, .int (l4 + 1))]) [4, 5, 1, 0] rfl ?_
        exact ih b_1 1 l1 ((l2 <<< (Int32.toInt64 1 &&& 63)) ||| 0) (l4 + 1)  (Nat.lt_of_lt_of_le (st_up (o_2 c8_215)) (Nat.le_of_lt_succ hm)) e_
      · replace e_ := fun β k_ => (e_ β k_).trans (if_neg c30_216)
        refine g_iload B dX0_readBits_33 0 rfl ?_
        refine g_if_lt (tgt := 89) B dX0_readBits_35 (by decide) (fun c35_217 => ?_) (fun c35_217 => ?_)
        · replace e_ := fun β k_ => (e_ β k_).trans (if_pos c35_217)
          refine g_aload_n B dX0_readBits_89 rfl 2 rfl ?_
          refine g_iconst (v := 1) B dX0_readBits_90 (by decide) ?_
          refine g_put (ws' := [(b, .inr (0, [.ref t, .int b_1, .int b_2, .int 1])), (t, .inr (2, [.ref a, .int t_1])), (a, .inl (E.2.2.1 1, N, .inl (nb a_f)))]) B 0 3 fl_X0_20 pf_X0_3 rfl (Nat.le_of_ble_eq_true rfl) (by decide) rfl rfl dX0_readBits_91 ?_
          refine g_lload_n B dX0_readBits_94 rfl 4 rfl ?_
          refine g_iconst (v := 1) B dX0_readBits_95 (by decide) ?_
          refine g_lshl B dX0_readBits_96 ?_
          refine g_iload B dX0_readBits_97 1 rfl ?_
          refine g_i2l B dX0_readBits_99 ?_
          refine g_rl (x' := 0) (by decide) ?_
          refine g_lor B dX0_readBits_100 ?_
          refine g_lstore_n (lv' := [(2, .long ((l2 <<< (Int32.toInt64 1 &&& 63)) ||| 0)), (6, .int (b_1 >>> (3 &&& 31))), (5, .int 0), (0, .ref b), (1, .int l1), (4, .int l4)]) B dX0_readBits_101 rfl (by decide) rfl ?_
          refine g_iinc (v := (l4 + 1)) (lv' := [(4, .int (l4 + 1)), (2, .long ((l2 <<< (Int32.toInt64 1 &&& 63)) ||| 0)), (6, .int (b_1 >>> (3 &&& 31))), (5, .int 0), (0, .ref b), (1, .int l1)]) B dX0_readBits_102 5 rfl rfl (by decide) rfl ?_
          refine g_goto (tgt := 5) B dX0_readBits_105 (by decide) ?_
          refine g_lvsub (lv' := [(0, .ref b), (1, .int l1), (2, .long ((l2 <<< (Int32.toInt64 1 &&& 63)) ||| 0)), (4, .int (l4 + 1))]) [4, 5, 1, 0] rfl ?_
          exact ih b_1 1 l1 ((l2 <<< (Int32.toInt64 1 &&& 63)) ||| 0) (l4 + 1)  (Nat.lt_of_lt_of_le (st_up (o_2 c8_215)) (Nat.le_of_lt_succ hm)) e_
        · replace e_ := fun β k_ => (e_ β k_).trans (if_neg c35_217)
          refine g_iload B dX0_readBits_38 0 rfl ?_
          refine g_aload_n B dX0_readBits_40 rfl 2 rfl ?_
          refine g_get B 0 0 fl_X0_7 rfl rfl dX0_readBits_41 ?_
          refine g_get B 1 0 fl_X0_24 rfl rfl dX0_readBits_44 ?_
          refine g_alen (v := nI N) B 2 (by decide) rfl rfl dX0_readBits_47 ?_
          refine g_icmp_ge (tgt := 89) B dX0_readBits_48 (by decide) (fun c48_218 => ?_) (fun c48_218 => ?_)
          · replace e_ := fun β k_ => (e_ β k_).trans (if_pos c48_218)
            refine g_aload_n B dX0_readBits_89 rfl 2 rfl ?_
            refine g_iconst (v := 1) B dX0_readBits_90 (by decide) ?_
            refine g_put (ws' := [(b, .inr (0, [.ref t, .int b_1, .int b_2, .int 1])), (t, .inr (2, [.ref a, .int t_1])), (a, .inl (E.2.2.1 1, N, .inl (nb a_f)))]) B 0 3 fl_X0_20 pf_X0_3 rfl (Nat.le_of_ble_eq_true rfl) (by decide) rfl rfl dX0_readBits_91 ?_
            refine g_lload_n B dX0_readBits_94 rfl 4 rfl ?_
            refine g_iconst (v := 1) B dX0_readBits_95 (by decide) ?_
            refine g_lshl B dX0_readBits_96 ?_
            refine g_iload B dX0_readBits_97 1 rfl ?_
            refine g_i2l B dX0_readBits_99 ?_
            refine g_rl (x' := 0) (by decide) ?_
            refine g_lor B dX0_readBits_100 ?_
            refine g_lstore_n (lv' := [(2, .long ((l2 <<< (Int32.toInt64 1 &&& 63)) ||| 0)), (6, .int (b_1 >>> (3 &&& 31))), (5, .int 0), (0, .ref b), (1, .int l1), (4, .int l4)]) B dX0_readBits_101 rfl (by decide) rfl ?_
            refine g_iinc (v := (l4 + 1)) (lv' := [(4, .int (l4 + 1)), (2, .long ((l2 <<< (Int32.toInt64 1 &&& 63)) ||| 0)), (6, .int (b_1 >>> (3 &&& 31))), (5, .int 0), (0, .ref b), (1, .int l1)]) B dX0_readBits_102 5 rfl rfl (by decide) rfl ?_
            refine g_goto (tgt := 5) B dX0_readBits_105 (by decide) ?_
            refine g_lvsub (lv' := [(0, .ref b), (1, .int l1), (2, .long ((l2 <<< (Int32.toInt64 1 &&& 63)) ||| 0)), (4, .int (l4 + 1))]) [4, 5, 1, 0] rfl ?_
            exact ih b_1 1 l1 ((l2 <<< (Int32.toInt64 1 &&& 63)) ||| 0) (l4 + 1)  (Nat.lt_of_lt_of_le (st_up (o_2 c8_215)) (Nat.le_of_lt_succ hm)) e_
          · replace e_ := fun β k_ => (e_ β k_).trans (if_neg c48_218)
            refine g_aload_n B dX0_readBits_51 rfl 2 rfl ?_
            refine g_get B 0 0 fl_X0_7 rfl rfl dX0_readBits_52 ?_
            refine g_get B 1 0 fl_X0_24 rfl rfl dX0_readBits_55 ?_
            refine g_iload B dX0_readBits_58 0 rfl ?_
            refine g_bald B 2 rfl (in_lt hN c35_217 (o_2 c48_218)) dX0_readBits_60 ?_
            refine g_bipush (v := 7) B dX0_readBits_61 (by decide) ?_
            refine g_aload_n B dX0_readBits_63 rfl 2 rfl ?_
            refine g_get B 0 1 fl_X0_13 rfl rfl dX0_readBits_64 ?_
            refine g_bipush (v := 7) B dX0_readBits_67 (by decide) ?_
            refine g_iand B dX0_readBits_69 ?_
            refine g_isub B dX0_readBits_70 ?_
            refine g_ishr B dX0_readBits_71 ?_
            refine g_iconst (v := 1) B dX0_readBits_72 (by decide) ?_
            refine g_iand B dX0_readBits_73 ?_
            refine g_istore (lv' := [(5, .int ((((nb a_f) (Int32.toNatClampNeg (b_1 >>> (3 &&& 31)))) >>> ((7 - (b_1 &&& 7)) &&& 31)) &&& 1)), (6, .int (b_1 >>> (3 &&& 31))), (0, .ref b), (1, .int l1), (2, .long l2), (4, .int l4)]) B dX0_readBits_74 (by decide) rfl ?_
            refine g_aload_n B dX0_readBits_76 rfl 2 rfl ?_
            refine g_dup B dX0_readBits_77 rfl ?_
            refine g_get B 0 1 fl_X0_13 rfl rfl dX0_readBits_78 ?_
            refine g_iconst (v := 1) B dX0_readBits_81 (by decide) ?_
            refine g_iadd B dX0_readBits_82 ?_
            refine g_put (ws' := [(b, .inr (0, [.ref t, .int (b_1 + 1), .int b_2, .int b_3])), (t, .inr (2, [.ref a, .int t_1])), (a, .inl (E.2.2.1 1, N, .inl (nb a_f)))]) B 0 1 fl_X0_13 pf_X0_1 rfl (Nat.le_of_ble_eq_true rfl) rfl rfl rfl dX0_readBits_83 ?_
            refine g_goto (tgt := 94) B dX0_readBits_86 (by decide) ?_
            refine g_lload_n B dX0_readBits_94 rfl 4 rfl ?_
            refine g_iconst (v := 1) B dX0_readBits_95 (by decide) ?_
            refine g_lshl B dX0_readBits_96 ?_
            refine g_iload B dX0_readBits_97 0 rfl ?_
            refine g_i2l B dX0_readBits_99 ?_
            refine g_lor B dX0_readBits_100 ?_
            refine g_topl (fun x_219 ex_219 => ?_)
            replace e_ := fun β k_ => (e_ β k_).trans (fnL_eq (x := x_219) ex_219.symm _)
            refine g_lstore_n (lv' := [(2, .long x_219), (5, .int ((((nb a_f) (Int32.toNatClampNeg (b_1 >>> (3 &&& 31)))) >>> ((7 - (b_1 &&& 7)) &&& 31)) &&& 1)), (6, .int (b_1 >>> (3 &&& 31))), (0, .ref b), (1, .int l1), (4, .int l4)]) B dX0_readBits_101 rfl (by decide) rfl ?_
            refine g_iinc (v := (l4 + 1)) (lv' := [(4, .int (l4 + 1)), (2, .long x_219), (5, .int ((((nb a_f) (Int32.toNatClampNeg (b_1 >>> (3 &&& 31)))) >>> ((7 - (b_1 &&& 7)) &&& 31)) &&& 1)), (6, .int (b_1 >>> (3 &&& 31))), (0, .ref b), (1, .int l1)]) B dX0_readBits_102 5 rfl rfl (by decide) rfl ?_
            refine g_goto (tgt := 5) B dX0_readBits_105 (by decide) ?_
            refine g_lvsub (lv' := [(0, .ref b), (1, .int l1), (2, .long x_219), (4, .int (l4 + 1))]) [4, 5, 1, 0] rfl ?_
            exact ih (b_1 + 1) b_3 l1 x_219 (l4 + 1)  (Nat.lt_of_lt_of_le (st_up (o_2 c8_215)) (Nat.le_of_lt_succ hm)) e_
theorem dX0_readBits_108 : decode cX0_readBits 108 = .ok (.lload_n 2, 1) := by decide +kernel
theorem dX0_readBits_109 : decode cX0_readBits 109 = .ok (.lreturn, 1) := by decide +kernel
set_option maxRecDepth 100000 in
def fn_wk_X0_readBits (N : Nat) (b_2 : Int32) (a_f : Nat → Int32) (b_1 : Int32) (b_3 : Int32) (n : Int32) (β : Type) (k_ : Int32 → Int32 → Int64 → β) : β := (lf_wk_X0_readBits_5 N b_2 a_f β (fun y_220b_1 y_220b_3 y_220l1 y_220l2 y_220l4 => (k_ y_220b_1 y_220b_3 y_220l2)) ((Int32.toInt n - Int32.toInt 0).toNat + 1) b_1 b_3 n 0 0)
set_option maxRecDepth 100000 in
theorem fn_wk_X0_readBits_s {N : Nat} {b_2 : Int32} {a_f : Nat → Int32} {b_1 : Int32} {b_3 : Int32} {n : Int32} {β : Type} {k_ : Int32 → Int32 → Int64 → β} : fn_wk_X0_readBits N b_2 a_f b_1 b_3 n β k_ = (lf_wk_X0_readBits_5 N b_2 a_f β (fun y_220b_1 y_220b_3 y_220l1 y_220l2 y_220l4 => (k_ y_220b_1 y_220b_3 y_220l2)) ((Int32.toInt n - Int32.toInt 0).toNat + 1) b_1 b_3 n 0 0) := rfl
set_option maxRecDepth 100000 in
set_option maxHeartbeats 4000000 in
theorem wk_X0_readBits (E : g_E) (b : Nat) (t : Nat) (a : Nat) (N : Nat) (b_2 : Int32) (t_1 : Int32) (a_f : Nat → Int32) (b_1 : Int32) (b_3 : Int32) (n : Int32) (hN : N < 2147483648) : Ev E MX0_readBits 0 0 0 0 [.ref b, .int n] [(b, .inr (0, [.ref t, .int b_1, .int b_2, .int b_3])), (t, .inr (2, [.ref a, .int t_1])), (a, .inl (E.2.2.1 1, N, .inl (nb a_f)))] (fun v_ w_ => ∃ zb_1 : Int32, ∃ zb_3 : Int32, ∃ zr : Int64, (∀ (β : Type) (k_ : Int32 → Int32 → Int64 → β), fn_wk_X0_readBits N b_2 a_f b_1 b_3 n β k_ = k_ zb_1 zb_3 zr) ∧ v_ = some (.long zr) ∧ w_ = [(b, .inr (0, [.ref t, .int zb_1, .int b_2, .int zb_3])), (t, .inr (2, [.ref a, .int t_1])), (a, .inl (E.2.2.1 1, N, .inl (nb a_f)))]) := by
  refine Ev.intro (by decide) (Nat.le_of_ble_eq_true rfl) ?_
  intro X B hr hI
  have B : Bd E X cX0_readBits RX0 7 0 0 0 0 := B
  have hr : Rt E X (some .long) 0 0 (fun v_ w_ => ∃ zb_1 : Int32, ∃ zb_3 : Int32, ∃ zr : Int64, (∀ (β : Type) (k_ : Int32 → Int32 → Int64 → β), fn_wk_X0_readBits N b_2 a_f b_1 b_3 n β k_ = k_ zb_1 zb_3 zr) ∧ v_ = some (.long zr) ∧ w_ = [(b, .inr (0, [.ref t, .int zb_1, .int b_2, .int zb_3])), (t, .inr (2, [.ref a, .int t_1])), (a, .inl (E.2.2.1 1, N, .inl (nb a_f)))]) := hr
  have e_ := fun (β : Type) (k_ : Int32 → Int32 → Int64 → β) => fn_wk_X0_readBits_s (β := β) (k_ := k_) (N := N) (b_2 := b_2) (a_f := a_f) (b_1 := b_1) (b_3 := b_3) (n := n)
  show G E X 7 [(b, .inr (0, [.ref t, .int b_1, .int b_2, .int b_3])), (t, .inr (2, [.ref a, .int t_1])), (a, .inl (E.2.2.1 1, N, .inl (nb a_f)))] 0 0 [(0, .ref b), (1, .int n)] 0 []
  refine g_lconst (v := 0) B dX0_readBits_0 (by decide) ?_
  refine g_lstore_n (lv' := [(2, .long 0), (0, .ref b), (1, .int n)]) B dX0_readBits_1 rfl (by decide) rfl ?_
  refine g_iconst (v := 0) B dX0_readBits_2 (by decide) ?_
  refine g_istore (lv' := [(4, .int 0), (2, .long 0), (0, .ref b), (1, .int n)]) B dX0_readBits_3 (by decide) rfl ?_
  refine g_lvsub (lv' := [(0, .ref b), (1, .int n), (2, .long 0), (4, .int 0)]) [2, 3, 1, 0] rfl ?_
  refine lp_wk_X0_readBits_5 E b t a N b_2 t_1 a_f hN _ B hr (fun y_220b_1 y_220b_3 y_220l1 y_220l2 y_220l4 e_ => ?_) _ b_1 b_3 n 0 0  (Nat.lt_succ_self _) e_
  refine g_lload_n B dX0_readBits_108 rfl 2 rfl ?_
  exact g_lret B hr dX0_readBits_109 (by decide) (by decide) ⟨y_220b_1, y_220b_3, y_220l2, e_, rfl, rfl⟩
abbrev MX0_readOnes : g_M := (yX0_readOnes, cX0_readOnes, 2, (some .int))
theorem dX0_readOnes_0 : decode cX0_readOnes 0 = .ok (.iconst 0, 1) := by decide +kernel
theorem dX0_readOnes_1 : decode cX0_readOnes 1 = .ok (.istore_n 1, 1) := by decide +kernel
theorem dX0_readOnes_2 : decode cX0_readOnes 2 = .ok (.iload_n 1, 1) := by decide +kernel
theorem dX0_readOnes_3 : decode cX0_readOnes 3 = .ok (.bipush 16, 2) := by decide +kernel
theorem dX0_readOnes_5 : decode cX0_readOnes 5 = .ok (.if_icmp .ge 19, 3) := by decide +kernel
theorem dX0_readOnes_8 : decode cX0_readOnes 8 = .ok (.aload_n 0, 1) := by decide +kernel
theorem dX0_readOnes_9 : decode cX0_readOnes 9 = .ok (.iconst 1, 1) := by decide +kernel
theorem dX0_readOnes_10 : decode cX0_readOnes 10 = .ok (.invokevirtual 30, 3) := by decide +kernel
theorem w_ml_X0_30 : Cond.methodLink RX0 30 yX0_readBits ∈ g_tbl := g_tbl_in 784 (by decide +kernel) (by decide +kernel)
theorem w_cd_X0_readBits : g_cw MX0_readBits ∈ g_tbl := g_tbl_in 787 (by decide +kernel) (by decide +kernel)
theorem cl_X0_30 : CL RX0 30 1 MX0_readBits := ⟨w_ml_X0_30, w_cd_X0_readBits, w_ini_X0, by decide +kernel, by decide +kernel, by decide +kernel⟩
theorem w_im_X0_readBits : Cond.instanceMethod yX0_readBits ∈ g_tbl := g_tbl_in 785 (by decide +kernel) (by decide +kernel)
theorem w_se_X0_readBits : Cond.selects RX0 yX0_readBits yX0_readBits ∈ g_tbl := g_tbl_in 786 (by decide +kernel) (by decide +kernel)
theorem dX0_readOnes_13 : decode cX0_readOnes 13 = .ok (.lconst 1, 1) := by decide +kernel
theorem dX0_readOnes_14 : decode cX0_readOnes 14 = .ok (.lcmp, 1) := by decide +kernel
theorem dX0_readOnes_15 : decode cX0_readOnes 15 = .ok (.ifCond .ne 9, 3) := by decide +kernel
theorem dX0_readOnes_18 : decode cX0_readOnes 18 = .ok (.iinc 1 1, 3) := by decide +kernel
theorem dX0_readOnes_21 : decode cX0_readOnes 21 = .ok (.goto (-19), 3) := by decide +kernel
set_option maxRecDepth 100000 in
def lf_wk_X0_readOnes_2 (N : Nat) (b_2 : Int32) (a_f : Nat → Int32) (β : Type) (kx_ : Int32 → Int32 → Int32 → β)  : Nat → Int32 → Int32 → Int32 → β
  | 0, b_1, b_3, l1 => kx_ b_1 b_3 l1
  | fuel + 1, b_1, b_3, l1 => (if 16 ≤ l1 then (kx_ b_1 b_3 l1) else (fn_wk_X0_readBits N b_2 a_f b_1 b_3 1 β (fun zb_1_222 zb_3_223 zr_224 => (if (lg_cmp zr_224 1) = 0 then (lf_wk_X0_readOnes_2 N b_2 a_f β kx_ fuel zb_1_222 zb_3_223 (l1 + 1)) else (kx_ zb_1_222 zb_3_223 l1)))))
set_option maxRecDepth 100000 in
theorem lf_wk_X0_readOnes_2_s {N : Nat} {b_2 : Int32} {a_f : Nat → Int32} {β : Type} {kx_ : Int32 → Int32 → Int32 → β}  {fuel : Nat} {b_1 : Int32} {b_3 : Int32} {l1 : Int32} : lf_wk_X0_readOnes_2 N b_2 a_f β kx_  (fuel + 1) b_1 b_3 l1 = (if 16 ≤ l1 then (kx_ b_1 b_3 l1) else (fn_wk_X0_readBits N b_2 a_f b_1 b_3 1 β (fun zb_1_222 zb_3_223 zr_224 => (if (lg_cmp zr_224 1) = 0 then (lf_wk_X0_readOnes_2 N b_2 a_f β kx_ fuel zb_1_222 zb_3_223 (l1 + 1)) else (kx_ zb_1_222 zb_3_223 l1))))) := rfl
set_option maxRecDepth 100000 in
set_option maxHeartbeats 4000000 in
theorem lp_wk_X0_readOnes_2 (E : g_E) (b : Nat) (t : Nat) (a : Nat) (N : Nat) (b_2 : Int32) (t_1 : Int32) (a_f : Nat → Int32) (hN : N < 2147483648) {X : g_X} {rr : (β : Type) → (Int32 → Int32 → Int32 → β) → β} (kx_ : (β : Type) → (Int32 → Int32 → Int32 → β) → Int32 → Int32 → Int32 → β) (B : Bd E X cX0_readOnes RX0 2 1 26 0 0) (hr : Rt E X (some .int) 0 0 (fun v_ w_ => ∃ zb_1 : Int32, ∃ zb_3 : Int32, ∃ zr : Int32, (∀ (β : Type) (k_ : Int32 → Int32 → Int32 → β), rr β k_ = k_ zb_1 zb_3 zr) ∧ v_ = some (.int zr) ∧ w_ = [(b, .inr (0, [.ref t, .int zb_1, .int b_2, .int zb_3])), (t, .inr (2, [.ref a, .int t_1])), (a, .inl (E.2.2.1 1, N, .inl (nb a_f)))])) (K : ∀ (b_1 : Int32) (b_3 : Int32) (l1 : Int32), (∀ (β : Type) (k_ : Int32 → Int32 → Int32 → β), rr β k_ = kx_ β k_ b_1 b_3 l1) → G E X 2 [(b, .inr (0, [.ref t, .int b_1, .int b_2, .int b_3])), (t, .inr (2, [.ref a, .int t_1])), (a, .inl (E.2.2.1 1, N, .inl (nb a_f)))] 0 0 [(0, .ref b), (1, .int l1)] 24 []) : ∀ (n : Nat) (b_1 : Int32) (b_3 : Int32) (l1 : Int32), (Int32.toInt 16 - Int32.toInt l1).toNat < n → (∀ (β : Type) (k_ : Int32 → Int32 → Int32 → β), rr β k_ = lf_wk_X0_readOnes_2 N b_2 a_f β (kx_ β k_) n b_1 b_3 l1) → G E X 2 [(b, .inr (0, [.ref t, .int b_1, .int b_2, .int b_3])), (t, .inr (2, [.ref a, .int t_1])), (a, .inl (E.2.2.1 1, N, .inl (nb a_f)))] 0 0 [(0, .ref b), (1, .int l1)] 2 [] := by
  intro n
  induction n with
  | zero => intro b_1 b_3 l1 h _; exact absurd h (Nat.not_lt_zero _)
  | succ n ih =>
    intro b_1 b_3 l1 hm e_
    replace e_ := fun β k_ => (e_ β k_).trans lf_wk_X0_readOnes_2_s
    refine g_iload_n B dX0_readOnes_2 rfl 1 rfl ?_
    refine g_bipush (v := 16) B dX0_readOnes_3 (by decide) ?_
    refine g_icmp_ge (tgt := 24) B dX0_readOnes_5 (by decide) (fun c5_221 => ?_) (fun c5_221 => ?_)
    · replace e_ := fun β k_ => (e_ β k_).trans (if_pos c5_221)
      exact K b_1 b_3 l1 e_
    · replace e_ := fun β k_ => (e_ β k_).trans (if_neg c5_221)
      refine g_aload_n B dX0_readOnes_8 rfl 0 rfl ?_
      refine g_iconst (v := 1) B dX0_readOnes_9 (by decide) ?_
      refine g_callV (st := []) (As := [.int 1]) (wr := []) (nc' := 0) (ns' := 0) B cl_X0_30 w_im_X0_readBits w_se_X0_readBits (wk_X0_readBits E b t a N b_2 t_1 a_f b_1 b_3 1 (by first | assumption | omega | decide)) rfl [0, 1, 2] [] rfl rfl (by decide) (by decide) (by decide) 0 rfl (fun q h => by cases h; rfl) rfl ⟨by decide, by decide⟩ rfl rfl (by decide) (by decide) rfl (Nat.le_of_ble_eq_true rfl) dX0_readOnes_10 (fun v w hq => ?_)
      obtain ⟨zb_1_222, zb_3_223, zr_224, hz_225, rfl, rfl⟩ := hq
      replace e_ := fun β k_ => (e_ β k_).trans (hz_225 β _)
      show G E X 2 [(b, .inr (0, [.ref t, .int zb_1_222, .int b_2, .int zb_3_223])), (t, .inr (2, [.ref a, .int t_1])), (a, .inl (E.2.2.1 1, N, .inl (nb a_f)))] 0 0 [(0, .ref b), (1, .int l1)] 13 [.long zr_224]
      refine g_lconst (v := 1) B dX0_readOnes_13 (by decide) ?_
      refine g_lcmp B dX0_readOnes_14 ?_
      refine g_if_ne (tgt := 24) B dX0_readOnes_15 (by decide) (fun c15_226 => ?_) (fun c15_226 => ?_)
      · replace e_ := fun β k_ => (e_ β k_).trans (if_neg c15_226)
        exact K zb_1_222 zb_3_223 l1 e_
      · replace e_ := fun β k_ => (e_ β k_).trans (if_pos c15_226)
        refine g_iinc (v := (l1 + 1)) (lv' := [(1, .int (l1 + 1)), (0, .ref b)]) B dX0_readOnes_18 1 rfl rfl (by decide) rfl ?_
        refine g_goto (tgt := 2) B dX0_readOnes_21 (by decide) ?_
        refine g_lvsub (lv' := [(0, .ref b), (1, .int (l1 + 1))]) [1, 0] rfl ?_
        exact ih zb_1_222 zb_3_223 (l1 + 1)  (Nat.lt_of_lt_of_le (st_up (o_2 c5_221)) (Nat.le_of_lt_succ hm)) e_
theorem dX0_readOnes_24 : decode cX0_readOnes 24 = .ok (.iload_n 1, 1) := by decide +kernel
theorem dX0_readOnes_25 : decode cX0_readOnes 25 = .ok (.ireturn, 1) := by decide +kernel
set_option maxRecDepth 100000 in
def fn_wk_X0_readOnes (N : Nat) (b_2 : Int32) (a_f : Nat → Int32) (b_1 : Int32) (b_3 : Int32) (β : Type) (k_ : Int32 → Int32 → Int32 → β) : β := (lf_wk_X0_readOnes_2 N b_2 a_f β (fun y_227b_1 y_227b_3 y_227l1 => (k_ y_227b_1 y_227b_3 y_227l1)) ((Int32.toInt 16 - Int32.toInt 0).toNat + 1) b_1 b_3 0)
set_option maxRecDepth 100000 in
theorem fn_wk_X0_readOnes_s {N : Nat} {b_2 : Int32} {a_f : Nat → Int32} {b_1 : Int32} {b_3 : Int32} {β : Type} {k_ : Int32 → Int32 → Int32 → β} : fn_wk_X0_readOnes N b_2 a_f b_1 b_3 β k_ = (lf_wk_X0_readOnes_2 N b_2 a_f β (fun y_227b_1 y_227b_3 y_227l1 => (k_ y_227b_1 y_227b_3 y_227l1)) ((Int32.toInt 16 - Int32.toInt 0).toNat + 1) b_1 b_3 0) := rfl
set_option maxRecDepth 100000 in
set_option maxHeartbeats 4000000 in
theorem wk_X0_readOnes (E : g_E) (b : Nat) (t : Nat) (a : Nat) (N : Nat) (b_2 : Int32) (t_1 : Int32) (a_f : Nat → Int32) (b_1 : Int32) (b_3 : Int32) (hN : N < 2147483648) : Ev E MX0_readOnes 1 26 0 0 [.ref b] [(b, .inr (0, [.ref t, .int b_1, .int b_2, .int b_3])), (t, .inr (2, [.ref a, .int t_1])), (a, .inl (E.2.2.1 1, N, .inl (nb a_f)))] (fun v_ w_ => ∃ zb_1 : Int32, ∃ zb_3 : Int32, ∃ zr : Int32, (∀ (β : Type) (k_ : Int32 → Int32 → Int32 → β), fn_wk_X0_readOnes N b_2 a_f b_1 b_3 β k_ = k_ zb_1 zb_3 zr) ∧ v_ = some (.int zr) ∧ w_ = [(b, .inr (0, [.ref t, .int zb_1, .int b_2, .int zb_3])), (t, .inr (2, [.ref a, .int t_1])), (a, .inl (E.2.2.1 1, N, .inl (nb a_f)))]) := by
  refine Ev.intro (by decide) (Nat.le_of_ble_eq_true rfl) ?_
  intro X B hr hI
  have B : Bd E X cX0_readOnes RX0 2 1 26 0 0 := B
  have hr : Rt E X (some .int) 0 0 (fun v_ w_ => ∃ zb_1 : Int32, ∃ zb_3 : Int32, ∃ zr : Int32, (∀ (β : Type) (k_ : Int32 → Int32 → Int32 → β), fn_wk_X0_readOnes N b_2 a_f b_1 b_3 β k_ = k_ zb_1 zb_3 zr) ∧ v_ = some (.int zr) ∧ w_ = [(b, .inr (0, [.ref t, .int zb_1, .int b_2, .int zb_3])), (t, .inr (2, [.ref a, .int t_1])), (a, .inl (E.2.2.1 1, N, .inl (nb a_f)))]) := hr
  have e_ := fun (β : Type) (k_ : Int32 → Int32 → Int32 → β) => fn_wk_X0_readOnes_s (β := β) (k_ := k_) (N := N) (b_2 := b_2) (a_f := a_f) (b_1 := b_1) (b_3 := b_3)
  show G E X 2 [(b, .inr (0, [.ref t, .int b_1, .int b_2, .int b_3])), (t, .inr (2, [.ref a, .int t_1])), (a, .inl (E.2.2.1 1, N, .inl (nb a_f)))] 0 0 [(0, .ref b)] 0 []
  refine g_iconst (v := 0) B dX0_readOnes_0 (by decide) ?_
  refine g_istore_n (lv' := [(1, .int 0), (0, .ref b)]) B dX0_readOnes_1 rfl (by decide) rfl ?_
  refine g_lvsub (lv' := [(0, .ref b), (1, .int 0)]) [1, 0] rfl ?_
  refine lp_wk_X0_readOnes_2 E b t a N b_2 t_1 a_f hN _ B hr (fun y_227b_1 y_227b_3 y_227l1 e_ => ?_) _ b_1 b_3 0  (Nat.lt_succ_self _) e_
  refine g_iload_n B dX0_readOnes_24 rfl 1 rfl ?_
  exact g_iret B hr dX0_readOnes_25 (by decide) (by decide) ⟨y_227b_1, y_227b_3, y_227l1, e_, rfl, rfl⟩
abbrev MX0_readG : g_M := (yX0_readG, cX0_readG, 2, (some .long))
theorem dX0_readG_0 : decode cX0_readG 0 = .ok (.aload_n 0, 1) := by decide +kernel
theorem dX0_readG_1 : decode cX0_readG 1 = .ok (.iconst 5, 1) := by decide +kernel
theorem dX0_readG_2 : decode cX0_readG 2 = .ok (.invokevirtual 30, 3) := by decide +kernel
theorem dX0_readG_5 : decode cX0_readG 5 = .ok (.l2i, 1) := by decide +kernel
theorem dX0_readG_6 : decode cX0_readG 6 = .ok (.istore_n 1, 1) := by decide +kernel
theorem dX0_readG_7 : decode cX0_readG 7 = .ok (.lconst 1, 1) := by decide +kernel
theorem dX0_readG_8 : decode cX0_readG 8 = .ok (.iload_n 1, 1) := by decide +kernel
theorem dX0_readG_9 : decode cX0_readG 9 = .ok (.lshl, 1) := by decide +kernel
theorem dX0_readG_10 : decode cX0_readG 10 = .ok (.aload_n 0, 1) := by decide +kernel
theorem dX0_readG_11 : decode cX0_readG 11 = .ok (.iload_n 1, 1) := by decide +kernel
theorem dX0_readG_12 : decode cX0_readG 12 = .ok (.invokevirtual 30, 3) := by decide +kernel
theorem dX0_readG_15 : decode cX0_readG 15 = .ok (.lor, 1) := by decide +kernel
theorem dX0_readG_16 : decode cX0_readG 16 = .ok (.lreturn, 1) := by decide +kernel
set_option maxRecDepth 100000 in
def fn_wk_X0_readG (N : Nat) (b_2 : Int32) (a_f : Nat → Int32) (b_1 : Int32) (b_3 : Int32) (β : Type) (k_ : Int32 → Int32 → Int64 → β) : β := (fn_wk_X0_readBits N b_2 a_f b_1 b_3 5 β (fun zb_1_228 zb_3_229 zr_230 => (fn_wk_X0_readBits N b_2 a_f zb_1_228 zb_3_229 (Int64.toInt32 zr_230) β (fun zb_1_232 zb_3_233 zr_234 => (k_ zb_1_232 zb_3_233 (((1 : Int64) <<< (Int32.toInt64 (Int64.toInt32 zr_230) &&& 63)) ||| zr_234))))))
set_option maxRecDepth 100000 in
theorem fn_wk_X0_readG_s {N : Nat} {b_2 : Int32} {a_f : Nat → Int32} {b_1 : Int32} {b_3 : Int32} {β : Type} {k_ : Int32 → Int32 → Int64 → β} : fn_wk_X0_readG N b_2 a_f b_1 b_3 β k_ = (fn_wk_X0_readBits N b_2 a_f b_1 b_3 5 β (fun zb_1_228 zb_3_229 zr_230 => (fn_wk_X0_readBits N b_2 a_f zb_1_228 zb_3_229 (Int64.toInt32 zr_230) β (fun zb_1_232 zb_3_233 zr_234 => (k_ zb_1_232 zb_3_233 (((1 : Int64) <<< (Int32.toInt64 (Int64.toInt32 zr_230) &&& 63)) ||| zr_234)))))) := rfl
set_option maxRecDepth 100000 in
set_option maxHeartbeats 4000000 in
theorem wk_X0_readG (E : g_E) (b : Nat) (t : Nat) (a : Nat) (N : Nat) (b_2 : Int32) (t_1 : Int32) (a_f : Nat → Int32) (b_1 : Int32) (b_3 : Int32) (hN : N < 2147483648) : Ev E MX0_readG 1 26 0 0 [.ref b] [(b, .inr (0, [.ref t, .int b_1, .int b_2, .int b_3])), (t, .inr (2, [.ref a, .int t_1])), (a, .inl (E.2.2.1 1, N, .inl (nb a_f)))] (fun v_ w_ => ∃ zb_1 : Int32, ∃ zb_3 : Int32, ∃ zr : Int64, (∀ (β : Type) (k_ : Int32 → Int32 → Int64 → β), fn_wk_X0_readG N b_2 a_f b_1 b_3 β k_ = k_ zb_1 zb_3 zr) ∧ v_ = some (.long zr) ∧ w_ = [(b, .inr (0, [.ref t, .int zb_1, .int b_2, .int zb_3])), (t, .inr (2, [.ref a, .int t_1])), (a, .inl (E.2.2.1 1, N, .inl (nb a_f)))]) := by
  refine Ev.intro (by decide) (Nat.le_of_ble_eq_true rfl) ?_
  intro X B hr hI
  have B : Bd E X cX0_readG RX0 2 1 26 0 0 := B
  have hr : Rt E X (some .long) 0 0 (fun v_ w_ => ∃ zb_1 : Int32, ∃ zb_3 : Int32, ∃ zr : Int64, (∀ (β : Type) (k_ : Int32 → Int32 → Int64 → β), fn_wk_X0_readG N b_2 a_f b_1 b_3 β k_ = k_ zb_1 zb_3 zr) ∧ v_ = some (.long zr) ∧ w_ = [(b, .inr (0, [.ref t, .int zb_1, .int b_2, .int zb_3])), (t, .inr (2, [.ref a, .int t_1])), (a, .inl (E.2.2.1 1, N, .inl (nb a_f)))]) := hr
  have e_ := fun (β : Type) (k_ : Int32 → Int32 → Int64 → β) => fn_wk_X0_readG_s (β := β) (k_ := k_) (N := N) (b_2 := b_2) (a_f := a_f) (b_1 := b_1) (b_3 := b_3)
  show G E X 2 [(b, .inr (0, [.ref t, .int b_1, .int b_2, .int b_3])), (t, .inr (2, [.ref a, .int t_1])), (a, .inl (E.2.2.1 1, N, .inl (nb a_f)))] 0 0 [(0, .ref b)] 0 []
  refine g_aload_n B dX0_readG_0 rfl 0 rfl ?_
  refine g_iconst (v := 5) B dX0_readG_1 (by decide) ?_
  refine g_callV (st := []) (As := [.int 5]) (wr := []) (nc' := 0) (ns' := 0) B cl_X0_30 w_im_X0_readBits w_se_X0_readBits (wk_X0_readBits E b t a N b_2 t_1 a_f b_1 b_3 5 (by first | assumption | omega | decide)) rfl [0, 1, 2] [] rfl rfl (by decide) (by decide) (by decide) 0 rfl (fun q h => by cases h; rfl) rfl ⟨by decide, by decide⟩ rfl rfl (by decide) (by decide) rfl (Nat.le_of_ble_eq_true rfl) dX0_readG_2 (fun v w hq => ?_)
  obtain ⟨zb_1_228, zb_3_229, zr_230, hz_231, rfl, rfl⟩ := hq
  replace e_ := fun β k_ => (e_ β k_).trans (hz_231 β _)
  show G E X 2 [(b, .inr (0, [.ref t, .int zb_1_228, .int b_2, .int zb_3_229])), (t, .inr (2, [.ref a, .int t_1])), (a, .inl (E.2.2.1 1, N, .inl (nb a_f)))] 0 0 [(0, .ref b)] 5 [.long zr_230]
  refine g_l2i B dX0_readG_5 ?_
  refine g_istore_n (lv' := [(1, .int (Int64.toInt32 zr_230)), (0, .ref b)]) B dX0_readG_6 rfl (by decide) rfl ?_
  refine g_lconst (v := 1) B dX0_readG_7 (by decide) ?_
  refine g_iload_n B dX0_readG_8 rfl 0 rfl ?_
  refine g_lshl B dX0_readG_9 ?_
  refine g_aload_n B dX0_readG_10 rfl 1 rfl ?_
  refine g_iload_n B dX0_readG_11 rfl 0 rfl ?_
  refine g_callV (st := [.long ((1 : Int64) <<< (Int32.toInt64 (Int64.toInt32 zr_230) &&& 63))]) (As := [.int (Int64.toInt32 zr_230)]) (wr := []) (nc' := 0) (ns' := 0) B cl_X0_30 w_im_X0_readBits w_se_X0_readBits (wk_X0_readBits E b t a N b_2 t_1 a_f zb_1_228 zb_3_229 (Int64.toInt32 zr_230) (by first | assumption | omega | decide)) rfl [0, 1, 2] [] rfl rfl (by decide) (by decide) (by decide) 0 rfl (fun q h => by cases h; rfl) rfl ⟨by decide, by decide⟩ rfl rfl (by decide) (by decide) rfl (Nat.le_of_ble_eq_true rfl) dX0_readG_12 (fun v w hq => ?_)
  obtain ⟨zb_1_232, zb_3_233, zr_234, hz_235, rfl, rfl⟩ := hq
  replace e_ := fun β k_ => (e_ β k_).trans (hz_235 β _)
  show G E X 2 [(b, .inr (0, [.ref t, .int zb_1_232, .int b_2, .int zb_3_233])), (t, .inr (2, [.ref a, .int t_1])), (a, .inl (E.2.2.1 1, N, .inl (nb a_f)))] 0 0 [(1, .int (Int64.toInt32 zr_230)), (0, .ref b)] 15 [.long zr_234, .long ((1 : Int64) <<< (Int32.toInt64 (Int64.toInt32 zr_230) &&& 63))]
  refine g_lor B dX0_readG_15 ?_
  exact g_lret B hr dX0_readG_16 (by decide) (by decide) ⟨zb_1_232, zb_3_233, (((1 : Int64) <<< (Int32.toInt64 (Int64.toInt32 zr_230) &&& 63)) ||| zr_234), e_, rfl, rfl⟩
abbrev MX0_readT : g_M := (yX0_readT, cX0_readT, 8, (some .long))
theorem dX0_readT_0 : decode cX0_readT 0 = .ok (.lload_n 1, 1) := by decide +kernel
theorem dX0_readT_1 : decode cX0_readT 1 = .ok (.invokestatic 34, 3) := by decide +kernel
theorem dX0_readT_4 : decode cX0_readT 4 = .ok (.istore_n 3, 1) := by decide +kernel
theorem dX0_readT_5 : decode cX0_readT 5 = .ok (.ldc2_w 40, 3) := by decide +kernel
theorem w_k_X0_40 : Cond.constantLong RX0 40 2 ∈ g_tbl := g_tbl_in 848 (by decide +kernel) (by decide +kernel)
theorem dX0_readT_8 : decode cX0_readT 8 = .ok (.iload_n 3, 1) := by decide +kernel
theorem dX0_readT_9 : decode cX0_readT 9 = .ok (.lshl, 1) := by decide +kernel
theorem dX0_readT_10 : decode cX0_readT 10 = .ok (.lload_n 1, 1) := by decide +kernel
theorem dX0_readT_11 : decode cX0_readT 11 = .ok (.lsub, 1) := by decide +kernel
theorem dX0_readT_12 : decode cX0_readT 12 = .ok (.lstore 4, 2) := by decide +kernel
theorem dX0_readT_14 : decode cX0_readT 14 = .ok (.aload_n 0, 1) := by decide +kernel
theorem dX0_readT_15 : decode cX0_readT 15 = .ok (.iload_n 3, 1) := by decide +kernel
theorem dX0_readT_16 : decode cX0_readT 16 = .ok (.invokevirtual 30, 3) := by decide +kernel
theorem dX0_readT_19 : decode cX0_readT 19 = .ok (.lstore 6, 2) := by decide +kernel
theorem dX0_readT_21 : decode cX0_readT 21 = .ok (.lload 6, 2) := by decide +kernel
theorem dX0_readT_23 : decode cX0_readT 23 = .ok (.lload 4, 2) := by decide +kernel
theorem dX0_readT_25 : decode cX0_readT 25 = .ok (.lcmp, 1) := by decide +kernel
theorem dX0_readT_26 : decode cX0_readT 26 = .ok (.ifCond .ge 8, 3) := by decide +kernel
theorem dX0_readT_34 : decode cX0_readT 34 = .ok (.lload 6, 2) := by decide +kernel
theorem dX0_readT_36 : decode cX0_readT 36 = .ok (.iconst 1, 1) := by decide +kernel
theorem dX0_readT_37 : decode cX0_readT 37 = .ok (.lshl, 1) := by decide +kernel
theorem dX0_readT_38 : decode cX0_readT 38 = .ok (.aload_n 0, 1) := by decide +kernel
theorem dX0_readT_39 : decode cX0_readT 39 = .ok (.iconst 1, 1) := by decide +kernel
theorem dX0_readT_40 : decode cX0_readT 40 = .ok (.invokevirtual 30, 3) := by decide +kernel
theorem dX0_readT_43 : decode cX0_readT 43 = .ok (.lor, 1) := by decide +kernel
theorem dX0_readT_44 : decode cX0_readT 44 = .ok (.lload 4, 2) := by decide +kernel
theorem dX0_readT_46 : decode cX0_readT 46 = .ok (.lsub, 1) := by decide +kernel
theorem dX0_readT_47 : decode cX0_readT 47 = .ok (.lreturn, 1) := by decide +kernel
theorem dX0_readT_29 : decode cX0_readT 29 = .ok (.lload 6, 2) := by decide +kernel
theorem dX0_readT_31 : decode cX0_readT 31 = .ok (.goto 16, 3) := by decide +kernel
set_option maxRecDepth 100000 in
def fn_wk_X0_readT (N : Nat) (b_2 : Int32) (a_f : Nat → Int32) (b_1 : Int32) (b_3 : Int32) (n : Int64) (β : Type) (k_ : Int32 → Int32 → Int64 → β) : β := (fn_wk_X10_highestBit n β (fun zr_236 => (fn_wk_X0_readBits N b_2 a_f b_1 b_3 zr_236 β (fun zb_1_238 zb_3_239 zr_240 => (if 0 ≤ (lg_cmp zr_240 (((2 : Int64) <<< (Int32.toInt64 zr_236 &&& 63)) - n)) then (fn_wk_X0_readBits N b_2 a_f zb_1_238 zb_3_239 1 β (fun zb_1_243 zb_3_244 zr_245 => (k_ zb_1_243 zb_3_244 (((zr_240 <<< (Int32.toInt64 1 &&& 63)) ||| zr_245) - (((2 : Int64) <<< (Int32.toInt64 zr_236 &&& 63)) - n))))) else (k_ zb_1_238 zb_3_239 zr_240))))))
set_option maxRecDepth 100000 in
theorem fn_wk_X0_readT_s {N : Nat} {b_2 : Int32} {a_f : Nat → Int32} {b_1 : Int32} {b_3 : Int32} {n : Int64} {β : Type} {k_ : Int32 → Int32 → Int64 → β} : fn_wk_X0_readT N b_2 a_f b_1 b_3 n β k_ = (fn_wk_X10_highestBit n β (fun zr_236 => (fn_wk_X0_readBits N b_2 a_f b_1 b_3 zr_236 β (fun zb_1_238 zb_3_239 zr_240 => (if 0 ≤ (lg_cmp zr_240 (((2 : Int64) <<< (Int32.toInt64 zr_236 &&& 63)) - n)) then (fn_wk_X0_readBits N b_2 a_f zb_1_238 zb_3_239 1 β (fun zb_1_243 zb_3_244 zr_245 => (k_ zb_1_243 zb_3_244 (((zr_240 <<< (Int32.toInt64 1 &&& 63)) ||| zr_245) - (((2 : Int64) <<< (Int32.toInt64 zr_236 &&& 63)) - n))))) else (k_ zb_1_238 zb_3_239 zr_240)))))) := rfl
set_option maxRecDepth 100000 in
set_option maxHeartbeats 4000000 in
theorem wk_X0_readT (E : g_E) (b : Nat) (t : Nat) (a : Nat) (N : Nat) (b_2 : Int32) (t_1 : Int32) (a_f : Nat → Int32) (b_1 : Int32) (b_3 : Int32) (n : Int64) (hN : N < 2147483648) : Ev E MX0_readT 1 26 0 0 [.ref b, .long n] [(b, .inr (0, [.ref t, .int b_1, .int b_2, .int b_3])), (t, .inr (2, [.ref a, .int t_1])), (a, .inl (E.2.2.1 1, N, .inl (nb a_f)))] (fun v_ w_ => ∃ zb_1 : Int32, ∃ zb_3 : Int32, ∃ zr : Int64, (∀ (β : Type) (k_ : Int32 → Int32 → Int64 → β), fn_wk_X0_readT N b_2 a_f b_1 b_3 n β k_ = k_ zb_1 zb_3 zr) ∧ v_ = some (.long zr) ∧ w_ = [(b, .inr (0, [.ref t, .int zb_1, .int b_2, .int zb_3])), (t, .inr (2, [.ref a, .int t_1])), (a, .inl (E.2.2.1 1, N, .inl (nb a_f)))]) := by
  refine Ev.intro (by decide) (Nat.le_of_ble_eq_true rfl) ?_
  intro X B hr hI
  have B : Bd E X cX0_readT RX0 8 1 26 0 0 := B
  have hr : Rt E X (some .long) 0 0 (fun v_ w_ => ∃ zb_1 : Int32, ∃ zb_3 : Int32, ∃ zr : Int64, (∀ (β : Type) (k_ : Int32 → Int32 → Int64 → β), fn_wk_X0_readT N b_2 a_f b_1 b_3 n β k_ = k_ zb_1 zb_3 zr) ∧ v_ = some (.long zr) ∧ w_ = [(b, .inr (0, [.ref t, .int zb_1, .int b_2, .int zb_3])), (t, .inr (2, [.ref a, .int t_1])), (a, .inl (E.2.2.1 1, N, .inl (nb a_f)))]) := hr
  have e_ := fun (β : Type) (k_ : Int32 → Int32 → Int64 → β) => fn_wk_X0_readT_s (β := β) (k_ := k_) (N := N) (b_2 := b_2) (a_f := a_f) (b_1 := b_1) (b_3 := b_3) (n := n)
  show G E X 8 [(b, .inr (0, [.ref t, .int b_1, .int b_2, .int b_3])), (t, .inr (2, [.ref a, .int t_1])), (a, .inl (E.2.2.1 1, N, .inl (nb a_f)))] 0 0 [(0, .ref b), (1, .long n)] 0 []
  refine g_lload_n B dX0_readT_0 rfl 1 rfl ?_
  refine g_callSR (st := []) (As := [.long n]) (wr := [(b, .inr (0, [.ref t, .int b_1, .int b_2, .int b_3])), (t, .inr (2, [.ref a, .int t_1])), (a, .inl (E.2.2.1 1, N, .inl (nb a_f)))]) (nc' := 0) (ns' := 0) B w_cd_X10_highestBit w_ini_X10 w_sm_X10_highestBit (wk_X10_highestBit E n ) rfl [] [0, 1, 2] rfl rfl (by decide) (by decide) (by decide) ⟨by decide, by decide⟩ rfl rfl (by decide) (by decide) rfl (Nat.le_of_ble_eq_true rfl) dX0_readT_1 (fun v w hq => ?_)
  obtain ⟨zr_236, hz_237, rfl, rfl⟩ := hq
  replace e_ := fun β k_ => (e_ β k_).trans (hz_237 β _)
  show G E X 8 [(b, .inr (0, [.ref t, .int b_1, .int b_2, .int b_3])), (t, .inr (2, [.ref a, .int t_1])), (a, .inl (E.2.2.1 1, N, .inl (nb a_f)))] 0 0 [(0, .ref b), (1, .long n)] 4 [.int zr_236]
  refine g_istore_n (lv' := [(3, .int zr_236), (0, .ref b), (1, .long n)]) B dX0_readT_4 rfl (by decide) rfl ?_
  refine g_ldc2 (v := 2) B w_k_X0_40 dX0_readT_5 ?_
  refine g_iload_n B dX0_readT_8 rfl 0 rfl ?_
  refine g_lshl B dX0_readT_9 ?_
  refine g_lload_n B dX0_readT_10 rfl 2 rfl ?_
  refine g_lsub B dX0_readT_11 ?_
  refine g_lstore (lv' := [(4, .long (((2 : Int64) <<< (Int32.toInt64 zr_236 &&& 63)) - n)), (3, .int zr_236), (0, .ref b), (1, .long n)]) B dX0_readT_12 (by decide) rfl ?_
  refine g_aload_n B dX0_readT_14 rfl 2 rfl ?_
  refine g_iload_n B dX0_readT_15 rfl 1 rfl ?_
  refine g_callV (st := []) (As := [.int zr_236]) (wr := []) (nc' := 0) (ns' := 0) B cl_X0_30 w_im_X0_readBits w_se_X0_readBits (wk_X0_readBits E b t a N b_2 t_1 a_f b_1 b_3 zr_236 (by first | assumption | omega | decide)) rfl [0, 1, 2] [] rfl rfl (by decide) (by decide) (by decide) 0 rfl (fun q h => by cases h; rfl) rfl ⟨by decide, by decide⟩ rfl rfl (by decide) (by decide) rfl (Nat.le_of_ble_eq_true rfl) dX0_readT_16 (fun v w hq => ?_)
  obtain ⟨zb_1_238, zb_3_239, zr_240, hz_241, rfl, rfl⟩ := hq
  replace e_ := fun β k_ => (e_ β k_).trans (hz_241 β _)
  show G E X 8 [(b, .inr (0, [.ref t, .int zb_1_238, .int b_2, .int zb_3_239])), (t, .inr (2, [.ref a, .int t_1])), (a, .inl (E.2.2.1 1, N, .inl (nb a_f)))] 0 0 [(4, .long (((2 : Int64) <<< (Int32.toInt64 zr_236 &&& 63)) - n)), (3, .int zr_236), (0, .ref b), (1, .long n)] 19 [.long zr_240]
  refine g_lstore (lv' := [(6, .long zr_240), (4, .long (((2 : Int64) <<< (Int32.toInt64 zr_236 &&& 63)) - n)), (3, .int zr_236), (0, .ref b), (1, .long n)]) B dX0_readT_19 (by decide) rfl ?_
  refine g_lload B dX0_readT_21 0 rfl ?_
  refine g_lload B dX0_readT_23 1 rfl ?_
  refine g_lcmp B dX0_readT_25 ?_
  refine g_if_ge (tgt := 34) B dX0_readT_26 (by decide) (fun c26_242 => ?_) (fun c26_242 => ?_)
  · replace e_ := fun β k_ => (e_ β k_).trans (if_pos c26_242)
    refine g_lload B dX0_readT_34 0 rfl ?_
    refine g_iconst (v := 1) B dX0_readT_36 (by decide) ?_
    refine g_lshl B dX0_readT_37 ?_
    refine g_aload_n B dX0_readT_38 rfl 3 rfl ?_
    refine g_iconst (v := 1) B dX0_readT_39 (by decide) ?_
    refine g_callV (st := [.long (zr_240 <<< (Int32.toInt64 1 &&& 63))]) (As := [.int 1]) (wr := []) (nc' := 0) (ns' := 0) B cl_X0_30 w_im_X0_readBits w_se_X0_readBits (wk_X0_readBits E b t a N b_2 t_1 a_f zb_1_238 zb_3_239 1 (by first | assumption | omega | decide)) rfl [0, 1, 2] [] rfl rfl (by decide) (by decide) (by decide) 0 rfl (fun q h => by cases h; rfl) rfl ⟨by decide, by decide⟩ rfl rfl (by decide) (by decide) rfl (Nat.le_of_ble_eq_true rfl) dX0_readT_40 (fun v w hq => ?_)
    obtain ⟨zb_1_243, zb_3_244, zr_245, hz_246, rfl, rfl⟩ := hq
    replace e_ := fun β k_ => (e_ β k_).trans (hz_246 β _)
    show G E X 8 [(b, .inr (0, [.ref t, .int zb_1_243, .int b_2, .int zb_3_244])), (t, .inr (2, [.ref a, .int t_1])), (a, .inl (E.2.2.1 1, N, .inl (nb a_f)))] 0 0 [(6, .long zr_240), (4, .long (((2 : Int64) <<< (Int32.toInt64 zr_236 &&& 63)) - n)), (3, .int zr_236), (0, .ref b), (1, .long n)] 43 [.long zr_245, .long (zr_240 <<< (Int32.toInt64 1 &&& 63))]
    refine g_lor B dX0_readT_43 ?_
    refine g_lload B dX0_readT_44 1 rfl ?_
    refine g_lsub B dX0_readT_46 ?_
    exact g_lret B hr dX0_readT_47 (by decide) (by decide) ⟨zb_1_243, zb_3_244, (((zr_240 <<< (Int32.toInt64 1 &&& 63)) ||| zr_245) - (((2 : Int64) <<< (Int32.toInt64 zr_236 &&& 63)) - n)), e_, rfl, rfl⟩
  · replace e_ := fun β k_ => (e_ β k_).trans (if_neg c26_242)
    refine g_lload B dX0_readT_29 0 rfl ?_
    refine g_goto (tgt := 47) B dX0_readT_31 (by decide) ?_
    exact g_lret B hr dX0_readT_47 (by decide) (by decide) ⟨zb_1_238, zb_3_239, zr_240, e_, rfl, rfl⟩
abbrev MX0_isRestWrong : g_M := (yX0_isRestWrong, cX0_isRestWrong, 2, (some .boolean))
theorem dX0_isRestWrong_0 : decode cX0_isRestWrong 0 = .ok (.aload_n 0, 1) := by decide +kernel
theorem dX0_isRestWrong_1 : decode cX0_isRestWrong 1 = .ok (.getfield 17, 3) := by decide +kernel
theorem dX0_isRestWrong_4 : decode cX0_isRestWrong 4 = .ok (.aload_n 0, 1) := by decide +kernel
theorem dX0_isRestWrong_5 : decode cX0_isRestWrong 5 = .ok (.getfield 13, 3) := by decide +kernel
theorem dX0_isRestWrong_8 : decode cX0_isRestWrong 8 = .ok (.isub, 1) := by decide +kernel
theorem dX0_isRestWrong_9 : decode cX0_isRestWrong 9 = .ok (.istore_n 1, 1) := by decide +kernel
theorem dX0_isRestWrong_10 : decode cX0_isRestWrong 10 = .ok (.iload_n 1, 1) := by decide +kernel
theorem dX0_isRestWrong_11 : decode cX0_isRestWrong 11 = .ok (.bipush 7, 2) := by decide +kernel
theorem dX0_isRestWrong_13 : decode cX0_isRestWrong 13 = .ok (.if_icmp .gt 13, 3) := by decide +kernel
theorem dX0_isRestWrong_26 : decode cX0_isRestWrong 26 = .ok (.iconst 1, 1) := by decide +kernel
theorem dX0_isRestWrong_27 : decode cX0_isRestWrong 27 = .ok (.goto 4, 3) := by decide +kernel
theorem dX0_isRestWrong_31 : decode cX0_isRestWrong 31 = .ok (.ireturn, 1) := by decide +kernel
theorem dX0_isRestWrong_16 : decode cX0_isRestWrong 16 = .ok (.aload_n 0, 1) := by decide +kernel
theorem dX0_isRestWrong_17 : decode cX0_isRestWrong 17 = .ok (.iload_n 1, 1) := by decide +kernel
theorem dX0_isRestWrong_18 : decode cX0_isRestWrong 18 = .ok (.invokevirtual 30, 3) := by decide +kernel
theorem dX0_isRestWrong_21 : decode cX0_isRestWrong 21 = .ok (.lconst 0, 1) := by decide +kernel
theorem dX0_isRestWrong_22 : decode cX0_isRestWrong 22 = .ok (.lcmp, 1) := by decide +kernel
theorem dX0_isRestWrong_23 : decode cX0_isRestWrong 23 = .ok (.ifCond .eq 7, 3) := by decide +kernel
theorem dX0_isRestWrong_30 : decode cX0_isRestWrong 30 = .ok (.iconst 0, 1) := by decide +kernel
set_option maxRecDepth 100000 in
def fn_wk_X0_isRestWrong (N : Nat) (b_2 : Int32) (a_f : Nat → Int32) (b_1 : Int32) (b_3 : Int32) (β : Type) (k_ : Int32 → Int32 → Int32 → β) : β := (if 7 < (b_2 - b_1) then (k_ b_1 b_3 1) else (fn_wk_X0_readBits N b_2 a_f b_1 b_3 (b_2 - b_1) β (fun zb_1_248 zb_3_249 zr_250 => (if (lg_cmp zr_250 0) = 0 then (k_ zb_1_248 zb_3_249 0) else (k_ zb_1_248 zb_3_249 1)))))
set_option maxRecDepth 100000 in
theorem fn_wk_X0_isRestWrong_s {N : Nat} {b_2 : Int32} {a_f : Nat → Int32} {b_1 : Int32} {b_3 : Int32} {β : Type} {k_ : Int32 → Int32 → Int32 → β} : fn_wk_X0_isRestWrong N b_2 a_f b_1 b_3 β k_ = (if 7 < (b_2 - b_1) then (k_ b_1 b_3 1) else (fn_wk_X0_readBits N b_2 a_f b_1 b_3 (b_2 - b_1) β (fun zb_1_248 zb_3_249 zr_250 => (if (lg_cmp zr_250 0) = 0 then (k_ zb_1_248 zb_3_249 0) else (k_ zb_1_248 zb_3_249 1))))) := rfl
set_option maxRecDepth 100000 in
set_option maxHeartbeats 4000000 in
theorem wk_X0_isRestWrong (E : g_E) (b : Nat) (t : Nat) (a : Nat) (N : Nat) (b_2 : Int32) (t_1 : Int32) (a_f : Nat → Int32) (b_1 : Int32) (b_3 : Int32) (hN : N < 2147483648) : Ev E MX0_isRestWrong 1 26 0 0 [.ref b] [(b, .inr (0, [.ref t, .int b_1, .int b_2, .int b_3])), (t, .inr (2, [.ref a, .int t_1])), (a, .inl (E.2.2.1 1, N, .inl (nb a_f)))] (fun v_ w_ => ∃ zb_1 : Int32, ∃ zb_3 : Int32, ∃ zr : Int32, (zr = 0 ∨ zr = 1) ∧ (∀ (β : Type) (k_ : Int32 → Int32 → Int32 → β), fn_wk_X0_isRestWrong N b_2 a_f b_1 b_3 β k_ = k_ zb_1 zb_3 zr) ∧ v_ = some (.int zr) ∧ w_ = [(b, .inr (0, [.ref t, .int zb_1, .int b_2, .int zb_3])), (t, .inr (2, [.ref a, .int t_1])), (a, .inl (E.2.2.1 1, N, .inl (nb a_f)))]) := by
  refine Ev.intro (by decide) (Nat.le_of_ble_eq_true rfl) ?_
  intro X B hr hI
  have B : Bd E X cX0_isRestWrong RX0 2 1 26 0 0 := B
  have hr : Rt E X (some .boolean) 0 0 (fun v_ w_ => ∃ zb_1 : Int32, ∃ zb_3 : Int32, ∃ zr : Int32, (zr = 0 ∨ zr = 1) ∧ (∀ (β : Type) (k_ : Int32 → Int32 → Int32 → β), fn_wk_X0_isRestWrong N b_2 a_f b_1 b_3 β k_ = k_ zb_1 zb_3 zr) ∧ v_ = some (.int zr) ∧ w_ = [(b, .inr (0, [.ref t, .int zb_1, .int b_2, .int zb_3])), (t, .inr (2, [.ref a, .int t_1])), (a, .inl (E.2.2.1 1, N, .inl (nb a_f)))]) := hr
  have e_ := fun (β : Type) (k_ : Int32 → Int32 → Int32 → β) => fn_wk_X0_isRestWrong_s (β := β) (k_ := k_) (N := N) (b_2 := b_2) (a_f := a_f) (b_1 := b_1) (b_3 := b_3)
  show G E X 2 [(b, .inr (0, [.ref t, .int b_1, .int b_2, .int b_3])), (t, .inr (2, [.ref a, .int t_1])), (a, .inl (E.2.2.1 1, N, .inl (nb a_f)))] 0 0 [(0, .ref b)] 0 []
  refine g_aload_n B dX0_isRestWrong_0 rfl 0 rfl ?_
  refine g_get B 0 2 fl_X0_17 rfl rfl dX0_isRestWrong_1 ?_
  refine g_aload_n B dX0_isRestWrong_4 rfl 0 rfl ?_
  refine g_get B 0 1 fl_X0_13 rfl rfl dX0_isRestWrong_5 ?_
  refine g_isub B dX0_isRestWrong_8 ?_
  refine g_istore_n (lv' := [(1, .int (b_2 - b_1)), (0, .ref b)]) B dX0_isRestWrong_9 rfl (by decide) rfl ?_
  refine g_iload_n B dX0_isRestWrong_10 rfl 0 rfl ?_
  refine g_bipush (v := 7) B dX0_isRestWrong_11 (by decide) ?_
  refine g_icmp_gt (tgt := 26) B dX0_isRestWrong_13 (by decide) (fun c13_247 => ?_) (fun c13_247 => ?_)
  · replace e_ := fun β k_ => (e_ β k_).trans (if_pos c13_247)
    refine g_iconst (v := 1) B dX0_isRestWrong_26 (by decide) ?_
    refine g_goto (tgt := 31) B dX0_isRestWrong_27 (by decide) ?_
    exact g_zret B hr (by decide) dX0_isRestWrong_31 (by decide) (by decide) ⟨b_1, b_3, 1, (Or.inr rfl), e_, rfl, rfl⟩
  · replace e_ := fun β k_ => (e_ β k_).trans (if_neg c13_247)
    refine g_aload_n B dX0_isRestWrong_16 rfl 1 rfl ?_
    refine g_iload_n B dX0_isRestWrong_17 rfl 0 rfl ?_
    refine g_callV (st := []) (As := [.int (b_2 - b_1)]) (wr := []) (nc' := 0) (ns' := 0) B cl_X0_30 w_im_X0_readBits w_se_X0_readBits (wk_X0_readBits E b t a N b_2 t_1 a_f b_1 b_3 (b_2 - b_1) (by first | assumption | omega | decide)) rfl [0, 1, 2] [] rfl rfl (by decide) (by decide) (by decide) 0 rfl (fun q h => by cases h; rfl) rfl ⟨by decide, by decide⟩ rfl rfl (by decide) (by decide) rfl (Nat.le_of_ble_eq_true rfl) dX0_isRestWrong_18 (fun v w hq => ?_)
    obtain ⟨zb_1_248, zb_3_249, zr_250, hz_251, rfl, rfl⟩ := hq
    replace e_ := fun β k_ => (e_ β k_).trans (hz_251 β _)
    show G E X 2 [(b, .inr (0, [.ref t, .int zb_1_248, .int b_2, .int zb_3_249])), (t, .inr (2, [.ref a, .int t_1])), (a, .inl (E.2.2.1 1, N, .inl (nb a_f)))] 0 0 [(1, .int (b_2 - b_1)), (0, .ref b)] 21 [.long zr_250]
    refine g_lconst (v := 0) B dX0_isRestWrong_21 (by decide) ?_
    refine g_lcmp B dX0_isRestWrong_22 ?_
    refine g_if_eq (tgt := 30) B dX0_isRestWrong_23 (by decide) (fun c23_252 => ?_) (fun c23_252 => ?_)
    · replace e_ := fun β k_ => (e_ β k_).trans (if_pos c23_252)
      refine g_iconst (v := 0) B dX0_isRestWrong_30 (by decide) ?_
      exact g_zret B hr (by decide) dX0_isRestWrong_31 (by decide) (by decide) ⟨zb_1_248, zb_3_249, 0, (Or.inl rfl), e_, rfl, rfl⟩
    · replace e_ := fun β k_ => (e_ β k_).trans (if_neg c23_252)
      refine g_iconst (v := 1) B dX0_isRestWrong_26 (by decide) ?_
      refine g_goto (tgt := 31) B dX0_isRestWrong_27 (by decide) ?_
      exact g_zret B hr (by decide) dX0_isRestWrong_31 (by decide) (by decide) ⟨zb_1_248, zb_3_249, 1, (Or.inr rfl), e_, rfl, rfl⟩
