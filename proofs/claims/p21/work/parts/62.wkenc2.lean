def sndN (ch l : Int32) : Int32 := if ch = 2 then l / 2 else l
def sndO (ch l : Int32) : Prop := ¬ sndN ch l < 1 ∧ ¬ 600 < sndN ch l
theorem snd2 {l : Int32} {ch : Int32} (h : ch = 2) (a : ¬ l / 2 < 1) (b : ¬ 600 < l / 2) : sndO ch l := by
  unfold sndO sndN
  rw [if_pos h]
  exact ⟨a, b⟩
theorem snd1 {l : Int32} {ch : Int32} (h : ¬ ch = 2) (a : ¬ l < 1) (b : ¬ 600 < l) : sndO ch l := by
  unfold sndO sndN
  rw [if_neg h]
  exact ⟨a, b⟩
theorem snd2' {l : Int32} {ch : Int32} (h : ch = 2) (a : sndO ch l) : ∃ n : Nat, n ≤ 600 ∧ l / 2 = nI n := by
  have := fr_of a.1 a.2
  unfold sndN at this
  rw [if_pos h] at this
  exact this
theorem snd1' {l : Int32} {ch : Int32} (h : ¬ ch = 2) (a : sndO ch l) : ∃ n : Nat, n ≤ 600 ∧ l = nI n := by
  have := fr_of a.1 a.2
  unfold sndN at this
  rw [if_neg h] at this
  exact this
theorem tw {i : Int32} (h : ∃ j : Nat, j ≤ 1200 ∧ i = nI j) (h1 : i + 1 < 1200) : vp_in i 1200 ∧ vp_in (i + 1) 1200 ∧ (∃ j : Nat, j ≤ 1200 ∧ i + 2 = nI j) ∧ (Int32.toInt 1200 - Int32.toInt (i + 2)).toNat < (Int32.toInt 1200 - Int32.toInt i).toNat := by
  obtain ⟨j, hj, rfl⟩ := h
  have e1 : nI j + 1 = nI (j + 1) := nI_add j 1
  have e2 : nI j + 2 = nI (j + 2) := nI_add j 2
  have h2 : j + 1 < 1200 := by
    rcases Nat.lt_or_ge (j + 1) 1200 with h | h
    · exact h
    · rw [e1] at h1
      exact absurd (nI_le (a := 1200) (b := j + 1) h (by omega)) (o_3 h1)
  rw [e1, e2]
  refine ⟨vp_in_nI (by omega) (by decide), vp_in_nI (by omega) (by decide), ⟨j + 2, by omega, rfl⟩, ?_⟩
  have e3 : Int32.toInt 1200 = 1200 := by decide
  rw [nI_toInt (by omega), nI_toInt (by omega), e3]
  omega
abbrev MX10_isTwin : g_M := (yX10_isTwin, cX10_isTwin, 2, (some .boolean))
theorem dX10_isTwin_0 : decode cX10_isTwin 0 = .ok (.iconst 0, 1) := by decide +kernel
theorem dX10_isTwin_1 : decode cX10_isTwin 1 = .ok (.istore_n 1, 1) := by decide +kernel
theorem dX10_isTwin_2 : decode cX10_isTwin 2 = .ok (.iload_n 1, 1) := by decide +kernel
theorem dX10_isTwin_3 : decode cX10_isTwin 3 = .ok (.iconst 1, 1) := by decide +kernel
theorem dX10_isTwin_4 : decode cX10_isTwin 4 = .ok (.iadd, 1) := by decide +kernel
theorem dX10_isTwin_5 : decode cX10_isTwin 5 = .ok (.aload_n 0, 1) := by decide +kernel
theorem dX10_isTwin_6 : decode cX10_isTwin 6 = .ok (.getfield 13, 3) := by decide +kernel
theorem dX10_isTwin_9 : decode cX10_isTwin 9 = .ok (.if_icmp .ge 39, 3) := by decide +kernel
theorem dX10_isTwin_12 : decode cX10_isTwin 12 = .ok (.iload_n 1, 1) := by decide +kernel
theorem dX10_isTwin_13 : decode cX10_isTwin 13 = .ok (.iconst 1, 1) := by decide +kernel
theorem dX10_isTwin_14 : decode cX10_isTwin 14 = .ok (.iadd, 1) := by decide +kernel
theorem dX10_isTwin_15 : decode cX10_isTwin 15 = .ok (.aload_n 0, 1) := by decide +kernel
theorem dX10_isTwin_16 : decode cX10_isTwin 16 = .ok (.getfield 9, 3) := by decide +kernel
theorem dX10_isTwin_19 : decode cX10_isTwin 19 = .ok (.arraylength, 1) := by decide +kernel
theorem dX10_isTwin_20 : decode cX10_isTwin 20 = .ok (.if_icmp .ge 28, 3) := by decide +kernel
theorem dX10_isTwin_23 : decode cX10_isTwin 23 = .ok (.aload_n 0, 1) := by decide +kernel
theorem dX10_isTwin_24 : decode cX10_isTwin 24 = .ok (.getfield 9, 3) := by decide +kernel
theorem dX10_isTwin_27 : decode cX10_isTwin 27 = .ok (.iload_n 1, 1) := by decide +kernel
theorem dX10_isTwin_28 : decode cX10_isTwin 28 = .ok (.iaload, 1) := by decide +kernel
theorem dX10_isTwin_29 : decode cX10_isTwin 29 = .ok (.aload_n 0, 1) := by decide +kernel
theorem dX10_isTwin_30 : decode cX10_isTwin 30 = .ok (.getfield 9, 3) := by decide +kernel
theorem dX10_isTwin_33 : decode cX10_isTwin 33 = .ok (.iload_n 1, 1) := by decide +kernel
theorem dX10_isTwin_34 : decode cX10_isTwin 34 = .ok (.iconst 1, 1) := by decide +kernel
theorem dX10_isTwin_35 : decode cX10_isTwin 35 = .ok (.iadd, 1) := by decide +kernel
theorem dX10_isTwin_36 : decode cX10_isTwin 36 = .ok (.iaload, 1) := by decide +kernel
theorem dX10_isTwin_37 : decode cX10_isTwin 37 = .ok (.if_icmp .eq 5, 3) := by decide +kernel
theorem dX10_isTwin_42 : decode cX10_isTwin 42 = .ok (.iinc 1 2, 3) := by decide +kernel
theorem dX10_isTwin_45 : decode cX10_isTwin 45 = .ok (.goto (-43), 3) := by decide +kernel
theorem dX10_isTwin_40 : decode cX10_isTwin 40 = .ok (.iconst 0, 1) := by decide +kernel
theorem dX10_isTwin_41 : decode cX10_isTwin 41 = .ok (.ireturn, 1) := by decide +kernel
set_option maxRecDepth 100000 in
def lf_wk_X10_isTwin_2 (x_1 : Nat) (nu_f : Nat → Int32) (β : Type) (kx_ : Int32 → β) (k_ : Int32 → β) : Nat → Int32 → β
  | 0, l1 => kx_ l1
  | fuel + 1, l1 => (if nI x_1 ≤ (l1 + 1) then (kx_ l1) else (if 1200 ≤ (l1 + 1) then (kx_ l1) else (if (nu_f (Int32.toNatClampNeg l1)) = (nu_f (Int32.toNatClampNeg (l1 + 1))) then (lf_wk_X10_isTwin_2 x_1 nu_f β kx_ k_ fuel (l1 + 2)) else (k_ 0))))
set_option maxRecDepth 100000 in
theorem lf_wk_X10_isTwin_2_s {x_1 : Nat} {nu_f : Nat → Int32} {β : Type} {kx_ : Int32 → β} {k_ : Int32 → β} {fuel : Nat} {l1 : Int32} : lf_wk_X10_isTwin_2 x_1 nu_f β kx_ k_ (fuel + 1) l1 = (if nI x_1 ≤ (l1 + 1) then (kx_ l1) else (if 1200 ≤ (l1 + 1) then (kx_ l1) else (if (nu_f (Int32.toNatClampNeg l1)) = (nu_f (Int32.toNatClampNeg (l1 + 1))) then (lf_wk_X10_isTwin_2 x_1 nu_f β kx_ k_ fuel (l1 + 2)) else (k_ 0)))) := rfl
set_option maxRecDepth 100000 in
set_option maxHeartbeats 4000000 in
theorem lp_wk_X10_isTwin_2 (E : g_E) (x : Nat) (nu : Nat) (pl : Nat) (tp : Nat) (sd : Nat) (fi : Nat) (se : Nat) (enc : Nat) (dec : Nat) (wl : Nat) (wsp : Nat) (x_1 : Nat) (nu_f : Nat → Int32) (hk0 : x_1 ≤ 1200) {X : g_X} {rr : (β : Type) → (Int32 → β) → β} (kx_ : (β : Type) → (Int32 → β) → Int32 → β) (B : Bd E X cX10_isTwin RX10 2 0 0 0 0) (hr : Rt E X (some .boolean) 0 0 (fun v_ w_ => ∃ zr : Int32, (zr = 0 ∨ zr = 1) ∧ (∀ (β : Type) (k_ : Int32 → β), rr β k_ = k_ zr) ∧ v_ = some (.int zr) ∧ w_ = [(x, .inr (10, [.ref nu, .int (nI x_1), .ref pl, .ref tp, .ref sd, .ref fi, .ref se, .ref enc, .ref dec, .ref wl, .ref wsp])), (nu, .inl (E.2.2.1 0, 1200, .inl nu_f))])) (K : ∀ (l1 : Int32), (∀ (β : Type) (k_ : Int32 → β), rr β k_ = kx_ β k_ l1) → G E X 2 [(x, .inr (10, [.ref nu, .int (nI x_1), .ref pl, .ref tp, .ref sd, .ref fi, .ref se, .ref enc, .ref dec, .ref wl, .ref wsp])), (nu, .inl (E.2.2.1 0, 1200, .inl nu_f))] 0 0 [(0, .ref x), (1, .int l1)] 48 []) : ∀ (n : Nat) (l1 : Int32), (∃ j : Nat, j ≤ 1200 ∧ l1 = nI j) → (Int32.toInt 1200 - Int32.toInt l1).toNat < n → (∀ (β : Type) (k_ : Int32 → β), rr β k_ = lf_wk_X10_isTwin_2 x_1 nu_f β (kx_ β k_) k_ n l1) → G E X 2 [(x, .inr (10, [.ref nu, .int (nI x_1), .ref pl, .ref tp, .ref sd, .ref fi, .ref se, .ref enc, .ref dec, .ref wl, .ref wsp])), (nu, .inl (E.2.2.1 0, 1200, .inl nu_f))] 0 0 [(0, .ref x), (1, .int l1)] 2 [] := by
  intro n
  induction n with
  | zero => intro l1 _ h _; exact absurd h (Nat.not_lt_zero _)
  | succ n ih =>
    intro l1 hv0 hm e_
    replace e_ := fun β k_ => (e_ β k_).trans lf_wk_X10_isTwin_2_s
    refine g_iload_n B dX10_isTwin_2 rfl 1 rfl ?_
    refine g_iconst (v := 1) B dX10_isTwin_3 (by decide) ?_
    refine g_iadd B dX10_isTwin_4 ?_
    refine g_aload_n B dX10_isTwin_5 rfl 0 rfl ?_
    refine g_get B 0 1 fl_X10_13 rfl rfl dX10_isTwin_6 ?_
    refine g_icmp_ge (tgt := 48) B dX10_isTwin_9 (by decide) (fun c9_1494 => ?_) (fun c9_1494 => ?_)
    · replace e_ := fun β k_ => (e_ β k_).trans (if_pos c9_1494)
      exact K l1 e_
    · replace e_ := fun β k_ => (e_ β k_).trans (if_neg c9_1494)
      refine g_iload_n B dX10_isTwin_12 rfl 1 rfl ?_
      refine g_iconst (v := 1) B dX10_isTwin_13 (by decide) ?_
      refine g_iadd B dX10_isTwin_14 ?_
      refine g_aload_n B dX10_isTwin_15 rfl 0 rfl ?_
      refine g_get B 0 0 fl_X10_9 rfl rfl dX10_isTwin_16 ?_
      refine g_alen (v := nI 1200) B 1 (by decide) rfl rfl dX10_isTwin_19 ?_
      refine g_ri (x' := 1200) (by decide) ?_
      refine g_icmp_ge (tgt := 48) B dX10_isTwin_20 (by decide) (fun c20_1495 => ?_) (fun c20_1495 => ?_)
      · replace e_ := fun β k_ => (e_ β k_).trans (if_pos c20_1495)
        exact K l1 e_
      · replace e_ := fun β k_ => (e_ β k_).trans (if_neg c20_1495)
        refine g_aload_n B dX10_isTwin_23 rfl 0 rfl ?_
        refine g_get B 0 0 fl_X10_9 rfl rfl dX10_isTwin_24 ?_
        refine g_iload_n B dX10_isTwin_27 rfl 1 rfl ?_
        refine g_iald B 1 rfl ((tw hv0 (o_2 c20_1495)).1) dX10_isTwin_28 ?_
        refine g_aload_n B dX10_isTwin_29 rfl 0 rfl ?_
        refine g_get B 0 0 fl_X10_9 rfl rfl dX10_isTwin_30 ?_
        refine g_iload_n B dX10_isTwin_33 rfl 1 rfl ?_
        refine g_iconst (v := 1) B dX10_isTwin_34 (by decide) ?_
        refine g_iadd B dX10_isTwin_35 ?_
        refine g_iald B 1 rfl ((tw hv0 (o_2 c20_1495)).2.1) dX10_isTwin_36 ?_
        refine g_icmp_eq (tgt := 42) B dX10_isTwin_37 (by decide) (fun c37_1496 => ?_) (fun c37_1496 => ?_)
        · replace e_ := fun β k_ => (e_ β k_).trans (if_pos c37_1496)
          refine g_iinc (v := (l1 + 2)) (lv' := [(1, .int (l1 + 2)), (0, .ref x)]) B dX10_isTwin_42 1 rfl rfl (by decide) rfl ?_
          refine g_goto (tgt := 2) B dX10_isTwin_45 (by decide) ?_
          refine g_lvsub (lv' := [(0, .ref x), (1, .int (l1 + 2))]) [1, 0] rfl ?_
          exact ih (l1 + 2) ((tw hv0 (o_2 c20_1495)).2.2.1) (Nat.lt_of_lt_of_le (tw hv0 (o_2 c20_1495)).2.2.2 (Nat.le_of_lt_succ hm)) e_
        · replace e_ := fun β k_ => (e_ β k_).trans (if_neg c37_1496)
          refine g_iconst (v := 0) B dX10_isTwin_40 (by decide) ?_
          exact g_zret B hr (by decide) dX10_isTwin_41 (by decide) (by decide) ⟨0, (Or.inl rfl), e_, rfl, rfl⟩
theorem dX10_isTwin_48 : decode cX10_isTwin 48 = .ok (.iconst 1, 1) := by decide +kernel
theorem dX10_isTwin_49 : decode cX10_isTwin 49 = .ok (.ireturn, 1) := by decide +kernel
set_option maxRecDepth 100000 in
def fn_wk_X10_isTwin (x_1 : Nat) (nu_f : Nat → Int32) (β : Type) (k_ : Int32 → β) : β := (lf_wk_X10_isTwin_2 x_1 nu_f β (fun y_1497l1 => (k_ 1)) k_ ((Int32.toInt 1200 - Int32.toInt 0).toNat + 1) 0)
set_option maxRecDepth 100000 in
theorem fn_wk_X10_isTwin_s {x_1 : Nat} {nu_f : Nat → Int32} {β : Type} {k_ : Int32 → β} : fn_wk_X10_isTwin x_1 nu_f β k_ = (lf_wk_X10_isTwin_2 x_1 nu_f β (fun y_1497l1 => (k_ 1)) k_ ((Int32.toInt 1200 - Int32.toInt 0).toNat + 1) 0) := rfl
set_option maxRecDepth 100000 in
set_option maxHeartbeats 4000000 in
theorem wk_X10_isTwin (E : g_E) (x : Nat) (nu : Nat) (pl : Nat) (tp : Nat) (sd : Nat) (fi : Nat) (se : Nat) (enc : Nat) (dec : Nat) (wl : Nat) (wsp : Nat) (x_1 : Nat) (nu_f : Nat → Int32) (hk0 : x_1 ≤ 1200) : Ev E MX10_isTwin 0 0 0 0 [.ref x] [(x, .inr (10, [.ref nu, .int (nI x_1), .ref pl, .ref tp, .ref sd, .ref fi, .ref se, .ref enc, .ref dec, .ref wl, .ref wsp])), (nu, .inl (E.2.2.1 0, 1200, .inl nu_f))] (fun v_ w_ => ∃ zr : Int32, (zr = 0 ∨ zr = 1) ∧ (∀ (β : Type) (k_ : Int32 → β), fn_wk_X10_isTwin x_1 nu_f β k_ = k_ zr) ∧ v_ = some (.int zr) ∧ w_ = [(x, .inr (10, [.ref nu, .int (nI x_1), .ref pl, .ref tp, .ref sd, .ref fi, .ref se, .ref enc, .ref dec, .ref wl, .ref wsp])), (nu, .inl (E.2.2.1 0, 1200, .inl nu_f))]) := by
  refine Ev.intro (by decide) (Nat.le_of_ble_eq_true rfl) ?_
  intro X B hr hI
  have B : Bd E X cX10_isTwin RX10 2 0 0 0 0 := B
  have hr : Rt E X (some .boolean) 0 0 (fun v_ w_ => ∃ zr : Int32, (zr = 0 ∨ zr = 1) ∧ (∀ (β : Type) (k_ : Int32 → β), fn_wk_X10_isTwin x_1 nu_f β k_ = k_ zr) ∧ v_ = some (.int zr) ∧ w_ = [(x, .inr (10, [.ref nu, .int (nI x_1), .ref pl, .ref tp, .ref sd, .ref fi, .ref se, .ref enc, .ref dec, .ref wl, .ref wsp])), (nu, .inl (E.2.2.1 0, 1200, .inl nu_f))]) := hr
  have e_ := fun (β : Type) (k_ : Int32 → β) => fn_wk_X10_isTwin_s (β := β) (k_ := k_) (x_1 := x_1) (nu_f := nu_f)
  show G E X 2 [(x, .inr (10, [.ref nu, .int (nI x_1), .ref pl, .ref tp, .ref sd, .ref fi, .ref se, .ref enc, .ref dec, .ref wl, .ref wsp])), (nu, .inl (E.2.2.1 0, 1200, .inl nu_f))] 0 0 [(0, .ref x)] 0 []
  refine g_iconst (v := 0) B dX10_isTwin_0 (by decide) ?_
  refine g_istore_n (lv' := [(1, .int 0), (0, .ref x)]) B dX10_isTwin_1 rfl (by decide) rfl ?_
  refine g_lvsub (lv' := [(0, .ref x), (1, .int 0)]) [1, 0] rfl ?_
  refine lp_wk_X10_isTwin_2 E x nu pl tp sd fi se enc dec wl wsp x_1 nu_f hk0 _ B hr (fun y_1497l1 e_ => ?_) _ 0 (⟨0, by decide, rfl⟩) (Nat.lt_succ_self _) e_
  refine g_iconst (v := 1) B dX10_isTwin_48 (by decide) ?_
  exact g_zret B hr (by decide) dX10_isTwin_49 (by decide) (by decide) ⟨1, (Or.inr rfl), e_, rfl, rfl⟩
abbrev MX10_commonShift : g_M := (yX10_commonShift, cX10_commonShift, 3, (some .int))
theorem dX10_commonShift_0 : decode cX10_commonShift 0 = .ok (.iconst 0, 1) := by decide +kernel
theorem dX10_commonShift_1 : decode cX10_commonShift 1 = .ok (.istore_n 1, 1) := by decide +kernel
theorem dX10_commonShift_2 : decode cX10_commonShift 2 = .ok (.iconst 0, 1) := by decide +kernel
theorem dX10_commonShift_3 : decode cX10_commonShift 3 = .ok (.istore_n 2, 1) := by decide +kernel
theorem dX10_commonShift_4 : decode cX10_commonShift 4 = .ok (.iload_n 2, 1) := by decide +kernel
theorem dX10_commonShift_5 : decode cX10_commonShift 5 = .ok (.aload_n 0, 1) := by decide +kernel
theorem dX10_commonShift_6 : decode cX10_commonShift 6 = .ok (.getfield 13, 3) := by decide +kernel
theorem dX10_commonShift_9 : decode cX10_commonShift 9 = .ok (.if_icmp .ge 27, 3) := by decide +kernel
theorem dX10_commonShift_12 : decode cX10_commonShift 12 = .ok (.iload_n 2, 1) := by decide +kernel
theorem dX10_commonShift_13 : decode cX10_commonShift 13 = .ok (.aload_n 0, 1) := by decide +kernel
theorem dX10_commonShift_14 : decode cX10_commonShift 14 = .ok (.getfield 9, 3) := by decide +kernel
theorem dX10_commonShift_17 : decode cX10_commonShift 17 = .ok (.arraylength, 1) := by decide +kernel
theorem dX10_commonShift_18 : decode cX10_commonShift 18 = .ok (.if_icmp .ge 18, 3) := by decide +kernel
theorem dX10_commonShift_21 : decode cX10_commonShift 21 = .ok (.iload_n 1, 1) := by decide +kernel
theorem dX10_commonShift_22 : decode cX10_commonShift 22 = .ok (.aload_n 0, 1) := by decide +kernel
theorem dX10_commonShift_23 : decode cX10_commonShift 23 = .ok (.getfield 9, 3) := by decide +kernel
theorem dX10_commonShift_26 : decode cX10_commonShift 26 = .ok (.iload_n 2, 1) := by decide +kernel
theorem dX10_commonShift_27 : decode cX10_commonShift 27 = .ok (.iaload, 1) := by decide +kernel
theorem dX10_commonShift_28 : decode cX10_commonShift 28 = .ok (.ior, 1) := by decide +kernel
theorem dX10_commonShift_29 : decode cX10_commonShift 29 = .ok (.istore_n 1, 1) := by decide +kernel
theorem dX10_commonShift_30 : decode cX10_commonShift 30 = .ok (.iinc 2 1, 3) := by decide +kernel
theorem dX10_commonShift_33 : decode cX10_commonShift 33 = .ok (.goto (-29), 3) := by decide +kernel
set_option maxRecDepth 100000 in
def lf_wk_X10_commonShift_4 (x_1 : Nat) (nu_f : Nat → Int32) (β : Type) (kx_ : Int32 → Int32 → β)  : Nat → Int32 → Int32 → β
  | 0, l1, l2 => kx_ l1 l2
  | fuel + 1, l1, l2 => (if nI x_1 ≤ l2 then (kx_ l1 l2) else (if 1200 ≤ l2 then (kx_ l1 l2) else (lf_wk_X10_commonShift_4 x_1 nu_f β kx_ fuel (l1 ||| (nu_f (Int32.toNatClampNeg l2))) (l2 + 1))))
set_option maxRecDepth 100000 in
theorem lf_wk_X10_commonShift_4_s {x_1 : Nat} {nu_f : Nat → Int32} {β : Type} {kx_ : Int32 → Int32 → β}  {fuel : Nat} {l1 : Int32} {l2 : Int32} : lf_wk_X10_commonShift_4 x_1 nu_f β kx_  (fuel + 1) l1 l2 = (if nI x_1 ≤ l2 then (kx_ l1 l2) else (if 1200 ≤ l2 then (kx_ l1 l2) else (lf_wk_X10_commonShift_4 x_1 nu_f β kx_ fuel (l1 ||| (nu_f (Int32.toNatClampNeg l2))) (l2 + 1)))) := rfl
set_option maxRecDepth 100000 in
set_option maxHeartbeats 4000000 in
theorem lp_wk_X10_commonShift_4 (E : g_E) (x : Nat) (nu : Nat) (pl : Nat) (tp : Nat) (sd : Nat) (fi : Nat) (se : Nat) (enc : Nat) (dec : Nat) (wl : Nat) (wsp : Nat) (x_1 : Nat) (nu_f : Nat → Int32) (hk0 : x_1 ≤ 1200) {X : g_X} {rr : (β : Type) → (Int32 → β) → β} (kx_ : (β : Type) → (Int32 → β) → Int32 → Int32 → β) (B : Bd E X cX10_commonShift RX10 3 0 0 0 0) (hr : Rt E X (some .int) 0 0 (fun v_ w_ => ∃ zr : Int32, (∀ (β : Type) (k_ : Int32 → β), rr β k_ = k_ zr) ∧ v_ = some (.int zr) ∧ w_ = [(x, .inr (10, [.ref nu, .int (nI x_1), .ref pl, .ref tp, .ref sd, .ref fi, .ref se, .ref enc, .ref dec, .ref wl, .ref wsp])), (nu, .inl (E.2.2.1 0, 1200, .inl nu_f))])) (K : ∀ (l1 : Int32) (l2 : Int32), (∀ (β : Type) (k_ : Int32 → β), rr β k_ = kx_ β k_ l1 l2) → G E X 3 [(x, .inr (10, [.ref nu, .int (nI x_1), .ref pl, .ref tp, .ref sd, .ref fi, .ref se, .ref enc, .ref dec, .ref wl, .ref wsp])), (nu, .inl (E.2.2.1 0, 1200, .inl nu_f))] 0 0 [(0, .ref x), (1, .int l1), (2, .int l2)] 36 []) : ∀ (n : Nat) (l1 : Int32) (l2 : Int32), ¬ l2 < 0 → (Int32.toInt 1200 - Int32.toInt l2).toNat < n → (∀ (β : Type) (k_ : Int32 → β), rr β k_ = lf_wk_X10_commonShift_4 x_1 nu_f β (kx_ β k_) n l1 l2) → G E X 3 [(x, .inr (10, [.ref nu, .int (nI x_1), .ref pl, .ref tp, .ref sd, .ref fi, .ref se, .ref enc, .ref dec, .ref wl, .ref wsp])), (nu, .inl (E.2.2.1 0, 1200, .inl nu_f))] 0 0 [(0, .ref x), (1, .int l1), (2, .int l2)] 4 [] := by
  intro n
  induction n with
  | zero => intro l1 l2 _ h _; exact absurd h (Nat.not_lt_zero _)
  | succ n ih =>
    intro l1 l2 hv0 hm e_
    replace e_ := fun β k_ => (e_ β k_).trans lf_wk_X10_commonShift_4_s
    refine g_iload_n B dX10_commonShift_4 rfl 2 rfl ?_
    refine g_aload_n B dX10_commonShift_5 rfl 0 rfl ?_
    refine g_get B 0 1 fl_X10_13 rfl rfl dX10_commonShift_6 ?_
    refine g_icmp_ge (tgt := 36) B dX10_commonShift_9 (by decide) (fun c9_1498 => ?_) (fun c9_1498 => ?_)
    · replace e_ := fun β k_ => (e_ β k_).trans (if_pos c9_1498)
      exact K l1 l2 e_
    · replace e_ := fun β k_ => (e_ β k_).trans (if_neg c9_1498)
      refine g_iload_n B dX10_commonShift_12 rfl 2 rfl ?_
      refine g_aload_n B dX10_commonShift_13 rfl 0 rfl ?_
      refine g_get B 0 0 fl_X10_9 rfl rfl dX10_commonShift_14 ?_
      refine g_alen (v := nI 1200) B 1 (by decide) rfl rfl dX10_commonShift_17 ?_
      refine g_ri (x' := 1200) (by decide) ?_
      refine g_icmp_ge (tgt := 36) B dX10_commonShift_18 (by decide) (fun c18_1499 => ?_) (fun c18_1499 => ?_)
      · replace e_ := fun β k_ => (e_ β k_).trans (if_pos c18_1499)
        exact K l1 l2 e_
      · replace e_ := fun β k_ => (e_ β k_).trans (if_neg c18_1499)
        refine g_iload_n B dX10_commonShift_21 rfl 1 rfl ?_
        refine g_aload_n B dX10_commonShift_22 rfl 0 rfl ?_
        refine g_get B 0 0 fl_X10_9 rfl rfl dX10_commonShift_23 ?_
        refine g_iload_n B dX10_commonShift_26 rfl 2 rfl ?_
        refine g_iald B 1 rfl (in_lt (by decide) hv0 (o_2 c18_1499)) dX10_commonShift_27 ?_
        refine g_ior B dX10_commonShift_28 ?_
        refine g_istore_n (lv' := [(1, .int (l1 ||| (nu_f (Int32.toNatClampNeg l2)))), (0, .ref x), (2, .int l2)]) B dX10_commonShift_29 rfl (by decide) rfl ?_
        refine g_iinc (v := (l2 + 1)) (lv' := [(2, .int (l2 + 1)), (1, .int (l1 ||| (nu_f (Int32.toNatClampNeg l2)))), (0, .ref x)]) B dX10_commonShift_30 2 rfl rfl (by decide) rfl ?_
        refine g_goto (tgt := 4) B dX10_commonShift_33 (by decide) ?_
        refine g_lvsub (lv' := [(0, .ref x), (1, .int (l1 ||| (nu_f (Int32.toNatClampNeg l2)))), (2, .int (l2 + 1))]) [2, 1, 0] rfl ?_
        exact ih (l1 ||| (nu_f (Int32.toNatClampNeg l2))) (l2 + 1) (inv_up hv0 (o_2 c18_1499)) (Nat.lt_of_lt_of_le (st_up (o_2 c18_1499)) (Nat.le_of_lt_succ hm)) e_
theorem dX10_commonShift_36 : decode cX10_commonShift 36 = .ok (.iload_n 1, 1) := by decide +kernel
theorem dX10_commonShift_37 : decode cX10_commonShift 37 = .ok (.ifCond .ne 5, 3) := by decide +kernel
theorem dX10_commonShift_42 : decode cX10_commonShift 42 = .ok (.iconst 0, 1) := by decide +kernel
theorem dX10_commonShift_43 : decode cX10_commonShift 43 = .ok (.istore_n 2, 1) := by decide +kernel
theorem dX10_commonShift_44 : decode cX10_commonShift 44 = .ok (.iload_n 2, 1) := by decide +kernel
theorem dX10_commonShift_45 : decode cX10_commonShift 45 = .ok (.bipush 23, 2) := by decide +kernel
theorem dX10_commonShift_47 : decode cX10_commonShift 47 = .ok (.if_icmp .ge 17, 3) := by decide +kernel
theorem dX10_commonShift_50 : decode cX10_commonShift 50 = .ok (.iload_n 1, 1) := by decide +kernel
theorem dX10_commonShift_51 : decode cX10_commonShift 51 = .ok (.iload_n 2, 1) := by decide +kernel
theorem dX10_commonShift_52 : decode cX10_commonShift 52 = .ok (.ishr, 1) := by decide +kernel
theorem dX10_commonShift_53 : decode cX10_commonShift 53 = .ok (.iconst 1, 1) := by decide +kernel
theorem dX10_commonShift_54 : decode cX10_commonShift 54 = .ok (.iand, 1) := by decide +kernel
theorem dX10_commonShift_55 : decode cX10_commonShift 55 = .ok (.ifCond .ne 9, 3) := by decide +kernel
theorem dX10_commonShift_58 : decode cX10_commonShift 58 = .ok (.iinc 2 1, 3) := by decide +kernel
theorem dX10_commonShift_61 : decode cX10_commonShift 61 = .ok (.goto (-17), 3) := by decide +kernel
set_option maxRecDepth 100000 in
def lf_wk_X10_commonShift_44  (β : Type) (kx_ : Int32 → Int32 → β)  : Nat → Int32 → Int32 → β
  | 0, l1, l2 => kx_ l1 l2
  | fuel + 1, l1, l2 => (if 23 ≤ l2 then (kx_ l1 l2) else (if ((l1 >>> (l2 &&& 31)) &&& 1) = 0 then (lf_wk_X10_commonShift_44  β kx_ fuel l1 (l2 + 1)) else (kx_ l1 l2)))
set_option maxRecDepth 100000 in
theorem lf_wk_X10_commonShift_44_s  {β : Type} {kx_ : Int32 → Int32 → β}  {fuel : Nat} {l1 : Int32} {l2 : Int32} : lf_wk_X10_commonShift_44  β kx_  (fuel + 1) l1 l2 = (if 23 ≤ l2 then (kx_ l1 l2) else (if ((l1 >>> (l2 &&& 31)) &&& 1) = 0 then (lf_wk_X10_commonShift_44  β kx_ fuel l1 (l2 + 1)) else (kx_ l1 l2))) := rfl
set_option maxRecDepth 100000 in
set_option maxHeartbeats 4000000 in
theorem lp_wk_X10_commonShift_44 (E : g_E) (x : Nat) (nu : Nat) (pl : Nat) (tp : Nat) (sd : Nat) (fi : Nat) (se : Nat) (enc : Nat) (dec : Nat) (wl : Nat) (wsp : Nat) (x_1 : Nat) (nu_f : Nat → Int32) (hk0 : x_1 ≤ 1200) {X : g_X} {rr : (β : Type) → (Int32 → β) → β} (kx_ : (β : Type) → (Int32 → β) → Int32 → Int32 → β) (B : Bd E X cX10_commonShift RX10 3 0 0 0 0) (hr : Rt E X (some .int) 0 0 (fun v_ w_ => ∃ zr : Int32, (∀ (β : Type) (k_ : Int32 → β), rr β k_ = k_ zr) ∧ v_ = some (.int zr) ∧ w_ = [(x, .inr (10, [.ref nu, .int (nI x_1), .ref pl, .ref tp, .ref sd, .ref fi, .ref se, .ref enc, .ref dec, .ref wl, .ref wsp])), (nu, .inl (E.2.2.1 0, 1200, .inl nu_f))])) (K : ∀ (l1 : Int32) (l2 : Int32), (∀ (β : Type) (k_ : Int32 → β), rr β k_ = kx_ β k_ l1 l2) → G E X 3 [(x, .inr (10, [.ref nu, .int (nI x_1), .ref pl, .ref tp, .ref sd, .ref fi, .ref se, .ref enc, .ref dec, .ref wl, .ref wsp])), (nu, .inl (E.2.2.1 0, 1200, .inl nu_f))] 0 0 [(0, .ref x), (1, .int l1), (2, .int l2)] 64 []) : ∀ (n : Nat) (l1 : Int32) (l2 : Int32), (Int32.toInt 23 - Int32.toInt l2).toNat < n → (∀ (β : Type) (k_ : Int32 → β), rr β k_ = lf_wk_X10_commonShift_44  β (kx_ β k_) n l1 l2) → G E X 3 [(x, .inr (10, [.ref nu, .int (nI x_1), .ref pl, .ref tp, .ref sd, .ref fi, .ref se, .ref enc, .ref dec, .ref wl, .ref wsp])), (nu, .inl (E.2.2.1 0, 1200, .inl nu_f))] 0 0 [(0, .ref x), (1, .int l1), (2, .int l2)] 44 [] := by
  intro n
  induction n with
  | zero => intro l1 l2 h _; exact absurd h (Nat.not_lt_zero _)
  | succ n ih =>
    intro l1 l2 hm e_
    replace e_ := fun β k_ => (e_ β k_).trans lf_wk_X10_commonShift_44_s
    refine g_iload_n B dX10_commonShift_44 rfl 2 rfl ?_
    refine g_bipush (v := 23) B dX10_commonShift_45 (by decide) ?_
    refine g_icmp_ge (tgt := 64) B dX10_commonShift_47 (by decide) (fun c47_1502 => ?_) (fun c47_1502 => ?_)
    · replace e_ := fun β k_ => (e_ β k_).trans (if_pos c47_1502)
      exact K l1 l2 e_
    · replace e_ := fun β k_ => (e_ β k_).trans (if_neg c47_1502)
      refine g_iload_n B dX10_commonShift_50 rfl 1 rfl ?_
      refine g_iload_n B dX10_commonShift_51 rfl 2 rfl ?_
      refine g_ishr B dX10_commonShift_52 ?_
      refine g_iconst (v := 1) B dX10_commonShift_53 (by decide) ?_
      refine g_iand B dX10_commonShift_54 ?_
      refine g_if_ne (tgt := 64) B dX10_commonShift_55 (by decide) (fun c55_1503 => ?_) (fun c55_1503 => ?_)
      · replace e_ := fun β k_ => (e_ β k_).trans (if_neg c55_1503)
        exact K l1 l2 e_
      · replace e_ := fun β k_ => (e_ β k_).trans (if_pos c55_1503)
        refine g_iinc (v := (l2 + 1)) (lv' := [(2, .int (l2 + 1)), (0, .ref x), (1, .int l1)]) B dX10_commonShift_58 2 rfl rfl (by decide) rfl ?_
        refine g_goto (tgt := 44) B dX10_commonShift_61 (by decide) ?_
        refine g_lvsub (lv' := [(0, .ref x), (1, .int l1), (2, .int (l2 + 1))]) [1, 2, 0] rfl ?_
        exact ih l1 (l2 + 1)  (Nat.lt_of_lt_of_le (st_up (o_2 c47_1502)) (Nat.le_of_lt_succ hm)) e_
theorem dX10_commonShift_64 : decode cX10_commonShift 64 = .ok (.iload_n 2, 1) := by decide +kernel
theorem dX10_commonShift_65 : decode cX10_commonShift 65 = .ok (.ireturn, 1) := by decide +kernel
theorem dX10_commonShift_40 : decode cX10_commonShift 40 = .ok (.iconst 0, 1) := by decide +kernel
theorem dX10_commonShift_41 : decode cX10_commonShift 41 = .ok (.ireturn, 1) := by decide +kernel
set_option maxRecDepth 100000 in
def fn_wk_X10_commonShift (x_1 : Nat) (nu_f : Nat → Int32) (β : Type) (k_ : Int32 → β) : β := (lf_wk_X10_commonShift_4 x_1 nu_f β (fun y_1500l1 y_1500l2 => (if y_1500l1 = 0 then (k_ 0) else (lf_wk_X10_commonShift_44  β (fun y_1504l1 y_1504l2 => (k_ y_1504l2)) ((Int32.toInt 23 - Int32.toInt 0).toNat + 1) y_1500l1 0))) ((Int32.toInt 1200 - Int32.toInt 0).toNat + 1) 0 0)
set_option maxRecDepth 100000 in
theorem fn_wk_X10_commonShift_s {x_1 : Nat} {nu_f : Nat → Int32} {β : Type} {k_ : Int32 → β} : fn_wk_X10_commonShift x_1 nu_f β k_ = (lf_wk_X10_commonShift_4 x_1 nu_f β (fun y_1500l1 y_1500l2 => (if y_1500l1 = 0 then (k_ 0) else (lf_wk_X10_commonShift_44  β (fun y_1504l1 y_1504l2 => (k_ y_1504l2)) ((Int32.toInt 23 - Int32.toInt 0).toNat + 1) y_1500l1 0))) ((Int32.toInt 1200 - Int32.toInt 0).toNat + 1) 0 0) := rfl
set_option maxRecDepth 100000 in
set_option maxHeartbeats 4000000 in
theorem wk_X10_commonShift (E : g_E) (x : Nat) (nu : Nat) (pl : Nat) (tp : Nat) (sd : Nat) (fi : Nat) (se : Nat) (enc : Nat) (dec : Nat) (wl : Nat) (wsp : Nat) (x_1 : Nat) (nu_f : Nat → Int32) (hk0 : x_1 ≤ 1200) : Ev E MX10_commonShift 0 0 0 0 [.ref x] [(x, .inr (10, [.ref nu, .int (nI x_1), .ref pl, .ref tp, .ref sd, .ref fi, .ref se, .ref enc, .ref dec, .ref wl, .ref wsp])), (nu, .inl (E.2.2.1 0, 1200, .inl nu_f))] (fun v_ w_ => ∃ zr : Int32, (∀ (β : Type) (k_ : Int32 → β), fn_wk_X10_commonShift x_1 nu_f β k_ = k_ zr) ∧ v_ = some (.int zr) ∧ w_ = [(x, .inr (10, [.ref nu, .int (nI x_1), .ref pl, .ref tp, .ref sd, .ref fi, .ref se, .ref enc, .ref dec, .ref wl, .ref wsp])), (nu, .inl (E.2.2.1 0, 1200, .inl nu_f))]) := by
  refine Ev.intro (by decide) (Nat.le_of_ble_eq_true rfl) ?_
  intro X B hr hI
  have B : Bd E X cX10_commonShift RX10 3 0 0 0 0 := B
  have hr : Rt E X (some .int) 0 0 (fun v_ w_ => ∃ zr : Int32, (∀ (β : Type) (k_ : Int32 → β), fn_wk_X10_commonShift x_1 nu_f β k_ = k_ zr) ∧ v_ = some (.int zr) ∧ w_ = [(x, .inr (10, [.ref nu, .int (nI x_1), .ref pl, .ref tp, .ref sd, .ref fi, .ref se, .ref enc, .ref dec, .ref wl, .ref wsp])), (nu, .inl (E.2.2.1 0, 1200, .inl nu_f))]) := hr
  have e_ := fun (β : Type) (k_ : Int32 → β) => fn_wk_X10_commonShift_s (β := β) (k_ := k_) (x_1 := x_1) (nu_f := nu_f)
  show G E X 3 [(x, .inr (10, [.ref nu, .int (nI x_1), .ref pl, .ref tp, .ref sd, .ref fi, .ref se, .ref enc, .ref dec, .ref wl, .ref wsp])), (nu, .inl (E.2.2.1 0, 1200, .inl nu_f))] 0 0 [(0, .ref x)] 0 []
  refine g_iconst (v := 0) B dX10_commonShift_0 (by decide) ?_
  refine g_istore_n (lv' := [(1, .int 0), (0, .ref x)]) B dX10_commonShift_1 rfl (by decide) rfl ?_
  refine g_iconst (v := 0) B dX10_commonShift_2 (by decide) ?_
  refine g_istore_n (lv' := [(2, .int 0), (1, .int 0), (0, .ref x)]) B dX10_commonShift_3 rfl (by decide) rfl ?_
  refine g_lvsub (lv' := [(0, .ref x), (1, .int 0), (2, .int 0)]) [2, 1, 0] rfl ?_
  refine lp_wk_X10_commonShift_4 E x nu pl tp sd fi se enc dec wl wsp x_1 nu_f hk0 _ B hr (fun y_1500l1 y_1500l2 e_ => ?_) _ 0 0 (by decide) (Nat.lt_succ_self _) e_
  refine g_iload_n B dX10_commonShift_36 rfl 1 rfl ?_
  refine g_if_ne (tgt := 42) B dX10_commonShift_37 (by decide) (fun c37_1501 => ?_) (fun c37_1501 => ?_)
  · replace e_ := fun β k_ => (e_ β k_).trans (if_neg c37_1501)
    refine g_iconst (v := 0) B dX10_commonShift_42 (by decide) ?_
    refine g_istore_n (lv' := [(2, .int 0), (0, .ref x), (1, .int y_1500l1)]) B dX10_commonShift_43 rfl (by decide) rfl ?_
    refine g_lvsub (lv' := [(0, .ref x), (1, .int y_1500l1), (2, .int 0)]) [1, 2, 0] rfl ?_
    refine lp_wk_X10_commonShift_44 E x nu pl tp sd fi se enc dec wl wsp x_1 nu_f hk0 _ B hr (fun y_1504l1 y_1504l2 e_ => ?_) _ y_1500l1 0  (Nat.lt_succ_self _) e_
    refine g_iload_n B dX10_commonShift_64 rfl 2 rfl ?_
    exact g_iret B hr dX10_commonShift_65 (by decide) (by decide) ⟨y_1504l2, e_, rfl, rfl⟩
  · replace e_ := fun β k_ => (e_ β k_).trans (if_pos c37_1501)
    refine g_iconst (v := 0) B dX10_commonShift_40 (by decide) ?_
    exact g_iret B hr dX10_commonShift_41 (by decide) (by decide) ⟨0, e_, rfl, rfl⟩
abbrev MX10_isSound : g_M := (yX10_isSound, cX10_isSound, 4, (some .boolean))
theorem dX10_isSound_0 : decode cX10_isSound 0 = .ok (.iload_n 1, 1) := by decide +kernel
theorem dX10_isSound_1 : decode cX10_isSound 1 = .ok (.iconst 2, 1) := by decide +kernel
theorem dX10_isSound_2 : decode cX10_isSound 2 = .ok (.if_icmp .ne 12, 3) := by decide +kernel
theorem dX10_isSound_14 : decode cX10_isSound 14 = .ok (.aload_n 0, 1) := by decide +kernel
theorem dX10_isSound_15 : decode cX10_isSound 15 = .ok (.getfield 13, 3) := by decide +kernel
theorem dX10_isSound_18 : decode cX10_isSound 18 = .ok (.istore_n 2, 1) := by decide +kernel
theorem dX10_isSound_19 : decode cX10_isSound 19 = .ok (.iload_n 2, 1) := by decide +kernel
theorem dX10_isSound_20 : decode cX10_isSound 20 = .ok (.iconst 1, 1) := by decide +kernel
theorem dX10_isSound_21 : decode cX10_isSound 21 = .ok (.if_icmp .lt 20, 3) := by decide +kernel
theorem dX10_isSound_41 : decode cX10_isSound 41 = .ok (.iconst 0, 1) := by decide +kernel
theorem dX10_isSound_42 : decode cX10_isSound 42 = .ok (.ireturn, 1) := by decide +kernel
theorem dX10_isSound_24 : decode cX10_isSound 24 = .ok (.iload_n 2, 1) := by decide +kernel
theorem dX10_isSound_25 : decode cX10_isSound 25 = .ok (.sipush 600, 3) := by decide +kernel
theorem dX10_isSound_28 : decode cX10_isSound 28 = .ok (.if_icmp .gt 13, 3) := by decide +kernel
theorem dX10_isSound_31 : decode cX10_isSound 31 = .ok (.iload_n 2, 1) := by decide +kernel
theorem dX10_isSound_32 : decode cX10_isSound 32 = .ok (.iload_n 1, 1) := by decide +kernel
theorem dX10_isSound_33 : decode cX10_isSound 33 = .ok (.imul, 1) := by decide +kernel
theorem dX10_isSound_34 : decode cX10_isSound 34 = .ok (.aload_n 0, 1) := by decide +kernel
theorem dX10_isSound_35 : decode cX10_isSound 35 = .ok (.getfield 13, 3) := by decide +kernel
theorem dX10_isSound_38 : decode cX10_isSound 38 = .ok (.if_icmp .eq 5, 3) := by decide +kernel
theorem dX10_isSound_43 : decode cX10_isSound 43 = .ok (.iconst 0, 1) := by decide +kernel
theorem dX10_isSound_44 : decode cX10_isSound 44 = .ok (.istore_n 3, 1) := by decide +kernel
theorem dX10_isSound_45 : decode cX10_isSound 45 = .ok (.iload_n 3, 1) := by decide +kernel
theorem dX10_isSound_46 : decode cX10_isSound 46 = .ok (.aload_n 0, 1) := by decide +kernel
theorem dX10_isSound_47 : decode cX10_isSound 47 = .ok (.getfield 13, 3) := by decide +kernel
theorem dX10_isSound_50 : decode cX10_isSound 50 = .ok (.if_icmp .ge 42, 3) := by decide +kernel
theorem dX10_isSound_53 : decode cX10_isSound 53 = .ok (.iload_n 3, 1) := by decide +kernel
theorem dX10_isSound_54 : decode cX10_isSound 54 = .ok (.aload_n 0, 1) := by decide +kernel
theorem dX10_isSound_55 : decode cX10_isSound 55 = .ok (.getfield 9, 3) := by decide +kernel
theorem dX10_isSound_58 : decode cX10_isSound 58 = .ok (.arraylength, 1) := by decide +kernel
theorem dX10_isSound_59 : decode cX10_isSound 59 = .ok (.if_icmp .ge 33, 3) := by decide +kernel
theorem dX10_isSound_62 : decode cX10_isSound 62 = .ok (.aload_n 0, 1) := by decide +kernel
theorem dX10_isSound_63 : decode cX10_isSound 63 = .ok (.getfield 9, 3) := by decide +kernel
theorem dX10_isSound_66 : decode cX10_isSound 66 = .ok (.iload_n 3, 1) := by decide +kernel
theorem dX10_isSound_67 : decode cX10_isSound 67 = .ok (.iaload, 1) := by decide +kernel
theorem dX10_isSound_68 : decode cX10_isSound 68 = .ok (.ldc 189, 2) := by decide +kernel
theorem w_k_X10_189 : Cond.constant RX10 189 (-8388608) ∈ g_tbl := g_tbl_in 444 (by decide +kernel) (by decide +kernel)
theorem dX10_isSound_70 : decode cX10_isSound 70 = .ok (.if_icmp .lt 14, 3) := by decide +kernel
theorem dX10_isSound_84 : decode cX10_isSound 84 = .ok (.iconst 0, 1) := by decide +kernel
theorem dX10_isSound_85 : decode cX10_isSound 85 = .ok (.ireturn, 1) := by decide +kernel
theorem dX10_isSound_73 : decode cX10_isSound 73 = .ok (.aload_n 0, 1) := by decide +kernel
theorem dX10_isSound_74 : decode cX10_isSound 74 = .ok (.getfield 9, 3) := by decide +kernel
theorem dX10_isSound_77 : decode cX10_isSound 77 = .ok (.iload_n 3, 1) := by decide +kernel
theorem dX10_isSound_78 : decode cX10_isSound 78 = .ok (.iaload, 1) := by decide +kernel
theorem dX10_isSound_79 : decode cX10_isSound 79 = .ok (.ldc 190, 2) := by decide +kernel
theorem w_k_X10_190 : Cond.constant RX10 190 8388607 ∈ g_tbl := g_tbl_in 445 (by decide +kernel) (by decide +kernel)
theorem dX10_isSound_81 : decode cX10_isSound 81 = .ok (.if_icmp .le 5, 3) := by decide +kernel
theorem dX10_isSound_86 : decode cX10_isSound 86 = .ok (.iinc 3 1, 3) := by decide +kernel
theorem dX10_isSound_89 : decode cX10_isSound 89 = .ok (.goto (-44), 3) := by decide +kernel
set_option maxRecDepth 100000 in
def lf_wk_X10_isSound_45 (x_1 : Nat) (nu_f : Nat → Int32) (β : Type) (kx_ : Int32 → Int32 → Int32 → β) (k_ : Int32 → β) : Nat → Int32 → Int32 → Int32 → β
  | 0, l1, l2, l3 => kx_ l1 l2 l3
  | fuel + 1, l1, l2, l3 => (if nI x_1 ≤ l3 then (kx_ l1 l2 l3) else (if 1200 ≤ l3 then (kx_ l1 l2 l3) else (if (nu_f (Int32.toNatClampNeg l3)) < (-8388608) then (k_ 0) else (if (nu_f (Int32.toNatClampNeg l3)) ≤ 8388607 then (lf_wk_X10_isSound_45 x_1 nu_f β kx_ k_ fuel l1 l2 (l3 + 1)) else (k_ 0)))))
set_option maxRecDepth 100000 in
theorem lf_wk_X10_isSound_45_s {x_1 : Nat} {nu_f : Nat → Int32} {β : Type} {kx_ : Int32 → Int32 → Int32 → β} {k_ : Int32 → β} {fuel : Nat} {l1 : Int32} {l2 : Int32} {l3 : Int32} : lf_wk_X10_isSound_45 x_1 nu_f β kx_ k_ (fuel + 1) l1 l2 l3 = (if nI x_1 ≤ l3 then (kx_ l1 l2 l3) else (if 1200 ≤ l3 then (kx_ l1 l2 l3) else (if (nu_f (Int32.toNatClampNeg l3)) < (-8388608) then (k_ 0) else (if (nu_f (Int32.toNatClampNeg l3)) ≤ 8388607 then (lf_wk_X10_isSound_45 x_1 nu_f β kx_ k_ fuel l1 l2 (l3 + 1)) else (k_ 0))))) := rfl
set_option maxRecDepth 100000 in
set_option maxHeartbeats 4000000 in
theorem lp_wk_X10_isSound_45 (E : g_E) (x : Nat) (nu : Nat) (pl : Nat) (tp : Nat) (sd : Nat) (fi : Nat) (se : Nat) (enc : Nat) (dec : Nat) (wl : Nat) (wsp : Nat) (x_1 : Nat) (nu_f : Nat → Int32) (ch : Int32) (hk0 : x_1 ≤ 1200) {X : g_X} {rr : (β : Type) → (Int32 → β) → β} (kx_ : (β : Type) → (Int32 → β) → Int32 → Int32 → Int32 → β) (B : Bd E X cX10_isSound RX10 4 0 0 0 0) (hr : Rt E X (some .boolean) 0 0 (fun v_ w_ => ∃ zr : Int32, (zr = 0 ∨ (zr = 1 ∧ sndO ch (nI x_1))) ∧ (∀ (β : Type) (k_ : Int32 → β), rr β k_ = k_ zr) ∧ v_ = some (.int zr) ∧ w_ = [(x, .inr (10, [.ref nu, .int (nI x_1), .ref pl, .ref tp, .ref sd, .ref fi, .ref se, .ref enc, .ref dec, .ref wl, .ref wsp])), (nu, .inl (E.2.2.1 0, 1200, .inl nu_f))])) (K : ∀ (l1 : Int32) (l2 : Int32) (l3 : Int32), (∀ (β : Type) (k_ : Int32 → β), rr β k_ = kx_ β k_ l1 l2 l3) → G E X 4 [(x, .inr (10, [.ref nu, .int (nI x_1), .ref pl, .ref tp, .ref sd, .ref fi, .ref se, .ref enc, .ref dec, .ref wl, .ref wsp])), (nu, .inl (E.2.2.1 0, 1200, .inl nu_f))] 0 0 [(0, .ref x), (1, .int l1), (2, .int l2), (3, .int l3)] 92 []) : ∀ (n : Nat) (l1 : Int32) (l2 : Int32) (l3 : Int32), ¬ l3 < 0 → (Int32.toInt 1200 - Int32.toInt l3).toNat < n → (∀ (β : Type) (k_ : Int32 → β), rr β k_ = lf_wk_X10_isSound_45 x_1 nu_f β (kx_ β k_) k_ n l1 l2 l3) → G E X 4 [(x, .inr (10, [.ref nu, .int (nI x_1), .ref pl, .ref tp, .ref sd, .ref fi, .ref se, .ref enc, .ref dec, .ref wl, .ref wsp])), (nu, .inl (E.2.2.1 0, 1200, .inl nu_f))] 0 0 [(0, .ref x), (1, .int l1), (2, .int l2), (3, .int l3)] 45 [] := by
  intro n
  induction n with
  | zero => intro l1 l2 l3 _ h _; exact absurd h (Nat.not_lt_zero _)
  | succ n ih =>
    intro l1 l2 l3 hv0 hm e_
    replace e_ := fun β k_ => (e_ β k_).trans lf_wk_X10_isSound_45_s
    refine g_iload_n B dX10_isSound_45 rfl 3 rfl ?_
    refine g_aload_n B dX10_isSound_46 rfl 0 rfl ?_
    refine g_get B 0 1 fl_X10_13 rfl rfl dX10_isSound_47 ?_
    refine g_icmp_ge (tgt := 92) B dX10_isSound_50 (by decide) (fun c50_1509 => ?_) (fun c50_1509 => ?_)
    · replace e_ := fun β k_ => (e_ β k_).trans (if_pos c50_1509)
      exact K l1 l2 l3 e_
    · replace e_ := fun β k_ => (e_ β k_).trans (if_neg c50_1509)
      refine g_iload_n B dX10_isSound_53 rfl 3 rfl ?_
      refine g_aload_n B dX10_isSound_54 rfl 0 rfl ?_
      refine g_get B 0 0 fl_X10_9 rfl rfl dX10_isSound_55 ?_
      refine g_alen (v := nI 1200) B 1 (by decide) rfl rfl dX10_isSound_58 ?_
      refine g_ri (x' := 1200) (by decide) ?_
      refine g_icmp_ge (tgt := 92) B dX10_isSound_59 (by decide) (fun c59_1510 => ?_) (fun c59_1510 => ?_)
      · replace e_ := fun β k_ => (e_ β k_).trans (if_pos c59_1510)
        exact K l1 l2 l3 e_
      · replace e_ := fun β k_ => (e_ β k_).trans (if_neg c59_1510)
        refine g_aload_n B dX10_isSound_62 rfl 0 rfl ?_
        refine g_get B 0 0 fl_X10_9 rfl rfl dX10_isSound_63 ?_
        refine g_iload_n B dX10_isSound_66 rfl 3 rfl ?_
        refine g_iald B 1 rfl (in_lt (by decide) hv0 (o_2 c59_1510)) dX10_isSound_67 ?_
        refine g_ldc (v := (-8388608)) B w_k_X10_189 dX10_isSound_68 ?_
        refine g_icmp_lt (tgt := 84) B dX10_isSound_70 (by decide) (fun c70_1511 => ?_) (fun c70_1511 => ?_)
        · replace e_ := fun β k_ => (e_ β k_).trans (if_pos c70_1511)
          refine g_iconst (v := 0) B dX10_isSound_84 (by decide) ?_
          exact g_zret B hr (by decide) dX10_isSound_85 (by decide) (by decide) ⟨0, (Or.inl rfl), e_, rfl, rfl⟩
        · replace e_ := fun β k_ => (e_ β k_).trans (if_neg c70_1511)
          refine g_aload_n B dX10_isSound_73 rfl 0 rfl ?_
          refine g_get B 0 0 fl_X10_9 rfl rfl dX10_isSound_74 ?_
          refine g_iload_n B dX10_isSound_77 rfl 3 rfl ?_
          refine g_iald B 1 rfl (in_lt (by decide) hv0 (o_2 c59_1510)) dX10_isSound_78 ?_
          refine g_ldc (v := 8388607) B w_k_X10_190 dX10_isSound_79 ?_
          refine g_icmp_le (tgt := 86) B dX10_isSound_81 (by decide) (fun c81_1512 => ?_) (fun c81_1512 => ?_)
          · replace e_ := fun β k_ => (e_ β k_).trans (if_pos c81_1512)
            refine g_iinc (v := (l3 + 1)) (lv' := [(3, .int (l3 + 1)), (0, .ref x), (1, .int l1), (2, .int l2)]) B dX10_isSound_86 3 rfl rfl (by decide) rfl ?_
            refine g_goto (tgt := 45) B dX10_isSound_89 (by decide) ?_
            refine g_lvsub (lv' := [(0, .ref x), (1, .int l1), (2, .int l2), (3, .int (l3 + 1))]) [1, 2, 3, 0] rfl ?_
            exact ih l1 l2 (l3 + 1) (inv_up hv0 (o_2 c59_1510)) (Nat.lt_of_lt_of_le (st_up (o_2 c59_1510)) (Nat.le_of_lt_succ hm)) e_
          · replace e_ := fun β k_ => (e_ β k_).trans (if_neg c81_1512)
            refine g_iconst (v := 0) B dX10_isSound_84 (by decide) ?_
            exact g_zret B hr (by decide) dX10_isSound_85 (by decide) (by decide) ⟨0, (Or.inl rfl), e_, rfl, rfl⟩
theorem dX10_isSound_92 : decode cX10_isSound 92 = .ok (.iconst 1, 1) := by decide +kernel
theorem dX10_isSound_93 : decode cX10_isSound 93 = .ok (.ireturn, 1) := by decide +kernel
theorem dX10_isSound_5 : decode cX10_isSound 5 = .ok (.aload_n 0, 1) := by decide +kernel
theorem dX10_isSound_6 : decode cX10_isSound 6 = .ok (.getfield 13, 3) := by decide +kernel
theorem dX10_isSound_9 : decode cX10_isSound 9 = .ok (.iconst 2, 1) := by decide +kernel
theorem dX10_isSound_10 : decode cX10_isSound 10 = .ok (.idiv, 1) := by decide +kernel
theorem dX10_isSound_11 : decode cX10_isSound 11 = .ok (.goto 7, 3) := by decide +kernel
set_option maxRecDepth 100000 in
def fn_wk_X10_isSound (x_1 : Nat) (nu_f : Nat → Int32) (ch : Int32) (β : Type) (k_ : Int32 → β) : β := (if ch = 2 then (if (nI x_1 / 2) < 1 then (k_ 0) else (if 600 < (nI x_1 / 2) then (k_ 0) else (if ((nI x_1 / 2) * ch) = nI x_1 then (lf_wk_X10_isSound_45 x_1 nu_f β (fun y_1517l1 y_1517l2 y_1517l3 => (k_ 1)) k_ ((Int32.toInt 1200 - Int32.toInt 0).toNat + 1) ch (nI x_1 / 2) 0) else (k_ 0)))) else (if nI x_1 < 1 then (k_ 0) else (if 600 < nI x_1 then (k_ 0) else (if (nI x_1 * ch) = nI x_1 then (lf_wk_X10_isSound_45 x_1 nu_f β (fun y_1513l1 y_1513l2 y_1513l3 => (k_ 1)) k_ ((Int32.toInt 1200 - Int32.toInt 0).toNat + 1) ch (nI x_1) 0) else (k_ 0)))))
set_option maxRecDepth 100000 in
theorem fn_wk_X10_isSound_s {x_1 : Nat} {nu_f : Nat → Int32} {ch : Int32} {β : Type} {k_ : Int32 → β} : fn_wk_X10_isSound x_1 nu_f ch β k_ = (if ch = 2 then (if (nI x_1 / 2) < 1 then (k_ 0) else (if 600 < (nI x_1 / 2) then (k_ 0) else (if ((nI x_1 / 2) * ch) = nI x_1 then (lf_wk_X10_isSound_45 x_1 nu_f β (fun y_1517l1 y_1517l2 y_1517l3 => (k_ 1)) k_ ((Int32.toInt 1200 - Int32.toInt 0).toNat + 1) ch (nI x_1 / 2) 0) else (k_ 0)))) else (if nI x_1 < 1 then (k_ 0) else (if 600 < nI x_1 then (k_ 0) else (if (nI x_1 * ch) = nI x_1 then (lf_wk_X10_isSound_45 x_1 nu_f β (fun y_1513l1 y_1513l2 y_1513l3 => (k_ 1)) k_ ((Int32.toInt 1200 - Int32.toInt 0).toNat + 1) ch (nI x_1) 0) else (k_ 0))))) := rfl
set_option maxRecDepth 100000 in
set_option maxHeartbeats 4000000 in
theorem wk_X10_isSound (E : g_E) (x : Nat) (nu : Nat) (pl : Nat) (tp : Nat) (sd : Nat) (fi : Nat) (se : Nat) (enc : Nat) (dec : Nat) (wl : Nat) (wsp : Nat) (x_1 : Nat) (nu_f : Nat → Int32) (ch : Int32) (hk0 : x_1 ≤ 1200) : Ev E MX10_isSound 0 0 0 0 [.ref x, .int ch] [(x, .inr (10, [.ref nu, .int (nI x_1), .ref pl, .ref tp, .ref sd, .ref fi, .ref se, .ref enc, .ref dec, .ref wl, .ref wsp])), (nu, .inl (E.2.2.1 0, 1200, .inl nu_f))] (fun v_ w_ => ∃ zr : Int32, (zr = 0 ∨ (zr = 1 ∧ sndO ch (nI x_1))) ∧ (∀ (β : Type) (k_ : Int32 → β), fn_wk_X10_isSound x_1 nu_f ch β k_ = k_ zr) ∧ v_ = some (.int zr) ∧ w_ = [(x, .inr (10, [.ref nu, .int (nI x_1), .ref pl, .ref tp, .ref sd, .ref fi, .ref se, .ref enc, .ref dec, .ref wl, .ref wsp])), (nu, .inl (E.2.2.1 0, 1200, .inl nu_f))]) := by
  refine Ev.intro (by decide) (Nat.le_of_ble_eq_true rfl) ?_
  intro X B hr hI
  have B : Bd E X cX10_isSound RX10 4 0 0 0 0 := B
  have hr : Rt E X (some .boolean) 0 0 (fun v_ w_ => ∃ zr : Int32, (zr = 0 ∨ (zr = 1 ∧ sndO ch (nI x_1))) ∧ (∀ (β : Type) (k_ : Int32 → β), fn_wk_X10_isSound x_1 nu_f ch β k_ = k_ zr) ∧ v_ = some (.int zr) ∧ w_ = [(x, .inr (10, [.ref nu, .int (nI x_1), .ref pl, .ref tp, .ref sd, .ref fi, .ref se, .ref enc, .ref dec, .ref wl, .ref wsp])), (nu, .inl (E.2.2.1 0, 1200, .inl nu_f))]) := hr
  have e_ := fun (β : Type) (k_ : Int32 → β) => fn_wk_X10_isSound_s (β := β) (k_ := k_) (x_1 := x_1) (nu_f := nu_f) (ch := ch)
  show G E X 4 [(x, .inr (10, [.ref nu, .int (nI x_1), .ref pl, .ref tp, .ref sd, .ref fi, .ref se, .ref enc, .ref dec, .ref wl, .ref wsp])), (nu, .inl (E.2.2.1 0, 1200, .inl nu_f))] 0 0 [(0, .ref x), (1, .int ch)] 0 []
  refine g_iload_n B dX10_isSound_0 rfl 1 rfl ?_
  refine g_iconst (v := 2) B dX10_isSound_1 (by decide) ?_
  refine g_icmp_ne (tgt := 14) B dX10_isSound_2 (by decide) (fun c2_1505 => ?_) (fun c2_1505 => ?_)
  · replace e_ := fun β k_ => (e_ β k_).trans (if_neg c2_1505)
    refine g_aload_n B dX10_isSound_14 rfl 0 rfl ?_
    refine g_get B 0 1 fl_X10_13 rfl rfl dX10_isSound_15 ?_
    refine g_istore_n (lv' := [(2, .int (nI x_1)), (0, .ref x), (1, .int ch)]) B dX10_isSound_18 rfl (by decide) rfl ?_
    refine g_iload_n B dX10_isSound_19 rfl 0 rfl ?_
    refine g_iconst (v := 1) B dX10_isSound_20 (by decide) ?_
    refine g_icmp_lt (tgt := 41) B dX10_isSound_21 (by decide) (fun c21_1506 => ?_) (fun c21_1506 => ?_)
    · replace e_ := fun β k_ => (e_ β k_).trans (if_pos c21_1506)
      refine g_iconst (v := 0) B dX10_isSound_41 (by decide) ?_
      exact g_zret B hr (by decide) dX10_isSound_42 (by decide) (by decide) ⟨0, (Or.inl rfl), e_, rfl, rfl⟩
    · replace e_ := fun β k_ => (e_ β k_).trans (if_neg c21_1506)
      refine g_iload_n B dX10_isSound_24 rfl 0 rfl ?_
      refine g_sipush (v := 600) B dX10_isSound_25 (by decide) ?_
      refine g_icmp_gt (tgt := 41) B dX10_isSound_28 (by decide) (fun c28_1507 => ?_) (fun c28_1507 => ?_)
      · replace e_ := fun β k_ => (e_ β k_).trans (if_pos c28_1507)
        refine g_iconst (v := 0) B dX10_isSound_41 (by decide) ?_
        exact g_zret B hr (by decide) dX10_isSound_42 (by decide) (by decide) ⟨0, (Or.inl rfl), e_, rfl, rfl⟩
      · replace e_ := fun β k_ => (e_ β k_).trans (if_neg c28_1507)
        refine g_iload_n B dX10_isSound_31 rfl 0 rfl ?_
        refine g_iload_n B dX10_isSound_32 rfl 2 rfl ?_
        refine g_imul B dX10_isSound_33 ?_
        refine g_aload_n B dX10_isSound_34 rfl 1 rfl ?_
        refine g_get B 0 1 fl_X10_13 rfl rfl dX10_isSound_35 ?_
        refine g_icmp_eq (tgt := 43) B dX10_isSound_38 (by decide) (fun c38_1508 => ?_) (fun c38_1508 => ?_)
        · replace e_ := fun β k_ => (e_ β k_).trans (if_pos c38_1508)
          refine g_iconst (v := 0) B dX10_isSound_43 (by decide) ?_
          refine g_istore_n (lv' := [(3, .int 0), (2, .int (nI x_1)), (0, .ref x), (1, .int ch)]) B dX10_isSound_44 rfl (by decide) rfl ?_
          refine g_lvsub (lv' := [(0, .ref x), (1, .int ch), (2, .int (nI x_1)), (3, .int 0)]) [2, 3, 1, 0] rfl ?_
          refine lp_wk_X10_isSound_45 E x nu pl tp sd fi se enc dec wl wsp x_1 nu_f ch hk0 _ B hr (fun y_1513l1 y_1513l2 y_1513l3 e_ => ?_) _ ch (nI x_1) 0 (by decide) (Nat.lt_succ_self _) e_
          refine g_iconst (v := 1) B dX10_isSound_92 (by decide) ?_
          exact g_zret B hr (by decide) dX10_isSound_93 (by decide) (by decide) ⟨1, (Or.inr ⟨rfl, snd1 c2_1505 c21_1506 c28_1507⟩), e_, rfl, rfl⟩
        · replace e_ := fun β k_ => (e_ β k_).trans (if_neg c38_1508)
          refine g_iconst (v := 0) B dX10_isSound_41 (by decide) ?_
          exact g_zret B hr (by decide) dX10_isSound_42 (by decide) (by decide) ⟨0, (Or.inl rfl), e_, rfl, rfl⟩
  · replace e_ := fun β k_ => (e_ β k_).trans (if_pos c2_1505)
    refine g_aload_n B dX10_isSound_5 rfl 0 rfl ?_
    refine g_get B 0 1 fl_X10_13 rfl rfl dX10_isSound_6 ?_
    refine g_iconst (v := 2) B dX10_isSound_9 (by decide) ?_
    refine g_idiv B dX10_isSound_10 (by decide) ?_
    refine g_goto (tgt := 18) B dX10_isSound_11 (by decide) ?_
    refine g_istore_n (lv' := [(2, .int (nI x_1 / 2)), (0, .ref x), (1, .int ch)]) B dX10_isSound_18 rfl (by decide) rfl ?_
    refine g_iload_n B dX10_isSound_19 rfl 0 rfl ?_
    refine g_iconst (v := 1) B dX10_isSound_20 (by decide) ?_
    refine g_icmp_lt (tgt := 41) B dX10_isSound_21 (by decide) (fun c21_1514 => ?_) (fun c21_1514 => ?_)
    · replace e_ := fun β k_ => (e_ β k_).trans (if_pos c21_1514)
      refine g_iconst (v := 0) B dX10_isSound_41 (by decide) ?_
      exact g_zret B hr (by decide) dX10_isSound_42 (by decide) (by decide) ⟨0, (Or.inl rfl), e_, rfl, rfl⟩
    · replace e_ := fun β k_ => (e_ β k_).trans (if_neg c21_1514)
      refine g_iload_n B dX10_isSound_24 rfl 0 rfl ?_
      refine g_sipush (v := 600) B dX10_isSound_25 (by decide) ?_
      refine g_icmp_gt (tgt := 41) B dX10_isSound_28 (by decide) (fun c28_1515 => ?_) (fun c28_1515 => ?_)
      · replace e_ := fun β k_ => (e_ β k_).trans (if_pos c28_1515)
        refine g_iconst (v := 0) B dX10_isSound_41 (by decide) ?_
        exact g_zret B hr (by decide) dX10_isSound_42 (by decide) (by decide) ⟨0, (Or.inl rfl), e_, rfl, rfl⟩
      · replace e_ := fun β k_ => (e_ β k_).trans (if_neg c28_1515)
        refine g_iload_n B dX10_isSound_31 rfl 0 rfl ?_
        refine g_iload_n B dX10_isSound_32 rfl 2 rfl ?_
        refine g_imul B dX10_isSound_33 ?_
        refine g_aload_n B dX10_isSound_34 rfl 1 rfl ?_
        refine g_get B 0 1 fl_X10_13 rfl rfl dX10_isSound_35 ?_
        refine g_icmp_eq (tgt := 43) B dX10_isSound_38 (by decide) (fun c38_1516 => ?_) (fun c38_1516 => ?_)
        · replace e_ := fun β k_ => (e_ β k_).trans (if_pos c38_1516)
          refine g_iconst (v := 0) B dX10_isSound_43 (by decide) ?_
          refine g_istore_n (lv' := [(3, .int 0), (2, .int (nI x_1 / 2)), (0, .ref x), (1, .int ch)]) B dX10_isSound_44 rfl (by decide) rfl ?_
          refine g_lvsub (lv' := [(0, .ref x), (1, .int ch), (2, .int (nI x_1 / 2)), (3, .int 0)]) [2, 3, 1, 0] rfl ?_
          refine lp_wk_X10_isSound_45 E x nu pl tp sd fi se enc dec wl wsp x_1 nu_f ch hk0 _ B hr (fun y_1517l1 y_1517l2 y_1517l3 e_ => ?_) _ ch (nI x_1 / 2) 0 (by decide) (Nat.lt_succ_self _) e_
          refine g_iconst (v := 1) B dX10_isSound_92 (by decide) ?_
          exact g_zret B hr (by decide) dX10_isSound_93 (by decide) (by decide) ⟨1, (Or.inr ⟨rfl, snd2 c2_1505 c21_1514 c28_1515⟩), e_, rfl, rfl⟩
        · replace e_ := fun β k_ => (e_ β k_).trans (if_neg c38_1516)
          refine g_iconst (v := 0) B dX10_isSound_41 (by decide) ?_
          exact g_zret B hr (by decide) dX10_isSound_42 (by decide) (by decide) ⟨0, (Or.inl rfl), e_, rfl, rfl⟩
abbrev MX10_keepSpare : g_M := (yX10_keepSpare, cX10_keepSpare, 2, none)
theorem dX10_keepSpare_0 : decode cX10_keepSpare 0 = .ok (.aload_n 0, 1) := by decide +kernel
theorem dX10_keepSpare_1 : decode cX10_keepSpare 1 = .ok (.getfield 68, 3) := by decide +kernel
theorem dX10_keepSpare_4 : decode cX10_keepSpare 4 = .ok (.astore_n 1, 1) := by decide +kernel
theorem dX10_keepSpare_5 : decode cX10_keepSpare 5 = .ok (.aload_n 0, 1) := by decide +kernel
theorem dX10_keepSpare_6 : decode cX10_keepSpare 6 = .ok (.aload_n 0, 1) := by decide +kernel
theorem dX10_keepSpare_7 : decode cX10_keepSpare 7 = .ok (.getfield 64, 3) := by decide +kernel
theorem dX10_keepSpare_10 : decode cX10_keepSpare 10 = .ok (.putfield 68, 3) := by decide +kernel
theorem dX10_keepSpare_13 : decode cX10_keepSpare 13 = .ok (.aload_n 0, 1) := by decide +kernel
theorem dX10_keepSpare_14 : decode cX10_keepSpare 14 = .ok (.aload_n 1, 1) := by decide +kernel
theorem dX10_keepSpare_15 : decode cX10_keepSpare 15 = .ok (.putfield 64, 3) := by decide +kernel
theorem dX10_keepSpare_18 : decode cX10_keepSpare 18 = .ok (.return_, 1) := by decide +kernel
set_option maxRecDepth 100000 in
set_option maxHeartbeats 4000000 in
theorem ev_X10_keepSpare (E : g_E) (x : Nat) (nu : Nat) (pl : Nat) (tp : Nat) (sd : Nat) (fi : Nat) (se : Nat) (enc : Nat) (dec : Nat) (wl : Nat) (wsp : Nat) (xl : Int32)  : Ev E MX10_keepSpare 0 0 0 0 [.ref x] [(x, .inr (10, [.ref nu, .int xl, .ref pl, .ref tp, .ref sd, .ref fi, .ref se, .ref enc, .ref dec, .ref wl, .ref wsp]))] (fun v_ w_ => v_ = none ∧ w_ = [(x, .inr (10, [.ref nu, .int xl, .ref pl, .ref tp, .ref sd, .ref fi, .ref se, .ref enc, .ref dec, .ref wsp, .ref wl]))]) := by
  refine Ev.intro (by decide) (Nat.le_of_ble_eq_true rfl) ?_
  intro X B hr hI
  have B : Bd E X cX10_keepSpare RX10 2 0 0 0 0 := B
  have hr : Rt E X none 0 0 (fun v_ w_ => v_ = none ∧ w_ = [(x, .inr (10, [.ref nu, .int xl, .ref pl, .ref tp, .ref sd, .ref fi, .ref se, .ref enc, .ref dec, .ref wsp, .ref wl]))]) := hr
  show G E X 2 [(x, .inr (10, [.ref nu, .int xl, .ref pl, .ref tp, .ref sd, .ref fi, .ref se, .ref enc, .ref dec, .ref wl, .ref wsp]))] 0 0 [(0, .ref x)] 0 []
  refine g_aload_n B dX10_keepSpare_0 rfl 0 rfl ?_
  refine g_get B 0 10 fl_X10_68 rfl rfl dX10_keepSpare_1 ?_
  refine g_astore_n (lv' := [(1, .ref wsp), (0, .ref x)]) B dX10_keepSpare_4 rfl (by decide) rfl ?_
  refine g_aload_n B dX10_keepSpare_5 rfl 1 rfl ?_
  refine g_aload_n B dX10_keepSpare_6 rfl 1 rfl ?_
  refine g_get B 0 9 fl_X10_64 rfl rfl dX10_keepSpare_7 ?_
  refine g_put (ws' := [(x, .inr (10, [.ref nu, .int xl, .ref pl, .ref tp, .ref sd, .ref fi, .ref se, .ref enc, .ref dec, .ref wl, .ref wl]))]) B 0 10 fl_X10_68 pf_X10_10 rfl (Nat.le_of_ble_eq_true rfl) rfl rfl rfl dX10_keepSpare_10 ?_
  refine g_aload_n B dX10_keepSpare_13 rfl 1 rfl ?_
  refine g_aload_n B dX10_keepSpare_14 rfl 0 rfl ?_
  refine g_put (ws' := [(x, .inr (10, [.ref nu, .int xl, .ref pl, .ref tp, .ref sd, .ref fi, .ref se, .ref enc, .ref dec, .ref wsp, .ref wl]))]) B 0 9 fl_X10_64 pf_X10_9 rfl (Nat.le_of_ble_eq_true rfl) rfl rfl rfl dX10_keepSpare_15 ?_
  exact g_vret B hr dX10_keepSpare_18 (by decide) (by decide) ⟨rfl, rfl⟩
abbrev MX10_keepSound : g_M := (yX10_keepSound, cX10_keepSound, 1, (some .int))
theorem dX10_keepSound_0 : decode cX10_keepSound 0 = .ok (.aload_n 0, 1) := by decide +kernel
theorem dX10_keepSound_1 : decode cX10_keepSound 1 = .ok (.aload_n 0, 1) := by decide +kernel
theorem dX10_keepSound_2 : decode cX10_keepSound 2 = .ok (.getfield 57, 3) := by decide +kernel
theorem dX10_keepSound_5 : decode cX10_keepSound 5 = .ok (.getfield 191, 3) := by decide +kernel
theorem w_fl_X10_191 : Cond.fieldLink RX10 191 (TX3 4).1 (TX3 4).2.1 (TX3 4).2.2.1 ∈ g_tbl := g_tbl_in 234 (by decide +kernel) (by decide +kernel)
theorem fl_X10_191 : FL RX10 191 3 4 := ⟨RX3, TX3, 5, rfl, by decide, inX_X3, w_fl_X10_191⟩
theorem dX10_keepSound_8 : decode cX10_keepSound 8 = .ok (.aload_n 0, 1) := by decide +kernel
theorem dX10_keepSound_9 : decode cX10_keepSound 9 = .ok (.getfield 68, 3) := by decide +kernel
theorem dX10_keepSound_12 : decode cX10_keepSound 12 = .ok (.aload_n 0, 1) := by decide +kernel
theorem dX10_keepSound_13 : decode cX10_keepSound 13 = .ok (.getfield 9, 3) := by decide +kernel
theorem dX10_keepSound_16 : decode cX10_keepSound 16 = .ok (.invokevirtual 192, 3) := by decide +kernel
theorem w_ml_X10_192 : Cond.methodLink RX10 192 yX8_unfold ∈ g_tbl := g_tbl_in 827 (by decide +kernel) (by decide +kernel)
theorem w_cd_X8_unfold : g_cw MX8_unfold ∈ g_tbl := g_tbl_in 830 (by decide +kernel) (by decide +kernel)
theorem cl_X10_192 : CL RX10 192 2 MX8_unfold := ⟨w_ml_X10_192, w_cd_X8_unfold, w_ini_X8, by decide +kernel, by decide +kernel, by decide +kernel⟩
theorem w_im_X8_unfold : Cond.instanceMethod yX8_unfold ∈ g_tbl := g_tbl_in 828 (by decide +kernel) (by decide +kernel)
theorem w_se_X8_unfold : Cond.selects RX8 yX8_unfold yX8_unfold ∈ g_tbl := g_tbl_in 829 (by decide +kernel) (by decide +kernel)
theorem dX10_keepSound_19 : decode cX10_keepSound 19 = .ok (.putfield 13, 3) := by decide +kernel
theorem dX10_keepSound_22 : decode cX10_keepSound 22 = .ok (.aload_n 0, 1) := by decide +kernel
theorem dX10_keepSound_23 : decode cX10_keepSound 23 = .ok (.invokevirtual 121, 3) := by decide +kernel
theorem w_ml_X10_121 : Cond.methodLink RX10 121 yX10_keepSpare ∈ g_tbl := g_tbl_in 683 (by decide +kernel) (by decide +kernel)
theorem w_cd_X10_keepSpare : g_cw MX10_keepSpare ∈ g_tbl := g_tbl_in 686 (by decide +kernel) (by decide +kernel)
theorem cl_X10_121 : CL RX10 121 0 MX10_keepSpare := ⟨w_ml_X10_121, w_cd_X10_keepSpare, w_ini_X10, by decide +kernel, by decide +kernel, by decide +kernel⟩
theorem w_im_X10_keepSpare : Cond.instanceMethod yX10_keepSpare ∈ g_tbl := g_tbl_in 685 (by decide +kernel) (by decide +kernel)
theorem w_se_X10_keepSpare : Cond.selects RX10 yX10_keepSpare yX10_keepSpare ∈ g_tbl := g_tbl_in 16 (by decide +kernel) (by decide +kernel)
theorem dX10_keepSound_26 : decode cX10_keepSound 26 = .ok (.aload_n 0, 1) := by decide +kernel
theorem dX10_keepSound_27 : decode cX10_keepSound 27 = .ok (.getfield 13, 3) := by decide +kernel
theorem dX10_keepSound_30 : decode cX10_keepSound 30 = .ok (.ireturn, 1) := by decide +kernel
set_option maxRecDepth 100000 in
def fn_wk_X10_keepSound (wl : Nat) (wsp : Nat) (sv_f : Nat → Int32) (wsp_2 : Nat) (wsp_3 : Nat) (wsp_4 : Nat) (wsp_5 : Int32) (wsp_6 : Int32) (nu_f : Nat → Int32) (β : Type) (k_ : Nat → Nat → Nat → (Nat → Int32) → Int32 → β) : β := (fn_wk_X8_unfold wsp_2 wsp_3 wsp_4 wsp_5 wsp_6 sv_f nu_f β (fun zsm_f_1518 zr_1519 => (k_ wsp wl zr_1519 zsm_f_1518 (nI zr_1519))))
set_option maxRecDepth 100000 in
theorem fn_wk_X10_keepSound_s {wl : Nat} {wsp : Nat} {sv_f : Nat → Int32} {wsp_2 : Nat} {wsp_3 : Nat} {wsp_4 : Nat} {wsp_5 : Int32} {wsp_6 : Int32} {nu_f : Nat → Int32} {β : Type} {k_ : Nat → Nat → Nat → (Nat → Int32) → Int32 → β} : fn_wk_X10_keepSound wl wsp sv_f wsp_2 wsp_3 wsp_4 wsp_5 wsp_6 nu_f β k_ = (fn_wk_X8_unfold wsp_2 wsp_3 wsp_4 wsp_5 wsp_6 sv_f nu_f β (fun zsm_f_1518 zr_1519 => (k_ wsp wl zr_1519 zsm_f_1518 (nI zr_1519)))) := rfl
set_option maxRecDepth 100000 in
set_option maxHeartbeats 4000000 in
theorem wk_X10_keepSound (E : g_E) (x : Nat) (nu : Nat) (pl : Nat) (tp : Nat) (sd : Nat) (fi : Nat) (se : Nat) (enc : Nat) (dec : Nat) (wl : Nat) (wsp : Nat) (dtb : Nat) (dsb : Nat) (sh : Nat) (sv : Nat) (sr : Nat) (sl : Nat) (sp : Nat) (s_ps : Nat) (s_md : Nat) (sv_f : Nat → Int32) (wsp_2 : Nat) (wsp_3 : Nat) (wsp_4 : Nat) (wsp_5 : Int32) (wsp_6 : Int32) (wsp_7 : Int32) (wsp_8 : Int32) (wsp_9 : Int32) (wsp_10 : Int32) (wsp_11 : Int32) (x_1 : Nat) (nu_f : Nat → Int32) (hk0 : wsp_2 ≤ 2) (hk1 : wsp_3 ≤ 2) (hk2 : wsp_4 ≤ 600) (hp0 : x_1 ≤ 1200) : Ev E MX10_keepSound 1 27 0 0 [.ref x] [(x, .inr (10, [.ref nu, .int (nI x_1), .ref pl, .ref tp, .ref sd, .ref fi, .ref se, .ref enc, .ref dec, .ref wl, .ref wsp])), (nu, .inl (E.2.2.1 0, 1200, .inl nu_f)), (dec, .inr (3, [.ref tp, .ref sd, .ref dtb, .ref dsb, .ref sh])), (sh, .inr (8, [.ref sv, .ref sr, .ref sl, .ref sp])), (sv, .inl (E.2.2.1 0, 1200, .inl sv_f)), (wsp, .inr (9, [.ref s_ps, .ref s_md, .int (nI wsp_2), .int (nI wsp_3), .int (nI wsp_4), .int wsp_5, .int wsp_6, .int wsp_7, .int wsp_8, .int wsp_9, .int wsp_10, .int wsp_11]))] (fun v_ w_ => ∃ zra : Nat, ∃ zrb : Nat, ∃ zx_1 : Nat, ∃ znu_f : Nat → Int32, ∃ zr : Int32, ((zra = wl ∧ zrb = wsp) ∨ (zra = wsp ∧ zrb = wl)) ∧ (zx_1 ≤ 1200) ∧ (∀ (β : Type) (k_ : Nat → Nat → Nat → (Nat → Int32) → Int32 → β), fn_wk_X10_keepSound wl wsp sv_f wsp_2 wsp_3 wsp_4 wsp_5 wsp_6 nu_f β k_ = k_ zra zrb zx_1 znu_f zr) ∧ v_ = some (.int zr) ∧ w_ = [(x, .inr (10, [.ref nu, .int (nI zx_1), .ref pl, .ref tp, .ref sd, .ref fi, .ref se, .ref enc, .ref dec, .ref zra, .ref zrb])), (nu, .inl (E.2.2.1 0, 1200, .inl znu_f)), (dec, .inr (3, [.ref tp, .ref sd, .ref dtb, .ref dsb, .ref sh])), (sh, .inr (8, [.ref sv, .ref sr, .ref sl, .ref sp])), (sv, .inl (E.2.2.1 0, 1200, .inl sv_f)), (wsp, .inr (9, [.ref s_ps, .ref s_md, .int (nI wsp_2), .int (nI wsp_3), .int (nI wsp_4), .int wsp_5, .int wsp_6, .int wsp_7, .int wsp_8, .int wsp_9, .int wsp_10, .int wsp_11]))]) := by
  refine Ev.intro (by decide) (Nat.le_of_ble_eq_true rfl) ?_
  intro X B hr hI
  have B : Bd E X cX10_keepSound RX10 1 1 27 0 0 := B
  have hr : Rt E X (some .int) 0 0 (fun v_ w_ => ∃ zra : Nat, ∃ zrb : Nat, ∃ zx_1 : Nat, ∃ znu_f : Nat → Int32, ∃ zr : Int32, ((zra = wl ∧ zrb = wsp) ∨ (zra = wsp ∧ zrb = wl)) ∧ (zx_1 ≤ 1200) ∧ (∀ (β : Type) (k_ : Nat → Nat → Nat → (Nat → Int32) → Int32 → β), fn_wk_X10_keepSound wl wsp sv_f wsp_2 wsp_3 wsp_4 wsp_5 wsp_6 nu_f β k_ = k_ zra zrb zx_1 znu_f zr) ∧ v_ = some (.int zr) ∧ w_ = [(x, .inr (10, [.ref nu, .int (nI zx_1), .ref pl, .ref tp, .ref sd, .ref fi, .ref se, .ref enc, .ref dec, .ref zra, .ref zrb])), (nu, .inl (E.2.2.1 0, 1200, .inl znu_f)), (dec, .inr (3, [.ref tp, .ref sd, .ref dtb, .ref dsb, .ref sh])), (sh, .inr (8, [.ref sv, .ref sr, .ref sl, .ref sp])), (sv, .inl (E.2.2.1 0, 1200, .inl sv_f)), (wsp, .inr (9, [.ref s_ps, .ref s_md, .int (nI wsp_2), .int (nI wsp_3), .int (nI wsp_4), .int wsp_5, .int wsp_6, .int wsp_7, .int wsp_8, .int wsp_9, .int wsp_10, .int wsp_11]))]) := hr
  have e_ := fun (β : Type) (k_ : Nat → Nat → Nat → (Nat → Int32) → Int32 → β) => fn_wk_X10_keepSound_s (β := β) (k_ := k_) (wl := wl) (wsp := wsp) (sv_f := sv_f) (wsp_2 := wsp_2) (wsp_3 := wsp_3) (wsp_4 := wsp_4) (wsp_5 := wsp_5) (wsp_6 := wsp_6) (nu_f := nu_f)
  show G E X 1 [(x, .inr (10, [.ref nu, .int (nI x_1), .ref pl, .ref tp, .ref sd, .ref fi, .ref se, .ref enc, .ref dec, .ref wl, .ref wsp])), (nu, .inl (E.2.2.1 0, 1200, .inl nu_f)), (dec, .inr (3, [.ref tp, .ref sd, .ref dtb, .ref dsb, .ref sh])), (sh, .inr (8, [.ref sv, .ref sr, .ref sl, .ref sp])), (sv, .inl (E.2.2.1 0, 1200, .inl sv_f)), (wsp, .inr (9, [.ref s_ps, .ref s_md, .int (nI wsp_2), .int (nI wsp_3), .int (nI wsp_4), .int wsp_5, .int wsp_6, .int wsp_7, .int wsp_8, .int wsp_9, .int wsp_10, .int wsp_11]))] 0 0 [(0, .ref x)] 0 []
  refine g_aload_n B dX10_keepSound_0 rfl 0 rfl ?_
  refine g_aload_n B dX10_keepSound_1 rfl 0 rfl ?_
  refine g_get B 0 8 fl_X10_57 rfl rfl dX10_keepSound_2 ?_
  refine g_get B 2 4 fl_X10_191 rfl rfl dX10_keepSound_5 ?_
  refine g_aload_n B dX10_keepSound_8 rfl 0 rfl ?_
  refine g_get B 0 10 fl_X10_68 rfl rfl dX10_keepSound_9 ?_
  refine g_aload_n B dX10_keepSound_12 rfl 0 rfl ?_
  refine g_get B 0 0 fl_X10_9 rfl rfl dX10_keepSound_13 ?_
  refine g_callV (st := [.ref x]) (As := [.ref wsp, .ref nu]) (wr := [(x, .inr (10, [.ref nu, .int (nI x_1), .ref pl, .ref tp, .ref sd, .ref fi, .ref se, .ref enc, .ref dec, .ref wl, .ref wsp])), (dec, .inr (3, [.ref tp, .ref sd, .ref dtb, .ref dsb, .ref sh]))]) (nc' := 0) (ns' := 0) B cl_X10_192 w_im_X8_unfold w_se_X8_unfold (wk_X8_unfold E wsp s_ps s_md sh sv sr sl sp nu wsp_2 wsp_3 wsp_4 wsp_5 wsp_6 wsp_7 wsp_8 wsp_9 wsp_10 wsp_11 sv_f nu_f (by first | assumption | omega | decide) (by first | assumption | omega | decide) (by first | assumption | omega | decide)) rfl [5, 3, 4, 1] [0, 2] rfl rfl (by decide) (by decide) (by decide) 1 rfl (fun q h => by cases h; rfl) rfl ⟨by decide, by decide⟩ rfl rfl (by decide) (by decide) rfl (Nat.le_of_ble_eq_true rfl) dX10_keepSound_16 (fun v w hq => ?_)
  obtain ⟨zsm_f_1518, zr_1519, hf_1520, hz_1521, rfl, rfl⟩ := hq
  replace e_ := fun β k_ => (e_ β k_).trans (hz_1521 β _)
  show G E X 1 [(x, .inr (10, [.ref nu, .int (nI x_1), .ref pl, .ref tp, .ref sd, .ref fi, .ref se, .ref enc, .ref dec, .ref wl, .ref wsp])), (dec, .inr (3, [.ref tp, .ref sd, .ref dtb, .ref dsb, .ref sh])), (wsp, .inr (9, [.ref s_ps, .ref s_md, .int (nI wsp_2), .int (nI wsp_3), .int (nI wsp_4), .int wsp_5, .int wsp_6, .int wsp_7, .int wsp_8, .int wsp_9, .int wsp_10, .int wsp_11])), (sh, .inr (8, [.ref sv, .ref sr, .ref sl, .ref sp])), (sv, .inl (E.2.2.1 0, 1200, .inl sv_f)), (nu, .inl (E.2.2.1 0, 1200, .inl zsm_f_1518))] 0 0 [(0, .ref x)] 19 [.int (nI zr_1519), .ref x]
  refine g_put (ws' := [(x, .inr (10, [.ref nu, .int (nI zr_1519), .ref pl, .ref tp, .ref sd, .ref fi, .ref se, .ref enc, .ref dec, .ref wl, .ref wsp])), (dec, .inr (3, [.ref tp, .ref sd, .ref dtb, .ref dsb, .ref sh])), (wsp, .inr (9, [.ref s_ps, .ref s_md, .int (nI wsp_2), .int (nI wsp_3), .int (nI wsp_4), .int wsp_5, .int wsp_6, .int wsp_7, .int wsp_8, .int wsp_9, .int wsp_10, .int wsp_11])), (sh, .inr (8, [.ref sv, .ref sr, .ref sl, .ref sp])), (sv, .inl (E.2.2.1 0, 1200, .inl sv_f)), (nu, .inl (E.2.2.1 0, 1200, .inl zsm_f_1518))]) B 0 1 fl_X10_13 pf_X10_1 rfl (Nat.le_of_ble_eq_true rfl) rfl rfl rfl dX10_keepSound_19 ?_
  refine g_aload_n B dX10_keepSound_22 rfl 0 rfl ?_
  refine g_callV (st := []) (As := []) (wr := [(dec, .inr (3, [.ref tp, .ref sd, .ref dtb, .ref dsb, .ref sh])), (wsp, .inr (9, [.ref s_ps, .ref s_md, .int (nI wsp_2), .int (nI wsp_3), .int (nI wsp_4), .int wsp_5, .int wsp_6, .int wsp_7, .int wsp_8, .int wsp_9, .int wsp_10, .int wsp_11])), (sh, .inr (8, [.ref sv, .ref sr, .ref sl, .ref sp])), (sv, .inl (E.2.2.1 0, 1200, .inl sv_f)), (nu, .inl (E.2.2.1 0, 1200, .inl zsm_f_1518))]) (nc' := 0) (ns' := 0) B cl_X10_121 w_im_X10_keepSpare w_se_X10_keepSpare (ev_X10_keepSpare E x nu pl tp sd fi se enc dec wl wsp (nI zr_1519) ) rfl [0] [1, 2, 3, 4, 5] rfl rfl (by decide) (by decide) (by decide) 0 rfl (fun q h => by cases h; rfl) rfl ⟨by decide, by decide⟩ rfl rfl (by decide) (by decide) rfl (Nat.le_of_ble_eq_true rfl) dX10_keepSound_23 (fun v w hq => ?_)
  obtain ⟨rfl, rfl⟩ := hq
  show G E X 1 [(dec, .inr (3, [.ref tp, .ref sd, .ref dtb, .ref dsb, .ref sh])), (wsp, .inr (9, [.ref s_ps, .ref s_md, .int (nI wsp_2), .int (nI wsp_3), .int (nI wsp_4), .int wsp_5, .int wsp_6, .int wsp_7, .int wsp_8, .int wsp_9, .int wsp_10, .int wsp_11])), (sh, .inr (8, [.ref sv, .ref sr, .ref sl, .ref sp])), (sv, .inl (E.2.2.1 0, 1200, .inl sv_f)), (nu, .inl (E.2.2.1 0, 1200, .inl zsm_f_1518)), (x, .inr (10, [.ref nu, .int (nI zr_1519), .ref pl, .ref tp, .ref sd, .ref fi, .ref se, .ref enc, .ref dec, .ref wsp, .ref wl]))] 0 0 [(0, .ref x)] 26 []
  refine g_aload_n B dX10_keepSound_26 rfl 0 rfl ?_
  refine g_get B 5 1 fl_X10_13 rfl rfl dX10_keepSound_27 ?_
  refine g_sub (ws' := [(x, .inr (10, [.ref nu, .int (nI zr_1519), .ref pl, .ref tp, .ref sd, .ref fi, .ref se, .ref enc, .ref dec, .ref wsp, .ref wl])), (nu, .inl (E.2.2.1 0, 1200, .inl zsm_f_1518)), (dec, .inr (3, [.ref tp, .ref sd, .ref dtb, .ref dsb, .ref sh])), (sh, .inr (8, [.ref sv, .ref sr, .ref sl, .ref sp])), (sv, .inl (E.2.2.1 0, 1200, .inl sv_f)), (wsp, .inr (9, [.ref s_ps, .ref s_md, .int (nI wsp_2), .int (nI wsp_3), .int (nI wsp_4), .int wsp_5, .int wsp_6, .int wsp_7, .int wsp_8, .int wsp_9, .int wsp_10, .int wsp_11]))]) [5, 4, 0, 2, 3, 1] (by decide) rfl ?_
  exact g_iret B hr dX10_keepSound_30 (by decide) (by decide) ⟨wsp, wl, zr_1519, zsm_f_1518, (nI zr_1519), (by first | assumption | exact Or.inl ⟨rfl, rfl⟩ | exact Or.inr ⟨rfl, rfl⟩), (by first | assumption | omega | decide), e_, rfl, rfl⟩
