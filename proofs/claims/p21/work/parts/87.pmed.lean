/-! MEDIANS -/
def MR (mi : Nat → Int64) (M : Nat → Nat) : Prop := ∀ i, i < 6 → mi i = lN (M i)
def MB (M : Nat → Nat) : Prop := ∀ i, i < 6 → M i ≤ 40000000000
def shN (M : Nat → Nat) (c k : Nat) : Nat := M (3 * c + k) / 16 + 1
theorem c_ix {c k : Nat} {cc kk : Int32} (ec : cc = nI c) (e : kk = nI k) (hc : c < 2) : ((cc &&& 1) * 3) + kk = nI (3 * c + k) := by
  rw [ec, pk_andN (n := c) (by omega) (m := 1) 1 (by decide), e]
  have h : nI (c % 2 ^ 1) * 3 = nI (c % 2 ^ 1 * 3) := pk_mul _ 3
  rw [h, nI_add]
  congr 1
  omega
theorem c_middle {c k : Nat} {cc kk : Int32} (ec : cc = nI c) (e : kk = nI k) (hc : c < 2) (hk : k < 3) {mi : Nat → Int64} {β : Type} {K : Int64 → β} : fn_wk_X5_middleOf mi cc kk β K = K (mi (3 * c + k)) := by
  rw [fn_wk_X5_middleOf_s, c_ix ec e hc, if_neg (nI_pos (by omega)), if_neg (show ¬ (6 : Int32) ≤ nI (3 * c + k) from nI_ge (b := 6) (by omega) (by omega)), nI_clamp (by omega)]
theorem c_share {c k : Nat} {kk : Int32} (e : kk = nI k) (hc : c < 2) (hk : k < 3) {mi : Nat → Int64} {M : Nat → Nat} (hM : MR mi M) (hB : MB M) {β : Type} {K : Int64 → β} : fn_wk_X5_share mi (nI c) kk β K = K (lN (shN M c k)) := by
  have hb := hB (3 * c + k) (by omega)
  rw [fn_wk_X5_share_s, c_middle rfl e hc hk, hM _ (by omega), pf_shr (d := 4) (by decide) (by omega), lN_1]
  rfl
theorem shN_le {M : Nat → Nat} {c k : Nat} (hc : c < 2) (hk : k < 3) (hB : MB M) : shN M c k ≤ 2500000001 ∧ 1 ≤ shN M c k := by
  have hb := hB (3 * c + k) (by omega)
  unfold shN
  omega
theorem c_quiet {nch : Nat} (hn : nch = 1 ∨ nch = 2) {mi : Nat → Int64} {M : Nat → Nat} (hM : MR mi M) (hB : MB M) {β : Type} {K : Int32 → β} : fn_wk_X5_isQuiet mi (nI nch) β K = K (if M 0 = 0 ∧ (nch = 1 ∨ M 3 = 0) then 1 else 0) := by
  have h0 := hB 0 (by omega)
  have h3 := hB 3 (by omega)
  rw [fn_wk_X5_isQuiet_s, c_middle (cc := 0) (kk := 0) (c := 0) (k := 0) rfl rfl (by omega) (by omega), hM (3 * 0 + 0) (by omega)]
  by_cases c0 : M 0 = 0
  · rw [if_pos (show lg_cmp (lN (M (3 * 0 + 0))) (0 : Int64) = 0 from (lc_eq (a := M (3 * 0 + 0)) (b := 0) (by show M 0 < _; omega) (by omega)).mpr c0)]
    rcases hn with rfl | rfl
    · rw [if_pos (by decide), if_pos ⟨c0, Or.inl rfl⟩]
    · rw [if_neg (by decide), c_middle (cc := 1) (kk := 0) (c := 1) (k := 0) rfl rfl (by omega) (by omega), hM (3 * 1 + 0) (by omega)]
      by_cases c3 : M 3 = 0
      · rw [if_pos (show lg_cmp (lN (M (3 * 1 + 0))) (0 : Int64) = 0 from (lc_eq (a := M (3 * 1 + 0)) (b := 0) (by show M 3 < _; omega) (by omega)).mpr c3), if_pos ⟨c0, Or.inr c3⟩]
      · rw [if_neg (show ¬ lg_cmp (lN (M (3 * 1 + 0))) (0 : Int64) = 0 from fun q => c3 ((lc_eq (a := M (3 * 1 + 0)) (b := 0) (by show M 3 < _; omega) (by omega)).mp q)), if_neg (fun q => by omega)]
  · rw [if_neg (show ¬ lg_cmp (lN (M (3 * 0 + 0))) (0 : Int64) = 0 from fun q => c0 ((lc_eq (a := M (3 * 0 + 0)) (b := 0) (by show M 0 < _; omega) (by omega)).mp q)), if_neg (fun q => c0 q.1)]
theorem r_silent {nch : Nat} {M : Nat → Nat} {β : Type} {K : Int32 → β} : fn_wr_X11_maySilent nch M β K = K (if M 0 = 0 ∧ (nch = 1 ∨ M 3 = 0) then 1 else 0) := by
  rw [fn_wr_X11_maySilent_s]
  by_cases c0 : M 0 = 0
  · rw [if_pos c0]
    by_cases c1 : nch = 1
    · rw [if_pos c1, if_pos ⟨c0, Or.inl c1⟩]
    · rw [if_neg c1]
      by_cases c3 : M 3 = 0
      · rw [if_pos c3, if_pos ⟨c0, Or.inr c3⟩]
      · rw [if_neg c3, if_neg (fun q => by omega)]
  · rw [if_neg c0, if_neg (fun q => c0 q.1)]
/-- ONES of V -/
def onesN (M : Nat → Nat) (c v : Nat) : Nat := if v < shN M c 0 then 0 else if v < shN M c 0 + shN M c 1 then 1 else 2 + (v - shN M c 0 - shN M c 1) / shN M c 2
theorem c_ones {c v : Nat} (hc : c < 2) (hv : v < 2147483648) {mi : Nat → Int64} {M : Nat → Nat} (hM : MR mi M) (hB : MB M) {β : Type} {K : Int64 → β} : fn_wk_X5_onesOf mi (nI c) (lN v) β K = K (lN (onesN M c v)) := by
  have hA := shN_le (c := c) (k := 0) hc (by omega) hB
  have hBb := shN_le (c := c) (k := 1) hc (by omega) hB
  have hC := shN_le (c := c) (k := 2) hc (by omega) hB
  rw [fn_wk_X5_onesOf_s, c_share (kk := 0) (k := 0) rfl hc (by omega) hM hB, c_share (kk := 1) (k := 1) rfl hc (by omega) hM hB, c_share (kk := 2) (k := 2) rfl hc (by omega) hM hB]
  generalize eA : shN M c 0 = A at *
  generalize eB : shN M c 1 = Bq at *
  generalize eC : shN M c 2 = C at *
  unfold onesN
  rw [eA, eB, eC, lN_add]
  by_cases c1 : v < A
  · rw [if_neg (fun q => by have := (lc_ge (a := v) (b := A) (by omega) (by omega)).mp q; omega), if_pos c1]
    rfl
  · rw [if_pos ((lc_ge (a := v) (b := A) (by omega) (by omega)).mpr (by omega)), if_neg c1]
    by_cases c2 : v < A + Bq
    · rw [if_neg (fun q => by have := (lc_ge (a := v) (b := A + Bq) (by omega) (by omega)).mp q; omega), if_pos c2]
      rfl
    · rw [if_pos ((lc_ge (a := v) (b := A + Bq) (by omega) (by omega)).mpr (by omega)), if_neg c2, if_neg (show ¬ lg_cmp (lN C) (0 : Int64) ≤ 0 from fun q => by have := (lc_le (a := C) (b := 0) (by omega) (by omega)).mp q; omega), lN_sub (by omega), pk_lDiv (by omega) (by omega) (by omega), Nat.sub_sub]
      congr 1
      exact lN_add 2 _
def riseM (M : Nat → Nat) (i d : Nat) : Nat → Nat := updN M i (M i + (M i + d) / d * 5)
def fallM (M : Nat → Nat) (i d : Nat) : Nat → Nat := updN M i (M i - (M i + d - 2) / d * 2)
theorem MR_upd {mi : Nat → Int64} {M : Nat → Nat} {i x : Nat} (h : MR mi M) : MR (vp_updL mi i (lN x)) (updN M i x) := by
  intro j hj
  unfold updN
  by_cases e : j = i
  · rw [if_pos e, e, pk_uLs]
  · rw [if_neg e, pk_uLn e, h j hj]
theorem kd : ∀ k, k < 3 → Int32.toInt64 (128 >>> (nI k &&& 31)) = lN (128 / 2 ^ k) ∧ ((Int32.toInt64 (7 - nI k) &&& 63).toBitVec.smod 64).toNat = 7 - k ∧ 2 ^ (7 - k) = 128 / 2 ^ k := by decide +kernel
theorem c_rise {c k : Nat} {kk : Int32} (e : kk = nI k) (hc : c < 2) (hk : k < 3) {mi : Nat → Int64} {M : Nat → Nat} (hM : MR mi M) (hb : M (3 * c + k) ≤ 40000000000) : ∃ mi', MR mi' (riseM M (3 * c + k) (128 / 2 ^ k)) ∧ ∀ (β : Type) (K : (Nat → Int64) → β), fn_wk_X5_move mi (nI c) kk 1 β K = K mi' := by
  obtain ⟨k1, k2, k3⟩ := kd k hk
  refine ⟨_, MR_upd hM, fun β K => ?_⟩
  rw [fn_wk_X5_move_s, c_ix rfl e hc, if_neg (nI_pos (by omega)), if_pos (show nI (3 * c + k) < 6 from nI_lt (b := 6) (by omega) (by omega)), if_neg (by decide), nI_clamp (by omega), hM _ (by omega), e, k1, lN_add]
  have hd : 128 / 2 ^ k ≤ 128 := Nat.div_le_self _ _
  rw [pf_shr k2 (by omega), k3]
  repeat rw [fnL_b]
  have h5 : lN ((M (3 * c + k) + 128 / 2 ^ k) / (128 / 2 ^ k)) * 5 = lN ((M (3 * c + k) + 128 / 2 ^ k) / (128 / 2 ^ k) * 5) := lN_mul _ 5
  rw [h5, lN_add]
theorem c_fall {c k : Nat} {kk : Int32} (e : kk = nI k) (hc : c < 2) (hk : k < 3) {mi : Nat → Int64} {M : Nat → Nat} (hM : MR mi M) (hb : M (3 * c + k) ≤ 40000000000) : ∃ mi', MR mi' (fallM M (3 * c + k) (128 / 2 ^ k)) ∧ ∀ (β : Type) (K : (Nat → Int64) → β), fn_wk_X5_move mi (nI c) kk 0 β K = K mi' := by
  obtain ⟨k1, k2, k3⟩ := kd k hk
  refine ⟨_, MR_upd hM, fun β K => ?_⟩
  rw [fn_wk_X5_move_s, c_ix rfl e hc, if_neg (nI_pos (by omega)), if_pos (show nI (3 * c + k) < 6 from nI_lt (b := 6) (by omega) (by omega)), if_pos rfl, nI_clamp (by omega), hM _ (by omega), e, k1, lN_add]
  have hd : 128 / 2 ^ k ≤ 128 := Nat.div_le_self _ _
  have hd2 : 32 ≤ 128 / 2 ^ k := by
    have : k = 0 ∨ k = 1 ∨ k = 2 := by omega
    rcases this with rfl | rfl | rfl <;> decide
  have h2 : lN (M (3 * c + k) + 128 / 2 ^ k) - 2 = lN (M (3 * c + k) + 128 / 2 ^ k - 2) := lN_sub (a := M (3 * c + k) + 128 / 2 ^ k) (b := 2) (by omega)
  rw [h2, pf_shr k2 (by omega), k3]
  repeat rw [fnL_b]
  have h5 : lN ((M (3 * c + k) + 128 / 2 ^ k - 2) / (128 / 2 ^ k)) * 2 = lN ((M (3 * c + k) + 128 / 2 ^ k - 2) / (128 / 2 ^ k) * 2) := lN_mul _ 2
  have hle : (M (3 * c + k) + 128 / 2 ^ k - 2) / (128 / 2 ^ k) * 2 ≤ M (3 * c + k) := by
    have : k = 0 ∨ k = 1 ∨ k = 2 := by omega
    rcases this with rfl | rfl | rfl
    · show (M (3 * c + 0) + 128 - 2) / 128 * 2 ≤ _; omega
    · show (M (3 * c + 1) + 64 - 2) / 64 * 2 ≤ _; omega
    · show (M (3 * c + 2) + 32 - 2) / 32 * 2 ≤ _; omega
  rw [h5, lN_sub hle]
/-- what ONES move -/
def mvM (M : Nat → Nat) (c on : Nat) : Nat → Nat :=
  if on = 0 then fallM M (3 * c + 0) 128
  else if on = 1 then fallM (riseM M (3 * c + 0) 128) (3 * c + 1) 64
  else if on = 2 then fallM (riseM (riseM M (3 * c + 0) 128) (3 * c + 1) 64) (3 * c + 2) 32
  else riseM (riseM (riseM M (3 * c + 0) 128) (3 * c + 1) 64) (3 * c + 2) 32
def loN (M : Nat → Nat) (c on : Nat) : Nat := if on = 0 then 0 else if on = 1 then shN M c 0 else shN M c 0 + shN M c 1 + (on - 2) * shN M c 2
def hiN (M : Nat → Nat) (c on : Nat) : Nat := loN M c on + (if on = 0 then shN M c 0 else if on = 1 then shN M c 1 else shN M c 2) - 1
theorem updN_ne {M : Nat → Nat} {i x j : Nat} (h : j ≠ i) : updN M i x j = M j := if_neg h
theorem updN_eq {M : Nat → Nat} {i x : Nat} : updN M i x i = x := if_pos rfl
theorem MB_fall {M : Nat → Nat} {i d : Nat} (h : MB M) : MB (fallM M i d) := by
  intro j hj
  unfold fallM updN
  have h1 := h j hj
  split
  · rename_i e
    rw [e] at h1
    omega
  · exact h1
theorem MB_rise {M : Nat → Nat} {i d : Nat} (h : MB M) (hd : d = 128 ∨ d = 64 ∨ d = 32) (hi : M i ≤ 34359738368) : MB (riseM M i d) := by
  intro j hj
  unfold riseM updN
  split
  · rcases hd with rfl | rfl | rfl <;> omega
  · exact h j hj
theorem lo_le {M : Nat → Nat} {c on : Nat} (h : loN M c on ≤ 2147483647) (h1 : 1 ≤ on) : M (3 * c + 0) ≤ 34359738368 ∧ (2 ≤ on → M (3 * c + 1) ≤ 34359738368) ∧ (3 ≤ on → M (3 * c + 2) ≤ 34359738368) := by
  unfold loN at h
  rw [if_neg (by omega)] at h
  by_cases e : on = 1
  · rw [if_pos e] at h
    unfold shN at h
    refine ⟨by omega, fun q => by omega, fun q => by omega⟩
  · rw [if_neg e] at h
    have hm : 3 ≤ on → shN M c 2 ≤ (on - 2) * shN M c 2 := fun q => Nat.le_mul_of_pos_left _ (by omega)
    generalize (on - 2) * shN M c 2 = z at h hm
    unfold shN at h hm
    refine ⟨by omega, fun q => by omega, fun q => ?_⟩
    have := hm q
    omega
theorem MB_mv {M : Nat → Nat} {c on : Nat} (hB : MB M) (h : loN M c on ≤ 2147483647) : MB (mvM M c on) := by
  unfold mvM
  by_cases e0 : on = 0
  · rw [if_pos e0]; exact MB_fall hB
  · obtain ⟨a0, a1, a2⟩ := lo_le h (by omega)
    have b0 := MB_rise (i := 3 * c + 0) (d := 128) hB (Or.inl rfl) a0
    rw [if_neg e0]
    by_cases e1 : on = 1
    · rw [if_pos e1]; exact MB_fall b0
    · have b1 := MB_rise (i := 3 * c + 1) (d := 64) b0 (Or.inr (Or.inl rfl)) (by unfold riseM; rw [updN_ne (by omega)]; exact a1 (by omega))
      rw [if_neg e1]
      by_cases e2 : on = 2
      · rw [if_pos e2]; exact MB_fall b1
      · rw [if_neg e2]
        exact MB_rise b1 (Or.inr (Or.inr rfl)) (by unfold riseM; rw [updN_ne (by omega), updN_ne (by omega)]; exact a2 (by omega))
theorem bl_exit {c k on fuel : Nat} (h : 3 ≤ k ∨ on < k) (hk : k ≤ 3) (ho : on < 9223372036854775808) {a b : Int64} {mi : Nat → Int64} {l4 l6 l8 : Int64} {β : Type} {kx : Int64 → Int64 → (Nat → Int64) → Int32 → Int64 → Int64 → Int64 → Int64 → Int32 → β} : lf_wk_X5_bound_103 β kx (fuel + 1) a b mi (nI c) (lN on) l4 l6 l8 (nI k) = kx a b mi (nI c) (lN on) l4 l6 l8 (nI k) := by
  rw [lf_wk_X5_bound_103_s]
  by_cases h3 : 3 ≤ k
  · rw [if_pos (show (3 : Int32) ≤ nI k from nI_le (a := 3) (b := k) h3 (by omega))]
  · rw [if_neg (show ¬ (3 : Int32) ≤ nI k from nI_ge (a := k) (b := 3) (by omega) (by omega)), nI_l (by omega), if_pos ((lc_gt (a := k) (b := on) (by omega) (by omega)).mpr (by omega))]
theorem bl_rise {c k on fuel : Nat} (hc : c < 2) (hk : k < 3) (hko : k < on) (ho : on < 9223372036854775808) {a b : Int64} {mi : Nat → Int64} {M : Nat → Nat} (hM : MR mi M) (hb : M (3 * c + k) ≤ 40000000000) {l4 l6 l8 : Int64} : ∃ mi', MR mi' (riseM M (3 * c + k) (128 / 2 ^ k)) ∧ ∀ (β : Type) (kx : Int64 → Int64 → (Nat → Int64) → Int32 → Int64 → Int64 → Int64 → Int64 → Int32 → β), lf_wk_X5_bound_103 β kx (fuel + 1) a b mi (nI c) (lN on) l4 l6 l8 (nI k) = lf_wk_X5_bound_103 β kx fuel a b mi' (nI c) (lN on) l4 l6 l8 (nI (k + 1)) := by
  obtain ⟨mi', h1, h2⟩ := c_rise (kk := nI k) rfl hc hk hM hb
  refine ⟨mi', h1, fun β kx => ?_⟩
  rw [lf_wk_X5_bound_103_s, if_neg (show ¬ (3 : Int32) ≤ nI k from nI_ge (a := k) (b := 3) (by omega) (by omega)), nI_l (by omega), if_neg (fun q => by have := (lc_gt (a := k) (b := on) (by omega) (by omega)).mp q; omega), if_neg (fun q => by have := (lc_le (a := on) (b := k) (by omega) (by omega)).mp q; omega), h2, nI_1]
theorem bl_fall {c k on fuel : Nat} (hc : c < 2) (hk : k < 3) (hko : k = on) {a b : Int64} {mi : Nat → Int64} {M : Nat → Nat} (hM : MR mi M) (hb : M (3 * c + k) ≤ 40000000000) {l4 l6 l8 : Int64} : ∃ mi', MR mi' (fallM M (3 * c + k) (128 / 2 ^ k)) ∧ ∀ (β : Type) (kx : Int64 → Int64 → (Nat → Int64) → Int32 → Int64 → Int64 → Int64 → Int64 → Int32 → β), lf_wk_X5_bound_103 β kx (fuel + 1) a b mi (nI c) (lN on) l4 l6 l8 (nI k) = lf_wk_X5_bound_103 β kx fuel a b mi' (nI c) (lN on) l4 l6 l8 (nI (k + 1)) := by
  obtain ⟨mi', h1, h2⟩ := c_fall (kk := nI k) rfl hc hk hM hb
  refine ⟨mi', h1, fun β kx => ?_⟩
  rw [lf_wk_X5_bound_103_s, if_neg (show ¬ (3 : Int32) ≤ nI k from nI_ge (a := k) (b := 3) (by omega) (by omega)), nI_l (by omega), if_neg (fun q => by have := (lc_gt (a := k) (b := on) (by omega) (by omega)).mp q; omega), if_pos ((lc_le (a := on) (b := k) (by omega) (by omega)).mpr (by omega)), h2, nI_1]
theorem c_bl {c on : Nat} (hc : c < 2) (ho : on < 9223372036854775808) {a b : Int64} {mi : Nat → Int64} {M : Nat → Nat} (hM : MR mi M) (hB : MB M) {l4 l6 l8 : Int64} : ∃ mi' l10, MR mi' (mvM M c on) ∧ ∀ (β : Type) (kx : Int64 → Int64 → (Nat → Int64) → Int32 → Int64 → Int64 → Int64 → Int64 → Int32 → β), lf_wk_X5_bound_103 β kx 4 a b mi (nI c) (lN on) l4 l6 l8 (nI 0) = kx a b mi' (nI c) (lN on) l4 l6 l8 l10 := by
  have h0 := hB (3 * c + 0) (by omega)
  have h1 := hB (3 * c + 1) (by omega)
  have h2 := hB (3 * c + 2) (by omega)
  unfold mvM
  by_cases e0 : on = 0
  · rw [if_pos e0]
    obtain ⟨m1, a1, b1⟩ := bl_fall (k := 0) (fuel := 3) (a := a) (b := b) (l4 := l4) (l6 := l6) (l8 := l8) hc (by omega) e0.symm hM h0
    exact ⟨m1, nI 1, a1, fun β kx => (b1 β kx).trans (bl_exit (k := 1) (fuel := 2) (by omega) (by omega) ho)⟩
  · rw [if_neg e0]
    obtain ⟨m1, a1, b1⟩ := bl_rise (k := 0) (fuel := 3) (a := a) (b := b) (l4 := l4) (l6 := l6) (l8 := l8) hc (by omega) (by omega) ho hM h0
    have h1' : riseM M (3 * c + 0) (128 / 2 ^ 0) (3 * c + 1) ≤ 40000000000 := by unfold riseM; rw [updN_ne (by omega)]; exact h1
    by_cases e1 : on = 1
    · rw [if_pos e1]
      obtain ⟨m2, a2, b2⟩ := bl_fall (k := 1) (fuel := 2) (a := a) (b := b) (l4 := l4) (l6 := l6) (l8 := l8) hc (by omega) e1.symm a1 h1'
      exact ⟨m2, nI 2, a2, fun β kx => (b1 β kx).trans ((b2 β kx).trans (bl_exit (k := 2) (fuel := 1) (by omega) (by omega) ho))⟩
    · rw [if_neg e1]
      obtain ⟨m2, a2, b2⟩ := bl_rise (k := 1) (fuel := 2) (a := a) (b := b) (l4 := l4) (l6 := l6) (l8 := l8) hc (by omega) (by omega) ho a1 h1'
      have h2' : riseM (riseM M (3 * c + 0) (128 / 2 ^ 0)) (3 * c + 1) (128 / 2 ^ 1) (3 * c + 2) ≤ 40000000000 := by unfold riseM; rw [updN_ne (by omega), updN_ne (by omega)]; exact h2
      by_cases e2 : on = 2
      · rw [if_pos e2]
        obtain ⟨m3, a3, b3⟩ := bl_fall (k := 2) (fuel := 1) (a := a) (b := b) (l4 := l4) (l6 := l6) (l8 := l8) hc (by omega) e2.symm a2 h2'
        exact ⟨m3, nI 3, a3, fun β kx => (b1 β kx).trans ((b2 β kx).trans ((b3 β kx).trans (bl_exit (k := 3) (fuel := 0) (by omega) (by omega) ho)))⟩
      · rw [if_neg e2]
        obtain ⟨m3, a3, b3⟩ := bl_rise (k := 2) (fuel := 1) (a := a) (b := b) (l4 := l4) (l6 := l6) (l8 := l8) hc (by omega) (by omega) ho a2 h2'
        exact ⟨m3, nI 3, a3, fun β kx => (b1 β kx).trans ((b2 β kx).trans ((b3 β kx).trans (bl_exit (k := 3) (fuel := 0) (by omega) (by omega) ho)))⟩
theorem c_bound {c on : Nat} (hc : c < 2) (ho : on ≤ 2147483650) {mi : Nat → Int64} {M : Nat → Nat} (hM : MR mi M) (hB : MB M) : ∃ mi', MR mi' (mvM M c on) ∧ ∀ (β : Type) (K : Int64 → Int64 → (Nat → Int64) → β), fn_wk_X5_bound mi (nI c) (lN on) β K = K (lN (loN M c on)) (lN (hiN M c on)) mi' := by
  have hA := shN_le (c := c) (k := 0) hc (by omega) hB
  have hBb := shN_le (c := c) (k := 1) hc (by omega) hB
  have hC := shN_le (c := c) (k := 2) hc (by omega) hB
  obtain ⟨mi', l10, h1, h2⟩ := c_bl (on := on) (a := lN (loN M c on)) (b := lN (hiN M c on)) (l4 := lN (shN M c 0)) (l6 := lN (shN M c 0) + lN (shN M c 1)) (l8 := lN (shN M c 2)) hc (by omega) hM hB
  refine ⟨mi', h1, fun β K => ?_⟩
  rw [fn_wk_X5_bound_s, c_share (kk := 0) (k := 0) rfl hc (by omega) hM hB, c_share (kk := 1) (k := 1) rfl hc (by omega) hM hB, c_share (kk := 2) (k := 2) rfl hc (by omega) hM hB, show ((Int32.toInt 3 - Int32.toInt 0).toNat + 1) = 4 from by decide]
  by_cases e0 : on = 0
  · rw [if_pos (show lg_cmp (lN on) (0 : Int64) = 0 from (lc_eq (a := on) (b := 0) (by omega) (by omega)).mpr e0)]
    have x1 : (0 : Int64) = lN (loN M c on) := by unfold loN; rw [if_pos e0]; rfl
    have x2 : lN (shN M c 0) - 1 = lN (hiN M c on) := by
      unfold hiN loN
      rw [if_pos e0, if_pos e0]
      have : lN (shN M c 0) - lN 1 = lN (shN M c 0 - 1) := lN_sub (by omega)
      rw [Nat.zero_add]
      exact this
    refine Eq.trans ?_ (h2 β (fun x y z _ _ _ _ _ _ => K x y z))
    rw [← x1, ← x2]
    rfl
  · rw [if_neg (show ¬ lg_cmp (lN on) (0 : Int64) = 0 from fun q => e0 ((lc_eq (a := on) (b := 0) (by omega) (by omega)).mp q))]
    by_cases e1 : on = 1
    · rw [if_pos (show lg_cmp (lN on) (1 : Int64) = 0 from (lc_eq (a := on) (b := 1) (by omega) (by omega)).mpr e1)]
      have x1 : lN (shN M c 0) = lN (loN M c on) := by unfold loN; rw [if_neg e0, if_pos e1]
      have x2 : lN (shN M c 0) + lN (shN M c 1) - 1 = lN (hiN M c on) := by
        unfold hiN loN
        rw [if_neg e0, if_pos e1, if_neg e0, if_pos e1, lN_add]
        exact lN_sub (a := shN M c 0 + shN M c 1) (b := 1) (by omega)
      refine Eq.trans ?_ (h2 β (fun x y z _ _ _ _ _ _ => K x y z))
      rw [← x1, ← x2]
      rfl
    · rw [if_neg (show ¬ lg_cmp (lN on) (1 : Int64) = 0 from fun q => e1 ((lc_eq (a := on) (b := 1) (by omega) (by omega)).mp q))]
      have x1 : (lN (shN M c 0) + lN (shN M c 1)) + ((lN on - 2) * lN (shN M c 2)) = lN (loN M c on) := by
        unfold loN
        rw [if_neg e0, if_neg e1]
        have e2 : lN on - 2 = lN (on - 2) := lN_sub (a := on) (b := 2) (by omega)
        rw [e2, lN_mul, lN_add, lN_add]
      have x2 : lN (loN M c on) + lN (shN M c 2) - 1 = lN (hiN M c on) := by
        unfold hiN
        rw [if_neg e0, if_neg e1, lN_add]
        exact lN_sub (a := loN M c on + shN M c 2) (b := 1) (by omega)
      rw [x1, x2]
      exact h2 β (fun x y z _ _ _ _ _ _ => K x y z)
/-- mid, halve, near -/
def mdN (lo hi : Nat) : Nat := (lo + hi + 1) / 2
theorem lN_mid {lo hi : Nat} (h : lo + hi < 4611686018427387000) : ((lN lo + lN hi) + 1) >>> (Int32.toInt64 1 &&& 63) = lN (mdN lo hi) := by
  rw [lN_add, lN_1]
  exact pf_shr (d := 1) (by decide) (by omega)
theorem c_mid {lo hi : Nat} (h : lo + hi < 4611686018427387000) {β : Type} {K : Int64 → β} : fn_wk_X5_mid (lN lo) (lN hi) β K = K (lN (mdN lo hi)) := by
  rw [fn_wk_X5_mid_s, lN_mid h]
theorem c_halve1 {lo hi : Nat} (h : lo + hi < 4611686018427387000) {β : Type} {K : Int64 → Int64 → β} : fn_wk_X5_halve (lN lo) (lN hi) 1 β K = K (lN (mdN lo hi)) (lN hi) := by
  rw [fn_wk_X5_halve_s, if_neg (by decide), c_mid h]
theorem c_halve0 {lo hi : Nat} (h : lo + hi < 4611686018427387000) (h1 : lo < hi) {β : Type} {K : Int64 → Int64 → β} : fn_wk_X5_halve (lN lo) (lN hi) 0 β K = K (lN lo) (lN (mdN lo hi - 1)) := by
  rw [fn_wk_X5_halve_s, if_pos rfl, c_mid h]
  have e : lN (mdN lo hi) - 1 = lN (mdN lo hi - 1) := lN_sub (a := mdN lo hi) (b := 1) (by unfold mdN; omega)
  rw [e]
/-- V', and REST' -/
def nrN (lo hi : Nat) : Nat := min (mdN lo hi) 2147483647
def rsN (be : Bool) (v : Nat) : Int32 := if be = true then -1 - nI v else nI v
theorem c_near {lo hi : Nat} (h : lo + hi < 4611686018427387000) (be : Bool) {bb : Int32} (hb : bb = if be = true then 1 else 0) {β : Type} {K : Int32 → β} : fn_wk_X5_near (lN lo) (lN hi) bb β K = K (rsN be (nrN lo hi)) := by
  have e : Int64.toInt32 (if 2147483647 < lN (mdN lo hi) then 2147483647 else lN (mdN lo hi)) = nI (nrN lo hi) := by
    have hlt : mdN lo hi < 9223372036854775808 := by unfold mdN; omega
    unfold nrN
    by_cases q : 2147483647 < mdN lo hi
    · rw [if_pos (show (2147483647 : Int64) < lN (mdN lo hi) from (pk_lLT (a := 2147483647) (b := mdN lo hi) (by omega) (by omega)).mpr q), show min (mdN lo hi) 2147483647 = 2147483647 by omega]
      rfl
    · rw [if_neg (show ¬ (2147483647 : Int64) < lN (mdN lo hi) from fun z => q ((pk_lLT (a := 2147483647) (b := mdN lo hi) (by omega) (by omega)).mp z)), show min (mdN lo hi) 2147483647 = mdN lo hi by omega, lN_i]
  rw [fn_wk_X5_near_s, c_mid h, e]
  cases be
  · rw [if_pos (show bb = 0 from hb)]
    rfl
  · rw [if_neg (by rw [hb]; decide)]
    rfl
/-- the reference's bounds -/
def goN (g : Int64) (on : Nat) : Int64 := if lg_cmp (lN on) g ≤ 0 then g else lN on
theorem r_bd {M : Nat → Nat} {c on : Nat} {pm : Int64} {β : Type} {K : Int64 → Nat → Nat → (Nat → Nat) → β} : jf_wr_X11_bounds_45 M c on pm β K = K pm (loN M c on) (hiN M c on) (if loN M c on ≤ 2147483647 then mvM M c on else M) := by
  rw [jf_wr_X11_bounds_45_s]
  by_cases e0 : on = 0
  · subst e0
    rw [if_pos rfl]
    rfl
  · rw [if_neg e0]
    by_cases e1 : on = 1
    · subst e1
      rw [if_pos rfl]
      by_cases h : shN M c 0 ≤ 2147483647
      · refine (if_pos h).trans ?_
        rw [show (if loN M c 1 ≤ 2147483647 then mvM M c 1 else M) = mvM M c 1 from if_pos h]
        rfl
      · refine (if_neg h).trans ?_
        rw [show (if loN M c 1 ≤ 2147483647 then mvM M c 1 else M) = M from if_neg h]
        rfl
    · rw [if_neg e1]
      have x1 : loN M c on = shN M c 0 + shN M c 1 + (on - 2) * shN M c 2 := by unfold loN; rw [if_neg e0, if_neg e1]
      have x2 : hiN M c on = loN M c on + shN M c 2 - 1 := by unfold hiN; rw [if_neg e0, if_neg e1]
      by_cases h : loN M c on ≤ 2147483647
      · rw [if_pos h]
        have h' := h
        rw [x1] at h'
        refine (if_pos h').trans ?_
        have e3 : mvM M c on = if on = 2 then fallM (riseM (riseM M (3 * c + 0) 128) (3 * c + 1) 64) (3 * c + 2) 32 else riseM (riseM (riseM M (3 * c + 0) 128) (3 * c + 1) 64) (3 * c + 2) 32 := by unfold mvM; rw [if_neg e0, if_neg e1]
        rw [e3, x2, x1, fn_wr_X11_rises_0_s, fn_wr_X11_rises_1_s]
        by_cases e2 : on = 2
        · rw [if_pos e2, if_pos e2, fn_wr_X11_falls_2_s]
          rfl
        · rw [if_neg e2, if_neg e2, fn_wr_X11_rises_2_s]
          rfl
      · rw [if_neg h]
        have h' := h
        rw [x1] at h'
        refine (if_neg h').trans ?_
        rw [x2, x1]
        rfl
theorem r_bounds {M : Nat → Nat} {c on : Nat} {g : Int64} {β : Type} {K : Int64 → Nat → Nat → (Nat → Nat) → β} : fn_wr_X11_bounds g M c on β K = K (goN g on) (loN M c on) (hiN M c on) (if loN M c on ≤ 2147483647 then mvM M c on else M) := by
  rw [fn_wr_X11_bounds_s]
  unfold goN
  by_cases h : lg_cmp (lN on) g ≤ 0
  · rw [if_pos h, if_pos h, r_bd]
  · rw [if_neg h, if_neg h, r_bd]
theorem lo_hi {M : Nat → Nat} {c on : Nat} : loN M c on ≤ hiN M c on := by
  unfold hiN
  have h : 1 ≤ (if on = 0 then shN M c 0 else if on = 1 then shN M c 1 else shN M c 2) := by
    split
    · unfold shN; omega
    · split <;> (unfold shN; omega)
  omega
theorem hi_lo {M : Nat → Nat} {c on : Nat} (hc : c < 2) (hB : MB M) : hiN M c on ≤ loN M c on + 2500000000 := by
  unfold hiN
  have h : (if on = 0 then shN M c 0 else if on = 1 then shN M c 1 else shN M c 2) ≤ 2500000001 := by
    split
    · exact (shN_le hc (by omega) hB).1
    · split
      · exact (shN_le hc (by omega) hB).1
      · exact (shN_le hc (by omega) hB).1
  omega
/-- V lies between the bounds of its ONES -/
theorem ones_lo {M : Nat → Nat} {c v : Nat} (hc : c < 2) (hB : MB M) (hv : v < 2147483648) : loN M c (onesN M c v) ≤ v ∧ v ≤ hiN M c (onesN M c v) ∧ onesN M c v ≤ 2147483650 := by
  have hC := shN_le (c := c) (k := 2) hc (by omega) hB
  have hA := shN_le (c := c) (k := 0) hc (by omega) hB
  have hBb := shN_le (c := c) (k := 1) hc (by omega) hB
  unfold hiN loN onesN
  by_cases c1 : v < shN M c 0
  · simp only [if_pos c1, if_true]
    omega
  · by_cases c2 : v < shN M c 0 + shN M c 1
    · simp only [if_neg c1, if_pos c2, if_true, Nat.one_ne_zero, if_false]
      omega
    · simp only [if_neg c1, if_neg c2]
      generalize hz : (v - shN M c 0 - shN M c 1) / shN M c 2 = z
      have hm : z * shN M c 2 ≤ v - shN M c 0 - shN M c 1 := hz ▸ Nat.div_mul_le_self _ _
      have hm2 : v - shN M c 0 - shN M c 1 < (z + 1) * shN M c 2 := by
        rw [← hz, Nat.mul_comm]
        exact Nat.lt_mul_div_succ _ (by omega)
      have hz2 : z ≤ v := by
        rw [← hz]
        exact Nat.le_trans (Nat.div_le_self _ _) (by omega)
      rw [if_neg (by omega), if_neg (by omega), if_neg (by omega), if_neg (by omega), show 2 + z - 2 = z by omega]
      rw [Nat.add_mul] at hm2
      omega
/-- halving: what is written, and the bounds behind it -/
def hvN (E v : Nat) : Nat → Nat → Nat → List Nat × Nat × Nat
  | 0, lo, hi => ([], lo, hi)
  | n + 1, lo, hi => if hi - lo ≤ E then ([], lo, hi) else if v < mdN lo hi then (0 :: (hvN E v n lo (mdN lo hi - 1)).1, (hvN E v n lo (mdN lo hi - 1)).2) else (1 :: (hvN E v n (mdN lo hi) hi).1, (hvN E v n (mdN lo hi) hi).2)
theorem hv_fuel {E v : Nat} : ∀ (n m lo hi : Nat), hi - lo < 2 ^ n → n ≤ m → hvN E v m lo hi = hvN E v n lo hi := by
  intro n
  induction n with
  | zero =>
    intro m lo hi h hm
    cases m with
    | zero => rfl
    | succ m =>
      show (if hi - lo ≤ E then _ else _) = _
      rw [if_pos (by omega)]
      rfl
  | succ n ih =>
    intro m lo hi h hm
    obtain ⟨q, rfl⟩ : ∃ q, m = q + 1 := ⟨m - 1, by omega⟩
    rw [Nat.pow_succ] at h
    show (if hi - lo ≤ E then _ else _) = (if hi - lo ≤ E then _ else _)
    by_cases c : hi - lo ≤ E
    · rw [if_pos c, if_pos c]
    · rw [if_neg c, if_neg c, ih q lo (mdN lo hi - 1) (by unfold mdN; omega) (by omega), ih q (mdN lo hi) hi (by unfold mdN; omega) (by omega)]
