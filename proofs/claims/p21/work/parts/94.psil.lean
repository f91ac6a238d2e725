/-! SILENCE: the reference -/
theorem cy_keeps_2 {f : Nat → Int32} : ∀ (d fuel l : Nat) (p q : Nat → Int32), l + d = 16 → d < fuel → (∀ j, j < l → p j = f j) → ∃ p' : Nat → Int32, (∀ j, j < 16 → p' j = f j) ∧ ∀ (β : Type) (kx : (Nat → Int32) → (Nat → Int32) → Nat → β), lf_wr_X11_keeps_2 f β kx fuel p q l = kx p' q 16 := by
  intro d
  induction d with
  | zero =>
    intro fuel l p q hl hf h
    obtain ⟨z, rfl⟩ : ∃ z, fuel = z + 1 := ⟨fuel - 1, by omega⟩
    have e : l = 16 := by omega
    subst e
    exact ⟨p, h, fun β kx => by rw [lf_wr_X11_keeps_2_s, if_pos (by omega)]⟩
  | succ d ih =>
    intro fuel l p q hl hf h
    obtain ⟨z, rfl⟩ : ∃ z, fuel = z + 1 := ⟨fuel - 1, by omega⟩
    obtain ⟨p', a1, a2⟩ := ih z (l + 1) (upd p l (f l)) q (by omega) (by omega) (fo_step h rfl)
    exact ⟨p', a1, fun β kx => by rw [lf_wr_X11_keeps_2_s, if_neg (by omega)]; exact a2 β kx⟩
theorem cy_keeps_28 {f : Nat → Int32} : ∀ (d fuel l : Nat) (p q : Nat → Int32), l + d = 128 → d < fuel → (∀ j, j < l → q j = f j) → ∃ p' : Nat → Int32, (∀ j, j < 128 → p' j = f j) ∧ ∀ (β : Type) (kx : (Nat → Int32) → (Nat → Int32) → Nat → β), lf_wr_X11_keeps_28 f β kx fuel p q l = kx p p' 128 := by
  intro d
  induction d with
  | zero =>
    intro fuel l p q hl hf h
    obtain ⟨z, rfl⟩ : ∃ z, fuel = z + 1 := ⟨fuel - 1, by omega⟩
    have e : l = 128 := by omega
    subst e
    exact ⟨q, h, fun β kx => by rw [lf_wr_X11_keeps_28_s, if_pos (by omega)]⟩
  | succ d ih =>
    intro fuel l p q hl hf h
    obtain ⟨z, rfl⟩ : ∃ z, fuel = z + 1 := ⟨fuel - 1, by omega⟩
    obtain ⟨p', a1, a2⟩ := ih z (l + 1) p (upd q l (f l)) (by omega) (by omega) (fo_step h rfl)
    exact ⟨p', a1, fun β kx => by rw [lf_wr_X11_keeps_28_s, if_neg (by omega)]; exact a2 β kx⟩
theorem cy_brings_2 {f : Nat → Int32} : ∀ (d fuel l : Nat) (p q : Nat → Int32), l + d = 16 → d < fuel → (∀ j, j < l → p j = f j) → ∃ p' : Nat → Int32, (∀ j, j < 16 → p' j = f j) ∧ ∀ (β : Type) (kx : (Nat → Int32) → (Nat → Int32) → Nat → β), lf_wr_X11_brings_2 f β kx fuel p q l = kx p' q 16 := by
  intro d
  induction d with
  | zero =>
    intro fuel l p q hl hf h
    obtain ⟨z, rfl⟩ : ∃ z, fuel = z + 1 := ⟨fuel - 1, by omega⟩
    have e : l = 16 := by omega
    subst e
    exact ⟨p, h, fun β kx => by rw [lf_wr_X11_brings_2_s, if_pos (by omega)]⟩
  | succ d ih =>
    intro fuel l p q hl hf h
    obtain ⟨z, rfl⟩ : ∃ z, fuel = z + 1 := ⟨fuel - 1, by omega⟩
    obtain ⟨p', a1, a2⟩ := ih z (l + 1) (upd p l (f l)) q (by omega) (by omega) (fo_step h rfl)
    exact ⟨p', a1, fun β kx => by rw [lf_wr_X11_brings_2_s, if_neg (by omega)]; exact a2 β kx⟩
theorem cy_brings_28 {f : Nat → Int32} : ∀ (d fuel l : Nat) (p q : Nat → Int32), l + d = 128 → d < fuel → (∀ j, j < l → q j = f j) → ∃ p' : Nat → Int32, (∀ j, j < 128 → p' j = f j) ∧ ∀ (β : Type) (kx : (Nat → Int32) → (Nat → Int32) → Nat → β), lf_wr_X11_brings_28 f β kx fuel p q l = kx p p' 128 := by
  intro d
  induction d with
  | zero =>
    intro fuel l p q hl hf h
    obtain ⟨z, rfl⟩ : ∃ z, fuel = z + 1 := ⟨fuel - 1, by omega⟩
    have e : l = 128 := by omega
    subst e
    exact ⟨q, h, fun β kx => by rw [lf_wr_X11_brings_28_s, if_pos (by omega)]⟩
  | succ d ih =>
    intro fuel l p q hl hf h
    obtain ⟨z, rfl⟩ : ∃ z, fuel = z + 1 := ⟨fuel - 1, by omega⟩
    obtain ⟨p', a1, a2⟩ := ih z (l + 1) p (upd q l (f l)) (by omega) (by omega) (fo_step h rfl)
    exact ⟨p', a1, fun β kx => by rw [lf_wr_X11_brings_28_s, if_neg (by omega)]; exact a2 β kx⟩
theorem r_keeps {w g kw kg : Nat → Int32} {s : PSt} (hR' : RP w g s) : ∃ kw' kg' : Nat → Int32, RP kw' kg' s ∧ ∀ (β : Type) (K : (Nat → Int32) → (Nat → Int32) → β), fn_wr_X11_keeps w g kw kg β K = K kw' kg' := by
  obtain ⟨p1, a1, a2⟩ := cy_keeps_2 (f := w) 16 17 0 kw kg (by omega) (by omega) (fun j hj => absurd hj (Nat.not_lt_zero _))
  obtain ⟨p2, b1, b2⟩ := cy_keeps_28 (f := g) 128 129 0 p1 kg (by omega) (by omega) (fun j hj => absurd hj (Nat.not_lt_zero _))
  refine ⟨p1, p2, ⟨fun q hq => (a1 q hq).trans (hR'.1 q hq), fun q a hq ha => ?_⟩, fun β K => ?_⟩
  · rw [← hR'.2 q a hq ha]
    exact b1 _ (by omega)
  · rw [fn_wr_X11_keeps_s]
    refine (a2 β _).trans ?_
    exact b2 β _
theorem r_brings {w g kw kg : Nat → Int32} {s : PSt} (hR' : RP kw kg s) : ∃ w' g' : Nat → Int32, RP w' g' s ∧ ∀ (β : Type) (K : (Nat → Int32) → (Nat → Int32) → β), fn_wr_X11_brings w g kw kg β K = K w' g' := by
  obtain ⟨p1, a1, a2⟩ := cy_brings_2 (f := kw) 16 17 0 w g (by omega) (by omega) (fun j hj => absurd hj (Nat.not_lt_zero _))
  obtain ⟨p2, b1, b2⟩ := cy_brings_28 (f := kg) 128 129 0 p1 g (by omega) (by omega) (fun j hj => absurd hj (Nat.not_lt_zero _))
  refine ⟨p1, p2, ⟨fun q hq => (a1 q hq).trans (hR'.1 q hq), fun q a hq ha => ?_⟩, fun β K => ?_⟩
  · rw [← hR'.2 q a hq ha]
    exact b1 _ (by omega)
  · rw [fn_wr_X11_brings_s]
    refine (a2 β _).trans ?_
    exact b2 β _
theorem r_is {nch n f : Nat} {te de T D V kw kg : Nat → Int32} (hnc : nch = 1 ∨ nch = 2) (hP : PV n T) (hTe : ∀ j, j < n → te j = T j) (hDe : ∀ j, j < n → de j = D j) (hK : RP kw kg (tS nch n T D V (f * nch))) : ∀ (d fuel c : Nat) (w g ba gu : Nat → Int32), c + d = nch → d < fuel → RP w g (tS nch n T D V (f * nch + c)) → ∃ w' g' ba' gu' : Nat → Int32, ((∀ c', c ≤ c' → c' < nch → tR nch n T D V (f * nch + c') = 0) ∧ RP w' g' (tS nch n T D V (f * nch + nch)) ∧ ∀ (β : Type) (kx : (Nat → Int32) → (Nat → Int32) → (Nat → Int32) → (Nat → Int32) → (Nat → Int32) → (Nat → Int32) → Nat → β) (k : (Nat → Int32) → (Nat → Int32) → (Nat → Int32) → (Nat → Int32) → (Nat → Int32) → (Nat → Int32) → Int32 → β), lf_wr_X11_isSilent_6 n nch te de V f β kx k fuel g w ba gu kw kg c = kx g' w' ba' gu' kw kg nch) ∨ ((∃ c', c ≤ c' ∧ c' < nch ∧ ¬ tR nch n T D V (f * nch + c') = 0) ∧ RP w' g' (tS nch n T D V (f * nch)) ∧ ∀ (β : Type) (kx : (Nat → Int32) → (Nat → Int32) → (Nat → Int32) → (Nat → Int32) → (Nat → Int32) → (Nat → Int32) → Nat → β) (k : (Nat → Int32) → (Nat → Int32) → (Nat → Int32) → (Nat → Int32) → (Nat → Int32) → (Nat → Int32) → Int32 → β), lf_wr_X11_isSilent_6 n nch te de V f β kx k fuel g w ba gu kw kg c = k w' g' ba' gu' kw kg 0) := by
  intro d
  induction d with
  | zero =>
    intro fuel c w g ba gu hcd hf hR'
    obtain ⟨z, rfl⟩ : ∃ z, fuel = z + 1 := ⟨fuel - 1, by omega⟩
    have e : c = nch := by omega
    subst e
    exact ⟨w, g, ba, gu, Or.inl ⟨fun c' h1 h2 => by omega, hR', fun β kx k => by rw [lf_wr_X11_isSilent_6_s, if_pos (Nat.le_refl _)]⟩⟩
  | succ d ih =>
    intro fuel c w g ba gu hcd hf hR'
    obtain ⟨z, rfl⟩ : ∃ z, fuel = z + 1 := ⟨fuel - 1, by omega⟩
    obtain ⟨ba', gu', a1, a2, a3⟩ := rp_foretell (ba := ba) (gu := gu) hnc (by omega : c < nch) hP hTe hR'
    have et : V (f * nch + c) - gS nch n T c (tS nch n T D V (f * nch + c)) = tR nch n T D V (f * nch + c) := (tR_eq hnc (by omega)).symm
    have ei : (nch * f) + c = f * nch + c := by rw [Nat.mul_comm]
    by_cases h0 : tR nch n T D V (f * nch + c) = 0
    · obtain ⟨w1, g1, x, b1, b2, b3⟩ := rp_learns (nch := nch) (re := 0) (c := c) (by omega) hP hDe hR' a1 a2
      have es := tS_step (n := n) (fr := f) (T := T) (D := D) (V := V) hnc (by omega : c < nch)
      rw [h0] at es
      rw [← es] at b1
      obtain ⟨w2, g2, ba2, gu2, hh⟩ := ih z (c + 1) w1 g1 ba' gu' (by omega) (by omega) b1
      refine ⟨w2, g2, ba2, gu2, ?_⟩
      rcases hh with ⟨h1, h2, h3⟩ | ⟨⟨c', q1, q2, q3⟩, h2, h3⟩
      · refine Or.inl ⟨fun c' k1 k2 => ?_, h2, fun β kx k => ?_⟩
        · by_cases e : c' = c
          · rw [e]; exact h0
          · exact h1 c' (by omega) k2
        · rw [lf_wr_X11_isSilent_6_s, if_neg (by omega), a3]
          repeat rw [fnL_b]
          rw [ei, et, if_pos h0, b3]
          exact h3 β kx k
      · refine Or.inr ⟨⟨c', by omega, q2, q3⟩, h2, fun β kx k => ?_⟩
        rw [lf_wr_X11_isSilent_6_s, if_neg (by omega), a3]
        repeat rw [fnL_b]
        rw [ei, et, if_pos h0, b3]
        exact h3 β kx k
    · obtain ⟨w1, g1, b1, b2⟩ := r_brings (w := w) (g := g) hK
      refine ⟨w1, g1, ba', gu', Or.inr ⟨⟨c, Nat.le_refl _, by omega, h0⟩, b1, fun β kx k => ?_⟩⟩
      rw [lf_wr_X11_isSilent_6_s, if_neg (by omega), a3]
      repeat rw [fnL_b]
      rw [ei, et, if_neg h0, b2]
theorem zf_iff {R : Nat → Int32} {nch f : Nat} (hn : nch = 1 ∨ nch = 2) : zf R nch f = true ↔ ∀ c, 0 ≤ c → c < nch → R (f * nch + c) = 0 := by
  unfold zf
  constructor
  · intro h c _ hc
    rw [Bool.and_eq_true, decide_eq_true_eq] at h
    rcases hn with rfl | rfl
    · rw [show c = 0 by omega]; exact h.1
    · have hc2 : c = 0 ∨ c = 1 := by omega
      rcases hc2 with rfl | rfl
      · exact h.1
      · have := h.2
        rw [Bool.or_eq_true, decide_eq_true_eq, decide_eq_true_eq] at this
        exact this.resolve_left (by omega)
  · intro h
    rw [Bool.and_eq_true, decide_eq_true_eq]
    refine ⟨h 0 (Nat.le_refl _) (by omega), ?_⟩
    rw [Bool.or_eq_true, decide_eq_true_eq, decide_eq_true_eq]
    rcases hn with rfl | rfl
    · exact Or.inl rfl
    · exact Or.inr (h 1 (by omega) (by omega))
theorem r_isSilent {nch n f : Nat} {te de T D V w g ba gu kw kg : Nat → Int32} (hnc : nch = 1 ∨ nch = 2) (hP : PV n T) (hTe : ∀ j, j < n → te j = T j) (hDe : ∀ j, j < n → de j = D j) (hR' : RP w g (tS nch n T D V (f * nch))) : ∃ w' g' ba' gu' kw' kg' : Nat → Int32, RP w' g' (tS nch n T D V (if zf (tR nch n T D V) nch f = true then (f + 1) * nch else f * nch)) ∧ ∀ (β : Type) (K : (Nat → Int32) → (Nat → Int32) → (Nat → Int32) → (Nat → Int32) → (Nat → Int32) → (Nat → Int32) → Int32 → β), fn_wr_X11_isSilent n nch te g w ba gu de V kw kg f β K = K w' g' ba' gu' kw' kg' (if zf (tR nch n T D V) nch f = true then 1 else 0) := by
  obtain ⟨kw', kg', k1, k2⟩ := r_keeps (kw := kw) (kg := kg) hR'
  obtain ⟨w', g', ba', gu', hh⟩ := r_is hnc hP hTe hDe k1 nch 3 0 w g ba gu (by omega) (by omega) hR'
  refine ⟨w', g', ba', gu', kw', kg', ?_, fun β K => ?_⟩
  · rcases hh with ⟨h1, h2, h3⟩ | ⟨⟨c', q1, q2, q3⟩, h2, h3⟩
    · rw [if_pos ((zf_iff hnc).mpr h1), Nat.add_mul, Nat.one_mul]
      exact h2
    · rw [if_neg (fun q => q3 ((zf_iff hnc).mp q c' q1 q2))]
      exact h2
  · rw [fn_wr_X11_isSilent_s, k2]
    rcases hh with ⟨h1, h2, h3⟩ | ⟨⟨c', q1, q2, q3⟩, h2, h3⟩
    · rw [if_pos ((zf_iff hnc).mpr h1)]
      exact h3 β _ _
    · rw [if_neg (fun q => q3 ((zf_iff hnc).mp q c' q1 q2))]
      exact h3 β _ _
theorem r_cnt {nch n F f : Nat} {te de T D V : Nat → Int32} (hnc : nch = 1 ∨ nch = 2) (hP : PV n T) (hTe : ∀ j, j < n → te j = T j) (hDe : ∀ j, j < n → de j = D j) : ∀ (k fuel m : Nat) (kw kg w g ba gu : Nat → Int32), f + m + k = F → k < fuel → RP w g (tS nch n T D V ((f + m) * nch)) → ∃ kw' kg' w' g' ba' gu' : Nat → Int32, RP w' g' (tS nch n T D V ((f + (m + cz (tR nch n T D V) nch k (f + m))) * nch)) ∧ ∀ (β : Type) (kx : (Nat → Int32) → (Nat → Int32) → (Nat → Int32) → (Nat → Int32) → (Nat → Int32) → (Nat → Int32) → Nat → β), lf_wr_X11_codesAll_32 n nch F te de V f β kx fuel kw kg w g ba gu m = kx kw' kg' w' g' ba' gu' (m + cz (tR nch n T D V) nch k (f + m)) := by
  intro k
  induction k with
  | zero =>
    intro fuel m kw kg w g ba gu hm hf hR'
    obtain ⟨z, rfl⟩ : ∃ z, fuel = z + 1 := ⟨fuel - 1, by omega⟩
    exact ⟨kw, kg, w, g, ba, gu, hR', fun β kx => by rw [lf_wr_X11_codesAll_32_s, if_pos (by omega)]; rfl⟩
  | succ k ih =>
    intro fuel m kw kg w g ba gu hm hf hR'
    obtain ⟨z, rfl⟩ : ∃ z, fuel = z + 1 := ⟨fuel - 1, by omega⟩
    obtain ⟨w1, g1, ba1, gu1, kw1, kg1, a1, a2⟩ := r_isSilent (ba := ba) (gu := gu) (kw := kw) (kg := kg) hnc hP hTe hDe hR'
    have ec : cz (tR nch n T D V) nch (k + 1) (f + m) = if zf (tR nch n T D V) nch (f + m) = true then cz (tR nch n T D V) nch k (f + m + 1) + 1 else 0 := rfl
    by_cases zz : zf (tR nch n T D V) nch (f + m) = true
    · rw [if_pos zz] at ec a1
      obtain ⟨kw2, kg2, w2, g2, ba2, gu2, b1, b2⟩ := ih z (m + 1) kw1 kg1 w1 g1 ba1 gu1 (by omega) (by omega) (by rw [show f + (m + 1) = f + m + 1 by omega]; exact a1)
      rw [show f + (m + 1) = f + m + 1 by omega, show m + 1 + cz (tR nch n T D V) nch k (f + m + 1) = m + (cz (tR nch n T D V) nch k (f + m + 1) + 1) by omega] at b1 b2
      refine ⟨kw2, kg2, w2, g2, ba2, gu2, by rw [ec]; exact b1, fun β kx => ?_⟩
      rw [ec, lf_wr_X11_codesAll_32_s, if_neg (by omega), a2, if_pos zz, if_neg (by decide)]
      exact b2 β kx
    · rw [if_neg zz] at ec a1
      refine ⟨kw1, kg1, w1, g1, ba1, gu1, by rw [ec]; exact a1, fun β kx => ?_⟩
      rw [ec, lf_wr_X11_codesAll_32_s, if_neg (by omega), a2, if_neg zz, if_pos rfl]
      rfl
