/-! PASSES as one state; both sides keep to it -/
abbrev PSt : Type := (Nat → Int32) × (Nat → Nat → Int32)
def gS (nch n : Nat) (T : Nat → Int32) (c : Nat) (s : PSt) : Int32 := sSum (sGf nch T s.1 s.2 c) n
def stS (nch n : Nat) (T D : Nat → Int32) (c : Nat) (s : PSt) (re : Int32) : PSt := (sWp (sBf nch T s.2 c) (sGf nch T s.1 s.2 c) D s.1 re n c 0, sHp (sGf nch T s.1 s.2 c) s.2 re n c 0)
def CP (nch n fr c : Nat) (we inp : Nat → Int32) (s : PSt) : Prop := (∀ q, q < 16 → we q = s.1 q) ∧ ∀ q a, q / 2 < n → q % 2 < nch → a < 8 → hC inp fr c q a = s.2 q a
def RP (w g : Nat → Int32) (s : PSt) : Prop := (∀ q, q < 16 → w q = s.1 q) ∧ ∀ q a, q < 16 → a < 8 → hR g q a = s.2 q a
/-- a PLAN that is one: all TERMS are -/
def PV (n : Nat) (T : Nat → Int32) : Prop := n ≤ 8 ∧ ∀ j, j < n → TV (T j)
theorem sBase_congr {nch n p c : Nat} {t : Int32} {H H2 : Nat → Nat → Int32} (hn : nch = 1 ∨ nch = 2) (hp : p < n) (hc : c < nch) (ht : TV t) (h : ∀ q a, q / 2 < n → q % 2 < nch → a < 8 → H q a = H2 q a) : sBase nch t H p c = sBase nch t H2 p c := by
  have h0 : ∀ a, a < 8 → H (2 * p + c) a = H2 (2 * p + c) a := fun a ha => h _ _ (by omega) (by omega) ha
  rcases ht with ⟨k, k1, k8, rfl⟩ | rfl | rfl | rfl | rfl
  · rw [sB_1 rfl (by omega) (by omega), sB_1 rfl (by omega) (by omega), h0 _ (by omega)]
  · rw [sB_17 rfl, sB_17 rfl, h0 0 (by omega), h0 1 (by omega)]
  · rw [sB_18 rfl, sB_18 rfl, h0 0 (by omega), h0 1 (by omega)]
  · rcases hn with rfl | rfl
    · rw [sB_o (by decide) (by decide) (by decide) rfl, sB_o (by decide) (by decide) (by decide) rfl]
    · by_cases hc0 : c = 0
      · rw [sB_p (by decide) (by decide) (by decide) (by omega) hc0, sB_p (by decide) (by decide) (by decide) (by omega) hc0, h _ _ (by omega) (by omega) (by omega)]
      · rw [sB_q (by decide) (by decide) (by decide) (by omega) hc0 rfl, sB_q (by decide) (by decide) (by decide) (by omega) hc0 rfl, h _ _ (by omega) (by omega) (by omega)]
  · rcases hn with rfl | rfl
    · rw [sB_o (by decide) (by decide) (by decide) rfl, sB_o (by decide) (by decide) (by decide) rfl]
    · by_cases hc0 : c = 0
      · rw [sB_p (by decide) (by decide) (by decide) (by omega) hc0, sB_p (by decide) (by decide) (by decide) (by omega) hc0, h _ _ (by omega) (by omega) (by omega)]
      · rw [sB_r (by decide) (by decide) (by decide) (by omega) hc0 (by decide), sB_r (by decide) (by decide) (by decide) (by omega) hc0 (by decide), h _ _ (by omega) (by omega) (by omega)]
theorem sGf_congr {nch n c : Nat} {T T2 w w2 : Nat → Int32} {H H2 : Nat → Nat → Int32} (hn : nch = 1 ∨ nch = 2) (hn8 : n ≤ 8) (hc : c < nch) (hT : ∀ j, j < n → TV (T j)) (hTT : ∀ j, j < n → T j = T2 j) (hw : ∀ q, q < 16 → w q = w2 q) (h : ∀ q a, q / 2 < n → q % 2 < nch → a < 8 → H q a = H2 q a) : (∀ j, j < n → sBf nch T H c j = sBf nch T2 H2 c j) ∧ (∀ j, j < n → sGf nch T w H c j = sGf nch T2 w2 H2 c j) := by
  have h1 : ∀ j, j < n → sBf nch T H c j = sBf nch T2 H2 c j := fun j hj => by
    unfold sBf
    rw [← hTT j hj]
    exact sBase_congr hn hj hc (hT j hj) h
  refine ⟨h1, fun j hj => ?_⟩
  unfold sGf
  rw [h1 j hj, hw _ (by omega)]
theorem cp_foretell {nch fr n c : Nat} {te T we inp ba gu : Nat → Int32} {s : PSt} (hnc : nch = 1 ∨ nch = 2) (hcn : c < nch) (hf : fr < 1000000) (hP : PV n T) (hTe : ∀ j, j < n → te j = T j) (hC' : CP nch n fr c we inp s) : ∃ ba' gu' : Nat → Int32, (∀ j, j < n → ba' j = sBf nch T s.2 c j) ∧ (∀ j, j < n → gu' j = sGf nch T s.1 s.2 c j) ∧ ∀ (β : Type) (K : Int32 → Int32 → (Nat → Int32) → (Nat → Int32) → Int32 → β), fn_wk_X6_foretell (nI nch) n te we inp ba gu (nI fr) (nI c) β K = K (nI fr) (nI c) ba' gu' (gS nch n T c s) := by
  have hT2 : ∀ j, j < n → TV (te j) := fun j hj => by rw [hTe j hj]; exact hP.2 j hj
  obtain ⟨b1, b2⟩ := sGf_congr (T := te) (T2 := T) (w := we) (w2 := s.1) (H := hC inp fr c) (H2 := s.2) hnc hP.1 hcn hT2 hTe hC'.1 hC'.2
  obtain ⟨ba', gu', a1, a2, a3⟩ := c_foretell (te := te) (we := we) (inp := inp) (ba := ba) (gu := gu) hnc hcn hf hP.1 hT2
  refine ⟨ba', gu', fun j hj => (a1 j hj).trans (b1 j hj), fun j hj => (a2 j hj).trans (b2 j hj), fun β K => ?_⟩
  rw [a3]
  unfold gS
  rw [sSum_congr n b2]
theorem cp_learn {nch fr n c : Nat} {de T D we inp ba gu : Nat → Int32} {re : Int32} {s : PSt} (hnc : nch = 1 ∨ nch = 2) (hcn : c < nch) (hf : fr < 1000000) (hP : PV n T) (hDe : ∀ j, j < n → de j = D j) (hC' : CP nch n fr c we inp s) (h1 : ∀ j, j < n → ba j = sBf nch T s.2 c j) (h2 : ∀ j, j < n → gu j = sGf nch T s.1 s.2 c j) : ∃ (we' inp' : Nat → Int32) (x : Int32), CP nch n fr (c + 1) we' inp' (stS nch n T D c s re) ∧ x = sLd (sGf nch T s.1 s.2 c) re n n ∧ ∀ (β : Type) (K : (Nat → Int32) → (Nat → Int32) → Int32 → β), fn_wk_X6_learn (nI fr) (nI c) n de ba gu we inp re β K = K we' inp' x := by
  obtain ⟨we', inp', a1, a2, a3⟩ := c_learn (de := de) (we := we) (inp := inp) (ba := ba) (gu := gu) (re := re) (c := c) (by omega) hP.1 hf
  refine ⟨we', inp', _, ⟨fun q hq => ?_, fun q a hq hq2 ha => ?_⟩, sLd_congr h2 n (Nat.le_refl _), a3⟩
  · rw [a1 q hq]
    exact sWp_congr h1 h2 hDe (hC'.1 q hq)
  · rw [a2 q a hq ha]
    exact sHp_congr h2 (fun a ha => hC'.2 q a hq hq2 ha) ha
theorem CP_next {nch n fr : Nat} {we inp : Nat → Int32} {s : PSt} (h : CP nch n fr nch we inp s) : CP nch n (fr + 1) 0 we inp s := by
  refine ⟨h.1, fun q a hq hq2 ha => ?_⟩
  rw [← h.2 q a hq hq2 ha]
  unfold hC
  rw [if_neg (by omega), if_pos hq2]
theorem rp_foretell {nch n c : Nat} {te T w g ba gu : Nat → Int32} {s : PSt} (hnc : nch = 1 ∨ nch = 2) (hcn : c < nch) (hP : PV n T) (hTe : ∀ j, j < n → te j = T j) (hR' : RP w g s) : ∃ ba' gu' : Nat → Int32, (∀ j, j < n → ba' j = sBf nch T s.2 c j) ∧ (∀ j, j < n → gu' j = sGf nch T s.1 s.2 c j) ∧ ∀ (β : Type) (K : (Nat → Int32) → (Nat → Int32) → Int32 → β), fn_wr_X11_foretells n nch te g w ba gu c β K = K ba' gu' (gS nch n T c s) := by
  have hT2 : ∀ j, j < n → TV (te j) := fun j hj => by rw [hTe j hj]; exact hP.2 j hj
  have h8 := hP.1
  obtain ⟨b1, b2⟩ := sGf_congr (T := te) (T2 := T) (w := w) (w2 := s.1) (H := hR g) (H2 := s.2) hnc hP.1 hcn hT2 hTe hR'.1 (fun q a hq _ ha => hR'.2 q a (by omega) ha)
  obtain ⟨ba', gu', a1, a2, a3⟩ := r_foretells (nch := nch) (c := c) (T := te) (g := g) (w := w) (ba := ba) (gu := gu) hP.1
  refine ⟨ba', gu', fun j hj => (a1 j hj).trans (b1 j hj), fun j hj => (a2 j hj).trans (b2 j hj), fun β K => ?_⟩
  rw [a3]
  unfold gS
  rw [sSum_congr n b2]
theorem rp_learns {nch n c : Nat} {de T D w g ba gu : Nat → Int32} {re : Int32} {s : PSt} (hc : c < 2) (hP : PV n T) (hDe : ∀ j, j < n → de j = D j) (hR' : RP w g s) (h1 : ∀ j, j < n → ba j = sBf nch T s.2 c j) (h2 : ∀ j, j < n → gu j = sGf nch T s.1 s.2 c j) : ∃ (w' g' : Nat → Int32) (x : Int32), RP w' g' (stS nch n T D c s re) ∧ x = sLd (sGf nch T s.1 s.2 c) re n n ∧ ∀ (β : Type) (K : (Nat → Int32) → (Nat → Int32) → Int32 → β), fn_wr_X11_learns n gu ba w de g c re β K = K w' g' x := by
  obtain ⟨w', g', a1, a2, a3⟩ := r_learns (gu := gu) (ba := ba) (D := de) (w := w) (g := g) (re := re) (c := c) hc hP.1
  refine ⟨w', g', _, ⟨fun q hq => ?_, fun q a hq ha => ?_⟩, sLd_congr h2 n (Nat.le_refl _), a3⟩
  · rw [a1 q hq]
    exact sWp_congr h1 h2 hDe (hR'.1 q hq)
  · show g' (8 * q + a) = _
    rw [a2 q a hq ha]
    exact sHp_congr h2 (fun a ha => hR'.2 q a hq ha) ha
