/-! all RESTS ahead (no error): the class; SILENCE: the reference -/
def tS (nch n : Nat) (T D V : Nat → Int32) : Nat → PSt
  | 0 => (fun _ => 0, fun _ _ => 0)
  | i + 1 => stS nch n T D (i % nch) (tS nch n T D V i) (V i - gS nch n T (i % nch) (tS nch n T D V i))
def tR (nch n : Nat) (T D V : Nat → Int32) (i : Nat) : Int32 := V i - gS nch n T (i % nch) (tS nch n T D V i)
theorem ix_mod {nch fr c : Nat} (hn : nch = 1 ∨ nch = 2) (hc : c < nch) : (fr * nch + c) % nch = c := by
  rcases hn with rfl | rfl <;> omega
theorem tS_step {nch n fr c : Nat} {T D V : Nat → Int32} (hn : nch = 1 ∨ nch = 2) (hc : c < nch) : tS nch n T D V (fr * nch + (c + 1)) = stS nch n T D c (tS nch n T D V (fr * nch + c)) (tR nch n T D V (fr * nch + c)) := by
  show stS nch n T D ((fr * nch + c) % nch) (tS nch n T D V (fr * nch + c)) (V (fr * nch + c) - gS nch n T ((fr * nch + c) % nch) (tS nch n T D V (fr * nch + c))) = _
  unfold tR
  rw [ix_mod hn hc]
theorem tR_eq {nch n fr c : Nat} {T D V : Nat → Int32} (hn : nch = 1 ∨ nch = 2) (hc : c < nch) : tR nch n T D V (fr * nch + c) = V (fr * nch + c) - gS nch n T c (tS nch n T D V (fr * nch + c)) := by
  unfold tR
  rw [ix_mod hn hc]
theorem has1 {i : Nat} (h : i < 1200) : ¬ hasI (nI i) = 0 := by
  unfold hasI
  rw [if_neg (nI_pos (by omega)), if_neg (show ¬ (1200 : Int32) ≤ nI i from nI_ge (a := i) (b := 1200) (by omega) (by omega))]
  decide
theorem c_valueAt {i : Nat} {sv : Nat → Int32} (h : i < 1200) {β : Type} {K : Int32 → β} : fn_wk_X8_valueAt sv (nI i) β K = K (sv i) := by
  rw [fn_wk_X8_valueAt_s, if_neg (has1 h), nI_clamp (by omega)]
theorem c_restAt {i : Nat} {sr : Nat → Int32} (h : i < 1200) {β : Type} {K : Int32 → β} : fn_wk_X8_restAt sr (nI i) β K = K (sr i) := by
  rw [fn_wk_X8_restAt_s, if_neg (has1 h), nI_clamp (by omega)]
theorem c_putRest {i : Nat} {sr : Nat → Int32} {re : Int32} (h : i < 1200) {β : Type} {K : (Nat → Int32) → β} : fn_wk_X8_putRest sr (nI i) re β K = K (upd sr i re) := by
  rw [fn_wk_X8_putRest_s, if_neg (has1 h), nI_clamp (by omega)]
theorem nI_ix (fr nch c : Nat) : (nI fr * nI nch) + nI c = nI (fr * nch + c) := by rw [pk_mul, nI_add]
theorem c_fa12 {nch n fr : Nat} {sv te de T D : Nat → Int32} (hnc : nch = 1 ∨ nch = 2) (hP : PV n T) (hTe : ∀ j, j < n → te j = T j) (hDe : ∀ j, j < n → de j = D j) (hfr : fr * nch + nch ≤ 1200) : ∀ (d fuel c : Nat) (sr we inp ba gu : Nat → Int32) (p6 p7 : Int32), c + d = nch → d < fuel → CP nch n fr c we inp (tS nch n T D sv (fr * nch + c)) → (∀ j, j < fr * nch + c → sr j = tR nch n T D sv j) → ∃ (sr' we' inp' ba' gu' : Nat → Int32) (p6' p7' : Int32), CP nch n fr nch we' inp' (tS nch n T D sv (fr * nch + nch)) ∧ (∀ j, j < fr * nch + nch → sr' j = tR nch n T D sv j) ∧ ∀ (β : Type) (kx : (Nat → Int32) → Int32 → Int32 → (Nat → Int32) → (Nat → Int32) → (Nat → Int32) → (Nat → Int32) → Int32 → β), lf_wk_X4_foretellAll_12 sv nch (nI nch) n te de (nI fr) β kx fuel sr p6 p7 we inp ba gu (nI c) = kx sr' p6' p7' we' inp' ba' gu' (nI nch) := by
  intro d
  induction d with
  | zero =>
    intro fuel c sr we inp ba gu p6 p7 hcd hf hC' hsr
    obtain ⟨q, rfl⟩ : ∃ q, fuel = q + 1 := ⟨fuel - 1, by omega⟩
    have e : c = nch := by omega
    subst e
    exact ⟨sr, we, inp, ba, gu, p6, p7, hC', hsr, fun β kx => by rw [lf_wk_X4_foretellAll_12_s, if_pos (nI_le (Nat.le_refl _) (by omega))]⟩
  | succ d ih =>
    intro fuel c sr we inp ba gu p6 p7 hcd hf hC' hsr
    obtain ⟨q, rfl⟩ : ∃ q, fuel = q + 1 := ⟨fuel - 1, by omega⟩
    have hfr2 : fr < 1000000 := by
      have : fr * 1 ≤ fr * nch := Nat.mul_le_mul_left _ (by omega)
      omega
    obtain ⟨ba', gu', a1, a2, a3⟩ := cp_foretell (ba := ba) (gu := gu) hnc (by omega : c < nch) hfr2 hP hTe hC'
    obtain ⟨we', inp', x, b1, b2, b3⟩ := cp_learn (re := sv (fr * nch + c) - gS nch n T c (tS nch n T D sv (fr * nch + c))) hnc (by omega : c < nch) hfr2 hP hDe hC' a1 a2
    have et : sv (fr * nch + c) - gS nch n T c (tS nch n T D sv (fr * nch + c)) = tR nch n T D sv (fr * nch + c) := (tR_eq hnc (by omega)).symm
    rw [et, ← tS_step hnc (by omega)] at b1
    obtain ⟨sr2, we2, inp2, ba2, gu2, q6, q7, c1, c2, c3⟩ := ih q (c + 1) (upd sr (fr * nch + c) (tR nch n T D sv (fr * nch + c))) we' inp' ba' gu' (nI fr) (nI c) (by omega) (by omega) b1 (fun j hj => by
      by_cases e : j = fr * nch + c
      · rw [e, pk_us]
      · rw [pk_un e]
        exact hsr j (by omega))
    refine ⟨sr2, we2, inp2, ba2, gu2, q6, q7, c1, c2, fun β kx => ?_⟩
    rw [lf_wk_X4_foretellAll_12_s, if_neg (nI_ge (by omega) (by omega)), nI_ix, c_valueAt (by omega), a3, b3, c_putRest (by omega), et, nI_1]
    exact c3 β kx
theorem c_fa2 {nch n F : Nat} {sv te de T D : Nat → Int32} (hnc : nch = 1 ∨ nch = 2) (hP : PV n T) (hTe : ∀ j, j < n → te j = T j) (hDe : ∀ j, j < n → de j = D j) (hF : F * nch ≤ 1200) : ∀ (d fuel fr : Nat) (sr we inp ba gu : Nat → Int32) (p6 p7 : Int32), fr + d = F → d < fuel → CP nch n fr 0 we inp (tS nch n T D sv (fr * nch)) → (∀ j, j < fr * nch → sr j = tR nch n T D sv j) → ∃ (sr' we' inp' ba' gu' : Nat → Int32) (p6' p7' : Int32), CP nch n F 0 we' inp' (tS nch n T D sv (F * nch)) ∧ (∀ j, j < F * nch → sr' j = tR nch n T D sv j) ∧ ∀ (β : Type) (kx : (Nat → Int32) → Int32 → Int32 → (Nat → Int32) → (Nat → Int32) → (Nat → Int32) → (Nat → Int32) → Int32 → β), lf_wk_X4_foretellAll_2 sv nch F (nI nch) n te de β kx fuel sr p6 p7 we inp ba gu (nI fr) = kx sr' p6' p7' we' inp' ba' gu' (nI F) := by
  have hF1 : F ≤ 1200 := by
    have : F * 1 ≤ F * nch := Nat.mul_le_mul_left _ (by omega)
    omega
  intro d
  induction d with
  | zero =>
    intro fuel fr sr we inp ba gu p6 p7 hcd hf hC' hsr
    obtain ⟨q, rfl⟩ : ∃ q, fuel = q + 1 := ⟨fuel - 1, by omega⟩
    have e : fr = F := by omega
    subst e
    exact ⟨sr, we, inp, ba, gu, p6, p7, hC', hsr, fun β kx => by rw [lf_wk_X4_foretellAll_2_s, if_pos (nI_le (Nat.le_refl _) (by omega))]⟩
  | succ d ih =>
    intro fuel fr sr we inp ba gu p6 p7 hcd hf hC' hsr
    obtain ⟨q, rfl⟩ : ∃ q, fuel = q + 1 := ⟨fuel - 1, by omega⟩
    have hm : (fr + 1) * nch ≤ F * nch := Nat.mul_le_mul_right _ (by omega)
    rw [Nat.add_mul, Nat.one_mul] at hm
    obtain ⟨sr1, we1, inp1, ba1, gu1, q6, q7, a1, a2, a3⟩ := c_fa12 (sv := sv) hnc hP hTe hDe (fr := fr) (by omega) nch (nch + 1) 0 sr we inp ba gu p6 p7 (by omega) (by omega) hC' hsr
    have e1 : fr * nch + nch = (fr + 1) * nch := by rw [Nat.add_mul, Nat.one_mul]
    rw [e1] at a1 a2
    obtain ⟨sr2, we2, inp2, ba2, gu2, r6, r7, b1, b2, b3⟩ := ih q (fr + 1) sr1 we1 inp1 ba1 gu1 q6 q7 (by omega) (by omega) (CP_next a1) a2
    refine ⟨sr2, we2, inp2, ba2, gu2, r6, r7, b1, b2, fun β kx => ?_⟩
    rw [lf_wk_X4_foretellAll_2_s, if_neg (nI_ge (by omega) (by omega)), fu_n (by omega)]
    refine (a3 β _).trans ?_
    rw [nI_1]
    exact b3 β kx
theorem c_foretellAll {nch n F : Nat} {sv te de T D sr we inp ba gu : Nat → Int32} {p6 p7 : Int32} (hnc : nch = 1 ∨ nch = 2) (hP : PV n T) (hTe : ∀ j, j < n → te j = T j) (hDe : ∀ j, j < n → de j = D j) (hF : F * nch ≤ 1200) (hC' : CP nch n 0 0 we inp (fun _ => 0, fun _ _ => 0)) : ∃ (sr' we' inp' ba' gu' : Nat → Int32) (p6' p7' : Int32), CP nch n F 0 we' inp' (tS nch n T D sv (F * nch)) ∧ (∀ j, j < F * nch → sr' j = tR nch n T D sv j) ∧ ∀ (β : Type) (K : (Nat → Int32) → Int32 → Int32 → (Nat → Int32) → (Nat → Int32) → (Nat → Int32) → (Nat → Int32) → β), fn_wk_X4_foretellAll sv nch F (nI nch) n te de sr p6 p7 we inp ba gu β K = K sr' p6' p7' we' inp' ba' gu' := by
  have hF1 : F ≤ 1200 := by
    have : F * 1 ≤ F * nch := Nat.mul_le_mul_left _ (by omega)
    omega
  obtain ⟨sr2, we2, inp2, ba2, gu2, r6, r7, b1, b2, b3⟩ := c_fa2 (sv := sv) hnc hP hTe hDe hF F (F + 1) 0 sr we inp ba gu p6 p7 (by omega) (by omega) (by rw [Nat.zero_mul]; exact hC') (fun j hj => absurd hj (by omega))
  refine ⟨sr2, we2, inp2, ba2, gu2, r6, r7, b1, b2, fun β K => ?_⟩
  rw [fn_wk_X4_foretellAll_s, fu_n (by omega)]
  exact b3 β _
/-- a FRAME of RESTS of 0 alone -/
def zf (R : Nat → Int32) (nch f : Nat) : Bool := decide (R (f * nch) = 0) && (decide (nch = 1) || decide (R (f * nch + 1) = 0))
theorem c_still {nch f : Nat} {sr : Nat → Int32} (hnc : nch = 1 ∨ nch = 2) (hf : f * nch + nch ≤ 1200) {β : Type} {K : Int32 → β} : fn_wk_X4_isStill sr nch (nI f) β K = K (if zf sr nch f = true then 1 else 0) := by
  have h0 : ∀ (c fuel : Nat) (kx : Int32 → Int32 → β) (k : Int32 → β), c < nch → lf_wk_X4_isStill_2 sr nch β kx k (fuel + 1) (nI f) (nI c) = if sr (f * nch + c) = 0 then lf_wk_X4_isStill_2 sr nch β kx k fuel (nI f) (nI (c + 1)) else k 0 := fun c fuel kx k hc => by
    rw [lf_wk_X4_isStill_2_s, if_neg (nI_ge (by omega) (by omega)), nI_ix, c_restAt (by omega), nI_1]
  have h1 : ∀ (fuel : Nat) (kx : Int32 → Int32 → β) (k : Int32 → β), lf_wk_X4_isStill_2 sr nch β kx k (fuel + 1) (nI f) (nI nch) = kx (nI f) (nI nch) := fun fuel kx k => by
    rw [lf_wk_X4_isStill_2_s, if_pos (nI_le (Nat.le_refl _) (by omega))]
  rw [fn_wk_X4_isStill_s, fu_n (by omega)]
  rcases hnc with rfl | rfl
  · refine (h0 0 1 _ _ (by omega)).trans ?_
    unfold zf
    by_cases e : sr (f * 1) = 0
    · refine (if_pos e).trans ?_
      refine (h1 0 _ _).trans ?_
      rw [Nat.mul_one] at e
      simp [e]
    · refine (if_neg e).trans ?_
      rw [Nat.mul_one] at e
      simp [e]
  · refine (h0 0 2 _ _ (by omega)).trans ?_
    unfold zf
    by_cases e : sr (f * 2) = 0
    · refine (if_pos e).trans ?_
      refine (h0 1 1 _ _ (by omega)).trans ?_
      by_cases e2 : sr (f * 2 + 1) = 0
      · refine (if_pos e2).trans ?_
        refine (h1 0 _ _).trans ?_
        simp [e, e2]
      · refine (if_neg e2).trans ?_
        simp [e, e2]
    · refine (if_neg e).trans ?_
      simp [e]
/-- how many FRAMES from f on, up to F -/
def cz (R : Nat → Int32) (nch : Nat) : Nat → Nat → Nat
  | 0, _ => 0
  | k + 1, f => if zf R nch f = true then cz R nch k (f + 1) + 1 else 0
theorem cz_le {R : Nat → Int32} {nch : Nat} : ∀ (k f : Nat), cz R nch k f ≤ k := by
  intro k
  induction k with
  | zero => intro f; exact Nat.le_refl _
  | succ k ih =>
    intro f
    show (if zf R nch f = true then cz R nch k (f + 1) + 1 else 0) ≤ _
    split
    · exact Nat.succ_le_succ (ih _)
    · exact Nat.zero_le _
theorem zf_congr {R S : Nat → Int32} {nch f : Nat} (hn : nch = 1 ∨ nch = 2) (h : ∀ j, j < f * nch + nch → R j = S j) : zf R nch f = zf S nch f := by
  unfold zf
  rw [h (f * nch) (by omega)]
  rcases hn with rfl | rfl
  · rfl
  · rw [h (f * 2 + 1) (by omega)]
theorem cz_congr {R S : Nat → Int32} {nch F : Nat} (hn : nch = 1 ∨ nch = 2) (h : ∀ j, j < F * nch → R j = S j) : ∀ (k f : Nat), f + k = F → cz R nch k f = cz S nch k f := by
  intro k
  induction k with
  | zero => intro f _; rfl
  | succ k ih =>
    intro f hf
    have hm : (f + 1) * nch ≤ F * nch := Nat.mul_le_mul_right _ (by omega)
    rw [Nat.add_mul, Nat.one_mul] at hm
    show (if zf R nch f = true then cz R nch k (f + 1) + 1 else 0) = (if zf S nch f = true then cz S nch k (f + 1) + 1 else 0)
    rw [zf_congr hn (fun j hj => h j (by omega)), ih (f + 1) (by omega)]
theorem c_sfl {nch F f : Nat} {sr : Nat → Int32} (hnc : nch = 1 ∨ nch = 2) (hF : F * nch ≤ 1200) : ∀ (k fuel m : Nat), f + m + k = F → k < fuel → ∀ (β : Type) (kx : Int32 → Int32 → β), lf_wk_X4_stillFrames_2 sr nch F β kx fuel (nI f) (nI m) = kx (nI f) (nI (m + cz sr nch k (f + m))) := by
  have hF1 : F ≤ 1200 := by
    have : F * 1 ≤ F * nch := Nat.mul_le_mul_left _ (by omega)
    omega
  intro k
  induction k with
  | zero =>
    intro fuel m hm hf β kx
    obtain ⟨q, rfl⟩ : ∃ q, fuel = q + 1 := ⟨fuel - 1, by omega⟩
    rw [lf_wk_X4_stillFrames_2_s, nI_add, if_pos (nI_le (by omega) (by omega))]
    rfl
  | succ k ih =>
    intro fuel m hm hf β kx
    obtain ⟨q, rfl⟩ : ∃ q, fuel = q + 1 := ⟨fuel - 1, by omega⟩
    have hmm : (f + m + 1) * nch ≤ F * nch := Nat.mul_le_mul_right _ (by omega)
    rw [Nat.add_mul (f + m), Nat.one_mul] at hmm
    rw [lf_wk_X4_stillFrames_2_s, nI_add, if_neg (nI_ge (by omega) (by omega)), c_still hnc (by omega)]
    show _ = kx (nI f) (nI (m + (if zf sr nch (f + m) = true then cz sr nch k (f + m + 1) + 1 else 0)))
    by_cases z : zf sr nch (f + m) = true
    · rw [if_pos z, if_pos z, if_neg (by decide), nI_1, ih q (m + 1) (by omega) (by omega) β kx, show f + (m + 1) = f + m + 1 by omega, show m + 1 + cz sr nch k (f + m + 1) = m + (cz sr nch k (f + m + 1) + 1) by omega]
    · rw [if_neg z, if_neg z, if_pos rfl]
      rfl
theorem c_stillFrames {nch F f : Nat} {sr : Nat → Int32} (hnc : nch = 1 ∨ nch = 2) (hF : F * nch ≤ 1200) (hf : f ≤ F) {β : Type} {K : Int32 → β} : fn_wk_X4_stillFrames sr nch F (nI f) β K = K (nI (cz sr nch (F - f) f)) := by
  have hF1 : F ≤ 1200 := by
    have : F * 1 ≤ F * nch := Nat.mul_le_mul_left _ (by omega)
    omega
  have e : (Int32.toInt (nI F) - Int32.toInt (nI f + 0)).toNat = F - f := by
    have e0 : nI f + 0 = nI (f + 0) := nI_add f 0
    rw [e0, nI_toInt (by omega), nI_toInt (by omega)]
    omega
  rw [fn_wk_X4_stillFrames_s, e]
  have := c_sfl (f := f) (sr := sr) hnc hF (F - f) (F - f + 1) 0 (by omega) (by omega) β (fun _ y => K y)
  rw [Nat.zero_add, Nat.add_zero] at this
  exact this
