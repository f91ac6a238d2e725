/-! whole frames -/
theorem rs_frl {q k E n nch fr : Nat} {f g te de rte rde T D : Nat → Int32} (hq : q ≤ 48000) (hfg : ∀ j, j < k → nb f j = nb g j) (hk : q ≤ 8 * k) (hnc : nch = 1 ∨ nch = 2) (hE : E ≤ 65535) (hP : PV n T) (hTe : ∀ j, j < n → te j = T j) (hDe : ∀ j, j < n → de j = D j) (hrTe : ∀ j, j < n → rte j = T j) (hrDe : ∀ j, j < n → rde j = D j) (hfr : fr * nch + nch ≤ 1200) : ∀ (d c fuel fuel2 p w10 lo0 hi0 : Nat) (sv sr sp we inp ba gu rw rh rba rgu r41 r47 r48 : Nat → Int32) (M : Nat → Nat) (mi sl r44 r45 r46 : Nat → Int64) (md1 md2 : Int64) (p6 p7 : Int32) (s : PSt), c + d = nch → d < fuel → d < fuel2 → p ≤ q → MR mi M → MB M → w10 < 2147483648 → CP nch n fr c we inp s → RP rw rh s → SR (fr * nch + c) sv sr sl sp r41 r44 r45 r46 r47 r48 → (∃ (p' w' lo' hi' : Nat) (p6' p7' : Int32) (a b : Int64) (mi' sl' r44' r45' r46' : Nat → Int64) (M' : Nat → Nat) (sv' sr' sp' we' inp' ba' gu' rw' rh' rba' rgu' r41' r47' r48' : Nat → Int32) (s' : PSt), p ≤ p' ∧ p' ≤ q ∧ w' < 2147483648 ∧ MR mi' M' ∧ MB M' ∧ CP nch n fr nch we' inp' s' ∧ RP rw' rh' s' ∧ SR (fr * nch + nch) sv' sr' sl' sp' r41' r44' r45' r46' r47' r48' ∧ (∀ (β : Type) (kx : KX β) (k_ : KF β), lf_wk_X3_readFrame_8 f (nI q) nch (nI E) (nI nch) n te de β kx k_ fuel (nI p) 0 sv sr sl sp (nI w10) p6 p7 we inp ba gu md1 md2 mi (nI fr) (nI c) = kx (nI p') 0 sv' sr' sl' sp' (nI w') p6' p7' we' inp' ba' gu' a b mi' (nI fr) (nI nch)) ∧ (∀ (β : Type) (kx : KT β), lf_wr_X11_readsFirst_134 g n nch q E rte rde fr β kx fuel2 (lN w10) lo0 hi0 p 0 rba rgu rw rh M r47 r44 r45 r46 r48 r41 c = kx (lN w') lo' hi' p' 0 rba' rgu' rw' rh' M' r47' r44' r45' r46' r48' r41' nch)) ∨ (∃ fa : Nat, (fa = 4 ∨ fa = 5) ∧ (∃ (b1 b3 w q6 q7 : Int32) (a b : Int64) (m sl' : Nat → Int64) (sv' sr' sp' we' inp' ba' gu' : Nat → Int32), ∀ (β : Type) (kx : KX β) (k_ : KF β), lf_wk_X3_readFrame_8 f (nI q) nch (nI E) (nI nch) n te de β kx k_ fuel (nI p) 0 sv sr sl sp (nI w10) p6 p7 we inp ba gu md1 md2 mi (nI fr) (nI c) = k_ b1 b3 sv' sr' sl' sp' w q6 q7 we' inp' ba' gu' a b m (nI fa)) ∧ (∃ (g27 : Int64) (lo hi b1 l4 : Nat) (M' : Nat → Nat) (rba' rgu' rw' rh' r47' r48' r41' : Nat → Int32) (r44' r45' r46' : Nat → Int64), ∀ (β : Type) (kx : KT β), lf_wr_X11_readsFirst_134 g n nch q E rte rde fr β kx fuel2 (lN w10) lo0 hi0 p 0 rba rgu rw rh M r47 r44 r45 r46 r48 r41 c = kx g27 lo hi b1 fa rba' rgu' rw' rh' M' r47' r44' r45' r46' r48' r41' l4)) := by
  intro d
  induction d with
  | zero =>
    intro c fuel fuel2 p w10 lo0 hi0 sv sr sp we inp ba gu rw rh rba rgu r41 r47 r48 M mi sl r44 r45 r46 md1 md2 p6 p7 s hcd hf hf2 hpq hM hB hw hC' hR' hS
    obtain ⟨z, rfl⟩ : ∃ z, fuel = z + 1 := ⟨fuel - 1, by omega⟩
    obtain ⟨y, rfl⟩ : ∃ y, fuel2 = y + 1 := ⟨fuel2 - 1, by omega⟩
    have e : c = nch := by omega
    subst e
    refine Or.inl ⟨p, w10, lo0, hi0, p6, p7, md1, md2, mi, sl, r44, r45, r46, M, sv, sr, sp, we, inp, ba, gu, rw, rh, rba, rgu, r41, r47, r48, s, Nat.le_refl _, hpq, hw, hM, hB, hC', hR', hS, fun β kx k_ => ?_, fun β kx => ?_⟩
    · rw [lf_wk_X3_readFrame_8_s, if_pos (nI_le (Nat.le_refl _) (by omega))]
    · rw [lf_wr_X11_readsFirst_134_s, if_pos (Nat.le_refl _)]
  | succ d ih =>
    intro c fuel fuel2 p w10 lo0 hi0 sv sr sp we inp ba gu rw rh rba rgu r41 r47 r48 M mi sl r44 r45 r46 md1 md2 p6 p7 s hcd hf hf2 hpq hM hB hw hC' hR' hS
    obtain ⟨z, rfl⟩ : ∃ z, fuel = z + 1 := ⟨fuel - 1, by omega⟩
    obtain ⟨y, rfl⟩ : ∃ y, fuel2 = y + 1 := ⟨fuel2 - 1, by omega⟩
    have hix : nch * fr + c = fr * nch + c := by rw [Nat.mul_comm]
    rcases rs_step (lo0 := lo0) (hi0 := hi0) (sv := sv) (sr := sr) (sp := sp) (sl := sl) (ba := ba) (gu := gu) (rba := rba) (rgu := rgu) (r41 := r41) (r47 := r47) (r48 := r48) (r44 := r44) (r45 := r45) (r46 := r46) (md1 := md1) (md2 := md2) (p6 := p6) (p7 := p7) hq hpq hfg hk hnc (by omega : c < nch) hE hM hB hw hP hTe hDe hrTe hrDe hC' hR' (by omega) with ⟨p', w', lo, hi, be, x, p6', p7', mi', M', we', inp', ba', gu', rw', rh', rba', rgu', s', a1, a2, a3, a4, a5, a6, a7, a8, a9, a10, c1, r1⟩ | ⟨fa, hfa, ⟨b1, b3, w, a, b, m, c1⟩, ⟨b1', lo, hi, g27, M', r47', rba', rgu', r1⟩⟩
    · have hS2 := SR_w (be := be) (x := x) hS a8 a9 a10
      have cc : ∀ (β : Type) (kx : KX β) (k_ : KF β), _ = _ := fun β kx k_ => c1 β kx k_ z
      have rr : ∀ (β : Type) (kx : KT β), lf_wr_X11_readsFirst_134 g n nch q E rte rde fr β kx (y + 1) (lN w10) lo0 hi0 p 0 rba rgu rw rh M r47 r44 r45 r46 r48 r41 c = lf_wr_X11_readsFirst_134 g n nch q E rte rde fr β kx y (lN w') lo hi p' 0 rba' rgu' rw' rh' M' (upd r47 (fr * nch + c) (if be = true then 1 else 0)) (vp_updL r44 (fr * nch + c) (lN lo)) (vp_updL r45 (fr * nch + c) (lN hi)) (vp_updL r46 (fr * nch + c) (lN (nrN lo hi))) (upd r48 (fr * nch + c) 1) (upd r41 (fr * nch + c) x) (c + 1) := fun β kx => by
        rw [lf_wr_X11_readsFirst_134_s, if_neg (by omega), if_pos rfl, hix]
        exact r1 β _
      rcases ih (c + 1) z y p' w' lo hi _ _ _ we' inp' ba' gu' rw' rh' rba' rgu' _ _ _ M' mi' _ _ _ _ (lN lo) (lN hi) p6' p7' s' (by omega) (by omega) (by omega) a2 a4 a5 a3 a6 a7 hS2 with ⟨p2, w2, lo2, hi2, p62, p72, a, b, mi2, sl2, r442, r452, r462, M2, sv2, sr2, sp2, we2, inp2, ba2, gu2, rw2, rh2, rba2, rgu2, r412, r472, r482, s2, b1, b2, b3, b4, b5, b6, b7, b8, c2, r2⟩ | ⟨fa, hfa, ⟨b1, b3, w, q6, q7, a, b, m, sl', sv', sr', sp', we2, inp2, ba2, gu2, c2⟩, ⟨g27, lo2, hi2, b12, l4, M2, rba2, rgu2, rw2, rh2, r472, r482, r412, r442, r452, r462, r2⟩⟩
      · exact Or.inl ⟨p2, w2, lo2, hi2, p62, p72, a, b, mi2, sl2, r442, r452, r462, M2, sv2, sr2, sp2, we2, inp2, ba2, gu2, rw2, rh2, rba2, rgu2, r412, r472, r482, s2, by omega, b2, b3, b4, b5, b6, b7, b8, fun β kx k_ => (cc β kx k_).trans (c2 β kx k_), fun β kx => (rr β kx).trans (r2 β kx)⟩
      · exact Or.inr ⟨fa, hfa, ⟨b1, b3, w, q6, q7, a, b, m, sl', sv', sr', sp', we2, inp2, ba2, gu2, fun β kx k_ => (cc β kx k_).trans (c2 β kx k_)⟩, ⟨g27, lo2, hi2, b12, l4, M2, rba2, rgu2, rw2, rh2, r472, r482, r412, r442, r452, r462, fun β kx => (rr β kx).trans (r2 β kx)⟩⟩
    · refine Or.inr ⟨fa, hfa, ⟨b1, b3, w, p6, p7, a, b, m, sl, sv, sr, sp, we, inp, ba, gu, fun β kx k_ => c1 β kx k_ z⟩, ⟨g27, lo, hi, b1', c + 1, M', rba', rgu', rw, rh, r47', r48, r41, r44, r45, r46, fun β kx => ?_⟩⟩
      rw [lf_wr_X11_readsFirst_134_s, if_neg (by omega), if_pos rfl, hix]
      refine (r1 β _).trans ?_
      obtain ⟨y2, rfl⟩ : ∃ y2, y = y2 + 1 := ⟨y - 1, by omega⟩
      rw [lf_wr_X11_readsFirst_134_s]
      by_cases h3 : nch ≤ c + 1
      · rw [if_pos h3]
      · rw [if_neg h3, if_neg (by omega)]
theorem rs_pol {n nch fr : Nat} {te de rte rde T D : Nat → Int32} {r44 r45 r46 : Nat → Int64} {r47 : Nat → Int32} (hnc : nch = 1 ∨ nch = 2) (hP : PV n T) (hTe : ∀ j, j < n → te j = T j) (hDe : ∀ j, j < n → de j = D j) (hrTe : ∀ j, j < n → rte j = T j) (hrDe : ∀ j, j < n → rde j = D j) (hfr : fr * nch + nch ≤ 1200) : ∀ (d c fuel fuel2 : Nat) (sv sr sp we inp ba gu rw rh rba rgu r41 r48 : Nat → Int32) (sl : Nat → Int64) (p6 p7 : Int32) (s : PSt), c + d = nch → d < fuel → d < fuel2 → CP nch n fr c we inp s → RP rw rh s → SR (fr * nch + c) sv sr sl sp r41 r44 r45 r46 r47 r48 → ∃ (p6' p7' : Int32) (sl' : Nat → Int64) (sv' sr' sp' we' inp' ba' gu' rw' rh' rba' rgu' r41' r48' : Nat → Int32) (s' : PSt), CP nch n fr nch we' inp' s' ∧ RP rw' rh' s' ∧ SR (fr * nch + nch) sv' sr' sl' sp' r41' r44 r45 r46 r47 r48' ∧ (∀ (β : Type) (kx : (Nat → Int32) → (Nat → Int32) → (Nat → Int64) → (Nat → Int32) → Int32 → Int32 → (Nat → Int32) → (Nat → Int32) → (Nat → Int32) → (Nat → Int32) → Int32 → Int32 → β), lf_wk_X3_passFrameOver_2 nch (nI nch) n te de β kx fuel sv sr sl sp p6 p7 we inp ba gu (nI fr) (nI c) = kx sv' sr' sl' sp' p6' p7' we' inp' ba' gu' (nI fr) (nI nch)) ∧ (∀ (β : Type) (kx : (Nat → Int32) → (Nat → Int32) → (Nat → Int32) → (Nat → Int32) → (Nat → Int32) → (Nat → Int32) → Nat → β), lf_wr_X11_passesOver_2 n nch rte rde fr β kx fuel2 rh rw rba rgu r41 r48 c = kx rh' rw' rba' rgu' r41' r48' nch) := by
  intro d
  induction d with
  | zero =>
    intro c fuel fuel2 sv sr sp we inp ba gu rw rh rba rgu r41 r48 sl p6 p7 s hcd hf hf2 hC' hR' hS
    obtain ⟨z, rfl⟩ : ∃ z, fuel = z + 1 := ⟨fuel - 1, by omega⟩
    obtain ⟨y, rfl⟩ : ∃ y, fuel2 = y + 1 := ⟨fuel2 - 1, by omega⟩
    have e : c = nch := by omega
    subst e
    refine ⟨p6, p7, sl, sv, sr, sp, we, inp, ba, gu, rw, rh, rba, rgu, r41, r48, s, hC', hR', hS, fun β kx => ?_, fun β kx => ?_⟩
    · rw [lf_wk_X3_passFrameOver_2_s, if_pos (nI_le (Nat.le_refl _) (by omega))]
    · rw [lf_wr_X11_passesOver_2_s, if_pos (Nat.le_refl _)]
  | succ d ih =>
    intro c fuel fuel2 sv sr sp we inp ba gu rw rh rba rgu r41 r48 sl p6 p7 s hcd hf hf2 hC' hR' hS
    obtain ⟨z, rfl⟩ : ∃ z, fuel = z + 1 := ⟨fuel - 1, by omega⟩
    obtain ⟨y, rfl⟩ : ∃ y, fuel2 = y + 1 := ⟨fuel2 - 1, by omega⟩
    have hcn : c < nch := by omega
    have hfr2 : fr < 1000000 := by
      have : fr * 1 ≤ fr * nch := Nat.mul_le_mul_left _ (by omega)
      omega
    have hix : nch * fr + c = fr * nch + c := by rw [Nat.mul_comm]
    obtain ⟨rba', rgu', q1, q2, q3⟩ := rp_foretell (ba := rba) (gu := rgu) hnc hcn hP hrTe hR'
    obtain ⟨ba', gu', f1, f2, f3⟩ := cp_foretell (ba := ba) (gu := gu) hnc hcn hfr2 hP hTe hC'
    obtain ⟨we', inp', x, l1, l2, l3⟩ := cp_learn (re := 0) hnc hcn hfr2 hP hDe hC' f1 f2
    obtain ⟨rw', rh', x2, t1, t2, t3⟩ := rp_learns (nch := nch) (re := 0) (by omega : c < 2) hP hrDe hR' q1 q2
    have ey : x2 = x := by rw [t2, l2]
    obtain ⟨p62, p72, sl2, sv2, sr2, sp2, we2, inp2, ba2, gu2, rw2, rh2, rba2, rgu2, r412, r482, s2, b1, b2, b3, c2, r2⟩ := ih (c + 1) z y _ _ _ we' inp' ba' gu' rw' rh' rba' rgu' _ _ _ (nI fr) (nI c) _ (by omega) (by omega) (by omega) l1 t1 (SR_n (x := x) hS)
    refine ⟨p62, p72, sl2, sv2, sr2, sp2, we2, inp2, ba2, gu2, rw2, rh2, rba2, rgu2, r412, r482, s2, b1, b2, b3, fun β kx => ?_, fun β kx => ?_⟩
    · rw [lf_wk_X3_passFrameOver_2_s, if_neg (nI_ge hcn (by omega)), nI_ix]
      refine (f3 β _).trans ?_
      refine (l3 β _).trans ?_
      refine (c_putRead (lo := 0) (hi := 0) (by omega) (Nat.le_refl _)).trans ?_
      rw [nI_1]
      exact c2 β kx
    · rw [lf_wr_X11_passesOver_2_s, if_neg (by omega), hix]
      refine (q3 β _).trans ?_
      refine (t3 β _).trans ?_
      rw [ey]
      exact r2 β kx
