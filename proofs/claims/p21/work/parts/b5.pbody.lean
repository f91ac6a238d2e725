/-! the bits of the first stream, all frames: both sides -/
abbrev KXB (β : Type) : Type := Int32 → Int32 → (Nat → Int32) → (Nat → Int32) → (Nat → Int64) → (Nat → Int32) → Int32 → Int32 → Int32 → Int32 → Int32 → (Nat → Int32) → (Nat → Int32) → (Nat → Int32) → (Nat → Int32) → Int64 → Int64 → (Nat → Int64) → Int64 → Int32 → Int32 → β
abbrev KFB (β : Type) : Type := Int32 → Int32 → (Nat → Int32) → (Nat → Int32) → (Nat → Int64) → (Nat → Int32) → Int32 → Int32 → Int32 → Int32 → Int32 → (Nat → Int32) → (Nat → Int32) → (Nat → Int32) → (Nat → Int32) → Int64 → Int64 → (Nat → Int64) → Int32 → β
abbrev KTB (β : Type) : Type := Int32 → Int32 → Int64 → Nat → Nat → Nat → Nat → (Nat → Int32) → (Nat → Int32) → (Nat → Int32) → (Nat → Int32) → (Nat → Nat) → (Nat → Int32) → (Nat → Int64) → (Nat → Int64) → (Nat → Int64) → (Nat → Int32) → (Nat → Int32) → Nat → Nat → β
abbrev KRB (β : Type) : Type := Int32 → Int32 → Nat → Nat → Nat → Nat → Nat → Nat → Nat → Nat → Nat → Int64 → Int32 → Int32 → (Nat → Int32) → (Nat → Int32) → (Nat → Int32) → (Nat → Int32) → (Nat → Int32) → (Nat → Int32) → (Nat → Nat) → (Nat → Int32) → (Nat → Int64) → (Nat → Int64) → (Nat → Int64) → (Nat → Int32) → (Nat → Int32) → Int32 → β
def BS (q n nch fr p w10 : Nat) (sv sr sp we inp rw rh r41 r47 r48 : Nat → Int32) (M : Nat → Nat) (mi sl r44 r45 r46 : Nat → Int64) : Prop := p ≤ q ∧ MR mi M ∧ MB M ∧ w10 < 2147483648 ∧ SR (fr * nch) sv sr sl sp r41 r44 r45 r46 r47 r48 ∧ ∃ s : PSt, CP nch n fr 0 we inp s ∧ RP rw rh s
def BD (f g te de rte rde : Nat → Int32) (q E n nch F : Nat) (x37 x39 : Int32) (fuel fuel2 fr b p w10 lo0 hi0 : Nat) (l2 : Int64) (w8 w9 : Int32) (sv sr sp we inp ba gu rw rh rba rgu r41 r47 r48 : Nat → Int32) (M : Nat → Nat) (mi sl r44 r45 r46 : Nat → Int64) (md1 md2 : Int64) (p6 p7 : Int32) : Prop := (∃ (p' w' lo' hi' : Nat) (w8' w9' p6' p7' : Int32) (a b' : Int64) (mi' sl' r44' r45' r46' : Nat → Int64) (M' : Nat → Nat) (sv' sr' sp' we' inp' ba' gu' rw' rh' rba' rgu' r41' r47' r48' : Nat → Int32), BS q n nch F p' w' sv' sr' sp' we' inp' rw' rh' r41' r47' r48' M' mi' sl' r44' r45' r46' ∧ (∃ (l2' : Int64) (l4' l5' : Int32), ∀ (β : Type) (kx : KXB β) (k_ : KFB β), lf_wk_X3_readBody_8 f (nI q) nch F (nI E) (nI nch) n te de β kx k_ fuel (nI p) 0 sv sr sl sp w8 w9 (nI w10) p6 p7 we inp ba gu md1 md2 mi l2 (nI b) (nI fr) = kx (nI p') 0 sv' sr' sl' sp' w8' w9' (nI w') p6' p7' we' inp' ba' gu' a b' mi' l2' l4' l5') ∧ (∃ (l2' l3' : Nat), ∀ (β : Type) (kx : KTB β) (k_ : KRB β), lf_wr_X11_readsFirst_18 g n nch q E x37 F x39 rte rde β kx k_ fuel2 w8 w9 (lN w10) lo0 hi0 p 0 rba rgu rw rh M r47 r44 r45 r46 r48 r41 b fr = kx w8' w9' (lN w') lo' hi' p' 0 rba' rgu' rw' rh' M' r47' r44' r45' r46' r48' r41' l2' l3')) ∨ (∃ fa : Nat, (fa = 4 ∨ fa = 5) ∧ (∃ (b1 b3 w8' w9' w q6 q7 : Int32) (a b' : Int64) (m sl' : Nat → Int64) (sv' sr' sp' we' inp' ba' gu' : Nat → Int32), ∀ (β : Type) (kx : KXB β) (k_ : KFB β), lf_wk_X3_readBody_8 f (nI q) nch F (nI E) (nI nch) n te de β kx k_ fuel (nI p) 0 sv sr sl sp w8 w9 (nI w10) p6 p7 we inp ba gu md1 md2 mi l2 (nI b) (nI fr) = k_ b1 b3 sv' sr' sl' sp' w8' w9' w q6 q7 we' inp' ba' gu' a b' m (nI fa)) ∧ (∃ (g25 g26 : Int32) (g27 : Int64) (lo hi b1 : Nat) (M' : Nat → Nat) (rba' rgu' rw' rh' r47' r48' r41' : Nat → Int32) (r44' r45' r46' : Nat → Int64), (∃ (l2' l3' : Nat), ∀ (β : Type) (kx : KTB β) (k_ : KRB β), lf_wr_X11_readsFirst_18 g n nch q E x37 F x39 rte rde β kx k_ fuel2 w8 w9 (lN w10) lo0 hi0 p 0 rba rgu rw rh M r47 r44 r45 r46 r48 r41 b fr = kx g25 g26 g27 lo hi b1 fa rba' rgu' rw' rh' M' r47' r44' r45' r46' r48' r41' l2' l3') ∨ (∀ (β : Type) (kx : KTB β) (k_ : KRB β), lf_wr_X11_readsFirst_18 g n nch q E x37 F x39 rte rde β kx k_ fuel2 w8 w9 (lN w10) lo0 hi0 p 0 rba rgu rw rh M r47 r44 r45 r46 r48 r41 b fr = k_ x39 x37 F n E nch b1 q fa lo hi g27 g25 g26 rte rde rba' rgu' rw' rh' M' r47' r44' r45' r46' r48' r41' 0)))
theorem BD_tr {f g te de rte rde : Nat → Int32} {q E n nch F : Nat} {x37 x39 : Int32} {fuel fuel2 fr b p w10 lo0 hi0 : Nat} {l2 : Int64} {w8 w9 : Int32} {sv sr sp we inp ba gu rw rh rba rgu r41 r47 r48 : Nat → Int32} {M : Nat → Nat} {mi sl r44 r45 r46 : Nat → Int64} {md1 md2 : Int64} {p6 p7 : Int32} {fuel' fuel2' fr' b' p' w10' lo0' hi0' : Nat} {l2' : Int64} {w8' w9' : Int32} {sv' sr' sp' we' inp' ba' gu' rw' rh' rba' rgu' r41' r47' r48' : Nat → Int32} {M' : Nat → Nat} {mi' sl' r44' r45' r46' : Nat → Int64} {md1' md2' : Int64} {p6' p7' : Int32} (hc : ∀ (β : Type) (kx : KXB β) (k_ : KFB β), lf_wk_X3_readBody_8 f (nI q) nch F (nI E) (nI nch) n te de β kx k_ fuel (nI p) 0 sv sr sl sp w8 w9 (nI w10) p6 p7 we inp ba gu md1 md2 mi l2 (nI b) (nI fr) = lf_wk_X3_readBody_8 f (nI q) nch F (nI E) (nI nch) n te de β kx k_ fuel' (nI p') 0 sv' sr' sl' sp' w8' w9' (nI w10') p6' p7' we' inp' ba' gu' md1' md2' mi' l2' (nI b') (nI fr')) (hr : ∀ (β : Type) (kx : KTB β) (k_ : KRB β), lf_wr_X11_readsFirst_18 g n nch q E x37 F x39 rte rde β kx k_ fuel2 w8 w9 (lN w10) lo0 hi0 p 0 rba rgu rw rh M r47 r44 r45 r46 r48 r41 b fr = lf_wr_X11_readsFirst_18 g n nch q E x37 F x39 rte rde β kx k_ fuel2' w8' w9' (lN w10') lo0' hi0' p' 0 rba' rgu' rw' rh' M' r47' r44' r45' r46' r48' r41' b' fr') (h : BD f g te de rte rde q E n nch F x37 x39 fuel' fuel2' fr' b' p' w10' lo0' hi0' l2' w8' w9' sv' sr' sp' we' inp' ba' gu' rw' rh' rba' rgu' r41' r47' r48' M' mi' sl' r44' r45' r46' md1' md2' p6' p7') : BD f g te de rte rde q E n nch F x37 x39 fuel fuel2 fr b p w10 lo0 hi0 l2 w8 w9 sv sr sp we inp ba gu rw rh rba rgu r41 r47 r48 M mi sl r44 r45 r46 md1 md2 p6 p7 := by
  rcases h with ⟨a1, a2, a3, a4, a5, a6, a7, a8, a9, a10, a11, a12, a13, a14, a15, a16, a17, a18, a19, a20, a21, a22, a23, a24, a25, a26, a27, a28, a29, a30, hb, ⟨c1, c2, c3, hc2⟩, ⟨d1, d2, hr2⟩⟩ | ⟨fa, hfa, ⟨a1, a2, a3, a4, a5, a6, a7, a8, a9, a10, a11, a12, a13, a14, a15, a16, a17, a18, hc2⟩, ⟨d1, d2, d3, d4, d5, d6, d7, d8, d9, d10, d11, d12, d13, d14, d15, d16, d17, hr2⟩⟩
  · exact Or.inl ⟨a1, a2, a3, a4, a5, a6, a7, a8, a9, a10, a11, a12, a13, a14, a15, a16, a17, a18, a19, a20, a21, a22, a23, a24, a25, a26, a27, a28, a29, a30, hb, ⟨c1, c2, c3, fun β kx k_ => (hc β kx k_).trans (hc2 β kx k_)⟩, ⟨d1, d2, fun β kx k_ => (hr β kx k_).trans (hr2 β kx k_)⟩⟩
  · refine Or.inr ⟨fa, hfa, ⟨a1, a2, a3, a4, a5, a6, a7, a8, a9, a10, a11, a12, a13, a14, a15, a16, a17, a18, fun β kx k_ => (hc β kx k_).trans (hc2 β kx k_)⟩, ⟨d1, d2, d3, d4, d5, d6, d7, d8, d9, d10, d11, d12, d13, d14, d15, d16, d17, ?_⟩⟩
    rcases hr2 with ⟨e1, e2, hr2⟩ | hr2
    · exact Or.inl ⟨e1, e2, fun β kx k_ => (hr β kx k_).trans (hr2 β kx k_)⟩
    · exact Or.inr fun β kx k_ => (hr β kx k_).trans (hr2 β kx k_)
theorem c_mbs {nch E : Nat} {M : Nat → Nat} {mi : Nat → Int64} (hn : nch = 1 ∨ nch = 2) (hE : E < 2147483648) (hM : MR mi M) (hB : MB M) {β : Type} {K : Int32 → β} : fn_wk_X9_mayBeSilent nch (nI E) mi β K = K (if E = 0 ∧ M 0 = 0 ∧ (nch = 1 ∨ M 3 = 0) then 1 else 0) := by
  rw [fn_wk_X9_mayBeSilent_s]
  by_cases h : E = 0
  · subst h
    rw [if_pos (show nI 0 = 0 from rfl), c_quiet hn hM hB]
    by_cases h2 : M 0 = 0 ∧ (nch = 1 ∨ M 3 = 0)
    · rw [if_pos h2, if_neg (by decide), if_pos ⟨rfl, h2⟩]
    · rw [if_neg h2, if_pos rfl, if_neg (fun z => h2 z.2)]
  · rw [if_neg (nI_ne0 (by omega) hE), if_neg (fun z => h z.1)]
/-- a frame that is read -/
theorem bd_frame {q k E n nch F : Nat} {x37 x39 : Int32} {f g te de rte rde T D : Nat → Int32} (hq : q ≤ 48000) (hfg : ∀ j, j < k → nb f j = nb g j) (hk : q ≤ 8 * k) (hnc : nch = 1 ∨ nch = 2) (hE : E ≤ 65535) (hP : PV n T) (hTe : ∀ j, j < n → te j = T j) (hDe : ∀ j, j < n → de j = D j) (hrTe : ∀ j, j < n → rte j = T j) (hrDe : ∀ j, j < n → rde j = D j) (hF : F * nch ≤ 1200) {fuel fuel2 fr b p w10 lo0 hi0 : Nat} {w8 w9 : Int32} {sv sr sp we inp ba gu rw rh rba rgu r41 r47 r48 : Nat → Int32} {M : Nat → Nat} {mi sl r44 r45 r46 : Nat → Int64} {md1 md2 : Int64} {p6 p7 : Int32} (hfF : fr < F) (hb : b ≤ 1) (hS : BS q n nch fr p w10 sv sr sp we inp rw rh r41 r47 r48 M mi sl r44 r45 r46) (hns : ¬ (E = 0 ∧ b = 0 ∧ M 0 = 0 ∧ (nch = 1 ∨ M 3 = 0))) (ih : ∀ (p w10 lo0 hi0 : Nat) (sv sr sp we inp ba gu rw rh rba rgu r41 r47 r48 : Nat → Int32) (M : Nat → Nat) (mi sl r44 r45 r46 : Nat → Int64) (md1 md2 : Int64) (p6 p7 : Int32), BS q n nch (fr + 1) p w10 sv sr sp we inp rw rh r41 r47 r48 M mi sl r44 r45 r46 → BD f g te de rte rde q E n nch F x37 x39 fuel fuel2 (fr + 1) 0 p w10 lo0 hi0 (lN 0) w8 w9 sv sr sp we inp ba gu rw rh rba rgu r41 r47 r48 M mi sl r44 r45 r46 md1 md2 p6 p7) (hf2 : 0 < fuel2) : BD f g te de rte rde q E n nch F x37 x39 (fuel + 1) (fuel2 + 1) fr b p w10 lo0 hi0 (lN 0) w8 w9 sv sr sp we inp ba gu rw rh rba rgu r41 r47 r48 M mi sl r44 r45 r46 md1 md2 p6 p7 := by
  obtain ⟨hpq, hM, hB, hw, hSR, s, hC', hR'⟩ := hS
  have hfr1 : fr * nch + nch ≤ 1200 := by
    have h1 : (fr + 1) * nch ≤ F * nch := Nat.mul_le_mul_right _ (by omega)
    rw [Nat.add_mul, Nat.one_mul] at h1
    omega
  have hF2 : F ≤ 1200 := by
    have : F * 1 ≤ F * nch := Nat.mul_le_mul_left _ (by omega)
    omega
  have e0 : (lg_cmp (lN 0) 0) ≤ 0 := by decide
  have cstep : ∀ (β : Type) (kx : KXB β) (k_ : KFB β), lf_wk_X3_readBody_8 f (nI q) nch F (nI E) (nI nch) n te de β kx k_ (fuel + 1) (nI p) 0 sv sr sl sp w8 w9 (nI w10) p6 p7 we inp ba gu md1 md2 mi (lN 0) (nI b) (nI fr) = fn_wk_X3_readFrame f (nI q) nch (nI E) (nI nch) n te de (nI p) 0 sv sr sl sp (nI w10) p6 p7 we inp ba gu md1 md2 mi (nI fr) β (fun b1 b3 sv' sr' sl' sp' w' p6' p7' we' inp' ba' gu' a b' mi' r => (if r = 0 then (lf_wk_X3_readBody_8 f (nI q) nch F (nI E) (nI nch) n te de β kx k_ fuel b1 b3 sv' sr' sl' sp' w8 w9 w' p6' p7' we' inp' ba' gu' a b' mi' (lN 0) 0 (nI fr + 1)) else (k_ b1 b3 sv' sr' sl' sp' w8 w9 w' p6' p7' we' inp' ba' gu' a b' mi' r))) := fun β kx k_ => by
    rw [lf_wk_X3_readBody_8_s, if_neg (nI_ge hfF (by omega))]
    by_cases hb0 : b = 0
    · subst hb0
      rw [if_pos (show nI 0 = 0 from rfl), c_mbs hnc (by omega) hM hB, if_neg (show ¬ (E = 0 ∧ M 0 = 0 ∧ (nch = 1 ∨ M 3 = 0)) from fun z => hns ⟨z.1, rfl, z.2⟩), if_pos rfl, if_pos e0]
    · rw [if_neg (nI_ne0 (by omega) (by omega)), if_pos e0]
  have rstep : ∀ (β : Type) (kx : KTB β) (k_ : KRB β), lf_wr_X11_readsFirst_18 g n nch q E x37 F x39 rte rde β kx k_ (fuel2 + 1) w8 w9 (lN w10) lo0 hi0 p 0 rba rgu rw rh M r47 r44 r45 r46 r48 r41 b fr = lf_wr_X11_readsFirst_134 g n nch q E rte rde fr β (fun y27 y28 y29 y32 y42 y21 y20 y18 y19 y24 y47 y44 y45 y46 y48 y41 _ => (lf_wr_X11_readsFirst_18 g n nch q E x37 F x39 rte rde β kx k_ fuel2 w8 w9 y27 y28 y29 y32 y42 y21 y20 y18 y19 y24 y47 y44 y45 y46 y48 y41 0 (fr + 1))) ((nch - 0) + 1) (lN w10) lo0 hi0 p 0 rba rgu rw rh M r47 r44 r45 r46 r48 r41 0 := fun β kx k_ => by
    rw [lf_wr_X11_readsFirst_18_s, if_neg (by omega), if_pos rfl]
    by_cases hE0 : E = 0
    · rw [if_pos hE0]
      by_cases hb0 : b = 0
      · rw [if_pos hb0, r_silent, if_neg (fun z => hns ⟨hE0, hb0, z⟩), if_pos rfl]
      · rw [if_neg hb0]
    · rw [if_neg hE0]
  rcases rs_frl hq hfg hk hnc hE hP hTe hDe hrTe hrDe hfr1 nch 0 (nch + 1) ((nch - 0) + 1) p w10 lo0 hi0 sv sr sp we inp ba gu rw rh rba rgu r41 r47 r48 M mi sl r44 r45 r46 md1 md2 p6 p7 s (by omega) (by omega) (by omega) hpq hM hB hw hC' hR' hSR with ⟨p2, w2, lo2, hi2, p62, p72, a, b', mi2, sl2, r442, r452, r462, M2, sv2, sr2, sp2, we2, inp2, ba2, gu2, rw2, rh2, rba2, rgu2, r412, r472, r482, s2, b1, b2, b3, b4, b5, b6, b7, b8, c2, r2⟩ | ⟨fa, hfa, ⟨b1, b3, w, q6, q7, a, b', m, sl', sv', sr', sp', we2, inp2, ba2, gu2, c2⟩, ⟨g27, lo2, hi2, b12, l4, M2, rba2, rgu2, rw2, rh2, r472, r482, r412, r442, r452, r462, r2⟩⟩
  · have hmul : (fr + 1) * nch = fr * nch + nch := by rw [Nat.add_mul, Nat.one_mul]
    refine BD_tr ?_ ?_ (ih p2 w2 lo2 hi2 sv2 sr2 sp2 we2 inp2 ba2 gu2 rw2 rh2 rba2 rgu2 r412 r472 r482 M2 mi2 sl2 r442 r452 r462 a b' p62 p72 ⟨b2, b4, b5, b3, by rw [hmul]; exact b8, s2, CP_next b6, b7⟩)
    · intro β kx k_
      rw [cstep, fn_wk_X3_readFrame_s, fu_n (by omega)]
      refine (c2 β _ _).trans ?_
      rw [if_pos rfl, nI_1]
      rfl
    · intro β kx k_
      rw [rstep]
      exact r2 β _
  · refine Or.inr ⟨fa, hfa, ⟨b1, b3, w8, w9, w, q6, q7, a, b', m, sl', sv', sr', sp', we2, inp2, ba2, gu2, fun β kx k_ => ?_⟩, ⟨w8, w9, g27, lo2, hi2, b12, M2, rba2, rgu2, rw2, rh2, r472, r482, r412, r442, r452, r462, Or.inl ⟨0, fr + 1, fun β kx k_ => ?_⟩⟩⟩
    · rw [cstep, fn_wk_X3_readFrame_s, fu_n (by omega)]
      refine (c2 β _ _).trans ?_
      rw [if_neg (nI_ne0 (by omega) (by omega))]
    · rw [rstep]
      refine (r2 β _).trans ?_
      obtain ⟨y2, rfl⟩ : ∃ y2, fuel2 = y2 + 1 := ⟨fuel2 - 1, by omega⟩
      rw [lf_wr_X11_readsFirst_18_s]
      by_cases h3 : F ≤ fr + 1
      · rw [if_pos h3]
      · rw [if_neg h3, if_neg (by omega)]
/-- frames passed over -/
theorem rs_por {q E n nch F f0 many w10 : Nat} {w8 w9 : Int32} {f te de rte rde T D : Nat → Int32} {r44 r45 r46 mi : Nat → Int64} {r47 : Nat → Int32} {md1 md2 : Int64} (hnc : nch = 1 ∨ nch = 2) (hP : PV n T) (hTe : ∀ j, j < n → te j = T j) (hDe : ∀ j, j < n → de j = D j) (hrTe : ∀ j, j < n → rte j = T j) (hrDe : ∀ j, j < n → rde j = D j) (hF : F * nch ≤ 1200) (hfm : f0 + many ≤ F) {p : Nat} : ∀ (m j fuel fuel2 : Nat) (sv sr sp we inp ba gu rw rh rba rgu r41 r48 : Nat → Int32) (sl : Nat → Int64) (p6 p7 : Int32) (s : PSt), j + m = many → m < fuel2 → CP nch n (f0 + j) 0 we inp s → RP rw rh s → SR ((f0 + j) * nch) sv sr sl sp r41 r44 r45 r46 r47 r48 → ∃ (p6' p7' : Int32) (sl' : Nat → Int64) (sv' sr' sp' we' inp' ba' gu' rw' rh' rba' rgu' r41' r48' : Nat → Int32) (s' : PSt), CP nch n (f0 + many) 0 we' inp' s' ∧ RP rw' rh' s' ∧ SR ((f0 + many) * nch) sv' sr' sl' sp' r41' r44 r45 r46 r47 r48' ∧ (∀ (β : Type) (kx : KXB β) (k_ : KFB β), lf_wk_X3_readBody_8 f (nI q) nch F (nI E) (nI nch) n te de β kx k_ (fuel + m) (nI p) 0 sv sr sl sp w8 w9 (nI w10) p6 p7 we inp ba gu md1 md2 mi (lN m) 1 (nI (f0 + j)) = lf_wk_X3_readBody_8 f (nI q) nch F (nI E) (nI nch) n te de β kx k_ fuel (nI p) 0 sv' sr' sl' sp' w8 w9 (nI w10) p6' p7' we' inp' ba' gu' md1 md2 mi (lN 0) 1 (nI (f0 + many))) ∧ (∀ (β : Type) (kx : (Nat → Int32) → (Nat → Int32) → (Nat → Int32) → (Nat → Int32) → (Nat → Int32) → (Nat → Int32) → Nat → β), lf_wr_X11_readsFirst_90 n nch rte rde f0 many β kx fuel2 rba rgu rw rh r48 r41 j = kx rba' rgu' rw' rh' r48' r41' many) := by
  have hF2 : F ≤ 1200 := by
    have : F * 1 ≤ F * nch := Nat.mul_le_mul_left _ (by omega)
    omega
  intro m
  induction m with
  | zero =>
    intro j fuel fuel2 sv sr sp we inp ba gu rw rh rba rgu r41 r48 sl p6 p7 s hj hf2 hC' hR' hS
    obtain ⟨y, rfl⟩ : ∃ y, fuel2 = y + 1 := ⟨fuel2 - 1, by omega⟩
    have e : j = many := by omega
    subst e
    refine ⟨p6, p7, sl, sv, sr, sp, we, inp, ba, gu, rw, rh, rba, rgu, r41, r48, s, hC', hR', hS, fun β kx k_ => rfl, fun β kx => ?_⟩
    rw [lf_wr_X11_readsFirst_90_s, if_pos (Nat.le_refl _)]
  | succ m ih =>
    intro j fuel fuel2 sv sr sp we inp ba gu rw rh rba rgu r41 r48 sl p6 p7 s hj hf2 hC' hR' hS
    obtain ⟨y, rfl⟩ : ∃ y, fuel2 = y + 1 := ⟨fuel2 - 1, by omega⟩
    have hfr1 : (f0 + j) * nch + nch ≤ 1200 := by
      have h1 : (f0 + j + 1) * nch ≤ F * nch := Nat.mul_le_mul_right _ (by omega)
      rw [Nat.add_mul, Nat.one_mul] at h1
      omega
    have hmul : (f0 + (j + 1)) * nch = (f0 + j) * nch + nch := by rw [← Nat.add_assoc, Nat.add_mul, Nat.one_mul]
    obtain ⟨p62, p72, sl2, sv2, sr2, sp2, we2, inp2, ba2, gu2, rw2, rh2, rba2, rgu2, r412, r482, s2, b1, b2, b3, c2, r2⟩ := rs_pol (r44 := r44) (r45 := r45) (r46 := r46) (r47 := r47) hnc hP hTe hDe hrTe hrDe hfr1 nch 0 (nch + 1) ((2 - 0) + 1) sv sr sp we inp ba gu rw rh rba rgu r41 r48 sl p6 p7 s (by omega) (by omega) (by omega) hC' hR' hS
    obtain ⟨p63, p73, sl3, sv3, sr3, sp3, we3, inp3, ba3, gu3, rw3, rh3, rba3, rgu3, r413, r483, s3, d1, d2, d3, c3, r3⟩ := ih (j + 1) fuel y sv2 sr2 sp2 we2 inp2 ba2 gu2 rw2 rh2 rba2 rgu2 r412 r482 sl2 p62 p72 s2 (by omega) (by omega) (CP_next b1) b2 (by rw [hmul]; exact b3)
    refine ⟨p63, p73, sl3, sv3, sr3, sp3, we3, inp3, ba3, gu3, rw3, rh3, rba3, rgu3, r413, r483, s3, d1, d2, d3, fun β kx k_ => ?_, fun β kx => ?_⟩
    · rw [show fuel + (m + 1) = (fuel + m) + 1 from rfl, lf_wk_X3_readBody_8_s, if_neg (nI_ge (by omega) (by omega)), if_neg (by decide), if_neg (show ¬ (lg_cmp (lN (m + 1)) 0) ≤ 0 from fun h => by have := (lc_le (a := m + 1) (b := 0) (by omega) (by omega)).mp h; omega), fn_wk_X3_passFrameOver_s, fu_n (by omega)]
      refine (c2 β _).trans ?_
      rw [nI_1, show lN (m + 1) - 1 = lN m from lN_sub (a := m + 1) (b := 1) (by omega)]
      exact c3 β kx k_
    · rw [lf_wr_X11_readsFirst_90_s, if_neg (by omega), fn_wr_X11_passesOver_s]
      refine (r2 β _).trans ?_
      exact r3 β kx
