/-! all frames -/
theorem c_noteS2 {m : Nat} {w8 w9 : Int32} (hm : m < 2147483648) : ∃ w8' w9' : Int32, (∀ (β : Type) (K : Int32 → Int32 → β), fn_wk_X9_noteSilence w8 w9 (nI m) β K = K w8' w9') ∧ (∀ (β : Type) (K : Int32 → Int32 → β), fn_wr_X11_tellsSilence w8 w9 (nI m) β K = K w8' w9') := by
  by_cases h : m = 0
  · subst h
    refine ⟨w8, w9, fun β K => ?_, fun β K => ?_⟩
    · rw [fn_wk_X9_noteSilence_s, if_pos (by decide)]
    · rw [fn_wr_X11_tellsSilence_s, if_pos (by decide), show w8 + 0 = w8 from Int32.add_zero _, show w9 + nI 0 = w9 from Int32.add_zero _]
  · refine ⟨w8 + 1, w9 + nI m, fun β K => ?_, fun β K => ?_⟩
    · rw [fn_wk_X9_noteSilence_s, if_neg (nI_nle (by omega) hm)]
    · rw [fn_wr_X11_tellsSilence_s, if_neg (nI_nle (by omega) hm)]
theorem bd_all {q k E n nch F : Nat} {x37 x39 : Int32} {f g te de rte rde T D : Nat → Int32} (hq : q ≤ 48000) (hfg : ∀ j, j < k → nb f j = nb g j) (hk : q ≤ 8 * k) (hnc : nch = 1 ∨ nch = 2) (hE : E ≤ 65535) (hP : PV n T) (hTe : ∀ j, j < n → te j = T j) (hDe : ∀ j, j < n → de j = D j) (hrTe : ∀ j, j < n → rte j = T j) (hrDe : ∀ j, j < n → rde j = D j) (hF : F * nch ≤ 1200) : ∀ (d fuel fuel2 fr b p w10 lo0 hi0 : Nat) (w8 w9 : Int32) (sv sr sp we inp ba gu rw rh rba rgu r41 r47 r48 : Nat → Int32) (M : Nat → Nat) (mi sl r44 r45 r46 : Nat → Int64) (md1 md2 : Int64) (p6 p7 : Int32), fr + d = F → d < fuel → 2 * d + (1 - b) < fuel2 → b ≤ 1 → BS q n nch fr p w10 sv sr sp we inp rw rh r41 r47 r48 M mi sl r44 r45 r46 → BD f g te de rte rde q E n nch F x37 x39 fuel fuel2 fr b p w10 lo0 hi0 (lN 0) w8 w9 sv sr sp we inp ba gu rw rh rba rgu r41 r47 r48 M mi sl r44 r45 r46 md1 md2 p6 p7 := by
  have hF2 : F ≤ 1200 := by
    have : F * 1 ≤ F * nch := Nat.mul_le_mul_left _ (by omega)
    omega
  intro d
  induction d using Nat.strongRecOn with
  | ind d ih =>
    intro fuel fuel2 fr b p w10 lo0 hi0 w8 w9 sv sr sp we inp ba gu rw rh rba rgu r41 r47 r48 M mi sl r44 r45 r46 md1 md2 p6 p7 hfd hf hf2 hb hS
    obtain ⟨z, rfl⟩ : ∃ z, fuel = z + 1 := ⟨fuel - 1, by omega⟩
    obtain ⟨y, rfl⟩ : ∃ y, fuel2 = y + 1 := ⟨fuel2 - 1, by omega⟩
    by_cases hd : d = 0
    · have e : fr = F := by omega
      subst e
      refine Or.inl ⟨p, w10, lo0, hi0, w8, w9, p6, p7, md1, md2, mi, sl, r44, r45, r46, M, sv, sr, sp, we, inp, ba, gu, rw, rh, rba, rgu, r41, r47, r48, hS, ⟨lN 0, nI b, nI fr, fun β kx k_ => ?_⟩, ⟨b, fr, fun β kx k_ => ?_⟩⟩
      · rw [lf_wk_X3_readBody_8_s, if_pos (nI_le (Nat.le_refl _) (by omega))]
      · rw [lf_wr_X11_readsFirst_18_s, if_pos (Nat.le_refl _)]
    · have hfF : fr < F := by omega
      by_cases hs : E = 0 ∧ b = 0 ∧ M 0 = 0 ∧ (nch = 1 ∨ M 3 = 0)
      · obtain ⟨hE0, hb0, hqt⟩ := hs
        subst hE0
        subst hb0
        obtain ⟨hpq, hM, hB, hw, hSR, s, hC', hR'⟩ := hS
        have hqt2 : 0 = 0 ∧ M 0 = 0 ∧ (nch = 1 ∨ M 3 = 0) := ⟨rfl, hqt⟩
        obtain ⟨hG, hG1⟩ := rs_G (N := 6000) (by omega : q ≤ 8 * 6000) (by omega) hpq hfg hk
        rcases hG with ⟨p1, v, h1, h2, h3, c1, r1⟩ | ⟨⟨x, c1⟩, ⟨v, r1⟩⟩
        · have hv1 : 1 ≤ v := hG1 p1 v r1
          have ev : lN v - 1 = lN (v - 1) := lN_sub (a := v) (b := 1) hv1
          by_cases hbig : v - 1 ≤ F - fr
          · have e1 : (lg_cmp (lN (v - 1)) (Int32.toInt64 (nI F - nI fr))) ≤ 0 := by
              rw [pk_sub (by omega), nI_l (by omega)]
              exact (lc_le (by omega) (by omega)).mpr hbig
            obtain ⟨w8', w9', n1, n2⟩ := c_noteS2 (m := v - 1) (w8 := w8) (w9 := w9) (by omega)
            have cs : ∀ (β : Type) (kx : KXB β) (k_ : KFB β), lf_wk_X3_readBody_8 f (nI q) nch F (nI 0) (nI nch) n te de β kx k_ (z + 1) (nI p) 0 sv sr sl sp w8 w9 (nI w10) p6 p7 we inp ba gu md1 md2 mi (lN 0) (nI 0) (nI fr) = lf_wk_X3_readBody_8 f (nI q) nch F (nI 0) (nI nch) n te de β kx k_ (z + 1) (nI p1) 0 sv sr sl sp w8' w9' (nI w10) p6 p7 we inp ba gu md1 md2 mi (lN (v - 1)) 1 (nI fr) := fun β kx k_ => by
              refine Eq.trans ?_ (Eq.symm (lf_wk_X3_readBody_8_s.trans ((if_neg (nI_ge hfF (by omega))).trans (if_neg (by decide)))))
              rw [lf_wk_X3_readBody_8_s, if_neg (nI_ge hfF (by omega)), if_pos (show nI 0 = 0 from rfl), c_mbs hnc (by omega) hM hB, if_pos hqt2, if_neg (by decide)]
              refine (c1 β _).trans ?_
              rw [if_pos rfl, ev, if_pos e1, lN_i]
              refine (n1 β _).trans ?_
              rfl
            obtain ⟨p62, p72, sl2, sv2, sr2, sp2, we2, inp2, ba2, gu2, rw2, rh2, rba2, rgu2, r412, r482, s2, b1, b2, b3, c2, r2⟩ := rs_por (q := q) (E := 0) (w10 := w10) (w8 := w8') (w9 := w9') (f := f) (mi := mi) (md1 := md1) (md2 := md2) (p := p1) (r44 := r44) (r45 := r45) (r46 := r46) (r47 := r47) (f0 := fr) (many := v - 1) hnc hP hTe hDe hrTe hrDe hF (by omega) (v - 1) 0 (z + 1 - (v - 1)) (((v - 1) - 0) + 1) sv sr sp we inp ba gu rw rh rba rgu r41 r48 sl p6 p7 s (by omega) (by omega) hC' hR' hSR
            rw [show z + 1 - (v - 1) + (v - 1) = z + 1 by omega] at c2
            have hS2 : BS q n nch (fr + (v - 1)) p1 w10 sv2 sr2 sp2 we2 inp2 rw2 rh2 r412 r47 r482 M mi sl2 r44 r45 r46 := ⟨h2, hM, hB, hw, b3, s2, b1, b2⟩
            have rs : ∀ (β : Type) (kx : KTB β) (k_ : KRB β), lf_wr_X11_readsFirst_18 g n nch q 0 x37 F x39 rte rde β kx k_ (y + 1) w8 w9 (lN w10) lo0 hi0 p 0 rba rgu rw rh M r47 r44 r45 r46 r48 r41 0 fr = lf_wr_X11_readsFirst_18 g n nch q 0 x37 F x39 rte rde β kx k_ y w8' w9' (lN w10) lo0 hi0 p1 0 rba2 rgu2 rw2 rh2 M r47 r44 r45 r46 r482 r412 1 (fr + (v - 1)) := fun β kx k_ => by
              rw [lf_wr_X11_readsFirst_18_s, if_neg (by omega), if_pos rfl, if_pos rfl, if_pos rfl, r_silent, if_pos hqt, if_neg (by decide)]
              refine (r1 β _).trans ?_
              rw [if_pos (Nat.le_refl _), if_pos hbig]
              refine (r2 β _).trans ?_
              exact n2 β _
            refine BD_tr (fun β kx k_ => (cs β kx k_).trans (c2 β kx k_)) rs ?_
            by_cases hv0 : v - 1 = 0
            · obtain ⟨y2, rfl⟩ : ∃ y2, y = y2 + 1 := ⟨y - 1, by omega⟩
              rw [hv0] at hS2 ⊢
              exact bd_frame (b := 1) hq hfg hk hnc (by omega) hP hTe hDe hrTe hrDe hF (by omega) (by omega) hS2 (fun z => by omega) (fun p w10 lo0 hi0 sv sr sp we inp ba gu rw rh rba rgu r41 r47 r48 M mi sl r44 r45 r46 md1 md2 p6 p7 hS3 => ih (d - 1) (by omega) z y2 (fr + 1) 0 p w10 lo0 hi0 w8' w9' sv sr sp we inp ba gu rw rh rba rgu r41 r47 r48 M mi sl r44 r45 r46 md1 md2 p6 p7 (by omega) (by omega) (by omega) (by omega) hS3) (by omega)
            · exact ih (d - (v - 1)) (by omega) (z + 1 - (v - 1)) y (fr + (v - 1)) 1 p1 w10 lo0 hi0 w8' w9' sv2 sr2 sp2 we2 inp2 ba2 gu2 rw2 rh2 rba2 rgu2 r412 r47 r482 M mi sl2 r44 r45 r46 md1 md2 p62 p72 (by omega) (by omega) (by omega) (by omega) hS2
          · have e1 : ¬ (lg_cmp (lN (v - 1)) (Int32.toInt64 (nI F - nI fr))) ≤ 0 := by
              rw [pk_sub (by omega), nI_l (by omega)]
              exact fun h => hbig ((lc_le (by omega) (by omega)).mp h)
            refine Or.inr ⟨5, Or.inr rfl, ⟨nI p1, 0, w8, w9, nI w10, p6, p7, md1, md2, mi, sl, sv, sr, sp, we, inp, ba, gu, fun β kx k_ => ?_⟩, ⟨w8, w9, lN w10, lo0, hi0, p1, M, rba, rgu, rw, rh, r47, r48, r41, r44, r45, r46, Or.inr fun β kx k_ => ?_⟩⟩
            · rw [lf_wk_X3_readBody_8_s, if_neg (nI_ge hfF (by omega)), if_pos (show nI 0 = 0 from rfl), c_mbs hnc (by omega) hM hB, if_pos hqt2, if_neg (by decide)]
              refine (c1 β _).trans ?_
              rw [if_pos rfl, ev, if_neg e1]
              rfl
            · rw [lf_wr_X11_readsFirst_18_s, if_neg (by omega), if_pos rfl, if_pos rfl, if_pos rfl, r_silent, if_pos hqt, if_neg (by decide)]
              refine (r1 β _).trans ?_
              rw [if_pos (Nat.le_refl _), if_neg hbig, fn_wr_X11_wrong_s, if_pos rfl]
        · refine Or.inr ⟨4, Or.inl rfl, ⟨nI q, 1, w8, w9, nI w10, p6, p7, md1, md2, mi, sl, sv, sr, sp, we, inp, ba, gu, fun β kx k_ => ?_⟩, ⟨w8, w9, lN w10, lo0, hi0, q, M, rba, rgu, rw, rh, r47, r48, r41, r44, r45, r46, Or.inr fun β kx k_ => ?_⟩⟩
          · rw [lf_wk_X3_readBody_8_s, if_neg (nI_ge hfF (by omega)), if_pos (show nI 0 = 0 from rfl), c_mbs hnc (by omega) hM hB, if_pos hqt2, if_neg (by decide)]
            refine (c1 β _).trans ?_
            rw [if_neg (by decide)]
            rfl
          · rw [lf_wr_X11_readsFirst_18_s, if_neg (by omega), if_pos rfl, if_pos rfl, if_pos rfl, r_silent, if_pos hqt, if_neg (by decide)]
            refine (r1 β _).trans ?_
            rw [if_neg (by omega)]
      · refine bd_frame hq hfg hk hnc hE hP hTe hDe hrTe hrDe hF hfF hb hS hs (fun p w10 lo0 hi0 sv sr sp we inp ba gu rw rh rba rgu r41 r47 r48 M mi sl r44 r45 r46 md1 md2 p6 p7 hS3 => ih (d - 1) (by omega) z y (fr + 1) 0 p w10 lo0 hi0 w8 w9 sv sr sp we inp ba gu rw rh rba rgu r41 r47 r48 M mi sl r44 r45 r46 md1 md2 p6 p7 (by omega) (by omega) (by omega) (by omega) hS3) (by omega)
