set_option maxHeartbeats 4000000 in
theorem c_pr0 {nch n F h1 h2 : Nat} {sv te de sr R : Nat → Int32} {p5 w11 p6 p7 : Int32} {we inp ba gu : Nat → Int32} (hnc : nch = 1 ∨ nch = 2) (hF : F ≤ 600) (hFn : F * nch ≤ 1200) (hh1 : h1 ≤ 24) (hh2 : h2 ≤ 5) (hsr : ∀ j, j < F * nch → sr j = R j) : ∀ (d fuel f q : Nat) (z : ZSt) (o1 u1 t1 : Int32) (f1 : Nat → Int32) (o2 u2 t2 : Int32) (f2 : Nat → Int32) (mi : Nat → Int64) (w10 : Int32) (md1 md2 : Int64), F - f ≤ d → f ≤ F → q ≤ 1 → F - f < fuel → EB (122 * f + 14 * q) (32 * f) z.1 → CE h1 h2 z.1 t1 f1 t2 f2 o1 u1 o2 u2 w10 mi → ∃ (o1' u1' t1' : Int32) (f1' : Nat → Int32) (o2' u2' t2' : Int32) (f2' : Nat → Int32) (mi' : Nat → Int64) (w10' : Int32) (md1' md2' : Int64) (x1 x2 x3 : Int32), CE h1 h2 (EZ R nch F f q z).1 t1' f1' t2' f2' o1' u1' o2' u2' w10' mi' ∧ (∀ j, j < h1 → nb f1' j = nb f1 j) ∧ (∀ j, j < h2 → nb f2' j = nb f2 j) ∧ ∀ (β : Type) (kx : Int32 → (Nat → Int32) → Int32 → (Nat → Int32) → Int32 → Int32 → Int32 → Int32 → (Nat → Int32) → Int32 → Int32 → Int32 → Int32 → Int32 → Int32 → (Nat → Int32) → (Nat → Int32) → (Nat → Int32) → (Nat → Int32) → Int64 → Int64 → (Nat → Int64) → Int32 → Int32 → Int32 → β), lf_wk_X4_press_24 sv nch F (nI 0) p5 n te de β kx fuel t1 f1 t2 f2 o1 u1 o2 u2 sr (nI z.2.1) (nI z.2.2) w10 w11 p6 p7 we inp ba gu md1 md2 mi (nI 0) (nI q) (nI f) = kx t1' f1' t2' f2' o1' u1' o2' u2' sr (nI (EZ R nch F f q z).2.1) (nI (EZ R nch F f q z).2.2) w10' w11 p6 p7 we inp ba gu md1' md2' mi' x1 x2 x3 := by
  intro d
  induction d with
  | zero =>
    intro fuel f q z o1 u1 t1 f1 o2 u2 t2 f2 mi w10 md1 md2 hd hfF hq hfu hEB hCE
    obtain ⟨k, rfl⟩ : ∃ k, fuel = k + 1 := ⟨fuel - 1, by omega⟩
    have e : f = F := by omega
    subst e
    rw [EZ_end (Nat.le_refl _)]
    exact ⟨o1, u1, t1, f1, o2, u2, t2, f2, mi, w10, md1, md2, _, _, _, hCE, fun _ _ => rfl, fun _ _ => rfl, fun β kx => by rw [lf_wk_X4_press_24_s, if_pos (nI_le (Nat.le_refl _) (by omega))]⟩
  | succ d ih =>
    intro fuel f q z o1 u1 t1 f1 o2 u2 t2 f2 mi w10 md1 md2 hd hfF hq hfu hEB hCE
    obtain ⟨k, rfl⟩ : ∃ k, fuel = k + 1 := ⟨fuel - 1, by omega⟩
    by_cases hend : F ≤ f
    · have e : f = F := by omega
      subst e
      rw [EZ_end (Nat.le_refl _)]
      exact ⟨o1, u1, t1, f1, o2, u2, t2, f2, mi, w10, md1, md2, _, _, _, hCE, fun _ _ => rfl, fun _ _ => rfl, fun β kx => by rw [lf_wk_X4_press_24_s, if_pos (nI_le (Nat.le_refl _) (by omega))]⟩
    · have hm1 : (f + 1) * nch ≤ F * nch := Nat.mul_le_mul_right _ (by omega)
      rw [Nat.add_mul, Nat.one_mul] at hm1
      -- a FRAME that is written
      have hfr : ∀ (q : Nat) (z : ZSt) (o1 u1 t1 : Int32) (f1 : Nat → Int32) (o2 u2 t2 : Int32) (f2 : Nat → Int32) (mi : Nat → Int64) (w10 : Int32) (md1 md2 : Int64), q ≤ 1 → EB (122 * f + 14 * q) (32 * f) z.1 → CE h1 h2 z.1 t1 f1 t2 f2 o1 u1 o2 u2 w10 mi → ¬ (q = 0 ∧ z.1.2.2.1 0 = 0 ∧ (nch = 1 ∨ z.1.2.2.1 3 = 0)) → ∃ (o1' u1' t1' : Int32) (f1' : Nat → Int32) (o2' u2' t2' : Int32) (f2' : Nat → Int32) (mi' : Nat → Int64) (w10' : Int32) (md1' md2' : Int64) (x1 x2 x3 : Int32), CE h1 h2 (EZ R nch F f q z).1 t1' f1' t2' f2' o1' u1' o2' u2' w10' mi' ∧ (∀ j, j < h1 → nb f1' j = nb f1 j) ∧ (∀ j, j < h2 → nb f2' j = nb f2 j) ∧ ∀ (β : Type) (kx : Int32 → (Nat → Int32) → Int32 → (Nat → Int32) → Int32 → Int32 → Int32 → Int32 → (Nat → Int32) → Int32 → Int32 → Int32 → Int32 → Int32 → Int32 → (Nat → Int32) → (Nat → Int32) → (Nat → Int32) → (Nat → Int32) → Int64 → Int64 → (Nat → Int64) → Int32 → Int32 → Int32 → β), fn_wk_X4_writeFrame sv sr nch (nI 0) p5 n te de t1 f1 t2 f2 o1 u1 o2 u2 w10 w11 p6 p7 we inp ba gu md1 md2 mi (nI f) β (fun y1 y2 y3 y4 y5 y6 y7 y8 y9 y10 y11 y12 y13 y14 y15 y16 y17 y18 y19 => lf_wk_X4_press_24 sv nch F (nI 0) p5 n te de β kx k y1 y2 y3 y4 y5 y6 y7 y8 sr (nI z.2.1) (nI z.2.2) y9 y10 y11 y12 y13 y14 y15 y16 y17 y18 y19 (nI 0) 0 (nI f + 1)) = kx t1' f1' t2' f2' o1' u1' o2' u2' sr (nI (EZ R nch F f q z).2.1) (nI (EZ R nch F f q z).2.2) w10' w11 p6 p7 we inp ba gu md1' md2' mi' x1 x2 x3 := by
        intro q z o1 u1 t1 f1 o2 u2 t2 f2 mi w10 md1 md2 hq hEB hCE hnq
        obtain ⟨a1, a2, a3, a4, a5, a6, a7, a8, am, aw, ad1, ad2, b1, b2, b3, b4⟩ := c_wf0 (n := n) (fr := f) (sv := sv) (sr := sr) (te := te) (de := de) (p5 := p5) (w11 := w11) (p6 := p6) (p7 := p7) (we := we) (inp := inp) (ba := ba) (gu := gu) (md1 := md1) (md2 := md2) hnc (by omega) hEB hCE (by omega) (by omega)
        have ec : efc 0 (f * nch) sr nch 0 z.1 = efc 0 (f * nch) R nch 0 z.1 := efc_congr nch 0 z.1 (fun j hj => hsr j (by omega))
        rw [ec] at b1
        obtain ⟨c1, c2, c3, c4, c5, c6, c7, c8, cm, cw, cd1, cd2, x1, x2, x3, d1, d2, d3, d4⟩ := ih k (f + 1) 0 (efc 0 (f * nch) R nch 0 z.1, z.2) a1 a2 a3 a4 a5 a6 a7 a8 am aw ad1 ad2 (by omega) (by omega) (by omega) (by omega) (EB_frm hnc hq hEB) b1
        rw [← EZ_frm hq (by omega) hnq] at d1 d4
        refine ⟨c1, c2, c3, c4, c5, c6, c7, c8, cm, cw, cd1, cd2, x1, x2, x3, d1, fun j hj => (d2 j hj).trans (b2 j hj), fun j hj => (d3 j hj).trans (b3 j hj), fun β kx => ?_⟩
        rw [nI_1]
        exact (b4 β _).trans (d4 β kx)
      have hq01 : q = 0 ∨ q = 1 := by omega
      rcases hq01 with rfl | rfl
      · by_cases hqu : z.1.2.2.1 0 = 0 ∧ (nch = 1 ∨ z.1.2.2.1 3 = 0)
        · -- a SILENCE
          have hm := cz_le (R := R) (nch := nch) (F - f) f
          have ecz : cz sr nch (F - f) f = cz R nch (F - f) f := cz_congr hnc hsr (F - f) f (by omega)
          obtain ⟨p1, p2, p3, p4⟩ := hCE
          obtain ⟨g1, g2, g3, g4, e1, e2, e3⟩ := c_writeG (N := 9600) (a := cz R nch (F - f) f + 1) (by omega) (by omega) (Nat.lt_trans (by omega : cz R nch (F - f) f + 1 < 1000) (by decide)) p1 (by have := hEB.2.1; omega)
          have eG : Int32.toInt64 (nI (cz R nch (F - f) f) + 1) = lN (cz R nch (F - f) f + 1) := by rw [nI_1]; exact nI_l (by omega)
          by_cases hm0 : cz R nch (F - f) f = 0
          · -- none: the FRAME right behind it
            have hEB1 : EB (122 * f + 14 * 1) (32 * f) (silS 0 z).1 := by
              have := EB_sil (m := 0) (f := f) (z := z) (by omega) hEB
              rw [Nat.add_zero] at this
              exact this
            rw [hm0] at e1
            obtain ⟨c1, c2, c3, c4, c5, c6, c7, c8, cm, cw, cd1, cd2, x1, x2, x3, d1, d2, d3, d4⟩ := hfr 1 (silS 0 z) g1 g2 g3 g4 o2 u2 t2 f2 mi w10 md1 md2 (by omega) hEB1 ⟨e1, p2, p3, p4⟩ (fun x => absurd x.1 (by decide))
            have eZ : EZ R nch F f 0 z = EZ R nch F f 1 (silS 0 z) := by
              have := EZ_sil (R := R) (F := F) (f := f) (by omega) hqu
              rw [hm0, Nat.add_zero] at this
              exact this
            rw [eZ]
            refine ⟨c1, c2, c3, c4, c5, c6, c7, c8, cm, cw, cd1, cd2, x1, x2, x3, d1, fun j hj => (d2 j hj).trans (e2 j hj), d3, fun β kx => ?_⟩
            rw [lf_wk_X4_press_24_s, if_neg (nI_ge (by omega) (by omega)), if_pos (show nI 0 = 0 from rfl), c_may hnc p3 hEB.1, if_pos hqu, if_neg (by decide), c_stillFrames hnc hFn hfF, ecz, eG, e3, c_noteS (by omega), hm0, if_pos (by decide)]
            exact d4 β kx
          · obtain ⟨m', hm'⟩ : ∃ m', cz R nch (F - f) f = m' + 1 := ⟨cz R nch (F - f) f - 1, by omega⟩
            obtain ⟨c1, c2, c3, c4, c5, c6, c7, c8, cm, cw, cd1, cd2, x1, x2, x3, d1, d2, d3, d4⟩ := ih (k - m') (f + cz R nch (F - f) f) 1 (silS (cz R nch (F - f) f) z) g1 g2 g3 g4 o2 u2 t2 f2 mi w10 md1 md2 (by omega) (by omega) (by omega) (by omega) (EB_sil (by omega) hEB) ⟨e1, p2, p3, p4⟩
            rw [← EZ_sil (by omega) hqu] at d1 d4
            refine ⟨c1, c2, c3, c4, c5, c6, c7, c8, cm, cw, cd1, cd2, x1, x2, x3, d1, fun j hj => (d2 j hj).trans (e2 j hj), d3, fun β kx => ?_⟩
            rw [lf_wk_X4_press_24_s, if_neg (nI_ge (by omega) (by omega)), if_pos (show nI 0 = 0 from rfl), c_may hnc p3 hEB.1, if_pos hqu, if_neg (by decide), c_stillFrames hnc hFn hfF, ecz, eG, e3, c_noteS (by omega), if_neg (nI_nle (by omega) (by omega))]
            have es := c_skip (nch := nch) (n := n) (F := F) (E := 0) (sv := sv) (te := te) (de := de) (sr := sr) (p5 := p5) (t1 := g3) (t2 := t2) (o1 := g1) (u1 := g2) (o2 := o2) (u2 := u2) (w8 := nI (silS (cz R nch (F - f) f) z).2.1) (w9 := nI (silS (cz R nch (F - f) f) z).2.2) (w10 := w10) (w11 := w11) (p6 := p6) (p7 := p7) (f1 := g4) (f2 := f2) (we := we) (inp := inp) (ba := ba) (gu := gu) (md1 := md1) (md2 := md2) (mi := mi) hF m' (k - m') (f + 1) (by omega) β kx
            rw [show k - m' + m' = k by omega, show f + 1 + m' = f + cz R nch (F - f) f by omega] at es
            rw [show nI (cz R nch (F - f) f) + (-1) = nI m' by rw [hm']; exact pk_m1 m', nI_1]
            exact es.trans (d4 β kx)
        · obtain ⟨c1, c2, c3, c4, c5, c6, c7, c8, cm, cw, cd1, cd2, x1, x2, x3, d1, d2, d3, d4⟩ := hfr 0 z o1 u1 t1 f1 o2 u2 t2 f2 mi w10 md1 md2 (by omega) hEB hCE (fun x => hqu x.2)
          refine ⟨c1, c2, c3, c4, c5, c6, c7, c8, cm, cw, cd1, cd2, x1, x2, x3, d1, d2, d3, fun β kx => ?_⟩
          rw [lf_wk_X4_press_24_s, if_neg (nI_ge (by omega) (by omega)), if_pos (show nI 0 = 0 from rfl), c_may hnc hCE.2.2.1 hEB.1, if_neg hqu, if_pos rfl, if_pos (by decide)]
          exact d4 β kx
      · obtain ⟨c1, c2, c3, c4, c5, c6, c7, c8, cm, cw, cd1, cd2, x1, x2, x3, d1, d2, d3, d4⟩ := hfr 1 z o1 u1 t1 f1 o2 u2 t2 f2 mi w10 md1 md2 (by omega) hEB hCE (fun x => absurd x.1 (by decide))
        refine ⟨c1, c2, c3, c4, c5, c6, c7, c8, cm, cw, cd1, cd2, x1, x2, x3, d1, d2, d3, fun β kx => ?_⟩
        rw [lf_wk_X4_press_24_s, if_neg (nI_ge (by omega) (by omega)), if_neg (by decide), if_pos (by decide)]
        exact d4 β kx
