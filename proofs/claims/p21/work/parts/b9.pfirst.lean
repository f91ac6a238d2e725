/-! the first stream read: both sides -/
abbrev KCF (β : Type) : Type := Int32 → Int32 → Int32 → (Nat → Int32) → (Nat → Int32) → (Nat → Int64) → (Nat → Int32) → Nat → Nat → Nat → Int32 → Int32 → Int32 → Int32 → Int32 → Int32 → Int32 → Int32 → Int32 → Int32 → Nat → (Nat → Int32) → (Nat → Int32) → (Nat → Int32) → (Nat → Int32) → (Nat → Int32) → (Nat → Int32) → Int64 → Int64 → (Nat → Int64) → Int32 → β
def CFl (Fn : (β : Type) → KCF β → β) (c : Int32) : Prop := ∃ (b1 : Int32) (b2 : Int32) (b3 : Int32) (sv : Nat → Int32) (sr : Nat → Int32) (sl : Nat → Int64) (sp : Nat → Int32) (w2 : Nat) (w3 : Nat) (w4 : Nat) (w5 : Int32) (w6 : Int32) (w7 : Int32) (w8 : Int32) (w9 : Int32) (w10 : Int32) (w11 : Int32) (ps5 : Int32) (ps6 : Int32) (ps7 : Int32) (p2 : Nat) (te : Nat → Int32) (de : Nat → Int32) (we : Nat → Int32) (inp : Nat → Int32) (ba : Nat → Int32) (gu : Nat → Int32) (md1 : Int64) (md2 : Int64) (mi : Nat → Int64), ∀ (β : Type) (K : KCF β), Fn β K = K b1 b2 b3 sv sr sl sp w2 w3 w4 w5 w6 w7 w8 w9 w10 w11 ps5 ps6 ps7 p2 te de we inp ba gu md1 md2 mi c
def RFl (Fn : (β : Type) → KRB β → β) (fa : Nat) : Prop := ∃ (m39 : Int32) (m37 : Int32) (m38 : Nat) (m14 : Nat) (m36 : Nat) (m15 : Nat) (m32 : Nat) (m33 : Nat) (m28 : Nat) (m29 : Nat) (m27 : Int64) (m25 : Int32) (m26 : Int32) (rte : Nat → Int32) (rde : Nat → Int32) (rba : Nat → Int32) (rgu : Nat → Int32) (rw : Nat → Int32) (rh : Nat → Int32) (M : Nat → Nat) (r47 : Nat → Int32) (r44 : Nat → Int64) (r45 : Nat → Int64) (r46 : Nat → Int64) (r48 : Nat → Int32) (r41 : Nat → Int32), ∀ (β : Type) (K : KRB β), Fn β K = K m39 m37 m38 m14 m36 m15 m32 m33 fa m28 m29 m27 m25 m26 rte rde rba rgu rw rh M r47 r44 r45 r46 r48 r41 0
theorem l10 : ∀ L, L < 10 → ¬ (6 : Int32) ≤ nI L - 4 := by decide +kernel
/-- what both know behind a first stream that is read -/
def FOK (cF : (β : Type) → KCF β → β) (rF : (β : Type) → KRB β → β) : Prop := ∃ (b1 b2 F n E w' q p' p'' lo' hi' : Nat) (x1 x3 w8' w9' p6' p7' : Int32) (a b' : Int64) (mi' sl' r44' r45' r46' : Nat → Int64) (M' : Nat → Nat) (te' de' rte' rde' sv' sr' sp' we' inp' ba' gu' rw' rh' rba' rgu' r41' r47' r48' : Nat → Int32), b1 < 256 ∧ flOK b1 = true ∧ b2 ≤ 23 ∧ 1 ≤ F ∧ F ≤ 600 ∧ E ≤ 65535 ∧ PV n rte' ∧ (∀ j, j < n → te' j = rte' j) ∧ (∀ j, j < n → de' j = rde' j) ∧ BS q n (ncOf (nI b1)) F p' w' sv' sr' sp' we' inp' rw' rh' r41' r47' r48' M' mi' sl' r44' r45' r46' ∧ (∀ (β : Type) (K : KCF β), cF β K = K x1 (nI q) x3 sv' sr' sl' sp' (chOf (nI b1)) (ncOf (nI b1)) F (nI b1) (nI b2) (nI E) w8' w9' (nI w') 0 (nI (ncOf (nI b1))) p6' p7' n te' de' we' inp' ba' gu' a b' mi' 0) ∧ (∀ (β : Type) (K : KRB β), rF β K = K (nI b1) (nI b2) F n E (ncOf (nI b1)) p'' q 0 lo' hi' (lN w') w8' w9' rte' rde' rba' rgu' rw' rh' M' r47' r44' r45' r46' r48' r41' 1)
theorem rs_first {L m14 m15 m28 m29 m32 m33 m36 m38 w2 w3 w4 p2 : Nat} {b11 b12 b13 w5 w6 w7 w8 w9 w10 w11 ps5 ps6 ps7 m25 m26 m37 m39 : Int32} {f g sv sr sp te de we inp ba gu rte rde rba rgu rw rh r47 r48 r41 : Nat → Int32} {md1 md2 m27 : Int64} {mi sl r44 r45 r46 : Nat → Int64} {M : Nat → Nat} (hL2 : L ≤ 6000) (hfg : ∀ j, j < L → nb f j = nb g j) : (10 ≤ L ∧ FOK (fn_wk_X3_readFirst (nI L) f b11 b12 b13 sv sr sl sp w2 w3 w4 w5 w6 w7 w8 w9 w10 w11 ps5 ps6 ps7 p2 te de we inp ba gu md1 md2 mi) (fn_wr_X11_readsFirst m14 m15 m25 m26 m27 m28 m29 m32 m33 m36 m37 m38 m39 0 g rte rde rba rgu rw rh M r47 r44 r45 r46 r48 r41 L)) ∨ (∃ fa : Nat, 1 ≤ fa ∧ fa ≤ 6 ∧ CFl (fn_wk_X3_readFirst (nI L) f b11 b12 b13 sv sr sl sp w2 w3 w4 w5 w6 w7 w8 w9 w10 w11 ps5 ps6 ps7 p2 te de we inp ba gu md1 md2 mi) (nI fa) ∧ RFl (fn_wr_X11_readsFirst m14 m15 m25 m26 m27 m28 m29 m32 m33 m36 m37 m38 m39 0 g rte rde rba rgu rw rh M r47 r44 r45 r46 r48 r41 L) fa) := by
  by_cases hL : 10 ≤ L
  case neg =>
    refine Or.inr ⟨1, by omega, by omega, ⟨b11, b12, b13, sv, sr, sl, sp, w2, w3, w4, w5, w6, w7, w8, w9, w10, w11, ps5, ps6, ps7, p2, te, de, we, inp, ba, gu, md1, md2, mi, fun β K => ?_⟩, ⟨m39, m37, m38, m14, m36, m15, m32, m33, m28, m29, m27, m25, m26, rte, rde, rba, rgu, rw, rh, M, r47, r44, r45, r46, r48, r41, fun β K => ?_⟩⟩
    · rw [fn_wk_X3_readFirst_s, if_neg (l10 L (by omega))]
      rfl
    · rw [fn_wr_X11_readsFirst_s, fn_wr_X11_opens_s, if_neg hL, fn_wr_X11_wrong_s, if_pos rfl, if_pos rfl]
  have e4 : nI L - 4 = nI (L - 4) := pk_sub (a := L) (b := 4) (by omega)
  have h6 : (6 : Int32) ≤ nI (L - 4) := nI_le (a := 6) (b := L - 4) (by omega) (by omega)
  have ew : wdN g (L - 4) = wdN f (L - 4) := (wdN_congr (fun j h1 h2 => hfg j (by omega))).symm
  have ec : crcS (fun i => nb g (0 + i)) (L - 4) = crcS (nb f) (L - 4) := crcS_congr (L - 4) (fun j hj => by rw [Nat.zero_add]; exact (hfg j (by omega)).symm)
  by_cases hcr : nI (wdN f (L - 4)) = crcS (nb f) (L - 4) ^^^ (-1)
  case neg =>
    refine Or.inr ⟨2, by omega, by omega, ⟨b11, b12, b13, sv, sr, sl, sp, w2, w3, w4, w5, w6, w7, w8, w9, w10, w11, ps5, ps6, ps7, p2, te, de, we, inp, ba, gu, md1, md2, mi, fun β K => ?_⟩, ⟨m39, m37, m38, m14, m36, m15, m32, m33, m28, m29, m27, m25, m26, rte, rde, rba, rgu, rw, rh, M, r47, r44, r45, r46, r48, r41, fun β K => ?_⟩⟩
    · rw [fn_wk_X3_readFirst_s, e4, if_pos h6, c_wordAt (i := L - 4) rfl (by omega) hL2 (by omega), c_crc (by omega) hL2 (by omega), if_neg hcr]
      rfl
    · rw [fn_wr_X11_readsFirst_s, fn_wr_X11_opens_s, if_pos hL, r_intAt, r_crc, ew, ec, if_neg hcr, fn_wr_X11_wrong_s, if_pos rfl, if_pos rfl]
  have cpre : ∀ (β : Type) (K : KCF β), fn_wk_X3_readFirst (nI L) f b11 b12 b13 sv sr sl sp w2 w3 w4 w5 w6 w7 w8 w9 w10 w11 ps5 ps6 ps7 p2 te de we inp ba gu md1 md2 mi β K = fn_wk_X3_readHead (nI L) f b11 b12 b13 w2 w3 w4 w5 w6 w7 w8 w9 w10 w11 ps5 p2 te de we inp md1 md2 mi (nI (L - 4)) β (fun b11 b12 b13 w2 w3 w4 w5 w6 w7 w8 w9 w10 w11 ps5 p2 te de we inp md1 md2 mi r => (if r = 0 then (K b11 b12 b13 sv sr sl sp w2 w3 w4 w5 w6 w7 w8 w9 w10 w11 ps5 ps6 ps7 p2 te de we inp ba gu md1 md2 mi 3) else (fn_wk_X3_readBody f b12 w3 w4 w7 ps5 p2 te de b11 b13 sv sr sl sp w8 w9 w10 ps6 ps7 we inp ba gu md1 md2 mi β (fun b11 b13 sv sr sl sp w8 w9 w10 ps6 ps7 we inp ba gu md1 md2 mi r => (if r = 0 then (fn_wk_X0_isRestWrong 6000 b12 f b11 b13 β (fun b11 b13 r => (if r = 0 then (K b11 b12 b13 sv sr sl sp w2 w3 w4 w5 w6 w7 w8 w9 w10 w11 ps5 ps6 ps7 p2 te de we inp ba gu md1 md2 mi 0) else (K b11 b12 b13 sv sr sl sp w2 w3 w4 w5 w6 w7 w8 w9 w10 w11 ps5 ps6 ps7 p2 te de we inp ba gu md1 md2 mi 6)))) else (K b11 b12 b13 sv sr sl sp w2 w3 w4 w5 w6 w7 w8 w9 w10 w11 ps5 ps6 ps7 p2 te de we inp ba gu md1 md2 mi r)))))) := fun β K => by
    rw [fn_wk_X3_readFirst_s, e4, if_pos h6, c_wordAt (i := L - 4) rfl (by omega) hL2 (by omega), c_crc (by omega) hL2 (by omega), if_pos hcr]
  rcases rs_head (m14 := m14) (m15 := m15) (m32 := m32) (m33 := m33) (m36 := m36) (m37 := m37) (m38 := m38) (m39 := m39) (w2 := w2) (w3 := w3) (w4 := w4) (p2 := p2) (b11 := b11) (b12 := b12) (b13 := b13) (w5 := w5) (w6 := w6) (w7 := w7) (w8 := w8) (w9 := w9) (w10 := w10) (w11 := w11) (ps5 := ps5) (te := te) (de := de) (we := we) (inp := inp) (rte := rte) (rde := rde) (md1 := md1) (md2 := md2) (mi := mi) hL hL2 hfg (by rw [ew, ec]; exact hcr) with ⟨b1, b2, F, n, E, a, te', de', rte', rde', we', inp', mi', h1, h2, h3, h4, h5, h7, h8, h9, hT, z1, z2, z3, c1, r1⟩ | ⟨⟨b11', b12', b13', w2', w3', w4', w5', w6', w7', w8', w9', w10', w11', ps5', p2', te', de', we', inp', md1', md2', mi', c1⟩, ⟨m39', m37', m38', m14', m36', m15', m32', m33', rte', rde', r1⟩⟩
  · obtain ⟨rw0, rh0, M0, y1, y2, y3, rb⟩ := r_begins (x25 := m25) (x26 := m26) (x27 := m27) (w := rw) (g := rh) (M := M)
    have hncv : ncOf (nI b1) = 1 ∨ ncOf (nI b1) = 2 := by
      unfold ncOf
      split
      · exact Or.inl rfl
      · split
        · exact Or.inr rfl
        · exact Or.inl rfl
    have hPV : PV n rte' := ⟨h7, fun j hj => (hT j hj).2.2⟩
    have hS0 : BS (8 * (L - 4)) n (ncOf (nI b1)) 0 (8 * a) 0 sv sr sp we' inp' rw0 rh0 r41 r47 r48 M0 mi' sl r44 r45 r46 := by
      refine ⟨by omega, fun i hi => ?_, fun i hi => ?_, by omega, fun i hi => ?_, (fun _ => 0, fun _ _ => 0), CP_0 h7 z1 z2, RP_0 y1 y2⟩
      · rw [z3 i hi, y3 i hi]
        rfl
      · rw [y3 i hi]
        omega
      · rw [Nat.zero_mul] at hi
        exact absurd hi (Nat.not_lt_zero _)
    have hFn : F * ncOf (nI b1) ≤ 1200 := by
      have : F * ncOf (nI b1) ≤ 600 * 2 := Nat.mul_le_mul h5 (by omega)
      omega
    have hbd := bd_all (x37 := nI b2) (x39 := nI b1) (f := f) (g := g) (by omega : 8 * (L - 4) ≤ 48000) hfg (by omega) hncv h8 hPV (fun j hj => (hT j hj).1) (fun j hj => (hT j hj).2.1) (fun j _ => rfl) (fun j _ => rfl) hFn F (F + 1) ((2 * (F - 0) + (1 - 0)) + 1) 0 0 (8 * a) 0 m28 m29 0 0 sv sr sp we' inp' ba gu rw0 rh0 rba rgu r41 r47 r48 M0 mi' sl r44 r45 r46 0 0 ps6 ps7 (by omega) (by omega) (by omega) (by omega) hS0
    have cpre2 : ∀ (β : Type) (K : KCF β), fn_wk_X3_readFirst (nI L) f b11 b12 b13 sv sr sl sp w2 w3 w4 w5 w6 w7 w8 w9 w10 w11 ps5 ps6 ps7 p2 te de we inp ba gu md1 md2 mi β K = lf_wk_X3_readBody_8 f (nI (8 * (L - 4))) (ncOf (nI b1)) F (nI E) (nI (ncOf (nI b1))) n te' de' β (fun b11 b13 sv sr sl sp w8 w9 w10 ps6 ps7 we inp ba gu md1 md2 mi _ _ _ => (fn_wk_X0_isRestWrong 6000 (nI (8 * (L - 4))) f b11 b13 β (fun b11 b13 r => (if r = 0 then (K b11 (nI (8 * (L - 4))) b13 sv sr sl sp (chOf (nI b1)) (ncOf (nI b1)) F (nI b1) (nI b2) (nI E) w8 w9 w10 0 (nI (ncOf (nI b1))) ps6 ps7 n te' de' we inp ba gu md1 md2 mi 0) else (K b11 (nI (8 * (L - 4))) b13 sv sr sl sp (chOf (nI b1)) (ncOf (nI b1)) F (nI b1) (nI b2) (nI E) w8 w9 w10 0 (nI (ncOf (nI b1))) ps6 ps7 n te' de' we inp ba gu md1 md2 mi 6))))) (fun b11 b13 sv sr sl sp w8 w9 w10 ps6 ps7 we inp ba gu md1 md2 mi r => (if r = 0 then (fn_wk_X0_isRestWrong 6000 (nI (8 * (L - 4))) f b11 b13 β (fun b11 b13 r => (if r = 0 then (K b11 (nI (8 * (L - 4))) b13 sv sr sl sp (chOf (nI b1)) (ncOf (nI b1)) F (nI b1) (nI b2) (nI E) w8 w9 w10 0 (nI (ncOf (nI b1))) ps6 ps7 n te' de' we inp ba gu md1 md2 mi 0) else (K b11 (nI (8 * (L - 4))) b13 sv sr sl sp (chOf (nI b1)) (ncOf (nI b1)) F (nI b1) (nI b2) (nI E) w8 w9 w10 0 (nI (ncOf (nI b1))) ps6 ps7 n te' de' we inp ba gu md1 md2 mi 6)))) else (K b11 (nI (8 * (L - 4))) b13 sv sr sl sp (chOf (nI b1)) (ncOf (nI b1)) F (nI b1) (nI b2) (nI E) w8 w9 w10 0 (nI (ncOf (nI b1))) ps6 ps7 n te' de' we inp ba gu md1 md2 mi r))) (F + 1) (nI (8 * a)) 0 sv sr sl sp 0 0 (nI 0) ps6 ps7 we' inp' ba gu 0 0 mi' (lN 0) (nI 0) (nI 0) := fun β K => by
      rw [cpre]
      refine (c1 β _).trans ?_
      rw [if_neg (by decide), fn_wk_X3_readBody_s, fu_n (by omega)]
      rfl
    have rpre : ∀ (β : Type) (K : KRB β), fn_wr_X11_readsFirst m14 m15 m25 m26 m27 m28 m29 m32 m33 m36 m37 m38 m39 0 g rte rde rba rgu rw rh M r47 r44 r45 r46 r48 r41 L β K = lf_wr_X11_readsFirst_18 g n (ncOf (nI b1)) (8 * (L - 4)) E (nI b2) F (nI b1) rte' rde' β (fun m25 m26 m27 m28 m29 m32 m42 rba rgu rw rh M r47 r44 r45 r46 r48 r41 _ _ => (if m42 = 0 then (fn_wr_X11_isRest m32 (8 * (L - 4)) m42 g 6 β (fun m32 m42 r => (if r = 0 then (K (nI b1) (nI b2) F n E (ncOf (nI b1)) m32 (8 * (L - 4)) m42 m28 m29 m27 m25 m26 rte' rde' rba rgu rw rh M r47 r44 r45 r46 r48 r41 0) else (K (nI b1) (nI b2) F n E (ncOf (nI b1)) m32 (8 * (L - 4)) m42 m28 m29 m27 m25 m26 rte' rde' rba rgu rw rh M r47 r44 r45 r46 r48 r41 1)))) else (K (nI b1) (nI b2) F n E (ncOf (nI b1)) m32 (8 * (L - 4)) m42 m28 m29 m27 m25 m26 rte' rde' rba rgu rw rh M r47 r44 r45 r46 r48 r41 0))) K ((2 * (F - 0) + (1 - 0)) + 1) 0 0 (lN 0) m28 m29 (8 * a) 0 rba rgu rw0 rh0 M0 r47 r44 r45 r46 r48 r41 0 0 := fun β K => by
      rw [fn_wr_X11_readsFirst_s]
      refine (r1 β _).trans ?_
      rw [if_neg (by decide)]
      refine (rb β _).trans ?_
      rfl
    rcases hbd with ⟨p', w', lo', hi', w8', w9', p6', p7', a1, a2, mi2, sl2, r442, r452, r462, M2, sv2, sr2, sp2, we2, inp2, ba2, gu2, rw2, rh2, rba2, rgu2, r412, r472, r482, hS, ⟨t2, t4, t5, c2⟩, ⟨t6, t7, r2⟩⟩ | ⟨fa, hfa, ⟨x1, x3, w8', w9', wx, q6, q7, a1, a2, m, sl', sv', sr', sp', we2, inp2, ba2, gu2, c2⟩, ⟨g25, g26, g27, lo2, hi2, pb, M2, rba2, rgu2, rw2, rh2, r472, r482, r412, r442, r452, r462, r2⟩⟩
    · obtain ⟨bad, xb, pp, c3, r3⟩ := rs_rest (N := 6000) (ef := 6) (by omega : 8 * (L - 4) ≤ 8 * 6000) (by omega) hS.1 hfg (by omega)
      cases bad
      · refine Or.inl ⟨hL, b1, b2, F, n, E, w', 8 * (L - 4), p', pp, lo', hi', xb, 0, w8', w9', p6', p7', a1, a2, mi2, sl2, r442, r452, r462, M2, te', de', rte', rde', sv2, sr2, sp2, we2, inp2, ba2, gu2, rw2, rh2, rba2, rgu2, r412, r472, r482, h1, h2, h3, h4, h5, h8, hPV, fun j hj => (hT j hj).1, fun j hj => (hT j hj).2.1, hS, fun β K => ?_, fun β K => ?_⟩
        · rw [cpre2]
          refine (c2 β _ _).trans ?_
          refine (c3 β _).trans ?_
          exact if_pos rfl
        · rw [rpre]
          refine (r2 β _ _).trans ?_
          rw [if_pos rfl]
          refine (r3 β _).trans ?_
          exact if_neg (by decide)
      · refine Or.inr ⟨6, by omega, by omega, ⟨xb, nI (8 * (L - 4)), 0, sv2, sr2, sl2, sp2, chOf (nI b1), ncOf (nI b1), F, nI b1, nI b2, nI E, w8', w9', nI w', 0, nI (ncOf (nI b1)), p6', p7', n, te', de', we2, inp2, ba2, gu2, a1, a2, mi2, fun β K => ?_⟩, ⟨nI b1, nI b2, F, n, E, ncOf (nI b1), pp, 8 * (L - 4), lo', hi', lN w', w8', w9', rte', rde', rba2, rgu2, rw2, rh2, M2, r472, r442, r452, r462, r482, r412, fun β K => ?_⟩⟩
        · rw [cpre2]
          refine (c2 β _ _).trans ?_
          refine (c3 β _).trans ?_
          exact if_neg (by decide)
        · rw [rpre]
          refine (r2 β _ _).trans ?_
          rw [if_pos rfl]
          refine (r3 β _).trans ?_
          exact if_pos rfl
    · refine Or.inr ⟨fa, by omega, by omega, ⟨x1, nI (8 * (L - 4)), x3, sv', sr', sl', sp', chOf (nI b1), ncOf (nI b1), F, nI b1, nI b2, nI E, w8', w9', wx, 0, nI (ncOf (nI b1)), q6, q7, n, te', de', we2, inp2, ba2, gu2, a1, a2, m, fun β K => ?_⟩, ⟨nI b1, nI b2, F, n, E, ncOf (nI b1), pb, 8 * (L - 4), lo2, hi2, g27, g25, g26, rte', rde', rba2, rgu2, rw2, rh2, M2, r472, r442, r452, r462, r482, r412, fun β K => ?_⟩⟩
      · rw [cpre2]
        refine (c2 β _ _).trans ?_
        exact if_neg (nI_ne0 (by omega) (by omega))
      · rw [rpre]
        rcases r2 with ⟨u1, u2, r2⟩ | r2
        · refine (r2 β _ _).trans ?_
          exact if_neg (by omega)
        · exact r2 β _ _
  · refine Or.inr ⟨3, by omega, by omega, ⟨b11', b12', b13', sv, sr, sl, sp, w2', w3', w4', w5', w6', w7', w8', w9', w10', w11', ps5', ps6, ps7, p2', te', de', we', inp', ba, gu, md1', md2', mi', fun β K => ?_⟩, ⟨m39', m37', m38', m14', m36', m15', m32', m33', m28, m29, m27, m25, m26, rte', rde', rba, rgu, rw, rh, M, r47, r44, r45, r46, r48, r41, fun β K => ?_⟩⟩
    · rw [cpre]
      refine (c1 β _).trans ?_
      exact if_pos rfl
    · rw [fn_wr_X11_readsFirst_s]
      refine (r1 β _).trans ?_
      exact if_pos rfl
