/-! the second stream, all of it -/
theorem l9 : ∀ m, m < 9 → ¬ (5 : Int32) ≤ nI m - 4 := by decide +kernel
theorem tot_rest {N : Nat} {q : Int32} {f : Nat → Int32} {b1 b3 : Int32} : ∃ (a b r : Int32), ∀ (β : Type) (K : Int32 → Int32 → Int32 → β), fn_wk_X0_isRestWrong N q f b1 b3 β K = K a b r := by
  by_cases h : 7 < (q - b1)
  · exact ⟨b1, b3, 1, fun β K => by rw [fn_wk_X0_isRestWrong_s, if_pos h]⟩
  · obtain ⟨a, b, c, hb, hh⟩ := tot_bits (N := N) (q := q) (f := f) (n := q - b1) (b1 := b1) (b3 := b3)
    by_cases h2 : (lg_cmp c 0) = 0
    · refine ⟨a, b, 0, fun β K => ?_⟩
      rw [fn_wk_X0_isRestWrong_s, if_neg h]
      refine (hh β _).trans ?_
      rw [if_pos h2]
    · refine ⟨a, b, 1, fun β K => ?_⟩
      rw [fn_wk_X0_isRestWrong_s, if_neg h]
      refine (hh β _).trans ?_
      rw [if_neg h2]
theorem rs_second {L m F nch m32 m33 : Nat} {ft fs g sr sp sv r41 r47 r48 : Nat → Int32} {sl r44 r45 r46 : Nat → Int64} {b21 b22 b23 cr : Int32} (hL : 10 ≤ L) (hL2 : L ≤ 6000) (hm : m ≤ 6000) (hfg : ∀ j, j < m → nb fs j = nb g j) (hcr : cr = nI (wdN ft (L - 4))) (hF2 : nch * F ≤ 1200) (hn : nch ≤ 2) (hF : F ≤ 600) (hS : SR (F * nch) sv sr sl sp r41 r44 r45 r46 r47 r48) : (∃ (x1 x2 x3 : Int32) (p q gr : Nat) (sv' r41' : Nat → Int32), gr < 2147483648 ∧ (∀ j, j < nch * F → sv' j = r41' j) ∧ (∀ (β : Type) (K : Int32 → Int32 → Int32 → (Nat → Int32) → Int32 → Int32 → β), fn_wk_X3_readSecond (nI L) ft (nI m) fs sr sl sp nch F b21 b22 b23 sv 0 β K = K x1 x2 x3 sv' (nI gr) 0) ∧ (∀ (β : Type) (K : Nat → Nat → Nat → Int32 → (Nat → Int32) → Int32 → β), fn_wr_X11_readsSecond nch m32 m33 F 0 0 g r48 r44 r45 r46 r47 r41 m cr β K = K p q 0 (nI gr) r41' 1)) ∨ ((∃ (x1 x2 x3 w : Int32) (sv' : Nat → Int32) (fc : Nat), 1 ≤ fc ∧ fc ≤ 12 ∧ ∀ (β : Type) (K : Int32 → Int32 → Int32 → (Nat → Int32) → Int32 → Int32 → β), fn_wk_X3_readSecond (nI L) ft (nI m) fs sr sl sp nch F b21 b22 b23 sv 0 β K = K x1 x2 x3 sv' w (nI fc)) ∧ (∃ (fa a b : Nat) (c : Int32) (r41' : Nat → Int32), fa ≠ 0 ∧ fa < 16 ∧ ∀ (β : Type) (K : Nat → Nat → Nat → Int32 → (Nat → Int32) → Int32 → β), fn_wr_X11_readsSecond nch m32 m33 F 0 0 g r48 r44 r45 r46 r47 r41 m cr β K = K a b fa c r41' 0)) := by
  by_cases h9 : 9 ≤ m
  case neg =>
    refine Or.inr ⟨⟨b21, b22, b23, 0, sv, 7, by omega, by omega, fun β K => ?_⟩, ⟨7, m32, m33, 0, r41, by omega, by omega, fun β K => ?_⟩⟩
    · rw [fn_wk_X3_readSecond_s, if_neg (l9 m (by omega))]
      rfl
    · rw [fn_wr_X11_readsSecond_s, if_neg h9, fn_wr_X11_wrong_s, if_pos rfl]
  have e4 : nI m - 4 = nI (m - 4) := pk_sub (a := m) (b := 4) (by omega)
  have e4L : nI L - 4 = nI (L - 4) := pk_sub (a := L) (b := 4) (by omega)
  have h5 : (5 : Int32) ≤ nI (m - 4) := nI_le (a := 5) (b := m - 4) (by omega) (by omega)
  have ew : wdN g (m - 4) = wdN fs (m - 4) := (wdN_congr (fun j h1 h2 => hfg j (by omega))).symm
  have ew1 : wdN g 1 = wdN fs 1 := (wdN_congr (fun j h1 h2 => hfg j (by omega))).symm
  have ec : crcS (fun i => nb g (0 + i)) (m - 4) = crcS (nb fs) (m - 4) := crcS_congr (m - 4) (fun j hj => by rw [Nat.zero_add]; exact (hfg j (by omega)).symm)
  by_cases hc : nI (wdN fs (m - 4)) = crcS (nb fs) (m - 4) ^^^ (-1)
  case neg =>
    refine Or.inr ⟨⟨b21, b22, b23, 0, sv, 8, by omega, by omega, fun β K => ?_⟩, ⟨8, m32, m33, 0, r41, by omega, by omega, fun β K => ?_⟩⟩
    · rw [fn_wk_X3_readSecond_s, e4, if_pos h5, c_wordAt (i := m - 4) rfl (by omega) hm (by omega), c_crc (by omega) hm (by omega), if_neg hc]
      rfl
    · rw [fn_wr_X11_readsSecond_s, if_pos h9, r_intAt, r_crc, ew, ec, if_neg hc, fn_wr_X11_wrong_s, if_pos rfl]
  have l0 := bN_lt fs 0
  obtain ⟨-, -, -, -, -, -, -, z1, z2, -⟩ := d_tab _ l0
  have g0 : nb g 0 = bS (bN fs 0) := by rw [← hfg 0 (by omega)]; exact nb_S fs 0
  by_cases h67 : bN fs 0 = 67
  case neg =>
    refine Or.inr ⟨⟨b21, b22, b23, 0, sv, 9, by omega, by omega, fun β K => ?_⟩, ⟨9, m32, m33, 0, r41, by omega, by omega, fun β K => ?_⟩⟩
    · rw [fn_wk_X3_readSecond_s, e4, if_pos h5, c_wordAt (i := m - 4) rfl (by omega) hm (by omega), c_crc (by omega) hm (by omega), if_pos hc, e4L, c_wordAt (i := L - 4) rfl (by omega) hL2 (by omega)]
      refine (c_atN (i := 0) rfl (by omega) hm (by omega)).trans ?_
      rw [if_neg (fun h => h67 (z1.mp h))]
      rfl
    · rw [fn_wr_X11_readsSecond_s, if_pos h9, r_intAt, r_crc, ew, ec, if_pos hc, g0, if_neg (fun h => h67 (z2.mp h)), fn_wr_X11_wrong_s, if_pos rfl]
  by_cases hw1 : nI (wdN fs 1) = cr
  case neg =>
    refine Or.inr ⟨⟨b21, b22, b23, 0, sv, 9, by omega, by omega, fun β K => ?_⟩, ⟨9, m32, m33, 0, r41, by omega, by omega, fun β K => ?_⟩⟩
    · rw [fn_wk_X3_readSecond_s, e4, if_pos h5, c_wordAt (i := m - 4) rfl (by omega) hm (by omega), c_crc (by omega) hm (by omega), if_pos hc, e4L, c_wordAt (i := L - 4) rfl (by omega) hL2 (by omega)]
      refine (c_atN (i := 0) rfl (by omega) hm (by omega)).trans ?_
      rw [if_pos (z1.mpr h67)]
      refine (c_wordAt (i := 1) rfl (by omega) hm (by omega)).trans ?_
      rw [← hcr, if_neg hw1]
      rfl
    · rw [fn_wr_X11_readsSecond_s, if_pos h9, r_intAt, r_crc, ew, ec, if_pos hc, g0, if_pos (z2.mpr h67), r_intAt, ew1, if_neg hw1, fn_wr_X11_wrong_s, if_pos rfl]
  have hmc : F * nch = nch * F := Nat.mul_comm _ _
  have cpre : ∀ (β : Type) (K : Int32 → Int32 → Int32 → (Nat → Int32) → Int32 → Int32 → β), fn_wk_X3_readSecond (nI L) ft (nI m) fs sr sl sp nch F b21 b22 b23 sv 0 β K = lf_wk_X3_putRight_15 fs (nI (8 * (m - 4))) sr sl sp β (fun b1 b3 sv w l2 _ _ => (if b3 = 0 then (fn_wk_X0_isRestWrong 6000 (nI (8 * (m - 4))) fs b1 b3 β (fun b1 b3 r => (if r = 0 then (if l2 = 0 then (K b1 (nI (8 * (m - 4))) b3 sv w 0) else (K b1 (nI (8 * (m - 4))) b3 sv w 12)) else (K b1 (nI (8 * (m - 4))) b3 sv w 11)))) else (K b1 (nI (8 * (m - 4))) b3 sv w 10))) 1201 (nI 40) 0 sv (nI 0) 0 (nI (nch * F)) (nI 0) := fun β K => by
    rw [fn_wk_X3_readSecond_s, e4, if_pos h5, c_wordAt (i := m - 4) rfl (by omega) hm (by omega), c_crc (by omega) hm (by omega), if_pos hc, e4L, c_wordAt (i := L - 4) rfl (by omega) hL2 (by omega)]
    refine (c_atN (i := 0) rfl (by omega) hm (by omega)).trans ?_
    rw [if_pos (z1.mpr h67)]
    refine (c_wordAt (i := 1) rfl (by omega) hm (by omega)).trans ?_
    rw [← hcr, if_pos hw1, fn_wk_X0_start_s, fn_wk_X3_putRight_s, pk_mul, hmc, show nI (m - 4) * 8 = nI (8 * (m - 4)) from by rw [Nat.mul_comm]; exact pk_mul (m - 4) 8]
    rfl
  have rpre : ∀ (β : Type) (K : Nat → Nat → Nat → Int32 → (Nat → Int32) → Int32 → β), fn_wr_X11_readsSecond nch m32 m33 F 0 0 g r48 r44 r45 r46 r47 r41 m cr β K = lf_wr_X11_readsSecond_92 nch F g r48 r44 r45 r46 r47 m β (fun a b c d _ => (fn_wr_X11_isRest a (8 * (m - 4)) c g 11 β (fun a c r => K a (8 * (m - 4)) c b d r))) K ((nch * F - 0) + 1) 40 (nI 0) 0 r41 0 := fun β K => by
    rw [fn_wr_X11_readsSecond_s, if_pos h9, r_intAt, r_crc, ew, ec, if_pos hc, g0, if_pos (z2.mpr h67), r_intAt, ew1, if_pos hw1]
    rfl
  have hSS : ∀ i, i < nch * F → SSi sr sl sp r44 r45 r46 r47 r48 i := fun i hi => (hS i (by rw [hmc]; exact hi)).2
  rcases rs_prl hm hfg (by omega) rfl hF2 hSS (nch * F) 1201 ((nch * F - 0) + 1) 0 40 0 sv r41 (by omega) (by omega) (by omega) (by omega) (by omega) (fun j hj => (hS j (by rw [hmc]; exact hj)).1) with ⟨p', gr, sv', r41', a1, a2, a3, c1, r1⟩ | ⟨⟨x1, x3, sv', w, l2, l4, hx, c1⟩, ⟨fa, u1, u2, u3, u4, hfa, hfa2, r1⟩⟩
  · obtain ⟨bad, xb, pp, c3, r3⟩ := rs_rest (N := 6000) (ef := 11) (by omega : 8 * (m - 4) ≤ 8 * 6000) (by omega) a1 hfg (by omega)
    cases bad
    · refine Or.inl ⟨xb, nI (8 * (m - 4)), 0, pp, 8 * (m - 4), gr, sv', r41', a2, a3, fun β K => ?_, fun β K => ?_⟩
      · rw [cpre]
        refine (c1 β _).trans ?_
        rw [if_pos rfl]
        refine (c3 β _).trans ?_
        exact if_pos rfl
      · rw [rpre]
        refine (r1 β _ _).trans ?_
        exact r3 β _
    · refine Or.inr ⟨⟨xb, nI (8 * (m - 4)), 0, nI gr, sv', 11, by omega, by omega, fun β K => ?_⟩, ⟨11, pp, 8 * (m - 4), nI gr, r41', by omega, by omega, fun β K => ?_⟩⟩
      · rw [cpre]
        refine (c1 β _).trans ?_
        rw [if_pos rfl]
        refine (c3 β _).trans ?_
        exact if_neg (by decide)
      · rw [rpre]
        refine (r1 β _ _).trans ?_
        exact r3 β _
  · refine Or.inr ⟨?_, ⟨fa, u1, u2, u3, u4, hfa, hfa2, fun β K => by rw [rpre]; exact r1 β _ _⟩⟩
    by_cases hb : x3 = 0
    · have hl : l2 = 1 := by
        rcases hx with h | h
        · rw [hb] at h
          exact absurd h (by decide)
        · exact h
      obtain ⟨y1, y2, y3, hy⟩ := tot_rest (N := 6000) (q := nI (8 * (m - 4))) (f := fs) (b1 := x1) (b3 := x3)
      by_cases h0 : y3 = 0
      · refine ⟨y1, nI (8 * (m - 4)), y2, w, sv', 12, by omega, by omega, fun β K => ?_⟩
        rw [cpre]
        refine (c1 β _).trans ?_
        rw [if_pos hb]
        refine (hy β _).trans ?_
        rw [if_pos h0, if_neg (by rw [hl]; decide)]
        rfl
      · refine ⟨y1, nI (8 * (m - 4)), y2, w, sv', 11, by omega, by omega, fun β K => ?_⟩
        rw [cpre]
        refine (c1 β _).trans ?_
        rw [if_pos hb]
        refine (hy β _).trans ?_
        rw [if_neg h0]
        rfl
    · refine ⟨x1, nI (8 * (m - 4)), x3, w, sv', 10, by omega, by omega, fun β K => ?_⟩
      rw [cpre]
      refine (c1 β _).trans ?_
      rw [if_neg hb]
      rfl
