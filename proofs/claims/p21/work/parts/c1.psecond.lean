/-! the second stream read: both sides -/
def SSi (sr : Nat → Int32) (sl : Nat → Int64) (sp : Nat → Int32) (r44 r45 r46 : Nat → Int64) (r47 r48 : Nat → Int32) (i : Nat) : Prop := (r48 i = 1 ∧ ∃ (lo hi : Nat) (be : Bool), lo ≤ hi ∧ hi ≤ lo + 65535 ∧ hi ≤ 4700000000 ∧ sl i = lN lo ∧ sp i = nI (hi - lo + 1) ∧ sr i = rsN be (nrN lo hi) ∧ r44 i = lN lo ∧ r45 i = lN hi ∧ r46 i = lN (nrN lo hi) ∧ r47 i = (if be = true then 1 else 0)) ∨ (r48 i = 0 ∧ sl i = 0 ∧ sp i = 1 ∧ sr i = 0)
theorem tot_pr {q : Int32} {f sr sp : Nat → Int32} {sl : Nat → Int64} {l3 : Int32} : ∀ (fuel : Nat) (b1 b3 : Int32) (sv : Nat → Int32) (w l2 l4 : Int32), ∃ (b1' b3' : Int32) (sv' : Nat → Int32) (w' l2' l4' : Int32), (b3 = 1 → b3' = 1) ∧ (l2 = 1 → l2' = 1) ∧ ∀ (β : Type) (kx : Int32 → Int32 → (Nat → Int32) → Int32 → Int32 → Int32 → Int32 → β), lf_wk_X3_putRight_15 f q sr sl sp β kx fuel b1 b3 sv w l2 l3 l4 = kx b1' b3' sv' w' l2' l3 l4' := by
  intro fuel
  induction fuel with
  | zero => intro b1 b3 sv w l2 l4; exact ⟨b1, b3, sv, w, l2, l4, fun h => h, fun h => h, fun β kx => rfl⟩
  | succ fuel ih =>
    intro b1 b3 sv w l2 l4
    by_cases h : l3 ≤ l4
    · exact ⟨b1, b3, sv, w, l2, l4, fun h => h, fun h => h, fun β kx => by rw [lf_wk_X3_putRight_15_s, if_pos h]⟩
    · by_cases h1 : 1200 ≤ l4
      · exact ⟨b1, b3, sv, w, l2, l4, fun h => h, fun h => h, fun β kx => by rw [lf_wk_X3_putRight_15_s, if_neg h, if_pos h1]⟩
      · obtain ⟨a, b, c, hb, hT⟩ := tot_T (N := 6000) (q := q) (f := f) (n := Int32.toInt64 (sp (Int32.toNatClampNeg l4))) (b1 := b1) (b3 := b3)
        have hoff : ∀ of : Int32, ∃ w' : Int32, ∀ (β : Type) (K : Int32 → β), fn_wk_X9_noteOff w of β K = K w' := fun of => ⟨_, fun β K => fn_wk_X9_noteOff_s⟩
        by_cases h2 : (lg_cmp ((sl (Int32.toNatClampNeg l4)) + c) 2147483647) ≤ 0
        · by_cases h3 : 0 ≤ (sr (Int32.toNatClampNeg l4))
          · obtain ⟨w', ho⟩ := hoff ((Int64.toInt32 ((sl (Int32.toNatClampNeg l4)) + c)) - (sr (Int32.toNatClampNeg l4)))
            obtain ⟨a1, a2, a3, a4, a5, a6, e1, e2, hh⟩ := ih a b (upd sv (Int32.toNatClampNeg l4) ((sv (Int32.toNatClampNeg l4)) + ((Int64.toInt32 ((sl (Int32.toNatClampNeg l4)) + c)) - (sr (Int32.toNatClampNeg l4))))) w' l2 (l4 + 1)
            refine ⟨a1, a2, a3, a4, a5, a6, fun e => e1 (hb e), e2, fun β kx => ?_⟩
            rw [lf_wk_X3_putRight_15_s, if_neg h, if_neg h1]
            refine (hT β _).trans ?_
            rw [if_pos h2, if_pos h3, fnL_b]
            refine (ho β _).trans ?_
            exact hh β kx
          · obtain ⟨w', ho⟩ := hoff (((-1) - (Int64.toInt32 ((sl (Int32.toNatClampNeg l4)) + c))) - (sr (Int32.toNatClampNeg l4)))
            obtain ⟨a1, a2, a3, a4, a5, a6, e1, e2, hh⟩ := ih a b (upd sv (Int32.toNatClampNeg l4) ((sv (Int32.toNatClampNeg l4)) + (((-1) - (Int64.toInt32 ((sl (Int32.toNatClampNeg l4)) + c))) - (sr (Int32.toNatClampNeg l4))))) w' l2 (l4 + 1)
            refine ⟨a1, a2, a3, a4, a5, a6, fun e => e1 (hb e), e2, fun β kx => ?_⟩
            rw [lf_wk_X3_putRight_15_s, if_neg h, if_neg h1]
            refine (hT β _).trans ?_
            rw [if_pos h2, if_neg h3, fnL_b]
            refine (ho β _).trans ?_
            exact hh β kx
        · obtain ⟨a1, a2, a3, a4, a5, a6, e1, e2, hh⟩ := ih a b sv w 1 (l4 + 1)
          refine ⟨a1, a2, a3, a4, a5, a6, fun e => e1 (hb e), fun _ => e2 rfl, fun β kx => ?_⟩
          rw [lf_wk_X3_putRight_15_s, if_neg h, if_neg h1]
          refine (hT β _).trans ?_
          rw [if_neg h2]
          exact hh β kx
theorem r_off {be : Bool} {v nr gr : Nat} {A c : Int32} (hv : v < 2147483648) (hr : nr < 2147483648) (hg : gr < 2147483648) (hc : c = if be = true then 1 else 0) {β : Type} (G : Int32 → Int32 → β) : (if 0 ≤ (lg_cmp (lN v - lN nr) 0) then (fnL (Int64.toInt32 (lN v - lN nr)) (fun x => (if x ≤ nI gr then (if c = 0 then (fnL (A + (Int64.toInt32 (lN v - lN nr))) (fun y => G (nI gr) y)) else (fnL (A + (Int64.toInt32 (-(lN v - lN nr)))) (fun y => G (nI gr) y))) else (if c = 0 then (fnL (A + (Int64.toInt32 (lN v - lN nr))) (fun y => G x y)) else (fnL (A + (Int64.toInt32 (-(lN v - lN nr)))) (fun y => G x y)))))) else (fnL (Int64.toInt32 (-(lN v - lN nr))) (fun x => (if x ≤ nI gr then (if c = 0 then (fnL (A + (Int64.toInt32 (lN v - lN nr))) (fun y => G (nI gr) y)) else (fnL (A + (Int64.toInt32 (-(lN v - lN nr)))) (fun y => G (nI gr) y))) else (if c = 0 then (fnL (A + (Int64.toInt32 (lN v - lN nr))) (fun y => G x y)) else (fnL (A + (Int64.toInt32 (-(lN v - lN nr)))) (fun y => G x y))))))) = G (nI (max gr (dsN v nr))) (A + (rsN be v - rsN be nr)) := by
  have e1 : Int64.toInt32 (lN v - lN nr) = nI v - nI nr := by rw [Int64.toInt32_sub, lN_i, lN_i]
  have e2 : Int64.toInt32 (-(lN v - lN nr)) = nI nr - nI v := by rw [Int64.toInt32_neg, e1, Int32.neg_sub]
  have hd : dsN v nr < 2147483648 := by unfold dsN; split <;> omega
  have eb : (∀ z : Int32, (if c = 0 then G z (A + (nI v - nI nr)) else G z (A + (nI nr - nI v))) = G z (A + (rsN be v - rsN be nr))) := fun z => by
    rw [rs_sub hv hr]
    cases be
    · rw [if_pos (show c = 0 from hc)]
      rfl
    · rw [if_neg (show ¬ c = 0 from by rw [hc]; decide)]
      rfl
  have fin : ∀ x : Int32, x = nI (dsN v nr) → (if x ≤ nI gr then (if c = 0 then G (nI gr) (A + (nI v - nI nr)) else G (nI gr) (A + (nI nr - nI v))) else (if c = 0 then G x (A + (nI v - nI nr)) else G x (A + (nI nr - nI v)))) = G (nI (max gr (dsN v nr))) (A + (rsN be v - rsN be nr)) := fun x hx => by
    rw [eb, eb, hx]
    exact max_if (F := fun z => G z (A + (rsN be v - rsN be nr))) hg hd
  simp only [fnL_b]
  rw [e1, e2]
  by_cases h : nr ≤ v
  · rw [if_pos (show 0 ≤ (lg_cmp (lN v - lN nr) 0) from by rw [lN_sub h]; exact (lc_ge (a := v - nr) (b := 0) (by omega) (by omega)).mpr (by omega))]
    refine fin _ ?_
    rw [pk_sub h]
    congr 1
    unfold dsN
    split <;> omega
  · have hn : ¬ 0 ≤ (lg_cmp (lN v - lN nr) 0) := fun q => by
      have q2 := (lg_cmp_ge _ _).mp q
      have q3 := Int64.le_iff_toInt_le.mp q2
      rw [Int64.toInt_sub, pk_lT (by omega), pk_lT (by omega), show Int64.toInt 0 = 0 from by decide] at q3
      rw [Int.bmod_eq_of_le (by omega) (by omega)] at q3
      omega
    rw [if_neg hn]
    refine fin _ ?_
    rw [pk_sub (by omega)]
    congr 1
    unfold dsN
    split <;> omega
abbrev KPX (β : Type) : Type := Int32 → Int32 → (Nat → Int32) → Int32 → Int32 → Int32 → Int32 → β
theorem rs_prl {m k FN F nch : Nat} {f g sr sp r47 r48 : Nat → Int32} {sl r44 r45 r46 : Nat → Int64} (hm : m ≤ 6000) (hfg : ∀ j, j < k → nb f j = nb g j) (hk : 8 * (m - 4) ≤ 8 * k) (hFN : nch * F = FN) (hF2 : FN ≤ 1200) (hSS : ∀ i, i < FN → SSi sr sl sp r44 r45 r46 r47 r48 i) : ∀ (d fuel fuel2 i p gr : Nat) (sv r41 : Nat → Int32), i + d = FN → d < fuel → d < fuel2 → p ≤ 8 * (m - 4) → gr < 2147483648 → (∀ j, j < FN → sv j = r41 j) → (∃ (p' gr' : Nat) (sv' r41' : Nat → Int32), p' ≤ 8 * (m - 4) ∧ gr' < 2147483648 ∧ (∀ j, j < FN → sv' j = r41' j) ∧ (∀ (β : Type) (kx : KPX β), lf_wk_X3_putRight_15 f (nI (8 * (m - 4))) sr sl sp β kx fuel (nI p) 0 sv (nI gr) 0 (nI FN) (nI i) = kx (nI p') 0 sv' (nI gr') 0 (nI FN) (nI FN)) ∧ (∀ (β : Type) (kx : Nat → Int32 → Nat → (Nat → Int32) → Nat → β) (k_ : Nat → Nat → Nat → Int32 → (Nat → Int32) → Int32 → β), lf_wr_X11_readsSecond_92 nch F g r48 r44 r45 r46 r47 m β kx k_ fuel2 p (nI gr) 0 r41 i = kx p' (nI gr') 0 r41' FN)) ∨ ((∃ (b1' b3' : Int32) (sv' : Nat → Int32) (w' l2' l4' : Int32), (b3' = 1 ∨ l2' = 1) ∧ ∀ (β : Type) (kx : KPX β), lf_wk_X3_putRight_15 f (nI (8 * (m - 4))) sr sl sp β kx fuel (nI p) 0 sv (nI gr) 0 (nI FN) (nI i) = kx b1' b3' sv' w' l2' (nI FN) l4') ∧ (∃ (fa a b : Nat) (c : Int32) (r41' : Nat → Int32), fa ≠ 0 ∧ fa < 16 ∧ ∀ (β : Type) (kx : Nat → Int32 → Nat → (Nat → Int32) → Nat → β) (k_ : Nat → Nat → Nat → Int32 → (Nat → Int32) → Int32 → β), lf_wr_X11_readsSecond_92 nch F g r48 r44 r45 r46 r47 m β kx k_ fuel2 p (nI gr) 0 r41 i = k_ a b fa c r41' 0)) := by
  intro d
  induction d with
  | zero =>
    intro fuel fuel2 i p gr sv r41 hid hf hf2 hp hg hv
    obtain ⟨z, rfl⟩ : ∃ z, fuel = z + 1 := ⟨fuel - 1, by omega⟩
    obtain ⟨y, rfl⟩ : ∃ y, fuel2 = y + 1 := ⟨fuel2 - 1, by omega⟩
    have e : i = FN := by omega
    subst e
    refine Or.inl ⟨p, gr, sv, r41, hp, hg, hv, fun β kx => ?_, fun β kx k_ => ?_⟩
    · rw [lf_wk_X3_putRight_15_s, if_pos (nI_le (Nat.le_refl _) (by omega))]
    · rw [lf_wr_X11_readsSecond_92_s, if_pos (by omega)]
  | succ d ih =>
    intro fuel fuel2 i p gr sv r41 hid hf hf2 hp hg hv
    obtain ⟨z, rfl⟩ : ∃ z, fuel = z + 1 := ⟨fuel - 1, by omega⟩
    obtain ⟨y, rfl⟩ : ∃ y, fuel2 = y + 1 := ⟨fuel2 - 1, by omega⟩
    have hc1 : ¬ nI FN ≤ nI i := nI_ge (by omega) (by omega)
    have hc2 : ¬ (1200 : Int32) ≤ nI i := nI_ge (a := i) (b := 1200) (by omega) (by omega)
    have hcl : Int32.toNatClampNeg (nI i) = i := nI_clamp (by omega)
    rcases hSS i (by omega) with ⟨h48, lo, hi, be, a1, a2, a3, hsl, hsp, hsr, h44, h45, h46, h47⟩ | ⟨h48, hsl, hsp, hsr⟩
    · rcases rs_T (n := hi - lo + 1) (by omega : 8 * (m - 4) ≤ 48000) hp hfg hk (by omega) (by omega) with ⟨p', o, b1, b2, b3, cT, rT⟩ | ⟨⟨x, cT⟩, ⟨v, rT⟩⟩
      · by_cases hbig : lo + o ≤ 2147483647
        · have eb1 : (lg_cmp (lN (lo + o)) 2147483647) ≤ 0 := (lc_le (a := lo + o) (b := 2147483647) (by omega) (by omega)).mpr hbig
          have hnr : nrN lo hi < 2147483648 := nr_lt
          have hds : dsN (lo + o) (nrN lo hi) < 2147483648 := by unfold dsN; split <;> omega
          have cs : ∀ (β : Type) (kx : KPX β), lf_wk_X3_putRight_15 f (nI (8 * (m - 4))) sr sl sp β kx (z + 1) (nI p) 0 sv (nI gr) 0 (nI FN) (nI i) = lf_wk_X3_putRight_15 f (nI (8 * (m - 4))) sr sl sp β kx z (nI p') 0 (upd sv i (sv i + (rsN be (lo + o) - rsN be (nrN lo hi)))) (nI (max gr (dsN (lo + o) (nrN lo hi)))) 0 (nI FN) (nI (i + 1)) := fun β kx => by
            rw [lf_wk_X3_putRight_15_s, if_neg hc1, if_neg hc2, hcl, hsp, nI_l (by omega)]
            refine (cT β _).trans ?_
            rw [hsl, lN_add, if_pos eb1, hsr, lN_i, nI_1]
            cases be
            · rw [if_pos (show 0 ≤ rsN false (nrN lo hi) from nI_pos' hnr), fnL_b]
              exact c_noteOff (be := false) hg (by omega) hnr
            · rw [if_neg (show ¬ 0 ≤ rsN true (nrN lo hi) from rs_neg hnr), fnL_b]
              exact c_noteOff (be := true) hg (by omega) hnr
          have rs : ∀ (β : Type) (kx : Nat → Int32 → Nat → (Nat → Int32) → Nat → β) (k_ : Nat → Nat → Nat → Int32 → (Nat → Int32) → Int32 → β), lf_wr_X11_readsSecond_92 nch F g r48 r44 r45 r46 r47 m β kx k_ (y + 1) p (nI gr) 0 r41 i = lf_wr_X11_readsSecond_92 nch F g r48 r44 r45 r46 r47 m β kx k_ y p' (nI (max gr (dsN (lo + o) (nrN lo hi)))) 0 (upd r41 i (r41 i + (rsN be (lo + o) - rsN be (nrN lo hi)))) (i + 1) := fun β kx k_ => by
            rw [lf_wr_X11_readsSecond_92_s, if_neg (by omega), if_neg (show ¬ r48 i = 0 from by rw [h48]; decide), h45, h44, lN_sub a1, lN_1]
            refine (rT β _).trans ?_
            rw [if_pos (Nat.le_refl _), lN_add, if_pos eb1, h46]
            exact r_off (be := be) (by omega) hnr hg h47 (fun a b => lf_wr_X11_readsSecond_92 nch F g r48 r44 r45 r46 r47 m β kx k_ y p' a 0 (upd r41 i b) (i + 1))
          have hv2 : ∀ j, j < FN → (upd sv i (sv i + (rsN be (lo + o) - rsN be (nrN lo hi)))) j = (upd r41 i (r41 i + (rsN be (lo + o) - rsN be (nrN lo hi)))) j := fun j hj => by
            by_cases e : j = i
            · rw [e, pk_us, pk_us, hv i (by omega)]
            · rw [pk_un e, pk_un e, hv j hj]
          rcases ih z y (i + 1) p' (max gr (dsN (lo + o) (nrN lo hi))) _ _ (by omega) (by omega) (by omega) b2 (by omega) hv2 with ⟨p2, gr2, sv2, r412, d1, d2, d3, c2, r2⟩ | ⟨⟨x1, x3, sv2, w2, l22, l42, hx, c2⟩, ⟨fa, u1, u2, u3, u4, hfa, hfa2, r2⟩⟩
          · exact Or.inl ⟨p2, gr2, sv2, r412, d1, d2, d3, fun β kx => (cs β kx).trans (c2 β kx), fun β kx k_ => (rs β kx k_).trans (r2 β kx k_)⟩
          · exact Or.inr ⟨⟨x1, x3, sv2, w2, l22, l42, hx, fun β kx => (cs β kx).trans (c2 β kx)⟩, ⟨fa, u1, u2, u3, u4, hfa, hfa2, fun β kx k_ => (rs β kx k_).trans (r2 β kx k_)⟩⟩
        · have eb1 : ¬ (lg_cmp (lN (lo + o)) 2147483647) ≤ 0 := fun h => hbig ((lc_le (a := lo + o) (b := 2147483647) (by omega) (by omega)).mp h)
          obtain ⟨x1, x3, sv2, w2, l22, l42, e1, e2, hh⟩ := tot_pr (q := nI (8 * (m - 4))) (f := f) (sr := sr) (sp := sp) (sl := sl) (l3 := nI FN) z (nI p') 0 sv (nI gr) 1 (nI i + 1)
          refine Or.inr ⟨⟨x1, x3, sv2, w2, l22, l42, Or.inr (e2 rfl), fun β kx => ?_⟩, ⟨12, p', 8 * (m - 4), nI gr, r41, by omega, by omega, fun β kx k_ => ?_⟩⟩
          · rw [lf_wk_X3_putRight_15_s, if_neg hc1, if_neg hc2, hcl, hsp, nI_l (by omega)]
            refine (cT β _).trans ?_
            rw [hsl, lN_add, if_neg eb1]
            exact hh β kx
          · rw [lf_wr_X11_readsSecond_92_s, if_neg (by omega), if_neg (show ¬ r48 i = 0 from by rw [h48]; decide), h45, h44, lN_sub a1, lN_1]
            refine (rT β _).trans ?_
            rw [if_pos (Nat.le_refl _), lN_add, if_neg eb1, fn_wr_X11_wrong_s, if_pos rfl]
      · refine Or.inr ⟨?_, ⟨10, 8 * (m - 4), 8 * (m - 4), nI gr, r41, by omega, by omega, fun β kx k_ => ?_⟩⟩
        · have hoff : ∀ of : Int32, ∃ w' : Int32, ∀ (β : Type) (K : Int32 → β), fn_wk_X9_noteOff (nI gr) of β K = K w' := fun of => ⟨_, fun β K => fn_wk_X9_noteOff_s⟩
          by_cases h2 : (lg_cmp (lN lo + x) 2147483647) ≤ 0
          · by_cases h3 : 0 ≤ rsN be (nrN lo hi)
            · obtain ⟨w', ho⟩ := hoff ((Int64.toInt32 (lN lo + x)) - rsN be (nrN lo hi))
              obtain ⟨x1, x3, sv2, w2, l22, l42, e1, e2, hh⟩ := tot_pr (q := nI (8 * (m - 4))) (f := f) (sr := sr) (sp := sp) (sl := sl) (l3 := nI FN) z (nI (8 * (m - 4))) 1 (upd sv i (sv i + ((Int64.toInt32 (lN lo + x)) - rsN be (nrN lo hi)))) w' 0 (nI i + 1)
              refine ⟨x1, x3, sv2, w2, l22, l42, Or.inl (e1 rfl), fun β kx => ?_⟩
              rw [lf_wk_X3_putRight_15_s, if_neg hc1, if_neg hc2, hcl, hsp, nI_l (by omega)]
              refine (cT β _).trans ?_
              rw [hsl, if_pos h2, hsr, if_pos h3, fnL_b]
              refine (ho β _).trans ?_
              exact hh β kx
            · obtain ⟨w', ho⟩ := hoff (((-1) - (Int64.toInt32 (lN lo + x))) - rsN be (nrN lo hi))
              obtain ⟨x1, x3, sv2, w2, l22, l42, e1, e2, hh⟩ := tot_pr (q := nI (8 * (m - 4))) (f := f) (sr := sr) (sp := sp) (sl := sl) (l3 := nI FN) z (nI (8 * (m - 4))) 1 (upd sv i (sv i + (((-1) - (Int64.toInt32 (lN lo + x))) - rsN be (nrN lo hi)))) w' 0 (nI i + 1)
              refine ⟨x1, x3, sv2, w2, l22, l42, Or.inl (e1 rfl), fun β kx => ?_⟩
              rw [lf_wk_X3_putRight_15_s, if_neg hc1, if_neg hc2, hcl, hsp, nI_l (by omega)]
              refine (cT β _).trans ?_
              rw [hsl, if_pos h2, hsr, if_neg h3, fnL_b]
              refine (ho β _).trans ?_
              exact hh β kx
          · obtain ⟨x1, x3, sv2, w2, l22, l42, e1, e2, hh⟩ := tot_pr (q := nI (8 * (m - 4))) (f := f) (sr := sr) (sp := sp) (sl := sl) (l3 := nI FN) z (nI (8 * (m - 4))) 1 sv (nI gr) 1 (nI i + 1)
            refine ⟨x1, x3, sv2, w2, l22, l42, Or.inl (e1 rfl), fun β kx => ?_⟩
            rw [lf_wk_X3_putRight_15_s, if_neg hc1, if_neg hc2, hcl, hsp, nI_l (by omega)]
            refine (cT β _).trans ?_
            rw [hsl, if_neg h2]
            exact hh β kx
        · rw [lf_wr_X11_readsSecond_92_s, if_neg (by omega), if_neg (show ¬ r48 i = 0 from by rw [h48]; decide), h45, h44, lN_sub a1, lN_1]
          refine (rT β _).trans ?_
          rw [if_neg (by omega)]
    · have cT : ∀ (β : Type) (K : Int32 → Int32 → Int64 → β), fn_wk_X0_readT 6000 (nI (8 * (m - 4))) f (nI p) 0 (Int32.toInt64 1) β K = K (nI p) 0 0 := fun β K => by
        rw [fn_wk_X0_readT_s]
        refine (c_hb (a := 1) (by omega) (by omega)).trans ?_
        refine (c_rb_ok (N := 6000) (n := 0) (by omega) (by omega) (by omega) (by omega)).trans ?_
        exact if_neg (show ¬ 0 ≤ lg_cmp (lN 0) ((2 : Int64) <<< (Int32.toInt64 (nI (Nat.log2 1)) &&& 63) - Int32.toInt64 1) from by decide)
      have e0 : sv i + ((0 : Int32) - 0) = sv i := by
        rw [show (0 : Int32) - 0 = 0 from by decide, Int32.add_zero]
      have cs : ∀ (β : Type) (kx : KPX β), lf_wk_X3_putRight_15 f (nI (8 * (m - 4))) sr sl sp β kx (z + 1) (nI p) 0 sv (nI gr) 0 (nI FN) (nI i) = lf_wk_X3_putRight_15 f (nI (8 * (m - 4))) sr sl sp β kx z (nI p) 0 sv (nI gr) 0 (nI FN) (nI (i + 1)) := fun β kx => by
        rw [lf_wk_X3_putRight_15_s, if_neg hc1, if_neg hc2, hcl, hsp]
        refine (cT β _).trans ?_
        rw [hsl, if_pos (by decide), hsr, if_pos (by decide), fnL_b, show Int64.toInt32 ((0 : Int64) + 0) = 0 from by decide, e0, upd_same, nI_1]
        refine (c_noteOff (be := false) (v := 0) (r := 0) hg (by omega) (by omega)).trans ?_
        rw [show dsN 0 0 = 0 from rfl, Nat.max_zero]
      have rs : ∀ (β : Type) (kx : Nat → Int32 → Nat → (Nat → Int32) → Nat → β) (k_ : Nat → Nat → Nat → Int32 → (Nat → Int32) → Int32 → β), lf_wr_X11_readsSecond_92 nch F g r48 r44 r45 r46 r47 m β kx k_ (y + 1) p (nI gr) 0 r41 i = lf_wr_X11_readsSecond_92 nch F g r48 r44 r45 r46 r47 m β kx k_ y p (nI gr) 0 r41 (i + 1) := fun β kx k_ => by
        rw [lf_wr_X11_readsSecond_92_s, if_neg (by omega), if_pos h48]
      rcases ih z y (i + 1) p gr sv r41 (by omega) (by omega) (by omega) hp hg hv with ⟨p2, gr2, sv2, r412, d1, d2, d3, c2, r2⟩ | ⟨⟨x1, x3, sv2, w2, l22, l42, hx, c2⟩, ⟨fa, u1, u2, u3, u4, hfa, hfa2, r2⟩⟩
      · exact Or.inl ⟨p2, gr2, sv2, r412, d1, d2, d3, fun β kx => (cs β kx).trans (c2 β kx), fun β kx k_ => (rs β kx k_).trans (r2 β kx k_)⟩
      · exact Or.inr ⟨⟨x1, x3, sv2, w2, l22, l42, hx, fun β kx => (cs β kx).trans (c2 β kx)⟩, ⟨fa, u1, u2, u3, u4, hfa, hfa2, fun β kx k_ => (rs β kx k_).trans (r2 β kx k_)⟩⟩
