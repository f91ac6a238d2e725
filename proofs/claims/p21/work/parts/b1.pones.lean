/-! one bit, ONES, halving: both readers -/
theorem rs_bit {p q k : Nat} {f g : Nat → Int32} (hq : q ≤ 48000) (hpq : p ≤ q) (hfg : ∀ j, j < k → nb f j = nb g j) (hk : q ≤ 8 * k) : (p < q ∧ ∃ x, x ≤ 1 ∧ (∀ (β : Type) (K : Int32 → Int32 → Int64 → β), fn_wk_X0_readBits 6000 (nI q) f (nI p) 0 1 β K = K (nI (p + 1)) 0 (lN x)) ∧ (∀ (β : Type) (K : Nat → Nat → Nat → β), fn_wr_X11_next p q 0 g 4 β K = K (p + 1) 0 x)) ∨ (p = q ∧ (∃ x : Int64, ∀ (β : Type) (K : Int32 → Int32 → Int64 → β), fn_wk_X0_readBits 6000 (nI q) f (nI p) 0 1 β K = K (nI q) 1 x) ∧ (∀ (β : Type) (K : Nat → Nat → Nat → β), fn_wr_X11_next p q 0 g 4 β K = K q 4 0)) := by
  by_cases h : p < q
  · refine Or.inl ⟨h, rdV f p 1, by have := rdV_lt f p 1; omega, fun β K => ?_, fun β K => ?_⟩
    · exact c_rb_ok (N := 6000) (n := 1) (by omega) (by omega) (by omega) (by omega)
    · rw [r_next_ok h]
      have e : tb g p = rdV f p 1 := by
        show tb g p = 2 * 0 + tb f (p + 0)
        rw [Nat.add_zero, tb_congr hfg (by omega), Nat.mul_zero, Nat.zero_add]
      rw [e]
  · have e : p = q := by omega
    obtain ⟨v, hv⟩ := c_rb_end (N := 6000) (n := 1) (f := f) (e := 0) (p := p) (q := q) (by omega) (by omega) (by omega) hpq (by omega)
    refine Or.inr ⟨e, ⟨v, hv⟩, fun β K => ?_⟩
    rw [e]
    exact r_next_end
theorem c_ro_e {q : Nat} {f : Nat → Int32} (hq : q ≤ 48000) : ∀ (fuel : Nat) (l1 : Int32), ∃ l1' : Int32, ∀ (β : Type) (kx : Int32 → Int32 → Int32 → β), lf_wk_X0_readOnes_2 6000 (nI q) f β kx fuel (nI q) 1 l1 = kx (nI q) 1 l1' := by
  intro fuel
  induction fuel with
  | zero => intro l1; exact ⟨l1, fun β kx => rfl⟩
  | succ fuel ih =>
    intro l1
    by_cases h : 16 ≤ l1
    · exact ⟨l1, fun β kx => by rw [lf_wk_X0_readOnes_2_s, if_pos h]⟩
    · obtain ⟨v, hv⟩ := c_rb_e (N := 6000) (q := q) (f := f) (n := 1) (by omega) (by omega)
      by_cases h2 : (lg_cmp v 1) = 0
      · obtain ⟨l', hl⟩ := ih (l1 + 1)
        refine ⟨l', fun β kx => ?_⟩
        rw [lf_wk_X0_readOnes_2_s, if_neg h]
        refine (hv β _).trans ?_
        rw [if_pos h2]
        exact hl β kx
      · refine ⟨l1, fun β kx => ?_⟩
        rw [lf_wk_X0_readOnes_2_s, if_neg h]
        refine (hv β _).trans ?_
        rw [if_neg h2]
theorem rs_onl {q k : Nat} {f g : Nat → Int32} (hq : q ≤ 48000) (hfg : ∀ j, j < k → nb f j = nb g j) (hk : q ≤ 8 * k) : ∀ (d fuel fuel2 l p : Nat), l + d = 16 → d < fuel → d < fuel2 → p ≤ q → (∃ p' on, p ≤ p' ∧ p' ≤ q ∧ on ≤ 16 ∧ (∀ (β : Type) (kx : Int32 → Int32 → Int32 → β), lf_wk_X0_readOnes_2 6000 (nI q) f β kx fuel (nI p) 0 (nI l) = kx (nI p') 0 (nI on)) ∧ (∀ (β : Type) (kx : Nat → Nat → Nat → β), lf_wr_X11_reads_9 q g β kx fuel2 p 0 l = kx p' 0 on)) ∨ ((∃ x : Int32, ∀ (β : Type) (kx : Int32 → Int32 → Int32 → β), lf_wk_X0_readOnes_2 6000 (nI q) f β kx fuel (nI p) 0 (nI l) = kx (nI q) 1 x) ∧ (∃ y : Nat, ∀ (β : Type) (kx : Nat → Nat → Nat → β), lf_wr_X11_reads_9 q g β kx fuel2 p 0 l = kx q 4 y)) := by
  intro d
  induction d with
  | zero =>
    intro fuel fuel2 l p hl hf hf2 hpq
    obtain ⟨z, rfl⟩ : ∃ z, fuel = z + 1 := ⟨fuel - 1, by omega⟩
    obtain ⟨y, rfl⟩ : ∃ y, fuel2 = y + 1 := ⟨fuel2 - 1, by omega⟩
    have e : l = 16 := by omega
    subst e
    refine Or.inl ⟨p, 16, Nat.le_refl _, hpq, Nat.le_refl _, fun β kx => ?_, fun β kx => ?_⟩
    · rw [lf_wk_X0_readOnes_2_s, if_pos (show (16 : Int32) ≤ nI 16 from by decide)]
    · rw [lf_wr_X11_reads_9_s, if_pos (Nat.le_refl _)]
  | succ d ih =>
    intro fuel fuel2 l p hl hf hf2 hpq
    obtain ⟨z, rfl⟩ : ∃ z, fuel = z + 1 := ⟨fuel - 1, by omega⟩
    obtain ⟨y, rfl⟩ : ∃ y, fuel2 = y + 1 := ⟨fuel2 - 1, by omega⟩
    have hl16 : ¬ (16 : Int32) ≤ nI l := nI_ge (a := l) (b := 16) (by omega) (by omega)
    rcases rs_bit hq hpq hfg hk with ⟨hlt, x, hx, c1, r1⟩ | ⟨he, ⟨v, c1⟩, r1⟩
    · by_cases hx1 : x = 1
      · have e1 : (lg_cmp (lN x) 1) = 0 := (lc_eq (a := x) (b := 1) (by omega) (by omega)).mpr hx1
        rcases ih z y (l + 1) (p + 1) (by omega) (by omega) (by omega) (by omega) with ⟨p', on, a1, a2, a3, c2, r2⟩ | ⟨⟨w, c2⟩, ⟨u, r2⟩⟩
        · refine Or.inl ⟨p', on, by omega, a2, a3, fun β kx => ?_, fun β kx => ?_⟩
          · rw [lf_wk_X0_readOnes_2_s, if_neg hl16]
            refine (c1 β _).trans ?_
            rw [if_pos e1, nI_1]
            exact c2 β kx
          · rw [lf_wr_X11_reads_9_s, if_neg (by omega), if_pos rfl]
            refine (r1 β _).trans ?_
            rw [if_pos hx1]
            exact r2 β kx
        · refine Or.inr ⟨⟨w, fun β kx => ?_⟩, ⟨u, fun β kx => ?_⟩⟩
          · rw [lf_wk_X0_readOnes_2_s, if_neg hl16]
            refine (c1 β _).trans ?_
            rw [if_pos e1, nI_1]
            exact c2 β kx
          · rw [lf_wr_X11_reads_9_s, if_neg (by omega), if_pos rfl]
            refine (r1 β _).trans ?_
            rw [if_pos hx1]
            exact r2 β kx
      · have e1 : ¬ (lg_cmp (lN x) 1) = 0 := fun h => hx1 ((lc_eq (a := x) (b := 1) (by omega) (by omega)).mp h)
        refine Or.inl ⟨p + 1, l, by omega, by omega, by omega, fun β kx => ?_, fun β kx => ?_⟩
        · rw [lf_wk_X0_readOnes_2_s, if_neg hl16]
          refine (c1 β _).trans ?_
          rw [if_neg e1]
        · rw [lf_wr_X11_reads_9_s, if_neg (by omega), if_pos rfl]
          refine (r1 β _).trans ?_
          rw [if_neg hx1]
    · refine Or.inr ⟨?_, ⟨l, fun β kx => ?_⟩⟩
      · by_cases h2 : (lg_cmp v 1) = 0
        · obtain ⟨w, hw⟩ := c_ro_e (f := f) hq z (nI l + 1)
          refine ⟨w, fun β kx => ?_⟩
          rw [lf_wk_X0_readOnes_2_s, if_neg hl16]
          refine (c1 β _).trans ?_
          rw [if_pos h2]
          exact hw β kx
        · refine ⟨nI l, fun β kx => ?_⟩
          rw [lf_wk_X0_readOnes_2_s, if_neg hl16]
          refine (c1 β _).trans ?_
          rw [if_neg h2]
      · rw [lf_wr_X11_reads_9_s, if_neg (by omega), if_pos rfl]
        refine (r1 β _).trans ?_
        rw [if_neg (by omega)]
/-- the class behind ONES -/
def cAO (f : Nat → Int32) (q E : Int32) (p1 w10 : Int32) (md1 md2 : Int64) (mi : Nat → Int64) (c : Int32) (on : Int64) (β : Type) (K : Int32 → Int32 → Int32 → Int64 → Int64 → (Nat → Int64) → Int32 → β) : β := if (lg_cmp on 2147483647) ≤ 0 then (fn_wk_X5_bound mi c on β (fun a b m => (if (lg_cmp a 2147483647) ≤ 0 then (fn_wk_X9_noteOnes w10 on β (fun w => (lf_wk_X3_readBounds_89 f q E β (fun y1 y3 yw ya yb ym _ _ _ => (if y3 = 0 then (K y1 y3 yw ya yb ym 0) else (K y1 y3 yw ya yb ym 4))) ((Int32.toInt 64 - Int32.toInt 0).toNat + 1) p1 0 w a b m c on 0))) else (K p1 0 w10 a b m 5)))) else (K p1 0 w10 md1 md2 mi 5)
theorem rs_on {p q k : Nat} {f g : Nat → Int32} {E w10 c : Int32} {md1 md2 : Int64} {mi : Nat → Int64} (hq : q ≤ 48000) (hpq : p ≤ q) (hfg : ∀ j, j < k → nb f j = nb g j) (hk : q ≤ 8 * k) : (∃ p1 on, p ≤ p1 ∧ p1 ≤ q ∧ on ≤ 4294967310 ∧ (∀ (β : Type) (K : Int32 → Int32 → Int32 → Int64 → Int64 → (Nat → Int64) → Int32 → β), fn_wk_X3_readBounds f (nI q) E (nI p) 0 w10 md1 md2 mi c β K = cAO f (nI q) E (nI p1) w10 md1 md2 mi c (lN on) β K) ∧ (∀ (β : Type) (J : Nat → Nat → Nat → β), lf_wr_X11_reads_9 q g β (fun a b l => (if l = 16 then (if b = 0 then (fn_wr_X11_nextG a q b g β (fun a' b' z => J a' b' (15 + z))) else J a b l) else J a b l)) ((16 - 0) + 1) p 0 0 = J p1 0 on)) ∨ ((∀ (β : Type) (K : Int32 → Int32 → Int32 → Int64 → Int64 → (Nat → Int64) → Int32 → β), fn_wk_X3_readBounds f (nI q) E (nI p) 0 w10 md1 md2 mi c β K = K (nI q) 1 w10 md1 md2 mi 4) ∧ (∃ y, ∀ (β : Type) (J : Nat → Nat → Nat → β), lf_wr_X11_reads_9 q g β (fun a b l => (if l = 16 then (if b = 0 then (fn_wr_X11_nextG a q b g β (fun a' b' z => J a' b' (15 + z))) else J a b l) else J a b l)) ((16 - 0) + 1) p 0 0 = J q 4 y)) := by
  have hfu : ((Int32.toInt 16 - Int32.toInt 0).toNat + 1) = 17 := by decide
  rcases rs_onl hq hfg hk 16 17 17 0 p (by omega) (by omega) (by omega) hpq with ⟨p1, on, a1, a2, a3, c1, r1⟩ | ⟨⟨x, c1⟩, ⟨y, r1⟩⟩
  · by_cases h16 : on = 16
    · subst h16
      rcases (rs_G (N := 6000) (by omega) (by omega) a2 hfg hk).1 with ⟨p2, v, b1, b2, b3, c2, r2⟩ | ⟨⟨x, c2⟩, ⟨y, r2⟩⟩
      · refine Or.inl ⟨p2, 15 + v, by omega, b2, by omega, fun β K => ?_, fun β J => ?_⟩
        · rw [fn_wk_X3_readBounds_s, fn_wk_X0_readOnes_s, hfu]
          refine (c1 β _).trans ?_
          rw [if_pos (show (lg_cmp (Int32.toInt64 (nI 16)) 16) = 0 from by decide)]
          refine (c2 β _).trans ?_
          rw [if_pos rfl, show lN v + 15 = lN (15 + v) by rw [Nat.add_comm]; exact lN_add v 15]
          rfl
        · refine (r1 β _).trans ?_
          rw [if_pos rfl, if_pos rfl]
          exact r2 β _
      · refine Or.inr ⟨fun β K => ?_, ⟨15 + y, fun β J => ?_⟩⟩
        · rw [fn_wk_X3_readBounds_s, fn_wk_X0_readOnes_s, hfu]
          refine (c1 β _).trans ?_
          rw [if_pos (show (lg_cmp (Int32.toInt64 (nI 16)) 16) = 0 from by decide)]
          refine (c2 β _).trans ?_
          rw [if_neg (by decide)]
        · refine (r1 β _).trans ?_
          rw [if_pos rfl, if_pos rfl]
          exact r2 β _
    · refine Or.inl ⟨p1, on, a1, a2, by omega, fun β K => ?_, fun β J => ?_⟩
      · rw [fn_wk_X3_readBounds_s, fn_wk_X0_readOnes_s, hfu]
        refine (c1 β _).trans ?_
        rw [nI_l (by omega), if_neg (show ¬ (lg_cmp (lN on) 16) = 0 from fun h => h16 ((lc_eq (a := on) (b := 16) (by omega) (by omega)).mp h)), if_pos rfl]
        rfl
      · refine (r1 β _).trans ?_
        rw [if_neg h16]
  · refine Or.inr ⟨fun β K => ?_, ?_⟩
    · rw [fn_wk_X3_readBounds_s, fn_wk_X0_readOnes_s, hfu]
      refine (c1 β _).trans ?_
      by_cases h : (lg_cmp (Int32.toInt64 x) 16) = 0
      · obtain ⟨v, c2⟩ : ∃ v : Int64, ∀ (β : Type) (K : Int32 → Int32 → Int64 → β), fn_wk_X0_readG 6000 (nI q) f (nI q) 1 β K = K (nI q) 1 v := by
          obtain ⟨u, hu⟩ := c_rb_e (N := 6000) (q := q) (f := f) (n := 5) (by omega) (by omega)
          obtain ⟨v, hv⟩ := c_rb_e (N := 6000) (q := q) (f := f) (n := Int64.toInt32 u) (by omega) (by omega)
          refine ⟨((1 : Int64) <<< (Int32.toInt64 (Int64.toInt32 u) &&& 63)) ||| v, fun β K => ?_⟩
          rw [fn_wk_X0_readG_s]
          refine (hu β _).trans ?_
          exact hv β _
        rw [if_pos h]
        refine (c2 β _).trans ?_
        rw [if_neg (by decide)]
      · rw [if_neg h, if_neg (by decide)]
    · by_cases h : y = 16
      · refine ⟨y, fun β J => ?_⟩
        refine (r1 β _).trans ?_
        rw [if_pos h, if_neg (by decide)]
      · refine ⟨y, fun β J => ?_⟩
        refine (r1 β _).trans ?_
        rw [if_neg h]
/-- the halving, behind the end -/
theorem c_hl_e {q : Nat} {f : Nat → Int32} {E w10 l2 : Int32} {mi : Nat → Int64} {l4 : Int64} (hq : q ≤ 48000) : ∀ (fuel : Nat) (a b : Int64) (l6 : Int32), ∃ (a' b' : Int64) (l6' : Int32), ∀ (β : Type) (kx : Int32 → Int32 → Int32 → Int64 → Int64 → (Nat → Int64) → Int32 → Int64 → Int32 → β), lf_wk_X3_readBounds_89 f (nI q) E β kx fuel (nI q) 1 w10 a b mi l2 l4 l6 = kx (nI q) 1 w10 a' b' mi l2 l4 l6' := by
  intro fuel
  induction fuel with
  | zero => intro a b l6; exact ⟨a, b, l6, fun β kx => rfl⟩
  | succ fuel ih =>
    intro a b l6
    by_cases h : 64 ≤ l6
    · exact ⟨a, b, l6, fun β kx => by rw [lf_wk_X3_readBounds_89_s, if_pos h]⟩
    · by_cases h1 : (lg_cmp (b - a) (Int32.toInt64 E)) ≤ 0
      · exact ⟨a, b, l6, fun β kx => by rw [lf_wk_X3_readBounds_89_s, if_neg h, if_pos h1]⟩
      · obtain ⟨v, hv⟩ := c_rb_e (N := 6000) (q := q) (f := f) (n := 1) (by omega) (by omega)
        have hh : ∀ u : Int32, ∃ a1 b1 : Int64, ∀ (β : Type) (K : Int64 → Int64 → β), fn_wk_X5_halve a b u β K = K a1 b1 := fun u => by
          by_cases hu : u = 0
          · exact ⟨_, _, fun β K => by rw [fn_wk_X5_halve_s, if_pos hu, fn_wk_X5_mid_s]⟩
          · exact ⟨_, _, fun β K => by rw [fn_wk_X5_halve_s, if_neg hu, fn_wk_X5_mid_s]⟩
        by_cases h2 : (lg_cmp v 1) = 0
        · obtain ⟨a1, b1, hh1⟩ := hh 1
          obtain ⟨a2, b2, l2', hi⟩ := ih a1 b1 (l6 + 1)
          refine ⟨a2, b2, l2', fun β kx => ?_⟩
          rw [lf_wk_X3_readBounds_89_s, if_neg h, if_neg h1]
          refine (hv β _).trans ?_
          rw [if_pos h2]
          refine (hh1 β _).trans ?_
          exact hi β kx
        · obtain ⟨a1, b1, hh1⟩ := hh 0
          obtain ⟨a2, b2, l2', hi⟩ := ih a1 b1 (l6 + 1)
          refine ⟨a2, b2, l2', fun β kx => ?_⟩
          rw [lf_wk_X3_readBounds_89_s, if_neg h, if_neg h1]
          refine (hv β _).trans ?_
          rw [if_neg h2]
          refine (hh1 β _).trans ?_
          exact hi β kx
theorem rs_hv {q k E : Nat} {f g : Nat → Int32} {w10 l2 : Int32} {mi : Nat → Int64} {l4 : Int64} (hq : q ≤ 48000) (hfg : ∀ j, j < k → nb f j = nb g j) (hk : q ≤ 8 * k) (hE : E < 2147483648) : ∀ (n fuel fuel2 i lo hi p : Nat), i + n = 64 → n < fuel → hi - lo < fuel2 → lo ≤ hi → hi - lo < 2 ^ n → hi < 2305843009213693000 → p ≤ q → (∃ p' lo' hi' : Nat, ∃ i' : Int32, p ≤ p' ∧ p' ≤ q ∧ lo ≤ lo' ∧ lo' ≤ hi' ∧ hi' ≤ hi ∧ hi' - lo' ≤ E ∧ (∀ (β : Type) (kx : Int32 → Int32 → Int32 → Int64 → Int64 → (Nat → Int64) → Int32 → Int64 → Int32 → β), lf_wk_X3_readBounds_89 f (nI q) (nI E) β kx fuel (nI p) 0 w10 (lN lo) (lN hi) mi l2 l4 (nI i) = kx (nI p') 0 w10 (lN lo') (lN hi') mi l2 l4 i') ∧ (∀ (β : Type) (kx : Nat → Nat → Nat → Nat → β), lf_wr_X11_reads_120 q E g β kx fuel2 lo hi p 0 = kx lo' hi' p' 0)) ∨ ((∃ (a b : Int64) (i' : Int32), ∀ (β : Type) (kx : Int32 → Int32 → Int32 → Int64 → Int64 → (Nat → Int64) → Int32 → Int64 → Int32 → β), lf_wk_X3_readBounds_89 f (nI q) (nI E) β kx fuel (nI p) 0 w10 (lN lo) (lN hi) mi l2 l4 (nI i) = kx (nI q) 1 w10 a b mi l2 l4 i') ∧ (∃ a b : Nat, ∀ (β : Type) (kx : Nat → Nat → Nat → Nat → β), lf_wr_X11_reads_120 q E g β kx fuel2 lo hi p 0 = kx a b q 4)) := by
  intro n
  induction n with
  | zero =>
    intro fuel fuel2 i lo hi p hi64 hf hf2 hlh hp hb hpq
    obtain ⟨z, rfl⟩ : ∃ z, fuel = z + 1 := ⟨fuel - 1, by omega⟩
    obtain ⟨y, rfl⟩ : ∃ y, fuel2 = y + 1 := ⟨fuel2 - 1, by omega⟩
    rw [Nat.pow_zero] at hp
    refine Or.inl ⟨p, lo, hi, nI i, Nat.le_refl _, hpq, Nat.le_refl _, hlh, Nat.le_refl _, by omega, fun β kx => ?_, fun β kx => ?_⟩
    · rw [lf_wk_X3_readBounds_89_s, if_pos (show (64 : Int32) ≤ nI i from nI_le (a := 64) (b := i) (by omega) (by omega))]
    · rw [lf_wr_X11_reads_120_s, if_pos (by omega)]
  | succ n ih =>
    intro fuel fuel2 i lo hi p hi64 hf hf2 hlh hp hb hpq
    obtain ⟨z, rfl⟩ : ∃ z, fuel = z + 1 := ⟨fuel - 1, by omega⟩
    obtain ⟨y, rfl⟩ : ∃ y, fuel2 = y + 1 := ⟨fuel2 - 1, by omega⟩
    have hs : lo + hi < 4611686018427387000 := by omega
    have e0 : lN hi - lN lo = lN (hi - lo) := lN_sub hlh
    have h64 : ¬ (64 : Int32) ≤ nI i := nI_ge (a := i) (b := 64) (by omega) (by omega)
    rw [Nat.pow_succ] at hp
    by_cases hc : hi - lo ≤ E
    · refine Or.inl ⟨p, lo, hi, nI i, Nat.le_refl _, hpq, Nat.le_refl _, hlh, Nat.le_refl _, hc, fun β kx => ?_, fun β kx => ?_⟩
      · rw [lf_wk_X3_readBounds_89_s, if_neg h64, e0, nI_l hE, if_pos ((lc_le (a := hi - lo) (b := E) (by omega) (by omega)).mpr hc)]
      · rw [lf_wr_X11_reads_120_s, if_pos hc]
    · have hlt : lo < hi := by omega
      obtain ⟨m1, m2⟩ := md_lt hlt
      have hmd : ((lo + hi) + 1) / 2 = mdN lo hi := rfl
      have hmd2 : mdN lo hi ≤ lo + (hi - lo) / 2 + 1 := by unfold mdN; omega
      have hmd3 : lo + (hi - lo) / 2 ≤ mdN lo hi := by unfold mdN; omega
      have hmd4 : 2 * mdN lo hi ≤ lo + hi + 1 := by unfold mdN; omega
      have hnE : ¬ (lg_cmp (lN (hi - lo)) (lN E)) ≤ 0 := fun h => hc ((lc_le (a := hi - lo) (b := E) (by omega) (by omega)).mp h)
      rcases rs_bit hq hpq hfg hk with ⟨hlt2, x, hx, c1, r1⟩ | ⟨he, ⟨v, c1⟩, r1⟩
      · by_cases hx1 : x = 1
        · have e1 : (lg_cmp (lN x) 1) = 0 := (lc_eq (a := x) (b := 1) (by omega) (by omega)).mpr hx1
          have cc : ∀ (β : Type) (kx : Int32 → Int32 → Int32 → Int64 → Int64 → (Nat → Int64) → Int32 → Int64 → Int32 → β), lf_wk_X3_readBounds_89 f (nI q) (nI E) β kx (z + 1) (nI p) 0 w10 (lN lo) (lN hi) mi l2 l4 (nI i) = lf_wk_X3_readBounds_89 f (nI q) (nI E) β kx z (nI (p + 1)) 0 w10 (lN (mdN lo hi)) (lN hi) mi l2 l4 (nI (i + 1)) := fun β kx => by
            rw [lf_wk_X3_readBounds_89_s, if_neg h64, e0, nI_l hE, if_neg hnE]
            refine (c1 β _).trans ?_
            rw [if_pos e1, c_halve1 hs, nI_1]
          have rr : ∀ (β : Type) (kx : Nat → Nat → Nat → Nat → β), lf_wr_X11_reads_120 q E g β kx (y + 1) lo hi p 0 = lf_wr_X11_reads_120 q E g β kx y (mdN lo hi) hi (p + 1) 0 := fun β kx => by
            rw [lf_wr_X11_reads_120_s, if_neg hc, if_pos rfl]
            refine (r1 β _).trans ?_
            rw [if_pos hx1, hmd]
          rcases ih z y (i + 1) (mdN lo hi) hi (p + 1) (by omega) (by omega) (by omega) (by omega) (by omega) hb (by omega) with ⟨p', lo', hi', i', a1, a2, a3, a4, a5, a6, c2, r2⟩ | ⟨⟨a, b, i', c2⟩, ⟨a', b', r2⟩⟩
          · exact Or.inl ⟨p', lo', hi', i', by omega, a2, by omega, a4, a5, a6, fun β kx => (cc β kx).trans (c2 β kx), fun β kx => (rr β kx).trans (r2 β kx)⟩
          · exact Or.inr ⟨⟨a, b, i', fun β kx => (cc β kx).trans (c2 β kx)⟩, ⟨a', b', fun β kx => (rr β kx).trans (r2 β kx)⟩⟩
        · have e1 : ¬ (lg_cmp (lN x) 1) = 0 := fun h => hx1 ((lc_eq (a := x) (b := 1) (by omega) (by omega)).mp h)
          have cc : ∀ (β : Type) (kx : Int32 → Int32 → Int32 → Int64 → Int64 → (Nat → Int64) → Int32 → Int64 → Int32 → β), lf_wk_X3_readBounds_89 f (nI q) (nI E) β kx (z + 1) (nI p) 0 w10 (lN lo) (lN hi) mi l2 l4 (nI i) = lf_wk_X3_readBounds_89 f (nI q) (nI E) β kx z (nI (p + 1)) 0 w10 (lN lo) (lN (mdN lo hi - 1)) mi l2 l4 (nI (i + 1)) := fun β kx => by
            rw [lf_wk_X3_readBounds_89_s, if_neg h64, e0, nI_l hE, if_neg hnE]
            refine (c1 β _).trans ?_
            rw [if_neg e1, c_halve0 hs hlt, nI_1]
          have rr : ∀ (β : Type) (kx : Nat → Nat → Nat → Nat → β), lf_wr_X11_reads_120 q E g β kx (y + 1) lo hi p 0 = lf_wr_X11_reads_120 q E g β kx y lo (mdN lo hi - 1) (p + 1) 0 := fun β kx => by
            rw [lf_wr_X11_reads_120_s, if_neg hc, if_pos rfl]
            refine (r1 β _).trans ?_
            rw [if_neg hx1, hmd]
          rcases ih z y (i + 1) lo (mdN lo hi - 1) (p + 1) (by omega) (by omega) (by omega) (by omega) (by omega) (by omega) (by omega) with ⟨p', lo', hi', i', a1, a2, a3, a4, a5, a6, c2, r2⟩ | ⟨⟨a, b, i', c2⟩, ⟨a', b', r2⟩⟩
          · exact Or.inl ⟨p', lo', hi', i', by omega, a2, a3, a4, by omega, a6, fun β kx => (cc β kx).trans (c2 β kx), fun β kx => (rr β kx).trans (r2 β kx)⟩
          · exact Or.inr ⟨⟨a, b, i', fun β kx => (cc β kx).trans (c2 β kx)⟩, ⟨a', b', fun β kx => (rr β kx).trans (r2 β kx)⟩⟩
      · subst he
        refine Or.inr ⟨?_, ⟨lo, mdN lo hi - 1, fun β kx => ?_⟩⟩
        · have hh : ∀ u : Int32, ∃ a1 b1 : Int64, ∀ (β : Type) (K : Int64 → Int64 → β), fn_wk_X5_halve (lN lo) (lN hi) u β K = K a1 b1 := fun u => by
            by_cases hu : u = 0
            · exact ⟨_, _, fun β K => by rw [fn_wk_X5_halve_s, if_pos hu, fn_wk_X5_mid_s]⟩
            · exact ⟨_, _, fun β K => by rw [fn_wk_X5_halve_s, if_neg hu, fn_wk_X5_mid_s]⟩
          by_cases h2 : (lg_cmp v 1) = 0
          · obtain ⟨a1, b1, hh1⟩ := hh 1
            obtain ⟨a2, b2, l2', hi⟩ := c_hl_e (f := f) (E := nI E) (w10 := w10) (l2 := l2) (mi := mi) (l4 := l4) hq z a1 b1 (nI i + 1)
            refine ⟨a2, b2, l2', fun β kx => ?_⟩
            rw [lf_wk_X3_readBounds_89_s, if_neg h64, e0, nI_l hE, if_neg hnE]
            refine (c1 β _).trans ?_
            rw [if_pos h2]
            refine (hh1 β _).trans ?_
            exact hi β kx
          · obtain ⟨a1, b1, hh1⟩ := hh 0
            obtain ⟨a2, b2, l2', hi⟩ := c_hl_e (f := f) (E := nI E) (w10 := w10) (l2 := l2) (mi := mi) (l4 := l4) hq z a1 b1 (nI i + 1)
            refine ⟨a2, b2, l2', fun β kx => ?_⟩
            rw [lf_wk_X3_readBounds_89_s, if_neg h64, e0, nI_l hE, if_neg hnE]
            refine (c1 β _).trans ?_
            rw [if_neg h2]
            refine (hh1 β _).trans ?_
            exact hi β kx
        · rw [lf_wr_X11_reads_120_s, if_neg hc, if_pos rfl]
          refine (r1 β _).trans ?_
          rw [if_neg (by omega), hmd]
          obtain ⟨y2, rfl⟩ : ∃ y2, y = y2 + 1 := ⟨y - 1, by omega⟩
          rw [lf_wr_X11_reads_120_s]
          by_cases h3 : mdN lo hi - 1 - lo ≤ E
          · rw [if_pos h3]
          · rw [if_neg h3, if_neg (by omega)]
