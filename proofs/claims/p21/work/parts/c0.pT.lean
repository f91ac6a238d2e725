/-! reading a T: both sides; that every reading ends -/
theorem tot_rb {N : Nat} {q : Int32} {f : Nat → Int32} {n : Int32} : ∀ (fuel : Nat) (b1 b3 : Int32) (l2 : Int64) (l4 : Int32), ∃ (a b : Int32) (c : Int64) (d : Int32), (b3 = 1 → b = 1) ∧ ∀ (β : Type) (kx : Int32 → Int32 → Int32 → Int64 → Int32 → β), lf_wk_X0_readBits_5 N q f β kx fuel b1 b3 n l2 l4 = kx a b n c d := by
  intro fuel
  induction fuel with
  | zero => intro b1 b3 l2 l4; exact ⟨b1, b3, l2, l4, fun h => h, fun β kx => rfl⟩
  | succ fuel ih =>
    intro b1 b3 l2 l4
    by_cases h : n ≤ l4
    · exact ⟨b1, b3, l2, l4, fun h => h, fun β kx => by rw [lf_wk_X0_readBits_5_s, if_pos h]⟩
    · by_cases h1 : q ≤ b1
      · obtain ⟨a, b, c, d, hb, hh⟩ := ih b1 1 ((l2 <<< (Int32.toInt64 1 &&& 63)) ||| 0) (l4 + 1)
        exact ⟨a, b, c, d, fun _ => hb rfl, fun β kx => by rw [lf_wk_X0_readBits_5_s, if_neg h, if_pos h1]; exact hh β kx⟩
      · by_cases h2 : (b1 >>> (3 &&& 31)) < 0
        · obtain ⟨a, b, c, d, hb, hh⟩ := ih b1 1 ((l2 <<< (Int32.toInt64 1 &&& 63)) ||| 0) (l4 + 1)
          exact ⟨a, b, c, d, fun _ => hb rfl, fun β kx => by rw [lf_wk_X0_readBits_5_s, if_neg h, if_neg h1, if_pos h2]; exact hh β kx⟩
        · by_cases h3 : (nI N) ≤ (b1 >>> (3 &&& 31))
          · obtain ⟨a, b, c, d, hb, hh⟩ := ih b1 1 ((l2 <<< (Int32.toInt64 1 &&& 63)) ||| 0) (l4 + 1)
            exact ⟨a, b, c, d, fun _ => hb rfl, fun β kx => by rw [lf_wk_X0_readBits_5_s, if_neg h, if_neg h1, if_neg h2, if_pos h3]; exact hh β kx⟩
          · obtain ⟨a, b, c, d, hb, hh⟩ := ih (b1 + 1) b3 ((l2 <<< (Int32.toInt64 1 &&& 63)) ||| (Int32.toInt64 ((((nb f) (Int32.toNatClampNeg (b1 >>> (3 &&& 31)))) >>> ((7 - (b1 &&& 7)) &&& 31)) &&& 1))) (l4 + 1)
            exact ⟨a, b, c, d, hb, fun β kx => by rw [lf_wk_X0_readBits_5_s, if_neg h, if_neg h1, if_neg h2, if_neg h3, fnL_b]; exact hh β kx⟩
theorem tot_bits {N : Nat} {q : Int32} {f : Nat → Int32} {n b1 b3 : Int32} : ∃ (a b : Int32) (c : Int64), (b3 = 1 → b = 1) ∧ ∀ (β : Type) (K : Int32 → Int32 → Int64 → β), fn_wk_X0_readBits N q f b1 b3 n β K = K a b c := by
  obtain ⟨a, b, c, d, hb, h⟩ := tot_rb (N := N) (q := q) (f := f) (n := n) ((Int32.toInt n - Int32.toInt 0).toNat + 1) b1 b3 0 0
  exact ⟨a, b, c, hb, fun β K => by rw [fn_wk_X0_readBits_s]; exact h β _⟩
theorem tot_hb (n : Int64) : ∃ r : Int32, ∀ (β : Type) (K : Int32 → β), fn_wk_X10_highestBit n β K = K r := by
  have h : ∀ (fuel : Nat) (l2 : Int32), ∃ r : Int32, ∀ (β : Type) (kx : Int64 → Int32 → β), lf_wk_X10_highestBit_2 β kx fuel n l2 = kx n r := by
    intro fuel
    induction fuel with
    | zero => intro l2; exact ⟨l2, fun β kx => rfl⟩
    | succ fuel ih =>
      intro l2
      by_cases h : 62 ≤ l2
      · exact ⟨l2, fun β kx => by rw [lf_wk_X10_highestBit_2_s, if_pos h]⟩
      · by_cases h1 : (lg_cmp (n >>> (Int32.toInt64 (l2 + 1) &&& 63)) 0) ≤ 0
        · exact ⟨l2, fun β kx => by rw [lf_wk_X10_highestBit_2_s, if_neg h, if_pos h1]⟩
        · obtain ⟨r, hr⟩ := ih (l2 + 1)
          exact ⟨r, fun β kx => by rw [lf_wk_X10_highestBit_2_s, if_neg h, if_neg h1]; exact hr β kx⟩
  obtain ⟨r, hr⟩ := h ((Int32.toInt 62 - Int32.toInt 0).toNat + 1) 0
  exact ⟨r, fun β K => by rw [fn_wk_X10_highestBit_s]; exact hr β _⟩
theorem tot_T {N : Nat} {q : Int32} {f : Nat → Int32} {n : Int64} {b1 b3 : Int32} : ∃ (a b : Int32) (c : Int64), (b3 = 1 → b = 1) ∧ ∀ (β : Type) (K : Int32 → Int32 → Int64 → β), fn_wk_X0_readT N q f b1 b3 n β K = K a b c := by
  obtain ⟨r, hr⟩ := tot_hb n
  obtain ⟨a, b, c, hb, h1⟩ := tot_bits (N := N) (q := q) (f := f) (n := r) (b1 := b1) (b3 := b3)
  by_cases h : 0 ≤ (lg_cmp c (((2 : Int64) <<< (Int32.toInt64 r &&& 63)) - n))
  · obtain ⟨a2, b2, c2, hb2, h2⟩ := tot_bits (N := N) (q := q) (f := f) (n := 1) (b1 := a) (b3 := b)
    refine ⟨a2, b2, ((c <<< (Int32.toInt64 1 &&& 63)) ||| c2) - (((2 : Int64) <<< (Int32.toInt64 r &&& 63)) - n), fun e => hb2 (hb e), fun β K => ?_⟩
    rw [fn_wk_X0_readT_s]
    refine (hr β _).trans ?_
    refine (h1 β _).trans ?_
    rw [if_pos h]
    exact h2 β _
  · refine ⟨a, b, c, hb, fun β K => ?_⟩
    rw [fn_wk_X0_readT_s]
    refine (hr β _).trans ?_
    refine (h1 β _).trans ?_
    rw [if_neg h]
theorem r_nlzw {a : Nat} (h0 : 0 < a) (h : a < 2147483648) {β : Type} {K : Nat → β} : fn_wr_nlz_w (nI a) β K = fn_wr_nlz_n a β K := by
  rw [fn_wr_nlz_w_s, fn_wr_nlz_n_s, if_pos (show (0 : Int32) < nI a from nI_lt (a := 0) (b := a) h0 h), if_pos h0, fnL_b, nI_clamp h]
theorem r_lenw {a : Nat} (h0 : a ≠ 0) (h : a < 2147483648) {β : Type} {K : Nat → β} : fn_wr_length_w (lN a) β K = K (Nat.log2 a + 1) := by
  have hh : Nat.log2 a < 31 := (Nat.log2_lt h0).mpr h
  have e : ((Int64.toUInt64 (lN a) >>> ((Int32.toInt64 32).toUInt64 &&& Int64.toUInt64 63)).toInt64) = lN (a / 2 ^ 32) := by
    apply Int64.toBitVec_inj.mp
    show (BitVec.ofNat 64 a) >>> (((Int32.toInt64 32).toUInt64 &&& Int64.toUInt64 63).toBitVec % 64) = BitVec.ofNat 64 (a / 2 ^ 32)
    rw [show (((Int32.toInt64 32).toUInt64 &&& Int64.toUInt64 63).toBitVec % 64) = 32#64 from by decide]
    apply BitVec.eq_of_toNat_eq
    rw [BitVec.ushiftRight_eq', BitVec.toNat_ushiftRight, BitVec.toNat_ofNat, BitVec.toNat_ofNat, BitVec.toNat_ofNat, Nat.shiftRight_eq_div_pow]
    show a % 2 ^ 64 / 2 ^ 32 = (a / 2 ^ 32) % 2 ^ 64
    rw [Nat.mod_eq_of_lt (by omega), Nat.mod_eq_of_lt (by omega)]
  rw [fn_wr_length_w_s, fn_wr_nlz8_w_s, e, lN_i, if_pos (show nI (a / 2 ^ 32) = 0 from by rw [Nat.div_eq_of_lt (by omega)]; rfl), lN_i, r_nlzw (by omega) h, r_nlz h0 h]
  exact congrArg K (by omega)
theorem lN_dbl (v : Nat) : (2 : Int64) * lN v = lN (2 * v) := lN_mul 2 v
theorem r_nw_ok {p q n ef : Nat} {f : Nat → Int32} (hn : n < 100) (hp : p + n ≤ q) {β : Type} {K : Nat → Nat → Int64 → β} : fn_wr_X11_next_w p q 0 f ef (nI n) β K = K (p + n) 0 (lN (rdV f p n)) := by
  have h : ∀ (d fuel k : Nat), k + d = n → d < fuel → ∀ (kx : Nat → Nat → Int64 → Nat → β), lf_wr_X11_next_w_5 q f ef (nI n) β kx fuel (p + k) 0 (lN (rdV f p k)) k = kx (p + n) 0 (lN (rdV f p n)) n := by
    intro d
    induction d with
    | zero =>
      intro fuel k hk hf kx
      obtain ⟨z, rfl⟩ : ∃ z, fuel = z + 1 := ⟨fuel - 1, by omega⟩
      have e : k = n := by omega
      subst e
      rw [lf_wr_X11_next_w_5_s, if_pos (nI_le (Nat.le_refl _) (by omega))]
    | succ d ih =>
      intro fuel k hk hf kx
      obtain ⟨z, rfl⟩ : ∃ z, fuel = z + 1 := ⟨fuel - 1, by omega⟩
      rw [lf_wr_X11_next_w_5_s, if_neg (nI_ge (by omega) (by omega)), if_pos rfl, r_next_ok (by omega), lN_dbl, lN_add]
      exact ih z (k + 1) (by omega) (by omega) kx
  rw [fn_wr_X11_next_w_s, nI_clamp (by omega)]
  exact h n ((n - 0) + 1) 0 (by omega) (by omega) _
theorem r_nw_end {p q n ef : Nat} {f : Nat → Int32} (hn : n < 100) (hef : ef ≠ 0) (hpq : p ≤ q) (hp : q < p + n) : ∃ v : Int64, ∀ (β : Type) (K : Nat → Nat → Int64 → β), fn_wr_X11_next_w p q 0 f ef (nI n) β K = K q ef v := by
  have h : ∀ (d fuel k : Nat), p + k + d = q → n - k < fuel → ∃ (v : Int64) (l : Nat), ∀ (β : Type) (kx : Nat → Nat → Int64 → Nat → β), lf_wr_X11_next_w_5 q f ef (nI n) β kx fuel (p + k) 0 (lN (rdV f p k)) k = kx q ef v l := by
    intro d
    induction d with
    | zero =>
      intro fuel k hk hf
      obtain ⟨z, rfl⟩ : ∃ z, fuel = z + 1 := ⟨fuel - 1, by omega⟩
      refine ⟨2 * lN (rdV f p k) + lN 0, k + 1, fun β kx => ?_⟩
      rw [lf_wr_X11_next_w_5_s, if_neg (nI_ge (by omega) (by omega)), if_pos rfl, show p + k = q by omega, r_next_end]
      obtain ⟨y, rfl⟩ : ∃ y, z = y + 1 := ⟨z - 1, by omega⟩
      rw [lf_wr_X11_next_w_5_s]
      by_cases e : nI n ≤ nI (k + 1)
      · rw [if_pos e]
      · rw [if_neg e, if_neg hef]
    | succ d ih =>
      intro fuel k hk hf
      obtain ⟨z, rfl⟩ : ∃ z, fuel = z + 1 := ⟨fuel - 1, by omega⟩
      obtain ⟨a, b, hab⟩ := ih z (k + 1) (by omega) (by omega)
      refine ⟨a, b, fun β kx => ?_⟩
      rw [lf_wr_X11_next_w_5_s, if_neg (nI_ge (by omega) (by omega)), if_pos rfl, r_next_ok (by omega), lN_dbl, lN_add]
      exact hab β kx
  obtain ⟨a, b, hab⟩ := h (q - p) ((n - 0) + 1) 0 (by omega) (by omega)
  refine ⟨a, fun β K => ?_⟩
  rw [fn_wr_X11_next_w_s, nI_clamp (by omega)]
  exact hab β _
theorem rs_T {p q k n : Nat} {f g : Nat → Int32} (hq : q ≤ 48000) (hpq : p ≤ q) (hfg : ∀ j, j < k → nb f j = nb g j) (hk : q ≤ 8 * k) (hn0 : 1 ≤ n) (hn : n ≤ 65536) : (∃ p' o, p ≤ p' ∧ p' ≤ q ∧ o < n ∧ (∀ (β : Type) (K : Int32 → Int32 → Int64 → β), fn_wk_X0_readT 6000 (nI q) f (nI p) 0 (lN n) β K = K (nI p') 0 (lN o)) ∧ (∀ (β : Type) (K : Nat → Nat → Int64 → β), fn_wr_X11_nextT p q 0 g (lN n) β K = K p' 0 (lN o))) ∨ ((∃ x : Int64, ∀ (β : Type) (K : Int32 → Int32 → Int64 → β), fn_wk_X0_readT 6000 (nI q) f (nI p) 0 (lN n) β K = K (nI q) 1 x) ∧ (∃ v : Int64, ∀ (β : Type) (K : Nat → Nat → Int64 → β), fn_wr_X11_nextT p q 0 g (lN n) β K = K q 10 v)) := by
  have hn1 : n ≠ 0 := by omega
  have hl1 : 2 ^ Nat.log2 n ≤ n := Nat.log2_self_le hn1
  have hl2 : n < 2 ^ (Nat.log2 n + 1) := Nat.lt_log2_self
  have hl3 : Nat.log2 n < 17 := (Nat.log2_lt hn1).mpr (by omega)
  have ep : 2 ^ (Nat.log2 n + 1) = 2 * 2 ^ Nat.log2 n := by rw [Nat.pow_succ]; omega
  have hp17 : 2 ^ Nat.log2 n ≤ 2 ^ 16 := Nat.pow_le_pow_right (by decide) (by omega)
  have ex : ((2 : Int64) <<< (Int32.toInt64 (nI (Nat.log2 n)) &&& 63)) - lN n = lN (2 ^ (Nat.log2 n + 1) - n) := by
    rw [shl2 _ (by omega)]
    exact lN_sub (by omega)
  obtain ⟨x, hx⟩ : ∃ x, 2 ^ (Nat.log2 n + 1) - n = x := ⟨_, rfl⟩
  rw [hx] at ex
  have cT : ∀ (β : Type) (K : Int32 → Int32 → Int64 → β), fn_wk_X0_readT 6000 (nI q) f (nI p) 0 (lN n) β K = fn_wk_X0_readBits 6000 (nI q) f (nI p) 0 (nI (Nat.log2 n)) β (fun a b v => (if 0 ≤ (lg_cmp v (lN x)) then (fn_wk_X0_readBits 6000 (nI q) f a b 1 β (fun a b w => K a b (((v <<< (Int32.toInt64 1 &&& 63)) ||| w) - lN x))) else (K a b v))) := fun β K => by
    rw [fn_wk_X0_readT_s, c_hb hn1 (by omega), ex]
  have rT : ∀ (β : Type) (K : Nat → Nat → Int64 → β), fn_wr_X11_nextT p q 0 g (lN n) β K = fn_wr_X11_next_w p q 0 g 10 (nI (Nat.log2 n)) β (fun a b v => (if (lg_cmp v (lN x)) < 0 then (K a b v) else (if b ≤ 0 then (fn_wr_X11_next a q b g 10 β (fun a b w => K a b (((2 * v) + lN w) - lN x))) else (K a b v)))) := fun β K => by
    rw [fn_wr_X11_nextT_s, r_lenw hn1 (by omega), nI_pred, fnL_b, ex]
  by_cases h1 : p + Nat.log2 n ≤ q
  · have hv := rdV_lt f p (Nat.log2 n)
    have ev : rdV g p (Nat.log2 n) = rdV f p (Nat.log2 n) := (rdV_congr hfg (Nat.log2 n) (by omega)).symm
    obtain ⟨v, hv'⟩ : ∃ v, rdV f p (Nat.log2 n) = v := ⟨_, rfl⟩
    rw [hv'] at hv ev
    have c1 : ∀ (β : Type) (K : Int32 → Int32 → Int64 → β), fn_wk_X0_readBits 6000 (nI q) f (nI p) 0 (nI (Nat.log2 n)) β K = K (nI (p + Nat.log2 n)) 0 (lN v) := fun β K => by
      rw [c_rb_ok (by omega) (by omega) (by omega) h1, hv']
    have r1 : ∀ (β : Type) (K : Nat → Nat → Int64 → β), fn_wr_X11_next_w p q 0 g 10 (nI (Nat.log2 n)) β K = K (p + Nat.log2 n) 0 (lN v) := fun β K => by
      rw [r_nw_ok (by omega) h1, ev]
    by_cases h2 : v < x
    · refine Or.inl ⟨p + Nat.log2 n, v, by omega, h1, by omega, fun β K => ?_, fun β K => ?_⟩
      · rw [cT]
        refine (c1 β _).trans ?_
        rw [if_neg (fun h => by have := (lc_ge (a := v) (b := x) (by omega) (by omega)).mp h; omega)]
      · rw [rT]
        refine (r1 β _).trans ?_
        rw [if_pos ((lc_lt (a := v) (b := x) (by omega) (by omega)).mpr h2)]
    · have hge : 0 ≤ lg_cmp (lN v) (lN x) := (lc_ge (a := v) (b := x) (by omega) (by omega)).mpr (by omega)
      have hnl : ¬ lg_cmp (lN v) (lN x) < 0 := fun h => h2 ((lc_lt (a := v) (b := x) (by omega) (by omega)).mp h)
      by_cases h3 : p + Nat.log2 n < q
      · obtain ⟨t, ht⟩ : ∃ t, tb f (p + Nat.log2 n) = t := ⟨_, rfl⟩
        have ht1 := tb_le f (p + Nat.log2 n)
        rw [ht] at ht1
        have ht2 : tb g (p + Nat.log2 n) = t := by rw [← ht]; exact (tb_congr hfg (by omega)).symm
        have c2 : ∀ (β : Type) (K : Int32 → Int32 → Int64 → β), fn_wk_X0_readBits 6000 (nI q) f (nI (p + Nat.log2 n)) 0 1 β K = K (nI (p + Nat.log2 n + 1)) 0 (lN t) := fun β K => by
          have e1 : rdV f (p + Nat.log2 n) 1 = t := by
            show 2 * 0 + tb f (p + Nat.log2 n + 0) = t
            rw [Nat.add_zero, ht, Nat.mul_zero, Nat.zero_add]
          refine (c_rb_ok (n := 1) (by omega) (by omega) (by omega) (by omega)).trans ?_
          rw [e1]
        refine Or.inl ⟨p + Nat.log2 n + 1, 2 * v + t - x, by omega, by omega, by omega, fun β K => ?_, fun β K => ?_⟩
        · rw [cT]
          refine (c1 β _).trans ?_
          rw [if_pos hge]
          refine (c2 β _).trans ?_
          rw [lN_bit (by omega) ht1, lN_sub (by omega)]
        · rw [rT]
          refine (r1 β _).trans ?_
          rw [if_neg hnl, if_pos (Nat.le_refl _), r_next_ok h3, ht2, lN_dbl, lN_add, lN_sub (by omega)]
      · have e : p + Nat.log2 n = q := by omega
        obtain ⟨w, hw⟩ := c_rb_end (N := 6000) (n := 1) (f := f) (e := 0) (p := q) (q := q) (by omega) (by omega) (by omega) (Nat.le_refl _) (by omega)
        rw [e] at c1 r1
        refine Or.inr ⟨⟨((lN v <<< (Int32.toInt64 1 &&& 63)) ||| w) - lN x, fun β K => ?_⟩, ⟨((2 * lN v) + lN 0) - lN x, fun β K => ?_⟩⟩
        · rw [cT]
          refine (c1 β _).trans ?_
          rw [if_pos hge]
          exact hw β _
        · rw [rT]
          refine (r1 β _).trans ?_
          rw [if_neg hnl, if_pos (Nat.le_refl _), r_next_end]
  · obtain ⟨v, c1⟩ := c_rb_end (N := 6000) (n := Nat.log2 n) (f := f) (e := 0) (p := p) (q := q) (by omega) (by omega) (by omega) hpq (by omega)
    obtain ⟨u, r1⟩ := r_nw_end (p := p) (q := q) (n := Nat.log2 n) (ef := 10) (f := g) (by omega) (by omega) hpq (by omega)
    refine Or.inr ⟨?_, ⟨u, fun β K => ?_⟩⟩
    · by_cases h : 0 ≤ lg_cmp v (lN x)
      · obtain ⟨w, hw⟩ := c_rb_e (N := 6000) (q := q) (f := f) (n := 1) (by omega) (by omega)
        refine ⟨((v <<< (Int32.toInt64 1 &&& 63)) ||| w) - lN x, fun β K => ?_⟩
        rw [cT]
        refine (c1 β _).trans ?_
        rw [if_pos h]
        exact hw β _
      · refine ⟨v, fun β K => ?_⟩
        rw [cT]
        refine (c1 β _).trans ?_
        rw [if_neg h]
    · rw [rT]
      refine (r1 β _).trans ?_
      by_cases h : (lg_cmp u (lN x)) < 0
      · rw [if_pos h]
      · rw [if_neg h, if_neg (by omega)]
