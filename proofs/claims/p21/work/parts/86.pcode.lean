/-! G, T, ONES; the bytes of bits -/
theorem sm63 : ∀ d, d < 64 → ((Int32.toInt64 (nI d) &&& 63).toBitVec.smod 64).toNat = d := by decide +kernel
theorem lg_div {a p : Nat} (h0 : a ≠ 0) : a / 2 ^ (p + 1) ≤ 0 ↔ Nat.log2 a ≤ p := by
  have h1 : Nat.log2 a < p + 1 ↔ a < 2 ^ (p + 1) := Nat.log2_lt h0
  constructor
  · intro h
    have h2 : a < 2 ^ (p + 1) := by
      rcases Nat.lt_or_ge a (2 ^ (p + 1)) with h3 | h3
      · exact h3
      · have := Nat.div_pos h3 (Nat.two_pow_pos _)
        omega
    have := h1.mpr h2
    omega
  · intro h
    rw [Nat.div_eq_of_lt (h1.mp (by omega))]
    exact Nat.le_refl _
theorem c_hbl {a : Nat} (h0 : a ≠ 0) (h : a < 2 ^ 62) : ∀ (d fuel p : Nat), p + d = Nat.log2 a → d < fuel → ∀ (β : Type) (kx : Int64 → Int32 → β), lf_wk_X10_highestBit_2 β kx fuel (lN a) (nI p) = kx (lN a) (nI (Nat.log2 a)) := by
  have hl : Nat.log2 a < 62 := (Nat.log2_lt h0).mpr h
  have hs : ∀ p, p < 62 → lN a >>> (Int32.toInt64 (nI (p + 1)) &&& 63) = lN (a / 2 ^ (p + 1)) := fun p hp => pf_shr (sm63 (p + 1) (by omega)) h
  have hlt : ∀ p, a / 2 ^ (p + 1) < 9223372036854775808 := fun p => Nat.lt_of_le_of_lt (Nat.div_le_self _ _) (Nat.lt_trans h (by decide))
  intro d
  induction d with
  | zero =>
    intro fuel p hp hf β kx
    obtain ⟨q, rfl⟩ : ∃ q, fuel = q + 1 := ⟨fuel - 1, by omega⟩
    rw [lf_wk_X10_highestBit_2_s, if_neg (show ¬ (62 : Int32) ≤ nI p from nI_ge (a := p) (b := 62) (by omega) (by omega)), nI_1, hs p (by omega), if_pos (show lg_cmp (lN (a / 2 ^ (p + 1))) 0 ≤ 0 from (lc_le (b := 0) (hlt p) (by omega)).mpr ((lg_div h0).mpr (by omega)))]
    rw [show p = Nat.log2 a by omega]
  | succ d ih =>
    intro fuel p hp hf β kx
    obtain ⟨q, rfl⟩ : ∃ q, fuel = q + 1 := ⟨fuel - 1, by omega⟩
    rw [lf_wk_X10_highestBit_2_s, if_neg (show ¬ (62 : Int32) ≤ nI p from nI_ge (a := p) (b := 62) (by omega) (by omega)), nI_1, hs p (by omega), if_neg (show ¬ lg_cmp (lN (a / 2 ^ (p + 1))) 0 ≤ 0 from fun k => by have := (lg_div h0).mp ((lc_le (b := 0) (hlt p) (by omega)).mp k); omega)]
    exact ih q (p + 1) (by omega) (by omega) β kx
theorem c_hb {a : Nat} (h0 : a ≠ 0) (h : a < 2 ^ 62) {β : Type} {K : Int32 → β} : fn_wk_X10_highestBit (lN a) β K = K (nI (Nat.log2 a)) := by
  have hl : Nat.log2 a < 62 := (Nat.log2_lt h0).mpr h
  rw [fn_wk_X10_highestBit_s, show ((Int32.toInt 62 - Int32.toInt 0).toNat + 1) = 63 from by decide]
  exact c_hbl h0 h (Nat.log2 a) 63 0 (by omega) (by omega) β _
theorem lgE {a p : Nat} (h1 : 2 ^ p ≤ a) (h2 : a < 2 ^ (p + 1)) : Nat.log2 a = p := by
  have h0 : a ≠ 0 := fun q => by have := Nat.two_pow_pos p; omega
  have := (Nat.le_log2 h0).mpr h1
  have := (Nat.log2_lt h0).mpr h2
  omega
set_option maxHeartbeats 4000000 in
theorem r_nlz {a : Nat} (h0 : a ≠ 0) (h : a < 2147483648) {β : Type} {K : Nat → β} : fn_wr_nlz_n a β K = K (31 - Nat.log2 a) := by
  have hh : Nat.log2 a < 31 := (Nat.log2_lt h0).mpr h
  have h1 : 2 ^ Nat.log2 a ≤ a := Nat.log2_self_le h0
  have h2 : a < 2 ^ (Nat.log2 a + 1) := Nat.lt_log2_self
  generalize Nat.log2 a = p at hh h1 h2
  rw [fn_wr_nlz_n_s, if_pos (by omega)]
  have hp : p = 0 ∨ p = 1 ∨ p = 2 ∨ p = 3 ∨ p = 4 ∨ p = 5 ∨ p = 6 ∨ p = 7 ∨ p = 8 ∨ p = 9 ∨ p = 10 ∨ p = 11 ∨ p = 12 ∨ p = 13 ∨ p = 14 ∨ p = 15 ∨ p = 16 ∨ p = 17 ∨ p = 18 ∨ p = 19 ∨ p = 20 ∨ p = 21 ∨ p = 22 ∨ p = 23 ∨ p = 24 ∨ p = 25 ∨ p = 26 ∨ p = 27 ∨ p = 28 ∨ p = 29 ∨ p = 30 := by omega
  rcases hp with rfl | rfl | rfl | rfl | rfl | rfl | rfl | rfl | rfl | rfl | rfl | rfl | rfl | rfl | rfl | rfl | rfl | rfl | rfl | rfl | rfl | rfl | rfl | rfl | rfl | rfl | rfl | rfl | rfl | rfl | rfl <;> (repeat' split) <;> exact congrArg K (by omega)
theorem r_len {a : Nat} (h0 : a ≠ 0) (h : a < 2147483648) {β : Type} {K : Nat → β} : fn_wr_length_n a β K = K (Nat.log2 a + 1) := by
  have hh : Nat.log2 a < 31 := (Nat.log2_lt h0).mpr h
  rw [fn_wr_length_n_s, fn_wr_nlz8_n_s, if_pos (Nat.div_eq_of_lt (by omega)), r_nlz h0 h]
  exact congrArg K (by omega)
/-- a writer's step: L becomes L ++ b -/
def CW (N h0 : Nat) (L b : List Nat) (o u t : Int32) (f : Nat → Int32) (F : (β : Type) → (Int32 → Int32 → Int32 → (Nat → Int32) → β) → β) : Prop := ∃ (o' u' t' : Int32) (f' : Nat → Int32), BW h0 (L ++ b) o' u' t' f' ∧ (∀ j, j < h0 → nb f' j = nb f j) ∧ ∀ (β : Type) (K : Int32 → Int32 → Int32 → (Nat → Int32) → β), F β K = K o' u' t' f'
def bitsG (a : Nat) : List Nat := bitsOf (lN (Nat.log2 a)) 5 ++ bitsOf (lN a) (Nat.log2 a)
theorem c_writeG {h0 N a : Nat} {L : List Nat} {o u t : Int32} {f : Nat → Int32} (hN2 : N < 2147483640) (ha : a ≠ 0) (ha2 : a < 2 ^ 62) (hB : BW h0 L o u t f) (hN : h0 + (L.length + 70) / 8 ≤ N) : CW N h0 L (bitsG a) o u t f (fn_wk_X1_writeG N o u t f (lN a)) := by
  have hl : Nat.log2 a < 62 := (Nat.log2_lt ha).mpr ha2
  obtain ⟨o1, u1, t1, f1, hB1, hk1, hs1⟩ := c_writeBits (v := lN (Nat.log2 a)) (n := 5) hN2 (by omega) hB (by omega)
  have hlen : (L ++ bitsOf (lN (Nat.log2 a)) 5).length = L.length + 5 := by rw [List.length_append, bits_len]
  obtain ⟨o2, u2, t2, f2, hB2, hk2, hs2⟩ := c_writeBits (v := lN a) (n := Nat.log2 a) hN2 (by omega) hB1 (by rw [hlen]; omega)
  refine ⟨o2, u2, t2, f2, by rw [List.append_assoc] at hB2; exact hB2, fun j hj => (hk2 j hj).trans (hk1 j hj), fun β K => ?_⟩
  rw [fn_wk_X1_writeG_s, c_hb ha ha2, nI_l (by omega)]
  exact (hs1 β _).trans (hs2 β K)
def RW (L b : List Nat) (m : Nat) (F : (β : Type) → (Nat → (Nat → Int32) → β) → β) : Prop := ∃ g' : Nat → Int32, RB (L ++ b) (m + b.length) g' ∧ ∀ (β : Type) (K : Nat → (Nat → Int32) → β), F β K = K (m + b.length) g'
theorem rw_bits {v : Int64} {n m : Nat} {L : List Nat} {g : Nat → Int32} (hB : RB L m g) : RW L (bitsOf v n) m (fn_wr_X11_bits m g n v) := by
  obtain ⟨g2, hB2, hs2⟩ := r_bits (v := v) n (n + 1) L m g (by omega) hB
  refine ⟨g2, by rw [bits_len]; exact hB2, fun β K => ?_⟩
  rw [fn_wr_X11_bits_s, bits_len]
  exact hs2 β _
theorem rw_side {v : Int64} {n m : Nat} {L : List Nat} {g : Nat → Int32} (hB : RB L m g) : RW L (bitsOf v n) m (fn_wr_X11_putSide m g n v) := by
  obtain ⟨g2, hB2, hs2⟩ := r_putSide (v := v) n (n + 1) L m g (by omega) hB
  refine ⟨g2, by rw [bits_len]; exact hB2, fun β K => ?_⟩
  rw [fn_wr_X11_putSide_s, bits_len]
  exact hs2 β _
theorem rw_bit {x m : Nat} {L : List Nat} {g : Nat → Int32} (hB : RB L m g) (hx : x ≤ 1) : RW L [x] m (fn_wr_X11_bit m g (nI x)) := ⟨_, RB_bit hB hx, fun _ _ => rfl⟩
theorem r_putG {a m : Nat} {L : List Nat} {g : Nat → Int32} (ha : a ≠ 0) (ha2 : a < 2147483648) (hB : RB L m g) : RW L (bitsG a) m (fn_wr_X11_putG m g a) := by
  obtain ⟨g1, hB1, hs1⟩ := rw_bits (v := lN (Nat.log2 a)) (n := 5) hB
  obtain ⟨g2, hB2, hs2⟩ := rw_bits (v := lN a) (n := Nat.log2 a) hB1
  have e : m + (bitsOf (lN (Nat.log2 a)) 5).length + (bitsOf (lN a) (Nat.log2 a)).length = m + (bitsG a).length := by
    unfold bitsG
    rw [List.length_append]
    omega
  rw [List.append_assoc, e] at hB2
  refine ⟨g2, hB2, fun β K => ?_⟩
  rw [fn_wr_X11_putG_s, r_len ha ha2, show Nat.log2 a + 1 - 1 = Nat.log2 a from rfl]
  refine (hs1 β _).trans ?_
  rw [hs2, e]
def tX (n : Int64) (k : Nat) : Int64 := (2 <<< (Int32.toInt64 (nI k) &&& 63)) - n
def bitsT (o n : Int64) (k : Nat) : List Nat := if 0 ≤ lg_cmp o (tX n k) then bitsOf (o + tX n k) (k + 1) else bitsOf o k
theorem c_writeT {h0 N a : Nat} {v : Int64} {L : List Nat} {o u t : Int32} {f : Nat → Int32} (hN2 : N < 2147483640) (ha : a ≠ 0) (ha2 : a < 2 ^ 62) (hB : BW h0 L o u t f) (hN : h0 + (L.length + Nat.log2 a + 1) / 8 ≤ N) : CW N h0 L (bitsT v (lN a) (Nat.log2 a)) o u t f (fn_wk_X1_writeT N o u t f v (lN a)) := by
  have hl : Nat.log2 a < 62 := (Nat.log2_lt ha).mpr ha2
  by_cases hc : 0 ≤ lg_cmp v (tX (lN a) (Nat.log2 a))
  · obtain ⟨o1, u1, t1, f1, hB1, hk1, hs1⟩ := c_writeBits (v := v + tX (lN a) (Nat.log2 a)) (n := Nat.log2 a + 1) hN2 (by omega) hB (by omega)
    refine ⟨o1, u1, t1, f1, by unfold bitsT; rw [if_pos hc]; exact hB1, hk1, fun β K => ?_⟩
    rw [fn_wk_X1_writeT_s, c_hb ha ha2, nI_1]
    exact (if_pos hc).trans (hs1 β K)
  · obtain ⟨o1, u1, t1, f1, hB1, hk1, hs1⟩ := c_writeBits (v := v) (n := Nat.log2 a) hN2 (by omega) hB (by omega)
    refine ⟨o1, u1, t1, f1, by unfold bitsT; rw [if_neg hc]; exact hB1, hk1, fun β K => ?_⟩
    rw [fn_wk_X1_writeT_s, c_hb ha ha2, nI_1]
    exact (if_neg hc).trans (hs1 β K)
theorem r_putT {a m : Nat} {v : Int64} {L : List Nat} {g : Nat → Int32} (ha : a ≠ 0) (ha2 : a < 2147483648) (hB : RB L m g) : RW L (bitsT v (lN a) (Nat.log2 a)) m (fn_wr_X11_putT m g a v) := by
  by_cases hc : 0 ≤ lg_cmp v (tX (lN a) (Nat.log2 a))
  · obtain ⟨g1, hB1, hs1⟩ := rw_side (v := v + tX (lN a) (Nat.log2 a)) (n := Nat.log2 a + 1) hB
    refine ⟨g1, by unfold bitsT; rw [if_pos hc]; exact hB1, fun β K => ?_⟩
    rw [fn_wr_X11_putT_s, r_len ha ha2, show Nat.log2 a + 1 - 1 = Nat.log2 a from rfl]
    refine (if_pos hc).trans ((hs1 β K).trans ?_)
    unfold bitsT
    rw [if_pos hc]
  · obtain ⟨g1, hB1, hs1⟩ := rw_side (v := v) (n := Nat.log2 a) hB
    refine ⟨g1, by unfold bitsT; rw [if_neg hc]; exact hB1, fun β K => ?_⟩
    rw [fn_wr_X11_putT_s, r_len ha ha2, show Nat.log2 a + 1 - 1 = Nat.log2 a from rfl]
    refine (if_neg hc).trans ((hs1 β K).trans ?_)
    unfold bitsT
    rw [if_neg hc]
theorem ones_tab : ∀ on, on < 16 → bitsOf ((2 <<< (Int32.toInt64 (nI on) &&& 63)) - 2) (on + 1) = List.replicate on 1 ++ [0] := by decide +kernel
theorem ones_16 : bitsOf 65535 16 = List.replicate 16 1 := by decide +kernel
theorem c_writeOnes {h0 N on : Nat} {L : List Nat} {o u t : Int32} {f : Nat → Int32} (hN2 : N < 2147483640) (hon : on < 2 ^ 62) (hB : BW h0 L o u t f) (hN : h0 + (L.length + 16) / 8 ≤ N) : CW N h0 L (if on < 16 then List.replicate on 1 ++ [0] else List.replicate 16 1) o u t f (fn_wk_X1_writeOnes N o u t f (lN on)) := by
  by_cases hc : on < 16
  · obtain ⟨o1, u1, t1, f1, hB1, hk1, hs1⟩ := c_writeBits (v := (2 <<< (Int32.toInt64 (nI on) &&& 63)) - 2) (n := on + 1) hN2 (by omega) hB (by omega)
    rw [ones_tab on hc] at hB1
    refine ⟨o1, u1, t1, f1, by rw [if_pos hc]; exact hB1, hk1, fun β K => ?_⟩
    rw [fn_wk_X1_writeOnes_s, if_neg (show ¬ 0 ≤ lg_cmp (lN on) (16 : Int64) from fun k => by have := (lc_ge (a := on) (b := 16) (by omega) (by omega)).mp k; omega), lN_i, nI_1]
    exact hs1 β K
  · obtain ⟨o1, u1, t1, f1, hB1, hk1, hs1⟩ := c_writeBits (v := 65535) (n := 16) hN2 (by omega) hB (by omega)
    rw [ones_16] at hB1
    refine ⟨o1, u1, t1, f1, by rw [if_neg hc]; exact hB1, hk1, fun β K => ?_⟩
    rw [fn_wk_X1_writeOnes_s, if_pos (show 0 ≤ lg_cmp (lN on) (16 : Int64) from (lc_ge (a := on) (b := 16) (by omega) (by omega)).mpr (by omega))]
    exact hs1 β K
theorem r_ones {on : Nat} : ∀ (d fuel l m : Nat) (L : List Nat) (g : Nat → Int32), l + d = min on 16 → d < fuel → RB L m g → ∃ g', RB (L ++ List.replicate d 1) (m + d) g' ∧ ∀ (β : Type) (kx : Nat → (Nat → Int32) → Nat → β), lf_wr_X11_codes_99 on β kx fuel m g l = kx (m + d) g' (min on 16) := by
  intro d
  induction d with
  | zero =>
    intro fuel l m L g hl hf hB
    obtain ⟨q, rfl⟩ : ∃ q, fuel = q + 1 := ⟨fuel - 1, by omega⟩
    refine ⟨g, by rw [show List.replicate 0 1 = ([] : List Nat) from rfl, List.append_nil]; exact hB, fun β kx => ?_⟩
    have e : l = min on 16 := by omega
    rw [lf_wr_X11_codes_99_s]
    by_cases h : on ≤ l
    · rw [if_pos h, e]; rfl
    · rw [if_neg h, if_pos (by omega), e]; rfl
  | succ d ih =>
    intro fuel l m L g hl hf hB
    obtain ⟨q, rfl⟩ : ∃ q, fuel = q + 1 := ⟨fuel - 1, by omega⟩
    obtain ⟨g2, hB2, hs2⟩ := ih q (l + 1) (m + 1) (L ++ [1]) _ (by omega) (by omega) (RB_bit hB (by omega))
    refine ⟨g2, by rw [List.append_assoc, show m + 1 + d = m + (d + 1) by omega] at hB2; exact hB2, fun β kx => ?_⟩
    rw [lf_wr_X11_codes_99_s, if_neg (by omega), if_neg (by omega), fn_wr_X11_bit_s, show m + (d + 1) = m + 1 + d by omega]
    exact hs2 β kx
/-- the bytes that bits become -/
def seg (L : List Nat) (j : Nat) : List Nat := (L.drop (8 * j)).take 8
def pkN (L : List Nat) (j : Nat) : Nat := bv (seg L j) * 2 ^ (8 - (seg L j).length)
def pkB (L : List Nat) (j : Nat) : Int32 := Int8.toInt32 (Int32.toInt8 (nI (pkN L j)))
theorem seg_len (L : List Nat) (j : Nat) : (seg L j).length = min 8 (L.length - 8 * j) := by
  unfold seg
  rw [List.length_take, List.length_drop]
theorem sh8 : ∀ u, u < 8 → (((8 - nI u) &&& 31 : Int32).toBitVec.smod 32).toNat = (if u = 0 then 8 else 8 - u) := by decide +kernel
theorem c_finish {h0 N : Nat} {L : List Nat} {o u t : Int32} {f : Nat → Int32} (hN2 : N < 2147483640) (hB : BW h0 L o u t f) (hN : h0 + (L.length + 7) / 8 ≤ N) : ∃ f' : Nat → Int32, (∀ j, j < h0 → nb f' j = nb f j) ∧ (∀ j, j < (L.length + 7) / 8 → nb f' (h0 + j) = pkB L j) ∧ ∀ (β : Type) (K : Int32 → Int32 → Int32 → (Nat → Int32) → β), fn_wk_X1_finish N o u t f β K = K 0 0 (nI (h0 + (L.length + 7) / 8)) f' := by
  obtain ⟨hb, rfl, rfl, rfl, hf⟩ := hB
  have hfull : ∀ j, j < L.length / 8 → nb f (h0 + j) = pkB L j := fun j hj => by
    rw [hf j hj]
    unfold pkB pkN
    rw [seg_len, show 8 - min 8 (L.length - 8 * j) = 0 by omega, Nat.pow_zero, Nat.mul_one]
    rfl
  by_cases h : L.length % 8 = 0
  · refine ⟨f, fun _ _ => rfl, fun j hj => hfull j (by omega), fun β K => ?_⟩
    rw [fn_wk_X1_finish_s, h, if_pos (by decide), show (L.length + 7) / 8 = L.length / 8 by omega]
  · have hsg : seg L (L.length / 8) = L.drop (8 * (L.length / 8)) := List.take_of_length_le (by rw [List.length_drop]; omega)
    have hl : (L.drop (8 * (L.length / 8))).length = L.length % 8 := by rw [List.length_drop]; omega
    have hbd : b01 (L.drop (8 * (L.length / 8))) := fun y hy => hb y (List.mem_of_mem_drop hy)
    have hlt := bv_lt _ _ hl hbd
    have h7 : 2 ^ (L.length % 8) ≤ 2 ^ 7 := Nat.pow_le_pow_right (by decide) (by omega)
    have h8 : 2 ^ (8 - L.length % 8) ≤ 2 ^ 8 := Nat.pow_le_pow_right (by decide) (by omega)
    have hm : bv (L.drop (8 * (L.length / 8))) * 2 ^ (8 - L.length % 8) ≤ 2 ^ 7 * 2 ^ 8 := Nat.mul_le_mul (by omega) h8
    refine ⟨upd f (h0 + L.length / 8) (Int8.toInt32 (Int32.toInt8 (nI (pkN L (L.length / 8))))), fun j hj => nb_un (by omega), fun j hj => ?_, fun β K => ?_⟩
    · by_cases hj2 : j = L.length / 8
      · subst hj2
        rw [nb_us]
        rfl
      · rw [nb_un (by omega), hfull j (by omega)]
    · have hs := sh8 (L.length % 8) (by omega)
      rw [if_neg h] at hs
      rw [fn_wk_X1_finish_s, if_neg (nI_nle (by omega) (by omega)), pk_shlN _ _ hs (by omega), c_add (by omega) (by omega)]
      unfold pkN
      rw [hsg, hl, show h0 + (L.length + 7) / 8 = h0 + L.length / 8 + 1 by omega]
theorem rpk0 {n ao : Nat} : ∀ (d fuel l : Nat) (f : Nat → Int32), l + d = (n + 7) / 8 → d < fuel → (∀ j, j < l → nb f (ao + j) = 0) → ∃ f' : Nat → Int32, (∀ j, j < ao → nb f' j = nb f j) ∧ (∀ j, j < (n + 7) / 8 → nb f' (ao + j) = 0) ∧ ∀ (β : Type) (kx : (Nat → Int32) → Nat → β), lf_wr_X11_packs_12 n ao β kx fuel f l = kx f' ((n + 7) / 8) := by
  intro d
  induction d with
  | zero =>
    intro fuel l f hl hf h
    obtain ⟨q, rfl⟩ : ∃ q, fuel = q + 1 := ⟨fuel - 1, by omega⟩
    refine ⟨f, fun _ _ => rfl, fun j hj => h j (by omega), fun β kx => ?_⟩
    rw [lf_wr_X11_packs_12_s, if_pos (by omega), show l = (n + 7) / 8 by omega]
  | succ d ih =>
    intro fuel l f hl hf h
    obtain ⟨q, rfl⟩ : ∃ q, fuel = q + 1 := ⟨fuel - 1, by omega⟩
    obtain ⟨f2, h1, h2, h3⟩ := ih q (l + 1) (upd f (ao + l) 0) (by omega) (by omega) (fun j hj => by
      by_cases e : j = l
      · subst e
        show (upd f (ao + j) 0 (ao + j)).toInt8.toInt32 = 0
        rw [pk_us]
        decide
      · rw [nb_un (by omega)]
        exact h j (by omega))
    refine ⟨f2, fun j hj => (h1 j hj).trans (nb_un (by omega)), h2, fun β kx => ?_⟩
    rw [lf_wr_X11_packs_12_s, if_neg (by omega)]
    exact h3 β kx
theorem sh7 : ∀ r, r < 8 → (((7 - nI r) &&& 31 : Int32).toBitVec.smod 32).toNat = 7 - r := by decide +kernel
theorem or_pk {A B r x : Nat} (hr : r < 8) (hx : x ≤ 1) (hA : A < 256) (hd : A % 2 ^ (8 - r) = 0) : Int8.toInt32 (Int32.toInt8 ((Int8.toInt32 (Int32.toInt8 (nI A))) ||| (nI x <<< ((7 - nI r) &&& 31)))) = Int8.toInt32 (Int32.toInt8 (nI (A + x * 2 ^ (7 - r)))) := by
  have h7 : 2 ^ (7 - r) ≤ 2 ^ 7 := Nat.pow_le_pow_right (by decide) (by omega)
  have hm : x * 2 ^ (7 - r) ≤ 1 * 2 ^ 7 := Nat.mul_le_mul hx h7
  rw [pk_shlN (n := x) _ _ (sh7 r hr) (by omega), Int32.toInt8_or, Int8.toInt8_toInt32, ← Int32.toInt8_or, or_eq (by omega) (by omega)]
  have e : 2 ^ (8 - r) = 2 * 2 ^ (7 - r) := by
    rw [show 8 - r = (7 - r) + 1 by omega, Nat.pow_succ, Nat.mul_comm]
  have hlt : x * 2 ^ (7 - r) < 2 ^ (8 - r) := by
    rw [e]
    have := Nat.two_pow_pos (7 - r)
    have h1 : x * 2 ^ (7 - r) ≤ 1 * 2 ^ (7 - r) := Nat.mul_le_mul_right _ hx
    omega
  have h2 := Nat.two_pow_add_eq_or_of_lt hlt (A / 2 ^ (8 - r))
  have h3 : 2 ^ (8 - r) * (A / 2 ^ (8 - r)) = A := by
    have := Nat.div_add_mod A (2 ^ (8 - r))
    omega
  rw [h3] at h2
  rw [← h2]
theorem take_succ_getD {L : List Nat} {i : Nat} (h : i < L.length) : L.take (i + 1) = L.take i ++ [L.getD i 0] := by
  rw [List.take_add_one, List.getD_eq_getElem?_getD, List.getElem?_eq_getElem h]
  rfl
theorem pk_step {L : List Nat} {i : Nat} (hb : b01 L) (h : i < L.length) : pkN (L.take (i + 1)) (i / 8) = pkN (L.take i) (i / 8) + L.getD i 0 * 2 ^ (7 - i % 8) ∧ pkN (L.take i) (i / 8) < 256 ∧ pkN (L.take i) (i / 8) % 2 ^ (8 - i % 8) = 0 := by
  have hl : (L.take i).length = i := by rw [List.length_take]; omega
  have hs : seg (L.take (i + 1)) (i / 8) = seg (L.take i) (i / 8) ++ [L.getD i 0] := by
    unfold seg
    rw [take_succ_getD h, drop_snoc (by rw [hl]; omega), List.take_of_length_le (i := 8) (l := List.drop (8 * (i / 8)) (List.take i L) ++ [L.getD i 0]) (by rw [List.length_append, List.length_drop, hl]; show _ + 1 ≤ 8; omega), List.take_of_length_le (i := 8) (l := List.drop (8 * (i / 8)) (List.take i L)) (by rw [List.length_drop, hl]; omega)]
  have hn : (seg (L.take i) (i / 8)).length = i % 8 := by rw [seg_len, hl]; omega
  have hlt := bv_lt _ _ hn (fun y hy => hb y (List.mem_of_mem_take (List.mem_of_mem_drop (List.mem_of_mem_take hy))))
  unfold pkN
  rw [hs, List.length_append, hn, bv_snoc]
  generalize bv (seg (L.take i) (i / 8)) = b at hlt
  have e : 2 ^ (8 - i % 8) = 2 * 2 ^ (7 - i % 8) := by
    rw [show 8 - i % 8 = (7 - i % 8) + 1 by omega, Nat.pow_succ, Nat.mul_comm]
  refine ⟨?_, ?_, Nat.mul_mod_left _ _⟩
  · rw [show 8 - (i % 8 + [L.getD i 0].length) = 7 - i % 8 by show 8 - (i % 8 + 1) = _; omega, e, Nat.add_mul, ← Nat.mul_assoc, Nat.mul_comm b 2]
  · have h1 : b * 2 ^ (8 - i % 8) < 2 ^ (i % 8) * 2 ^ (8 - i % 8) := Nat.mul_lt_mul_of_pos_right hlt (Nat.two_pow_pos _)
    rw [← Nat.pow_add, show i % 8 + (8 - i % 8) = 8 by omega] at h1
    exact h1
theorem pk_other {L : List Nat} {i j : Nat} (h : i < L.length) (hj : j ≠ i / 8) : pkN (L.take (i + 1)) j = pkN (L.take i) j := by
  have hl : (L.take i).length = i := by rw [List.length_take]; omega
  have hs : seg (L.take (i + 1)) j = seg (L.take i) j := by
    unfold seg
    rw [take_succ_getD h]
    by_cases h1 : 8 * j ≤ i
    · rw [drop_snoc (by rw [hl]; omega), List.take_append_of_le_length (by rw [List.length_drop, hl]; omega)]
    · rw [List.drop_of_length_le (by rw [List.length_append, hl]; show i + 1 ≤ 8 * j; omega), List.drop_of_length_le (by rw [hl]; omega)]
  unfold pkN
  rw [hs]
theorem rpk1 {ao : Nat} {L : List Nat} {g : Nat → Int32} (hb : b01 L) (hg : ∀ j, j < L.length → g j = nI (L.getD j 0)) : ∀ (d fuel l : Nat) (f : Nat → Int32), l + d = L.length → d < fuel → (∀ j, j < (L.length + 7) / 8 → nb f (ao + j) = pkB (L.take l) j) → ∃ f' : Nat → Int32, (∀ j, j < ao → nb f' j = nb f j) ∧ (∀ j, j < (L.length + 7) / 8 → nb f' (ao + j) = pkB L j) ∧ ∀ (β : Type) (kx : (Nat → Int32) → Nat → β), lf_wr_X11_packs_35 L.length ao g β kx fuel f l = kx f' L.length := by
  intro d
  induction d with
  | zero =>
    intro fuel l f hl hf h
    obtain ⟨q, rfl⟩ : ∃ q, fuel = q + 1 := ⟨fuel - 1, by omega⟩
    refine ⟨f, fun _ _ => rfl, fun j hj => by rw [h j hj, List.take_of_length_le (by omega)], fun β kx => ?_⟩
    rw [lf_wr_X11_packs_35_s, if_pos (by omega), show l = L.length by omega]
  | succ d ih =>
    intro fuel l f hl hf h
    obtain ⟨q, rfl⟩ : ∃ q, fuel = q + 1 := ⟨fuel - 1, by omega⟩
    have hx : L.getD l 0 ≤ 1 := by
      rw [List.getD_eq_getElem?_getD, List.getElem?_eq_getElem (by omega)]
      exact hb _ (List.getElem_mem _)
    obtain ⟨p1, p2, p3⟩ := pk_step hb (i := l) (by omega)
    have en : nb g l = nI (L.getD l 0) := by
      show (g l).toInt8.toInt32 = _
      rw [hg l (by omega)]
      have : L.getD l 0 = 0 ∨ L.getD l 0 = 1 := by omega
      rcases this with e | e <;> rw [e] <;> decide
    have ev : Int8.toInt32 (Int32.toInt8 ((nb f (ao + l / 8)) ||| ((nb g l) <<< ((7 - nI (l % 8)) &&& 31)))) = Int8.toInt32 (Int32.toInt8 (nI (pkN (L.take (l + 1)) (l / 8)))) := by
      rw [h (l / 8) (by omega), en, p1]
      exact or_pk (B := 0) (by omega) hx p2 p3
    obtain ⟨f2, h1, h2, h3⟩ := ih q (l + 1) (upd f (ao + l / 8) (Int8.toInt32 (Int32.toInt8 (nI (pkN (L.take (l + 1)) (l / 8)))))) (by omega) (by omega) (fun j hj => by
      by_cases e : j = l / 8
      · subst e
        rw [nb_us]
        rfl
      · rw [nb_un (by omega), h j hj]
        unfold pkB
        rw [pk_other (by omega) e])
    refine ⟨f2, fun j hj => (h1 j hj).trans (nb_un (by omega)), h2, fun β kx => ?_⟩
    rw [lf_wr_X11_packs_35_s, if_neg (by omega)]
    repeat rw [fnL_b]
    rw [ev]
    exact h3 β kx
theorem r_packs {ao m : Nat} {L : List Nat} {g f : Nat → Int32} (hB : RB L m g) : ∃ f' : Nat → Int32, (∀ j, j < ao → nb f' j = nb f j) ∧ (∀ j, j < (L.length + 7) / 8 → nb f' (ao + j) = pkB L j) ∧ ∀ (β : Type) (K : (Nat → Int32) → β), fn_wr_X11_packs m ao g f β K = K f' := by
  obtain ⟨hb, rfl, hg⟩ := hB
  obtain ⟨f1, a1, a2, a3⟩ := rpk0 (n := L.length) (ao := ao) ((L.length + 7) / 8) ((L.length + 7) / 8 + 1) 0 f (by omega) (by omega) (fun j hj => absurd hj (by omega))
  obtain ⟨f2, b1, b2, b3⟩ := rpk1 (ao := ao) hb hg L.length (L.length + 1) 0 f1 (by omega) (by omega) (fun j hj => by rw [a2 j hj]; unfold pkB pkN seg; rw [List.take_zero, List.drop_nil]; decide)
  refine ⟨f2, fun j hj => (b1 j hj).trans (a1 j hj), b2, fun β K => ?_⟩
  rw [fn_wr_X11_packs_s]
  refine (a3 β _).trans ?_
  exact b3 β _
