/-! BYTES of the class; BITS as a list, in class and reference -/
theorem nb_nb (f : Nat → Int32) (j : Nat) : ((nb f j).toInt8).toInt32 = nb f j := by
  show ((f j).toInt8.toInt32.toInt8).toInt32 = (f j).toInt8.toInt32
  rw [Int8.toInt8_toInt32]
theorem nb_us {f : Nat → Int32} {k : Nat} {b : Int32} : nb (upd f k (Int8.toInt32 (Int32.toInt8 b))) k = Int8.toInt32 (Int32.toInt8 b) := by
  show (upd f k (Int8.toInt32 (Int32.toInt8 b)) k).toInt8.toInt32 = _
  rw [pk_us, Int8.toInt8_toInt32]
theorem nb_un {f : Nat → Int32} {k j : Nat} {x : Int32} (h : j ≠ k) : nb (upd f k x) j = nb f j := by
  show (upd f k x j).toInt8.toInt32 = _
  rw [pk_un h]
  rfl
theorem c_add {β : Type} {K : Int32 → (Nat → Int32) → β} {N k : Nat} {f : Nat → Int32} {b : Int32} (hk : k < N) (hN : N < 2147483648) : fn_wk_X2_add N (nI k) f b β K = K (nI (k + 1)) (upd f k (Int8.toInt32 (Int32.toInt8 b))) := by
  rw [fn_wk_X2_add_s, if_neg (nI_pos (by omega)), if_neg (nI_ge hk (by omega)), nI_clamp (by omega), nI_1]
theorem c_at {β : Type} {K : Int32 → β} {N k i : Nat} {f : Nat → Int32} (hi : i < k) (hk : k ≤ N) (hN : N < 2147483648) : fn_wk_X2_at N (nI k) f (nI i) β K = K (nI ((nb f i).toBitVec.toNat % 256)) := by
  rw [fn_wk_X2_at_s, if_neg (nI_pos (by omega)), if_neg (nI_ge hi (by omega)), if_neg (nI_ge (by omega) (by omega)), nI_clamp (by omega), pk_and (nb f i) (m := 255) 8 (by decide)]
def wr4 (f : Nat → Int32) (k : Nat) (w : Int32) : Nat → Int32 := upd (upd (upd (upd f (k + 0) (Int8.toInt32 (Int32.toInt8 (w >>> (24 &&& 31))))) (k + 1) (Int8.toInt32 (Int32.toInt8 (w >>> (16 &&& 31))))) (k + 2) (Int8.toInt32 (Int32.toInt8 (w >>> (8 &&& 31))))) (k + 3) (Int8.toInt32 (Int32.toInt8 (w >>> (0 &&& 31))))
theorem c_addWord {β : Type} {K : Int32 → (Nat → Int32) → β} {N k : Nat} {f : Nat → Int32} {w : Int32} (hk : k + 4 ≤ N) (hN : N < 2147483648) : fn_wk_X2_addWord N (nI k) f w β K = K (nI (k + 4)) (wr4 f k w) := by
  rw [fn_wk_X2_addWord_s, c_add (by omega) hN, c_add (by omega) hN, c_add (by omega) hN, c_add (by omega) hN]
  rfl
theorem c_putWord {β : Type} {K : (Nat → Int32) → β} {N k j : Nat} {f : Nat → Int32} {w : Int32} (hj : j + 4 ≤ k) (hk : k ≤ N) (hN : N < 2147483640) : fn_wk_X2_putWord N (nI k) f (nI j) w β K = K (wr4 f j w) := by
  have e0 : nI j + 0 = nI (j + 0) := nI_add j 0
  have e1 : nI j + 1 = nI (j + 1) := nI_add j 1
  have e2 : nI j + 2 = nI (j + 2) := nI_add j 2
  have e3 : nI j + 3 = nI (j + 3) := nI_add j 3
  have e4 : nI j + 4 = nI (j + 4) := nI_add j 4
  rw [fn_wk_X2_putWord_s, e0, e1, e2, e3, e4, if_neg (nI_pos (by omega)), if_neg (nI_nlt (by omega) (by omega)), if_pos (nI_le (by omega) (by omega)), nI_clamp (by omega), nI_clamp (by omega), nI_clamp (by omega), nI_clamp (by omega)]
  rfl
theorem r_putInt {β : Type} {K : (Nat → Int32) → β} {k : Nat} {f : Nat → Int32} {w : Int32} : fn_wr_X11_putInt k f w β K = K (wr4 f k w) := rfl
theorem wr4_out {f : Nat → Int32} {k j : Nat} {w : Int32} (h : j < k ∨ k + 4 ≤ j) : nb (wr4 f k w) j = nb f j := by
  unfold wr4
  rw [nb_un (by omega), nb_un (by omega), nb_un (by omega), nb_un (by omega)]
theorem wr4_in {f g : Nat → Int32} {k j i : Nat} {w : Int32} (h : i < 4) : nb (wr4 f k w) (k + i) = nb (wr4 g j w) (j + i) := by
  have hi : i = 0 ∨ i = 1 ∨ i = 2 ∨ i = 3 := by omega
  unfold wr4
  rcases hi with rfl | rfl | rfl | rfl
  · rw [nb_un (by omega), nb_un (by omega), nb_un (by omega), nb_us, nb_un (by omega), nb_un (by omega), nb_un (by omega), nb_us]
  · rw [nb_un (by omega), nb_un (by omega), nb_us, nb_un (by omega), nb_un (by omega), nb_us]
  · rw [nb_un (by omega), nb_us, nb_un (by omega), nb_us]
  · rw [nb_us, nb_us]
/-- a row of bits as a number -/
def bv (l : List Nat) : Nat := l.foldl (fun a b => 2 * a + b) 0
theorem bv_snoc (l : List Nat) (x : Nat) : bv (l ++ [x]) = 2 * bv l + x := by
  unfold bv
  rw [List.foldl_append]
  rfl
def b01 (l : List Nat) : Prop := ∀ x, x ∈ l → x ≤ 1
theorem b01_app {l m : List Nat} (h : b01 l) (h2 : b01 m) : b01 (l ++ m) := fun x hx => by
  rcases List.mem_append.mp hx with h3 | h3
  · exact h x h3
  · exact h2 x h3
theorem b01_1 {x : Nat} (h : x ≤ 1) : b01 [x] := fun y hy => by
  rw [List.mem_singleton.mp hy]
  exact h
theorem bv_lt : ∀ (n : Nat) (l : List Nat), l.length = n → b01 l → bv l < 2 ^ n := by
  intro n
  induction n with
  | zero =>
    intro l h _
    rw [List.length_eq_zero_iff.mp h]
    decide
  | succ n ih =>
    intro l h hb
    have hne : l ≠ [] := fun q => by rw [q] at h; exact absurd h (by simp)
    rw [← List.dropLast_concat_getLast hne, bv_snoc, Nat.pow_succ]
    have h1 := ih l.dropLast (by rw [List.length_dropLast]; omega) (fun x hx => hb x (List.dropLast_subset l hx))
    have h2 := hb _ (List.getLast_mem hne)
    omega
/-- the class's writer: L has been written behind h0 bytes -/
def BW (h0 : Nat) (L : List Nat) (o u t : Int32) (f : Nat → Int32) : Prop := b01 L ∧ u = nI (L.length % 8) ∧ t = nI (h0 + L.length / 8) ∧ o = nI (bv (L.drop (8 * (L.length / 8)))) ∧ ∀ j, j < L.length / 8 → nb f (h0 + j) = Int8.toInt32 (Int32.toInt8 (nI (bv ((L.drop (8 * j)).take 8))))
/-- the reference's bits -/
def RB (L : List Nat) (m : Nat) (g : Nat → Int32) : Prop := b01 L ∧ m = L.length ∧ ∀ j, j < L.length → g j = nI (L.getD j 0)
def bitOf (v : Int64) (i : Nat) : Nat := (v >>> (Int32.toInt64 (nI i) &&& 63)).toBitVec.toNat % 2
def bitsOf (v : Int64) : Nat → List Nat
  | 0 => []
  | n + 1 => bitOf v n :: bitsOf v n
theorem bitOf_le (v : Int64) (i : Nat) : bitOf v i ≤ 1 := by unfold bitOf; omega
theorem b01_bits (v : Int64) : ∀ n, b01 (bitsOf v n) := by
  intro n
  induction n with
  | zero => intro x hx; cases hx
  | succ n ih =>
    intro x hx
    rcases List.mem_cons.mp hx with h | h
    · rw [h]; exact bitOf_le v n
    · exact ih x h
theorem bits_len (v : Int64) : ∀ n, (bitsOf v n).length = n := by
  intro n
  induction n with
  | zero => rfl
  | succ n ih => show (bitsOf v n).length + 1 = n + 1; rw [ih]
theorem l_and1 (y : Int64) : y &&& 1 = lN (y.toBitVec.toNat % 2) := by
  apply Int64.toBitVec_inj.mp
  apply BitVec.eq_of_toNat_eq
  show (y.toBitVec &&& 1#64).toNat = (BitVec.ofNat 64 (y.toBitVec.toNat % 2)).toNat
  rw [BitVec.toNat_and]
  show y.toBitVec.toNat &&& (2 ^ 1 - 1) = (BitVec.ofNat 64 (y.toBitVec.toNat % 2)).toNat
  rw [Nat.and_two_pow_sub_one_eq_mod, BitVec.toNat_ofNat]
  omega
theorem bit_eq (v : Int64) (i : Nat) : Int64.toInt32 ((v >>> (Int32.toInt64 (nI i) &&& 63)) &&& 1) = nI (bitOf v i) := by
  rw [l_and1, lN_i]
  rfl
theorem sh_or {a x : Nat} (ha : a < 128) (hx : x ≤ 1) : (nI a <<< (1 &&& 31)) ||| nI x = nI (2 * a + x) := by
  rw [pk_shlN (n := a) (1 &&& 31) 1 (by decide) (by omega), or_eq (by omega) (by omega)]
  have h := Nat.two_pow_add_eq_or_of_lt (i := 1) (b := x) (by omega) a
  rw [show a * 2 ^ 1 = 2 ^ 1 * a from Nat.mul_comm _ _, ← h]
theorem drop_snoc {L : List Nat} {x i : Nat} (h : i ≤ L.length) : (L ++ [x]).drop i = L.drop i ++ [x] := List.drop_append_of_le_length h
/-- one bit -/
theorem BW_bit {h0 N : Nat} {L : List Nat} {o u t : Int32} {f : Nat → Int32} {x : Nat} (h : BW h0 L o u t f) (hx : x ≤ 1) (hN : h0 + (L.length + 1) / 8 ≤ N) (hN2 : N < 2147483640) : ∃ (o' u' t' : Int32) (f' : Nat → Int32), BW h0 (L ++ [x]) o' u' t' f' ∧ (∀ j, j < h0 → nb f' j = nb f j) ∧ ((u + 1 = 8 ∧ o' = 0 ∧ u' = 0 ∧ ∀ (β : Type) (K : Int32 → (Nat → Int32) → β), fn_wk_X2_add N t f ((o <<< (1 &&& 31)) ||| nI x) β K = K t' f') ∨ (¬ u + 1 = 8 ∧ o' = (o <<< (1 &&& 31)) ||| nI x ∧ u' = u + 1 ∧ t' = t ∧ f' = f)) := by
  obtain ⟨hb, rfl, rfl, rfl, hf⟩ := h
  have hl : (L.drop (8 * (L.length / 8))).length = L.length % 8 := by rw [List.length_drop]; omega
  have hbd : b01 (L.drop (8 * (L.length / 8))) := fun y hy => hb y (List.mem_of_mem_drop hy)
  have hlt := bv_lt _ _ hl hbd
  have h7 : 2 ^ (L.length % 8) ≤ 2 ^ 7 := Nat.pow_le_pow_right (by decide) (by omega)
  have hlen : (L ++ [x]).length = L.length + 1 := by rw [List.length_append]; rfl
  have ho : (nI (bv (L.drop (8 * (L.length / 8)))) <<< (1 &&& 31)) ||| nI x = nI (bv (L.drop (8 * (L.length / 8)) ++ [x])) := by
    rw [sh_or (by omega) hx, bv_snoc]
  by_cases h8 : L.length % 8 = 7
  · refine ⟨0, 0, nI (h0 + L.length / 8 + 1), upd f (h0 + L.length / 8) (Int8.toInt32 (Int32.toInt8 (nI (bv (L.drop (8 * (L.length / 8)) ++ [x]))))), ⟨b01_app hb (b01_1 hx), ?_, ?_, ?_, ?_⟩, ?_, Or.inl ⟨?_, rfl, rfl, ?_⟩⟩
    · rw [hlen, show (L.length + 1) % 8 = 0 by omega]; rfl
    · rw [hlen]; congr 1; omega
    · rw [hlen, List.drop_of_length_le (by rw [hlen]; omega)]; rfl
    · intro j hj
      rw [hlen] at hj
      by_cases hj2 : j = L.length / 8
      · subst hj2
        rw [nb_us, drop_snoc (by omega), List.take_of_length_le (by rw [List.length_append, hl]; show _ + 1 ≤ 8; omega)]
      · rw [nb_un (by omega), hf j (by omega), drop_snoc (by omega), List.take_append_of_le_length (by rw [List.length_drop]; omega)]
    · intro j hj; exact nb_un (by omega)
    · rw [h8]; rfl
    · intro β K
      rw [ho, c_add (by omega) (by omega)]
  · refine ⟨nI (bv (L.drop (8 * (L.length / 8)) ++ [x])), nI (L.length % 8 + 1), nI (h0 + L.length / 8), f, ⟨b01_app hb (b01_1 hx), ?_, ?_, ?_, ?_⟩, fun j _ => rfl, Or.inr ⟨?_, ho.symm, (nI_1 _).symm, rfl, rfl⟩⟩
    · rw [hlen]; congr 1; omega
    · rw [hlen]; congr 1; omega
    · rw [hlen, show (L.length + 1) / 8 = L.length / 8 by omega, drop_snoc (by omega)]
    · intro j hj
      rw [hlen] at hj
      rw [hf j (by omega), drop_snoc (by omega), List.take_append_of_le_length (by rw [List.length_drop]; omega)]
    · intro q
      have e : nI (L.length % 8) + 1 = nI (L.length % 8 + 1) := nI_1 _
      rw [e] at q
      have := (nI_eq (a := L.length % 8 + 1) (b := 8) (by omega) (by omega)).mp q
      omega
theorem c_wb {h0 N : Nat} {v : Int64} {l3 : Int32} (hN2 : N < 2147483640) : ∀ (n fuel : Nat) (L : List Nat) (o u t : Int32) (f : Nat → Int32), n < 2147483648 → n < fuel → BW h0 L o u t f → h0 + (L.length + n) / 8 ≤ N → ∃ (o' u' t' : Int32) (f' : Nat → Int32), BW h0 (L ++ bitsOf v n) o' u' t' f' ∧ (∀ j, j < h0 → nb f' j = nb f j) ∧ ∀ (β : Type) (kx : Int32 → Int32 → Int32 → (Nat → Int32) → Int64 → Int32 → Int32 → β), lf_wk_X1_writeBits_5 N β kx fuel o u t f v l3 (nI n - 1) = kx o' u' t' f' v l3 (nI 0 - 1) := by
  intro n
  induction n with
  | zero =>
    intro fuel L o u t f _ hf hB hN
    obtain ⟨q, rfl⟩ : ∃ q, fuel = q + 1 := ⟨fuel - 1, by omega⟩
    refine ⟨o, u, t, f, by rw [show bitsOf v 0 = [] from rfl, List.append_nil]; exact hB, fun _ _ => rfl, fun β kx => ?_⟩
    rw [lf_wk_X1_writeBits_5_s, if_pos (by decide)]
  | succ n ih =>
    intro fuel L o u t f hn hf hB hN
    obtain ⟨q, rfl⟩ : ∃ q, fuel = q + 1 := ⟨fuel - 1, by omega⟩
    obtain ⟨o1, u1, t1, f1, hB1, hk1, hs⟩ := BW_bit (N := N) (x := bitOf v n) hB (bitOf_le v n) (by omega) hN2
    obtain ⟨o2, u2, t2, f2, hB2, hk2, hs2⟩ := ih q (L ++ [bitOf v n]) o1 u1 t1 f1 (by omega) (by omega) hB1 (by rw [List.length_append]; show _ + (_ + 1 + n) / 8 ≤ N; omega)
    refine ⟨o2, u2, t2, f2, by rw [List.append_assoc] at hB2; exact hB2, fun j hj => (hk2 j hj).trans (hk1 j hj), fun β kx => ?_⟩
    rw [lf_wk_X1_writeBits_5_s, nI_pred, if_neg (nI_pos (by omega)), bit_eq]
    rcases hs with ⟨h8, rfl, rfl, ha⟩ | ⟨h8, rfl, rfl, rfl, rfl⟩
    · rw [if_pos h8, ha, i_m1]
      exact hs2 β kx
    · rw [if_neg h8, i_m1]
      exact hs2 β kx
theorem fu_d {n : Nat} (h : n < 2147483648) : (Int32.toInt (nI n - 1) + 1).toNat = n := by
  have e : (nI n - 1).toInt = (n : Int) - 1 := by
    rw [Int32.toInt_sub, nI_toInt h]
    show ((n : Int) - 1).bmod (2 ^ 32) = _
    rw [Int.bmod_eq_of_le] <;> omega
  rw [e]
  omega
theorem c_writeBits {h0 N n : Nat} {v : Int64} {L : List Nat} {o u t : Int32} {f : Nat → Int32} (hN2 : N < 2147483640) (hn : n < 2147483648) (hB : BW h0 L o u t f) (hN : h0 + (L.length + n) / 8 ≤ N) : ∃ (o' u' t' : Int32) (f' : Nat → Int32), BW h0 (L ++ bitsOf v n) o' u' t' f' ∧ (∀ j, j < h0 → nb f' j = nb f j) ∧ ∀ (β : Type) (K : Int32 → Int32 → Int32 → (Nat → Int32) → β), fn_wk_X1_writeBits N o u t f v (nI n) β K = K o' u' t' f' := by
  obtain ⟨o2, u2, t2, f2, hB2, hk2, hs2⟩ := c_wb (h0 := h0) (v := v) (l3 := nI n) hN2 n (n + 1) L o u t f hn (by omega) hB hN
  refine ⟨o2, u2, t2, f2, hB2, hk2, fun β K => ?_⟩
  rw [fn_wk_X1_writeBits_s, fu_d hn, hs2]
/-- the reference's -/
theorem RB_bit {L : List Nat} {m : Nat} {g : Nat → Int32} {x : Nat} (h : RB L m g) (hx : x ≤ 1) : RB (L ++ [x]) (m + 1) (upd g m (Int8.toInt32 (Int32.toInt8 (nI x)))) := by
  obtain ⟨hb, rfl, hg⟩ := h
  have e : Int8.toInt32 (Int32.toInt8 (nI x)) = nI x := by
    have : x = 0 ∨ x = 1 := by omega
    rcases this with rfl | rfl <;> decide
  have hlen : (L ++ [x]).length = L.length + 1 := by rw [List.length_append]; rfl
  refine ⟨b01_app hb (b01_1 hx), by rw [hlen], fun j hj => ?_⟩
  rw [hlen] at hj
  rw [e, List.getD_eq_getElem?_getD]
  by_cases h2 : j = L.length
  · subst h2
    rw [pk_us, List.getElem?_append_right (Nat.le_refl _), Nat.sub_self]
    rfl
  · rw [pk_un h2, List.getElem?_append_left (by omega), hg j (by omega), List.getD_eq_getElem?_getD]
theorem r_bits {v : Int64} : ∀ (n fuel : Nat) (L : List Nat) (m : Nat) (g : Nat → Int32), n < fuel → RB L m g → ∃ g', RB (L ++ bitsOf v n) (m + n) g' ∧ ∀ (β : Type) (kx : Nat → (Nat → Int32) → Nat → β), lf_wr_X11_bits_5 v β kx fuel m g n = kx (m + n) g' 0 := by
  intro n
  induction n with
  | zero =>
    intro fuel L m g hf hB
    obtain ⟨q, rfl⟩ : ∃ q, fuel = q + 1 := ⟨fuel - 1, by omega⟩
    refine ⟨g, by rw [show bitsOf v 0 = [] from rfl, List.append_nil]; exact hB, fun β kx => ?_⟩
    rw [lf_wr_X11_bits_5_s, if_pos (by decide)]
    rfl
  | succ n ih =>
    intro fuel L m g hf hB
    obtain ⟨q, rfl⟩ : ∃ q, fuel = q + 1 := ⟨fuel - 1, by omega⟩
    obtain ⟨g2, hB2, hs2⟩ := ih q (L ++ [bitOf v n]) (m + 1) _ (by omega) (RB_bit hB (bitOf_le v n))
    refine ⟨g2, by rw [List.append_assoc, show m + 1 + n = m + (n + 1) by omega] at hB2; exact hB2, fun β kx => ?_⟩
    rw [lf_wr_X11_bits_5_s, if_neg (by omega)]
    repeat rw [fnL_b]
    rw [show n + 1 - 1 = n from rfl, fn_wr_X11_bit_s, bit_eq, hs2, show m + 1 + n = m + (n + 1) by omega]
theorem r_putSide {v : Int64} : ∀ (n fuel : Nat) (L : List Nat) (m : Nat) (g : Nat → Int32), n < fuel → RB L m g → ∃ g', RB (L ++ bitsOf v n) (m + n) g' ∧ ∀ (β : Type) (kx : Nat → (Nat → Int32) → Nat → β), lf_wr_X11_putSide_5 v β kx fuel m g n = kx (m + n) g' 0 := by
  intro n
  induction n with
  | zero =>
    intro fuel L m g hf hB
    obtain ⟨q, rfl⟩ : ∃ q, fuel = q + 1 := ⟨fuel - 1, by omega⟩
    refine ⟨g, by rw [show bitsOf v 0 = [] from rfl, List.append_nil]; exact hB, fun β kx => ?_⟩
    rw [lf_wr_X11_putSide_5_s, if_pos (by decide)]
    rfl
  | succ n ih =>
    intro fuel L m g hf hB
    obtain ⟨q, rfl⟩ : ∃ q, fuel = q + 1 := ⟨fuel - 1, by omega⟩
    obtain ⟨g2, hB2, hs2⟩ := ih q (L ++ [bitOf v n]) (m + 1) _ (by omega) (RB_bit hB (bitOf_le v n))
    refine ⟨g2, by rw [List.append_assoc, show m + 1 + n = m + (n + 1) by omega] at hB2; exact hB2, fun β kx => ?_⟩
    rw [lf_wr_X11_putSide_5_s, if_neg (by omega)]
    repeat rw [fnL_b]
    rw [show n + 1 - 1 = n from rfl, bit_eq, hs2, show m + 1 + n = m + (n + 1) by omega]
