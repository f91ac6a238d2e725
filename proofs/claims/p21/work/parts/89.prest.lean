/-! A REST: class -/
theorem rs_pos {v : Nat} (hv : v < 2147483648) : 0 ≤ nI v := nI_pos' hv
theorem rs_toInt {v : Nat} (hv : v < 2147483648) : (-1 - nI v : Int32).toInt = -1 - (v : Int) := by
  rw [Int32.toInt_sub, nI_toInt hv, show Int32.toInt (-1) = -1 from by decide]
  rw [Int.bmod_eq_of_le] <;> omega
theorem rs_neg {v : Nat} (hv : v < 2147483648) : ¬ 0 ≤ (-1 - nI v : Int32) := fun q => by
  have h := Int32.le_iff_toInt_le.mp q
  rw [rs_toInt hv, show Int32.toInt 0 = 0 from by decide] at h
  omega
theorem rs_l {v : Nat} (hv : v < 2147483648) : (-1 : Int64) - Int32.toInt64 (-1 - nI v) = lN v := by
  apply Int64.toInt_inj.mp
  rw [pk_lT (by omega), Int64.toInt_sub, Int32.toInt_toInt64, rs_toInt hv, show Int64.toInt (-1) = -1 from by decide]
  rw [Int.bmod_eq_of_le] <;> omega
theorem rs_of (x : Int32) : ∃ (be : Bool) (v : Nat), v < 2147483648 ∧ x = rsN be v ∧ (be = true ↔ ¬ 0 ≤ x) := by
  by_cases h : 0 ≤ x
  · obtain ⟨v, hv, e⟩ := nI_of (x := x) (o_4 h)
    exact ⟨false, v, hv, e, by simp [h]⟩
  · have h1 : x.toInt < 0 := by
      have := Int32.lt_iff_toInt_lt.mp (o_2 h)
      rw [show Int32.toInt 0 = 0 from by decide] at this
      exact this
    have h2 := x.le_toInt
    refine ⟨true, (-1 - x.toInt).toNat, by omega, ?_, by simp [h]⟩
    apply Int32.toInt_inj.mp
    show x.toInt = (-1 - nI (-1 - x.toInt).toNat : Int32).toInt
    rw [rs_toInt (by omega)]
    omega
theorem bits_0 : bitsOf 0 1 = [0] := by decide +kernel
theorem bits_1 : bitsOf 1 1 = [1] := by decide +kernel
theorem md_lt {lo hi : Nat} (h : lo < hi) : lo < mdN lo hi ∧ mdN lo hi ≤ hi := by unfold mdN; omega
theorem c_hv {E v h0 : Nat} (hE : E < 2147483648) (hv : v < 2147483648) {se b21 b22 w10 l2 l3 l5 : Int32} {sea : Nat → Int32} {mi : Nat → Int64} {l8 : Int64} : ∀ (n fuel i lo hi : Nat) (L : List Nat) (o u t : Int32) (f : Nat → Int32), i + n = 64 → n < fuel → lo ≤ hi → hi < 2305843009213693000 → BW h0 L o u t f → h0 + (L.length + (hvN E v n lo hi).1.length) / 8 ≤ 9600 → ∃ (o' u' t' : Int32) (f' : Nat → Int32) (i' : Int32), BW h0 (L ++ (hvN E v n lo hi).1) o' u' t' f' ∧ (∀ j, j < h0 → nb f' j = nb f j) ∧ ∀ (β : Type) (kx : Int32 → (Nat → Int32) → Int32 → (Nat → Int32) → Int32 → Int32 → Int32 → Int32 → Int32 → Int64 → Int64 → (Nat → Int64) → Int32 → Int32 → Int32 → Int64 → Int64 → Int32 → β), lf_wk_X4_writeRest_93 (nI E) β kx fuel t f se sea o u b21 b22 w10 (lN lo) (lN hi) mi l2 l3 l5 (lN v) l8 (nI i) = kx t' f' se sea o' u' b21 b22 w10 (lN (hvN E v n lo hi).2.1) (lN (hvN E v n lo hi).2.2) mi l2 l3 l5 (lN v) l8 i' := by
  intro n
  induction n with
  | zero =>
    intro fuel i lo hi L o u t f hi64 hf hlh hs0 hB hN
    obtain ⟨q, rfl⟩ : ∃ q, fuel = q + 1 := ⟨fuel - 1, by omega⟩
    have hs : lo + hi < 4611686018427387000 := by omega
    refine ⟨o, u, t, f, nI i, by show BW h0 (L ++ []) o u t f; rw [List.append_nil]; exact hB, fun _ _ => rfl, fun β kx => ?_⟩
    rw [lf_wk_X4_writeRest_93_s, if_pos (show (64 : Int32) ≤ nI i from nI_le (a := 64) (b := i) (by omega) (by omega))]
    rfl
  | succ n ih =>
    intro fuel i lo hi L o u t f hi64 hf hlh hs0 hB hN
    obtain ⟨q, rfl⟩ : ∃ q, fuel = q + 1 := ⟨fuel - 1, by omega⟩
    have hs : lo + hi < 4611686018427387000 := by omega
    have e0 : lN hi - lN lo = lN (hi - lo) := lN_sub hlh
    by_cases hc : hi - lo ≤ E
    · have eh : hvN E v (n + 1) lo hi = ([], lo, hi) := if_pos hc
      rw [eh]
      refine ⟨o, u, t, f, nI i, by show BW h0 (L ++ []) o u t f; rw [List.append_nil]; exact hB, fun _ _ => rfl, fun β kx => ?_⟩
      rw [lf_wk_X4_writeRest_93_s, if_neg (show ¬ (64 : Int32) ≤ nI i from nI_ge (a := i) (b := 64) (by omega) (by omega)), e0, nI_l hE, if_pos ((lc_le (a := hi - lo) (b := E) (by omega) (by omega)).mpr hc)]
    · have hlt : lo < hi := by omega
      obtain ⟨m1, m2⟩ := md_lt hlt
      by_cases hm : v < mdN lo hi
      · have eh : hvN E v (n + 1) lo hi = (0 :: (hvN E v n lo (mdN lo hi - 1)).1, (hvN E v n lo (mdN lo hi - 1)).2) := by
          show (if hi - lo ≤ E then _ else if v < mdN lo hi then _ else _) = _
          rw [if_neg hc, if_pos hm]
        rw [eh] at hN ⊢
        have hl : (0 :: (hvN E v n lo (mdN lo hi - 1)).1).length = (hvN E v n lo (mdN lo hi - 1)).1.length + 1 := rfl
        rw [hl] at hN
        obtain ⟨o1, u1, t1, f1, hB1, hk1, hs1⟩ := c_writeBits (N := 9600) (v := 0) (n := 1) (by omega) (by omega) hB (by omega)
        rw [bits_0] at hB1
        obtain ⟨o2, u2, t2, f2, i2, hB2, hk2, hs2⟩ := ih q (i + 1) lo (mdN lo hi - 1) (L ++ [0]) o1 u1 t1 f1 (by omega) (by omega) (by omega) (by omega) hB1 (by rw [List.length_append]; show h0 + (L.length + 1 + _) / 8 ≤ _; omega)
        refine ⟨o2, u2, t2, f2, i2, by rw [List.append_assoc] at hB2; exact hB2, fun j hj => (hk2 j hj).trans (hk1 j hj), fun β kx => ?_⟩
        rw [lf_wk_X4_writeRest_93_s, if_neg (show ¬ (64 : Int32) ≤ nI i from nI_ge (a := i) (b := 64) (by omega) (by omega)), e0, nI_l hE, if_neg (fun z => hc ((lc_le (a := hi - lo) (b := E) (by omega) (by omega)).mp z)), c_mid hs, if_pos ((lc_lt (a := v) (b := mdN lo hi) (by omega) (by omega)).mpr hm)]
        refine (hs1 β _).trans ?_
        rw [c_halve0 hs hlt, nI_1]
        exact hs2 β kx
      · have eh : hvN E v (n + 1) lo hi = (1 :: (hvN E v n (mdN lo hi) hi).1, (hvN E v n (mdN lo hi) hi).2) := by
          show (if hi - lo ≤ E then _ else if v < mdN lo hi then _ else _) = _
          rw [if_neg hc, if_neg hm]
        rw [eh] at hN ⊢
        have hl : (1 :: (hvN E v n (mdN lo hi) hi).1).length = (hvN E v n (mdN lo hi) hi).1.length + 1 := rfl
        rw [hl] at hN
        obtain ⟨o1, u1, t1, f1, hB1, hk1, hs1⟩ := c_writeBits (N := 9600) (v := 1) (n := 1) (by omega) (by omega) hB (by omega)
        rw [bits_1] at hB1
        obtain ⟨o2, u2, t2, f2, i2, hB2, hk2, hs2⟩ := ih q (i + 1) (mdN lo hi) hi (L ++ [1]) o1 u1 t1 f1 (by omega) (by omega) (by omega) (by omega) hB1 (by rw [List.length_append]; show h0 + (L.length + 1 + _) / 8 ≤ _; omega)
        refine ⟨o2, u2, t2, f2, i2, by rw [List.append_assoc] at hB2; exact hB2, fun j hj => (hk2 j hj).trans (hk1 j hj), fun β kx => ?_⟩
        rw [lf_wk_X4_writeRest_93_s, if_neg (show ¬ (64 : Int32) ≤ nI i from nI_ge (a := i) (b := 64) (by omega) (by omega)), e0, nI_l hE, if_neg (fun z => hc ((lc_le (a := hi - lo) (b := E) (by omega) (by omega)).mp z)), c_mid hs, if_neg (fun z => hm ((lc_lt (a := v) (b := mdN lo hi) (by omega) (by omega)).mp z))]
        refine (hs1 β _).trans ?_
        rw [c_halve1 hs, nI_1]
        exact hs2 β kx
theorem r_hv {E v : Nat} : ∀ (n fuel lo hi : Nat) (L : List Nat) (m : Nat) (g : Nat → Int32), lo ≤ hi → hi - lo < 2 ^ n → hi - lo < fuel → RB L m g → ∃ g' : Nat → Int32, RB (L ++ (hvN E v n lo hi).1) (m + (hvN E v n lo hi).1.length) g' ∧ ∀ (β : Type) (kx : Nat → Nat → Nat → (Nat → Int32) → β), lf_wr_X11_codes_153 E v β kx fuel lo hi m g = kx (hvN E v n lo hi).2.1 (hvN E v n lo hi).2.2 (m + (hvN E v n lo hi).1.length) g' := by
  intro n
  induction n with
  | zero =>
    intro fuel lo hi L m g hlh hp hf hB
    obtain ⟨q, rfl⟩ : ∃ q, fuel = q + 1 := ⟨fuel - 1, by omega⟩
    refine ⟨g, by show RB (L ++ []) (m + 0) g; rw [List.append_nil]; exact hB, fun β kx => ?_⟩
    rw [lf_wr_X11_codes_153_s, if_pos (by rw [Nat.pow_zero] at hp; omega)]
    rfl
  | succ n ih =>
    intro fuel lo hi L m g hlh hp hf hB
    obtain ⟨q, rfl⟩ : ∃ q, fuel = q + 1 := ⟨fuel - 1, by omega⟩
    rw [Nat.pow_succ] at hp
    by_cases hc : hi - lo ≤ E
    · have eh : hvN E v (n + 1) lo hi = ([], lo, hi) := if_pos hc
      rw [eh]
      refine ⟨g, by show RB (L ++ []) (m + 0) g; rw [List.append_nil]; exact hB, fun β kx => ?_⟩
      rw [lf_wr_X11_codes_153_s, if_pos hc]
      rfl
    · have hlt : lo < hi := by omega
      obtain ⟨m1, m2⟩ := md_lt hlt
      have hmd : ((lo + hi) + 1) / 2 = mdN lo hi := rfl
      have hmd2 : mdN lo hi ≤ lo + (hi - lo) / 2 + 1 := by unfold mdN; omega
      have hmd3 : lo + (hi - lo) / 2 ≤ mdN lo hi := by unfold mdN; omega
      have hmd4 : 2 * mdN lo hi ≤ lo + hi + 1 := by unfold mdN; omega
      by_cases hm : v < mdN lo hi
      · have eh : hvN E v (n + 1) lo hi = (0 :: (hvN E v n lo (mdN lo hi - 1)).1, (hvN E v n lo (mdN lo hi - 1)).2) := by
          show (if hi - lo ≤ E then _ else if v < mdN lo hi then _ else _) = _
          rw [if_neg hc, if_pos hm]
        rw [eh]
        have hl : (0 :: (hvN E v n lo (mdN lo hi - 1)).1).length = (hvN E v n lo (mdN lo hi - 1)).1.length + 1 := rfl
        obtain ⟨g2, hB2, hs2⟩ := ih q lo (mdN lo hi - 1) (L ++ [0]) (m + 1) _ (by omega) (by omega) (by omega) (RB_bit hB (by omega))
        refine ⟨g2, ?_, fun β kx => ?_⟩
        · rw [hl, show m + ((hvN E v n lo (mdN lo hi - 1)).1.length + 1) = m + 1 + (hvN E v n lo (mdN lo hi - 1)).1.length by omega]
          rw [List.append_assoc] at hB2
          exact hB2
        · rw [hl, show m + ((hvN E v n lo (mdN lo hi - 1)).1.length + 1) = m + 1 + (hvN E v n lo (mdN lo hi - 1)).1.length by omega, lf_wr_X11_codes_153_s, if_neg hc, hmd, if_pos hm, fn_wr_X11_bit_s]
          exact hs2 β kx
      · have eh : hvN E v (n + 1) lo hi = (1 :: (hvN E v n (mdN lo hi) hi).1, (hvN E v n (mdN lo hi) hi).2) := by
          show (if hi - lo ≤ E then _ else if v < mdN lo hi then _ else _) = _
          rw [if_neg hc, if_neg hm]
        rw [eh]
        have hl : (1 :: (hvN E v n (mdN lo hi) hi).1).length = (hvN E v n (mdN lo hi) hi).1.length + 1 := rfl
        obtain ⟨g2, hB2, hs2⟩ := ih q (mdN lo hi) hi (L ++ [1]) (m + 1) _ (by omega) (by omega) (by omega) (RB_bit hB (by omega))
        refine ⟨g2, ?_, fun β kx => ?_⟩
        · rw [hl, show m + ((hvN E v n (mdN lo hi) hi).1.length + 1) = m + 1 + (hvN E v n (mdN lo hi) hi).1.length by omega]
          rw [List.append_assoc] at hB2
          exact hB2
        · rw [hl, show m + ((hvN E v n (mdN lo hi) hi).1.length + 1) = m + 1 + (hvN E v n (mdN lo hi) hi).1.length by omega, lf_wr_X11_codes_153_s, if_neg hc, hmd, if_neg hm, fn_wr_X11_bit_s]
          exact hs2 β kx
/-- halving: the bounds hold V, and are near -/
theorem hv_ok {E v : Nat} : ∀ (n lo hi : Nat), lo ≤ v → v ≤ hi → hi - lo < 2 ^ n → (hvN E v n lo hi).2.1 ≤ v ∧ v ≤ (hvN E v n lo hi).2.2 ∧ (hvN E v n lo hi).2.2 ≤ (hvN E v n lo hi).2.1 + E ∧ (hvN E v n lo hi).2.2 ≤ hi ∧ (hvN E v n lo hi).1.length ≤ n ∧ b01 (hvN E v n lo hi).1 := by
  intro n
  induction n with
  | zero =>
    intro lo hi h1 h2 hp
    rw [Nat.pow_zero] at hp
    exact ⟨h1, h2, by show hi ≤ lo + E; omega, Nat.le_refl _, Nat.le_refl _, fun x hx => by cases hx⟩
  | succ n ih =>
    intro lo hi h1 h2 hp
    rw [Nat.pow_succ] at hp
    have hmd4 : 2 * mdN lo hi ≤ lo + hi + 1 ∧ lo + hi ≤ 2 * mdN lo hi := by unfold mdN; omega
    by_cases hc : hi - lo ≤ E
    · have eh : hvN E v (n + 1) lo hi = ([], lo, hi) := if_pos hc
      rw [eh]
      exact ⟨h1, h2, by show hi ≤ lo + E; omega, Nat.le_refl _, Nat.zero_le _, fun x hx => by cases hx⟩
    · by_cases hm : v < mdN lo hi
      · have eh : hvN E v (n + 1) lo hi = (0 :: (hvN E v n lo (mdN lo hi - 1)).1, (hvN E v n lo (mdN lo hi - 1)).2) := by
          show (if hi - lo ≤ E then _ else if v < mdN lo hi then _ else _) = _
          rw [if_neg hc, if_pos hm]
        obtain ⟨a1, a2, a3, a4, a5, a6⟩ := ih lo (mdN lo hi - 1) h1 (by omega) (by omega)
        rw [eh]
        exact ⟨a1, a2, a3, by show (hvN E v n lo (mdN lo hi - 1)).2.2 ≤ hi; omega, Nat.succ_le_succ a5, fun x hx => by
          rcases List.mem_cons.mp hx with h | h
          · omega
          · exact a6 x h⟩
      · have eh : hvN E v (n + 1) lo hi = (1 :: (hvN E v n (mdN lo hi) hi).1, (hvN E v n (mdN lo hi) hi).2) := by
          show (if hi - lo ≤ E then _ else if v < mdN lo hi then _ else _) = _
          rw [if_neg hc, if_neg hm]
        obtain ⟨a1, a2, a3, a4, a5, a6⟩ := ih (mdN lo hi) hi (by omega) h2 (by omega)
        rw [eh]
        exact ⟨a1, a2, a3, a4, Nat.succ_le_succ a5, fun x hx => by
          rcases List.mem_cons.mp hx with h | h
          · omega
          · exact a6 x h⟩
