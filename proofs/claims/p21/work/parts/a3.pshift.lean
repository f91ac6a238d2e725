/-! the SHIFT -/
theorem odd_of : ∀ (n X : Nat), X ≤ n → 0 < X → ∃ k q, X = 2 ^ k * (2 * q + 1) := by
  intro n
  induction n with
  | zero => intro X h h0; omega
  | succ n ih =>
    intro X h h0
    by_cases e : X % 2 = 1
    · exact ⟨0, X / 2, by rw [Nat.pow_zero]; omega⟩
    · obtain ⟨k, q, hk⟩ := ih (X / 2) (by omega) (by omega)
      refine ⟨k + 1, q, ?_⟩
      rw [Nat.pow_succ, Nat.mul_comm (2 ^ k) 2, Nat.mul_assoc, ← hk]
      omega
theorem od_bit {k q j : Nat} : (2 ^ k * (2 * q + 1)).testBit j = (decide (k ≤ j) && (2 * q + 1).testBit (j - k)) := by
  rw [Nat.testBit_two_pow_mul]
theorem nz_and {x : Int32} {k q : Nat} (hx : x.toBitVec.toNat = 2 ^ k * (2 * q + 1)) (hk : k < 32) : (x ^^^ (-1)) &&& (x - 1) = nI (2 ^ k - 1) := by
  apply Int32.toBitVec_inj.mp
  show (x.toBitVec ^^^ (-1 : Int32).toBitVec) &&& (x.toBitVec - 1#32) = BitVec.ofNat 32 (2 ^ k - 1)
  have hp : 0 < 2 ^ k := Nat.two_pow_pos k
  have hs : (x.toBitVec - 1#32).toNat = 2 ^ k * (2 * q) + (2 ^ k - 1) := by
    rw [BitVec.toNat_sub, hx]
    have h1 : 2 ^ k * (2 * q + 1) < 2 ^ 32 := by rw [← hx]; exact x.toBitVec.isLt
    have e : 2 ^ k * (2 * q + 1) = 2 ^ k * (2 * q) + 2 ^ k := by rw [Nat.mul_add, Nat.mul_one]
    have e1 : (1#32).toNat = 1 := by decide
    rw [e] at h1
    rw [e1, e]
    generalize 2 ^ k * (2 * q) = c at h1
    omega
  apply BitVec.eq_of_getLsbD_eq_iff.mpr
  intro j hj
  rw [BitVec.getLsbD_and, BitVec.getLsbD_xor, BitVec.getLsbD_ofNat]
  have hm1 : (-1 : Int32).toBitVec.getLsbD j = true := by
    have : ∀ j, j < 32 → (-1 : Int32).toBitVec.getLsbD j = true := by decide +kernel
    exact this j hj
  have hxj : x.toBitVec.getLsbD j = (decide (k ≤ j) && (2 * q + 1).testBit (j - k)) := by
    show x.toBitVec.toNat.testBit j = _
    rw [hx, od_bit]
  have hyj : (x.toBitVec - 1#32).getLsbD j = if j < k then true else (2 * q).testBit (j - k) := by
    show (x.toBitVec - 1#32).toNat.testBit j = _
    rw [hs, Nat.testBit_two_pow_mul_add _ (by omega), Nat.testBit_two_pow_sub_one]
    by_cases e : j < k
    · rw [if_pos e, if_pos e]; simp [e]
    · rw [if_neg e, if_neg e]
  rw [hm1, hxj, hyj, Nat.testBit_two_pow_sub_one]
  by_cases e : j < k
  · rw [if_pos e]
    have : ¬ k ≤ j := by omega
    simp [e, this, hj]
  · rw [if_neg e]
    have hkj : k ≤ j := by omega
    have e0 : decide (j < k) = false := decide_eq_false e
    rw [e0]
    simp only [hkj, decide_true, Bool.true_and, Bool.and_false]
    generalize j - k = i
    cases i with
    | zero => simp [Nat.testBit_zero]
    | succ i =>
      rw [Nat.testBit_succ, Nat.testBit_succ, show (2 * q + 1) / 2 = q by omega, show 2 * q / 2 = q by omega]
      cases q.testBit i <;> rfl
set_option maxHeartbeats 4000000 in
theorem r_ntz {x : Int32} {k q : Nat} (hx : x.toBitVec.toNat = 2 ^ k * (2 * q + 1)) (hk : k < 32) {β : Type} {K : Int32 → β} : fn_wr_ntz x β K = K (nI k) := by
  rw [fn_wr_ntz_s, nz_and hx hk]
  clear hx
  have hp : k = 0 ∨ k = 1 ∨ k = 2 ∨ k = 3 ∨ k = 4 ∨ k = 5 ∨ k = 6 ∨ k = 7 ∨ k = 8 ∨ k = 9 ∨ k = 10 ∨ k = 11 ∨ k = 12 ∨ k = 13 ∨ k = 14 ∨ k = 15 ∨ k = 16 ∨ k = 17 ∨ k = 18 ∨ k = 19 ∨ k = 20 ∨ k = 21 ∨ k = 22 ∨ k = 23 ∨ k = 24 ∨ k = 25 ∨ k = 26 ∨ k = 27 ∨ k = 28 ∨ k = 29 ∨ k = 30 ∨ k = 31 := by omega
  rcases hp with rfl | rfl | rfl | rfl | rfl | rfl | rfl | rfl | rfl | rfl | rfl | rfl | rfl | rfl | rfl | rfl | rfl | rfl | rfl | rfl | rfl | rfl | rfl | rfl | rfl | rfl | rfl | rfl | rfl | rfl | rfl | rfl <;> (repeat (first | rw [if_pos (by decide)] | rw [if_neg (by decide)])) <;> exact congrArg K (by decide)
theorem bit_par {x : Int32} {j : Nat} (hj : j < 32) : ((x >>> (nI j &&& 31)) &&& 1) = 0 ↔ x.toBitVec.getLsbD j = false := by
  rw [pk_and _ (m := 1) 1 (by decide)]
  have e : (x >>> (nI j &&& 31)).toBitVec.toNat % 2 ^ 1 = if x.toBitVec.getLsbD j = true then 1 else 0 := by
    have hsm : ∀ j, j < 32 → ((nI j &&& 31).toBitVec.smod 32).toNat = j := by decide +kernel
    have h1 : (x >>> (nI j &&& 31)).toBitVec = x.toBitVec.sshiftRight j := by
      show x.toBitVec.sshiftRight ((nI j &&& 31).toBitVec.smod 32).toNat = _
      rw [hsm j hj]
    have h2 := lsb0 (x.toBitVec.sshiftRight j)
    rw [BitVec.getLsbD_sshiftRight] at h2
    rw [h1]
    have h3 : (x.toBitVec.sshiftRight j).toNat % 2 < 2 := Nat.mod_lt _ (by decide)
    have h4 : j + 0 < 32 := by omega
    simp [hj] at h2
    by_cases b : x.toBitVec.getLsbD j = true
    · rw [if_pos b]
      have h2' : (x.toBitVec.sshiftRight j).toNat % 2 = 1 := by
        have := h2.symm.trans b
        simpa using this
      simpa using h2'
    · rw [if_neg b]
      have h2' : ¬ (x.toBitVec.sshiftRight j).toNat % 2 = 1 := fun q => by
        rw [q] at h2
        exact b (h2.trans (by decide))
      show (x.toBitVec.sshiftRight j).toNat % 2 = 0
      omega
  rw [e]
  by_cases b : x.toBitVec.getLsbD j = true
  · rw [if_pos b, b]
    exact ⟨fun h => absurd h (by decide), fun h => absurd h (by decide)⟩
  · rw [if_neg b]
    simp only [Bool.not_eq_true] at b
    exact ⟨fun _ => b, fun _ => rfl⟩
theorem c_csl {x : Int32} {k q : Nat} (hx : x.toBitVec.toNat = 2 ^ k * (2 * q + 1)) (hk : k < 32) : ∀ (d fuel j : Nat), j + d = min k 23 → d < fuel → ∀ (β : Type) (kx : Int32 → Int32 → β), lf_wk_X10_commonShift_44 β kx fuel x (nI j) = kx x (nI (min k 23)) := by
  have hb : ∀ j, x.toBitVec.getLsbD j = (decide (k ≤ j) && (2 * q + 1).testBit (j - k)) := fun j => by
    show x.toBitVec.toNat.testBit j = _
    rw [hx, od_bit]
  intro d
  induction d with
  | zero =>
    intro fuel j hj hf β kx
    obtain ⟨z, rfl⟩ : ∃ z, fuel = z + 1 := ⟨fuel - 1, by omega⟩
    have e : j = min k 23 := by omega
    rw [lf_wk_X10_commonShift_44_s]
    by_cases h23 : 23 ≤ j
    · rw [if_pos (show (23 : Int32) ≤ nI j from nI_le (a := 23) (b := j) h23 (by omega)), e]
    · have hjk : j = k := by omega
      rw [if_neg (show ¬ (23 : Int32) ≤ nI j from nI_ge (a := j) (b := 23) (by omega) (by omega)), if_neg (fun z => by
        have := (bit_par (x := x) (j := j) (by omega)).mp z
        rw [hb, hjk, Nat.sub_self] at this
        simp [Nat.testBit_zero] at this), e]
  | succ d ih =>
    intro fuel j hj hf β kx
    obtain ⟨z, rfl⟩ : ∃ z, fuel = z + 1 := ⟨fuel - 1, by omega⟩
    have hjk : ¬ k ≤ j := by omega
    rw [lf_wk_X10_commonShift_44_s, if_neg (show ¬ (23 : Int32) ≤ nI j from nI_ge (a := j) (b := 23) (by omega) (by omega)), if_pos ((bit_par (x := x) (j := j) (by omega)).mpr (by rw [hb]; simp [hjk])), nI_1]
    exact ih z (j + 1) (by omega) (by omega) β kx
/-- all SAMPLES together -/
def orS (r : Nat → Int32) : Nat → Int32
  | 0 => 0
  | n + 1 => orS r n ||| r n
theorem orS_congr {r s : Nat → Int32} : ∀ n, (∀ j, j < n → r j = s j) → orS r n = orS s n := by
  intro n
  induction n with
  | zero => intro _; rfl
  | succ n ih =>
    intro h
    show orS r n ||| r n = orS s n ||| s n
    rw [ih (fun j hj => h j (by omega)), h n (by omega)]
theorem c_orl {n : Nat} {nu : Nat → Int32} (hn : n ≤ 1200) : ∀ (d fuel j : Nat), j + d = n → d < fuel → ∀ (β : Type) (kx : Int32 → Int32 → β), lf_wk_X10_commonShift_4 n nu β kx fuel (orS nu j) (nI j) = kx (orS nu n) (nI n) := by
  intro d
  induction d with
  | zero =>
    intro fuel j hj hf β kx
    obtain ⟨z, rfl⟩ : ∃ z, fuel = z + 1 := ⟨fuel - 1, by omega⟩
    have e : j = n := by omega
    subst e
    rw [lf_wk_X10_commonShift_4_s, if_pos (nI_le (Nat.le_refl _) (by omega))]
  | succ d ih =>
    intro fuel j hj hf β kx
    obtain ⟨z, rfl⟩ : ∃ z, fuel = z + 1 := ⟨fuel - 1, by omega⟩
    rw [lf_wk_X10_commonShift_4_s, if_neg (nI_ge (by omega) (by omega)), if_neg (show ¬ (1200 : Int32) ≤ nI j from nI_ge (a := j) (b := 1200) (by omega) (by omega)), nI_clamp (by omega), nI_1]
    exact ih z (j + 1) (by omega) (by omega) β kx
theorem r_orl {n : Nat} {r : Nat → Int32} : ∀ (d fuel j : Nat), j + d = n → d < fuel → ∀ (β : Type) (kx : Int32 → Nat → β), lf_wr_X11_shiftOf_4 n r β kx fuel (orS r j) j = kx (orS r n) n := by
  intro d
  induction d with
  | zero =>
    intro fuel j hj hf β kx
    obtain ⟨z, rfl⟩ : ∃ z, fuel = z + 1 := ⟨fuel - 1, by omega⟩
    have e : j = n := by omega
    subst e
    rw [lf_wr_X11_shiftOf_4_s, if_pos (Nat.le_refl _)]
  | succ d ih =>
    intro fuel j hj hf β kx
    obtain ⟨z, rfl⟩ : ∃ z, fuel = z + 1 := ⟨fuel - 1, by omega⟩
    rw [lf_wr_X11_shiftOf_4_s, if_neg (by omega)]
    exact ih z (j + 1) (by omega) (by omega) β kx
theorem shift_sim {n : Nat} {nu r : Nat → Int32} (hn : n ≤ 1200) (h : ∀ j, j < n → nu j = r j) : ∃ s, s ≤ 23 ∧ (∀ (β : Type) (K : Int32 → β), fn_wk_X10_commonShift n nu β K = K (nI s)) ∧ (∀ (β : Type) (K : Int32 → β), fn_wr_X11_shiftOf n r β K = K (nI s)) := by
  have eo := orS_congr n h
  have ef : ((Int32.toInt 1200 - Int32.toInt 0).toNat + 1) = 1201 := by decide
  have ef2 : ((Int32.toInt 23 - Int32.toInt 0).toNat + 1) = 24 := by decide
  by_cases h0 : orS r n = 0
  · refine ⟨0, by omega, fun β K => ?_, fun β K => ?_⟩
    · rw [fn_wk_X10_commonShift_s, ef]
      refine (c_orl (nu := nu) hn n 1201 0 (by omega) (by omega) β _).trans ?_
      exact if_pos (eo.trans h0)
    · rw [fn_wr_X11_shiftOf_s]
      refine (r_orl (r := r) n 1201 0 (by omega) (by omega) β _).trans ?_
      exact if_pos h0
  · have hpos : 0 < (orS r n).toBitVec.toNat := by
      rcases Nat.eq_zero_or_pos (orS r n).toBitVec.toNat with e | e
      · exact absurd (Int32.toBitVec_inj.mp (BitVec.eq_of_toNat_eq e)) h0
      · exact e
    obtain ⟨k, q, hx⟩ := odd_of _ _ (Nat.le_refl _) hpos
    have hk : k < 32 := by
      have h1 := (orS r n).toBitVec.isLt
      have h2 : 2 ^ k * 1 ≤ 2 ^ k * (2 * q + 1) := Nat.mul_le_mul_left _ (by omega)
      rw [← hx, Nat.mul_one] at h2
      exact (Nat.pow_lt_pow_iff_right (by decide)).mp (Nat.lt_of_le_of_lt h2 h1)
    refine ⟨min k 23, by omega, fun β K => ?_, fun β K => ?_⟩
    · rw [fn_wk_X10_commonShift_s, ef]
      refine (c_orl (nu := nu) hn n 1201 0 (by omega) (by omega) β _).trans ?_
      refine (if_neg (fun z => h0 (eo.symm.trans z))).trans ?_
      rw [ef2, eo]
      exact c_csl hx hk (min k 23) 24 0 (by omega) (by omega) β _
    · rw [fn_wr_X11_shiftOf_s]
      refine (r_orl (r := r) n 1201 0 (by omega) (by omega) β _).trans ?_
      refine (if_neg h0).trans ?_
      rw [r_ntz hx hk]
      by_cases h23 : k ≤ 23
      · rw [if_pos (show nI k ≤ 23 from nI_le (a := k) (b := 23) h23 (by omega)), show min k 23 = k by omega]
      · rw [if_neg (show ¬ nI k ≤ 23 from nI_ge (a := 23) (b := k) (by omega) (by omega)), show min k 23 = 23 by omega]
        rfl
