theorem fnL_b {α β : Type} {t : α} {f : α → β} : fnL t f = f t := rfl
/-! THE CRC: a bit at a time, and by half bytes -/
def vB (x : BitVec 32) : BitVec 32 := if x.getLsbD 0 = true then (x >>> 1) ^^^ 0xedb88320#32 else x >>> 1
theorem vB_xor (x y : BitVec 32) : vB (x ^^^ y) = vB x ^^^ vB y := by
  have h1 : ∀ a b p : BitVec 32, (a ^^^ p) ^^^ (b ^^^ p) = a ^^^ b := fun a b p => by
    rw [BitVec.xor_assoc, BitVec.xor_comm b p, ← BitVec.xor_assoc p p b, BitVec.xor_self, BitVec.zero_xor]
  have h2 : ∀ a b p : BitVec 32, (a ^^^ p) ^^^ b = a ^^^ b ^^^ p := fun a b p => by
    rw [BitVec.xor_assoc, BitVec.xor_comm p b, ← BitVec.xor_assoc]
  unfold vB
  rw [BitVec.getLsbD_xor, BitVec.ushiftRight_xor_distrib]
  generalize x >>> 1 = a
  generalize y >>> 1 = b
  generalize x.getLsbD 0 = p
  generalize y.getLsbD 0 = q
  cases p <;> cases q
  · rfl
  · exact BitVec.xor_assoc a b (0xedb88320#32)
  · exact (h2 a b (0xedb88320#32)).symm
  · exact (h1 a b (0xedb88320#32)).symm
def v4 (x : BitVec 32) : BitVec 32 := vB (vB (vB (vB x)))
theorem v4_xor (x y : BitVec 32) : v4 (x ^^^ y) = v4 x ^^^ v4 y := by
  unfold v4
  rw [vB_xor, vB_xor, vB_xor, vB_xor]
theorem vB_ev {x : BitVec 32} (h : x.getLsbD 0 = false) : vB x = x >>> 1 := by
  unfold vB
  rw [if_neg (by rw [h]; decide)]
theorem b15 : ∀ i, i < 32 → (15#32).getLsbD i = decide (i < 4) := by decide +kernel
theorem v4_hi (c : BitVec 32) : v4 (c &&& ~~~15#32) = c >>> 4 := by
  have e : ∀ i, i < 4 → (c &&& ~~~15#32).getLsbD i = false := fun i hi => by
    rw [BitVec.getLsbD_and, BitVec.getLsbD_not, b15 i (by omega)]
    simp [hi]
  have hz : (c &&& ~~~15#32) >>> 4 = c >>> 4 := by
    apply BitVec.eq_of_getLsbD_eq_iff.mpr
    intro i hi
    rw [BitVec.getLsbD_ushiftRight, BitVec.getLsbD_ushiftRight, BitVec.getLsbD_and, BitVec.getLsbD_not]
    by_cases h : 4 + i < 32
    · rw [b15 _ h]
      simp [h]
    · rw [BitVec.getLsbD_of_ge c (4 + i) (by omega)]
      rfl
  rw [← hz]
  generalize c &&& ~~~15#32 = z at e
  have s : ∀ k l, l = k + 1 → k < 4 → vB (z >>> k) = z >>> l := fun k l hl hk => by
    rw [vB_ev (by rw [BitVec.getLsbD_ushiftRight]; exact e (k + 0) (by omega)), hl, BitVec.shiftRight_add]
  unfold v4
  rw [vB_ev (e 0 (by omega)), s 1 2 rfl (by omega), s 2 3 rfl (by omega), s 3 4 rfl (by omega)]
theorem v4_tab : ∀ n, n < 16 → v4 (BitVec.ofNat 32 n) = (g_crc.getD n 0).toBitVec := by decide +kernel
theorem v4_all (c : BitVec 32) : v4 c = c >>> 4 ^^^ (g_crc.getD (c.toNat % 16) 0).toBitVec := by
  have h : c = (c &&& ~~~15#32) ^^^ (c &&& 15#32) := by
    apply BitVec.eq_of_getLsbD_eq_iff.mpr
    intro i hi
    rw [BitVec.getLsbD_xor, BitVec.getLsbD_and, BitVec.getLsbD_and, BitVec.getLsbD_not]
    cases c.getLsbD i <;> cases (15#32).getLsbD i <;> simp [hi]
  have hl : c &&& 15#32 = BitVec.ofNat 32 (c.toNat % 16) := by
    apply BitVec.eq_of_toNat_eq
    rw [BitVec.toNat_and]
    show c.toNat &&& (2 ^ 4 - 1) = (BitVec.ofNat 32 (c.toNat % 16)).toNat
    rw [Nat.and_two_pow_sub_one_eq_mod, BitVec.toNat_ofNat]
    omega
  rw [show v4 c = v4 ((c &&& ~~~15#32) ^^^ (c &&& 15#32)) from congrArg v4 h, v4_xor, v4_hi, hl, v4_tab _ (by omega)]
/-- one bit, at Int32 -/
def cB (c : Int32) : Int32 := Int32.ofBitVec (vB c.toBitVec)
def cI : Nat → Int32 → Int32
  | 0, x => x
  | n + 1, x => cI n (cB x)
theorem us_bv (x s : Int32) (k : Nat) (hs : ((s.toUInt32 &&& Int32.toUInt32 31).toBitVec % 32).toNat = k) : (x.toUInt32 >>> (s.toUInt32 &&& Int32.toUInt32 31)).toInt32.toBitVec = x.toBitVec >>> k :=
  BitVec.eq_of_toNat_eq (by rw [pk_ushr x s k hs, BitVec.toNat_ushiftRight, Nat.shiftRight_eq_div_pow])
theorem lsb0 (x : BitVec 32) : x.getLsbD 0 = decide (x.toNat % 2 = 1) := by
  unfold BitVec.getLsbD
  exact Nat.testBit_zero _
theorem rB_1 {c : Int32} (h : c.toBitVec.toNat % 2 = 1) : ((Int32.toUInt32 c >>> (Int32.toUInt32 1 &&& Int32.toUInt32 31)).toInt32) ^^^ (-306674912) = cB c := by
  apply Int32.toBitVec_inj.mp
  show (Int32.toUInt32 c >>> (Int32.toUInt32 1 &&& Int32.toUInt32 31)).toInt32.toBitVec ^^^ (0xedb88320#32) = vB c.toBitVec
  rw [us_bv c 1 1 (by decide)]
  unfold vB
  rw [lsb0, if_pos (by simp [h])]
theorem rB_0 {c : Int32} (h : ¬ c.toBitVec.toNat % 2 = 1) : ((Int32.toUInt32 c >>> (Int32.toUInt32 1 &&& Int32.toUInt32 31)).toInt32) = cB c := by
  apply Int32.toBitVec_inj.mp
  show _ = vB c.toBitVec
  rw [us_bv c 1 1 (by decide)]
  unfold vB
  rw [lsb0, if_neg (by simp [h])]
theorem c4_eq (c : Int32) : ((Int32.toUInt32 c >>> (Int32.toUInt32 4 &&& Int32.toUInt32 31)).toInt32) ^^^ (g_crc.getD (Int32.toNatClampNeg (c &&& 15)) 0) = cI 4 c := by
  have e : (c &&& 15).toNatClampNeg = c.toBitVec.toNat % 16 := by
    rw [pk_and c (m := 15) 4 (by decide)]
    exact nI_clamp (by omega)
  rw [e]
  apply Int32.toBitVec_inj.mp
  show (Int32.toUInt32 c >>> (Int32.toUInt32 4 &&& Int32.toUInt32 31)).toInt32.toBitVec ^^^ (g_crc.getD (c.toBitVec.toNat % 16) 0).toBitVec = v4 c.toBitVec
  rw [us_bv c 4 4 (by decide), v4_all]
def crcS (f : Nat → Int32) : Nat → Int32
  | 0 => -1
  | n + 1 => cI 8 (crcS f n ^^^ nI ((f n).toBitVec.toNat % 256))
theorem crcS_congr {f g : Nat → Int32} : ∀ n, (∀ j, j < n → f j = g j) → crcS f n = crcS g n := by
  intro n
  induction n with
  | zero => intro _; rfl
  | succ n ih =>
    intro h
    show cI 8 _ = cI 8 _
    rw [ih (fun j hj => h j (by omega)), h n (by omega)]
theorem rc_step {β : Type} {kx : Int32 → Nat → β} {fuel l : Nat} {x : Int32} (h : l < 8) : lf_wr_X11_crc_27 β kx (fuel + 1) x l = lf_wr_X11_crc_27 β kx fuel (cB x) (l + 1) := by
  rw [lf_wr_X11_crc_27_s, if_neg (by omega)]
  repeat rw [fnL_b]
  by_cases c : x.toBitVec.toNat % 2 = 1
  · rw [if_pos c, rB_1 c]
  · rw [if_neg c, rB_0 c]
theorem rc_all {β : Type} {kx : Int32 → Nat → β} : ∀ (n : Nat) (x : Int32) (l : Nat), l + n = 8 → lf_wr_X11_crc_27 β kx (n + 1) x l = kx (cI n x) 8 := by
  intro n
  induction n with
  | zero =>
    intro x l h
    rw [lf_wr_X11_crc_27_s, if_pos (by omega)]
    rw [show l = 8 by omega]
    rfl
  | succ n ih =>
    intro x l h
    rw [rc_step (by omega)]
    exact ih (cB x) (l + 1) (by omega)
theorem rcrc {β : Type} {kx : Int32 → Nat → β} {fo n : Nat} {tf : Nat → Int32} : ∀ (d j : Nat), j + d = n → lf_wr_X11_crc_5 fo n tf β kx (d + 1) (crcS (fun i => nb tf (fo + i)) j) j = kx (crcS (fun i => nb tf (fo + i)) n) n := by
  intro d
  induction d with
  | zero =>
    intro j h
    rw [lf_wr_X11_crc_5_s, if_pos (by omega)]
    rw [show j = n by omega]
  | succ d ih =>
    intro j h
    rw [lf_wr_X11_crc_5_s, if_neg (by omega)]
    repeat rw [fnL_b]
    show lf_wr_X11_crc_27 β _ (8 + 1) _ 0 = _
    rw [rc_all 8 _ 0 rfl]
    exact ih (j + 1) (by omega)
theorem r_crc {β : Type} {K : Int32 → β} {fo n : Nat} {tf : Nat → Int32} : fn_wr_X11_crc fo n tf β K = K (crcS (fun i => nb tf (fo + i)) n ^^^ (-1)) := by
  rw [fn_wr_X11_crc_s]
  show lf_wr_X11_crc_5 fo n tf β _ (n + 1) (crcS (fun i => nb tf (fo + i)) 0) 0 = _
  rw [rcrc n 0 (by omega)]
theorem fu_n {n : Nat} (h : n < 2147483648) : (Int32.toInt (nI n) - Int32.toInt 0).toNat = n := by
  rw [nI_toInt h, show Int32.toInt 0 = 0 from by decide]
  omega
theorem ccrc {β : Type} {kx : Int32 → Int32 → Int32 → β} {N k n : Nat} {f : Nat → Int32} (hn : n ≤ k) (hk : k ≤ N) (hN : N < 2147483648) : ∀ (d fuel j : Nat), j + d = n → d < fuel → lf_wk_X2_crc_4 N (nI k) f β kx fuel (nI n) (crcS (nb f) j) (nI j) = kx (nI n) (crcS (nb f) n) (nI n) := by
  intro d
  induction d with
  | zero =>
    intro fuel j h hf
    obtain ⟨q, rfl⟩ : ∃ q, fuel = q + 1 := ⟨fuel - 1, by omega⟩
    rw [lf_wk_X2_crc_4_s, if_pos (nI_le (by omega) (by omega))]
    rw [show j = n by omega]
  | succ d ih =>
    intro fuel j h hf
    obtain ⟨q, rfl⟩ : ∃ q, fuel = q + 1 := ⟨fuel - 1, by omega⟩
    rw [lf_wk_X2_crc_4_s, if_neg (nI_ge (by omega) (by omega)), if_neg (nI_ge (by omega) (by omega)), if_neg (nI_ge (by omega) (by omega)), nI_clamp (by omega), pk_and (nb f j) (m := 255) 8 (by decide), c4_eq]
    repeat rw [fnL_b]
    rw [c4_eq, nI_1]
    exact ih q (j + 1) (by omega) (by omega)
theorem c_crc {β : Type} {K : Int32 → β} {N k n : Nat} {f : Nat → Int32} (hn : n ≤ k) (hk : k ≤ N) (hN : N < 2147483648) : fn_wk_X2_crc N (nI k) f (nI n) β K = K (crcS (nb f) n ^^^ (-1)) := by
  rw [fn_wk_X2_crc_s, fu_n (by omega)]
  show lf_wk_X2_crc_4 N (nI k) f β _ (n + 1) (nI n) (crcS (nb f) 0) (nI 0) = _
  rw [ccrc hn hk hN n (n + 1) 0 (by omega) (by omega)]
