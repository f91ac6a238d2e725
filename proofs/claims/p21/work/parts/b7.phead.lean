/-! what is left behind the bits; words; bytes -/
theorem rdV_congr {f g : Nat → Int32} {p k : Nat} (h : ∀ j, j < k → nb f j = nb g j) : ∀ n, p + n ≤ 8 * k → rdV f p n = rdV g p n := by
  intro n
  induction n with
  | zero => intro _; rfl
  | succ n ih =>
    intro hn
    show 2 * rdV f p n + tb f (p + n) = 2 * rdV g p n + tb g (p + n)
    rw [ih (by omega), tb_congr h (by omega)]
theorem r_rest {p q ef : Nat} {g : Nat → Int32} (hpq : p ≤ q) {β : Type} {kx : Nat → Nat → Int32 → β} : ∀ (d fuel k : Nat), p + k + d = q → d < fuel → lf_wr_X11_isRest_22 q g ef β kx fuel (p + k) 0 (if rdV g p k = 0 then 1 else 0) = kx q 0 (if rdV g p (q - p) = 0 then 1 else 0) := by
  intro d
  induction d with
  | zero =>
    intro fuel k hk hf
    obtain ⟨z, rfl⟩ : ∃ z, fuel = z + 1 := ⟨fuel - 1, by omega⟩
    rw [lf_wr_X11_isRest_22_s, if_pos (by omega), show q - p = k by omega, show p + k = q by omega]
  | succ d ih =>
    intro fuel k hk hf
    obtain ⟨z, rfl⟩ : ∃ z, fuel = z + 1 := ⟨fuel - 1, by omega⟩
    have hi := ih z (k + 1) (by omega) (by omega)
    have ht := tb_le g (p + k)
    have e : rdV g p (k + 1) = 2 * rdV g p k + tb g (p + k) := rfl
    rw [lf_wr_X11_isRest_22_s, if_neg (by omega), r_next_ok (by omega)]
    by_cases h1 : tb g (p + k) = 0
    · rw [if_pos h1]
      by_cases h2 : rdV g p k = 0
      · rw [if_pos h2, if_neg (by decide)]
        rw [if_pos (show rdV g p (k + 1) = 0 by omega)] at hi
        exact hi
      · rw [if_neg h2, if_pos rfl]
        rw [if_neg (show ¬ rdV g p (k + 1) = 0 by omega)] at hi
        exact hi
    · rw [if_neg h1]
      rw [if_neg (show ¬ rdV g p (k + 1) = 0 by omega)] at hi
      exact hi
theorem rs_rest {N p q k ef : Nat} {f g : Nat → Int32} (hq : q ≤ 8 * N) (hN : N < 100000) (hpq : p ≤ q) (hfg : ∀ j, j < k → nb f j = nb g j) (hk : q ≤ 8 * k) : ∃ (bad : Bool) (b1 : Int32) (p' : Nat), (∀ (β : Type) (K : Int32 → Int32 → Int32 → β), fn_wk_X0_isRestWrong N (nI q) f (nI p) 0 β K = K b1 0 (if bad = true then 1 else 0)) ∧ (∀ (β : Type) (K : Nat → Nat → Int32 → β), fn_wr_X11_isRest p q 0 g ef β K = K p' (if bad = true then ef else 0) (if bad = true then 0 else 1)) := by
  have e : nI q - nI p = nI (q - p) := pk_sub hpq
  by_cases h7 : q - p ≤ 7
  · have e7 : ¬ (7 : Int32) < nI (q - p) := nI_nlt (a := 7) (b := q - p) h7 (by omega)
    have hr : ∀ (β : Type) (kx : Nat → Nat → Int32 → β), lf_wr_X11_isRest_22 q g ef β kx ((q - p) + 1) p 0 1 = kx q 0 (if rdV g p (q - p) = 0 then 1 else 0) := fun β kx => r_rest hpq (q - p) ((q - p) + 1) 0 (by omega) (by omega)
    have hv := rdV_congr hfg (p := p) (q - p) (by omega)
    have hlt := rdV_lt f p (q - p)
    have hp2 : 2 ^ (q - p) ≤ 2 ^ 7 := Nat.pow_le_pow_right (by decide) h7
    by_cases h0 : rdV f p (q - p) = 0
    · refine ⟨false, nI q, q, fun β K => ?_, fun β K => ?_⟩
      · rw [fn_wk_X0_isRestWrong_s, e, if_neg e7, c_rb_ok hq hN (by omega) (by omega), if_pos (show (lg_cmp (lN (rdV f p (q - p))) 0) = 0 from (lc_eq (a := rdV f p (q - p)) (b := 0) (by omega) (by omega)).mpr h0), show p + (q - p) = q by omega]
        rfl
      · rw [fn_wr_X11_isRest_s, if_pos h7]
        refine (hr β _).trans ?_
        rw [if_pos (show rdV g p (q - p) = 0 by omega), if_neg (by decide)]
        rfl
    · refine ⟨true, nI q, q, fun β K => ?_, fun β K => ?_⟩
      · rw [fn_wk_X0_isRestWrong_s, e, if_neg e7, c_rb_ok hq hN (by omega) (by omega), if_neg (show ¬ (lg_cmp (lN (rdV f p (q - p))) 0) = 0 from fun h => h0 ((lc_eq (a := rdV f p (q - p)) (b := 0) (by omega) (by omega)).mp h)), show p + (q - p) = q by omega]
        rfl
      · rw [fn_wr_X11_isRest_s, if_pos h7]
        refine (hr β _).trans ?_
        rw [if_neg (show ¬ rdV g p (q - p) = 0 by omega), if_pos rfl, fn_wr_X11_wrong_s, if_pos rfl]
        rfl
  · refine ⟨true, nI p, p, fun β K => ?_, fun β K => ?_⟩
    · rw [fn_wk_X0_isRestWrong_s, e, if_pos (show (7 : Int32) < nI (q - p) from nI_lt (a := 7) (b := q - p) (by omega) (by omega))]
      rfl
    · rw [fn_wr_X11_isRest_s, if_neg h7, fn_wr_X11_wrong_s, if_pos rfl]
      rfl
def bN (f : Nat → Int32) (i : Nat) : Nat := (nb f i).toBitVec.toNat % 256
theorem bN_lt (f : Nat → Int32) (i : Nat) : bN f i < 256 := Nat.mod_lt _ (by decide)
def bS (n : Nat) : Int32 := if n ≤ 127 then nI n else nI n - 256
theorem b_tab : ∀ n, n < 256 → (Int8.toInt32 (Int8.ofNat n)).toBitVec.toNat % 256 = n ∧ Int8.toInt32 (Int8.ofNat n) = bS n := by decide +kernel
theorem nb_S (f : Nat → Int32) (i : Nat) : nb f i = bS (bN f i) := by
  have h1 : nb f i = Int8.toInt32 (Int8.ofNat ((f i).toInt8.toBitVec.toNat)) := by
    show Int8.toInt32 ((f i).toInt8) = _
    congr 1
    apply Int8.toBitVec_inj.mp
    show (f i).toInt8.toBitVec = BitVec.ofNat 8 _
    rw [BitVec.ofNat_toNat, BitVec.setWidth_eq]
  obtain ⟨a, b⟩ := b_tab ((f i).toInt8.toBitVec.toNat) (f i).toInt8.toBitVec.isLt
  unfold bN
  rw [h1, a, b]
theorem bN_congr {f g : Nat → Int32} {i : Nat} (h : nb f i = nb g i) : bN f i = bN g i := by unfold bN; rw [h]
theorem c_atN {β : Type} {K : Int32 → β} {N k i : Nat} {x : Int32} {f : Nat → Int32} (ex : x = nI i) (hi : i < k) (hk : k ≤ N) (hN : N < 2147483648) : fn_wk_X2_at N (nI k) f x β K = K (nI (bN f i)) := by
  subst ex
  exact c_at hi hk hN
theorem nI_or {a b : Nat} (ha : a < 2 ^ 32) (hb : b < 2 ^ 32) : nI a ||| nI b = nI (a ||| b) := by
  apply Int32.toBitVec_inj.mp
  show BitVec.ofNat 32 a ||| BitVec.ofNat 32 b = BitVec.ofNat 32 (a ||| b)
  apply BitVec.eq_of_toNat_eq
  have hc : a ||| b < 2 ^ 32 := Nat.or_lt_two_pow ha hb
  rw [BitVec.toNat_or, BitVec.toNat_ofNat, BitVec.toNat_ofNat, BitVec.toNat_ofNat]
  rw [Nat.mod_eq_of_lt ha, Nat.mod_eq_of_lt hb, Nat.mod_eq_of_lt hc]
theorem or_add {a b k : Nat} (hb : b < 2 ^ k) : a * 2 ^ k ||| b = a * 2 ^ k + b := by
  have h := Nat.two_pow_add_eq_or_of_lt (i := k) (b := b) hb a
  rw [Nat.mul_comm, h]
theorem nI_cat {a b : Nat} (ha : a < 16777216) (hb : b < 256) : (nI a <<< (8 &&& 31)) ||| nI b = nI (a * 256 + b) := by
  have e : nI a <<< (8 &&& 31) = nI (a * 2 ^ 8) := pk_shlN (8 &&& 31) 8 (by decide) (by omega)
  rw [e, nI_or (by omega) (by omega), or_add (k := 8) (by omega)]
def wdN (f : Nat → Int32) (i : Nat) : Nat := ((bN f i * 256 + bN f (i + 1)) * 256 + bN f (i + 2)) * 256 + bN f (i + 3)
theorem n_255 {n : Nat} (h : n < 256) : nI n &&& 255 = nI n := by
  have e : nI n &&& 255 = nI (n % 2 ^ 8) := pk_andN (by omega) (m := 255) 8 (by decide)
  rw [e, Nat.mod_eq_of_lt (by omega)]
theorem c_wordAt {β : Type} {K : Int32 → β} {N k i : Nat} {x : Int32} {f : Nat → Int32} (ex : x = nI i) (hi : i + 4 ≤ k) (hk : k ≤ N) (hN : N < 2147483640) : fn_wk_X2_wordAt N (nI k) f x β K = K (nI (wdN f i)) := by
  subst ex
  have h0 := bN_lt f i
  have h1 := bN_lt f (i + 1)
  have h2 := bN_lt f (i + 2)
  have h3 := bN_lt f (i + 3)
  rw [fn_wk_X2_wordAt_s]
  refine (c_atN (i := i) (Int32.add_zero _) (by omega) hk (by omega)).trans ?_
  refine (c_atN (i := i + 1) (nI_add i 1) (by omega) hk (by omega)).trans ?_
  refine (c_atN (i := i + 2) (nI_add i 2) (by omega) hk (by omega)).trans ?_
  refine (c_atN (i := i + 3) (nI_add i 3) (by omega) hk (by omega)).trans ?_
  rw [fnL_b, n_255 h0, n_255 h1, n_255 h2, n_255 h3, show (0 : Int32) ||| nI (bN f i) = nI (bN f i) from Int32.zero_or, nI_cat (by omega) h1, nI_cat (by omega) h2, nI_cat (by omega) h3]
  rfl
theorem r_intAt {β : Type} {K : Int32 → β} {i : Nat} {f : Nat → Int32} : fn_wr_X11_intAt i f β K = K (nI (wdN f i)) := by
  have h0 := bN_lt f i
  have h1 := bN_lt f (i + 1)
  have h2 := bN_lt f (i + 2)
  have h3 := bN_lt f (i + 3)
  have e0 : (nb f i) <<< (24 &&& 31) = nI (bN f i * 2 ^ 24) := by
    apply Int32.toBitVec_inj.mp
    apply BitVec.eq_of_toNat_eq
    rw [pk_shl (nb f i) (24 &&& 31) 24 (by decide), pk_tn (by omega)]
    unfold bN
    omega
  rw [fn_wr_X11_intAt_s]
  show K ((((nb f i <<< (24 &&& 31)) ||| nI (bN f (i + 1) * 65536)) ||| nI (bN f (i + 2) * 256)) ||| nI (bN f (i + 3))) = _
  rw [e0, nI_or (by omega) (by omega), or_add (k := 24) (by omega)]
  have s1 : bN f i * 2 ^ 24 + bN f (i + 1) * 65536 = (bN f i * 256 + bN f (i + 1)) * 2 ^ 16 := by omega
  rw [s1, nI_or (by omega) (by omega), or_add (k := 16) (by omega)]
  have s2 : ∀ x y : Nat, x * 2 ^ 16 + y * 256 = (x * 256 + y) * 2 ^ 8 := fun x y => by
    rw [Nat.add_mul, Nat.mul_assoc]
  rw [s2, nI_or (by omega) (by omega), or_add (k := 8) (by omega)]
  rfl
theorem wdN_congr {f g : Nat → Int32} {i : Nat} (h : ∀ j, i ≤ j → j < i + 4 → nb f j = nb g j) : wdN f i = wdN g i := by
  unfold wdN
  rw [bN_congr (h i (by omega) (by omega)), bN_congr (h (i + 1) (by omega) (by omega)), bN_congr (h (i + 2) (by omega) (by omega)), bN_congr (h (i + 3) (by omega) (by omega))]
/-- a TERM or none -/
def tvB (t : Int32) : Bool := (decide (¬ t < 1) && decide (t ≤ 8)) || decide (t = 17) || decide (t = 18) || decide (t = -1) || decide (t = -3)
theorem tvB_tv {t : Int32} (h : tvB t = true) : TV t := by
  unfold tvB at h
  simp only [Bool.or_eq_true, Bool.and_eq_true, decide_eq_true_eq] at h
  rcases h with (((h | h) | h) | h) | h
  · obtain ⟨h1, h2⟩ := h
    obtain ⟨k, hk, e⟩ := nI_of2 (x := t) (M := 8) (n := 8) (by decide) (fun h => h1 (Int32.lt_trans h (by decide))) h2
    by_cases hk0 : k = 0
    · subst hk0
      exact absurd (show t < 1 by rw [e]; decide) h1
    · exact Or.inl ⟨k, by omega, hk, e⟩
  · exact Or.inr (Or.inl h)
  · exact Or.inr (Or.inr (Or.inl h))
  · exact Or.inr (Or.inr (Or.inr (Or.inl h)))
  · exact Or.inr (Or.inr (Or.inr (Or.inr h)))
theorem c_isTerm {t : Int32} {β : Type} {K : Int32 → β} : fn_wk_X7_isTerm t β K = K (if tvB t = true then 1 else 0) := by
  rw [fn_wk_X7_isTerm_s]
  unfold tvB
  by_cases h1 : t < 1 <;> by_cases h2 : t ≤ 8 <;> by_cases h3 : t = 17 <;> by_cases h4 : t = 18 <;> by_cases h5 : t = -1 <;> by_cases h6 : t = -3 <;> simp [h1, h2, h3, h4, h5, h6]
theorem r_isTerm {t : Int32} {β : Type} {K : Int32 → β} : fn_wr_X11_isTerm_w t β K = K (if tvB t = true then 1 else 0) := by
  refine Eq.trans ?_ c_isTerm
  rw [fn_wr_X11_isTerm_w_s, fn_wk_X7_isTerm_s]
