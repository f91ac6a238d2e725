/-! READING: bits, numbers, G; both sides -/
def tb (f : Nat → Int32) (p : Nat) : Nat := ((nb f (p / 8)) >>> ((7 - nI (p % 8)) &&& 31)).toBitVec.toNat % 2
theorem tb_le (f : Nat → Int32) (p : Nat) : tb f p ≤ 1 := by unfold tb; omega
theorem tb_congr {f g : Nat → Int32} {p k : Nat} (h : ∀ j, j < k → nb f j = nb g j) (hp : p < 8 * k) : tb f p = tb g p := by
  unfold tb
  rw [h (p / 8) (by omega)]
def rdV (f : Nat → Int32) (p : Nat) : Nat → Nat
  | 0 => 0
  | n + 1 => 2 * rdV f p n + tb f (p + n)
theorem rdV_lt (f : Nat → Int32) (p : Nat) : ∀ n, rdV f p n < 2 ^ n := by
  intro n
  induction n with
  | zero => exact Nat.zero_lt_one
  | succ n ih =>
    show 2 * rdV f p n + tb f (p + n) < _
    have := tb_le f (p + n)
    rw [Nat.pow_succ]
    omega
theorem lN_or {a b : Nat} (ha : a < 2 ^ 63) (hb : b < 2 ^ 63) : lN a ||| lN b = lN (a ||| b) := by
  apply Int64.toBitVec_inj.mp
  show BitVec.ofNat 64 a ||| BitVec.ofNat 64 b = BitVec.ofNat 64 (a ||| b)
  apply BitVec.eq_of_toNat_eq
  have hc : a ||| b < 2 ^ 63 := Nat.or_lt_two_pow ha hb
  rw [BitVec.toNat_or, BitVec.toNat_ofNat, BitVec.toNat_ofNat, BitVec.toNat_ofNat]
  rw [Nat.mod_eq_of_lt (by omega), Nat.mod_eq_of_lt (by omega), Nat.mod_eq_of_lt (by omega)]
theorem lN_shl1 {v : Nat} : lN v <<< (Int32.toInt64 1 &&& 63) = lN (2 * v) := by
  apply Int64.toBitVec_inj.mp
  show BitVec.ofNat 64 v <<< ((Int32.toInt64 1 &&& 63).toBitVec.smod 64) = BitVec.ofNat 64 (2 * v)
  rw [show ((Int32.toInt64 1 &&& 63).toBitVec.smod 64) = 1#64 from by decide]
  apply BitVec.eq_of_toNat_eq
  rw [BitVec.shiftLeft_eq', BitVec.toNat_shiftLeft, BitVec.toNat_ofNat, BitVec.toNat_ofNat, BitVec.toNat_ofNat, Nat.shiftLeft_eq]
  show v % 2 ^ 64 * 2 % 2 ^ 64 = 2 * v % 2 ^ 64
  omega
theorem lN_bit {v x : Nat} (hv : v < 2 ^ 61) (hx : x ≤ 1) : (lN v <<< (Int32.toInt64 1 &&& 63)) ||| lN x = lN (2 * v + x) := by
  rw [lN_shl1, lN_or (by omega) (by omega)]
  have h := Nat.two_pow_add_eq_or_of_lt (i := 1) (b := x) (by omega) v
  rw [Nat.pow_one] at h
  rw [h]
theorem c_bit {N p q : Nat} {f : Nat → Int32} (hp : p < q) (hq : q ≤ 8 * N) (hN : N < 100000) : ¬ nI q ≤ nI p ∧ ¬ (nI p >>> (3 &&& 31)) < 0 ∧ ¬ (nI N) ≤ (nI p >>> (3 &&& 31)) ∧ Int32.toInt64 ((((nb f) (Int32.toNatClampNeg (nI p >>> (3 &&& 31)))) >>> ((7 - (nI p &&& 7)) &&& 31)) &&& 1) = lN (tb f p) := by
  have e3 : nI p >>> (3 &&& 31) = nI (p / 2 ^ 3) := pk_shrN (by omega) (3 &&& 31) 3 (by decide)
  have e7 : nI p &&& 7 = nI (p % 2 ^ 3) := pk_andN (by omega) (m := 7) 3 (by decide)
  rw [e3, e7]
  refine ⟨nI_ge hp (by omega), nI_pos (by omega), nI_ge (by omega) (by omega), ?_⟩
  rw [nI_clamp (by omega), pk_and _ (m := 1) 1 (by decide)]
  exact nI_l (by omega)
theorem c_rbl {N p q n : Nat} {f : Nat → Int32} {e : Int32} (hq : q ≤ 8 * N) (hN : N < 100000) (hn : n ≤ 40) (hp : p + n ≤ q) : ∀ (d fuel k : Nat), k + d = n → d < fuel → ∀ (β : Type) (kx : Int32 → Int32 → Int32 → Int64 → Int32 → β), lf_wk_X0_readBits_5 N (nI q) f β kx fuel (nI (p + k)) e (nI n) (lN (rdV f p k)) (nI k) = kx (nI (p + n)) e (nI n) (lN (rdV f p n)) (nI n) := by
  intro d
  induction d with
  | zero =>
    intro fuel k hk hf β kx
    obtain ⟨z, rfl⟩ : ∃ z, fuel = z + 1 := ⟨fuel - 1, by omega⟩
    have e : k = n := by omega
    subst e
    rw [lf_wk_X0_readBits_5_s, if_pos (nI_le (Nat.le_refl _) (by omega))]
  | succ d ih =>
    intro fuel k hk hf β kx
    obtain ⟨z, rfl⟩ : ∃ z, fuel = z + 1 := ⟨fuel - 1, by omega⟩
    obtain ⟨a1, a2, a3, a4⟩ := c_bit (N := N) (p := p + k) (q := q) (f := f) (by omega) hq hN
    have hv : rdV f p k < 2 ^ 61 := Nat.lt_of_lt_of_le (rdV_lt f p k) (Nat.pow_le_pow_right (by decide) (by omega))
    rw [lf_wk_X0_readBits_5_s, if_neg (nI_ge (by omega) (by omega)), if_neg a1, if_neg a2, if_neg a3, a4, fnL_b, lN_bit hv (tb_le _ _), nI_1, nI_1]
    exact ih z (k + 1) (by omega) (by omega) β kx
theorem c_rb_ok {N p q n : Nat} {f : Nat → Int32} {e : Int32} (hq : q ≤ 8 * N) (hN : N < 100000) (hn : n ≤ 40) (hp : p + n ≤ q) {β : Type} {K : Int32 → Int32 → Int64 → β} : fn_wk_X0_readBits N (nI q) f (nI p) e (nI n) β K = K (nI (p + n)) e (lN (rdV f p n)) := by
  rw [fn_wk_X0_readBits_s, fu_n (by omega)]
  exact c_rbl hq hN hn hp n (n + 1) 0 (by omega) (by omega) β _
/-- behind the end: it stays there -/
theorem c_rb_st {N q : Nat} {f : Nat → Int32} {n : Int32} (hq : q ≤ 8 * N) (hN : N < 100000) : ∀ (fuel : Nat) (l2 : Int64) (l4 : Int32), ∃ (l2' : Int64) (l4' : Int32), ∀ (β : Type) (kx : Int32 → Int32 → Int32 → Int64 → Int32 → β), lf_wk_X0_readBits_5 N (nI q) f β kx fuel (nI q) 1 n l2 l4 = kx (nI q) 1 n l2' l4' := by
  intro fuel
  induction fuel with
  | zero => intro l2 l4; exact ⟨l2, l4, fun β kx => rfl⟩
  | succ fuel ih =>
    intro l2 l4
    by_cases h : n ≤ l4
    · exact ⟨l2, l4, fun β kx => by rw [lf_wk_X0_readBits_5_s, if_pos h]⟩
    · obtain ⟨a, b, hab⟩ := ih ((l2 <<< (Int32.toInt64 1 &&& 63)) ||| 0) (l4 + 1)
      exact ⟨a, b, fun β kx => by rw [lf_wk_X0_readBits_5_s, if_neg h, if_pos (nI_le (Nat.le_refl _) (by omega))]; exact hab β kx⟩
theorem c_rb_e {N q : Nat} {f : Nat → Int32} {n : Int32} (hq : q ≤ 8 * N) (hN : N < 100000) : ∃ v : Int64, ∀ (β : Type) (K : Int32 → Int32 → Int64 → β), fn_wk_X0_readBits N (nI q) f (nI q) 1 n β K = K (nI q) 1 v := by
  obtain ⟨a, b, h⟩ := c_rb_st (f := f) (n := n) hq hN ((Int32.toInt n - Int32.toInt 0).toNat + 1) 0 0
  exact ⟨a, fun β K => by rw [fn_wk_X0_readBits_s]; exact h β _⟩
theorem c_rb_end {N p q n : Nat} {f : Nat → Int32} {e : Int32} (hq : q ≤ 8 * N) (hN : N < 100000) (hn : n ≤ 40) (hpq : p ≤ q) (hp : q < p + n) : ∃ v : Int64, ∀ (β : Type) (K : Int32 → Int32 → Int64 → β), fn_wk_X0_readBits N (nI q) f (nI p) e (nI n) β K = K (nI q) 1 v := by
  have h : ∀ (d fuel k : Nat), p + k + d = q → n - k < fuel → ∃ (l2' : Int64) (l4' : Int32), ∀ (β : Type) (kx : Int32 → Int32 → Int32 → Int64 → Int32 → β), lf_wk_X0_readBits_5 N (nI q) f β kx fuel (nI (p + k)) e (nI n) (lN (rdV f p k)) (nI k) = kx (nI q) 1 (nI n) l2' l4' := by
    intro d
    induction d with
    | zero =>
      intro fuel k hk hf
      obtain ⟨z, rfl⟩ : ∃ z, fuel = z + 1 := ⟨fuel - 1, by omega⟩
      obtain ⟨a, b, hab⟩ := c_rb_st (f := f) (n := nI n) hq hN z ((lN (rdV f p k) <<< (Int32.toInt64 1 &&& 63)) ||| 0) (nI k + 1)
      refine ⟨a, b, fun β kx => ?_⟩
      rw [lf_wk_X0_readBits_5_s, if_neg (nI_ge (by omega) (by omega)), if_pos (nI_le (by omega) (by omega)), show p + k = q by omega]
      exact hab β kx
    | succ d ih =>
      intro fuel k hk hf
      obtain ⟨z, rfl⟩ : ∃ z, fuel = z + 1 := ⟨fuel - 1, by omega⟩
      obtain ⟨a1, a2, a3, a4⟩ := c_bit (N := N) (p := p + k) (q := q) (f := f) (by omega) hq hN
      have hv : rdV f p k < 2 ^ 61 := Nat.lt_of_lt_of_le (rdV_lt f p k) (Nat.pow_le_pow_right (by decide) (by omega))
      obtain ⟨a, b, hab⟩ := ih z (k + 1) (by omega) (by omega)
      refine ⟨a, b, fun β kx => ?_⟩
      rw [lf_wk_X0_readBits_5_s, if_neg (nI_ge (by omega) (by omega)), if_neg a1, if_neg a2, if_neg a3, a4, fnL_b, lN_bit hv (tb_le _ _), nI_1, nI_1]
      exact hab β kx
  obtain ⟨a, b, hab⟩ := h (q - p) (n + 1) 0 (by omega) (by omega)
  refine ⟨a, fun β K => ?_⟩
  rw [fn_wk_X0_readBits_s, fu_n (by omega)]
  exact hab β _
/-- the reference's -/
theorem r_next_ok {p q : Nat} {f : Nat → Int32} {fa ef : Nat} (hp : p < q) {β : Type} {K : Nat → Nat → Nat → β} : fn_wr_X11_next p q fa f ef β K = K (p + 1) fa (tb f p) := by
  rw [fn_wr_X11_next_s, if_neg (by omega)]
  rfl
theorem r_next_end {q : Nat} {f : Nat → Int32} {ef : Nat} {β : Type} {K : Nat → Nat → Nat → β} : fn_wr_X11_next q q 0 f ef β K = K q ef 0 := by
  rw [fn_wr_X11_next_s, if_pos rfl, fn_wr_X11_wrong_s, if_pos rfl]
theorem r_nx_ok {p q n ef : Nat} {f : Nat → Int32} (hp : p + n ≤ q) {β : Type} {K : Nat → Nat → Nat → β} : fn_wr_X11_next_n p q 0 f n ef β K = K (p + n) 0 (rdV f p n) := by
  have h : ∀ (d fuel k : Nat), k + d = n → d < fuel → ∀ (kx : Nat → Nat → Nat → Nat → β), lf_wr_X11_next_n_5 q f n ef β kx fuel (p + k) 0 (rdV f p k) k = kx (p + n) 0 (rdV f p n) n := by
    intro d
    induction d with
    | zero =>
      intro fuel k hk hf kx
      obtain ⟨z, rfl⟩ : ∃ z, fuel = z + 1 := ⟨fuel - 1, by omega⟩
      have e : k = n := by omega
      subst e
      rw [lf_wr_X11_next_n_5_s, if_pos (Nat.le_refl _)]
    | succ d ih =>
      intro fuel k hk hf kx
      obtain ⟨z, rfl⟩ : ∃ z, fuel = z + 1 := ⟨fuel - 1, by omega⟩
      rw [lf_wr_X11_next_n_5_s, if_neg (by omega), if_pos rfl, r_next_ok (by omega)]
      exact ih z (k + 1) (by omega) (by omega) kx
  rw [fn_wr_X11_next_n_s]
  exact h n (n + 1) 0 (by omega) (by omega) _
theorem r_nx_end {p q n ef : Nat} {f : Nat → Int32} (hef : ef ≠ 0) (hpq : p ≤ q) (hp : q < p + n) : ∃ v : Nat, ∀ (β : Type) (K : Nat → Nat → Nat → β), fn_wr_X11_next_n p q 0 f n ef β K = K q ef v := by
  have h : ∀ (d fuel k : Nat), p + k + d = q → n - k < fuel → ∃ (v l : Nat), ∀ (β : Type) (kx : Nat → Nat → Nat → Nat → β), lf_wr_X11_next_n_5 q f n ef β kx fuel (p + k) 0 (rdV f p k) k = kx q ef v l := by
    intro d
    induction d with
    | zero =>
      intro fuel k hk hf
      obtain ⟨z, rfl⟩ : ∃ z, fuel = z + 1 := ⟨fuel - 1, by omega⟩
      refine ⟨2 * rdV f p k + 0, k + 1, fun β kx => ?_⟩
      rw [lf_wr_X11_next_n_5_s, if_neg (by omega), if_pos rfl, show p + k = q by omega, r_next_end]
      obtain ⟨y, rfl⟩ : ∃ y, z = y + 1 := ⟨z - 1, by omega⟩
      rw [lf_wr_X11_next_n_5_s]
      by_cases e : n ≤ k + 1
      · rw [if_pos e]
      · rw [if_neg e, if_neg hef]
    | succ d ih =>
      intro fuel k hk hf
      obtain ⟨z, rfl⟩ : ∃ z, fuel = z + 1 := ⟨fuel - 1, by omega⟩
      obtain ⟨a, b, hab⟩ := ih z (k + 1) (by omega) (by omega)
      refine ⟨a, b, fun β kx => ?_⟩
      rw [lf_wr_X11_next_n_5_s, if_neg (by omega), if_pos rfl, r_next_ok (by omega)]
      exact hab β kx
  obtain ⟨a, b, hab⟩ := h (q - p) (n + 1) 0 (by omega) (by omega)
  refine ⟨a, fun β K => ?_⟩
  rw [fn_wr_X11_next_n_s]
  exact hab β _
theorem r_nx_f {p q n ef fa : Nat} {f : Nat → Int32} (hfa : fa ≠ 0) {β : Type} {K : Nat → Nat → Nat → β} : fn_wr_X11_next_n p q fa f n ef β K = K p fa 0 := by
  rw [fn_wr_X11_next_n_s, lf_wr_X11_next_n_5_s]
  by_cases h : n ≤ 0
  · rw [if_pos h]
  · rw [if_neg h, if_neg hfa]
/-- how a reading goes: v bits behind p, or over the end -/
def RS (p q ef B : Nat) (cF : (β : Type) → (Int32 → Int32 → Int64 → β) → β) (rF : (β : Type) → (Nat → Nat → Nat → β) → β) : Prop := (∃ p' v, p ≤ p' ∧ p' ≤ q ∧ v ≤ B ∧ (∀ (β : Type) (K : Int32 → Int32 → Int64 → β), cF β K = K (nI p') 0 (lN v)) ∧ (∀ (β : Type) (K : Nat → Nat → Nat → β), rF β K = K p' 0 v)) ∨ ((∃ x : Int64, ∀ (β : Type) (K : Int32 → Int32 → Int64 → β), cF β K = K (nI q) 1 x) ∧ ∃ v : Nat, ∀ (β : Type) (K : Nat → Nat → Nat → β), rF β K = K q ef v)
theorem rs_bits {N p q n ef k : Nat} {f g : Nat → Int32} (hq : q ≤ 8 * N) (hN : N < 100000) (hn : n ≤ 40) (hpq : p ≤ q) (hef : ef ≠ 0) (hfg : ∀ j, j < k → nb f j = nb g j) (hk : q ≤ 8 * k) : RS p q ef (2 ^ n - 1) (fn_wk_X0_readBits N (nI q) f (nI p) 0 (nI n)) (fn_wr_X11_next_n p q 0 g n ef) := by
  by_cases h : p + n ≤ q
  · have e : ∀ m, p + m ≤ q → rdV f p m = rdV g p m := by
      intro m
      induction m with
      | zero => intro _; rfl
      | succ m ih =>
        intro hm
        show 2 * rdV f p m + tb f (p + m) = 2 * rdV g p m + tb g (p + m)
        rw [ih (by omega), tb_congr hfg (by omega)]
    refine Or.inl ⟨p + n, rdV f p n, by omega, h, by have := rdV_lt f p n; omega, fun β K => c_rb_ok hq hN hn h, fun β K => by rw [r_nx_ok h, e n h]⟩
  · exact Or.inr ⟨c_rb_end hq hN hn hpq (by omega), r_nx_end hef hpq (by omega)⟩
theorem rs_G {N p q k : Nat} {f g : Nat → Int32} (hq : q ≤ 8 * N) (hN : N < 100000) (hpq : p ≤ q) (hfg : ∀ j, j < k → nb f j = nb g j) (hk : q ≤ 8 * k) : RS p q 4 4294967295 (fn_wk_X0_readG N (nI q) f (nI p) 0) (fn_wr_X11_nextG p q 0 g) ∧ (∀ (p' v : Nat), (∀ (β : Type) (K : Nat → Nat → Nat → β), fn_wr_X11_nextG p q 0 g β K = K p' 0 v) → 1 ≤ v) := by
  rcases rs_bits (n := 5) (ef := 4) hq hN (by omega) hpq (by omega) hfg hk with ⟨p1, b, h1, h2, hb, c1, r1⟩ | ⟨⟨x, c1⟩, ⟨v, r1⟩⟩
  · have hb31 : b ≤ 31 := by omega
    rcases rs_bits (n := b) (ef := 4) hq hN (by omega) h2 (by omega) hfg hk with ⟨p2, v, h3, h4, hv, c2, r2⟩ | ⟨⟨x, c2⟩, ⟨v, r2⟩⟩
    · have hpb : 2 ^ b ≤ 2 ^ 31 := Nat.pow_le_pow_right (by decide) hb31
      have hp1 := Nat.two_pow_pos b
      have eor : (1 : Int64) <<< (Int32.toInt64 (Int64.toInt32 (lN b)) &&& 63) ||| lN v = lN (2 ^ b + v) := by
        rw [lN_i, shl1 b (by omega), lN_or (by omega) (by omega)]
        have h := Nat.two_pow_add_eq_or_of_lt (i := b) (b := v) (by omega) 1
        rw [Nat.mul_one] at h
        rw [h]
      have hr : ∀ (β : Type) (K : Nat → Nat → Nat → β), fn_wr_X11_nextG p q 0 g β K = K p2 0 (2 ^ b + v) := fun β K => by
        rw [fn_wr_X11_nextG_s, r1, r2]
      refine ⟨Or.inl ⟨p2, 2 ^ b + v, by omega, h4, by omega, fun β K => ?_, hr⟩, fun p' w hw => ?_⟩
      · rw [fn_wk_X0_readG_s]
        refine (c1 β _).trans ?_
        rw [lN_i] at eor ⊢
        refine (c2 β _).trans ?_
        rw [eor]
      · have e1 := hw Nat (fun _ _ z => z)
        rw [hr] at e1
        have e2 : 2 ^ b + v = w := e1
        omega
    · have hr : ∀ (β : Type) (K : Nat → Nat → Nat → β), fn_wr_X11_nextG p q 0 g β K = K q 4 (2 ^ b + v) := fun β K => by
        rw [fn_wr_X11_nextG_s, r1, r2]
      refine ⟨Or.inr ⟨⟨((1 : Int64) <<< (Int32.toInt64 (nI b) &&& 63)) ||| x, fun β K => ?_⟩, ⟨_, hr⟩⟩, fun p' w hw => ?_⟩
      · rw [fn_wk_X0_readG_s]
        refine (c1 β _).trans ?_
        rw [lN_i]
        exact c2 β _
      · have e1 := hw Nat (fun _ z _ => z)
        rw [hr] at e1
        exact absurd e1 (by decide)
  · have hr : ∀ (β : Type) (K : Nat → Nat → Nat → β), fn_wr_X11_nextG p q 0 g β K = K q 4 (2 ^ v + 0) := fun β K => by
      rw [fn_wr_X11_nextG_s, r1, r_nx_f (by omega)]
    obtain ⟨y, c2⟩ := c_rb_e (f := f) (n := Int64.toInt32 x) hq hN
    refine ⟨Or.inr ⟨⟨((1 : Int64) <<< (Int32.toInt64 (Int64.toInt32 x) &&& 63)) ||| y, fun β K => ?_⟩, ⟨_, hr⟩⟩, fun p' w hw => ?_⟩
    · rw [fn_wk_X0_readG_s]
      refine (c1 β _).trans ?_
      exact c2 β _
    · have e1 := hw Nat (fun _ z _ => z)
      rw [hr] at e1
      exact absurd e1 (by decide)
