/-! what PASSES do, as functions -/
def sClamp (x : Int32) : Int32 := if x ≤ 1024 then (if -1024 ≤ x then x else -1024) else 1024
def sGuess (w b : Int32) : Int32 := Int64.toInt32 (((Int32.toInt64 w * Int32.toInt64 b) + 512) >>> (Int32.toInt64 10 &&& 63))
def sBase (nch : Nat) (t : Int32) (H : Nat → Nat → Int32) (p c : Nat) : Int32 :=
  if 0 < t ∧ t < 9 then H (2 * p + c) (t.toNatClampNeg - 1)
  else if t = 17 then 2 * H (2 * p + c) 0 - H (2 * p + c) 1
  else if t = 18 then H (2 * p + c) 0 + ((H (2 * p + c) 0 - H (2 * p + c) 1) >>> (1 &&& 31))
  else if nch = 1 then 0
  else if c = 0 then H (2 * p + 1) 0
  else if t = -1 then H (2 * p) 0
  else H (2 * p) 1
def sSum (g : Nat → Int32) : Nat → Int32
  | 0 => 0
  | k + 1 => sSum g k + g k
def sLd (g : Nat → Int32) (re : Int32) (P : Nat) : Nat → Int32
  | 0 => re
  | m + 1 => sLd g re P m + g (P - 1 - m)
def sW1 (b l d w : Int32) : Int32 := if b = 0 then w else if l = 0 then w else if (0 ≤ b ↔ 0 ≤ l) then sClamp (w + d) else sClamp (w + -d)
def sWp (b g d w : Nat → Int32) (re : Int32) (P c lo : Nat) : Nat → Int32 := fun q => if q % 2 = c ∧ lo ≤ q / 2 ∧ q / 2 < P then sW1 (b (q / 2)) (sLd g re P (P - (q / 2 + 1))) (d (q / 2)) (w q) else w q
def sHp (g : Nat → Int32) (H : Nat → Nat → Int32) (re : Int32) (P c lo : Nat) : Nat → Nat → Int32 := fun q a => if q % 2 = c ∧ lo ≤ q / 2 ∧ q / 2 < P then (if a = 0 then sLd g re P (P - q / 2) else H q (a - 1)) else H q a
theorem sLd_step {g : Nat → Int32} {re : Int32} {P j : Nat} (h : j < P) : sLd g re P (P - j) = sLd g re P (P - (j + 1)) + g j := by
  have e1 : P - j = (P - (j + 1)) + 1 := by omega
  have e2 : P - 1 - (P - (j + 1)) = j := by omega
  rw [e1]
  show sLd g re P (P - (j + 1)) + g (P - 1 - (P - (j + 1))) = _
  rw [e2]
theorem sLd_congr {g g2 : Nat → Int32} {re : Int32} {P : Nat} (h : ∀ k, k < P → g k = g2 k) : ∀ m, m ≤ P → sLd g re P m = sLd g2 re P m := by
  intro m
  induction m with
  | zero => intro _; rfl
  | succ m ih =>
    intro hm
    show sLd g re P m + g (P - 1 - m) = sLd g2 re P m + g2 (P - 1 - m)
    rw [ih (by omega), h _ (by omega)]
theorem sSum_congr {g g2 : Nat → Int32} : ∀ n, (∀ k, k < n → g k = g2 k) → sSum g n = sSum g2 n := by
  intro n
  induction n with
  | zero => intro _; rfl
  | succ n ih =>
    intro h
    show sSum g n + g n = sSum g2 n + g2 n
    rw [ih (fun k hk => h k (by omega)), h n (by omega)]
theorem sW1_a {b l d w : Int32} (h : b = 0) : sW1 b l d w = w := if_pos h
theorem sW1_b {b l d w : Int32} (h1 : ¬ b = 0) (h : l = 0) : sW1 b l d w = w := by
  unfold sW1
  rw [if_neg h1, if_pos h]
theorem sW1_c {b l d w : Int32} (h1 : ¬ b = 0) (h2 : ¬ l = 0) (h : 0 ≤ b ↔ 0 ≤ l) : sW1 b l d w = sClamp (w + d) := by
  unfold sW1
  rw [if_neg h1, if_neg h2, if_pos h]
theorem sW1_d {b l d w : Int32} (h1 : ¬ b = 0) (h2 : ¬ l = 0) (h : ¬ (0 ≤ b ↔ 0 ≤ l)) : sW1 b l d w = sClamp (w + -d) := by
  unfold sW1
  rw [if_neg h1, if_neg h2, if_neg h]
theorem sC_a {x : Int32} (h : ¬ x ≤ 1024) : sClamp x = 1024 := if_neg h
theorem sC_b {x : Int32} (h : x ≤ 1024) (h2 : ¬ -1024 ≤ x) : sClamp x = -1024 := by
  unfold sClamp
  rw [if_pos h, if_neg h2]
theorem sC_c {x : Int32} (h : x ≤ 1024) (h2 : -1024 ≤ x) : sClamp x = x := by
  unfold sClamp
  rw [if_pos h, if_pos h2]
/-- one PASS of learning: the WEIGHTS -/
theorem sWp_upd {b g d w pw : Nat → Int32} {re x : Int32} {P c j N : Nat} (hc : c < 2) (hj : j < P) (h : ∀ q, q < N → pw q = sWp b g d w re P c (j + 1) q) (hN : 2 * j + c < N) (hx : x = sW1 (b j) (sLd g re P (P - (j + 1))) (d j) (pw (2 * j + c))) : ∀ q, q < N → upd pw (2 * j + c) x q = sWp b g d w re P c j q := by
  intro q hq
  have h0 := h (2 * j + c) hN
  unfold upd
  by_cases e : q = 2 * j + c
  · rw [if_pos e, hx, h0]
    subst e
    have e1 : (2 * j + c) / 2 = j := by omega
    have e2 : (2 * j + c) % 2 = c := by omega
    unfold sWp
    rw [e1, e2, if_neg (by omega), if_pos (by omega)]
  · rw [if_neg e, h q hq]
    unfold sWp
    by_cases hq2 : q % 2 = c ∧ j + 1 ≤ q / 2 ∧ q / 2 < P
    · rw [if_pos hq2, if_pos (by omega)]
    · rw [if_neg hq2, if_neg (by omega)]
theorem sWp_same {b g d w pw : Nat → Int32} {re : Int32} {P c j N : Nat} (hc : c < 2) (hj : j < P) (h : ∀ q, q < N → pw q = sWp b g d w re P c (j + 1) q) (hx : 2 * j + c < N → pw (2 * j + c) = sW1 (b j) (sLd g re P (P - (j + 1))) (d j) (pw (2 * j + c))) : ∀ q, q < N → pw q = sWp b g d w re P c j q := by
  intro q hq
  by_cases e : q = 2 * j + c
  · subst e
    have h0 := h _ hq
    rw [hx hq, h0]
    have e1 : (2 * j + c) / 2 = j := by omega
    have e2 : (2 * j + c) % 2 = c := by omega
    unfold sWp
    rw [e1, e2, if_neg (by omega), if_pos (by omega)]
  · rw [h q hq]
    unfold sWp
    by_cases hq2 : q % 2 = c ∧ j + 1 ≤ q / 2 ∧ q / 2 < P
    · rw [if_pos hq2, if_pos (by omega)]
    · rw [if_neg hq2, if_neg (by omega)]
theorem sWp_start {b g d w : Nat → Int32} {re : Int32} {P c N : Nat} : ∀ q, q < N → w q = sWp b g d w re P c P q := by
  intro q _
  unfold sWp
  rw [if_neg (by omega)]
/-- the shift of the eight latest INPUTS -/
theorem sh_step {h0 h : Nat → Int32} {at_ a : Nat} (ha : 1 ≤ a) (hi : ∀ i, h i = if at_ + a < i ∧ i ≤ at_ + 7 then h0 (i - 1) else h0 i) (h7 : a ≤ 7) : ∀ i, upd h (at_ + a) (h (at_ + a - 1)) i = if at_ + (a - 1) < i ∧ i ≤ at_ + 7 then h0 (i - 1) else h0 i := by
  intro i
  unfold upd
  by_cases e : i = at_ + a
  · rw [if_pos e, if_pos (by omega), hi, if_neg (by omega), e]
  · rw [if_neg e, hi i]
    by_cases e2 : at_ + a < i ∧ i ≤ at_ + 7
    · rw [if_pos e2, if_pos (by omega)]
    · rw [if_neg e2, if_neg (by omega)]
theorem sHp_step {g h0 h1 : Nat → Int32} {H : Nat → Nat → Int32} {re x : Int32} {P c j at_ : Nat} (hc : c < 2) (hj : j < P) (hat : at_ = 8 * (2 * j + c)) (h : ∀ q a, q < 16 → a < 8 → h0 (8 * q + a) = sHp g H re P c (j + 1) q a) (hs : ∀ i, h1 i = if at_ + 0 < i ∧ i ≤ at_ + 7 then h0 (i - 1) else h0 i) (hx : x = sLd g re P (P - j)) : ∀ q a, q < 16 → a < 8 → upd h1 at_ x (8 * q + a) = sHp g H re P c j q a := by
  intro q a hq ha
  unfold upd
  by_cases e : q = 2 * j + c
  · have e1 : q / 2 = j := by omega
    have e2 : q % 2 = c := by omega
    by_cases ea : a = 0
    · rw [if_pos (by omega), hx]
      unfold sHp
      rw [if_pos (by omega), if_pos ea, e1]
    · rw [if_neg (by omega), hs, if_pos (by omega)]
      have h2 := h q (a - 1) hq (by omega)
      rw [show 8 * q + a - 1 = 8 * q + (a - 1) from by omega, h2]
      unfold sHp
      rw [if_neg (by omega), if_pos (by omega), if_neg ea]
  · rw [if_neg (by omega), hs, if_neg (by omega), h q a hq ha]
    unfold sHp
    by_cases hq2 : q % 2 = c ∧ j + 1 ≤ q / 2 ∧ q / 2 < P
    · rw [if_pos hq2, if_pos (show q % 2 = c ∧ j ≤ q / 2 ∧ q / 2 < P by omega)]
    · rw [if_neg hq2, if_neg (show ¬ (q % 2 = c ∧ j ≤ q / 2 ∧ q / 2 < P) by omega)]
theorem sHp_start {g h0 : Nat → Int32} {H : Nat → Nat → Int32} {re : Int32} {P c : Nat} (h : ∀ q a, q < 16 → a < 8 → h0 (8 * q + a) = H q a) : ∀ q a, q < 16 → a < 8 → h0 (8 * q + a) = sHp g H re P c P q a := by
  intro q a hq ha
  unfold sHp
  rw [if_neg (by omega)]
  exact h q a hq ha
/-- sums of GUESSES, upwards -/
theorem fo_step {g z : Nat → Int32} {x : Int32} {k : Nat} (h : ∀ j, j < k → z j = g j) (hx : x = g k) : ∀ j, j < k + 1 → upd z k x j = g j := by
  intro j hj
  unfold upd
  by_cases e : j = k
  · rw [if_pos e, e, hx]
  · rw [if_neg e]
    exact h j (by omega)
theorem sum_step {g : Nat → Int32} {k : Nat} {a x : Int32} (h : a = sSum g k) (hx : x = g k) : a + x = sSum g (k + 1) := by
  rw [h, hx]
  rfl
theorem iff_pp {b l : Int32} (h1 : 0 ≤ b) (h2 : 0 ≤ l) : 0 ≤ b ↔ 0 ≤ l := ⟨fun _ => h2, fun _ => h1⟩
theorem iff_nn {b l : Int32} (h1 : ¬ 0 ≤ b) (h2 : ¬ 0 ≤ l) : 0 ≤ b ↔ 0 ≤ l := ⟨fun h => absurd h h1, fun h => absurd h h2⟩
theorem iff_pn {b l : Int32} (h1 : 0 ≤ b) (h2 : ¬ 0 ≤ l) : ¬ (0 ≤ b ↔ 0 ≤ l) := fun h => h2 (h.mp h1)
theorem iff_np {b l : Int32} (h1 : ¬ 0 ≤ b) (h2 : 0 ≤ l) : ¬ (0 ≤ b ↔ 0 ≤ l) := fun h => h1 (h.mpr h2)
def hR (f : Nat → Int32) : Nat → Nat → Int32 := fun q a => f (8 * q + a)
/-- the class's eight latest: a ring by FRAMES; of CHANNELS below c this FRAME's is there already -/
def hC (f : Nat → Int32) (fr c : Nat) : Nat → Nat → Int32 := fun q a => f (8 * q + (fr + (if q % 2 < c then 8 else 7) - a) % 8)
def sBf (nch : Nat) (T : Nat → Int32) (H : Nat → Nat → Int32) (c : Nat) : Nat → Int32 := fun k => sBase nch (T k) H k c
def sGf (nch : Nat) (T w : Nat → Int32) (H : Nat → Nat → Int32) (c : Nat) : Nat → Int32 := fun k => sGuess (w (2 * k + c)) (sBf nch T H c k)
theorem sB_1 {nch p c j : Nat} {t : Int32} {H : Nat → Nat → Int32} (h : t = nI j) (h1 : 0 < j) (h2 : j < 9) : sBase nch t H p c = H (2 * p + c) (j - 1) := by
  subst h
  unfold sBase
  rw [if_pos ⟨(nI_ltI (a := 0) (b := j) (by omega) (by omega)).mpr h1, (nI_ltI (a := j) (b := 9) (by omega) (by omega)).mpr h2⟩, nI_clamp (by omega)]
theorem sB_17 {nch p c : Nat} {t : Int32} {H : Nat → Nat → Int32} (h : t = 17) : sBase nch t H p c = 2 * H (2 * p + c) 0 - H (2 * p + c) 1 := by
  subst h
  unfold sBase
  rw [if_neg (by decide), if_pos rfl]
theorem sB_18 {nch p c : Nat} {t : Int32} {H : Nat → Nat → Int32} (h : t = 18) : sBase nch t H p c = H (2 * p + c) 0 + ((H (2 * p + c) 0 - H (2 * p + c) 1) >>> (1 &&& 31)) := by
  subst h
  unfold sBase
  rw [if_neg (by decide), if_neg (by decide), if_pos rfl]
theorem sB_o {nch p c : Nat} {t : Int32} {H : Nat → Nat → Int32} (h : ¬ (0 < t ∧ t < 9)) (h1 : ¬ t = 17) (h2 : ¬ t = 18) (hn : nch = 1) : sBase nch t H p c = 0 := by
  unfold sBase
  rw [if_neg h, if_neg h1, if_neg h2, if_pos hn]
theorem sB_p {nch p c : Nat} {t : Int32} {H : Nat → Nat → Int32} (h : ¬ (0 < t ∧ t < 9)) (h1 : ¬ t = 17) (h2 : ¬ t = 18) (hn : ¬ nch = 1) (hc : c = 0) : sBase nch t H p c = H (2 * p + 1) 0 := by
  unfold sBase
  rw [if_neg h, if_neg h1, if_neg h2, if_neg hn, if_pos hc]
theorem sB_q {nch p c : Nat} {t : Int32} {H : Nat → Nat → Int32} (h : ¬ (0 < t ∧ t < 9)) (h1 : ¬ t = 17) (h2 : ¬ t = 18) (hn : ¬ nch = 1) (hc : ¬ c = 0) (hm : t = -1) : sBase nch t H p c = H (2 * p) 0 := by
  unfold sBase
  rw [if_neg h, if_neg h1, if_neg h2, if_neg hn, if_neg hc, if_pos hm]
theorem sB_r {nch p c : Nat} {t : Int32} {H : Nat → Nat → Int32} (h : ¬ (0 < t ∧ t < 9)) (h1 : ¬ t = 17) (h2 : ¬ t = 18) (hn : ¬ nch = 1) (hc : ¬ c = 0) (hm : ¬ t = -1) : sBase nch t H p c = H (2 * p) 1 := by
  unfold sBase
  rw [if_neg h, if_neg h1, if_neg h2, if_neg hn, if_neg hc, if_neg hm]
theorem slot_m {f a : Nat} (hf : f < 1000000) (ha : a ≤ 8) : nI ((nI f - nI a).toBitVec.toNat % 8) = nI ((f + 8 - a) % 8) := by
  congr 1
  have h : (nI f - nI a).toBitVec.toNat = (4294967296 - a + f) % 4294967296 := by
    show (BitVec.ofNat 32 f - BitVec.ofNat 32 a).toNat = _
    rw [BitVec.toNat_sub]
    simp only [BitVec.toNat_ofNat]
    omega
  rw [h]
  omega
/-! PASSES: the reference -/
theorem r_base {nch : Nat} {T g : Nat → Int32} {p c : Nat} {β : Type} {K : Int32 → β} : fn_wr_X11_base nch T g p c β K = K (sBase nch (T p) (hR g) p c) := by
  rw [fn_wr_X11_base_s]
  repeat rw [fnL_b]
  generalize T p = t
  have inp : ∀ (a b d : Nat) (K2 : Int32 → β), fn_wr_X11_input g a b d β K2 = K2 (hR g (2 * a + b) d) := fun _ _ _ _ => rfl
  simp only [inp]
  have hbig : (t ≤ 0 ∨ 9 ≤ t) → ¬ (0 < t ∧ t < 9) := fun h q => by
    rcases h with h | h
    · exact o_4 h q.1
    · exact o_4 h q.2
  have tail : ¬ (0 < t ∧ t < 9) → (if t = 17 then K ((2 * hR g (2 * p + c) 0) - hR g (2 * p + c) 1) else (if t = 18 then K (hR g (2 * p + c) 0 + ((hR g (2 * p + c) 0 - hR g (2 * p + c) 1) >>> (1 &&& 31))) else (if nch = 1 then K 0 else (if c = 0 then K (hR g (2 * p + 1) 0) else (if t = (-1) then K (hR g (2 * p + 0) 0) else K (hR g (2 * p + 0) 1)))))) = K (sBase nch t (hR g) p c) := by
    intro h
    by_cases h17 : t = 17
    · rw [if_pos h17, sB_17 h17]
    · rw [if_neg h17]
      by_cases h18 : t = 18
      · rw [if_pos h18, sB_18 h18]
      · rw [if_neg h18]
        by_cases hn : nch = 1
        · rw [if_pos hn, sB_o h h17 h18 hn]
        · rw [if_neg hn]
          by_cases hc : c = 0
          · rw [if_pos hc, sB_p h h17 h18 hn hc]
          · rw [if_neg hc]
            by_cases hm : t = -1
            · rw [if_pos hm, sB_q h h17 h18 hn hc hm]
              rfl
            · rw [if_neg hm, sB_r h h17 h18 hn hc hm]
              rfl
  by_cases h0 : t ≤ 0
  · rw [if_pos h0]
    exact tail (hbig (Or.inl h0))
  · rw [if_neg h0]
    by_cases h9 : 9 ≤ t
    · rw [if_pos h9]
      exact tail (hbig (Or.inr h9))
    · rw [if_neg h9]
      obtain ⟨j, hj, e⟩ := ix_lt (x := t) (n := 9) (by omega) (fun q => h0 (Int32.le_of_lt q)) (o_2 h9)
      have hj0 : 0 < j := by
        rcases Nat.eq_zero_or_pos j with h | h
        · rw [h] at e
          exact absurd (by rw [e]; decide) h0
        · exact h
      rw [sB_1 e hj0 hj, e, nI_clamp (by omega)]
theorem r_fl {nch n c : Nat} {T g w : Nat → Int32} (hn : n ≤ 8) : ∀ (d fuel k : Nat) (ba gu : Nat → Int32), k + d = n → d < fuel → (∀ j, j < k → ba j = sBf nch T (hR g) c j) → (∀ j, j < k → gu j = sGf nch T w (hR g) c j) → ∃ ba' gu' : Nat → Int32, (∀ j, j < n → ba' j = sBf nch T (hR g) c j) ∧ (∀ j, j < n → gu' j = sGf nch T w (hR g) c j) ∧ ∀ (β : Type) (kx : (Nat → Int32) → (Nat → Int32) → Int32 → Nat → β), lf_wr_X11_foretells_4 n nch T g w c β kx fuel ba gu (sSum (sGf nch T w (hR g) c) k) k = kx ba' gu' (sSum (sGf nch T w (hR g) c) n) n := by
  intro d
  induction d with
  | zero =>
    intro fuel k ba gu hk hf h1 h2
    obtain ⟨q, rfl⟩ : ∃ q, fuel = q + 1 := ⟨fuel - 1, by omega⟩
    have e : k = n := by omega
    subst e
    exact ⟨ba, gu, h1, h2, fun β kx => by rw [lf_wr_X11_foretells_4_s, if_pos (Nat.le_refl _)]⟩
  | succ d ih =>
    intro fuel k ba gu hk hf h1 h2
    obtain ⟨q, rfl⟩ : ∃ q, fuel = q + 1 := ⟨fuel - 1, by omega⟩
    obtain ⟨ba', gu', a1, a2, a3⟩ := ih q (k + 1) (upd ba k (sBf nch T (hR g) c k)) (upd gu k (sGf nch T w (hR g) c k)) (by omega) (by omega) (fo_step h1 rfl) (fo_step h2 rfl)
    refine ⟨ba', gu', a1, a2, fun β kx => ?_⟩
    rw [lf_wr_X11_foretells_4_s, if_neg (by omega), r_base]
    repeat rw [fnL_b]
    exact a3 β kx
theorem r_foretells {nch n c : Nat} {T g w ba gu : Nat → Int32} (hn : n ≤ 8) : ∃ ba' gu' : Nat → Int32, (∀ j, j < n → ba' j = sBf nch T (hR g) c j) ∧ (∀ j, j < n → gu' j = sGf nch T w (hR g) c j) ∧ ∀ (β : Type) (K : (Nat → Int32) → (Nat → Int32) → Int32 → β), fn_wr_X11_foretells n nch T g w ba gu c β K = K ba' gu' (sSum (sGf nch T w (hR g) c) n) := by
  obtain ⟨ba', gu', a1, a2, a3⟩ := r_fl (nch := nch) (c := c) (T := T) (g := g) (w := w) hn n 9 0 ba gu (by omega) (by omega) (fun j hj => absurd hj (Nat.not_lt_zero _)) (fun j hj => absurd hj (Nat.not_lt_zero _))
  exact ⟨ba', gu', a1, a2, fun β K => by rw [fn_wr_X11_foretells_s]; exact a3 β _⟩
theorem upd_same {f : Nat → Int32} {k : Nat} : upd f k (f k) = f := by
  funext j
  unfold upd
  by_cases e : j = k
  · rw [if_pos e, e]
  · rw [if_neg e]
def shf (g : Nat → Int32) (at_ a : Nat) : Nat → Int32 := fun i => if at_ + a < i ∧ i ≤ at_ + 7 then g (i - 1) else g i
theorem shf_7 {g : Nat → Int32} {at_ : Nat} : shf g at_ 7 = g := by
  funext i
  unfold shf
  rw [if_neg (by omega)]
theorem r_shl {g : Nat → Int32} {at_ : Nat} : ∀ (a fuel : Nat), a ≤ 7 → a < fuel → ∀ (β : Type) (kx : (Nat → Int32) → Nat → β), lf_wr_X11_learns_151 at_ β kx fuel (shf g at_ a) a = kx (shf g at_ 0) 0 := by
  intro a
  induction a with
  | zero =>
    intro fuel _ hf β kx
    obtain ⟨q, rfl⟩ : ∃ q, fuel = q + 1 := ⟨fuel - 1, by omega⟩
    rw [lf_wr_X11_learns_151_s, if_pos (by omega)]
  | succ a ih =>
    intro fuel h7 hf β kx
    obtain ⟨q, rfl⟩ : ∃ q, fuel = q + 1 := ⟨fuel - 1, by omega⟩
    have e : upd (shf g at_ (a + 1)) (at_ + (a + 1)) (shf g at_ (a + 1) (at_ + (a + 1) - 1)) = shf g at_ a := funext (sh_step (h0 := g) (h := shf g at_ (a + 1)) (at_ := at_) (a := a + 1) (by omega) (fun _ => rfl) h7)
    rw [lf_wr_X11_learns_151_s, if_neg (by omega), e, show a + 1 - 1 = a from rfl]
    exact ih q (by omega) (by omega) β kx
theorem r_shift {g : Nat → Int32} {at_ : Nat} {β : Type} {kx : (Nat → Int32) → Nat → β} : lf_wr_X11_learns_151 at_ β kx ((7) + 1) g 7 = kx (shf g at_ 0) 0 := by
  have h := r_shl (g := g) (at_ := at_) 7 8 (by omega) (by omega) β kx
  rw [shf_7] at h
  exact h
theorem sC_if {x : Int32} {β : Type} {K : Int32 → β} : (if x ≤ 1024 then (if (-1024) ≤ x then K x else K (-1024)) else K 1024) = K (sClamp x) := by
  by_cases h : x ≤ 1024
  · rw [if_pos h]
    by_cases h2 : -1024 ≤ x
    · rw [if_pos h2, sC_c h h2]
    · rw [if_neg h2, sC_b h h2]
  · rw [if_neg h, sC_a h]
theorem r_ls {gu ba D w g : Nat → Int32} {l : Int32} {c j fuel : Nat} {β : Type} {kx : (Nat → Int32) → (Nat → Int32) → Int32 → Nat → β} : lf_wr_X11_learns_10 gu ba D c β kx (fuel + 1) w g l (j + 1) = lf_wr_X11_learns_10 gu ba D c β kx fuel (upd w (2 * j + c) (sW1 (ba j) l (D j) (w (2 * j + c)))) (upd (shf g (8 * (2 * j + c)) 0) (8 * (2 * j + c)) (l + gu j)) (l + gu j) j := by
  rw [lf_wr_X11_learns_10_s, if_neg (by omega)]
  repeat rw [fnL_b]
  rw [show j + 1 - 1 = j from rfl]
  simp only [r_shift]
  by_cases h0 : ba j = 0
  · rw [if_pos h0, sW1_a h0, upd_same]
  · rw [if_neg h0]
    by_cases h1 : l = 0
    · rw [if_pos h1, sW1_b h0 h1, upd_same]
    · rw [if_neg h1]
      have F : ∀ x : Int32, (if x ≤ 1024 then (if (-1024) ≤ x then (lf_wr_X11_learns_10 gu ba D c β kx fuel (upd w (2 * j + c) x) (upd (shf g (8 * (2 * j + c)) 0) (8 * (2 * j + c)) (l + gu j)) (l + gu j) j) else (lf_wr_X11_learns_10 gu ba D c β kx fuel (upd w (2 * j + c) (-1024)) (upd (shf g (8 * (2 * j + c)) 0) (8 * (2 * j + c)) (l + gu j)) (l + gu j) j)) else (lf_wr_X11_learns_10 gu ba D c β kx fuel (upd w (2 * j + c) 1024) (upd (shf g (8 * (2 * j + c)) 0) (8 * (2 * j + c)) (l + gu j)) (l + gu j) j)) = lf_wr_X11_learns_10 gu ba D c β kx fuel (upd w (2 * j + c) (sClamp x)) (upd (shf g (8 * (2 * j + c)) 0) (8 * (2 * j + c)) (l + gu j)) (l + gu j) j := fun x => sC_if (K := fun y => lf_wr_X11_learns_10 gu ba D c β kx fuel (upd w (2 * j + c) y) (upd (shf g (8 * (2 * j + c)) 0) (8 * (2 * j + c)) (l + gu j)) (l + gu j) j)
      by_cases hb : 0 ≤ ba j
      · rw [if_pos hb]
        by_cases hl : 0 ≤ l
        · rw [if_pos hl, F, sW1_c h0 h1 (iff_pp hb hl)]
        · rw [if_neg hl, F, sW1_d h0 h1 (iff_pn hb hl)]
      · rw [if_neg hb]
        by_cases hl : 0 ≤ l
        · rw [if_pos hl, F, sW1_d h0 h1 (iff_np hb hl)]
        · rw [if_neg hl, F, sW1_c h0 h1 (iff_nn hb hl)]
theorem r_ll {gu ba D w0 : Nat → Int32} {H : Nat → Nat → Int32} {re : Int32} {n c : Nat} (hc : c < 2) (hn : n ≤ 8) : ∀ (j fuel : Nat) (w g : Nat → Int32) (l : Int32), j ≤ n → j < fuel → (∀ q, q < 16 → w q = sWp ba gu D w0 re n c j q) → (∀ q a, q < 16 → a < 8 → g (8 * q + a) = sHp gu H re n c j q a) → l = sLd gu re n (n - j) → ∃ w' g' : Nat → Int32, (∀ q, q < 16 → w' q = sWp ba gu D w0 re n c 0 q) ∧ (∀ q a, q < 16 → a < 8 → g' (8 * q + a) = sHp gu H re n c 0 q a) ∧ ∀ (β : Type) (kx : (Nat → Int32) → (Nat → Int32) → Int32 → Nat → β), lf_wr_X11_learns_10 gu ba D c β kx fuel w g l j = kx w' g' (sLd gu re n n) 0 := by
  intro j
  induction j with
  | zero =>
    intro fuel w g l _ hf h1 h2 h3
    obtain ⟨q, rfl⟩ : ∃ q, fuel = q + 1 := ⟨fuel - 1, by omega⟩
    exact ⟨w, g, h1, h2, fun β kx => by rw [lf_wr_X11_learns_10_s, if_pos (by omega), h3, Nat.sub_zero]⟩
  | succ j ih =>
    intro fuel w g l hj hf h1 h2 h3
    obtain ⟨q, rfl⟩ : ∃ q, fuel = q + 1 := ⟨fuel - 1, by omega⟩
    have e3 : l + gu j = sLd gu re n (n - j) := by rw [h3]; exact (sLd_step (by omega)).symm
    obtain ⟨w', g', a1, a2, a3⟩ := ih q (upd w (2 * j + c) (sW1 (ba j) l (D j) (w (2 * j + c)))) (upd (shf g (8 * (2 * j + c)) 0) (8 * (2 * j + c)) (l + gu j)) (l + gu j) (by omega) (by omega) (sWp_upd hc (by omega) h1 (by omega) (by rw [h3])) (sHp_step hc (by omega) rfl h2 (fun _ => rfl) e3) e3
    exact ⟨w', g', a1, a2, fun β kx => by rw [r_ls]; exact a3 β kx⟩
theorem r_learns {gu ba D w g : Nat → Int32} {re : Int32} {n c : Nat} (hc : c < 2) (hn : n ≤ 8) : ∃ w' g' : Nat → Int32, (∀ q, q < 16 → w' q = sWp ba gu D w re n c 0 q) ∧ (∀ q a, q < 16 → a < 8 → g' (8 * q + a) = sHp gu (hR g) re n c 0 q a) ∧ ∀ (β : Type) (K : (Nat → Int32) → (Nat → Int32) → Int32 → β), fn_wr_X11_learns n gu ba w D g c re β K = K w' g' (sLd gu re n n) := by
  obtain ⟨w', g', a1, a2, a3⟩ := r_ll (gu := gu) (ba := ba) (D := D) (w0 := w) (H := hR g) (re := re) hc hn n (n + 1) w g re (Nat.le_refl _) (by omega) sWp_start (sHp_start (fun _ _ _ _ => rfl)) (by rw [Nat.sub_self]; rfl)
  exact ⟨w', g', a1, a2, fun β K => by rw [fn_wr_X11_learns_s]; exact a3 β _⟩
/-! PASSES: the class -/
theorem c_slot {p c fr a : Nat} {cc xx : Int32} (ec : cc = nI c) (ex : xx = nI a) (hp : p < 8) (hc : c < 2) (hf : fr < 1000000) (ha : a ≤ 8) : Int32.toNatClampNeg ((((nI p &&& 7) * 16) + ((cc &&& 1) * 8)) + ((nI fr - xx) &&& 7)) = 8 * (2 * p + c) + (fr + 8 - a) % 8 := by
  rw [ec, ex, pk_andN (n := p) (by omega) (m := 7) 3 (by decide), pk_andN (n := c) (by omega) (m := 1) 1 (by decide), pk_and (nI fr - nI a) (m := 7) 3 (by decide)]
  have e1 : nI (p % 2 ^ 3) * 16 = nI (p % 2 ^ 3 * 16) := pk_mul _ 16
  have e2 : nI (c % 2 ^ 1) * 8 = nI (c % 2 ^ 1 * 8) := pk_mul _ 8
  have e3 := slot_m (f := fr) (a := a) hf ha
  rw [e1, e2, show (2 : Nat) ^ 3 = 8 from rfl, e3, nI_add, nI_add, nI_clamp (by omega)]
  omega
theorem c_track {p c : Nat} (hp : p < 8) (hc : c < 2) : Int32.toNatClampNeg (((nI p &&& 7) * 2) + (nI c &&& 1)) = 2 * p + c := by
  rw [pk_andN (n := p) (by omega) (m := 7) 3 (by decide), pk_andN (n := c) (by omega) (m := 1) 1 (by decide)]
  have e1 : nI (p % 2 ^ 3) * 2 = nI (p % 2 ^ 3 * 2) := pk_mul _ 2
  rw [e1, nI_add, nI_clamp (by omega)]
  omega
def TV (t : Int32) : Prop := (∃ k, 1 ≤ k ∧ k ≤ 8 ∧ t = nI k) ∨ t = 17 ∨ t = 18 ∨ t = -1 ∨ t = -3
theorem c_base {nch fr p c : Nat} {t : Int32} {inp : Nat → Int32} (hn : nch = 1 ∨ nch = 2) (hcn : c < nch) (hp : p < 8) (hf : fr < 1000000) (ht : TV t) {β : Type} {K : Int32 → β} : fn_wk_X6_baseOf (nI nch) (nI fr) (nI c) inp (nI p) t β K = K (sBase nch t (hC inp fr c) p c) := by
  have hc : c < 2 := by omega
  rw [fn_wk_X6_baseOf_s]
  have own : ∀ (a : Nat) (xx : Int32), xx = nI a → 1 ≤ a → a ≤ 8 → inp (Int32.toNatClampNeg ((((nI p &&& 7) * 16) + ((nI c &&& 1) * 8)) + ((nI fr - xx) &&& 7))) = hC inp fr c (2 * p + c) (a - 1) := fun a xx e h1 h8 => by
    rw [c_slot rfl e hp hc hf h8]
    unfold hC
    rw [if_neg (by omega)]
    congr 2
    omega
  have e1 := own 1 1 rfl (by omega) (by omega)
  have e2 := own 2 2 rfl (by omega) (by omega)
  rcases ht with ⟨k, k1, k8, rfl⟩ | rfl | rfl | rfl | rfl
  · rw [if_pos (nI_pos' (by omega)), if_neg (show ¬ (8 : Int32) < nI k from nI_nlt (a := 8) (b := k) (by omega) (by omega)), own k (nI k) rfl k1 k8, sB_1 rfl (by omega) (by omega)]
  · rw [if_pos (by decide), if_pos (by decide), if_pos rfl, e1, e2, sB_17 rfl]
  · rw [if_pos (by decide), if_pos (by decide), if_neg (by decide), e1, e2, sB_18 rfl]
  · rw [if_neg (by decide)]
    rcases hn with rfl | rfl
    · rw [if_neg (by decide), sB_o (by decide) (by decide) (by decide) rfl]
    · rw [if_pos (by decide), if_pos rfl]
      have hcc : c = 0 ∨ c = 1 := by omega
      rcases hcc with rfl | rfl
      · rw [if_neg (by decide), c_slot (cc := 1 - nI 0) (xx := 1) (c := 1) (a := 1) (by decide) rfl hp (by omega) hf (by omega), sB_p (by decide) (by decide) (by decide) (by omega) rfl]
        unfold hC
        rw [if_neg (by omega)]
        congr 3
      · rw [if_pos (by decide), c_slot (cc := 1 - nI 1) (xx := 0) (c := 0) (a := 0) (by decide) rfl hp (by omega) hf (by omega), sB_q (by decide) (by decide) (by decide) (by omega) (by omega) rfl]
        unfold hC
        rw [if_pos (by omega)]
        congr 3
  · rw [if_neg (by decide)]
    rcases hn with rfl | rfl
    · rw [if_neg (by decide), sB_o (by decide) (by decide) (by decide) rfl]
    · rw [if_pos (by decide), if_neg (by decide)]
      have hcc : c = 0 ∨ c = 1 := by omega
      rcases hcc with rfl | rfl
      · rw [c_slot (cc := 1 - nI 0) (xx := 1) (c := 1) (a := 1) (by decide) rfl hp (by omega) hf (by omega), sB_p (by decide) (by decide) (by decide) (by omega) rfl]
        unfold hC
        rw [if_neg (by omega)]
        congr 3
      · rw [c_slot (cc := 1 - nI 1) (xx := 1) (c := 0) (a := 1) (by decide) rfl hp (by omega) hf (by omega), sB_r (by decide) (by decide) (by decide) (by omega) (by omega) (by decide)]
        unfold hC
        rw [if_pos (by omega)]
        congr 3
theorem c_fl {nch fr n c : Nat} {te we inp : Nat → Int32} {l1 l2 : Int32} (hnc : nch = 1 ∨ nch = 2) (hcn : c < nch) (hf : fr < 1000000) (hn : n ≤ 8) (hT : ∀ j, j < n → TV (te j)) : ∀ (d fuel k : Nat) (ba gu : Nat → Int32), k + d = n → d < fuel → (∀ j, j < k → ba j = sBf nch te (hC inp fr c) c j) → (∀ j, j < k → gu j = sGf nch te we (hC inp fr c) c j) → ∃ ba' gu' : Nat → Int32, (∀ j, j < n → ba' j = sBf nch te (hC inp fr c) c j) ∧ (∀ j, j < n → gu' j = sGf nch te we (hC inp fr c) c j) ∧ ∀ (β : Type) (kx : Int32 → Int32 → (Nat → Int32) → (Nat → Int32) → Int32 → Int32 → Int32 → Int32 → β), lf_wk_X6_foretell_15 (nI nch) n te we inp β kx fuel (nI fr) (nI c) ba gu l1 l2 (sSum (sGf nch te we (hC inp fr c) c) k) (nI k) = kx (nI fr) (nI c) ba' gu' l1 l2 (sSum (sGf nch te we (hC inp fr c) c) n) (nI n) := by
  intro d
  induction d with
  | zero =>
    intro fuel k ba gu hk hfu h1 h2
    obtain ⟨q, rfl⟩ : ∃ q, fuel = q + 1 := ⟨fuel - 1, by omega⟩
    have e : k = n := by omega
    subst e
    exact ⟨ba, gu, h1, h2, fun β kx => by rw [lf_wk_X6_foretell_15_s, if_pos (nI_le (Nat.le_refl _) (by omega))]⟩
  | succ d ih =>
    intro fuel k ba gu hk hfu h1 h2
    obtain ⟨q, rfl⟩ : ∃ q, fuel = q + 1 := ⟨fuel - 1, by omega⟩
    obtain ⟨ba', gu', a1, a2, a3⟩ := ih q (k + 1) (upd ba k (sBf nch te (hC inp fr c) c k)) (upd gu k (sGf nch te we (hC inp fr c) c k)) (by omega) (by omega) (fo_step h1 rfl) (fo_step h2 rfl)
    refine ⟨ba', gu', a1, a2, fun β kx => ?_⟩
    rw [lf_wk_X6_foretell_15_s, if_neg (nI_ge (by omega) (by omega)), if_neg (show ¬ (8 : Int32) ≤ nI k from nI_ge (a := k) (b := 8) (by omega) (by omega)), nI_clamp (by omega), c_base hnc hcn (by omega) hf (hT k (by omega)), fn_wk_X6_weightOf_s, c_track (by omega) (by omega), nI_1, pk_us]
    repeat rw [fnL_b]
    rw [pk_us]
    exact a3 β kx
theorem c_foretell {nch fr n c : Nat} {te we inp ba gu : Nat → Int32} (hnc : nch = 1 ∨ nch = 2) (hcn : c < nch) (hf : fr < 1000000) (hn : n ≤ 8) (hT : ∀ j, j < n → TV (te j)) : ∃ ba' gu' : Nat → Int32, (∀ j, j < n → ba' j = sBf nch te (hC inp fr c) c j) ∧ (∀ j, j < n → gu' j = sGf nch te we (hC inp fr c) c j) ∧ ∀ (β : Type) (K : Int32 → Int32 → (Nat → Int32) → (Nat → Int32) → Int32 → β), fn_wk_X6_foretell (nI nch) n te we inp ba gu (nI fr) (nI c) β K = K (nI fr) (nI c) ba' gu' (sSum (sGf nch te we (hC inp fr c) c) n) := by
  obtain ⟨ba', gu', a1, a2, a3⟩ := c_fl (we := we) (inp := inp) (l1 := nI fr) (l2 := nI c) hnc hcn hf hn hT n 9 0 ba gu (by omega) (by omega) (fun j hj => absurd hj (Nat.not_lt_zero _)) (fun j hj => absurd hj (Nat.not_lt_zero _))
  refine ⟨ba', gu', a1, a2, fun β K => ?_⟩
  rw [fn_wk_X6_foretell_s, show ((Int32.toInt 8 - Int32.toInt 0).toNat + 1) = 9 from by decide]
  exact a3 β _
theorem sC_mm {x : Int32} : (if (-1024) < (if x < 1024 then x else 1024) then (if x < 1024 then x else 1024) else (-1024)) = sClamp x := by
  by_cases h : x < 1024
  · rw [if_pos h]
    have h1 : x ≤ 1024 := Int32.le_of_lt h
    by_cases h2 : -1024 < x
    · rw [if_pos h2, sC_c h1 (Int32.le_of_lt h2)]
    · rw [if_neg h2]
      by_cases h3 : -1024 ≤ x
      · rw [sC_c h1 h3]
        exact Int32.le_antisymm h3 (o_1 h2)
      · rw [sC_b h1 h3]
  · rw [if_neg h, if_pos (by decide)]
    by_cases h1 : x ≤ 1024
    · rw [sC_c h1 (Int32.le_trans (by decide) (o_1 h))]
      exact Int32.le_antisymm (o_1 h) h1
    · rw [sC_a h1]
theorem c_move {c j : Nat} {by_ : Int32} {we : Nat → Int32} (hj : j < 8) (hc : c < 2) {β : Type} {K : (Nat → Int32) → β} : fn_wk_X6_moveWeight (nI c) we (nI j) by_ β K = K (upd we (2 * j + c) (sClamp (we (2 * j + c) + by_))) := by
  rw [fn_wk_X6_moveWeight_s, c_track hj hc, sC_mm]
  rfl
theorem c_ls {fr c j fuel : Nat} {de we inp ba gu : Nat → Int32} {l1 l : Int32} (hj : j < 8) (hc : c < 2) (hf : fr < 1000000) {β : Type} {kx : (Nat → Int32) → (Nat → Int32) → Int32 → Int32 → Int32 → β} : lf_wk_X6_learn_17 (nI fr) (nI c) de ba gu β kx (fuel + 1) we inp l1 l (nI j) = lf_wk_X6_learn_17 (nI fr) (nI c) de ba gu β kx fuel (upd we (2 * j + c) (sW1 (ba j) l (de j) (we (2 * j + c)))) (upd inp (8 * (2 * j + c) + (fr + 8 - 0) % 8) (l + gu j)) l1 (l + gu j) (nI j - 1) := by
  have es := c_slot (p := j) (c := c) (fr := fr) (a := 0) (cc := nI c) (xx := 0) rfl rfl hj hc hf (by omega)
  rw [lf_wk_X6_learn_17_s, if_neg (nI_pos (by omega)), nI_clamp (by omega), i_m1]
  simp only [c_move hj hc, es]
  by_cases h0 : ba j = 0
  · rw [if_pos h0, sW1_a h0, upd_same]
  · rw [if_neg h0]
    by_cases h1 : l = 0
    · rw [if_pos h1, sW1_b h0 h1, upd_same]
    · rw [if_neg h1]
      by_cases hb : 0 ≤ ba j
      · rw [if_pos hb]
        by_cases hl : 0 ≤ l
        · rw [if_pos hl, sW1_c h0 h1 (iff_pp hb hl)]
        · rw [if_neg hl, sW1_d h0 h1 (iff_pn hb hl)]
      · rw [if_neg hb]
        by_cases hl : 0 ≤ l
        · rw [if_pos hl, sW1_d h0 h1 (iff_np hb hl)]
        · rw [if_neg hl, sW1_c h0 h1 (iff_nn hb hl)]
def IRg (inp : Nat → Int32) (fr n c j : Nat) (F : Nat → Nat → Int32) : Prop := ∀ q a, q / 2 < n → a < 8 → inp (8 * q + (fr + (if q % 2 < c ∨ (q % 2 = c ∧ j ≤ q / 2) then 8 else 7) - a) % 8) = F q a
theorem IR_step {inp g : Nat → Int32} {fr n c j : Nat} {H : Nat → Nat → Int32} {re x : Int32} (hc : c < 2) (hj : j < n) (h : IRg inp fr n c (j + 1) (sHp g H re n c (j + 1))) (hx : x = sLd g re n (n - j)) : IRg (upd inp (8 * (2 * j + c) + (fr + 8 - 0) % 8) x) fr n c j (sHp g H re n c j) := by
  intro q a hq ha
  by_cases e : q = 2 * j + c
  · have e1 : q / 2 = j := by omega
    have e2 : q % 2 = c := by omega
    rw [if_pos (Or.inr ⟨e2, by omega⟩)]
    by_cases ea : a = 0
    · subst ea
      rw [e, pk_us, hx]
      unfold sHp
      rw [if_pos (by omega), if_pos rfl, show (2 * j + c) / 2 = j by omega]
    · have h2 := h q (a - 1) hq (by omega)
      rw [if_neg (by omega)] at h2
      rw [pk_un (by omega), show (fr + 8 - a) % 8 = (fr + 7 - (a - 1)) % 8 by omega, h2]
      unfold sHp
      rw [if_neg (by omega), if_pos (by omega), if_neg ea]
  · have h2 := h q a hq ha
    have hif : (if q % 2 < c ∨ (q % 2 = c ∧ j + 1 ≤ q / 2) then 8 else 7) = (if q % 2 < c ∨ (q % 2 = c ∧ j ≤ q / 2) then 8 else 7) := by
      by_cases z : q % 2 < c ∨ (q % 2 = c ∧ j ≤ q / 2)
      · rw [if_pos z, if_pos (by omega)]
      · rw [if_neg z, if_neg (by omega)]
    rw [hif] at h2
    rw [pk_un (by omega), h2]
    unfold sHp
    by_cases hq2 : q % 2 = c ∧ j + 1 ≤ q / 2 ∧ q / 2 < n
    · rw [if_pos hq2, if_pos (show q % 2 = c ∧ j ≤ q / 2 ∧ q / 2 < n by omega)]
    · rw [if_neg hq2, if_neg (show ¬ (q % 2 = c ∧ j ≤ q / 2 ∧ q / 2 < n) by omega)]
theorem c_ll {fr n c : Nat} {de ba gu w0 : Nat → Int32} {H : Nat → Nat → Int32} {re l1 : Int32} (hc : c < 2) (hn : n ≤ 8) (hf : fr < 1000000) : ∀ (j fuel : Nat) (we inp : Nat → Int32) (l : Int32), j ≤ n → j < fuel → (∀ q, q < 16 → we q = sWp ba gu de w0 re n c j q) → IRg inp fr n c j (sHp gu H re n c j) → l = sLd gu re n (n - j) → ∃ we' inp' : Nat → Int32, (∀ q, q < 16 → we' q = sWp ba gu de w0 re n c 0 q) ∧ IRg inp' fr n c 0 (sHp gu H re n c 0) ∧ ∀ (β : Type) (kx : (Nat → Int32) → (Nat → Int32) → Int32 → Int32 → Int32 → β), lf_wk_X6_learn_17 (nI fr) (nI c) de ba gu β kx fuel we inp l1 l (nI j - 1) = kx we' inp' l1 (sLd gu re n n) (nI 0 - 1) := by
  intro j
  induction j with
  | zero =>
    intro fuel we inp l _ hfu h1 h2 h3
    obtain ⟨q, rfl⟩ : ∃ q, fuel = q + 1 := ⟨fuel - 1, by omega⟩
    exact ⟨we, inp, h1, h2, fun β kx => by rw [lf_wk_X6_learn_17_s, if_pos (by decide), h3, Nat.sub_zero]⟩
  | succ j ih =>
    intro fuel we inp l hj hfu h1 h2 h3
    obtain ⟨q, rfl⟩ : ∃ q, fuel = q + 1 := ⟨fuel - 1, by omega⟩
    have e3 : l + gu j = sLd gu re n (n - j) := by rw [h3]; exact (sLd_step (by omega)).symm
    obtain ⟨we', inp', a1, a2, a3⟩ := ih q (upd we (2 * j + c) (sW1 (ba j) l (de j) (we (2 * j + c)))) (upd inp (8 * (2 * j + c) + (fr + 8 - 0) % 8) (l + gu j)) (l + gu j) (by omega) (by omega) (sWp_upd hc (by omega) h1 (by omega) (by rw [h3])) (IR_step hc (by omega) h2 e3) e3
    exact ⟨we', inp', a1, a2, fun β kx => by rw [nI_pred, c_ls (by omega) hc hf]; exact a3 β kx⟩
theorem mn8 : ∀ n, n ≤ 8 → (if (8 : Int32) < nI n then 8 else nI n) = nI n := by decide +kernel
theorem c_learn {fr n c : Nat} {de we inp ba gu : Nat → Int32} {re : Int32} (hc : c < 2) (hn : n ≤ 8) (hf : fr < 1000000) : ∃ we' inp' : Nat → Int32, (∀ q, q < 16 → we' q = sWp ba gu de we re n c 0 q) ∧ (∀ q a, q / 2 < n → a < 8 → hC inp' fr (c + 1) q a = sHp gu (hC inp fr c) re n c 0 q a) ∧ ∀ (β : Type) (K : (Nat → Int32) → (Nat → Int32) → Int32 → β), fn_wk_X6_learn (nI fr) (nI c) n de ba gu we inp re β K = K we' inp' (sLd gu re n n) := by
  obtain ⟨we', inp', a1, a2, a3⟩ := c_ll (de := de) (ba := ba) (gu := gu) (w0 := we) (H := hC inp fr c) (re := re) (l1 := re) hc hn hf n (n + 1) we inp re (Nat.le_refl _) (by omega) sWp_start (fun q a hq ha => by
    unfold sHp
    rw [if_neg (show ¬ (q % 2 = c ∧ n ≤ q / 2 ∧ q / 2 < n) by omega)]
    unfold hC
    by_cases z : q % 2 < c
    · rw [if_pos z, if_pos (Or.inl z)]
    · rw [if_neg z, if_neg (by omega)]) (by rw [Nat.sub_self]; rfl)
  refine ⟨we', inp', a1, fun q a hq ha => ?_, fun β K => ?_⟩
  · rw [← a2 q a hq ha]
    unfold hC
    by_cases z : q % 2 < c + 1
    · rw [if_pos z, if_pos (by omega)]
    · rw [if_neg z, if_neg (by omega)]
  · rw [fn_wk_X6_learn_s, mn8 n hn, fu_d (by omega)]
    exact a3 β _
