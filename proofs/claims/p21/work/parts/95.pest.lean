/-! what is coded, as one state: bits of both streams, MEDIANS, the greatest ONES -/
def beO (x : Int32) : Bool := decide (¬ 0 ≤ x)
def vO (x : Int32) : Nat := if 0 ≤ x then x.toInt.toNat else (-1 - x.toInt).toNat
theorem vO_eq (x : Int32) : x = rsN (beO x) (vO x) ∧ vO x < 2147483648 := by
  obtain ⟨be, v, hv, e, hb⟩ := rs_of x
  have h1 : beO x = be := by
    unfold beO
    cases be
    · rw [decide_eq_false]
      intro q
      exact absurd (hb.mpr q) (by decide)
    · rw [decide_eq_true (hb.mp rfl)]
  have h2 : vO x = v := by
    unfold vO
    cases be
    · have h0 : 0 ≤ x := Decidable.byContradiction (fun q => absurd (hb.mpr q) (by decide))
      have e' : x = nI v := e
      rw [if_pos h0, e', nI_toInt hv]
      rfl
    · have e' : x = -1 - nI v := e
      rw [if_neg (hb.mp rfl), e', rs_toInt hv]
      omega
  rw [h1, h2]
  exact ⟨e, hv⟩
theorem lg_mul {a b : Nat} (ha : a ≠ 0) (hb : b ≠ 0) (h : a * b < 2 ^ 31) : Nat.log2 a + Nat.log2 b < 31 := by
  have h1 := Nat.log2_self_le ha
  have h2 := Nat.log2_self_le hb
  have h3 := Nat.mul_le_mul h1 h2
  rw [← Nat.pow_add] at h3
  have h4 : 2 ^ (Nat.log2 a + Nat.log2 b) < 2 ^ 31 := Nat.lt_of_le_of_lt h3 h
  exact (Nat.pow_lt_pow_iff_right (by decide)).mp h4
theorem hvR_len {M : Nat → Nat} {c E v t : Nat} (hc : c < 2) (hB : MB M) (hv : v < 2147483648) (ht : t ≤ 32) (h : hiN M c (onesN M c v) - loN M c (onesN M c v) < 2 ^ t) : (hvR M c E v).1.length ≤ t := by
  obtain ⟨h1, h2, h3⟩ := ones_lo hc hB hv
  unfold hvR
  rw [hv_fuel t 32 _ _ h ht]
  exact (hv_ok t _ _ h1 h2 h).2.2.2.2.1
theorem bitsG_len (a : Nat) : (bitsG a).length = 5 + Nat.log2 a := by
  unfold bitsG
  rw [List.length_append, bits_len, bits_len]
theorem rB1_len {M : Nat → Nat} {c E v : Nat} {be : Bool} (hc : c < 2) (hB : MB M) (hv : v < 2147483648) : (rB1 M c E v be).length ≤ 54 := by
  obtain ⟨h1, h2, h3⟩ := ones_lo hc hB hv
  have q4 := hi_lo (c := c) (on := onesN M c v) hc hB
  have l0 : (rB1 M c E v be).length = (onB (onesN M c v)).length + (hvR M c E v).1.length + 1 := by
    unfold rB1
    rw [List.length_append, List.length_append]
    rfl
  rw [l0]
  by_cases h16 : onesN M c v < 16
  · have e : (onB (onesN M c v)).length = onesN M c v + 1 := by
      unfold onB
      rw [if_pos h16, List.length_append, List.length_replicate]
      rfl
    have := hvR_len (E := E) (t := 32) hc hB hv (by omega) (by omega)
    omega
  · have e : (onB (onesN M c v)).length = 16 + (5 + Nat.log2 (onesN M c v - 15)) := by
      unfold onB
      rw [if_neg h16, List.length_append, List.length_replicate, bitsG_len]
    have hlo : loN M c (onesN M c v) = shN M c 0 + shN M c 1 + (onesN M c v - 2) * shN M c 2 := by
      unfold loN
      rw [if_neg (by omega), if_neg (by omega)]
    have hhi : hiN M c (onesN M c v) = loN M c (onesN M c v) + shN M c 2 - 1 := by
      unfold hiN
      rw [if_neg (by omega), if_neg (by omega)]
    have hC := shN_le (c := c) (k := 2) hc (by omega) hB
    have hm : (onesN M c v - 15) * shN M c 2 ≤ (onesN M c v - 2) * shN M c 2 := Nat.mul_le_mul_right _ (by omega)
    have hlg := lg_mul (a := onesN M c v - 15) (b := shN M c 2) (by omega) (by omega) (by omega)
    have hd : hiN M c (onesN M c v) - loN M c (onesN M c v) < 2 ^ (Nat.log2 (shN M c 2) + 1) := by
      have := Nat.lt_log2_self (n := shN M c 2)
      omega
    have := hvR_len (E := E) (t := Nat.log2 (shN M c 2) + 1) hc hB hv (by omega) hd
    omega
theorem rT_le {M : Nat → Nat} {c E v : Nat} (hc : c < 2) (hB : MB M) (hv : v < 2147483648) : rT M c E v ≤ E + 1 ∧ 1 ≤ rT M c E v := by
  obtain ⟨z1, z2, z3, z4, z5, z6⟩ := hvR_ok (E := E) hc hB hv
  unfold rT
  omega
theorem shl2 : ∀ k, k < 17 → (2 : Int64) <<< (Int32.toInt64 (nI k) &&& 63) = lN (2 ^ (k + 1)) := by decide +kernel
theorem bitsT_len {o a : Nat} (h0 : a ≠ 0) (ha : a ≤ 65536) (ho : o < a) : (bitsT (lN o) (lN a) (Nat.log2 a)).length ≤ 16 := by
  have h1 := Nat.log2_self_le h0
  have h2 : Nat.log2 a < 17 := (Nat.log2_lt h0).mpr (by omega)
  have h3 := Nat.lt_log2_self (n := a)
  unfold bitsT
  by_cases hc : 0 ≤ lg_cmp (lN o) (tX (lN a) (Nat.log2 a))
  · rw [if_pos hc, bits_len]
    by_cases h16 : Nat.log2 a = 16
    · exfalso
      have e : a = 65536 := by
        rw [h16] at h1
        omega
      unfold tX at hc
      rw [h16, shl2 16 (by omega), e] at hc
      have e2 : lN (2 ^ (16 + 1)) - lN 65536 = lN 65536 := lN_sub (a := 2 ^ (16 + 1)) (b := 65536) (by decide)
      rw [e2] at hc
      have := (lc_ge (a := o) (b := 65536) (by omega) (by omega)).mp hc
      omega
    · omega
  · rw [if_neg hc, bits_len]
    omega
theorem rB2_len {M : Nat → Nat} {c E v : Nat} (hc : c < 2) (hB : MB M) (hv : v < 2147483648) (hE : E ≤ 65535) : (rB2 M c E v).length ≤ 16 := by
  obtain ⟨z1, z2, z3, z4, z5, z6⟩ := hvR_ok (E := E) hc hB hv
  obtain ⟨t1, t2⟩ := rT_le (E := E) hc hB hv
  unfold rB2
  exact bitsT_len (by omega) (by omega) (by unfold rT; omega)
/-- without an error REST' is the REST -/
theorem rN_0 {M : Nat → Nat} {c v : Nat} (hc : c < 2) (hB : MB M) (hv : v < 2147483648) : rN M c 0 v = v := by
  obtain ⟨z1, z2, z3, z4, z5, z6⟩ := hvR_ok (E := 0) hc hB hv
  unfold rN nrN mdN
  omega
abbrev ESt : Type := List Nat × List Nat × (Nat → Nat) × Nat
def est (E c : Nat) (x : Int32) (s : ESt) : ESt := (s.1 ++ rB1 s.2.2.1 c E (vO x) (beO x), s.2.1 ++ rB2 s.2.2.1 c E (vO x), mvM s.2.2.1 c (onesN s.2.2.1 c (vO x)), max s.2.2.2 (onesN s.2.2.1 c (vO x)))
def EB (a b : Nat) (s : ESt) : Prop := MB s.2.2.1 ∧ s.1.length ≤ a ∧ s.2.1.length ≤ b ∧ s.2.2.2 < 2147483648
theorem EB_est {E c a b : Nat} {x : Int32} {s : ESt} (hc : c < 2) (hE : E ≤ 65535) (h : EB a b s) : EB (a + 54) (b + 16) (est E c x s) := by
  obtain ⟨h1, h2, h3, h4⟩ := h
  have hv := (vO_eq x).2
  obtain ⟨q1, q2, q3⟩ := ones_lo hc h1 hv
  have q6 := ones_lt (M := s.2.2.1) (c := c) hv
  have l1 := rB1_len (E := E) (be := beO x) hc h1 hv
  have l2 := rB2_len (E := E) hc h1 hv hE
  refine ⟨MB_mv h1 (by omega), ?_, ?_, ?_⟩
  · show (s.1 ++ rB1 s.2.2.1 c E (vO x) (beO x)).length ≤ _
    rw [List.length_append]
    omega
  · show (s.2.1 ++ rB2 s.2.2.1 c E (vO x)).length ≤ _
    rw [List.length_append]
    omega
  · show max s.2.2.2 (onesN s.2.2.1 c (vO x)) < _
    omega
def CE (h1 h2 : Nat) (s : ESt) (t1 : Int32) (f1 : Nat → Int32) (t2 : Int32) (f2 : Nat → Int32) (o1 u1 o2 u2 w10 : Int32) (mi : Nat → Int64) : Prop := BW h1 s.1 o1 u1 t1 f1 ∧ BW h2 s.2.1 o2 u2 t2 f2 ∧ MR mi s.2.2.1 ∧ w10 = nI s.2.2.2
theorem ce_writeRest {c E h1 h2 a b : Nat} {re : Int32} {s : ESt} {mi : Nat → Int64} {o1 u1 t1 o2 u2 t2 w10 : Int32} {f1 f2 : Nat → Int32} (hc : c < 2) (hE : E ≤ 65535) (hEB : EB a b s) (hCE : CE h1 h2 s t1 f1 t2 f2 o1 u1 o2 u2 w10 mi) (ha : h1 + (a + 124) / 8 ≤ 9600) (hb : h2 + (b + 17) / 8 ≤ 2450) : ∃ (o1' u1' t1' : Int32) (f1' : Nat → Int32) (o2' u2' t2' : Int32) (f2' : Nat → Int32) (mi' : Nat → Int64) (w10' : Int32), CE h1 h2 (est E c re s) t1' f1' t2' f2' o1' u1' o2' u2' w10' mi' ∧ (∀ j, j < h1 → nb f1' j = nb f1 j) ∧ (∀ j, j < h2 → nb f2' j = nb f2 j) ∧ ∃ md1 md2 : Int64, ∀ (β : Type) (K : Int32 → (Nat → Int32) → Int32 → (Nat → Int32) → Int32 → Int32 → Int32 → Int32 → Int32 → Int64 → Int64 → (Nat → Int64) → Int32 → β), fn_wk_X4_writeRest (nI E) t1 f1 t2 f2 o1 u1 o2 u2 w10 mi (nI c) re β K = K t1' f1' t2' f2' o1' u1' o2' u2' w10' md1 md2 mi' (rsN (beO re) (rN s.2.2.1 c E (vO re))) := by
  obtain ⟨e1, e2, e3, e4⟩ := hEB
  obtain ⟨b1, b2, b3, rfl⟩ := hCE
  obtain ⟨hre, hv⟩ := vO_eq re
  have l1 := rB1_len (E := E) (be := beO re) hc e1 hv
  obtain ⟨t1a, t1b⟩ := rT_le (E := E) hc e1 hv
  have hlg : Nat.log2 (rT s.2.2.1 c E (vO re)) < 17 := (Nat.log2_lt (by omega)).mpr (by omega)
  obtain ⟨o1', u1', t1', f1', o2', u2', t2', f2', mi', a1, a2, a3, a4, a5, a6⟩ := c_writeRest (E := E) (g := s.2.2.2) (be := beO re) (re := re) hc (by omega) hv e4 hre b3 e1 b1 b2 (by omega) (by omega)
  exact ⟨o1', u1', t1', f1', o2', u2', t2', f2', mi', _, ⟨a1, a3, a5, rfl⟩, a2, a4, _, _, a6⟩
def RE (s : ESt) (g27 : Int64) (m1 m2 : Nat) (M : Nat → Nat) (rf sf : Nat → Int32) : Prop := RB s.1 m1 rf ∧ RB s.2.1 m2 sf ∧ s.2.2.1 = M ∧ g27 = lN s.2.2.2
theorem re_codes {n nch c E a b gr m1 m2 : Nat} {va : Int32} {g27 : Int64} {te de T D g w ba gu rf sf : Nat → Int32} {M : Nat → Nat} {s : ESt} {p : PSt} (hnc : nch = 1 ∨ nch = 2) (hcn : c < nch) (hP : PV n T) (hTe : ∀ j, j < n → te j = T j) (hDe : ∀ j, j < n → de j = D j) (hgr : gr < 2147483648) (hE : E ≤ 65535) (hEB : EB a b s) (hRE : RE s g27 m1 m2 M rf sf) (hRP : RP w g p) : ∃ (w' g' ba' gu' rf' sf' : Nat → Int32) (m1' m2' lo hi : Nat) (M' : Nat → Nat) (g27' : Int64), RE (est E c (va - gS nch n T c p) s) g27' m1' m2' M' rf' sf' ∧ RP w' g' (stS nch n T D c p (rsN (beO (va - gS nch n T c p)) (rN s.2.2.1 c E (vO (va - gS nch n T c p))))) ∧ ∀ (β : Type) (K : Int64 → Nat → Nat → Nat → Nat → Int32 → (Nat → Int32) → (Nat → Int32) → (Nat → Int32) → (Nat → Int32) → (Nat → Nat) → (Nat → Int32) → (Nat → Int32) → β), fn_wr_X11_codes n nch g27 m1 m2 E (nI gr) te g w ba gu de M rf sf c va β K = K g27' lo hi m1' m2' (nI (max gr (dsN (vO (va - gS nch n T c p)) (rN s.2.2.1 c E (vO (va - gS nch n T c p)))))) w' g' ba' gu' M' rf' sf' := by
  obtain ⟨e1, e2, e3, e4⟩ := hEB
  obtain ⟨b1, b2, rfl, rfl⟩ := hRE
  have h8 := hP.1
  have hT2 : ∀ j, j < n → TV (te j) := fun j hj => by rw [hTe j hj]; exact hP.2 j hj
  obtain ⟨c1, c2⟩ := sGf_congr (T := te) (T2 := T) (w := w) (w2 := p.1) (H := hR g) (H2 := p.2) hnc hP.1 hcn hT2 hTe hRP.1 (fun q a hq _ ha => hRP.2 q a (by omega) ha)
  have eS : sSum (sGf nch te w (hR g) c) n = gS nch n T c p := sSum_congr n c2
  obtain ⟨hre, hv⟩ := vO_eq (va - gS nch n T c p)
  obtain ⟨w', g', ba', gu', rf', sf', a1, a2, a3, a4, a5⟩ := r_codes (n := n) (nch := nch) (c := c) (E := E) (gO := s.2.2.2) (gr := gr) (m1 := m1) (m2 := m2) (be := beO (va - gS nch n T c p)) (v := vO (va - gS nch n T c p)) (va := va) (T := te) (D := de) (g := g) (w := w) (ba := ba) (gu := gu) (M := s.2.2.1) (by omega) hP.1 hv e4 hgr hE e1 (by rw [eS]; exact hre) b1 b2
  refine ⟨w', g', ba', gu', rf', sf', _, _, _, _, _, _, ⟨a3, a4, rfl, rfl⟩, ⟨fun q hq => ?_, fun q a hq ha => ?_⟩, a5⟩
  · rw [a1 q hq]
    exact sWp_congr c1 c2 hDe (hRP.1 q hq)
  · show g' (8 * q + a) = _
    rw [a2 q a hq ha]
    exact sHp_congr c2 (fun a ha => hRP.2 q a hq ha) ha
