/-! A REST: the reference -/
theorem r_middle {lo hi : Nat} (h : lo + hi < 4611686018427387000) {β : Type} {K : Int64 → β} : fn_wr_X11_middle (lN lo) (lN hi) β K = K (lN (nrN lo hi)) := by
  rw [fn_wr_X11_middle_s, lN_mid h]
  have hlt : mdN lo hi < 9223372036854775808 := by unfold mdN; omega
  unfold nrN
  by_cases q : mdN lo hi ≤ 2147483647
  · rw [if_pos (show lg_cmp (lN (mdN lo hi)) (2147483647 : Int64) ≤ 0 from (lc_le (a := mdN lo hi) (b := 2147483647) hlt (by omega)).mpr q), show min (mdN lo hi) 2147483647 = mdN lo hi by omega]
  · rw [if_neg (show ¬ lg_cmp (lN (mdN lo hi)) (2147483647 : Int64) ≤ 0 from fun z => q ((lc_le (a := mdN lo hi) (b := 2147483647) hlt (by omega)).mp z)), show min (mdN lo hi) 2147483647 = 2147483647 by omega]
    rfl
theorem goN_max {g on : Nat} (hg : g < 2147483648) (ho : on < 2147483648) : goN (lN g) on = lN (max g on) := by
  unfold goN
  by_cases h : on ≤ g
  · rw [if_pos ((lc_le (a := on) (b := g) (by omega) (by omega)).mpr h), show max g on = g by omega]
  · rw [if_neg (fun q => h ((lc_le (a := on) (b := g) (by omega) (by omega)).mp q)), show max g on = on by omega]
theorem r_onB {on m : Nat} {L : List Nat} {g : Nat → Int32} (ho : on < 2147483648) (hB : RB L m g) : ∃ g' : Nat → Int32, RB (L ++ onB on) (m + (onB on).length) g' ∧ ∀ (β : Type) (Kc : Nat → (Nat → Int32) → β), lf_wr_X11_codes_99 on β (fun a b _ => if 16 ≤ on then fn_wr_X11_putG a b (on - 15) β Kc else fn_wr_X11_bit a b 0 β Kc) 17 m g 0 = Kc (m + (onB on).length) g' := by
  obtain ⟨g1, h1, h2⟩ := r_ones (on := on) (min on 16) 17 0 m L g (by omega) (by omega) hB
  by_cases h16 : on < 16
  · have e : onB on = List.replicate on 1 ++ [0] := if_pos h16
    have em : min on 16 = on := by omega
    rw [em] at h1 h2
    have h3 := RB_bit (x := 0) h1 (by omega)
    refine ⟨upd g1 (m + on) (Int8.toInt32 (Int32.toInt8 (nI 0))), ?_, fun β Kc => ?_⟩
    · rw [e, List.length_append, List.length_replicate, ← List.append_assoc, show m + (on + [0].length) = m + on + 1 from rfl]
      exact h3
    · rw [h2, if_neg (by omega), e, List.length_append, List.length_replicate]
      rfl
  · have e : onB on = List.replicate 16 1 ++ bitsG (on - 15) := if_neg h16
    have em : min on 16 = 16 := by omega
    rw [em] at h1 h2
    obtain ⟨g2, h3, h4⟩ := r_putG (a := on - 15) (by omega) (by omega) h1
    refine ⟨g2, ?_, fun β Kc => ?_⟩
    · rw [e, List.length_append, List.length_replicate, ← List.append_assoc, ← Nat.add_assoc]
      exact h3
    · rw [h2, if_pos (by omega), h4, e, List.length_append, List.length_replicate, ← Nat.add_assoc]
def dsN (v t : Nat) : Nat := if v ≤ t then t - v else v - t
theorem max_if {a d : Nat} (ha : a < 2147483648) (hd : d < 2147483648) {β : Type} {F : Int32 → β} : (if nI d ≤ nI a then F (nI a) else F (nI d)) = F (nI (max a d)) := by
  by_cases h : d ≤ a
  · rw [if_pos ((nI_leI hd ha).mpr h), show max a d = a by omega]
  · rw [if_neg (fun q => h ((nI_leI hd ha).mp q)), show max a d = d by omega]
theorem t32_neg {v : Nat} : Int64.toInt32 ((-1) - lN v) = -1 - nI v := by
  rw [Int64.toInt32_sub, lN_i]
  rfl
theorem rest_eq {be : Bool} {v : Nat} (hv : v < 2147483648) {x : Int32} (hx : x = rsN be v) : (be = false → 0 ≤ x) ∧ (be = true → ¬ 0 ≤ x) := by
  constructor
  · intro h
    rw [h] at hx
    rw [hx]
    exact nI_pos' hv
  · intro h
    rw [h] at hx
    rw [hx]
    exact rs_neg hv
theorem sWp_congr {b g b2 g2 d d2 w w2 : Nat → Int32} {re : Int32} {n c : Nat} (h1 : ∀ j, j < n → b j = b2 j) (h2 : ∀ j, j < n → g j = g2 j) (h3 : ∀ j, j < n → d j = d2 j) {q : Nat} (hq : w q = w2 q) : sWp b g d w re n c 0 q = sWp b2 g2 d2 w2 re n c 0 q := by
  unfold sWp
  by_cases z : q % 2 = c ∧ 0 ≤ q / 2 ∧ q / 2 < n
  · rw [if_pos z, if_pos z, h1 _ z.2.2, h3 _ z.2.2, hq, sLd_congr h2 (n - (q / 2 + 1)) (by omega)]
  · rw [if_neg z, if_neg z, hq]
theorem sHp_congr {g g2 : Nat → Int32} {H H2 : Nat → Nat → Int32} {re : Int32} {n c : Nat} (h2 : ∀ j, j < n → g j = g2 j) {q a : Nat} (hq : ∀ a, a < 8 → H q a = H2 q a) (ha : a < 8) : sHp g H re n c 0 q a = sHp g2 H2 re n c 0 q a := by
  unfold sHp
  by_cases z : q % 2 = c ∧ 0 ≤ q / 2 ∧ q / 2 < n
  · rw [if_pos z, if_pos z]
    by_cases ea : a = 0
    · rw [if_pos ea, if_pos ea, sLd_congr h2 (n - q / 2) (by omega)]
    · rw [if_neg ea, if_neg ea, hq _ (by omega)]
  · rw [if_neg z, if_neg z, hq a ha]
set_option maxHeartbeats 2000000 in
theorem r_240 {n c E v gO gr lo hi m1 m2 : Nat} {be : Bool} {l3 : Int32} {D g w ba gu rf sf : Nat → Int32} {M : Nat → Nat} {L1 L2 : List Nat} (hc : c < 2) (hn : n ≤ 8) (hv : v < 2147483648) (hgr : gr < 2147483648) (hl3 : l3 = rsN be v) (hlo : lo ≤ v) (hhi : v ≤ hi) (hhE : hi ≤ lo + 65535) (hR1 : RB L1 m1 rf) (hR2 : RB L2 m2 sf) : ∃ w' g' rf' sf' : Nat → Int32, (∀ q, q < 16 → w' q = sWp ba gu D w (rsN be (nrN lo hi)) n c 0 q) ∧ (∀ q a, q < 16 → a < 8 → g' (8 * q + a) = sHp gu (hR g) (rsN be (nrN lo hi)) n c 0 q a) ∧ RB (L1 ++ [if be = true then 1 else 0]) (m1 + 1) rf' ∧ RB (L2 ++ bitsT (lN (v - lo)) (lN (hi - lo + 1)) (Nat.log2 (hi - lo + 1))) (m2 + (bitsT (lN (v - lo)) (lN (hi - lo + 1)) (Nat.log2 (hi - lo + 1))).length) sf' ∧ ∀ (β : Type) (K : Int64 → Nat → Nat → Nat → Nat → Int32 → (Nat → Int32) → (Nat → Int32) → (Nat → Int32) → (Nat → Int32) → (Nat → Nat) → (Nat → Int32) → (Nat → Int32) → β), jf_wr_X11_codes_240 n D c l3 v (lN gO) lo hi m1 m2 (nI gr) g w ba gu M rf sf β K = K (lN gO) lo hi (m1 + 1) (m2 + (bitsT (lN (v - lo)) (lN (hi - lo + 1)) (Nat.log2 (hi - lo + 1))).length) (nI (max gr (dsN v (nrN lo hi)))) w' g' ba gu M rf' sf' := by
  obtain ⟨sf', hs1, hs2⟩ := r_putT (a := hi - lo + 1) (v := lN (v - lo)) (by omega) (by omega) hR2
  obtain ⟨w', g', a1, a2, a3⟩ := r_learns (gu := gu) (ba := ba) (D := D) (w := w) (g := g) (re := rsN be (nrN lo hi)) hc hn
  have hb := RB_bit (x := if be = true then 1 else 0) hR1 (by cases be <;> decide)
  have hnr : nrN lo hi < 2147483648 := by unfold nrN; omega
  have hd : dsN v (nrN lo hi) < 2147483648 := by unfold dsN; split <;> omega
  refine ⟨w', g', _, sf', a1, a2, hb, hs1, fun β K => ?_⟩
  have e1 : lN v - lN lo = lN (v - lo) := lN_sub hlo
  have eoff : ∀ (F : Int32 → β), (if lg_cmp (lN v) (lN (nrN lo hi)) ≤ 0 then fnL (Int64.toInt32 (lN (nrN lo hi) - lN v)) F else fnL (Int64.toInt32 (lN v - lN (nrN lo hi))) F) = F (nI (dsN v (nrN lo hi))) := fun F => by
    unfold dsN
    rw [fnL_b, fnL_b]
    by_cases h : v ≤ nrN lo hi
    · rw [if_pos ((lc_le (a := v) (b := nrN lo hi) (by omega) (by omega)).mpr h), if_pos h, lN_sub h, lN_i]
    · rw [if_neg (fun q => h ((lc_le (a := v) (b := nrN lo hi) (by omega) (by omega)).mp q)), if_neg h, lN_sub (by omega), lN_i]
  rw [jf_wr_X11_codes_240_s, e1]
  obtain ⟨p1, p2⟩ := rest_eq hv hl3
  cases be
  · rw [if_pos (p1 rfl), fn_wr_X11_bit_s, hs2, r_middle (by omega), lN_i]
    refine (eoff (fun x => (if x ≤ nI gr then fn_wr_X11_learns n gu ba w D g c (nI (nrN lo hi)) β (fun zw zg _ => K (lN gO) lo hi (m1 + 1) _ (nI gr) zw zg ba gu M _ sf') else fn_wr_X11_learns n gu ba w D g c (nI (nrN lo hi)) β (fun zw zg _ => K (lN gO) lo hi (m1 + 1) _ x zw zg ba gu M _ sf')))).trans ?_
    refine (max_if hgr hd (F := fun x => fn_wr_X11_learns n gu ba w D g c (nI (nrN lo hi)) β (fun zw zg _ => K (lN gO) lo hi (m1 + 1) _ x zw zg ba gu M _ sf'))).trans ?_
    exact a3 β _
  · rw [if_neg (p2 rfl), fn_wr_X11_bit_s, hs2, r_middle (by omega), t32_neg]
    refine (eoff (fun x => (if x ≤ nI gr then fn_wr_X11_learns n gu ba w D g c (-1 - nI (nrN lo hi)) β (fun zw zg _ => K (lN gO) lo hi (m1 + 1) _ (nI gr) zw zg ba gu M _ sf') else fn_wr_X11_learns n gu ba w D g c (-1 - nI (nrN lo hi)) β (fun zw zg _ => K (lN gO) lo hi (m1 + 1) _ x zw zg ba gu M _ sf')))).trans ?_
    refine (max_if hgr hd (F := fun x => fn_wr_X11_learns n gu ba w D g c (-1 - nI (nrN lo hi)) β (fun zw zg _ => K (lN gO) lo hi (m1 + 1) _ x zw zg ba gu M _ sf'))).trans ?_
    exact a3 β _
set_option maxHeartbeats 2000000 in
theorem r_codes {n nch c E v gO gr m1 m2 : Nat} {be : Bool} {va : Int32} {T D g w ba gu rf sf : Nat → Int32} {M : Nat → Nat} {L1 L2 : List Nat} (hc : c < 2) (hn : n ≤ 8) (hv : v < 2147483648) (hgO : gO < 2147483648) (hgr : gr < 2147483648) (hE : E ≤ 65535) (hB : MB M) (hre : va - sSum (sGf nch T w (hR g) c) n = rsN be v) (hR1 : RB L1 m1 rf) (hR2 : RB L2 m2 sf) : ∃ w' g' ba' gu' rf' sf' : Nat → Int32, (∀ q, q < 16 → w' q = sWp (sBf nch T (hR g) c) (sGf nch T w (hR g) c) D w (rsN be (rN M c E v)) n c 0 q) ∧ (∀ q a, q < 16 → a < 8 → g' (8 * q + a) = sHp (sGf nch T w (hR g) c) (hR g) (rsN be (rN M c E v)) n c 0 q a) ∧ RB (L1 ++ rB1 M c E v be) (m1 + (rB1 M c E v be).length) rf' ∧ RB (L2 ++ rB2 M c E v) (m2 + (rB2 M c E v).length) sf' ∧ ∀ (β : Type) (K : Int64 → Nat → Nat → Nat → Nat → Int32 → (Nat → Int32) → (Nat → Int32) → (Nat → Int32) → (Nat → Int32) → (Nat → Nat) → (Nat → Int32) → (Nat → Int32) → β), fn_wr_X11_codes n nch (lN gO) m1 m2 E (nI gr) T g w ba gu D M rf sf c va β K = K (lN (max gO (onesN M c v))) (hvR M c E v).2.1 (hvR M c E v).2.2 (m1 + (rB1 M c E v be).length) (m2 + (rB2 M c E v).length) (nI (max gr (dsN v (rN M c E v)))) w' g' ba' gu' (mvM M c (onesN M c v)) rf' sf' := by
  obtain ⟨q1, q2, q3⟩ := ones_lo hc hB hv
  have q4 := hi_lo (c := c) (on := onesN M c v) hc hB
  have q5 := lo_hi (M := M) (c := c) (on := onesN M c v)
  have q6 := ones_lt (M := M) (c := c) hv
  obtain ⟨z1, z2, z3, z4, z5, z6⟩ := hvR_ok (E := E) hc hB hv
  obtain ⟨ba', gu', a1, a2, a3⟩ := r_foretells (nch := nch) (c := c) (T := T) (g := g) (w := w) (ba := ba) (gu := gu) hn
  obtain ⟨rf1, b1, b2⟩ := r_onB (on := onesN M c v) q6 hR1
  obtain ⟨rf2, c1, c2⟩ := r_hv (E := E) (v := v) 32 (hiN M c (onesN M c v) - loN M c (onesN M c v) + 1) (loN M c (onesN M c v)) (hiN M c (onesN M c v)) (L1 ++ onB (onesN M c v)) (m1 + (onB (onesN M c v)).length) rf1 q5 (by omega) (by omega) b1
  obtain ⟨w', g', rf', sf', d1, d2, d3, d4, d5⟩ := r_240 (n := n) (c := c) (E := E) (v := v) (gO := max gO (onesN M c v)) (gr := gr) (lo := (hvR M c E v).2.1) (hi := (hvR M c E v).2.2) (be := be) (l3 := va - sSum (sGf nch T w (hR g) c) n) (D := D) (g := g) (w := w) (ba := ba') (gu := gu') (M := mvM M c (onesN M c v)) hc hn hv hgr hre z1 z2 (by omega) c1 hR2
  refine ⟨w', g', ba', gu', rf', sf', fun q hq => ?_, fun q a hq ha => ?_, ?_, d4, fun β K => ?_⟩
  · rw [d1 q hq]
    exact sWp_congr a1 a2 (fun _ _ => rfl) rfl
  · rw [d2 q a hq ha]
    exact sHp_congr a2 (fun _ _ => rfl) ha
  · have e : m1 + (rB1 M c E v be).length = m1 + (onB (onesN M c v)).length + (hvR M c E v).1.length + 1 := by
      unfold rB1
      rw [List.length_append, List.length_append]
      show m1 + (_ + _ + 1) = _
      omega
    rw [e]
    unfold rB1
    rw [← List.append_assoc, ← List.append_assoc]
    exact d3
  · have e : m1 + (rB1 M c E v be).length = m1 + (onB (onesN M c v)).length + (hvR M c E v).1.length + 1 := by
      unfold rB1
      rw [List.length_append, List.length_append]
      show m1 + (_ + _ + 1) = _
      omega
    rw [e, fn_wr_X11_codes_s, a3]
    have E96 : jf_wr_X11_codes_96 n m1 m2 E (nI gr) g w D rf sf c (va - sSum (sGf nch T w (hR g) c) n) v (lN (max gO (onesN M c v))) (loN M c (onesN M c v)) (hiN M c (onesN M c v)) ba' gu' (mvM M c (onesN M c v)) (onesN M c v) β K = K (lN (max gO (onesN M c v))) (hvR M c E v).2.1 (hvR M c E v).2.2 (m1 + (onB (onesN M c v)).length + (hvR M c E v).1.length + 1) (m2 + (rB2 M c E v).length) (nI (max gr (dsN v (rN M c E v)))) w' g' ba' gu' (mvM M c (onesN M c v)) rf' sf' := by
      rw [jf_wr_X11_codes_96_s]
      refine (b2 β (fun a b => lf_wr_X11_codes_153 E v β (fun x1 x2 x3 x4 => jf_wr_X11_codes_240 n D c (va - sSum (sGf nch T w (hR g) c) n) v (lN (max gO (onesN M c v))) x1 x2 x3 m2 (nI gr) g w ba' gu' (mvM M c (onesN M c v)) x4 sf β K) ((hiN M c (onesN M c v) - loN M c (onesN M c v)) + 1) (loN M c (onesN M c v)) (hiN M c (onesN M c v)) a b)).trans ?_
      refine (c2 β _).trans ?_
      exact d5 β K
    have E25 : jf_wr_X11_codes_25 n (lN gO) m1 m2 E (nI gr) g w D M rf sf c (va - sSum (sGf nch T w (hR g) c) n) v ba' gu' β K = K (lN (max gO (onesN M c v))) (hvR M c E v).2.1 (hvR M c E v).2.2 (m1 + (onB (onesN M c v)).length + (hvR M c E v).1.length + 1) (m2 + (rB2 M c E v).length) (nI (max gr (dsN v (rN M c E v)))) w' g' ba' gu' (mvM M c (onesN M c v)) rf' sf' := by
      rw [jf_wr_X11_codes_25_s]
      have eM : (if loN M c (onesN M c v) ≤ 2147483647 then mvM M c (onesN M c v) else M) = mvM M c (onesN M c v) := if_pos (by omega)
      refine Eq.trans ?_ E96
      have hon : onesN M c v = if v < shN M c 0 then 0 else if v < shN M c 0 + shN M c 1 then 1 else 2 + (v - shN M c 0 - shN M c 1) / shN M c 2 := rfl
      by_cases x1 : shN M c 0 ≤ v
      · refine (if_pos x1).trans ?_
        rw [if_neg (by omega)] at hon
        by_cases x2 : shN M c 0 + shN M c 1 ≤ v
        · refine (if_pos x2).trans ?_
          rw [if_neg (by omega)] at hon
          repeat rw [fnL_b]
          show fn_wr_X11_bounds (lN gO) M c (2 + (v - shN M c 0 - shN M c 1) / shN M c 2) β (fun z27 z28 z29 z24 => jf_wr_X11_codes_96 n m1 m2 E (nI gr) g w D rf sf c (va - sSum (sGf nch T w (hR g) c) n) v z27 z28 z29 ba' gu' z24 (2 + (v - shN M c 0 - shN M c 1) / shN M c 2) β K) = _
          rw [← hon, r_bounds, eM, goN_max hgO q6]
        · refine (if_neg x2).trans ?_
          rw [if_pos (by omega)] at hon
          show fn_wr_X11_bounds (lN gO) M c 1 β (fun z27 z28 z29 z24 => jf_wr_X11_codes_96 n m1 m2 E (nI gr) g w D rf sf c (va - sSum (sGf nch T w (hR g) c) n) v z27 z28 z29 ba' gu' z24 1 β K) = _
          rw [← hon, r_bounds, eM, goN_max hgO q6]
      · refine (if_neg x1).trans ?_
        rw [if_pos (by omega)] at hon
        show fn_wr_X11_bounds (lN gO) M c 0 β (fun z27 z28 z29 z24 => jf_wr_X11_codes_96 n m1 m2 E (nI gr) g w D rf sf c (va - sSum (sGf nch T w (hR g) c) n) v z27 z28 z29 ba' gu' z24 0 β K) = _
        rw [← hon, r_bounds, eM, goN_max hgO q6]
    rw [hre] at E25 ⊢
    obtain ⟨p1, p2⟩ := rest_eq hv (rfl : rsN be v = rsN be v)
    cases be
    · rw [if_pos (p1 rfl)]
      repeat rw [fnL_b]
      rw [show (Int64.toInt (Int32.toInt64 (rsN false v))).toNat = v by show (Int64.toInt (Int32.toInt64 (nI v))).toNat = v; rw [nI_l hv]; exact lN_tn (by omega)]
      exact E25
    · rw [if_neg (p2 rfl)]
      repeat rw [fnL_b]
      rw [show (Int64.toInt ((-1) - Int32.toInt64 (rsN true v))).toNat = v by show (Int64.toInt ((-1) - Int32.toInt64 (-1 - nI v))).toNat = v; rw [rs_l hv]; exact lN_tn (by omega)]
      exact E25
