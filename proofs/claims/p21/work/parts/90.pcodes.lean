/-! A REST: what is written; both sides -/
def onB (on : Nat) : List Nat := if on < 16 then List.replicate on 1 ++ [0] else List.replicate 16 1 ++ bitsG (on - 15)
def hvR (M : Nat → Nat) (c E v : Nat) : List Nat × Nat × Nat := hvN E v 32 (loN M c (onesN M c v)) (hiN M c (onesN M c v))
def rB1 (M : Nat → Nat) (c E v : Nat) (be : Bool) : List Nat := onB (onesN M c v) ++ (hvR M c E v).1 ++ [if be = true then 1 else 0]
def rT (M : Nat → Nat) (c E v : Nat) : Nat := (hvR M c E v).2.2 - (hvR M c E v).2.1 + 1
def rB2 (M : Nat → Nat) (c E v : Nat) : List Nat := bitsT (lN (v - (hvR M c E v).2.1)) (lN (rT M c E v)) (Nat.log2 (rT M c E v))
def rN (M : Nat → Nat) (c E v : Nat) : Nat := nrN (hvR M c E v).2.1 (hvR M c E v).2.2
theorem hvR_ok {M : Nat → Nat} {c E v : Nat} (hc : c < 2) (hB : MB M) (hv : v < 2147483648) : (hvR M c E v).2.1 ≤ v ∧ v ≤ (hvR M c E v).2.2 ∧ (hvR M c E v).2.2 ≤ (hvR M c E v).2.1 + E ∧ (hvR M c E v).2.2 ≤ 4647483648 ∧ (hvR M c E v).1.length ≤ 32 ∧ b01 (hvR M c E v).1 := by
  obtain ⟨h1, h2, h3⟩ := ones_lo hc hB hv
  have h4 := hi_lo (c := c) (on := onesN M c v) hc hB
  obtain ⟨a1, a2, a3, a4, a5, a6⟩ := hv_ok (E := E) (v := v) 32 (loN M c (onesN M c v)) (hiN M c (onesN M c v)) h1 h2 (by omega)
  exact ⟨a1, a2, a3, Nat.le_trans a4 (by omega), a5, a6⟩
theorem lmax {a b : Nat} (ha : a < 2147483648) (hb : b < 2147483648) : Int64.toInt32 (if (if 2147483647 < lN b then 2147483647 else lN b) < Int32.toInt64 (nI a) then Int32.toInt64 (nI a) else (if 2147483647 < lN b then 2147483647 else lN b)) = nI (max a b) := by
  rw [nI_l ha, if_neg (show ¬ (2147483647 : Int64) < lN b from fun q => by have := (pk_lLT (a := 2147483647) (b := b) (by omega) (by omega)).mp q; omega)]
  by_cases h : b < a
  · rw [if_pos ((pk_lLT (a := b) (b := a) (by omega) (by omega)).mpr h), lN_i, show max a b = a by omega]
  · rw [if_neg (fun q => h ((pk_lLT (a := b) (b := a) (by omega) (by omega)).mp q)), lN_i, show max a b = b by omega]
theorem c_noteOnes {a b : Nat} (ha : a < 2147483648) (hb : b < 2147483648) {β : Type} {K : Int32 → β} : fn_wk_X9_noteOnes (nI a) (lN b) β K = K (nI (max a b)) := by
  rw [fn_wk_X9_noteOnes_s, lmax ha hb]
  rfl
theorem ones_lt {M : Nat → Nat} {c v : Nat} (hv : v < 2147483648) : onesN M c v < 2147483648 := by
  unfold onesN
  have hA : 1 ≤ shN M c 0 := by unfold shN; omega
  have hBb : 1 ≤ shN M c 1 := by unfold shN; omega
  split
  · omega
  · split
    · omega
    · have := Nat.div_le_self (v - shN M c 0 - shN M c 1) (shN M c 2)
      omega
theorem hv64 {E v lo hi : Nat} (h : hi - lo < 2 ^ 32) : hvN E v 64 lo hi = hvN E v 32 lo hi := hv_fuel 32 64 lo hi h (by omega)
set_option maxHeartbeats 2000000 in
theorem c_writeRest {c E v g h1 h2 : Nat} {be : Bool} {re : Int32} {M : Nat → Nat} {mi : Nat → Int64} {L1 L2 : List Nat} {o1 u1 t1 o2 u2 t2 : Int32} {f1 f2 : Nat → Int32} (hc : c < 2) (hE : E < 2147483648) (hv : v < 2147483648) (hg : g < 2147483648) (hre : re = rsN be v) (hM : MR mi M) (hB : MB M) (hW1 : BW h1 L1 o1 u1 t1 f1) (hW2 : BW h2 L2 o2 u2 t2 f2) (hN1 : h1 + (L1.length + 70 + (rB1 M c E v be).length) / 8 ≤ 9600) (hN2 : h2 + (L2.length + Nat.log2 (rT M c E v) + 1) / 8 ≤ 2450) : ∃ (o1' u1' t1' : Int32) (f1' : Nat → Int32) (o2' u2' t2' : Int32) (f2' : Nat → Int32) (mi' : Nat → Int64), BW h1 (L1 ++ rB1 M c E v be) o1' u1' t1' f1' ∧ (∀ j, j < h1 → nb f1' j = nb f1 j) ∧ BW h2 (L2 ++ rB2 M c E v) o2' u2' t2' f2' ∧ (∀ j, j < h2 → nb f2' j = nb f2 j) ∧ MR mi' (mvM M c (onesN M c v)) ∧ ∀ (β : Type) (K : Int32 → (Nat → Int32) → Int32 → (Nat → Int32) → Int32 → Int32 → Int32 → Int32 → Int32 → Int64 → Int64 → (Nat → Int64) → Int32 → β), fn_wk_X4_writeRest (nI E) t1 f1 t2 f2 o1 u1 o2 u2 (nI g) mi (nI c) re β K = K t1' f1' t2' f2' o1' u1' o2' u2' (nI (max g (onesN M c v))) (lN (hvR M c E v).2.1) (lN (hvR M c E v).2.2) mi' (rsN be (rN M c E v)) := by
  obtain ⟨q1, q2, q3⟩ := ones_lo hc hB hv
  have q4 := hi_lo (c := c) (on := onesN M c v) hc hB
  have q5 := lo_hi (M := M) (c := c) (on := onesN M c v)
  have q6 := ones_lt (M := M) (c := c) hv
  obtain ⟨z1, z2, z3, z4, z5, z6⟩ := hvR_ok (E := E) hc hB hv
  have lB1 : (rB1 M c E v be).length = (onB (onesN M c v)).length + (hvR M c E v).1.length + 1 := by
    unfold rB1
    rw [List.length_append, List.length_append]
    rfl
  rw [lB1] at hN1
  -- ONES
  have hON : ∃ (o' u' t' : Int32) (f' : Nat → Int32), BW h1 (L1 ++ onB (onesN M c v)) o' u' t' f' ∧ (∀ j, j < h1 → nb f' j = nb f1 j) ∧ ∀ (β : Type) (K : Int32 → Int32 → Int32 → (Nat → Int32) → β), fn_wk_X1_writeOnes 9600 o1 u1 t1 f1 (lN (onesN M c v)) β (fun a b d e => if lg_cmp (lN (onesN M c v)) 16 < 0 then K a b d e else fn_wk_X1_writeG 9600 a b d e (lN (onesN M c v) - 15) β K) = K o' u' t' f' := by
    obtain ⟨o, u, t, f, a1, a2, a3⟩ := c_writeOnes (N := 9600) (on := onesN M c v) (by omega) (by omega) hW1 (by omega)
    by_cases h16 : onesN M c v < 16
    · rw [if_pos h16] at a1
      refine ⟨o, u, t, f, by unfold onB; rw [if_pos h16]; exact a1, a2, fun β K => ?_⟩
      rw [a3, if_pos (show lg_cmp (lN (onesN M c v)) (16 : Int64) < 0 from (lc_lt (a := onesN M c v) (b := 16) (by omega) (by omega)).mpr h16)]
    · rw [if_neg h16] at a1
      have e15 : lN (onesN M c v) - 15 = lN (onesN M c v - 15) := lN_sub (a := onesN M c v) (b := 15) (by omega)
      obtain ⟨o', u', t', f', b1, b2, b3⟩ := c_writeG (N := 9600) (a := onesN M c v - 15) (by omega) (by omega) (by omega) a1 (by rw [List.length_append, List.length_replicate]; unfold onB at hN1; rw [if_neg h16, List.length_append, List.length_replicate] at hN1; omega)
      refine ⟨o', u', t', f', by unfold onB; rw [if_neg h16, ← List.append_assoc]; exact b1, fun j hj => (b2 j hj).trans (a2 j hj), fun β K => ?_⟩
      rw [a3, if_neg (show ¬ lg_cmp (lN (onesN M c v)) (16 : Int64) < 0 from fun q => h16 ((lc_lt (a := onesN M c v) (b := 16) (by omega) (by omega)).mp q)), e15, b3]
  obtain ⟨o3, u3, t3, f3, hB3, hk3, hs3⟩ := hON
  obtain ⟨mi', hMi, hsM⟩ := c_bound (on := onesN M c v) hc q3 hM hB
  -- halving, the sign
  have hHV : ∀ (l3 : Int32) (l8 : Int64), ∃ (o' u' t' : Int32) (f' : Nat → Int32) (i' : Int32), BW h1 (L1 ++ onB (onesN M c v) ++ (hvR M c E v).1) o' u' t' f' ∧ (∀ j, j < h1 → nb f' j = nb f3 j) ∧ ∀ (β : Type) (kx : Int32 → (Nat → Int32) → Int32 → (Nat → Int32) → Int32 → Int32 → Int32 → Int32 → Int32 → Int64 → Int64 → (Nat → Int64) → Int32 → Int32 → Int32 → Int64 → Int64 → Int32 → β), lf_wk_X4_writeRest_93 (nI E) β kx 65 t3 f3 t2 f2 o3 u3 o2 u2 (nI (max g (onesN M c v))) (lN (loN M c (onesN M c v))) (lN (hiN M c (onesN M c v))) mi' (nI c) re l3 (lN v) l8 0 = kx t' f' t2 f2 o' u' o2 u2 (nI (max g (onesN M c v))) (lN (hvR M c E v).2.1) (lN (hvR M c E v).2.2) mi' (nI c) re l3 (lN v) l8 i' := fun l3 l8 => by
    have h64 := hv64 (E := E) (v := v) (lo := loN M c (onesN M c v)) (hi := hiN M c (onesN M c v)) (by omega)
    have := c_hv (E := E) (v := v) (h0 := h1) hE hv (se := t2) (b21 := o2) (b22 := u2) (w10 := nI (max g (onesN M c v))) (l2 := nI c) (l3 := re) (l5 := l3) (sea := f2) (mi := mi') (l8 := l8) 64 65 0 (loN M c (onesN M c v)) (hiN M c (onesN M c v)) (L1 ++ onB (onesN M c v)) o3 u3 t3 f3 (by omega) (by omega) q5 (by omega) hB3 (by rw [h64, List.length_append]; show h1 + (_ + (hvR M c E v).1.length) / 8 ≤ 9600; omega)
    rw [h64] at this
    exact this
  -- the end
  have hEnd : ∀ (o u t : Int32) (f : Nat → Int32), BW h1 (L1 ++ onB (onesN M c v) ++ (hvR M c E v).1) o u t f → ∃ (o1' u1' t1' : Int32) (f1' : Nat → Int32) (o2' u2' t2' : Int32) (f2' : Nat → Int32), BW h1 (L1 ++ rB1 M c E v be) o1' u1' t1' f1' ∧ (∀ j, j < h1 → nb f1' j = nb f j) ∧ BW h2 (L2 ++ rB2 M c E v) o2' u2' t2' f2' ∧ (∀ j, j < h2 → nb f2' j = nb f2 j) ∧ ∀ (β : Type) (K : Int32 → (Nat → Int32) → Int32 → (Nat → Int32) → Int32 → Int32 → Int32 → Int32 → Int32 → β), (fn_wk_X1_writeBits 9600 o u t f (if be = true then 1 else 0) 1 β (fun a b d e => fn_wk_X1_writeT 2450 o2 u2 t2 f2 (lN v - lN (hvR M c E v).2.1) ((lN (hvR M c E v).2.2 - lN (hvR M c E v).2.1) + 1) β (fun a2 b2 d2 e2 => fn_wk_X5_near (lN (hvR M c E v).2.1) (lN (hvR M c E v).2.2) (if be = true then 1 else 0) β (fun zr => K d e d2 e2 a b a2 b2 zr)))) = K t1' f1' t2' f2' o1' u1' o2' u2' (rsN be (rN M c E v)) := fun o u t f hBB => by
    obtain ⟨oa, ua, ta, fa, a1, a2, a3⟩ := c_writeBits (N := 9600) (v := if be = true then 1 else 0) (n := 1) (by omega) (by omega) hBB (by rw [List.length_append, List.length_append]; omega)
    have eb : bitsOf (if be = true then 1 else 0) 1 = [if be = true then 1 else 0] := by cases be <;> decide +kernel
    rw [eb] at a1
    have hT0 : rT M c E v ≠ 0 := by unfold rT; omega
    have hT1 : rT M c E v < 2 ^ 62 := by unfold rT; omega
    obtain ⟨ob, ub, tb, fb, b1, b2, b3⟩ := c_writeT (N := 2450) (a := rT M c E v) (v := lN (v - (hvR M c E v).2.1)) (by omega) hT0 hT1 hW2 hN2
    refine ⟨oa, ua, ta, fa, ob, ub, tb, fb, ?_, a2, b1, b2, fun β K => ?_⟩
    · unfold rB1
      rw [List.append_assoc, List.append_assoc] at a1
      rw [List.append_assoc, ← List.append_assoc] at *
      simpa [List.append_assoc] using a1
    · refine (a3 β _).trans ?_
      have e1 : lN v - lN (hvR M c E v).2.1 = lN (v - (hvR M c E v).2.1) := lN_sub z1
      have e2 : (lN (hvR M c E v).2.2 - lN (hvR M c E v).2.1) + 1 = lN (rT M c E v) := by
        rw [lN_sub (by omega), lN_1]
        rfl
      rw [e1, e2, b3, c_near (by omega) be rfl]
      rfl
  cases be
  · -- not below 0
    obtain ⟨o4, u4, t4, f4, i4, hB4, hk4, hs4⟩ := hHV 0 (lN (onesN M c v))
    obtain ⟨oa, ua, ta, fa, ob, ub, tb, fb, e1, e2, e3, e4, e5⟩ := hEnd o4 u4 t4 f4 hB4
    refine ⟨oa, ua, ta, fa, ob, ub, tb, fb, mi', e1, fun j hj => (e2 j hj).trans ((hk4 j hj).trans (hk3 j hj)), e3, e4, hMi, fun β K => ?_⟩
    have hre' : re = nI v := hre
    rw [fn_wk_X4_writeRest_s, if_pos (by rw [hre']; exact nI_pos' hv), show Int32.toInt64 re = lN v by rw [hre']; exact nI_l hv, c_ones hc hv hM hB, c_noteOnes hg q6, show ((Int32.toInt 64 - Int32.toInt 0).toNat + 1) = 65 from by decide]
    refine (hs3 β (fun a b d e => fn_wk_X5_bound mi (nI c) (lN (onesN M c v)) β (fun x y z => lf_wk_X4_writeRest_93 (nI E) β (fun y1 y2 y3 y4 y5 y6 y7 y8 y9 y10 y11 y12 y13 y14 y15 y16 y17 y18 => (if y15 = 0 then (fn_wk_X1_writeBits 9600 y5 y6 y1 y2 0 1 β (fun a b d e => (fn_wk_X1_writeT 2450 y7 y8 y3 y4 (y16 - y10) ((y11 - y10) + 1) β (fun a2 b2 d2 e2 => (fn_wk_X5_near y10 y11 y15 β (fun zr => (K d e d2 e2 a b a2 b2 y9 y10 y11 y12 zr))))))) else (fn_wk_X1_writeBits 9600 y5 y6 y1 y2 1 1 β (fun a b d e => (fn_wk_X1_writeT 2450 y7 y8 y3 y4 (y16 - y10) ((y11 - y10) + 1) β (fun a2 b2 d2 e2 => (fn_wk_X5_near y10 y11 y15 β (fun zr => (K d e d2 e2 a b a2 b2 y9 y10 y11 y12 zr))))))))) 65 d e t2 f2 a b o2 u2 (nI (max g (onesN M c v))) x y z (nI c) re 0 (lN v) (lN (onesN M c v)) 0))).trans ?_
    rw [hsM, hs4]
    exact (if_pos rfl).trans (e5 β (fun a1 a2 a3 a4 a5 a6 a7 a8 zr => K a1 a2 a3 a4 a5 a6 a7 a8 _ _ _ _ zr))
  · obtain ⟨o4, u4, t4, f4, i4, hB4, hk4, hs4⟩ := hHV 1 (lN (onesN M c v))
    obtain ⟨oa, ua, ta, fa, ob, ub, tb, fb, e1, e2, e3, e4, e5⟩ := hEnd o4 u4 t4 f4 hB4
    refine ⟨oa, ua, ta, fa, ob, ub, tb, fb, mi', e1, fun j hj => (e2 j hj).trans ((hk4 j hj).trans (hk3 j hj)), e3, e4, hMi, fun β K => ?_⟩
    have hre' : re = -1 - nI v := hre
    rw [fn_wk_X4_writeRest_s, if_neg (by rw [hre']; exact rs_neg hv), show (-1) - Int32.toInt64 re = lN v by rw [hre']; exact rs_l hv, c_ones hc hv hM hB, c_noteOnes hg q6, show ((Int32.toInt 64 - Int32.toInt 0).toNat + 1) = 65 from by decide]
    refine (hs3 β (fun a b d e => fn_wk_X5_bound mi (nI c) (lN (onesN M c v)) β (fun x y z => lf_wk_X4_writeRest_93 (nI E) β (fun y1 y2 y3 y4 y5 y6 y7 y8 y9 y10 y11 y12 y13 y14 y15 y16 y17 y18 => (if y15 = 0 then (fn_wk_X1_writeBits 9600 y5 y6 y1 y2 0 1 β (fun a b d e => (fn_wk_X1_writeT 2450 y7 y8 y3 y4 (y16 - y10) ((y11 - y10) + 1) β (fun a2 b2 d2 e2 => (fn_wk_X5_near y10 y11 y15 β (fun zr => (K d e d2 e2 a b a2 b2 y9 y10 y11 y12 zr))))))) else (fn_wk_X1_writeBits 9600 y5 y6 y1 y2 1 1 β (fun a b d e => (fn_wk_X1_writeT 2450 y7 y8 y3 y4 (y16 - y10) ((y11 - y10) + 1) β (fun a2 b2 d2 e2 => (fn_wk_X5_near y10 y11 y15 β (fun zr => (K d e d2 e2 a b a2 b2 y9 y10 y11 y12 zr))))))))) 65 d e t2 f2 a b o2 u2 (nI (max g (onesN M c v))) x y z (nI c) re 1 (lN v) (lN (onesN M c v)) 0))).trans ?_
    rw [hsM, hs4]
    exact (if_neg (by decide)).trans (e5 β (fun a1 a2 a3 a4 a5 a6 a7 a8 zr => K a1 a2 a3 a4 a5 a6 a7 a8 _ _ _ _ zr))
