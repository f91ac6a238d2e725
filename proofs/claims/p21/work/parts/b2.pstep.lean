/-! one REST read: both sides -/
theorem vp_b1 : vp_nar .boolean 1 = 1 := rfl
theorem vp_b0 : vp_nar .boolean 0 = 0 := rfl
theorem c_putRead {i : Nat} {sv sr sp : Nat → Int32} {sl : Nat → Int64} {va re : Int32} {lo hi : Nat} (h : i < 1200) (hlh : lo ≤ hi) {β : Type} {K : (Nat → Int32) → (Nat → Int32) → (Nat → Int64) → (Nat → Int32) → β} : fn_wk_X8_putRead sv sr sl sp (nI i) va re (lN lo) (lN hi) β K = K (upd sv i va) (upd sr i re) (vp_updL sl i (lN lo)) (upd sp i (nI (hi - lo + 1))) := by
  rw [fn_wk_X8_putRead_s, if_neg (has1 h), nI_clamp (by omega), lN_sub hlh, lN_1, lN_i]
/-- the class's reading of the bounds, against the reference's -/
theorem rs_bd {p q k c E w10 : Nat} {f g : Nat → Int32} {M : Nat → Nat} {mi : Nat → Int64} {md1 md2 : Int64} (hq : q ≤ 48000) (hpq : p ≤ q) (hfg : ∀ j, j < k → nb f j = nb g j) (hk : q ≤ 8 * k) (hc : c < 2) (hE : E ≤ 65535) (hM : MR mi M) (hB : MB M) (hw : w10 < 2147483648) : (∃ (p' on lo hi : Nat) (x : Nat) (mi' : Nat → Int64), p ≤ p' ∧ p' < q ∧ on ≤ 2147483647 ∧ loN M c on ≤ 2147483647 ∧ loN M c on ≤ lo ∧ lo ≤ hi ∧ hi ≤ lo + E ∧ hi ≤ 4700000000 ∧ x ≤ 1 ∧ MR mi' (mvM M c on) ∧ (∀ (β : Type) (K : Int32 → Int32 → Int32 → Int64 → Int64 → (Nat → Int64) → Int32 → β), fn_wk_X3_readBounds f (nI q) (nI E) (nI p) 0 (nI w10) md1 md2 mi (nI c) β K = K (nI p') 0 (nI (max w10 on)) (lN lo) (lN hi) mi' 0) ∧ (∀ (β : Type) (K : Int32 → Int32 → Int64 → β), fn_wk_X0_readBits 6000 (nI q) f (nI p') 0 1 β K = K (nI (p' + 1)) 0 (lN x)) ∧ (∀ (β : Type) (K : Nat → Nat → Nat → β), fn_wr_X11_next p' q 0 g 4 β K = K (p' + 1) 0 x) ∧ (∃ p1, (∀ (β : Type) (J : Nat → Nat → Nat → β), lf_wr_X11_reads_9 q g β (fun a b l => (if l = 16 then (if b = 0 then (fn_wr_X11_nextG a q b g β (fun a' b' z => J a' b' (15 + z))) else J a b l) else J a b l)) ((16 - 0) + 1) p 0 0 = J p1 0 on) ∧ (∀ (β : Type) (kx : Nat → Nat → Nat → Nat → β), lf_wr_X11_reads_120 q E g β kx ((hiN M c on - loN M c on) + 1) (loN M c on) (hiN M c on) p1 0 = kx lo hi p' 0))) ∨ (∃ fa : Nat, (fa = 4 ∨ fa = 5) ∧ (∃ (b1 b3 w : Int32) (a b : Int64) (m : Nat → Int64), ((∀ (β : Type) (K : Int32 → Int32 → Int32 → Int64 → Int64 → (Nat → Int64) → Int32 → β), fn_wk_X3_readBounds f (nI q) (nI E) (nI p) 0 (nI w10) md1 md2 mi (nI c) β K = K b1 b3 w a b m (nI fa)) ∨ (fa = 4 ∧ (∀ (β : Type) (K : Int32 → Int32 → Int32 → Int64 → Int64 → (Nat → Int64) → Int32 → β), fn_wk_X3_readBounds f (nI q) (nI E) (nI p) 0 (nI w10) md1 md2 mi (nI c) β K = K b1 b3 w a b m 0) ∧ ∃ (c1 : Int32) (v : Int64), ∀ (β : Type) (K : Int32 → Int32 → Int64 → β), fn_wk_X0_readBits 6000 (nI q) f b1 b3 1 β K = K c1 1 v))) ∧ (∀ {n : Nat} {m27 : Int64} {m28 m29 ao : Nat} {r17 r18 r19 r47 r48 r41 r21 r20 : Nat → Int32} {r44 r45 r46 : Nat → Int64}, ∃ (b1 lo hi : Nat) (g27 : Int64) (M' : Nat → Nat) (r47' : Nat → Int32), ∀ (β : Type) (K : Nat → Nat → Nat → Nat → Int64 → (Nat → Int32) → (Nat → Int32) → (Nat → Int32) → (Nat → Int32) → (Nat → Nat) → (Nat → Int32) → (Nat → Int64) → (Nat → Int64) → (Nat → Int64) → (Nat → Int32) → (Nat → Int32) → β), lf_wr_X11_reads_9 q g β (fun a b l => (if l = 16 then (if b = 0 then (fn_wr_X11_nextG a q b g β (fun a' b' z => jf_wr_X11_reads_69 n m27 m28 m29 q E g r17 r18 r19 M r47 r44 r45 r46 r48 r41 c ao a' b' r21 r20 (15 + z) β K)) else jf_wr_X11_reads_69 n m27 m28 m29 q E g r17 r18 r19 M r47 r44 r45 r46 r48 r41 c ao a b r21 r20 l β K) else jf_wr_X11_reads_69 n m27 m28 m29 q E g r17 r18 r19 M r47 r44 r45 r46 r48 r41 c ao a b r21 r20 l β K)) ((16 - 0) + 1) p 0 0 = K b1 fa lo hi g27 r21 r20 r18 r19 M' r47' r44 r45 r46 r48 r41)) := by
  rcases rs_on (E := nI E) (w10 := nI w10) (c := nI c) (md1 := md1) (md2 := md2) (mi := mi) hq hpq hfg hk with ⟨p1, on, h1, h2, h3, c1, r1⟩ | ⟨c1, ⟨y, r1⟩⟩
  · by_cases hbig : on ≤ 2147483647
    · have e1 : (lg_cmp (lN on) 2147483647) ≤ 0 := (lc_le (a := on) (b := 2147483647) (by omega) (by omega)).mpr hbig
      obtain ⟨mi', hM', cb⟩ := c_bound (c := c) (on := on) hc (by omega) hM hB
      have hhl := hi_lo (M := M) (c := c) (on := on) hc hB
      have hll := lo_hi (M := M) (c := c) (on := on)
      by_cases hlo : loN M c on ≤ 2147483647
      · have e2 : (lg_cmp (lN (loN M c on)) 2147483647) ≤ 0 := (lc_le (a := loN M c on) (b := 2147483647) (by omega) (by omega)).mpr hlo
        have hfu : ((Int32.toInt 64 - Int32.toInt 0).toNat + 1) = 65 := by decide
        rcases rs_hv (w10 := nI (max w10 on)) (l2 := nI c) (mi := mi') (l4 := lN on) hq hfg hk (by omega : E < 2147483648) 64 65 ((hiN M c on - loN M c on) + 1) 0 (loN M c on) (hiN M c on) p1 (by omega) (by omega) (by omega) hll (by omega) (by omega) h2 with ⟨p', lo, hi, i', a1, a2, a3, a4, a5, a6, c2, r2⟩ | ⟨⟨a, b, i', c2⟩, ⟨a', b', r2⟩⟩
        · have hc1 : ∀ (β : Type) (K : Int32 → Int32 → Int32 → Int64 → Int64 → (Nat → Int64) → Int32 → β), fn_wk_X3_readBounds f (nI q) (nI E) (nI p) 0 (nI w10) md1 md2 mi (nI c) β K = K (nI p') 0 (nI (max w10 on)) (lN lo) (lN hi) mi' 0 := fun β K => by
            refine (c1 β K).trans ?_
            unfold cAO
            rw [if_pos e1]
            refine (cb β _).trans ?_
            rw [if_pos e2, c_noteOnes hw (by omega), hfu]
            refine (c2 β _).trans ?_
            rw [if_pos rfl]
          rcases rs_bit hq a2 hfg hk with ⟨hlt, x, hx, c3, r3⟩ | ⟨he, ⟨v, c3⟩, r3⟩
          · exact Or.inl ⟨p', on, lo, hi, x, mi', by omega, hlt, hbig, hlo, a3, a4, by omega, by omega, hx, hM', hc1, c3, r3, p1, r1, r2⟩
          · refine Or.inr ⟨4, Or.inl rfl, ⟨nI p', 0, nI (max w10 on), lN lo, lN hi, mi', Or.inr ⟨rfl, hc1, nI q, v, c3⟩⟩, fun {n m27 m28 m29 ao r17 r18 r19 r47 r48 r41 r21 r20 r44 r45 r46} => ⟨q, lo, hi, goN m27 on, mvM M c on, upd r47 ao 0, fun β K => ?_⟩⟩
            refine (r1 β (fun a' b' z => jf_wr_X11_reads_69 n m27 m28 m29 q E g r17 r18 r19 M r47 r44 r45 r46 r48 r41 c ao a' b' r21 r20 z β K)).trans ?_
            rw [jf_wr_X11_reads_69_s, if_pos (Nat.le_refl _), if_pos hbig, r_bounds, if_pos hlo, if_pos hlo]
            refine (r2 β _).trans ?_
            refine (r3 β _).trans ?_
            rw [if_neg (by omega), jf_wr_X11_reads_209_s, if_neg (by omega)]
            rfl
        · refine Or.inr ⟨4, Or.inl rfl, ⟨nI q, 1, nI (max w10 on), a, b, mi', Or.inl fun β K => ?_⟩, fun {n m27 m28 m29 ao r17 r18 r19 r47 r48 r41 r21 r20 r44 r45 r46} => ⟨q, a', b', goN m27 on, mvM M c on, upd r47 ao 0, fun β K => ?_⟩⟩
          · refine (c1 β K).trans ?_
            unfold cAO
            rw [if_pos e1]
            refine (cb β _).trans ?_
            rw [if_pos e2, c_noteOnes hw (by omega), hfu]
            refine (c2 β _).trans ?_
            rw [if_neg (by decide)]
            rfl
          · refine (r1 β (fun a' b' z => jf_wr_X11_reads_69 n m27 m28 m29 q E g r17 r18 r19 M r47 r44 r45 r46 r48 r41 c ao a' b' r21 r20 z β K)).trans ?_
            rw [jf_wr_X11_reads_69_s, if_pos (Nat.le_refl _), if_pos hbig, r_bounds, if_pos hlo, if_pos hlo]
            refine (r2 β _).trans ?_
            have r3 : ∀ (K : Nat → Nat → Nat → β), fn_wr_X11_next q q 4 g 4 β K = K q 4 0 := fun K => by
              rw [fn_wr_X11_next_s, if_pos rfl, fn_wr_X11_wrong_s, if_neg (by omega)]
            refine (r3 _).trans ?_
            rw [if_neg (by omega), jf_wr_X11_reads_209_s, if_neg (by omega)]
            rfl
      · have e2 : ¬ (lg_cmp (lN (loN M c on)) 2147483647) ≤ 0 := fun h => hlo ((lc_le (a := loN M c on) (b := 2147483647) (by
            have : (on - 2) * shN M c 2 ≤ 2147483648 * 2500000001 := Nat.mul_le_mul (by omega) (shN_le hc (by omega) hB).1
            have h0 := (shN_le (k := 0) hc (by omega) hB).1
            have h1 := (shN_le (k := 1) hc (by omega) hB).1
            unfold loN
            split
            · omega
            · split <;> omega) (by omega)).mp h)
        refine Or.inr ⟨5, Or.inr rfl, ⟨nI p1, 0, nI w10, lN (loN M c on), lN (hiN M c on), mi', Or.inl fun β K => ?_⟩, fun {n m27 m28 m29 ao r17 r18 r19 r47 r48 r41 r21 r20 r44 r45 r46} => ⟨p1, loN M c on, hiN M c on, goN m27 on, M, r47, fun β K => ?_⟩⟩
        · refine (c1 β K).trans ?_
          unfold cAO
          rw [if_pos e1]
          refine (cb β _).trans ?_
          rw [if_neg e2]
          rfl
        · refine (r1 β (fun a' b' z => jf_wr_X11_reads_69 n m27 m28 m29 q E g r17 r18 r19 M r47 r44 r45 r46 r48 r41 c ao a' b' r21 r20 z β K)).trans ?_
          rw [jf_wr_X11_reads_69_s, if_pos (Nat.le_refl _), if_pos hbig, r_bounds, if_neg hlo, if_neg hlo, fn_wr_X11_wrong_s, if_pos rfl]
    · have e1 : ¬ (lg_cmp (lN on) 2147483647) ≤ 0 := fun h => hbig ((lc_le (a := on) (b := 2147483647) (by omega) (by omega)).mp h)
      refine Or.inr ⟨5, Or.inr rfl, ⟨nI p1, 0, nI w10, md1, md2, mi, Or.inl fun β K => ?_⟩, fun {n m27 m28 m29 ao r17 r18 r19 r47 r48 r41 r21 r20 r44 r45 r46} => ⟨p1, m28, m29, m27, M, r47, fun β K => ?_⟩⟩
      · refine (c1 β K).trans ?_
        unfold cAO
        rw [if_neg e1]
        rfl
      · refine (r1 β (fun a' b' z => jf_wr_X11_reads_69 n m27 m28 m29 q E g r17 r18 r19 M r47 r44 r45 r46 r48 r41 c ao a' b' r21 r20 z β K)).trans ?_
        rw [jf_wr_X11_reads_69_s, if_pos (Nat.le_refl _), if_neg hbig, fn_wr_X11_wrong_s, if_pos rfl]
  · refine Or.inr ⟨4, Or.inl rfl, ⟨nI q, 1, nI w10, md1, md2, mi, Or.inl fun β K => c1 β K⟩, fun {n m27 m28 m29 ao r17 r18 r19 r47 r48 r41 r21 r20 r44 r45 r46} => ⟨q, m28, m29, m27, M, r47, fun β K => ?_⟩⟩
    refine (r1 β (fun a' b' z => jf_wr_X11_reads_69 n m27 m28 m29 q E g r17 r18 r19 M r47 r44 r45 r46 r48 r41 c ao a' b' r21 r20 z β K)).trans ?_
    rw [jf_wr_X11_reads_69_s, if_neg (by omega)]
