/-! the head of the first stream: both sides -/
theorem d_tab : ∀ n, n < 256 → (nI n < 1 ↔ n = 0) ∧ (nI n ≤ 7 ↔ n ≤ 7) ∧ (bS n < 1 ↔ n = 0 ∨ 128 ≤ n) ∧ (bS n ≤ 7 ↔ n ≤ 7 ∨ 128 ≤ n) ∧ (nI n ≤ 127 ↔ n ≤ 127) ∧ (nI n = 83 ↔ n = 83) ∧ (bS n = 83 ↔ n = 83) ∧ (nI n = 67 ↔ n = 67) ∧ (bS n = 67 ↔ n = 67) ∧ (23 < nI n ↔ 23 < n) ∧ (nI n ≤ 8 ↔ n ≤ 8) := by decide +kernel
def flOK (b : Nat) : Bool := decide (b ≤ 15) && (decide (b % 2 = 1) || decide (b / 2 % 4 = 0)) && !(decide (b / 2 % 4 = 3))
def l3f (b : Nat) : Int32 := if b % 2 = 0 then (if (nI b &&& 6) = 0 then 0 else 1) else 0
theorem fl_tab : ∀ b, b < 256 → (flOK b = true ↔ (¬ 15 < nI b ∧ l3f b = 0 ∧ ¬ (nI b &&& 6) = 6)) ∧ (flOK b = true → ncOf (nI b) = (if (nI b).toBitVec.toNat % 4 = 1 then 2 else 1)) ∧ fn_wk_X3_areFlags (nI b) Int32 (fun x => x) = (if flOK b = true then 1 else 0) := by decide +kernel
theorem c_fpar {fl : Int32} {β : Type} {K : Int32 → β} : fn_wk_X3_areFlags fl β K = K (fn_wk_X3_areFlags fl Int32 (fun x => x)) := by
  rw [fn_wk_X3_areFlags_s, fn_wk_X3_areFlags_s]
  by_cases h1 : (fl &&& 1) = 0
  · rw [if_pos h1, if_pos h1]
    by_cases h2 : (fl &&& 2) = 0
    · rw [if_pos h2, if_pos h2]
      by_cases h4 : (fl &&& 4) = 0
      · rw [if_pos h4, if_pos h4]
        by_cases h5 : 15 < fl
        · rw [if_pos h5, if_pos h5]
        · rw [if_neg h5, if_neg h5]
      · rw [if_neg h4, if_neg h4]
        by_cases h5 : 15 < fl
        · rw [if_pos h5, if_pos h5]
        · rw [if_neg h5, if_neg h5]
    · rw [if_neg h2, if_neg h2]
      by_cases h4 : (fl &&& 4) = 0
      · rw [if_pos h4, if_pos h4]
        by_cases h5 : 15 < fl
        · rw [if_pos h5, if_pos h5]
        · rw [if_neg h5, if_neg h5]
      · rw [if_neg h4, if_neg h4]
        by_cases h5 : 15 < fl
        · rw [if_pos h5, if_pos h5]
        · rw [if_neg h5, if_neg h5]
  · rw [if_neg h1, if_neg h1]
    by_cases h2 : (fl &&& 2) = 0
    · rw [if_pos h2, if_pos h2]
      by_cases h4 : (fl &&& 4) = 0
      · rw [if_pos h4, if_pos h4]
        by_cases h5 : 15 < fl
        · rw [if_pos h5, if_pos h5]
        · rw [if_neg h5, if_neg h5]
      · rw [if_neg h4, if_neg h4]
        by_cases h5 : 15 < fl
        · rw [if_pos h5, if_pos h5]
        · rw [if_neg h5, if_neg h5]
    · rw [if_neg h2, if_neg h2]
      by_cases h4 : (fl &&& 4) = 0
      · rw [if_pos h4, if_pos h4]
        by_cases h5 : 15 < fl
        · rw [if_pos h5, if_pos h5]
        · rw [if_neg h5, if_neg h5]
      · rw [if_neg h4, if_neg h4]
        by_cases h5 : 15 < fl
        · rw [if_pos h5, if_pos h5]
        · rw [if_neg h5, if_neg h5]
theorem c_flags {b : Nat} (hb : b < 256) {β : Type} {K : Int32 → β} : fn_wk_X3_areFlags (nI b) β K = K (if flOK b = true then 1 else 0) := by
  rw [c_fpar, (fl_tab b hb).2.2]
theorem rs_plan {L n F m15 m32 m33 m36 : Nat} {x37 x39 : Int32} {f g : Nat → Int32} (hn : n ≤ 8) (hL : 6 + 2 * n ≤ L) (hL2 : L ≤ 6000) (hfg : ∀ j, j < L → nb f j = nb g j) : ∀ (d fuel fuel2 l : Nat) (te de rte rde : Nat → Int32), l + d = n → d < fuel → d < fuel2 → (∀ j, j < l → te j = rte j ∧ de j = rde j ∧ TV (rte j)) → (∃ te' de' rte' rde' : Nat → Int32, (∀ j, j < n → te' j = rte' j ∧ de' j = rde' j ∧ TV (rte' j)) ∧ (∀ (β : Type) (kx : Nat → (Nat → Int32) → (Nat → Int32) → Int32 → Int32 → β) (k_ : Nat → (Nat → Int32) → (Nat → Int32) → Int32 → β), lf_wk_X3_readPlan_6 (nI L) f β kx k_ fuel l te de (nI n) (nI l) = kx n te' de' (nI n) (nI n)) ∧ (∀ (β : Type) (kx : (Nat → Int32) → (Nat → Int32) → Nat → β) (k_ : Int32 → Int32 → Nat → Nat → Nat → Nat → Nat → Nat → Nat → (Nat → Int32) → (Nat → Int32) → Int32 → β), lf_wr_X11_opens_260 g n m15 m32 m33 m36 x37 F x39 0 β kx k_ fuel2 rte rde l = kx rte' rde' n)) ∨ ((∃ (p : Nat) (te' de' : Nat → Int32), ∀ (β : Type) (kx : Nat → (Nat → Int32) → (Nat → Int32) → Int32 → Int32 → β) (k_ : Nat → (Nat → Int32) → (Nat → Int32) → Int32 → β), lf_wk_X3_readPlan_6 (nI L) f β kx k_ fuel l te de (nI n) (nI l) = k_ p te' de' 0) ∧ (∃ rte' rde' : Nat → Int32, ∀ (β : Type) (kx : (Nat → Int32) → (Nat → Int32) → Nat → β) (k_ : Int32 → Int32 → Nat → Nat → Nat → Nat → Nat → Nat → Nat → (Nat → Int32) → (Nat → Int32) → Int32 → β), lf_wr_X11_opens_260 g n m15 m32 m33 m36 x37 F x39 0 β kx k_ fuel2 rte rde l = k_ x39 x37 F n m36 m15 m32 m33 3 rte' rde' 0)) := by
  intro d
  induction d with
  | zero =>
    intro fuel fuel2 l te de rte rde hld hf hf2 hT
    obtain ⟨z, rfl⟩ : ∃ z, fuel = z + 1 := ⟨fuel - 1, by omega⟩
    obtain ⟨y, rfl⟩ : ∃ y, fuel2 = y + 1 := ⟨fuel2 - 1, by omega⟩
    have e : l = n := by omega
    subst e
    refine Or.inl ⟨te, de, rte, rde, hT, fun β kx k_ => ?_, fun β kx k_ => ?_⟩
    · rw [lf_wk_X3_readPlan_6_s, if_pos (nI_le (Nat.le_refl _) (by omega))]
    · rw [lf_wr_X11_opens_260_s, if_pos (Nat.le_refl _)]
  | succ d ih =>
    intro fuel fuel2 l te de rte rde hld hf hf2 hT
    obtain ⟨z, rfl⟩ : ∃ z, fuel = z + 1 := ⟨fuel - 1, by omega⟩
    obtain ⟨y, rfl⟩ : ∃ y, fuel2 = y + 1 := ⟨fuel2 - 1, by omega⟩
    have i6 : (6 + (2 * nI l) : Int32) = nI (6 + 2 * l) := by
      rw [show (2 : Int32) * nI l = nI (2 * l) from pk_mul 2 l]
      exact nI_add 6 (2 * l)
    have ht := bN_lt f (6 + 2 * l)
    have hd := bN_lt f (6 + 2 * l + 1)
    obtain ⟨t1, t2, t3, t4, t5, -⟩ := d_tab _ hd
    obtain ⟨-, -, -, -, u5, -⟩ := d_tab _ ht
    have eg1 : nb g (6 + 2 * l) = bS (bN f (6 + 2 * l)) := by rw [← hfg _ (by omega)]; exact nb_S f _
    have eg2 : nb g (7 + 2 * l) = bS (bN f (6 + 2 * l + 1)) := by rw [show 7 + 2 * l = 6 + 2 * l + 1 by omega, ← hfg _ (by omega)]; exact nb_S f _
    have cs : ∀ (β : Type) (kx : Nat → (Nat → Int32) → (Nat → Int32) → Int32 → Int32 → β) (k_ : Nat → (Nat → Int32) → (Nat → Int32) → Int32 → β), lf_wk_X3_readPlan_6 (nI L) f β kx k_ (z + 1) l te de (nI n) (nI l) = fn_wk_X7_add l te de (bS (bN f (6 + 2 * l))) (nI (bN f (6 + 2 * l + 1))) β (fun p a b r => (if r = 0 then (k_ p a b 0) else (lf_wk_X3_readPlan_6 (nI L) f β kx k_ z p a b (nI n) (nI l + 1)))) := fun β kx k_ => by
      rw [lf_wk_X3_readPlan_6_s, if_neg (nI_ge (by omega) (by omega)), i6, nI_1]
      refine (c_atN (i := 6 + 2 * l) rfl (by omega) (by omega) (by omega)).trans ?_
      refine (c_atN (i := 6 + 2 * l + 1) rfl (by omega) (by omega) (by omega)).trans ?_
      by_cases h127 : bN f (6 + 2 * l) ≤ 127
      · rw [if_pos (u5.mpr h127), show bS (bN f (6 + 2 * l)) = nI (bN f (6 + 2 * l)) from if_pos h127]
      · rw [if_neg (fun h => h127 (u5.mp h)), show bS (bN f (6 + 2 * l)) = nI (bN f (6 + 2 * l)) - 256 from if_neg h127]
    have h8 : ¬ (8 : Int32) ≤ nI l := nI_ge (a := l) (b := 8) (by omega) (by omega)
    have rs : ∀ (β : Type) (kx : (Nat → Int32) → (Nat → Int32) → Nat → β) (k_ : Int32 → Int32 → Nat → Nat → Nat → Nat → Nat → Nat → Nat → (Nat → Int32) → (Nat → Int32) → Int32 → β), lf_wr_X11_opens_260 g n m15 m32 m33 m36 x37 F x39 0 β kx k_ (y + 1) rte rde l = (if (if tvB (bS (bN f (6 + 2 * l))) = true then (1 : Int32) else 0) = 0 then (k_ x39 x37 F n m36 m15 m32 m33 3 (upd rte l (bS (bN f (6 + 2 * l)))) (upd rde l (bS (bN f (6 + 2 * l + 1)))) 0) else (if bS (bN f (6 + 2 * l + 1)) < 1 then (k_ x39 x37 F n m36 m15 m32 m33 3 (upd rte l (bS (bN f (6 + 2 * l)))) (upd rde l (bS (bN f (6 + 2 * l + 1)))) 0) else (if bS (bN f (6 + 2 * l + 1)) ≤ 7 then (lf_wr_X11_opens_260 g n m15 m32 m33 m36 x37 F x39 0 β kx k_ y (upd rte l (bS (bN f (6 + 2 * l)))) (upd rde l (bS (bN f (6 + 2 * l + 1)))) (l + 1)) else (k_ x39 x37 F n m36 m15 m32 m33 3 (upd rte l (bS (bN f (6 + 2 * l)))) (upd rde l (bS (bN f (6 + 2 * l + 1)))) 0)))) := fun β kx k_ => by
      rw [lf_wr_X11_opens_260_s, if_neg (by omega), eg1, eg2, r_isTerm]
      rfl
    by_cases htv : tvB (bS (bN f (6 + 2 * l))) = true
    · by_cases hd0 : bN f (6 + 2 * l + 1) = 0
      · refine Or.inr ⟨⟨l, te, de, fun β kx k_ => ?_⟩, ⟨upd rte l (bS (bN f (6 + 2 * l))), upd rde l (bS (bN f (6 + 2 * l + 1))), fun β kx k_ => ?_⟩⟩
        · rw [cs, fn_wk_X7_add_s, if_neg (nI_pos (by omega)), if_neg h8, c_isTerm, if_pos htv, if_neg (by decide), if_pos (t1.mpr hd0), if_pos rfl]
        · rw [rs, if_pos htv, if_neg (by decide), if_pos (t3.mpr (Or.inl hd0))]
      · by_cases hd7 : bN f (6 + 2 * l + 1) ≤ 7
        · have ed : bS (bN f (6 + 2 * l + 1)) = nI (bN f (6 + 2 * l + 1)) := if_pos (by omega)
          rcases ih z y (l + 1) (upd te l (bS (bN f (6 + 2 * l)))) (upd de l (nI (bN f (6 + 2 * l + 1)))) (upd rte l (bS (bN f (6 + 2 * l)))) (upd rde l (bS (bN f (6 + 2 * l + 1)))) (by omega) (by omega) (by omega) (fun j hj => by
            by_cases e : j = l
            · subst e
              rw [pk_us, pk_us, pk_us, pk_us]
              exact ⟨rfl, ed.symm, tvB_tv htv⟩
            · rw [pk_un e, pk_un e, pk_un e, pk_un e]
              exact hT j (by omega)) with ⟨te', de', rte', rde', hT', c2, r2⟩ | ⟨⟨p, te', de', c2⟩, ⟨rte', rde', r2⟩⟩
          · refine Or.inl ⟨te', de', rte', rde', hT', fun β kx k_ => ?_, fun β kx k_ => ?_⟩
            · rw [cs, fn_wk_X7_add_s, if_neg (nI_pos (by omega)), if_neg h8, c_isTerm, if_pos htv, if_neg (by decide), if_neg (fun h => hd0 (t1.mp h)), if_pos (t2.mpr hd7), if_neg (by decide), nI_1]
              exact c2 β kx k_
            · rw [rs, if_pos htv, if_neg (by decide), if_neg (fun h => by have := t3.mp h; omega), if_pos (t4.mpr (Or.inl hd7))]
              exact r2 β kx k_
          · refine Or.inr ⟨⟨p, te', de', fun β kx k_ => ?_⟩, ⟨rte', rde', fun β kx k_ => ?_⟩⟩
            · rw [cs, fn_wk_X7_add_s, if_neg (nI_pos (by omega)), if_neg h8, c_isTerm, if_pos htv, if_neg (by decide), if_neg (fun h => hd0 (t1.mp h)), if_pos (t2.mpr hd7), if_neg (by decide), nI_1]
              exact c2 β kx k_
            · rw [rs, if_pos htv, if_neg (by decide), if_neg (fun h => by have := t3.mp h; omega), if_pos (t4.mpr (Or.inl hd7))]
              exact r2 β kx k_
        · refine Or.inr ⟨⟨l, te, de, fun β kx k_ => ?_⟩, ⟨upd rte l (bS (bN f (6 + 2 * l))), upd rde l (bS (bN f (6 + 2 * l + 1))), fun β kx k_ => ?_⟩⟩
          · rw [cs, fn_wk_X7_add_s, if_neg (nI_pos (by omega)), if_neg h8, c_isTerm, if_pos htv, if_neg (by decide), if_neg (fun h => hd0 (t1.mp h)), if_neg (fun h => hd7 (t2.mp h)), if_pos rfl]
          · rw [rs, if_pos htv, if_neg (by decide)]
            by_cases h128 : 128 ≤ bN f (6 + 2 * l + 1)
            · rw [if_pos (t3.mpr (Or.inr h128))]
            · rw [if_neg (fun h => by have := t3.mp h; omega), if_neg (fun h => by have := t4.mp h; omega)]
    · refine Or.inr ⟨⟨l, te, de, fun β kx k_ => ?_⟩, ⟨upd rte l (bS (bN f (6 + 2 * l))), upd rde l (bS (bN f (6 + 2 * l + 1))), fun β kx k_ => ?_⟩⟩
      · rw [cs, fn_wk_X7_add_s, if_neg (nI_pos (by omega)), if_neg h8, c_isTerm, if_neg htv, if_pos rfl, if_pos rfl]
      · rw [rs, if_neg htv, if_pos rfl]
theorem rs_head {L m14 m15 m32 m33 m36 m38 w2 w3 w4 p2 : Nat} {b11 b12 b13 w5 w6 w7 w8 w9 w10 w11 ps5 m37 m39 : Int32} {f g te de we inp rte rde : Nat → Int32} {md1 md2 : Int64} {mi : Nat → Int64} (hL : 10 ≤ L) (hL2 : L ≤ 6000) (hfg : ∀ j, j < L → nb f j = nb g j) (hcr : nI (wdN g (L - 4)) = crcS (fun i => nb g (0 + i)) (L - 4) ^^^ (-1)) : (∃ (b1 b2 F n E a : Nat) (te' de' rte' rde' we' inp' : Nat → Int32) (mi' : Nat → Int64), b1 < 256 ∧ flOK b1 = true ∧ b2 ≤ 23 ∧ 1 ≤ F ∧ F ≤ 600 ∧ n ≤ 8 ∧ E ≤ 65535 ∧ a ≤ L - 4 ∧ (∀ j, j < n → te' j = rte' j ∧ de' j = rde' j ∧ TV (rte' j)) ∧ (∀ q, q < 16 → we' q = 0) ∧ (∀ q, q < 128 → inp' q = 0) ∧ (∀ q, q < 6 → mi' q = 0) ∧ (∀ (β : Type) (K : Int32 → Int32 → Int32 → Nat → Nat → Nat → Int32 → Int32 → Int32 → Int32 → Int32 → Int32 → Int32 → Int32 → Nat → (Nat → Int32) → (Nat → Int32) → (Nat → Int32) → (Nat → Int32) → Int64 → Int64 → (Nat → Int64) → Int32 → β), fn_wk_X3_readHead (nI L) f b11 b12 b13 w2 w3 w4 w5 w6 w7 w8 w9 w10 w11 ps5 p2 te de we inp md1 md2 mi (nI (L - 4)) β K = K (nI (8 * a)) (nI (8 * (L - 4))) 0 (chOf (nI b1)) (ncOf (nI b1)) F (nI b1) (nI b2) (nI E) 0 0 0 0 (nI (ncOf (nI b1))) n te' de' we' inp' 0 0 mi' 1) ∧ (∀ (β : Type) (K : Int32 → Int32 → Nat → Nat → Nat → Nat → Nat → Nat → Nat → (Nat → Int32) → (Nat → Int32) → Int32 → β), fn_wr_X11_opens m14 m15 m32 m33 m36 m37 m38 m39 0 g rte rde L β K = K (nI b1) (nI b2) F n E (ncOf (nI b1)) (8 * a) (8 * (L - 4)) 0 rte' rde' 1)) ∨ ((∃ (b11' b12' b13' : Int32) (w2' w3' w4' : Nat) (w5' w6' w7' w8' w9' w10' w11' ps5' : Int32) (p2' : Nat) (te' de' we' inp' : Nat → Int32) (md1' md2' : Int64) (mi' : Nat → Int64), ∀ (β : Type) (K : Int32 → Int32 → Int32 → Nat → Nat → Nat → Int32 → Int32 → Int32 → Int32 → Int32 → Int32 → Int32 → Int32 → Nat → (Nat → Int32) → (Nat → Int32) → (Nat → Int32) → (Nat → Int32) → Int64 → Int64 → (Nat → Int64) → Int32 → β), fn_wk_X3_readHead (nI L) f b11 b12 b13 w2 w3 w4 w5 w6 w7 w8 w9 w10 w11 ps5 p2 te de we inp md1 md2 mi (nI (L - 4)) β K = K b11' b12' b13' w2' w3' w4' w5' w6' w7' w8' w9' w10' w11' ps5' p2' te' de' we' inp' md1' md2' mi' 0) ∧ (∃ (m39' m37' : Int32) (m38' m14' m36' m15' m32' m33' : Nat) (rte' rde' : Nat → Int32), ∀ (β : Type) (K : Int32 → Int32 → Nat → Nat → Nat → Nat → Nat → Nat → Nat → (Nat → Int32) → (Nat → Int32) → Int32 → β), fn_wr_X11_opens m14 m15 m32 m33 m36 m37 m38 m39 0 g rte rde L β K = K m39' m37' m38' m14' m36' m15' m32' m33' 3 rte' rde' 0)) := by
  have g1 : ((nb g 1)).toBitVec.toNat % 256 = bN f 1 := bN_congr (hfg 1 (by omega)).symm
  have g2 : ((nb g 2)).toBitVec.toNat % 256 = bN f 2 := bN_congr (hfg 2 (by omega)).symm
  have g3 : ((nb g 3)).toBitVec.toNat % 256 = bN f 3 := bN_congr (hfg 3 (by omega)).symm
  have g4 : ((nb g 4)).toBitVec.toNat % 256 = bN f 4 := bN_congr (hfg 4 (by omega)).symm
  have g5 : ((nb g 5)).toBitVec.toNat % 256 = bN f 5 := bN_congr (hfg 5 (by omega)).symm
  have g0 : nb g 0 = bS (bN f 0) := by rw [← hfg 0 (by omega)]; exact nb_S f 0
  have l0 := bN_lt f 0
  have l1 := bN_lt f 1
  have l2 := bN_lt f 2
  have l3 := bN_lt f 3
  have l4 := bN_lt f 4
  have l5 := bN_lt f 5
  have gF : bN f 3 * 256 ||| bN f 4 = bN f 3 * 256 + bN f 4 := or_add (a := bN f 3) (b := bN f 4) (k := 8) l4
  obtain ⟨-, -, -, -, -, z1, z2, -⟩ := d_tab _ l0
  obtain ⟨-, -, -, -, -, -, -, -, -, s1, -⟩ := d_tab _ l2
  obtain ⟨-, -, -, -, -, -, -, -, -, -, n1⟩ := d_tab _ l5
  obtain ⟨k1, k2, -⟩ := fl_tab _ l1
  obtain ⟨F, hF⟩ : ∃ F, bN f 3 * 256 + bN f 4 = F := ⟨_, rfl⟩
  have hFb : F < 65536 := by omega
  have R : ∀ (β : Type) (K : Int32 → Int32 → Nat → Nat → Nat → Nat → Nat → Nat → Nat → (Nat → Int32) → (Nat → Int32) → Int32 → β), fn_wr_X11_opens m14 m15 m32 m33 m36 m37 m38 m39 0 g rte rde L β K = jf_wr_X11_opens_141 g L (bN f 5) m15 m32 m33 m36 (nI (bN f 2)) F (nI (bN f 1)) 0 rte rde (l3f (bN f 1)) β K := fun β K => by
    rw [fn_wr_X11_opens_s, if_pos hL, r_intAt, r_crc, if_pos hcr, g1, g2, g3, g4, g5, gF, hF]
    unfold l3f
    by_cases q1 : bN f 1 % 2 = 0
    · rw [if_pos q1, if_pos q1]
      by_cases q2 : (nI (bN f 1) &&& 6) = 0
      · rw [if_pos q2, if_pos q2]
      · rw [if_neg q2, if_neg q2]
    · rw [if_neg q1, if_neg q1]
  by_cases h83 : bN f 0 = 83
  case neg =>
    refine Or.inr ⟨⟨b11, b12, b13, w2, w3, w4, w5, w6, w7, w8, w9, w10, w11, ps5, p2, te, de, we, inp, md1, md2, mi, fun β K => ?_⟩, ⟨nI (bN f 1), nI (bN f 2), F, bN f 5, m36, m15, m32, m33, rte, rde, fun β K => ?_⟩⟩
    · rw [fn_wk_X3_readHead_s]
      refine (c_atN (i := 1) rfl (by omega) (by omega) (by omega)).trans ?_
      refine (c_atN (i := 2) rfl (by omega) (by omega) (by omega)).trans ?_
      refine (c_atN (i := 3) rfl (by omega) (by omega) (by omega)).trans ?_
      refine (c_atN (i := 4) rfl (by omega) (by omega) (by omega)).trans ?_
      rw [fnL_b, nI_cat (by omega) l4, hF]
      refine (c_atN (i := 5) rfl (by omega) (by omega) (by omega)).trans ?_
      refine (c_atN (i := 0) rfl (by omega) (by omega) (by omega)).trans ?_
      rw [if_neg (fun h => h83 (z1.mp h))]
    · rw [R, jf_wr_X11_opens_141_s, g0]
      rw [if_neg (fun h => h83 (z2.mp h)), fn_wr_X11_wrong_s, if_pos rfl]
  by_cases hfl : flOK (bN f 1) = true
  case neg =>
    have hfl2 : ¬ (¬ 15 < nI (bN f 1) ∧ l3f (bN f 1) = 0 ∧ ¬ (nI (bN f 1) &&& 6) = 6) := fun h => hfl (k1.mpr h)
    refine Or.inr ⟨⟨b11, b12, b13, w2, w3, w4, w5, w6, w7, w8, w9, w10, w11, ps5, p2, te, de, we, inp, md1, md2, mi, fun β K => ?_⟩, ⟨nI (bN f 1), nI (bN f 2), F, bN f 5, m36, m15, m32, m33, rte, rde, fun β K => ?_⟩⟩
    · rw [fn_wk_X3_readHead_s]
      refine (c_atN (i := 1) rfl (by omega) (by omega) (by omega)).trans ?_
      refine (c_atN (i := 2) rfl (by omega) (by omega) (by omega)).trans ?_
      refine (c_atN (i := 3) rfl (by omega) (by omega) (by omega)).trans ?_
      refine (c_atN (i := 4) rfl (by omega) (by omega) (by omega)).trans ?_
      rw [fnL_b, nI_cat (by omega) l4, hF]
      refine (c_atN (i := 5) rfl (by omega) (by omega) (by omega)).trans ?_
      refine (c_atN (i := 0) rfl (by omega) (by omega) (by omega)).trans ?_
      rw [if_pos (z1.mpr h83), c_flags l1, if_neg hfl, if_pos rfl]
    · rw [R, jf_wr_X11_opens_141_s, g0]
      rw [if_pos (z2.mpr h83)]
      by_cases q1 : 15 < nI (bN f 1)
      · rw [if_pos q1, fn_wr_X11_wrong_s, if_pos rfl]
      · rw [if_neg q1]
        by_cases q2 : l3f (bN f 1) = 0
        · rw [if_pos q2]
          by_cases q3 : (nI (bN f 1) &&& 6) = 6
          · rw [if_pos q3, fn_wr_X11_wrong_s, if_pos rfl]
          · exact absurd ⟨q1, q2, q3⟩ hfl2
        · rw [if_neg q2, fn_wr_X11_wrong_s, if_pos rfl]
  obtain ⟨f1, f2, f3⟩ := k1.mp hfl
  by_cases hsh : 23 < bN f 2
  case pos =>
    refine Or.inr ⟨⟨b11, b12, b13, w2, w3, w4, w5, w6, w7, w8, w9, w10, w11, ps5, p2, te, de, we, inp, md1, md2, mi, fun β K => ?_⟩, ⟨nI (bN f 1), nI (bN f 2), F, bN f 5, m36, m15, m32, m33, rte, rde, fun β K => ?_⟩⟩
    · rw [fn_wk_X3_readHead_s]
      refine (c_atN (i := 1) rfl (by omega) (by omega) (by omega)).trans ?_
      refine (c_atN (i := 2) rfl (by omega) (by omega) (by omega)).trans ?_
      refine (c_atN (i := 3) rfl (by omega) (by omega) (by omega)).trans ?_
      refine (c_atN (i := 4) rfl (by omega) (by omega) (by omega)).trans ?_
      rw [fnL_b, nI_cat (by omega) l4, hF]
      refine (c_atN (i := 5) rfl (by omega) (by omega) (by omega)).trans ?_
      refine (c_atN (i := 0) rfl (by omega) (by omega) (by omega)).trans ?_
      rw [if_pos (z1.mpr h83), c_flags l1, if_pos hfl, if_neg (by decide), if_pos (s1.mpr hsh)]
    · rw [R, jf_wr_X11_opens_141_s, g0]
      rw [if_pos (z2.mpr h83), if_neg f1, if_pos f2, if_neg f3, if_pos (s1.mpr hsh), fn_wr_X11_wrong_s, if_pos rfl]
  by_cases hF0 : F = 0
  case pos =>
    refine Or.inr ⟨⟨b11, b12, b13, w2, w3, w4, w5, w6, w7, w8, w9, w10, w11, ps5, p2, te, de, we, inp, md1, md2, mi, fun β K => ?_⟩, ⟨nI (bN f 1), nI (bN f 2), F, bN f 5, m36, m15, m32, m33, rte, rde, fun β K => ?_⟩⟩
    · rw [fn_wk_X3_readHead_s]
      refine (c_atN (i := 1) rfl (by omega) (by omega) (by omega)).trans ?_
      refine (c_atN (i := 2) rfl (by omega) (by omega) (by omega)).trans ?_
      refine (c_atN (i := 3) rfl (by omega) (by omega) (by omega)).trans ?_
      refine (c_atN (i := 4) rfl (by omega) (by omega) (by omega)).trans ?_
      rw [fnL_b, nI_cat (by omega) l4, hF]
      refine (c_atN (i := 5) rfl (by omega) (by omega) (by omega)).trans ?_
      refine (c_atN (i := 0) rfl (by omega) (by omega) (by omega)).trans ?_
      rw [if_pos (z1.mpr h83), c_flags l1, if_pos hfl, if_neg (by decide), if_neg (fun h => hsh (s1.mp h)), if_pos (show nI F < 1 from by rw [hF0]; decide)]
    · rw [R, jf_wr_X11_opens_141_s, g0]
      rw [if_pos (z2.mpr h83), if_neg f1, if_pos f2, if_neg f3, if_neg (fun h => hsh (s1.mp h)), if_pos hF0, fn_wr_X11_wrong_s, if_pos rfl]
  by_cases hF6 : 600 < F
  case pos =>
    refine Or.inr ⟨⟨b11, b12, b13, w2, w3, w4, w5, w6, w7, w8, w9, w10, w11, ps5, p2, te, de, we, inp, md1, md2, mi, fun β K => ?_⟩, ⟨nI (bN f 1), nI (bN f 2), F, bN f 5, m36, m15, m32, m33, rte, rde, fun β K => ?_⟩⟩
    · rw [fn_wk_X3_readHead_s]
      refine (c_atN (i := 1) rfl (by omega) (by omega) (by omega)).trans ?_
      refine (c_atN (i := 2) rfl (by omega) (by omega) (by omega)).trans ?_
      refine (c_atN (i := 3) rfl (by omega) (by omega) (by omega)).trans ?_
      refine (c_atN (i := 4) rfl (by omega) (by omega) (by omega)).trans ?_
      rw [fnL_b, nI_cat (by omega) l4, hF]
      refine (c_atN (i := 5) rfl (by omega) (by omega) (by omega)).trans ?_
      refine (c_atN (i := 0) rfl (by omega) (by omega) (by omega)).trans ?_
      rw [if_pos (z1.mpr h83), c_flags l1, if_pos hfl, if_neg (by decide), if_neg (fun h => hsh (s1.mp h)), if_neg (show ¬ nI F < 1 from nI_nlt (a := F) (b := 1) (by omega) (by omega)), if_pos (show (600 : Int32) < nI F from nI_lt (a := 600) (b := F) hF6 (by omega))]
    · rw [R, jf_wr_X11_opens_141_s, g0]
      rw [if_pos (z2.mpr h83), if_neg f1, if_pos f2, if_neg f3, if_neg (fun h => hsh (s1.mp h)), if_neg hF0, if_pos hF6, fn_wr_X11_wrong_s, if_pos rfl]
  by_cases hn8 : bN f 5 ≤ 8
  case neg =>
    refine Or.inr ⟨⟨b11, b12, b13, w2, w3, w4, w5, w6, w7, w8, w9, w10, w11, ps5, p2, te, de, we, inp, md1, md2, mi, fun β K => ?_⟩, ⟨nI (bN f 1), nI (bN f 2), F, bN f 5, m36, m15, m32, m33, rte, rde, fun β K => ?_⟩⟩
    · rw [fn_wk_X3_readHead_s]
      refine (c_atN (i := 1) rfl (by omega) (by omega) (by omega)).trans ?_
      refine (c_atN (i := 2) rfl (by omega) (by omega) (by omega)).trans ?_
      refine (c_atN (i := 3) rfl (by omega) (by omega) (by omega)).trans ?_
      refine (c_atN (i := 4) rfl (by omega) (by omega) (by omega)).trans ?_
      rw [fnL_b, nI_cat (by omega) l4, hF]
      refine (c_atN (i := 5) rfl (by omega) (by omega) (by omega)).trans ?_
      refine (c_atN (i := 0) rfl (by omega) (by omega) (by omega)).trans ?_
      rw [if_pos (z1.mpr h83), c_flags l1, if_pos hfl, if_neg (by decide), if_neg (fun h => hsh (s1.mp h)), if_neg (show ¬ nI F < 1 from nI_nlt (a := F) (b := 1) (by omega) (by omega)), if_neg (show ¬ (600 : Int32) < nI F from nI_nlt (a := 600) (b := F) (by omega) (by omega)), if_neg (fun h => hn8 (n1.mp h))]
    · rw [R, jf_wr_X11_opens_141_s, g0]
      rw [if_pos (z2.mpr h83), if_neg f1, if_pos f2, if_neg f3, if_neg (fun h => hsh (s1.mp h)), if_neg hF0, if_neg hF6, if_neg hn8, fn_wr_X11_wrong_s, if_pos rfl]
  have i6 : (6 + (2 * nI (bN f 5)) : Int32) = nI (6 + 2 * bN f 5) := by
    rw [show (2 : Int32) * nI (bN f 5) = nI (2 * bN f 5) from pk_mul 2 (bN f 5)]
    exact nI_add 6 (2 * bN f 5)
  have i60 : (nI (6 + 2 * bN f 5) + 0 : Int32) = nI (6 + 2 * bN f 5) := Int32.add_zero _
  have i62 : (nI (6 + 2 * bN f 5) + 2 : Int32) = nI (6 + 2 * bN f 5 + 2) := nI_add _ 2
  have i8 : ∀ x : Nat, nI x * 8 = nI (8 * x) := fun x => by rw [Nat.mul_comm]; exact pk_mul x 8
  have hnc := k2 hfl
  have hfu : (Int32.toInt (nI (bN f 5)) - Int32.toInt 0).toNat + 1 = bN f 5 + 1 := by rw [fu_n (by omega)]
  by_cases h8 : (nI (bN f 1) &&& 8) = 0
  case pos =>
    by_cases hlen : 6 + 2 * bN f 5 ≤ L - 4
    case neg =>
      refine Or.inr ⟨⟨b11, b12, b13, w2, w3, w4, w5, w6, w7, w8, w9, w10, w11, ps5, p2, te, de, we, inp, md1, md2, mi, fun β K => ?_⟩, ⟨nI (bN f 1), nI (bN f 2), F, bN f 5, m36, m15, m32, m33, rte, rde, fun β K => ?_⟩⟩
      · rw [fn_wk_X3_readHead_s]
        refine (c_atN (i := 1) rfl (by omega) (by omega) (by omega)).trans ?_
        refine (c_atN (i := 2) rfl (by omega) (by omega) (by omega)).trans ?_
        refine (c_atN (i := 3) rfl (by omega) (by omega) (by omega)).trans ?_
        refine (c_atN (i := 4) rfl (by omega) (by omega) (by omega)).trans ?_
        rw [fnL_b, nI_cat (by omega) l4, hF]
        refine (c_atN (i := 5) rfl (by omega) (by omega) (by omega)).trans ?_
        refine (c_atN (i := 0) rfl (by omega) (by omega) (by omega)).trans ?_
        rw [if_pos (z1.mpr h83), c_flags l1, if_pos hfl, if_neg (by decide), if_neg (fun h => hsh (s1.mp h)), if_neg (show ¬ nI F < 1 from nI_nlt (a := F) (b := 1) (by omega) (by omega)), if_neg (show ¬ (600 : Int32) < nI F from nI_nlt (a := 600) (b := F) (by omega) (by omega)), if_pos (n1.mpr hn8), if_pos h8, i6, i60, if_pos (nI_lt (by omega) (by omega))]
      · rw [R, jf_wr_X11_opens_141_s, g0]
        rw [if_pos (z2.mpr h83), if_neg f1, if_pos f2, if_neg f3, if_neg (fun h => hsh (s1.mp h)), if_neg hF0, if_neg hF6, if_pos hn8, if_pos h8, if_neg (by omega), fn_wr_X11_wrong_s, if_pos rfl]
    rcases rs_plan (F := F) (m15 := m15) (m32 := m32) (m33 := m33) (m36 := m36) (x37 := nI (bN f 2)) (x39 := nI (bN f 1)) hn8 (by omega) hL2 hfg (bN f 5) (bN f 5 + 1) ((8 - 0) + 1) 0 te de rte rde (by omega) (by omega) (by omega) (fun j hj => absurd hj (Nat.not_lt_zero _)) with ⟨te', de', rte', rde', hT, c2, r2⟩ | ⟨⟨pp, te', de', c2⟩, ⟨rte', rde', r2⟩⟩
    · obtain ⟨we', inp', mi', w1, w2', w3', wb⟩ := c_begin (F := F) (we := we) (inp := inp) (mi := mi) (fl := nI (bN f 1)) (si := nI (bN f 2)) (er := 0)
      refine Or.inl ⟨bN f 1, bN f 2, F, bN f 5, 0, 6 + 2 * bN f 5, te', de', rte', rde', we', inp', mi', l1, hfl, by omega, by omega, by omega, hn8, by omega, hlen, hT, w1, w2', w3', fun β K => ?_, fun β K => ?_⟩
      · rw [fn_wk_X3_readHead_s]
        refine (c_atN (i := 1) rfl (by omega) (by omega) (by omega)).trans ?_
        refine (c_atN (i := 2) rfl (by omega) (by omega) (by omega)).trans ?_
        refine (c_atN (i := 3) rfl (by omega) (by omega) (by omega)).trans ?_
        refine (c_atN (i := 4) rfl (by omega) (by omega) (by omega)).trans ?_
        rw [fnL_b, nI_cat (by omega) l4, hF]
        refine (c_atN (i := 5) rfl (by omega) (by omega) (by omega)).trans ?_
        refine (c_atN (i := 0) rfl (by omega) (by omega) (by omega)).trans ?_
        rw [if_pos (z1.mpr h83), c_flags l1, if_pos hfl, if_neg (by decide), if_neg (fun h => hsh (s1.mp h)), if_neg (show ¬ nI F < 1 from nI_nlt (a := F) (b := 1) (by omega) (by omega)), if_neg (show ¬ (600 : Int32) < nI F from nI_nlt (a := 600) (b := F) (by omega) (by omega)), if_pos (n1.mpr hn8), if_pos h8, i6, i60, if_neg (nI_nlt hlen (by omega)), fn_wk_X3_readPlan_s, fn_wk_X7_clear_s, hfu]
        refine (c2 β _ _).trans ?_
        rw [if_neg (by decide), fnL_b, nI_clamp (by omega)]
        refine (wb β _).trans ?_
        rw [fn_wk_X0_start_s, i8, i8]
        rfl
      · rw [R, jf_wr_X11_opens_141_s, g0]
        rw [if_pos (z2.mpr h83), if_neg f1, if_pos f2, if_neg f3, if_neg (fun h => hsh (s1.mp h)), if_neg hF0, if_neg hF6, if_pos hn8, if_pos h8, if_pos (by omega)]
        refine (r2 β _ _).trans ?_
        rw [hnc]
        by_cases q4 : (nI (bN f 1)).toBitVec.toNat % 4 = 1
        · rw [if_pos q4, if_pos q4]
        · rw [if_neg q4, if_neg q4]
    · refine Or.inr ⟨⟨b11, b12, b13, w2, w3, w4, w5, w6, w7, w8, w9, w10, w11, ps5, pp, te', de', we, inp, md1, md2, mi, fun β K => ?_⟩, ⟨nI (bN f 1), nI (bN f 2), F, bN f 5, m36, m15, m32, m33, rte', rde', fun β K => ?_⟩⟩
      · rw [fn_wk_X3_readHead_s]
        refine (c_atN (i := 1) rfl (by omega) (by omega) (by omega)).trans ?_
        refine (c_atN (i := 2) rfl (by omega) (by omega) (by omega)).trans ?_
        refine (c_atN (i := 3) rfl (by omega) (by omega) (by omega)).trans ?_
        refine (c_atN (i := 4) rfl (by omega) (by omega) (by omega)).trans ?_
        rw [fnL_b, nI_cat (by omega) l4, hF]
        refine (c_atN (i := 5) rfl (by omega) (by omega) (by omega)).trans ?_
        refine (c_atN (i := 0) rfl (by omega) (by omega) (by omega)).trans ?_
        rw [if_pos (z1.mpr h83), c_flags l1, if_pos hfl, if_neg (by decide), if_neg (fun h => hsh (s1.mp h)), if_neg (show ¬ nI F < 1 from nI_nlt (a := F) (b := 1) (by omega) (by omega)), if_neg (show ¬ (600 : Int32) < nI F from nI_nlt (a := 600) (b := F) (by omega) (by omega)), if_pos (n1.mpr hn8), if_pos h8, i6, i60, if_neg (nI_nlt hlen (by omega)), fn_wk_X3_readPlan_s, fn_wk_X7_clear_s, hfu]
        refine (c2 β _ _).trans ?_
        rw [if_pos rfl]
      · rw [R, jf_wr_X11_opens_141_s, g0]
        rw [if_pos (z2.mpr h83), if_neg f1, if_pos f2, if_neg f3, if_neg (fun h => hsh (s1.mp h)), if_neg hF0, if_neg hF6, if_pos hn8, if_pos h8, if_pos (by omega)]
        exact r2 β _ _
  case neg =>
    by_cases hlen : 6 + 2 * bN f 5 + 2 ≤ L - 4
    case neg =>
      refine Or.inr ⟨⟨b11, b12, b13, w2, w3, w4, w5, w6, w7, w8, w9, w10, w11, ps5, p2, te, de, we, inp, md1, md2, mi, fun β K => ?_⟩, ⟨nI (bN f 1), nI (bN f 2), F, bN f 5, m36, m15, m32, m33, rte, rde, fun β K => ?_⟩⟩
      · rw [fn_wk_X3_readHead_s]
        refine (c_atN (i := 1) rfl (by omega) (by omega) (by omega)).trans ?_
        refine (c_atN (i := 2) rfl (by omega) (by omega) (by omega)).trans ?_
        refine (c_atN (i := 3) rfl (by omega) (by omega) (by omega)).trans ?_
        refine (c_atN (i := 4) rfl (by omega) (by omega) (by omega)).trans ?_
        rw [fnL_b, nI_cat (by omega) l4, hF]
        refine (c_atN (i := 5) rfl (by omega) (by omega) (by omega)).trans ?_
        refine (c_atN (i := 0) rfl (by omega) (by omega) (by omega)).trans ?_
        rw [if_pos (z1.mpr h83), c_flags l1, if_pos hfl, if_neg (by decide), if_neg (fun h => hsh (s1.mp h)), if_neg (show ¬ nI F < 1 from nI_nlt (a := F) (b := 1) (by omega) (by omega)), if_neg (show ¬ (600 : Int32) < nI F from nI_nlt (a := 600) (b := F) (by omega) (by omega)), if_pos (n1.mpr hn8), if_neg h8, i6, i62, nI_1, if_pos (nI_lt (by omega) (by omega))]
      · rw [R, jf_wr_X11_opens_141_s, g0]
        rw [if_pos (z2.mpr h83), if_neg f1, if_pos f2, if_neg f3, if_neg (fun h => hsh (s1.mp h)), if_neg hF0, if_neg hF6, if_pos hn8, if_neg h8, if_neg (by omega), fn_wr_X11_wrong_s, if_pos rfl]
    have v1 := bN_lt f (6 + 2 * bN f 5)
    have v2 := bN_lt f (6 + 2 * bN f 5 + 1)
    have ge1 : ((nb g (6 + (2 * bN f 5)))).toBitVec.toNat % 256 = bN f (6 + 2 * bN f 5) := bN_congr (hfg _ (by omega)).symm
    have ge2 : ((nb g ((6 + (2 * bN f 5)) + 1))).toBitVec.toNat % 256 = bN f (6 + 2 * bN f 5 + 1) := bN_congr (hfg _ (by omega)).symm
    have geE : bN f (6 + 2 * bN f 5) * 256 ||| bN f (6 + 2 * bN f 5 + 1) = bN f (6 + 2 * bN f 5) * 256 + bN f (6 + 2 * bN f 5 + 1) := or_add (a := bN f (6 + 2 * bN f 5)) (b := bN f (6 + 2 * bN f 5 + 1)) (k := 8) v2
    obtain ⟨E, hE⟩ : ∃ E, bN f (6 + 2 * bN f 5) * 256 + bN f (6 + 2 * bN f 5 + 1) = E := ⟨_, rfl⟩
    have hEb : E ≤ 65535 := by omega
    rcases rs_plan (F := F) (m15 := m15) (m32 := m32) (m33 := m33) (m36 := m36) (x37 := nI (bN f 2)) (x39 := nI (bN f 1)) hn8 (by omega) hL2 hfg (bN f 5) (bN f 5 + 1) ((8 - 0) + 1) 0 te de rte rde (by omega) (by omega) (by omega) (fun j hj => absurd hj (Nat.not_lt_zero _)) with ⟨te', de', rte', rde', hT, c2, r2⟩ | ⟨⟨pp, te', de', c2⟩, ⟨rte', rde', r2⟩⟩
    · obtain ⟨we', inp', mi', w1, w2', w3', wb⟩ := c_begin (F := F) (we := we) (inp := inp) (mi := mi) (fl := nI (bN f 1)) (si := nI (bN f 2)) (er := nI E)
      by_cases hE0 : E = 0
      · refine Or.inr ⟨⟨nI (8 * (6 + 2 * bN f 5 + 2)), nI (8 * (L - 4)), 0, chOf (nI (bN f 1)), ncOf (nI (bN f 1)), F, nI (bN f 1), nI (bN f 2), nI E, 0, 0, 0, 0, nI (ncOf (nI (bN f 1))), bN f 5, te', de', we', inp', 0, 0, mi', fun β K => ?_⟩, ⟨nI (bN f 1), nI (bN f 2), F, bN f 5, E, m15, m32, m33, rte', rde', fun β K => ?_⟩⟩
        · rw [fn_wk_X3_readHead_s]
          refine (c_atN (i := 1) rfl (by omega) (by omega) (by omega)).trans ?_
          refine (c_atN (i := 2) rfl (by omega) (by omega) (by omega)).trans ?_
          refine (c_atN (i := 3) rfl (by omega) (by omega) (by omega)).trans ?_
          refine (c_atN (i := 4) rfl (by omega) (by omega) (by omega)).trans ?_
          rw [fnL_b, nI_cat (by omega) l4, hF]
          refine (c_atN (i := 5) rfl (by omega) (by omega) (by omega)).trans ?_
          refine (c_atN (i := 0) rfl (by omega) (by omega) (by omega)).trans ?_
          rw [if_pos (z1.mpr h83), c_flags l1, if_pos hfl, if_neg (by decide), if_neg (fun h => hsh (s1.mp h)), if_neg (show ¬ nI F < 1 from nI_nlt (a := F) (b := 1) (by omega) (by omega)), if_neg (show ¬ (600 : Int32) < nI F from nI_nlt (a := 600) (b := F) (by omega) (by omega)), if_pos (n1.mpr hn8), if_neg h8, i6, i62, nI_1, if_neg (nI_nlt hlen (by omega)), fn_wk_X3_readPlan_s, fn_wk_X7_clear_s, hfu]
          refine (c2 β _ _).trans ?_
          rw [if_neg (by decide)]
          refine (c_atN (i := 6 + 2 * bN f 5) rfl (by omega) (by omega) (by omega)).trans ?_
          refine (c_atN (i := 6 + 2 * bN f 5 + 1) rfl (by omega) (by omega) (by omega)).trans ?_
          rw [fnL_b, fnL_b, nI_cat (by omega) v2, hE, nI_clamp (by omega)]
          refine (wb β _).trans ?_
          rw [fn_wk_X0_start_s, if_pos (show nI E ≤ 0 from by rw [hE0]; decide), i8, i8]
        · rw [R, jf_wr_X11_opens_141_s, g0]
          rw [if_pos (z2.mpr h83), if_neg f1, if_pos f2, if_neg f3, if_neg (fun h => hsh (s1.mp h)), if_neg hF0, if_neg hF6, if_pos hn8, if_neg h8, if_pos (by omega)]
          refine (r2 β _ _).trans ?_
          rw [ge1, ge2, geE, hE, if_pos hE0, fn_wr_X11_wrong_s, if_pos rfl]
      · refine Or.inl ⟨bN f 1, bN f 2, F, bN f 5, E, 6 + 2 * bN f 5 + 2, te', de', rte', rde', we', inp', mi', l1, hfl, by omega, by omega, by omega, hn8, hEb, hlen, hT, w1, w2', w3', fun β K => ?_, fun β K => ?_⟩
        · rw [fn_wk_X3_readHead_s]
          refine (c_atN (i := 1) rfl (by omega) (by omega) (by omega)).trans ?_
          refine (c_atN (i := 2) rfl (by omega) (by omega) (by omega)).trans ?_
          refine (c_atN (i := 3) rfl (by omega) (by omega) (by omega)).trans ?_
          refine (c_atN (i := 4) rfl (by omega) (by omega) (by omega)).trans ?_
          rw [fnL_b, nI_cat (by omega) l4, hF]
          refine (c_atN (i := 5) rfl (by omega) (by omega) (by omega)).trans ?_
          refine (c_atN (i := 0) rfl (by omega) (by omega) (by omega)).trans ?_
          rw [if_pos (z1.mpr h83), c_flags l1, if_pos hfl, if_neg (by decide), if_neg (fun h => hsh (s1.mp h)), if_neg (show ¬ nI F < 1 from nI_nlt (a := F) (b := 1) (by omega) (by omega)), if_neg (show ¬ (600 : Int32) < nI F from nI_nlt (a := 600) (b := F) (by omega) (by omega)), if_pos (n1.mpr hn8), if_neg h8, i6, i62, nI_1, if_neg (nI_nlt hlen (by omega)), fn_wk_X3_readPlan_s, fn_wk_X7_clear_s, hfu]
          refine (c2 β _ _).trans ?_
          rw [if_neg (by decide)]
          refine (c_atN (i := 6 + 2 * bN f 5) rfl (by omega) (by omega) (by omega)).trans ?_
          refine (c_atN (i := 6 + 2 * bN f 5 + 1) rfl (by omega) (by omega) (by omega)).trans ?_
          rw [fnL_b, fnL_b, nI_cat (by omega) v2, hE, nI_clamp (by omega)]
          refine (wb β _).trans ?_
          rw [fn_wk_X0_start_s, if_neg (nI_nle (by omega) (by omega)), i8, i8]
        · rw [R, jf_wr_X11_opens_141_s, g0]
          rw [if_pos (z2.mpr h83), if_neg f1, if_pos f2, if_neg f3, if_neg (fun h => hsh (s1.mp h)), if_neg hF0, if_neg hF6, if_pos hn8, if_neg h8, if_pos (by omega)]
          refine (r2 β _ _).trans ?_
          rw [ge1, ge2, geE, hE, if_neg hE0, hnc]
          by_cases q4 : (nI (bN f 1)).toBitVec.toNat % 4 = 1
          · rw [if_pos q4, if_pos q4]
          · rw [if_neg q4, if_neg q4]
    · refine Or.inr ⟨⟨b11, b12, b13, w2, w3, w4, w5, w6, w7, w8, w9, w10, w11, ps5, pp, te', de', we, inp, md1, md2, mi, fun β K => ?_⟩, ⟨nI (bN f 1), nI (bN f 2), F, bN f 5, m36, m15, m32, m33, rte', rde', fun β K => ?_⟩⟩
      · rw [fn_wk_X3_readHead_s]
        refine (c_atN (i := 1) rfl (by omega) (by omega) (by omega)).trans ?_
        refine (c_atN (i := 2) rfl (by omega) (by omega) (by omega)).trans ?_
        refine (c_atN (i := 3) rfl (by omega) (by omega) (by omega)).trans ?_
        refine (c_atN (i := 4) rfl (by omega) (by omega) (by omega)).trans ?_
        rw [fnL_b, nI_cat (by omega) l4, hF]
        refine (c_atN (i := 5) rfl (by omega) (by omega) (by omega)).trans ?_
        refine (c_atN (i := 0) rfl (by omega) (by omega) (by omega)).trans ?_
        rw [if_pos (z1.mpr h83), c_flags l1, if_pos hfl, if_neg (by decide), if_neg (fun h => hsh (s1.mp h)), if_neg (show ¬ nI F < 1 from nI_nlt (a := F) (b := 1) (by omega) (by omega)), if_neg (show ¬ (600 : Int32) < nI F from nI_nlt (a := 600) (b := F) (by omega) (by omega)), if_pos (n1.mpr hn8), if_neg h8, i6, i62, nI_1, if_neg (nI_nlt hlen (by omega)), fn_wk_X3_readPlan_s, fn_wk_X7_clear_s, hfu]
        refine (c2 β _ _).trans ?_
        rw [if_pos rfl]
      · rw [R, jf_wr_X11_opens_141_s, g0]
        rw [if_pos (z2.mpr h83), if_neg f1, if_pos f2, if_neg f3, if_neg (fun h => hsh (s1.mp h)), if_neg hF0, if_neg hF6, if_pos hn8, if_neg h8, if_pos (by omega)]
        exact r2 β _ _
