/-! the SOUND made of the VALUES: both sides -/
theorem ru1 {a b : Nat → Int32} {k : Nat} {x : Int32} (h : ∀ j, j < k → a j = b j) : ∀ j, j < k + 1 → upd a k x j = upd b k x j := fun j hj => by
  by_cases e : j = k
  · rw [e, pk_us, pk_us]
  · rw [pk_un e, pk_un e, h j (by omega)]
theorem uf_l {ch nch F : Nat} {fl sh : Int32} {sv r41 : Nat → Int32} (hcn : (ch = 1 ∧ nch = 1) ∨ (ch = 2 ∧ nch = 1) ∨ (ch = 2 ∧ nch = 2)) (hF : F ≤ 600) (hv : ∀ j, j < F * nch → sv j = r41 j) : ∀ (d fuel fuel2 f : Nat) (sm r0 : Nat → Int32), f + d = F → d < fuel → d < fuel2 → (∀ j, j < f * ch → sm j = r0 j) → ∃ sm' r0' : Nat → Int32, (∀ j, j < F * ch → sm' j = r0' j) ∧ (∀ (β : Type) (kx : (Nat → Int32) → Int32 → β) (k_ : (Nat → Int32) → Nat → β), lf_wk_X8_unfold_2 ch nch F fl sh sv β kx k_ fuel sm (nI f) = kx sm' (nI F)) ∧ (∀ (β : Type) (kx : (Nat → Int32) → Nat → β), lf_wr_X11_puts_21 nch sh F fl r41 ch β kx fuel2 r0 f = kx r0' F) := by
  intro d
  induction d with
  | zero =>
    intro fuel fuel2 f sm r0 hfd hf hf2 h
    obtain ⟨z, rfl⟩ : ∃ z, fuel = z + 1 := ⟨fuel - 1, by omega⟩
    obtain ⟨y, rfl⟩ : ∃ y, fuel2 = y + 1 := ⟨fuel2 - 1, by omega⟩
    have e : f = F := by omega
    subst e
    refine ⟨sm, r0, h, fun β kx k_ => ?_, fun β kx => ?_⟩
    · rw [lf_wk_X8_unfold_2_s, if_pos (nI_le (Nat.le_refl _) (by omega))]
    · rw [lf_wr_X11_puts_21_s, if_pos (Nat.le_refl _)]
  | succ d ih =>
    intro fuel fuel2 f sm r0 hfd hf hf2 h
    obtain ⟨z, rfl⟩ : ∃ z, fuel = z + 1 := ⟨fuel - 1, by omega⟩
    obtain ⟨y, rfl⟩ : ∃ y, fuel2 = y + 1 := ⟨fuel2 - 1, by omega⟩
    have hnF : ¬ nI F ≤ nI f := nI_ge (by omega) (by omega)
    rcases hcn with ⟨rfl, rfl⟩ | ⟨rfl, rfl⟩ | ⟨rfl, rfl⟩
    · have i1 : nI f * nI 1 = nI (f * 1) := pk_mul f 1
      have i2 : nI f * nI 1 = nI (f * 1) := pk_mul f 1
      have j1 : ¬ (1200 : Int32) < nI (f * 1 + 1) := nI_nlt (a := 1200) (b := f * 1 + 1) (by omega) (by omega)
      have j2 : nI (f * 1 + 1) ≤ (1200 : Int32) := nI_le (a := f * 1 + 1) (b := 1200) (by omega) (by omega)
      have e0 : r41 (1 * f) = sv (f * 1) := by rw [Nat.mul_comm]; exact (hv _ (by omega)).symm
      have m1 : 1 * f = f * 1 := Nat.mul_comm _ _
      have m2 : (f + 1) * 1 = f * 1 + 1 := by omega
      by_cases h4 : (fl &&& 4) = 0
      · obtain ⟨sm2, r02, a1, c2, r2⟩ := ih z y (f + 1) (upd sm (f * 1) (sv (f * 1) <<< (sh &&& 31))) (upd r0 (f * 1) (sv (f * 1) <<< (sh &&& 31))) (by omega) (by omega) (by omega) (by rw [m2]; exact ru1 h)
        refine ⟨sm2, r02, a1, fun β kx k_ => ?_, fun β kx => ?_⟩
        · rw [lf_wk_X8_unfold_2_s, if_neg hnF, i1, nI_add, if_neg j1, if_pos j2, if_neg (show ¬ nI 1 = 2 from by decide), if_pos h4, if_neg (show ¬ nI 1 = 2 from by decide), nI_clamp (by omega)]
          rw [nI_1]
          exact c2 β kx k_
        · rw [lf_wr_X11_puts_21_s, if_neg (by omega), if_neg (by decide), if_pos h4, if_neg (by decide), e0, m1]
          exact r2 β kx
      · obtain ⟨sm2, r02, a1, c2, r2⟩ := ih z y (f + 1) (upd sm (f * 1) ((sv (f * 1) + (sv (f * 1) - (sv (f * 1) >>> (1 &&& 31)))) <<< (sh &&& 31))) (upd r0 (f * 1) ((sv (f * 1) + (sv (f * 1) - (sv (f * 1) >>> (1 &&& 31)))) <<< (sh &&& 31))) (by omega) (by omega) (by omega) (by rw [m2]; exact ru1 h)
        refine ⟨sm2, r02, a1, fun β kx k_ => ?_, fun β kx => ?_⟩
        · rw [lf_wk_X8_unfold_2_s, if_neg hnF, i1, nI_add, if_neg j1, if_pos j2, if_neg (show ¬ nI 1 = 2 from by decide), if_neg h4, fnL_b, if_neg (show ¬ nI 1 = 2 from by decide), nI_clamp (by omega)]
          rw [nI_1]
          exact c2 β kx k_
        · rw [lf_wr_X11_puts_21_s, if_neg (by omega), if_neg (by decide), if_neg h4, fnL_b, fnL_b, if_neg (by decide), e0, m1]
          exact r2 β kx
    · have i1 : nI f * nI 1 = nI (f * 1) := pk_mul f 1
      have i2 : nI f * nI 2 = nI (f * 2) := pk_mul f 2
      have j1 : ¬ (1200 : Int32) < nI (f * 1 + 1) := nI_nlt (a := 1200) (b := f * 1 + 1) (by omega) (by omega)
      have j2 : nI (f * 2 + 2) ≤ (1200 : Int32) := nI_le (a := f * 2 + 2) (b := 1200) (by omega) (by omega)
      have e0 : r41 (1 * f) = sv (f * 1) := by rw [Nat.mul_comm]; exact (hv _ (by omega)).symm
      have m1 : 2 * f = f * 2 := Nat.mul_comm _ _
      have m2 : (f + 1) * 2 = f * 2 + 2 := by omega
      have m3 : 2 * f + 1 = f * 2 + 1 := by omega
      by_cases h4 : (fl &&& 4) = 0
      · obtain ⟨sm2, r02, a1, c2, r2⟩ := ih z y (f + 1) (upd (upd sm (f * 2) (sv (f * 1) <<< (sh &&& 31))) (f * 2 + 1) (sv (f * 1) <<< (sh &&& 31))) (upd (upd r0 (f * 2) (sv (f * 1) <<< (sh &&& 31))) (f * 2 + 1) (sv (f * 1) <<< (sh &&& 31))) (by omega) (by omega) (by omega) (by rw [m2]; exact ru1 (ru1 h))
        refine ⟨sm2, r02, a1, fun β kx k_ => ?_, fun β kx => ?_⟩
        · rw [lf_wk_X8_unfold_2_s, if_neg hnF, i1, i2, nI_add, nI_add, if_neg j1, if_pos j2, if_neg (show ¬ nI 1 = 2 from by decide), if_pos h4, if_pos (show nI 2 = 2 from rfl), nI_1, nI_clamp (by omega), nI_clamp (by omega), nI_clamp (by omega)]
          rw [nI_1]
          exact c2 β kx k_
        · rw [lf_wr_X11_puts_21_s, if_neg (by omega), if_neg (by decide), if_pos h4, if_pos rfl, e0, m3, m1]
          exact r2 β kx
      · obtain ⟨sm2, r02, a1, c2, r2⟩ := ih z y (f + 1) (upd (upd sm (f * 2) ((sv (f * 1) + (sv (f * 1) - (sv (f * 1) >>> (1 &&& 31)))) <<< (sh &&& 31))) (f * 2 + 1) ((sv (f * 1) - (sv (f * 1) >>> (1 &&& 31))) <<< (sh &&& 31))) (upd (upd r0 (f * 2) ((sv (f * 1) + (sv (f * 1) - (sv (f * 1) >>> (1 &&& 31)))) <<< (sh &&& 31))) (f * 2 + 1) ((sv (f * 1) - (sv (f * 1) >>> (1 &&& 31))) <<< (sh &&& 31))) (by omega) (by omega) (by omega) (by rw [m2]; exact ru1 (ru1 h))
        refine ⟨sm2, r02, a1, fun β kx k_ => ?_, fun β kx => ?_⟩
        · rw [lf_wk_X8_unfold_2_s, if_neg hnF, i1, i2, nI_add, nI_add, if_neg j1, if_pos j2, if_neg (show ¬ nI 1 = 2 from by decide), if_neg h4, fnL_b, if_pos (show nI 2 = 2 from rfl), fnL_b, nI_1, nI_clamp (by omega), nI_clamp (by omega), nI_clamp (by omega)]
          rw [nI_1]
          exact c2 β kx k_
        · rw [lf_wr_X11_puts_21_s, if_neg (by omega), if_neg (by decide), if_neg h4, fnL_b, fnL_b, if_pos rfl, e0, m3, m1]
          exact r2 β kx
    · have i1 : nI f * nI 2 = nI (f * 2) := pk_mul f 2
      have i2 : nI f * nI 2 = nI (f * 2) := pk_mul f 2
      have j1 : ¬ (1200 : Int32) < nI (f * 2 + 2) := nI_nlt (a := 1200) (b := f * 2 + 2) (by omega) (by omega)
      have j2 : nI (f * 2 + 2) ≤ (1200 : Int32) := nI_le (a := f * 2 + 2) (b := 1200) (by omega) (by omega)
      have e0 : r41 (2 * f) = sv (f * 2) := by rw [Nat.mul_comm]; exact (hv _ (by omega)).symm
      have m1 : 2 * f = f * 2 := Nat.mul_comm _ _
      have m2 : (f + 1) * 2 = f * 2 + 2 := by omega
      have e1 : r41 (2 * f + 1) = sv (f * 2 + 1) := by rw [Nat.mul_comm]; exact (hv _ (by omega)).symm
      have m3 : 2 * f + 1 = f * 2 + 1 := by omega
      by_cases h4 : (fl &&& 4) = 0
      · obtain ⟨sm2, r02, a1, c2, r2⟩ := ih z y (f + 1) (upd (upd sm (f * 2) (sv (f * 2) <<< (sh &&& 31))) (f * 2 + 1) (sv (f * 2 + 1) <<< (sh &&& 31))) (upd (upd r0 (f * 2) (sv (f * 2) <<< (sh &&& 31))) (f * 2 + 1) (sv (f * 2 + 1) <<< (sh &&& 31))) (by omega) (by omega) (by omega) (by rw [m2]; exact ru1 (ru1 h))
        refine ⟨sm2, r02, a1, fun β kx k_ => ?_, fun β kx => ?_⟩
        · rw [lf_wk_X8_unfold_2_s, if_neg hnF, i1, nI_add, if_neg j1, if_pos j2, if_pos (show nI 2 = 2 from rfl), if_pos h4, if_pos (show nI 2 = 2 from rfl), nI_1, nI_clamp (by omega), nI_clamp (by omega)]
          rw [nI_1]
          exact c2 β kx k_
        · rw [lf_wr_X11_puts_21_s, if_neg (by omega), if_pos rfl, if_pos h4, if_pos rfl, fnL_b, e0, e1, m3, m1]
          exact r2 β kx
      · obtain ⟨sm2, r02, a1, c2, r2⟩ := ih z y (f + 1) (upd (upd sm (f * 2) ((sv (f * 2) + (sv (f * 2 + 1) - (sv (f * 2) >>> (1 &&& 31)))) <<< (sh &&& 31))) (f * 2 + 1) ((sv (f * 2 + 1) - (sv (f * 2) >>> (1 &&& 31))) <<< (sh &&& 31))) (upd (upd r0 (f * 2) ((sv (f * 2) + (sv (f * 2 + 1) - (sv (f * 2) >>> (1 &&& 31)))) <<< (sh &&& 31))) (f * 2 + 1) ((sv (f * 2 + 1) - (sv (f * 2) >>> (1 &&& 31))) <<< (sh &&& 31))) (by omega) (by omega) (by omega) (by rw [m2]; exact ru1 (ru1 h))
        refine ⟨sm2, r02, a1, fun β kx k_ => ?_, fun β kx => ?_⟩
        · rw [lf_wk_X8_unfold_2_s, if_neg hnF, i1, nI_add, if_neg j1, if_pos j2, if_pos (show nI 2 = 2 from rfl), if_neg h4, fnL_b, if_pos (show nI 2 = 2 from rfl), fnL_b, nI_1, nI_clamp (by omega), nI_clamp (by omega)]
          rw [nI_1]
          exact c2 β kx k_
        · rw [lf_wr_X11_puts_21_s, if_neg (by omega), if_pos rfl, if_neg h4, fnL_b, fnL_b, if_pos rfl, e0, e1, m3, m1]
          exact r2 β kx
theorem ch_tab : ∀ b, b < 256 → flOK b = true → (1 + (nI b).toBitVec.toNat % 2 = chOf (nI b)) ∧ ((chOf (nI b) = 1 ∧ ncOf (nI b) = 1) ∨ (chOf (nI b) = 2 ∧ ncOf (nI b) = 1) ∨ (chOf (nI b) = 2 ∧ ncOf (nI b) = 2)) := by decide +kernel
theorem rs_put {b1 F : Nat} {sh : Int32} {sv r41 sm r0 : Nat → Int32} (hb : b1 < 256) (hfl : flOK b1 = true) (hF : F ≤ 600) (hv : ∀ j, j < F * ncOf (nI b1) → sv j = r41 j) : ∃ sm' r0' : Nat → Int32, (∀ j, j < F * chOf (nI b1) → sm' j = r0' j) ∧ (∀ (β : Type) (K : (Nat → Int32) → Nat → β), fn_wk_X8_unfold (chOf (nI b1)) (ncOf (nI b1)) F (nI b1) sh sv sm β K = K sm' (F * chOf (nI b1))) ∧ (∀ (β : Type) (K : Nat → (Nat → Int32) → β), fn_wr_X11_puts (ncOf (nI b1)) sh F (nI b1) r41 r0 β K = K (F * chOf (nI b1)) r0') := by
  obtain ⟨t1, t2⟩ := ch_tab b1 hb hfl
  obtain ⟨sm', r0', a, c, r⟩ := uf_l (fl := nI b1) (sh := sh) t2 hF hv F (F + 1) ((600 - 0) + 1) 0 sm r0 (by omega) (by omega) (by omega) (fun j hj => absurd hj (by omega))
  refine ⟨sm', r0', a, fun β K => ?_, fun β K => ?_⟩
  · rw [fn_wk_X8_unfold_s, fu_n (by omega)]
    exact c β _ _
  · rw [fn_wr_X11_puts_s, t1, Nat.mul_comm (chOf (nI b1)) F]
    exact r β _
