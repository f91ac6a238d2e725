/-! is it a SOUND; TWIN; the VALUES -/
def inS (x : Int32) : Prop := ¬ x < -8388608 ∧ x ≤ 8388607

theorem snl_1 {n : Nat} {nu r : Nat → Int32} (hn : n ≤ 1200) (h : ∀ j, j < n → nu j = r j) : ∀ (d fuel fuel2 j : Nat), j + d = n → d < fuel → d < fuel2 → ∃ b : Bool, (∀ (β : Type) (kx : Int32 → Int32 → Int32 → β) (k : Int32 → β) (l1 l2 : Int32), lf_wk_X10_isSound_45 n nu β kx k fuel l1 l2 (nI j) = if b = true then kx l1 l2 (nI n) else k 0) ∧ (∀ (β : Type) (kx : Int32 → Nat → β), lf_wr_X11_isSound_1_44 n r β kx fuel2 1 j = kx (if b = true then 1 else 0) n) ∧ (b = true → ∀ i, j ≤ i → i < n → inS (r i)) := by
  have hz : ∀ (d fuel2 j : Nat), j + d = n → d < fuel2 → ∀ (β : Type) (kx : Int32 → Nat → β), lf_wr_X11_isSound_1_44 n r β kx fuel2 0 j = kx 0 n := by
    intro d
    induction d with
    | zero =>
      intro fuel2 j hj hf β kx
      obtain ⟨z, rfl⟩ : ∃ z, fuel2 = z + 1 := ⟨fuel2 - 1, by omega⟩
      rw [lf_wr_X11_isSound_1_44_s, if_pos (by omega), show j = n by omega]
    | succ d ih =>
      intro fuel2 j hj hf β kx
      obtain ⟨z, rfl⟩ : ∃ z, fuel2 = z + 1 := ⟨fuel2 - 1, by omega⟩
      rw [lf_wr_X11_isSound_1_44_s, if_neg (by omega), if_pos rfl]
      exact ih z (j + 1) (by omega) (by omega) β kx
  intro d
  induction d with
  | zero =>
    intro fuel fuel2 j hj hf hf2
    obtain ⟨z, rfl⟩ : ∃ z, fuel = z + 1 := ⟨fuel - 1, by omega⟩
    obtain ⟨y, rfl⟩ : ∃ y, fuel2 = y + 1 := ⟨fuel2 - 1, by omega⟩
    have e : j = n := by omega
    subst e
    refine ⟨true, fun β kx k l1 l2 => ?_, fun β kx => ?_, fun _ i h1 h2 => by omega⟩
    · rw [lf_wk_X10_isSound_45_s, if_pos (nI_le (Nat.le_refl _) (by omega)), if_pos rfl]
    · rw [lf_wr_X11_isSound_1_44_s, if_pos (Nat.le_refl _), if_pos rfl]
  | succ d ih =>
    intro fuel fuel2 j hj hf hf2
    obtain ⟨z, rfl⟩ : ∃ z, fuel = z + 1 := ⟨fuel - 1, by omega⟩
    obtain ⟨y, rfl⟩ : ∃ y, fuel2 = y + 1 := ⟨fuel2 - 1, by omega⟩
    have hj2 := h j (by omega)
    by_cases h1 : r j < -8388608
    · refine ⟨false, fun β kx k l1 l2 => ?_, fun β kx => ?_, fun q => absurd q (by decide)⟩
      · rw [lf_wk_X10_isSound_45_s, if_neg (nI_ge (by omega) (by omega)), if_neg (show ¬ (1200 : Int32) ≤ nI j from nI_ge (a := j) (b := 1200) (by omega) (by omega)), nI_clamp (by omega), hj2, if_pos h1, if_neg (by decide)]
      · rw [lf_wr_X11_isSound_1_44_s, if_neg (by omega), if_neg (by decide), if_pos h1, hz d y (j + 1) (by omega) (by omega), if_neg (by decide)]
    · by_cases h2 : r j ≤ 8388607
      · obtain ⟨b, a1, a2, a3⟩ := ih z y (j + 1) (by omega) (by omega) (by omega)
        refine ⟨b, fun β kx k l1 l2 => ?_, fun β kx => ?_, fun q i k1 k2 => ?_⟩
        · rw [lf_wk_X10_isSound_45_s, if_neg (nI_ge (by omega) (by omega)), if_neg (show ¬ (1200 : Int32) ≤ nI j from nI_ge (a := j) (b := 1200) (by omega) (by omega)), nI_clamp (by omega), hj2, if_neg h1, if_pos h2, nI_1]
          exact a1 β kx k l1 l2
        · rw [lf_wr_X11_isSound_1_44_s, if_neg (by omega), if_neg (by decide), if_neg h1, if_neg (o_4 h2)]
          exact a2 β kx
        · by_cases e : i = j
          · rw [e]; exact ⟨h1, h2⟩
          · exact a3 q i (by omega) k2
      · refine ⟨false, fun β kx k l1 l2 => ?_, fun β kx => ?_, fun q => absurd q (by decide)⟩
        · rw [lf_wk_X10_isSound_45_s, if_neg (nI_ge (by omega) (by omega)), if_neg (show ¬ (1200 : Int32) ≤ nI j from nI_ge (a := j) (b := 1200) (by omega) (by omega)), nI_clamp (by omega), hj2, if_neg h1, if_neg h2, if_neg (by decide)]
        · rw [lf_wr_X11_isSound_1_44_s, if_neg (by omega), if_neg (by decide), if_neg h1, if_pos (o_2 h2), hz d y (j + 1) (by omega) (by omega), if_neg (by decide)]
theorem snd_sim_1 {n : Nat} {nu r : Nat → Int32} (hn : n ≤ 1200) (h : ∀ j, j < n → nu j = r j) : ∃ b : Bool, (b = true → 1 ≤ n / 1 ∧ n / 1 ≤ 600 ∧ n / 1 * 1 = n) ∧ (∀ (β : Type) (K : Int32 → β), fn_wk_X10_isSound n nu 1 β K = K (if b = true then 1 else 0)) ∧ (∀ (β : Type) (K : Int32 → β), fn_wr_X11_isSound_1 n r β K = K (if b = true then 1 else 0)) := by
  obtain ⟨b, a1, a2, a3⟩ := snl_1 hn h n 1201 1201 0 (by omega) (by omega) (by omega)
  have ef : ((Int32.toInt 1200 - Int32.toInt 0).toNat + 1) = 1201 := by decide
  have em : nI n * 1 = nI (n * 1) := pk_mul n 1
  by_cases h1 : n < 1
  · refine ⟨false, fun q => absurd q (by decide), fun β K => ?_, fun β K => ?_⟩
    · rw [fn_wk_X10_isSound_s, if_neg (by decide), if_pos (show nI n < 1 from nI_lt (a := n) (b := 1) h1 (by omega)), if_neg (by decide)]
    · rw [fn_wr_X11_isSound_1_s, if_pos (by omega), if_neg (by decide)]
  · by_cases h2 : n ≤ 600
    · refine ⟨b, fun _ => ⟨by omega, by omega, by omega⟩, fun β K => ?_, fun β K => ?_⟩
      · rw [fn_wk_X10_isSound_s, if_neg (by decide), if_neg (show ¬ nI n < 1 from nI_nlt (a := n) (b := 1) (by omega) (by omega)), if_neg (show ¬ (600 : Int32) < nI n from nI_nlt (a := 600) (b := n) (by omega) (by omega)), em, if_pos (by rw [Nat.mul_one]), ef]
        refine (a1 β _ K 1 (nI n)).trans ?_
        cases b
        · rw [if_neg (by decide), if_neg (by decide)]
        · rw [if_pos rfl, if_pos rfl]
      · rw [fn_wr_X11_isSound_1_s, if_neg (by omega), if_pos (by omega), if_pos (by omega)]
        exact a2 β _
    · refine ⟨false, fun q => absurd q (by decide), fun β K => ?_, fun β K => ?_⟩
      · rw [fn_wk_X10_isSound_s, if_neg (by decide), if_neg (show ¬ nI n < 1 from nI_nlt (a := n) (b := 1) (by omega) (by omega)), if_pos (show (600 : Int32) < nI n from nI_lt (a := 600) (b := n) (by omega) (by omega)), if_neg (by decide)]
      · rw [fn_wr_X11_isSound_1_s, if_neg (by omega), if_pos (by omega), if_neg (by omega), if_neg (by decide)]
theorem snl_2 {n : Nat} {nu r : Nat → Int32} (hn : n ≤ 1200) (h : ∀ j, j < n → nu j = r j) : ∀ (d fuel fuel2 j : Nat), j + d = n → d < fuel → d < fuel2 → ∃ b : Bool, (∀ (β : Type) (kx : Int32 → Int32 → Int32 → β) (k : Int32 → β) (l1 l2 : Int32), lf_wk_X10_isSound_45 n nu β kx k fuel l1 l2 (nI j) = if b = true then kx l1 l2 (nI n) else k 0) ∧ (∀ (β : Type) (kx : Int32 → Nat → β), lf_wr_X11_isSound_2_44 n r β kx fuel2 1 j = kx (if b = true then 1 else 0) n) ∧ (b = true → ∀ i, j ≤ i → i < n → inS (r i)) := by
  have hz : ∀ (d fuel2 j : Nat), j + d = n → d < fuel2 → ∀ (β : Type) (kx : Int32 → Nat → β), lf_wr_X11_isSound_2_44 n r β kx fuel2 0 j = kx 0 n := by
    intro d
    induction d with
    | zero =>
      intro fuel2 j hj hf β kx
      obtain ⟨z, rfl⟩ : ∃ z, fuel2 = z + 1 := ⟨fuel2 - 1, by omega⟩
      rw [lf_wr_X11_isSound_2_44_s, if_pos (by omega), show j = n by omega]
    | succ d ih =>
      intro fuel2 j hj hf β kx
      obtain ⟨z, rfl⟩ : ∃ z, fuel2 = z + 1 := ⟨fuel2 - 1, by omega⟩
      rw [lf_wr_X11_isSound_2_44_s, if_neg (by omega), if_pos rfl]
      exact ih z (j + 1) (by omega) (by omega) β kx
  intro d
  induction d with
  | zero =>
    intro fuel fuel2 j hj hf hf2
    obtain ⟨z, rfl⟩ : ∃ z, fuel = z + 1 := ⟨fuel - 1, by omega⟩
    obtain ⟨y, rfl⟩ : ∃ y, fuel2 = y + 1 := ⟨fuel2 - 1, by omega⟩
    have e : j = n := by omega
    subst e
    refine ⟨true, fun β kx k l1 l2 => ?_, fun β kx => ?_, fun _ i h1 h2 => by omega⟩
    · rw [lf_wk_X10_isSound_45_s, if_pos (nI_le (Nat.le_refl _) (by omega)), if_pos rfl]
    · rw [lf_wr_X11_isSound_2_44_s, if_pos (Nat.le_refl _), if_pos rfl]
  | succ d ih =>
    intro fuel fuel2 j hj hf hf2
    obtain ⟨z, rfl⟩ : ∃ z, fuel = z + 1 := ⟨fuel - 1, by omega⟩
    obtain ⟨y, rfl⟩ : ∃ y, fuel2 = y + 1 := ⟨fuel2 - 1, by omega⟩
    have hj2 := h j (by omega)
    by_cases h1 : r j < -8388608
    · refine ⟨false, fun β kx k l1 l2 => ?_, fun β kx => ?_, fun q => absurd q (by decide)⟩
      · rw [lf_wk_X10_isSound_45_s, if_neg (nI_ge (by omega) (by omega)), if_neg (show ¬ (1200 : Int32) ≤ nI j from nI_ge (a := j) (b := 1200) (by omega) (by omega)), nI_clamp (by omega), hj2, if_pos h1, if_neg (by decide)]
      · rw [lf_wr_X11_isSound_2_44_s, if_neg (by omega), if_neg (by decide), if_pos h1, hz d y (j + 1) (by omega) (by omega), if_neg (by decide)]
    · by_cases h2 : r j ≤ 8388607
      · obtain ⟨b, a1, a2, a3⟩ := ih z y (j + 1) (by omega) (by omega) (by omega)
        refine ⟨b, fun β kx k l1 l2 => ?_, fun β kx => ?_, fun q i k1 k2 => ?_⟩
        · rw [lf_wk_X10_isSound_45_s, if_neg (nI_ge (by omega) (by omega)), if_neg (show ¬ (1200 : Int32) ≤ nI j from nI_ge (a := j) (b := 1200) (by omega) (by omega)), nI_clamp (by omega), hj2, if_neg h1, if_pos h2, nI_1]
          exact a1 β kx k l1 l2
        · rw [lf_wr_X11_isSound_2_44_s, if_neg (by omega), if_neg (by decide), if_neg h1, if_neg (o_4 h2)]
          exact a2 β kx
        · by_cases e : i = j
          · rw [e]; exact ⟨h1, h2⟩
          · exact a3 q i (by omega) k2
      · refine ⟨false, fun β kx k l1 l2 => ?_, fun β kx => ?_, fun q => absurd q (by decide)⟩
        · rw [lf_wk_X10_isSound_45_s, if_neg (nI_ge (by omega) (by omega)), if_neg (show ¬ (1200 : Int32) ≤ nI j from nI_ge (a := j) (b := 1200) (by omega) (by omega)), nI_clamp (by omega), hj2, if_neg h1, if_neg h2, if_neg (by decide)]
        · rw [lf_wr_X11_isSound_2_44_s, if_neg (by omega), if_neg (by decide), if_neg h1, if_pos (o_2 h2), hz d y (j + 1) (by omega) (by omega), if_neg (by decide)]
theorem snd_sim_2 {n : Nat} {nu r : Nat → Int32} (hn : n ≤ 1200) (h : ∀ j, j < n → nu j = r j) : ∃ b : Bool, (b = true → 1 ≤ n / 2 ∧ n / 2 ≤ 600 ∧ n / 2 * 2 = n) ∧ (∀ (β : Type) (K : Int32 → β), fn_wk_X10_isSound n nu 2 β K = K (if b = true then 1 else 0)) ∧ (∀ (β : Type) (K : Int32 → β), fn_wr_X11_isSound_2 n r β K = K (if b = true then 1 else 0)) := by
  obtain ⟨b, a1, a2, a3⟩ := snl_2 hn h n 1201 1201 0 (by omega) (by omega) (by omega)
  have ef : ((Int32.toInt 1200 - Int32.toInt 0).toNat + 1) = 1201 := by decide
  have ed : nI n / 2 = nI (n / 2) := pk_div (a := n) (d := 2) (by omega) (by omega) (by omega)
  have em : nI (n / 2) * 2 = nI (n / 2 * 2) := pk_mul (n / 2) 2
  by_cases h1 : n / 2 < 1
  · refine ⟨false, fun q => absurd q (by decide), fun β K => ?_, fun β K => ?_⟩
    · rw [fn_wk_X10_isSound_s, if_pos rfl, ed, if_pos (show nI (n / 2) < 1 from nI_lt (a := n / 2) (b := 1) h1 (by omega)), if_neg (by decide)]
    · rw [fn_wr_X11_isSound_2_s, if_neg (by decide : ¬ (false = true))]
      by_cases e : n = 0
      · rw [if_pos e]
      · rw [if_neg e, if_neg (by omega)]
  · by_cases h2 : n / 2 ≤ 600
    · by_cases h3 : n / 2 * 2 = n
      · refine ⟨b, fun _ => ⟨by omega, h2, h3⟩, fun β K => ?_, fun β K => ?_⟩
        · rw [fn_wk_X10_isSound_s, if_pos rfl, ed, if_neg (show ¬ nI (n / 2) < 1 from nI_nlt (a := n / 2) (b := 1) (by omega) (by omega)), if_neg (show ¬ (600 : Int32) < nI (n / 2) from nI_nlt (a := 600) (b := n / 2) (by omega) (by omega)), em, if_pos (by rw [h3]), ef]
          refine (a1 β _ K 2 (nI (n / 2))).trans ?_
          cases b
          · rw [if_neg (by decide), if_neg (by decide)]
          · rw [if_pos rfl, if_pos rfl]
        · rw [fn_wr_X11_isSound_2_s, if_neg (by omega), if_pos (by omega), if_pos h2]
          exact a2 β _
      · refine ⟨false, fun q => absurd q (by decide), fun β K => ?_, fun β K => ?_⟩
        · rw [fn_wk_X10_isSound_s, if_pos rfl, ed, if_neg (show ¬ nI (n / 2) < 1 from nI_nlt (a := n / 2) (b := 1) (by omega) (by omega)), if_neg (show ¬ (600 : Int32) < nI (n / 2) from nI_nlt (a := 600) (b := n / 2) (by omega) (by omega)), em, if_neg (fun q => h3 ((nI_eq (by omega) (by omega)).mp q)), if_neg (by decide)]
        · rw [fn_wr_X11_isSound_2_s, if_neg (by omega), if_neg (by omega), if_neg (by decide)]
    · refine ⟨false, fun q => absurd q (by decide), fun β K => ?_, fun β K => ?_⟩
      · rw [fn_wk_X10_isSound_s, if_pos rfl, ed, if_neg (show ¬ nI (n / 2) < 1 from nI_nlt (a := n / 2) (b := 1) (by omega) (by omega)), if_pos (show (600 : Int32) < nI (n / 2) from nI_lt (a := 600) (b := n / 2) (by omega) (by omega)), if_neg (by decide)]
      · rw [fn_wr_X11_isSound_2_s, if_neg (by omega), if_neg (by decide : ¬ (false = true))]
        by_cases e : n % 2 = 0
        · rw [if_pos e, if_neg h2]
        · rw [if_neg e]
theorem twl {n : Nat} {nu r : Nat → Int32} (hn : n ≤ 1200) (h : ∀ j, j < n → nu j = r j) : ∀ (d fuel fuel2 j : Nat), j + 2 * d = n → d < fuel → d < fuel2 → ∃ b : Bool, (∀ (β : Type) (kx : Int32 → β) (k : Int32 → β), ∃ l, lf_wk_X10_isTwin_2 n nu β kx k fuel (nI j) = if b = true then kx l else k 0) ∧ (∀ (β : Type) (kx : Int32 → Nat → β), lf_wr_X11_areTwins_4 n r β kx fuel2 1 j = kx (if b = true then 1 else 0) n) := by
  have hz : ∀ (d fuel2 j : Nat), j + 2 * d = n → d < fuel2 → ∀ (β : Type) (kx : Int32 → Nat → β), lf_wr_X11_areTwins_4 n r β kx fuel2 0 j = kx 0 n := by
    intro d
    induction d with
    | zero =>
      intro fuel2 j hj hf β kx
      obtain ⟨z, rfl⟩ : ∃ z, fuel2 = z + 1 := ⟨fuel2 - 1, by omega⟩
      rw [lf_wr_X11_areTwins_4_s, if_pos (by omega), show j = n by omega]
    | succ d ih =>
      intro fuel2 j hj hf β kx
      obtain ⟨z, rfl⟩ : ∃ z, fuel2 = z + 1 := ⟨fuel2 - 1, by omega⟩
      rw [lf_wr_X11_areTwins_4_s, if_neg (by omega), if_pos rfl]
      exact ih z (j + 2) (by omega) (by omega) β kx
  intro d
  induction d with
  | zero =>
    intro fuel fuel2 j hj hf hf2
    obtain ⟨z, rfl⟩ : ∃ z, fuel = z + 1 := ⟨fuel - 1, by omega⟩
    obtain ⟨y, rfl⟩ : ∃ y, fuel2 = y + 1 := ⟨fuel2 - 1, by omega⟩
    refine ⟨true, fun β kx k => ⟨nI j, ?_⟩, fun β kx => ?_⟩
    · rw [lf_wk_X10_isTwin_2_s, nI_1, if_pos (nI_le (by omega) (by omega)), if_pos rfl]
    · rw [lf_wr_X11_areTwins_4_s, if_pos (by omega), if_pos rfl, show j = n by omega]
  | succ d ih =>
    intro fuel fuel2 j hj hf hf2
    obtain ⟨z, rfl⟩ : ∃ z, fuel = z + 1 := ⟨fuel - 1, by omega⟩
    obtain ⟨y, rfl⟩ : ∃ y, fuel2 = y + 1 := ⟨fuel2 - 1, by omega⟩
    have e2 : nI j + 2 = nI (j + 2) := nI_add j 2
    by_cases e : r j = r (j + 1)
    · obtain ⟨b, a1, a2⟩ := ih z y (j + 2) (by omega) (by omega) (by omega)
      refine ⟨b, fun β kx k => ?_, fun β kx => ?_⟩
      · obtain ⟨l, hl⟩ := a1 β kx k
        refine ⟨l, ?_⟩
        rw [lf_wk_X10_isTwin_2_s, nI_1, if_neg (nI_ge (by omega) (by omega)), if_neg (show ¬ (1200 : Int32) ≤ nI (j + 1) from nI_ge (a := j + 1) (b := 1200) (by omega) (by omega)), nI_clamp (by omega), nI_clamp (by omega), h j (by omega), h (j + 1) (by omega), if_pos e, e2]
        exact hl
      · rw [lf_wr_X11_areTwins_4_s, if_neg (by omega), if_neg (by decide), if_pos e]
        exact a2 β kx
    · refine ⟨false, fun β kx k => ⟨0, ?_⟩, fun β kx => ?_⟩
      · rw [lf_wk_X10_isTwin_2_s, nI_1, if_neg (nI_ge (by omega) (by omega)), if_neg (show ¬ (1200 : Int32) ≤ nI (j + 1) from nI_ge (a := j + 1) (b := 1200) (by omega) (by omega)), nI_clamp (by omega), nI_clamp (by omega), h j (by omega), h (j + 1) (by omega), if_neg e, if_neg (by decide)]
      · rw [lf_wr_X11_areTwins_4_s, if_neg (by omega), if_neg (by decide), if_neg e, hz d y (j + 2) (by omega) (by omega), if_neg (by decide)]
theorem twin_sim {n : Nat} {nu r : Nat → Int32} (hn : n ≤ 1200) (he : n / 2 * 2 = n) (h : ∀ j, j < n → nu j = r j) : ∃ b : Bool, (∀ (β : Type) (K : Int32 → β), fn_wk_X10_isTwin n nu β K = K (if b = true then 1 else 0)) ∧ (∀ (β : Type) (K : Int32 → β), fn_wr_X11_areTwins n r β K = K (if b = true then 1 else 0)) := by
  obtain ⟨b, a1, a2⟩ := twl hn h (n / 2) 1201 1203 0 (by omega) (by omega) (by omega)
  refine ⟨b, fun β K => ?_, fun β K => ?_⟩
  · obtain ⟨l, hl⟩ := a1 β (fun _ => K 1) K
    rw [fn_wk_X10_isTwin_s, show ((Int32.toInt 1200 - Int32.toInt 0).toNat + 1) = 1201 from by decide]
    refine hl.trans ?_
    cases b
    · rw [if_neg (by decide), if_neg (by decide)]
    · rw [if_pos rfl, if_pos rfl]
  · rw [fn_wr_X11_areTwins_s]
    exact a2 β _
/-- the VALUES: ch CHANNELS, nch coded, joint or not -/
def vS (ch nch : Nat) (jo : Bool) (sh : Int32) (r : Nat → Int32) (i : Nat) : Int32 := if nch = 1 then (r (i * ch)) >>> (sh &&& 31) else if jo = true then (if i % 2 = 0 then ((r (i / 2 * 2)) >>> (sh &&& 31)) - ((r (i / 2 * 2 + 1)) >>> (sh &&& 31)) else ((r (i / 2 * 2 + 1)) >>> (sh &&& 31)) + ((((r (i / 2 * 2)) >>> (sh &&& 31)) - ((r (i / 2 * 2 + 1)) >>> (sh &&& 31))) >>> (1 &&& 31))) else (r i) >>> (sh &&& 31)
theorem vS_e {f : Nat} {sh : Int32} {r : Nat → Int32} {jo : Bool} : vS 2 2 jo sh r (f * 2) = if jo = true then ((r (f * 2)) >>> (sh &&& 31)) - ((r (f * 2 + 1)) >>> (sh &&& 31)) else (r (f * 2)) >>> (sh &&& 31) := by
  unfold vS
  rw [if_neg (by decide), if_pos (by omega : f * 2 % 2 = 0), show f * 2 / 2 * 2 = f * 2 by omega]
theorem vS_o {f : Nat} {sh : Int32} {r : Nat → Int32} {jo : Bool} : vS 2 2 jo sh r (f * 2 + 1) = if jo = true then ((r (f * 2 + 1)) >>> (sh &&& 31)) + ((((r (f * 2)) >>> (sh &&& 31)) - ((r (f * 2 + 1)) >>> (sh &&& 31))) >>> (1 &&& 31)) else (r (f * 2 + 1)) >>> (sh &&& 31) := by
  unfold vS
  rw [if_neg (by decide), if_neg (by omega : ¬ (f * 2 + 1) % 2 = 0), show (f * 2 + 1) / 2 * 2 = f * 2 by omega]
theorem fo2 {g sv : Nat → Int32} {k : Nat} {x y : Int32} (h : ∀ j, j < k → sv j = g j) (hx : x = g k) (hy : y = g (k + 1)) : ∀ j, j < k + 2 → upd (upd sv k x) (k + 1) y j = g j := fo_step (fo_step h hx) hy

theorem vl_lf_wr_X11_readies_1_126 {n : Nat} {sh : Int32} {r : Nat → Int32} : ∀ (d fuel f : Nat) (v : Nat → Int32), f + d = n / 1 → d < fuel → (∀ j, j < f → v j = vS 1 1 false sh r j) → ∃ v' : Nat → Int32, (∀ j, j < n / 1 → v' j = vS 1 1 false sh r j) ∧ ∀ (β : Type) (kx : (Nat → Int32) → Nat → β), lf_wr_X11_readies_1_126 n r sh β kx fuel v f = kx v' (n / 1) := by
  intro d
  induction d with
  | zero =>
    intro fuel f v hf hfu h
    obtain ⟨z, rfl⟩ : ∃ z, fuel = z + 1 := ⟨fuel - 1, by omega⟩
    have e : f = n / 1 := by omega
    refine ⟨v, by rw [← e]; exact h, fun β kx => ?_⟩
    rw [lf_wr_X11_readies_1_126_s, if_pos (by omega), e]
  | succ d ih =>
    intro fuel f v hf hfu h
    obtain ⟨z, rfl⟩ : ∃ z, fuel = z + 1 := ⟨fuel - 1, by omega⟩
    obtain ⟨v', a1, a2⟩ := ih z (f + 1) (upd v f ((r f) >>> (sh &&& 31))) (by omega) (by omega) (fo_step h (by unfold vS; rw [if_pos rfl, Nat.mul_one]))
    refine ⟨v', a1, fun β kx => ?_⟩
    rw [lf_wr_X11_readies_1_126_s, if_neg (by omega), Nat.one_mul]
    exact a2 β kx
theorem vl_lf_wr_X11_readies_1_126_2708 {n : Nat} {sh : Int32} {r : Nat → Int32} : ∀ (d fuel f : Nat) (v : Nat → Int32), f + d = n / 1 → d < fuel → (∀ j, j < f → v j = vS 1 1 false sh r j) → ∃ v' : Nat → Int32, (∀ j, j < n / 1 → v' j = vS 1 1 false sh r j) ∧ ∀ (β : Type) (kx : (Nat → Int32) → Nat → β), lf_wr_X11_readies_1_126_2708 n r sh β kx fuel v f = kx v' (n / 1) := by
  intro d
  induction d with
  | zero =>
    intro fuel f v hf hfu h
    obtain ⟨z, rfl⟩ : ∃ z, fuel = z + 1 := ⟨fuel - 1, by omega⟩
    have e : f = n / 1 := by omega
    refine ⟨v, by rw [← e]; exact h, fun β kx => ?_⟩
    rw [lf_wr_X11_readies_1_126_2708_s, if_pos (by omega), e]
  | succ d ih =>
    intro fuel f v hf hfu h
    obtain ⟨z, rfl⟩ : ∃ z, fuel = z + 1 := ⟨fuel - 1, by omega⟩
    obtain ⟨v', a1, a2⟩ := ih z (f + 1) (upd v f ((r f) >>> (sh &&& 31))) (by omega) (by omega) (fo_step h (by unfold vS; rw [if_pos rfl, Nat.mul_one]))
    refine ⟨v', a1, fun β kx => ?_⟩
    rw [lf_wr_X11_readies_1_126_2708_s, if_neg (by omega), Nat.one_mul]
    exact a2 β kx
theorem vl_lf_wr_X11_readies_2_126 {n : Nat} {sh : Int32} {r : Nat → Int32} : ∀ (d fuel f : Nat) (v : Nat → Int32), f + d = n / 2 → d < fuel → (∀ j, j < 2 * f → v j = vS 2 2 false sh r j) → ∃ v' : Nat → Int32, (∀ j, j < 2 * (n / 2) → v' j = vS 2 2 false sh r j) ∧ ∀ (β : Type) (kx : (Nat → Int32) → Nat → β), lf_wr_X11_readies_2_126 n r sh β kx fuel v f = kx v' (n / 2) := by
  intro d
  induction d with
  | zero =>
    intro fuel f v hf hfu h
    obtain ⟨z, rfl⟩ : ∃ z, fuel = z + 1 := ⟨fuel - 1, by omega⟩
    have e : f = n / 2 := by omega
    refine ⟨v, by rw [← e]; exact h, fun β kx => ?_⟩
    rw [lf_wr_X11_readies_2_126_s, if_pos (by omega), e]
  | succ d ih =>
    intro fuel f v hf hfu h
    obtain ⟨z, rfl⟩ : ∃ z, fuel = z + 1 := ⟨fuel - 1, by omega⟩
    obtain ⟨v', a1, a2⟩ := ih z (f + 1) (upd (upd v (2 * f) ((r (2 * f)) >>> (sh &&& 31))) ((2 * f) + 1) ((r ((2 * f) + 1)) >>> (sh &&& 31))) (by omega) (by omega) ((by rw [show 2 * (f + 1) = 2 * f + 2 by omega]; exact fo2 h (by rw [Nat.mul_comm, vS_e, if_neg (by decide)]) (by rw [Nat.mul_comm, vS_o, if_neg (by decide)])))
    refine ⟨v', a1, fun β kx => ?_⟩
    rw [lf_wr_X11_readies_2_126_s, if_neg (by omega)]
    exact a2 β kx
theorem vl_lf_wr_X11_readies_2_126_2727 {n : Nat} {sh : Int32} {r : Nat → Int32} : ∀ (d fuel f : Nat) (v : Nat → Int32), f + d = n / 2 → d < fuel → (∀ j, j < 2 * f → v j = vS 2 2 false sh r j) → ∃ v' : Nat → Int32, (∀ j, j < 2 * (n / 2) → v' j = vS 2 2 false sh r j) ∧ ∀ (β : Type) (kx : (Nat → Int32) → Nat → β), lf_wr_X11_readies_2_126_2727 n r sh β kx fuel v f = kx v' (n / 2) := by
  intro d
  induction d with
  | zero =>
    intro fuel f v hf hfu h
    obtain ⟨z, rfl⟩ : ∃ z, fuel = z + 1 := ⟨fuel - 1, by omega⟩
    have e : f = n / 2 := by omega
    refine ⟨v, by rw [← e]; exact h, fun β kx => ?_⟩
    rw [lf_wr_X11_readies_2_126_2727_s, if_pos (by omega), e]
  | succ d ih =>
    intro fuel f v hf hfu h
    obtain ⟨z, rfl⟩ : ∃ z, fuel = z + 1 := ⟨fuel - 1, by omega⟩
    obtain ⟨v', a1, a2⟩ := ih z (f + 1) (upd (upd v (2 * f) ((r (2 * f)) >>> (sh &&& 31))) ((2 * f) + 1) ((r ((2 * f) + 1)) >>> (sh &&& 31))) (by omega) (by omega) ((by rw [show 2 * (f + 1) = 2 * f + 2 by omega]; exact fo2 h (by rw [Nat.mul_comm, vS_e, if_neg (by decide)]) (by rw [Nat.mul_comm, vS_o, if_neg (by decide)])))
    refine ⟨v', a1, fun β kx => ?_⟩
    rw [lf_wr_X11_readies_2_126_2727_s, if_neg (by omega)]
    exact a2 β kx
theorem vl_lf_wr_X11_readies_2_126_2735 {n : Nat} {sh : Int32} {r : Nat → Int32} : ∀ (d fuel f : Nat) (v : Nat → Int32), f + d = n / 2 → d < fuel → (∀ j, j < 2 * f → v j = vS 2 2 true sh r j) → ∃ v' : Nat → Int32, (∀ j, j < 2 * (n / 2) → v' j = vS 2 2 true sh r j) ∧ ∀ (β : Type) (kx : (Nat → Int32) → Nat → β), lf_wr_X11_readies_2_126_2735 n r sh β kx fuel v f = kx v' (n / 2) := by
  intro d
  induction d with
  | zero =>
    intro fuel f v hf hfu h
    obtain ⟨z, rfl⟩ : ∃ z, fuel = z + 1 := ⟨fuel - 1, by omega⟩
    have e : f = n / 2 := by omega
    refine ⟨v, by rw [← e]; exact h, fun β kx => ?_⟩
    rw [lf_wr_X11_readies_2_126_2735_s, if_pos (by omega), e]
  | succ d ih =>
    intro fuel f v hf hfu h
    obtain ⟨z, rfl⟩ : ∃ z, fuel = z + 1 := ⟨fuel - 1, by omega⟩
    obtain ⟨v', a1, a2⟩ := ih z (f + 1) (upd (upd v (2 * f) (((r (2 * f)) >>> (sh &&& 31)) - ((r ((2 * f) + 1)) >>> (sh &&& 31)))) ((2 * f) + 1) (((r ((2 * f) + 1)) >>> (sh &&& 31)) + ((((r (2 * f)) >>> (sh &&& 31)) - ((r ((2 * f) + 1)) >>> (sh &&& 31))) >>> (1 &&& 31)))) (by omega) (by omega) ((by rw [show 2 * (f + 1) = 2 * f + 2 by omega]; exact fo2 h (by rw [Nat.mul_comm, vS_e, if_pos rfl]) (by rw [Nat.mul_comm, vS_o, if_pos rfl])))
    refine ⟨v', a1, fun β kx => ?_⟩
    rw [lf_wr_X11_readies_2_126_2735_s, if_neg (by omega), fnL_b, fnL_b]
    exact a2 β kx
theorem vl_lf_wr_X11_readies_2_126_2742 {n : Nat} {sh : Int32} {r : Nat → Int32} : ∀ (d fuel f : Nat) (v : Nat → Int32), f + d = n / 2 → d < fuel → (∀ j, j < 2 * f → v j = vS 2 2 true sh r j) → ∃ v' : Nat → Int32, (∀ j, j < 2 * (n / 2) → v' j = vS 2 2 true sh r j) ∧ ∀ (β : Type) (kx : (Nat → Int32) → Nat → β), lf_wr_X11_readies_2_126_2742 n r sh β kx fuel v f = kx v' (n / 2) := by
  intro d
  induction d with
  | zero =>
    intro fuel f v hf hfu h
    obtain ⟨z, rfl⟩ : ∃ z, fuel = z + 1 := ⟨fuel - 1, by omega⟩
    have e : f = n / 2 := by omega
    refine ⟨v, by rw [← e]; exact h, fun β kx => ?_⟩
    rw [lf_wr_X11_readies_2_126_2742_s, if_pos (by omega), e]
  | succ d ih =>
    intro fuel f v hf hfu h
    obtain ⟨z, rfl⟩ : ∃ z, fuel = z + 1 := ⟨fuel - 1, by omega⟩
    obtain ⟨v', a1, a2⟩ := ih z (f + 1) (upd (upd v (2 * f) (((r (2 * f)) >>> (sh &&& 31)) - ((r ((2 * f) + 1)) >>> (sh &&& 31)))) ((2 * f) + 1) (((r ((2 * f) + 1)) >>> (sh &&& 31)) + ((((r (2 * f)) >>> (sh &&& 31)) - ((r ((2 * f) + 1)) >>> (sh &&& 31))) >>> (1 &&& 31)))) (by omega) (by omega) ((by rw [show 2 * (f + 1) = 2 * f + 2 by omega]; exact fo2 h (by rw [Nat.mul_comm, vS_e, if_pos rfl]) (by rw [Nat.mul_comm, vS_o, if_pos rfl])))
    refine ⟨v', a1, fun β kx => ?_⟩
    rw [lf_wr_X11_readies_2_126_2742_s, if_neg (by omega), fnL_b, fnL_b]
    exact a2 β kx
theorem vl_lf_wr_X11_readies_2_126_2752 {n : Nat} {sh : Int32} {r : Nat → Int32} : ∀ (d fuel f : Nat) (v : Nat → Int32), f + d = n / 2 → d < fuel → (∀ j, j < f → v j = vS 2 1 false sh r j) → ∃ v' : Nat → Int32, (∀ j, j < n / 2 → v' j = vS 2 1 false sh r j) ∧ ∀ (β : Type) (kx : (Nat → Int32) → Nat → β), lf_wr_X11_readies_2_126_2752 n r sh β kx fuel v f = kx v' (n / 2) := by
  intro d
  induction d with
  | zero =>
    intro fuel f v hf hfu h
    obtain ⟨z, rfl⟩ : ∃ z, fuel = z + 1 := ⟨fuel - 1, by omega⟩
    have e : f = n / 2 := by omega
    refine ⟨v, by rw [← e]; exact h, fun β kx => ?_⟩
    rw [lf_wr_X11_readies_2_126_2752_s, if_pos (by omega), e]
  | succ d ih =>
    intro fuel f v hf hfu h
    obtain ⟨z, rfl⟩ : ∃ z, fuel = z + 1 := ⟨fuel - 1, by omega⟩
    obtain ⟨v', a1, a2⟩ := ih z (f + 1) (upd v f ((r (2 * f)) >>> (sh &&& 31))) (by omega) (by omega) (fo_step h (by unfold vS; rw [if_pos rfl, Nat.mul_comm]))
    refine ⟨v', a1, fun β kx => ?_⟩
    rw [lf_wr_X11_readies_2_126_2752_s, if_neg (by omega), Nat.one_mul]
    exact a2 β kx
theorem vl_lf_wr_X11_readies_2_126_2757 {n : Nat} {sh : Int32} {r : Nat → Int32} : ∀ (d fuel f : Nat) (v : Nat → Int32), f + d = n / 2 → d < fuel → (∀ j, j < f → v j = vS 2 1 false sh r j) → ∃ v' : Nat → Int32, (∀ j, j < n / 2 → v' j = vS 2 1 false sh r j) ∧ ∀ (β : Type) (kx : (Nat → Int32) → Nat → β), lf_wr_X11_readies_2_126_2757 n r sh β kx fuel v f = kx v' (n / 2) := by
  intro d
  induction d with
  | zero =>
    intro fuel f v hf hfu h
    obtain ⟨z, rfl⟩ : ∃ z, fuel = z + 1 := ⟨fuel - 1, by omega⟩
    have e : f = n / 2 := by omega
    refine ⟨v, by rw [← e]; exact h, fun β kx => ?_⟩
    rw [lf_wr_X11_readies_2_126_2757_s, if_pos (by omega), e]
  | succ d ih =>
    intro fuel f v hf hfu h
    obtain ⟨z, rfl⟩ : ∃ z, fuel = z + 1 := ⟨fuel - 1, by omega⟩
    obtain ⟨v', a1, a2⟩ := ih z (f + 1) (upd v f ((r (2 * f)) >>> (sh &&& 31))) (by omega) (by omega) (fo_step h (by unfold vS; rw [if_pos rfl, Nat.mul_comm]))
    refine ⟨v', a1, fun β kx => ?_⟩
    rw [lf_wr_X11_readies_2_126_2757_s, if_neg (by omega), Nat.one_mul]
    exact a2 β kx
theorem r_readies_1 {n E : Nat} {r v : Nat → Int32} {s : Nat} (hn : n / 1 ≤ 600) (hs : ∀ (β : Type) (K : Int32 → β), fn_wr_X11_shiftOf n r β K = K (nI s)) : ∃ v' : Nat → Int32, (∀ j, j < n / 1 → v' j = vS 1 1 false (nI s) r j) ∧ ∀ (β : Type) (K : Nat → Int32 → Nat → Int32 → (Nat → Int32) → β), fn_wr_X11_readies_1 n E r v β K = K (n / 1) (nI s) 1 (if E = 0 then 0 else 8) v' := by
  by_cases e : E = 0
  · obtain ⟨v', a1, a2⟩ := vl_lf_wr_X11_readies_1_126 (n := n) (sh := nI s) (r := r) (n / 1) 601 0 v (by omega) (by omega) (fun j hj => absurd hj (Nat.not_lt_zero _))
    refine ⟨v', a1, fun β K => ?_⟩
    rw [fn_wr_X11_readies_1_s, hs, if_pos (by omega), if_pos e]
    exact a2 β _
  · obtain ⟨v', a1, a2⟩ := vl_lf_wr_X11_readies_1_126_2708 (n := n) (sh := nI s) (r := r) (n / 1) 601 0 v (by omega) (by omega) (fun j hj => absurd hj (Nat.not_lt_zero _))
    refine ⟨v', a1, fun β K => ?_⟩
    rw [fn_wr_X11_readies_1_s, hs, if_neg (by omega), if_neg e]
    exact a2 β _
/-- FLAGS of two CHANNELS -/
def fl2 (tw jo : Bool) (E : Nat) : Int32 := if tw = true then (if E = 0 then 3 else 11) else if jo = true then (if E = 0 then 5 else 13) else (if E = 0 then 1 else 9)
theorem r_readies_2 {n E : Nat} {r v : Nat → Int32} {s : Nat} {tw : Bool} {jo : Int32} (hn : n / 2 ≤ 600) (hs : ∀ (β : Type) (K : Int32 → β), fn_wr_X11_shiftOf n r β K = K (nI s)) (ht : ∀ (β : Type) (K : Int32 → β), fn_wr_X11_areTwins n r β K = K (if tw = true then 1 else 0)) : ∃ v' : Nat → Int32, (∀ j, j < (if tw = true then n / 2 else 2 * (n / 2)) → v' j = vS 2 (if tw = true then 1 else 2) (!tw && decide (¬ jo = 0)) (nI s) r j) ∧ ∀ (β : Type) (K : Nat → Int32 → Nat → Int32 → (Nat → Int32) → β), fn_wr_X11_readies_2 n E r v jo β K = K (n / 2) (nI s) (if tw = true then 1 else 2) (fl2 tw (decide (¬ jo = 0)) E) v' := by
  cases tw
  · by_cases hj : jo = 0
    · have hd : decide (¬ jo = 0) = false := by simp [hj]
      rw [hd]
      by_cases e : E = 0
      · obtain ⟨v', a1, a2⟩ := vl_lf_wr_X11_readies_2_126 (n := n) (sh := nI s) (r := r) (n / 2) 601 0 v (by omega) (by omega) (fun j hj => absurd hj (by omega))
        refine ⟨v', a1, fun β K => ?_⟩
        rw [fn_wr_X11_readies_2_s, hs, ht, if_pos (by decide), if_pos hj, if_pos (by omega)]
        rw [show fl2 false false E = 1 by unfold fl2; simp [e]]
        exact a2 β _
      · obtain ⟨v', a1, a2⟩ := vl_lf_wr_X11_readies_2_126_2727 (n := n) (sh := nI s) (r := r) (n / 2) 601 0 v (by omega) (by omega) (fun j hj => absurd hj (by omega))
        refine ⟨v', a1, fun β K => ?_⟩
        rw [fn_wr_X11_readies_2_s, hs, ht, if_pos (by decide), if_pos hj, if_neg (by omega)]
        rw [show fl2 false false E = 9 by unfold fl2; simp [e]]
        exact a2 β _
    · have hd : decide (¬ jo = 0) = true := by simp [hj]
      rw [hd]
      by_cases e : E = 0
      · obtain ⟨v', a1, a2⟩ := vl_lf_wr_X11_readies_2_126_2735 (n := n) (sh := nI s) (r := r) (n / 2) 601 0 v (by omega) (by omega) (fun j hj => absurd hj (by omega))
        refine ⟨v', a1, fun β K => ?_⟩
        rw [fn_wr_X11_readies_2_s, hs, ht, if_pos (by decide), if_neg hj, if_pos (by omega)]
        rw [show fl2 false true E = 5 by unfold fl2; simp [e]]
        exact a2 β _
      · obtain ⟨v', a1, a2⟩ := vl_lf_wr_X11_readies_2_126_2742 (n := n) (sh := nI s) (r := r) (n / 2) 601 0 v (by omega) (by omega) (fun j hj => absurd hj (by omega))
        refine ⟨v', a1, fun β K => ?_⟩
        rw [fn_wr_X11_readies_2_s, hs, ht, if_pos (by decide), if_neg hj, if_neg (by omega)]
        rw [show fl2 false true E = 13 by unfold fl2; simp [e]]
        exact a2 β _
  · by_cases e : E = 0
    · obtain ⟨v', a1, a2⟩ := vl_lf_wr_X11_readies_2_126_2752 (n := n) (sh := nI s) (r := r) (n / 2) 601 0 v (by omega) (by omega) (fun j hj => absurd hj (Nat.not_lt_zero _))
      refine ⟨v', a1, fun β K => ?_⟩
      rw [fn_wr_X11_readies_2_s, hs, ht, if_pos rfl, if_neg (by decide), if_pos (by omega)]
      rw [show fl2 true (decide (¬ jo = 0)) E = 3 by unfold fl2; simp [e]]
      exact a2 β _
    · obtain ⟨v', a1, a2⟩ := vl_lf_wr_X11_readies_2_126_2757 (n := n) (sh := nI s) (r := r) (n / 2) 601 0 v (by omega) (by omega) (fun j hj => absurd hj (Nat.not_lt_zero _))
      refine ⟨v', a1, fun β K => ?_⟩
      rw [fn_wr_X11_readies_2_s, hs, ht, if_pos rfl, if_neg (by decide), if_neg (by omega)]
      rw [show fl2 true (decide (¬ jo = 0)) E = 11 by unfold fl2; simp [e]]
      exact a2 β _
