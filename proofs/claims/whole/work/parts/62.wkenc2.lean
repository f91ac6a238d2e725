def sndN (ch l : Int32) : Int32 := if ch = 2 then l / 2 else l
def sndO (ch l : Int32) : Prop := ¬ sndN ch l < 1 ∧ ¬ 600 < sndN ch l
theorem snd2 {l : Int32} {ch : Int32} (h : ch = 2) (a : ¬ l / 2 < 1) (b : ¬ 600 < l / 2) : sndO ch l := by
  unfold sndO sndN
  rw [if_pos h]
  exact ⟨a, b⟩
theorem snd1 {l : Int32} {ch : Int32} (h : ¬ ch = 2) (a : ¬ l < 1) (b : ¬ 600 < l) : sndO ch l := by
  unfold sndO sndN
  rw [if_neg h]
  exact ⟨a, b⟩
theorem snd2' {l : Int32} {ch : Int32} (h : ch = 2) (a : sndO ch l) : ∃ n : Nat, n ≤ 600 ∧ l / 2 = nI n := by
  have := fr_of a.1 a.2
  unfold sndN at this
  rw [if_pos h] at this
  exact this
theorem snd1' {l : Int32} {ch : Int32} (h : ¬ ch = 2) (a : sndO ch l) : ∃ n : Nat, n ≤ 600 ∧ l = nI n := by
  have := fr_of a.1 a.2
  unfold sndN at this
  rw [if_neg h] at this
  exact this
theorem tw_in {i : Int32} (h0 : ¬ i < 0) (h1 : i + 1 < 1200) : vp_in i 1200 ∧ vp_in (i + 1) 1200 ∧ ¬ (i + 2) < 0 ∧ (Int32.toInt 1200 - Int32.toInt (i + 2)).toNat < (Int32.toInt 1200 - Int32.toInt i).toNat := by
  obtain ⟨j, hj, rfl⟩ := nI_of h0
  have e1 : nI j + 1 = nI (j + 1) := nI_add j 1
  have e2 : nI j + 2 = nI (j + 2) := nI_add j 2
  rcases Nat.lt_or_ge j 1199 with h | h
  · rw [e1, e2]
    refine ⟨vp_in_nI (by omega) (by decide), vp_in_nI (by omega) (by decide), nI_pos (by omega), ?_⟩
    have e3 : Int32.toInt 1200 = 1200 := by decide
    rw [nI_toInt (by omega), nI_toInt (by omega), e3]
    omega
  · exfalso
    rw [e1] at h1
    by_cases h4 : j + 1 < 2 ^ 31
    · exact absurd (nI_le (a := 1200) (b := j + 1) (by omega) h4) (o_3 h1)
    · sorry
