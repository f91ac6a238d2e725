/-! what holds between the two objects; the small methods -/
theorem out1 {A : Type} {F : (β : Type) → (A → β) → β} {a a' : A} (h1 : ∀ (β : Type) (k : A → β), F β k = k a) (h2 : ∀ (β : Type) (k : A → β), F β k = k a') : a = a' := (h1 A (fun x => x)).symm.trans (h2 A (fun x => x))
theorem out2 {A B : Type} {F : (β : Type) → (A → B → β) → β} {a a' : A} {b b' : B} (h1 : ∀ (β : Type) (k : A → B → β), F β k = k a b) (h2 : ∀ (β : Type) (k : A → B → β), F β k = k a' b') : a = a' ∧ b = b' := ⟨(h1 A (fun x _ => x)).symm.trans (h2 A (fun x _ => x)), (h1 B (fun _ x => x)).symm.trans (h2 B (fun _ x => x))⟩
theorem out3 {A B C : Type} {F : (β : Type) → (A → B → C → β) → β} {a a' : A} {b b' : B} {c c' : C} (h1 : ∀ (β : Type) (k : A → B → C → β), F β k = k a b c) (h2 : ∀ (β : Type) (k : A → B → C → β), F β k = k a' b' c') : a = a' ∧ b = b' ∧ c = c' := ⟨(h1 A (fun x _ _ => x)).symm.trans (h2 A (fun x _ _ => x)), (h1 B (fun _ x _ => x)).symm.trans (h2 B (fun _ x _ => x)), (h1 C (fun _ _ x => x)).symm.trans (h2 C (fun _ _ x => x))⟩
theorem out4 {A B C D : Type} {F : (β : Type) → (A → B → C → D → β) → β} {a a' : A} {b b' : B} {c c' : C} {d d' : D} (h1 : ∀ (β : Type) (k : A → B → C → D → β), F β k = k a b c d) (h2 : ∀ (β : Type) (k : A → B → C → D → β), F β k = k a' b' c' d') : a = a' ∧ b = b' ∧ c = c' ∧ d = d' := ⟨(h1 A (fun x _ _ _ => x)).symm.trans (h2 A (fun x _ _ _ => x)), (h1 B (fun _ x _ _ => x)).symm.trans (h2 B (fun _ x _ _ => x)), (h1 C (fun _ _ x _ => x)).symm.trans (h2 C (fun _ _ x _ => x)), (h1 D (fun _ _ _ x => x)).symm.trans (h2 D (fun _ _ _ x => x))⟩
def Rrow (x1 : Nat) (nu : Nat → Int32) (m1 : Nat) (r0 : Nat → Int32) : Prop := m1 = x1 ∧ x1 ≤ 1200 ∧ ∀ j, j < x1 → nu j = r0 j
def Rpl (pl : Nat) (plt pld : Nat → Int32) (m4 : Nat) (r2 r3 : Nat → Int32) : Prop := m4 = pl ∧ pl ≤ 8 ∧ ∀ j, j < pl → plt j = r2 j ∧ pld j = r3 j ∧ TV (r2 j)
def Rby (off k lim : Nat) (t : Int32) (f g : Nat → Int32) : Prop := t = nI k ∧ k ≤ lim ∧ ∀ j, j < k → nb f j = nb g (off + j)
def Rsn (w2 w3 w4 : Nat) (w5 w6 w7 w8 w9 w10 w11 : Int32) (p2 : Nat) (we : Nat → Int32) (mi : Nat → Int64) (r11 r12 : Nat → Int32) (r13 : Nat → Int64) : Prop := r11 0 = nI w2 ∧ r11 1 = nI w4 ∧ r11 2 = w5 ∧ r11 3 = w6 ∧ r11 4 = nI p2 ∧ r11 5 = w7 ∧ r11 6 = w8 ∧ r11 7 = w9 ∧ r11 8 = w10 ∧ r11 9 = w11 ∧ w3 ≤ 2 ∧ p2 ≤ 8 ∧ (∀ p c, p < 8 → c < 2 → r12 (2 * p + c) = if p < p2 ∧ c < w3 then we (2 * p + c) else 0) ∧ (∀ k, k < 6 → r13 k = if k / 3 < w3 then mi k else 0)
theorem rel_say {x1 m1 zx zm : Nat} {nu r0 r49 znu zr0 z49 : Nat → Int32} {a0 a1 a2 a3 a4 z z' : Int32} (h : Rrow x1 nu m1 r0) (hc : ∀ (β : Type) (k_ : Nat → (Nat → Int32) → Int32 → β), fn_wk_X10_say x1 nu a0 a1 a2 a3 a4 β k_ = k_ zx znu z) (hr : ∀ (β : Type) (k_ : Nat → (Nat → Int32) → (Nat → Int32) → Int32 → β), fn_wr_X11_say m1 r0 r49 a0 a1 a2 a3 a4 β k_ = k_ zm zr0 z49 z') : z = z' ∧ Rrow zx znu zm zr0 := by
  obtain ⟨rfl, hx, hj⟩ := h
  by_cases h5 : m1 + 5 ≤ 1200
  · have k1 : ∀ (β : Type) (k_ : Nat → (Nat → Int32) → Int32 → β), fn_wk_X10_say m1 nu a0 a1 a2 a3 a4 β k_ = k_ (m1 + 5) (upd (upd (upd (upd (upd nu m1 a0) (m1 + 1) a1) (m1 + 2) a2) (m1 + 3) a3) (m1 + 4) a4) (nI (m1 + 5)) := fun β k_ => by
      rw [fn_wk_X10_say_s, if_neg (nI_pos (by omega)), show nI m1 + 5 = nI (m1 + 5) from nI_add m1 5, if_pos (show nI (m1 + 5) ≤ (1200 : Int32) from nI_le (a := m1 + 5) (b := 1200) h5 (by omega)), show nI m1 + 1 = nI (m1 + 1) from nI_add m1 1, show nI m1 + 2 = nI (m1 + 2) from nI_add m1 2, show nI m1 + 3 = nI (m1 + 3) from nI_add m1 3, show nI m1 + 4 = nI (m1 + 4) from nI_add m1 4, nI_clamp (by omega), nI_clamp (by omega), nI_clamp (by omega), nI_clamp (by omega)]
    have k2 : ∀ (β : Type) (k_ : Nat → (Nat → Int32) → (Nat → Int32) → Int32 → β), fn_wr_X11_say m1 r0 r49 a0 a1 a2 a3 a4 β k_ = k_ (m1 + 5) (upd (upd (upd (upd (upd r0 m1 a0) (m1 + 1) a1) (m1 + 2) a2) (m1 + 3) a3) (m1 + 4) a4) (upd (upd (upd (upd (upd r49 0 a0) 1 a1) 2 a2) 3 a3) 4 a4) (nI (m1 + 5)) := fun β k_ => by
      rw [fn_wr_X11_say_s, if_pos h5]
      rfl
    obtain ⟨rfl, rfl, rfl⟩ := out3 hc k1
    obtain ⟨rfl, rfl, rfl, rfl⟩ := out4 hr k2
    exact ⟨rfl, rfl, h5, ru1 (ru1 (ru1 (ru1 (ru1 hj))))⟩
  · have k1 : ∀ (β : Type) (k_ : Nat → (Nat → Int32) → Int32 → β), fn_wk_X10_say m1 nu a0 a1 a2 a3 a4 β k_ = k_ m1 nu (-1) := fun β k_ => by
      rw [fn_wk_X10_say_s, if_neg (nI_pos (by omega)), show nI m1 + 5 = nI (m1 + 5) from nI_add m1 5, if_neg (show ¬ nI (m1 + 5) ≤ (1200 : Int32) from nI_ge (a := 1200) (b := m1 + 5) (by omega) (by omega))]
    have k2 : ∀ (β : Type) (k_ : Nat → (Nat → Int32) → (Nat → Int32) → Int32 → β), fn_wr_X11_say m1 r0 r49 a0 a1 a2 a3 a4 β k_ = k_ m1 r0 r49 (-1) := fun β k_ => by
      rw [fn_wr_X11_say_s, if_neg h5]
    obtain ⟨rfl, rfl, rfl⟩ := out3 hc k1
    obtain ⟨rfl, rfl, rfl, rfl⟩ := out4 hr k2
    exact ⟨rfl, rfl, hx, hj⟩
theorem rel_cut {x1 m1 zx zm : Nat} {nu r0 : Nat → Int32} {n z z' : Int32} (h : Rrow x1 nu m1 r0) (hc : ∀ (β : Type) (k_ : Nat → Int32 → β), fn_wk_X10_cut x1 n β k_ = k_ zx z) (hr : ∀ (β : Type) (k_ : Nat → Int32 → β), fn_wr_X11_cut m1 n β k_ = k_ zm z') : z = z' ∧ Rrow zx nu zm r0 := by
  obtain ⟨rfl, hx, hj⟩ := h
  by_cases h0 : n < 0
  · obtain ⟨rfl, rfl⟩ := out2 hc (fun β k_ => by rw [fn_wk_X10_cut_s, if_pos h0])
    obtain ⟨rfl, rfl⟩ := out2 hr (fun β k_ => by rw [fn_wr_X11_cut_s, if_pos h0])
    exact ⟨rfl, rfl, hx, hj⟩
  · by_cases h1 : n ≤ nI m1
    · obtain ⟨j, hjn, rfl⟩ := nI_of2 (nI_toInt (n := m1) (by omega)) h0 h1
      obtain ⟨rfl, rfl⟩ := out2 hc (fun β k_ => by rw [fn_wk_X10_cut_s, if_neg h0, if_pos h1, fnL_b, nI_clamp (by omega)])
      obtain ⟨rfl, rfl⟩ := out2 hr (fun β k_ => by rw [fn_wr_X11_cut_s, if_neg h0, if_pos h1, fnL_b, nI_clamp (by omega)])
      exact ⟨rfl, rfl, by omega, fun i hi => hj i (by omega)⟩
    · obtain ⟨rfl, rfl⟩ := out2 hc (fun β k_ => by rw [fn_wk_X10_cut_s, if_neg h0, if_neg h1])
      obtain ⟨rfl, rfl⟩ := out2 hr (fun β k_ => by rw [fn_wr_X11_cut_s, if_neg h0, if_neg h1])
      exact ⟨rfl, rfl, hx, hj⟩
theorem rel_row {x1 m1 : Nat} {nu r0 : Nat → Int32} {i z z' : Int32} (h : Rrow x1 nu m1 r0) (hc : ∀ (β : Type) (k_ : Int32 → β), fn_wk_X10_row x1 nu i β k_ = k_ z) (hr : ∀ (β : Type) (k_ : Int32 → β), fn_wr_X11_row m1 r0 i β k_ = k_ z') : z = z' := by
  obtain ⟨rfl, hx, hj⟩ := h
  rcases pk_ix i (n := m1) (by omega) with h0 | h1 | ⟨j, hjn, rfl⟩
  · rw [out1 hc (fun β k_ => by rw [fn_wk_X10_row_s, if_pos h0]), out1 hr (fun β k_ => by rw [fn_wr_X11_row_s, if_pos h0])]
  · by_cases h0 : i < 0
    · rw [out1 hc (fun β k_ => by rw [fn_wk_X10_row_s, if_pos h0]), out1 hr (fun β k_ => by rw [fn_wr_X11_row_s, if_pos h0])]
    · rw [out1 hc (fun β k_ => by rw [fn_wk_X10_row_s, if_neg h0, if_pos h1]), out1 hr (fun β k_ => by rw [fn_wr_X11_row_s, if_neg h0, if_neg (o_4 h1)])]
  · rw [out1 hc (fun β k_ => by rw [fn_wk_X10_row_s, if_neg (nI_pos (by omega)), if_neg (nI_ge hjn (by omega)), if_neg (show ¬ (1200 : Int32) ≤ nI j from nI_ge (a := j) (b := 1200) (by omega) (by omega)), nI_clamp (by omega)]), out1 hr (fun β k_ => by rw [fn_wr_X11_row_s, if_neg (nI_pos (by omega)), if_pos (nI_lt hjn (by omega)), fnL_b, nI_clamp (by omega)])]
    exact hj j hjn
theorem rel_rows {x1 m1 : Nat} {nu r0 : Nat → Int32} {z z' : Int32} (h : Rrow x1 nu m1 r0) (hc : ∀ (β : Type) (k_ : Int32 → β), fn_wk_X10_rows x1 β k_ = k_ z) (hr : ∀ (β : Type) (k_ : Int32 → β), fn_wr_X11_rows m1 β k_ = k_ z') : z = z' := by
  obtain ⟨rfl, hx, hj⟩ := h
  rw [out1 hc (fun β k_ => fn_wk_X10_rows_s), out1 hr (fun β k_ => fn_wr_X11_rows_s)]
theorem tI_tv {t : Int32} : tI t = if tvB t = true then 1 else 0 := by
  unfold tI tvB
  by_cases h1 : t < 1 <;> by_cases h2 : t ≤ 8 <;> by_cases h3 : t = 17 <;> by_cases h4 : t = 18 <;> by_cases h5 : t = -1 <;> by_cases h6 : t = -3 <;> simp [h1, h2, h3, h4, h5, h6]
theorem rel_pass {pl m4 zp zm : Nat} {plt pld r2 r3 zt zd y2 y3 : Nat → Int32} {t d z z' : Int32} (h : Rpl pl plt pld m4 r2 r3) (hc : ∀ (β : Type) (k_ : Nat → (Nat → Int32) → (Nat → Int32) → Int32 → β), fn_wk_X10_pass pl plt pld t d β k_ = k_ zp zt zd z) (hr : ∀ (β : Type) (k_ : Nat → (Nat → Int32) → (Nat → Int32) → Int32 → β), fn_wr_X11_pass m4 r2 r3 t d β k_ = k_ zm y2 y3 z') : z = z' ∧ Rpl zp zt zd zm y2 y3 := by
  obtain ⟨rfl, hx, hj⟩ := h
  have no : (∀ (β : Type) (k_ : Nat → (Nat → Int32) → (Nat → Int32) → Int32 → β), fn_wk_X10_pass m4 plt pld t d β k_ = k_ m4 plt pld (-1)) → (∀ (β : Type) (k_ : Nat → (Nat → Int32) → (Nat → Int32) → Int32 → β), fn_wr_X11_pass m4 r2 r3 t d β k_ = k_ m4 r2 r3 (-1)) → z = z' ∧ Rpl zp zt zd zm y2 y3 := fun k1 k2 => by
    obtain ⟨rfl, rfl, rfl, rfl⟩ := out4 hc k1
    obtain ⟨rfl, rfl, rfl, rfl⟩ := out4 hr k2
    exact ⟨rfl, rfl, hx, hj⟩
  by_cases h8 : m4 = 8
  · exact no (fun β k_ => by rw [fn_wk_X10_pass_s, fn_wk_X7_add_s, if_neg (nI_pos (by omega)), if_pos (show (8 : Int32) ≤ nI m4 from by rw [h8]; decide), if_pos rfl]) (fun β k_ => by rw [fn_wr_X11_pass_s, if_pos h8])
  · have n8 : ¬ (8 : Int32) ≤ nI m4 := nI_ge (a := m4) (b := 8) (by omega) (by omega)
    by_cases htv : tvB t = true
    · have ht : ¬ tI t = 0 := by rw [tI_tv, if_pos htv]; decide
      by_cases hd1 : d < 1
      · exact no (fun β k_ => by rw [fn_wk_X10_pass_s, fn_wk_X7_add_s, if_neg (nI_pos (by omega)), if_neg n8, c_isTerm, if_pos htv, if_neg (by decide), if_pos hd1, if_pos rfl]) (fun β k_ => by rw [fn_wr_X11_pass_s, if_neg h8, if_neg ht, if_pos hd1])
      · by_cases hd7 : d ≤ 7
        · obtain ⟨rfl, rfl, rfl, rfl⟩ := out4 hc (fun β k_ => by rw [fn_wk_X10_pass_s, fn_wk_X7_add_s, if_neg (nI_pos (by omega)), if_neg n8, c_isTerm, if_pos htv, if_neg (by decide), if_neg hd1, if_pos hd7, if_neg (by decide)])
          obtain ⟨rfl, rfl, rfl, rfl⟩ := out4 hr (fun β k_ => by rw [fn_wr_X11_pass_s, if_neg h8, if_neg ht, if_neg hd1, if_pos hd7])
          refine ⟨rfl, rfl, by omega, fun j hj2 => ?_⟩
          by_cases e : j = m4
          · subst e
            rw [pk_us, pk_us, pk_us, pk_us]
            exact ⟨rfl, rfl, tvB_tv htv⟩
          · rw [pk_un e, pk_un e, pk_un e, pk_un e]
            exact hj j (by omega)
        · exact no (fun β k_ => by rw [fn_wk_X10_pass_s, fn_wk_X7_add_s, if_neg (nI_pos (by omega)), if_neg n8, c_isTerm, if_pos htv, if_neg (by decide), if_neg hd1, if_neg hd7, if_pos rfl]) (fun β k_ => by rw [fn_wr_X11_pass_s, if_neg h8, if_neg ht, if_neg hd1, if_neg hd7])
    · have ht : tI t = 0 := by rw [tI_tv, if_neg htv]
      exact no (fun β k_ => by rw [fn_wk_X10_pass_s, fn_wk_X7_add_s, if_neg (nI_pos (by omega)), if_neg n8, c_isTerm, if_neg htv, if_pos rfl, if_pos rfl]) (fun β k_ => by rw [fn_wr_X11_pass_s, if_neg h8, if_pos ht])
theorem rel_unpass {pl m4 zp : Nat} {plt pld r2 r3 : Nat → Int32} {z : Int32} (h : Rpl pl plt pld m4 r2 r3) (hc : ∀ (β : Type) (k_ : Nat → Int32 → β), fn_wk_X10_unpass pl β k_ = k_ zp z) : z = nI m4 ∧ Rpl zp plt pld 0 r2 r3 := by
  obtain ⟨rfl, hx, hj⟩ := h
  obtain ⟨rfl, rfl⟩ := out2 hc (fun β k_ => by rw [fn_wk_X10_unpass_s, fn_wk_X7_clear_s])
  exact ⟨rfl, rfl, Nat.zero_le _, fun j hj2 => absurd hj2 (Nat.not_lt_zero _)⟩
theorem rb_wr4 {off k : Nat} {f g : Nat → Int32} {v : Int32} (h : ∀ j, j < k → nb f j = nb g (off + j)) : ∀ j, j < k + 4 → nb (wr4 f k v) j = nb (wr4 g (off + k) v) (off + j) := fun j hj => by
  by_cases e : j < k
  · rw [wr4_out (Or.inl e), wr4_out (Or.inl (by omega)), h j e]
  · obtain ⟨i, rfl⟩ : ∃ i, j = k + i := ⟨j - k, by omega⟩
    rw [← Nat.add_assoc]
    exact wr4_in (by omega)
theorem b_xor (x b : Int32) : Int8.toInt32 (Int32.toInt8 (x ^^^ b)) = Int8.toInt32 (Int32.toInt8 (x ^^^ (Int8.toInt32 (Int32.toInt8 b)))) := by
  rw [Int32.toInt8_xor, Int32.toInt8_xor, Int8.toInt8_toInt32]
theorem sh_fits {t : Int32} {k : Nat} (ht : t = nI k) (hk : k ≤ 6000) {n : Int32} : (∃ j, j ≤ k ∧ n = nI j ∧ ¬ n < 0 ∧ n ≤ t) ∨ (¬ n < 0 ∧ ¬ n ≤ t) ∨ n < 0 := by
  by_cases h0 : n < 0
  · exact Or.inr (Or.inr h0)
  · by_cases h1 : n ≤ t
    · rw [ht] at h1
      obtain ⟨j, hjn, e⟩ := nI_of2 (nI_toInt (n := k) (by omega)) h0 h1
      exact Or.inl ⟨j, hjn, e, h0, by rw [ht]; exact h1⟩
    · exact Or.inr (Or.inl ⟨h0, h1⟩)
theorem Rby_far {off k lim a : Nat} {t : Int32} {f g g' : Nat → Int32} (h : Rby off k lim t f g) (hg : ∀ i, off ≤ i → i < off + k → nb g' i = nb g i) : Rby off k lim t f g' := ⟨h.1, h.2.1, fun j hj => by rw [hg (off + j) (by omega) (by omega)]; exact h.2.2 j hj⟩
theorem rel_end_0 {r6 y6 : Nat → Nat} {r5 f f2 : Nat → Int32} {t t2 n zt z z' : Int32} (h : Rby 0 (r6 0) 6000 t f r5) (ho : Rby 6000 (r6 1) 6000 t2 f2 r5) (hc : ∀ (β : Type) (k_ : Int32 → Int32 → β), fn_wk_X10_end_0 t n β k_ = k_ zt z) (hr : ∀ (β : Type) (k_ : (Nat → Nat) → Int32 → β), fn_wr_X11_end_0 r6 n β k_ = k_ y6 z') : z = z' ∧ Rby 0 (y6 0) 6000 zt f r5 ∧ Rby 6000 (y6 1) 6000 t2 f2 r5 := by
  obtain ⟨ht, hk, hj⟩ := h
  rcases sh_fits (n := n) ht hk with ⟨j, hjk, e, h0, h1⟩ | ⟨h0, h1⟩ | h0
  · obtain ⟨rfl, rfl⟩ := out2 hc (fun β k_ => by rw [fn_wk_X10_end_0_s, fn_wk_X2_shorten_s, if_neg h0, if_pos h1, if_neg (by decide)])
    obtain ⟨rfl, rfl⟩ := out2 hr (fun β k_ => by rw [fn_wr_X11_end_0_s, if_neg h0, if_pos (by rw [← ht]; exact h1), fnL_b, e, nI_clamp (by omega)])
    exact ⟨rfl, ⟨by rw [updN_eq]; exact e, by rw [updN_eq]; omega, fun i hi => hj i (by rw [updN_eq] at hi; omega)⟩, by rw [updN_ne (by decide)]; exact ho⟩
  · obtain ⟨rfl, rfl⟩ := out2 hc (fun β k_ => by rw [fn_wk_X10_end_0_s, fn_wk_X2_shorten_s, if_neg h0, if_neg h1, if_pos rfl])
    obtain ⟨rfl, rfl⟩ := out2 hr (fun β k_ => by rw [fn_wr_X11_end_0_s, if_neg h0, if_neg (by rw [← ht]; exact h1)])
    exact ⟨rfl, ⟨ht, hk, hj⟩, ho⟩
  · obtain ⟨rfl, rfl⟩ := out2 hc (fun β k_ => by rw [fn_wk_X10_end_0_s, fn_wk_X2_shorten_s, if_pos h0, if_pos rfl])
    obtain ⟨rfl, rfl⟩ := out2 hr (fun β k_ => by rw [fn_wr_X11_end_0_s, if_pos h0])
    exact ⟨rfl, ⟨ht, hk, hj⟩, ho⟩
theorem rel_feed_0 {r6 y6 : Nat → Nat} {r5 f f2 zf y5 : Nat → Int32} {t t2 a1 a2 a3 zt z z' : Int32} (h : Rby 0 (r6 0) 6000 t f r5) (ho : Rby 6000 (r6 1) 6000 t2 f2 r5) (hc : ∀ (β : Type) (k_ : Int32 → (Nat → Int32) → Int32 → β), fn_wk_X10_feed_0 t f a1 a2 a3 β k_ = k_ zt zf z) (hr : ∀ (β : Type) (k_ : (Nat → Nat) → (Nat → Int32) → Int32 → β), fn_wr_X11_feed_0 r6 r5 a1 a2 a3 β k_ = k_ y6 y5 z') : z = z' ∧ Rby 0 (y6 0) 6000 zt zf y5 ∧ Rby 6000 (y6 1) 6000 t2 f2 y5 := by
  obtain ⟨rfl, hk, hj⟩ := h
  by_cases h12 : r6 0 + 12 ≤ 6000
  · have k1 : ∀ (β : Type) (k_ : Int32 → (Nat → Int32) → Int32 → β), fn_wk_X10_feed_0 (nI (r6 0)) f a1 a2 a3 β k_ = k_ (nI (r6 0 + 4 + 4 + 4)) (wr4 (wr4 (wr4 f (r6 0) a1) (r6 0 + 4) a2) (r6 0 + 4 + 4) a3) (nI (r6 0 + 4 + 4 + 4)) := fun β k_ => by
      rw [fn_wk_X10_feed_0_s, show nI (r6 0) + 12 = nI (r6 0 + 12) from nI_add _ 12, if_pos (show nI (r6 0 + 12) ≤ (6000 : Int32) from nI_le (a := r6 0 + 12) (b := 6000) h12 (by omega)), c_addWord (by omega) (by omega), c_addWord (by omega) (by omega), c_addWord (by omega) (by omega)]
    have k2 : ∀ (β : Type) (k_ : (Nat → Nat) → (Nat → Int32) → Int32 → β), fn_wr_X11_feed_0 r6 r5 a1 a2 a3 β k_ = k_ (updN r6 0 (r6 0 + 12)) (wr4 (wr4 (wr4 r5 (0 + r6 0) a1) (0 + (r6 0 + 4)) a2) (0 + (r6 0 + 4 + 4)) a3) (nI (r6 0 + 12)) := fun β k_ => by
      rw [fn_wr_X11_feed_0_s, if_pos h12, r_putInt, r_putInt, r_putInt, updN_eq]
      rfl
    obtain ⟨rfl, rfl, rfl⟩ := out3 hc k1
    obtain ⟨rfl, rfl, rfl⟩ := out3 hr k2
    refine ⟨rfl, ⟨by rw [updN_eq], by rw [updN_eq]; exact h12, fun j hj2 => ?_⟩, ?_⟩
    · rw [updN_eq] at hj2
      exact rb_wr4 (rb_wr4 (rb_wr4 hj)) j (by omega)
    · rw [updN_ne (by decide)]
      have hok := ho.2.1
      refine Rby_far (a := 0) ho (fun i h1 h2 => ?_)
      rw [wr4_out (by omega), wr4_out (by omega), wr4_out (by omega)]
  · obtain ⟨rfl, rfl, rfl⟩ := out3 hc (fun β k_ => by rw [fn_wk_X10_feed_0_s, show nI (r6 0) + 12 = nI (r6 0 + 12) from nI_add _ 12, if_neg (show ¬ nI (r6 0 + 12) ≤ (6000 : Int32) from nI_ge (a := 6000) (b := r6 0 + 12) (by omega) (by omega))])
    obtain ⟨rfl, rfl, rfl⟩ := out3 hr (fun β k_ => by rw [fn_wr_X11_feed_0_s, if_neg h12])
    exact ⟨rfl, ⟨rfl, hk, hj⟩, ho⟩
theorem rel_harm_0 {r6 : Nat → Nat} {r5 f f2 zf y5 : Nat → Int32} {t t2 i b z z' : Int32} (h : Rby 0 (r6 0) 6000 t f r5) (ho : Rby 6000 (r6 1) 6000 t2 f2 r5) (hc : ∀ (β : Type) (k_ : (Nat → Int32) → Int32 → β), fn_wk_X10_harm_0 t f i b β k_ = k_ zf z) (hr : ∀ (β : Type) (k_ : (Nat → Int32) → Int32 → β), fn_wr_X11_harm_0 r6 r5 i b β k_ = k_ y5 z') : z = z' ∧ Rby 0 (r6 0) 6000 t zf y5 ∧ Rby 6000 (r6 1) 6000 t2 f2 y5 := by
  obtain ⟨rfl, hk, hj⟩ := h
  have no : i < 0 ∨ nI (r6 0) ≤ i → z = z' ∧ Rby 0 (r6 0) 6000 (nI (r6 0)) zf y5 ∧ Rby 6000 (r6 1) 6000 t2 f2 y5 := fun hh => by
    by_cases h0 : i < 0
    · obtain ⟨rfl, rfl⟩ := out2 hc (fun β k_ => by rw [fn_wk_X10_harm_0_s, fn_wk_X2_turn_s, if_pos h0, if_pos rfl])
      obtain ⟨rfl, rfl⟩ := out2 hr (fun β k_ => by rw [fn_wr_X11_harm_0_s, if_pos h0])
      exact ⟨rfl, ⟨rfl, hk, hj⟩, ho⟩
    · have h1 : nI (r6 0) ≤ i := hh.resolve_left h0
      obtain ⟨rfl, rfl⟩ := out2 hc (fun β k_ => by rw [fn_wk_X10_harm_0_s, fn_wk_X2_turn_s, if_neg h0, if_pos h1, if_pos rfl])
      obtain ⟨rfl, rfl⟩ := out2 hr (fun β k_ => by rw [fn_wr_X11_harm_0_s, if_neg h0, if_neg (o_4 h1)])
      exact ⟨rfl, ⟨rfl, hk, hj⟩, ho⟩
  rcases pk_ix i (n := r6 0) (by omega) with h0 | h1 | ⟨j, hjn, rfl⟩
  · exact no (Or.inl h0)
  · exact no (Or.inr h1)
  · obtain ⟨rfl, rfl⟩ := out2 hc (fun β k_ => by rw [fn_wk_X10_harm_0_s, fn_wk_X2_turn_s, if_neg (nI_pos (by omega)), if_neg (nI_ge hjn (by omega)), if_pos (nI_lt (by omega) (by omega)), if_neg (by decide), nI_clamp (by omega)])
    obtain ⟨rfl, rfl⟩ := out2 hr (fun β k_ => by rw [fn_wr_X11_harm_0_s, if_neg (nI_pos (by omega)), if_pos (nI_lt hjn (by omega)), fnL_b, nI_clamp (by omega)])
    refine ⟨rfl, ⟨rfl, hk, fun l hl => ?_⟩, ?_⟩
    · by_cases e : l = j
      · rw [e, nb_us, nb_us, hj j hjn, b_xor]
      · rw [nb_un e, nb_un (by omega), hj l hl]
    · have hok := ho.2.1
      exact Rby_far (a := 0) ho (fun l h1 h2 => nb_un (by omega))
theorem rel_seal_0 {r6 : Nat → Nat} {r5 f f2 zf y5 : Nat → Int32} {t t2 z z' : Int32} (h : Rby 0 (r6 0) 6000 t f r5) (ho : Rby 6000 (r6 1) 6000 t2 f2 r5) (hc : ∀ (β : Type) (k_ : (Nat → Int32) → Int32 → β), fn_wk_X10_seal_0 t f β k_ = k_ zf z) (hr : ∀ (β : Type) (k_ : (Nat → Int32) → Int32 → β), fn_wr_X11_seal_0 r6 r5 β k_ = k_ y5 z') : z = z' ∧ Rby 0 (r6 0) 6000 t zf y5 ∧ Rby 6000 (r6 1) 6000 t2 f2 y5 := by
  obtain ⟨rfl, hk, hj⟩ := h
  by_cases h5 : 5 ≤ r6 0
  · have e4 : nI (r6 0) - 4 = nI (r6 0 - 4) := pk_sub (a := r6 0) (b := 4) (by omega)
    have ec : crcS (fun i => nb r5 (0 + i)) (r6 0 - 4) = crcS (nb f) (r6 0 - 4) := crcS_congr _ (fun j hj2 => (hj j (by omega)).symm)
    obtain ⟨rfl, rfl⟩ := out2 hc (fun β k_ => by rw [fn_wk_X10_seal_0_s, if_pos (show (4 : Int32) < nI (r6 0) from nI_lt (a := 4) (b := r6 0) (by omega) (by omega)), e4, c_crc (by omega) hk (by omega), c_putWord (by omega) hk (by omega)])
    obtain ⟨rfl, rfl⟩ := out2 hr (fun β k_ => by rw [fn_wr_X11_seal_0_s, if_pos h5, r_crc, r_putInt, ec, show (0 + r6 0) - 4 = 0 + (r6 0 - 4) by omega])
    refine ⟨rfl, ⟨rfl, hk, fun j hj2 => ?_⟩, ?_⟩
    · exact rb_wr4 (fun l hl => hj l (by omega)) j (by omega)
    · have hok := ho.2.1
      exact Rby_far (a := 0) ho (fun l h1 h2 => wr4_out (by omega))
  · obtain ⟨rfl, rfl⟩ := out2 hc (fun β k_ => by rw [fn_wk_X10_seal_0_s, if_neg (show ¬ (4 : Int32) < nI (r6 0) from nI_nlt (a := 4) (b := r6 0) (by omega) (by omega))])
    obtain ⟨rfl, rfl⟩ := out2 hr (fun β k_ => by rw [fn_wr_X11_seal_0_s, if_neg h5])
    exact ⟨rfl, ⟨rfl, hk, hj⟩, ho⟩
theorem tk_0 {n : Nat} {s : Nat → Int32} : ∀ (d fuel l : Nat) (p : Nat → Int32), l + d = n → d < fuel → (∀ j, j < l → nb p (0 + j) = nb s j) → ∃ p' : Nat → Int32, (∀ j, j < n → nb p' (0 + j) = nb s j) ∧ (∀ i, i < 0 ∨ 0 + n ≤ i → p' i = p i) ∧ ∀ (β : Type) (kx : (Nat → Int32) → Nat → β), lf_wr_X11_take_0_22 n s β kx fuel p l = kx p' n := by
  intro d
  induction d with
  | zero =>
    intro fuel l p hl hf hp
    obtain ⟨z, rfl⟩ : ∃ z, fuel = z + 1 := ⟨fuel - 1, by omega⟩
    have e : l = n := by omega
    subst e
    exact ⟨p, hp, fun i _ => rfl, fun β kx => by rw [lf_wr_X11_take_0_22_s, if_pos (Nat.le_refl _)]⟩
  | succ d ih =>
    intro fuel l p hl hf hp
    obtain ⟨z, rfl⟩ : ∃ z, fuel = z + 1 := ⟨fuel - 1, by omega⟩
    obtain ⟨p', a1, a2, a3⟩ := ih z (l + 1) (upd p (0 + l) (nb s l)) (by omega) (by omega) (fun j hj => by
      by_cases e : j = l
      · rw [e]
        show Int8.toInt32 (Int32.toInt8 (upd p (0 + l) (nb s l) (0 + l))) = _
        rw [pk_us]
        exact nb_nb s l
      · rw [nb_un (by omega)]
        exact hp j (by omega))
    exact ⟨p', a1, fun i hi => by rw [a2 i hi]; exact pk_un (by omega), fun β kx => by rw [lf_wr_X11_take_0_22_s, if_neg (by omega)]; exact a3 β kx⟩
theorem rel_take_0 {m : Nat} {r6 y6 : Nat → Nat} {r5 r7 f f2 sf zf y5 : Nat → Int32} {t t2 s zt z z' : Int32} (h : Rby 0 (r6 0) 6000 t f r5) (ho : Rby 6000 (r6 1) 6000 t2 f2 r5) (hs : Rby 0 m 9600 s sf r7) (hc : ∀ (β : Type) (k_ : Int32 → (Nat → Int32) → Int32 → β), fn_wk_X10_take_0 s sf t f β k_ = k_ zt zf z) (hr : ∀ (β : Type) (k_ : (Nat → Nat) → (Nat → Int32) → Int32 → β), fn_wr_X11_take_0 m r6 r5 r7 β k_ = k_ y6 y5 z') : z = z' ∧ Rby 0 (y6 0) 6000 zt zf y5 ∧ Rby 6000 (y6 1) 6000 t2 f2 y5 := by
  obtain ⟨rfl, hm, hs⟩ := hs
  by_cases h6 : m ≤ 6000
  · obtain ⟨p', a1, a2, a3⟩ := tk_0 (n := m) (s := r7) m ((6000 - 0) + 1) 0 r5 (by omega) (by omega) (fun j hj => absurd hj (Nat.not_lt_zero _))
    obtain ⟨rfl, rfl, rfl⟩ := out3 hc (fun β k_ => by rw [fn_wk_X10_take_0_s, fn_wk_X2_copy_s, if_neg (nI_pos (by omega)), if_neg (nI_nlt h6 (by omega)), if_pos (nI_le hm (by omega)), if_neg (by decide), nI_clamp (by omega)])
    obtain ⟨rfl, rfl, rfl⟩ := out3 hr (fun β k_ => by rw [fn_wr_X11_take_0_s, if_pos h6]; exact a3 β _)
    refine ⟨by rw [updN_eq], ⟨by rw [updN_eq], by rw [updN_eq]; exact h6, fun j hj => ?_⟩, ?_⟩
    · rw [updN_eq] at hj
      rw [a1 j hj]
      have e := hs j hj
      rw [Nat.zero_add] at e
      rw [← e]
      show Int8.toInt32 (Int32.toInt8 (va_cpy sf f 0 0 m j)) = _
      rw [pk_cpy_in (Nat.zero_le _) (by omega), Nat.sub_zero, Nat.zero_add]
      rfl
    · rw [updN_ne (by decide)]
      have hok := ho.2.1
      refine Rby_far (a := 0) ho (fun i h1 h2 => ?_)
      show Int8.toInt32 (Int32.toInt8 (y5 i)) = Int8.toInt32 (Int32.toInt8 (r5 i))
      rw [a2 i (by omega)]
  · obtain ⟨rfl, rfl, rfl⟩ := out3 hc (fun β k_ => by rw [fn_wk_X10_take_0_s, fn_wk_X2_copy_s, if_neg (nI_pos (by omega)), if_pos (nI_lt (by omega) (by omega)), if_pos rfl])
    obtain ⟨rfl, rfl, rfl⟩ := out3 hr (fun β k_ => by rw [fn_wr_X11_take_0_s, if_neg h6])
    exact ⟨rfl, h, ho⟩
theorem rel_out_0 {m : Nat} {s i z z' : Int32} {sf r7 : Nat → Int32} (hs : Rby 0 m 9600 s sf r7) (hc : ∀ (β : Type) (k_ : Int32 → β), fn_wk_X10_out_0 s sf i β k_ = k_ z) (hr : ∀ (β : Type) (k_ : Int32 → β), fn_wr_X11_out_0 m r7 i β k_ = k_ z') : z = z' := by
  obtain ⟨rfl, hm, hs⟩ := hs
  rcases pk_ix i (n := m) (by omega) with h0 | h1 | ⟨j, hjn, rfl⟩
  · rw [out1 hc (fun β k_ => by rw [fn_wk_X10_out_0_s, fn_wk_X2_at_s, if_pos h0]), out1 hr (fun β k_ => by rw [fn_wr_X11_out_0_s, if_pos h0])]
  · by_cases h0 : i < 0
    · rw [out1 hc (fun β k_ => by rw [fn_wk_X10_out_0_s, fn_wk_X2_at_s, if_pos h0]), out1 hr (fun β k_ => by rw [fn_wr_X11_out_0_s, if_pos h0])]
    · rw [out1 hc (fun β k_ => by rw [fn_wk_X10_out_0_s, fn_wk_X2_at_s, if_neg h0, if_pos h1]), out1 hr (fun β k_ => by rw [fn_wr_X11_out_0_s, if_neg h0, if_neg (o_4 h1)])]
  · have e := hs j hjn
    rw [Nat.zero_add] at e
    rw [out1 hc (fun β k_ => by rw [fn_wk_X10_out_0_s, c_at hjn hm (by omega)]), out1 hr (fun β k_ => by rw [fn_wr_X11_out_0_s, if_neg (nI_pos (by omega)), if_pos (nI_lt hjn (by omega)), fnL_b, nI_clamp (by omega)]), e]
theorem rel_size_0 {m : Nat} {s z : Int32} {sf r7 : Nat → Int32} (hs : Rby 0 m 9600 s sf r7) (hc : ∀ (β : Type) (k_ : Int32 → β), fn_wk_X10_size_0 s β k_ = k_ z) : z = nI m := by
  rw [out1 hc (fun β k_ => fn_wk_X10_size_0_s)]
  exact hs.1
theorem rel_end_1 {r6 y6 : Nat → Nat} {r5 f f2 : Nat → Int32} {t t2 n zt z z' : Int32} (h : Rby 6000 (r6 1) 6000 t f r5) (ho : Rby 0 (r6 0) 6000 t2 f2 r5) (hc : ∀ (β : Type) (k_ : Int32 → Int32 → β), fn_wk_X10_end_1 t n β k_ = k_ zt z) (hr : ∀ (β : Type) (k_ : (Nat → Nat) → Int32 → β), fn_wr_X11_end_1 r6 n β k_ = k_ y6 z') : z = z' ∧ Rby 6000 (y6 1) 6000 zt f r5 ∧ Rby 0 (y6 0) 6000 t2 f2 r5 := by
  obtain ⟨ht, hk, hj⟩ := h
  rcases sh_fits (n := n) ht hk with ⟨j, hjk, e, h0, h1⟩ | ⟨h0, h1⟩ | h0
  · obtain ⟨rfl, rfl⟩ := out2 hc (fun β k_ => by rw [fn_wk_X10_end_1_s, fn_wk_X2_shorten_s, if_neg h0, if_pos h1, if_neg (by decide)])
    obtain ⟨rfl, rfl⟩ := out2 hr (fun β k_ => by rw [fn_wr_X11_end_1_s, if_neg h0, if_pos (by rw [← ht]; exact h1), fnL_b, e, nI_clamp (by omega)])
    exact ⟨rfl, ⟨by rw [updN_eq]; exact e, by rw [updN_eq]; omega, fun i hi => hj i (by rw [updN_eq] at hi; omega)⟩, by rw [updN_ne (by decide)]; exact ho⟩
  · obtain ⟨rfl, rfl⟩ := out2 hc (fun β k_ => by rw [fn_wk_X10_end_1_s, fn_wk_X2_shorten_s, if_neg h0, if_neg h1, if_pos rfl])
    obtain ⟨rfl, rfl⟩ := out2 hr (fun β k_ => by rw [fn_wr_X11_end_1_s, if_neg h0, if_neg (by rw [← ht]; exact h1)])
    exact ⟨rfl, ⟨ht, hk, hj⟩, ho⟩
  · obtain ⟨rfl, rfl⟩ := out2 hc (fun β k_ => by rw [fn_wk_X10_end_1_s, fn_wk_X2_shorten_s, if_pos h0, if_pos rfl])
    obtain ⟨rfl, rfl⟩ := out2 hr (fun β k_ => by rw [fn_wr_X11_end_1_s, if_pos h0])
    exact ⟨rfl, ⟨ht, hk, hj⟩, ho⟩
theorem rel_feed_1 {r6 y6 : Nat → Nat} {r5 f f2 zf y5 : Nat → Int32} {t t2 a1 a2 a3 zt z z' : Int32} (h : Rby 6000 (r6 1) 6000 t f r5) (ho : Rby 0 (r6 0) 6000 t2 f2 r5) (hc : ∀ (β : Type) (k_ : Int32 → (Nat → Int32) → Int32 → β), fn_wk_X10_feed_1 t f a1 a2 a3 β k_ = k_ zt zf z) (hr : ∀ (β : Type) (k_ : (Nat → Nat) → (Nat → Int32) → Int32 → β), fn_wr_X11_feed_1 r6 r5 a1 a2 a3 β k_ = k_ y6 y5 z') : z = z' ∧ Rby 6000 (y6 1) 6000 zt zf y5 ∧ Rby 0 (y6 0) 6000 t2 f2 y5 := by
  obtain ⟨rfl, hk, hj⟩ := h
  by_cases h12 : r6 1 + 12 ≤ 6000
  · have k1 : ∀ (β : Type) (k_ : Int32 → (Nat → Int32) → Int32 → β), fn_wk_X10_feed_1 (nI (r6 1)) f a1 a2 a3 β k_ = k_ (nI (r6 1 + 4 + 4 + 4)) (wr4 (wr4 (wr4 f (r6 1) a1) (r6 1 + 4) a2) (r6 1 + 4 + 4) a3) (nI (r6 1 + 4 + 4 + 4)) := fun β k_ => by
      rw [fn_wk_X10_feed_1_s, show nI (r6 1) + 12 = nI (r6 1 + 12) from nI_add _ 12, if_pos (show nI (r6 1 + 12) ≤ (6000 : Int32) from nI_le (a := r6 1 + 12) (b := 6000) h12 (by omega)), c_addWord (by omega) (by omega), c_addWord (by omega) (by omega), c_addWord (by omega) (by omega)]
    have k2 : ∀ (β : Type) (k_ : (Nat → Nat) → (Nat → Int32) → Int32 → β), fn_wr_X11_feed_1 r6 r5 a1 a2 a3 β k_ = k_ (updN r6 1 (r6 1 + 12)) (wr4 (wr4 (wr4 r5 (6000 + r6 1) a1) (6000 + (r6 1 + 4)) a2) (6000 + (r6 1 + 4 + 4)) a3) (nI (r6 1 + 12)) := fun β k_ => by
      rw [fn_wr_X11_feed_1_s, if_pos h12, r_putInt, r_putInt, r_putInt, updN_eq]
      rfl
    obtain ⟨rfl, rfl, rfl⟩ := out3 hc k1
    obtain ⟨rfl, rfl, rfl⟩ := out3 hr k2
    refine ⟨rfl, ⟨by rw [updN_eq], by rw [updN_eq]; exact h12, fun j hj2 => ?_⟩, ?_⟩
    · rw [updN_eq] at hj2
      exact rb_wr4 (rb_wr4 (rb_wr4 hj)) j (by omega)
    · rw [updN_ne (by decide)]
      have hok := ho.2.1
      refine Rby_far (a := 0) ho (fun i h1 h2 => ?_)
      rw [wr4_out (by omega), wr4_out (by omega), wr4_out (by omega)]
  · obtain ⟨rfl, rfl, rfl⟩ := out3 hc (fun β k_ => by rw [fn_wk_X10_feed_1_s, show nI (r6 1) + 12 = nI (r6 1 + 12) from nI_add _ 12, if_neg (show ¬ nI (r6 1 + 12) ≤ (6000 : Int32) from nI_ge (a := 6000) (b := r6 1 + 12) (by omega) (by omega))])
    obtain ⟨rfl, rfl, rfl⟩ := out3 hr (fun β k_ => by rw [fn_wr_X11_feed_1_s, if_neg h12])
    exact ⟨rfl, ⟨rfl, hk, hj⟩, ho⟩
theorem rel_harm_1 {r6 : Nat → Nat} {r5 f f2 zf y5 : Nat → Int32} {t t2 i b z z' : Int32} (h : Rby 6000 (r6 1) 6000 t f r5) (ho : Rby 0 (r6 0) 6000 t2 f2 r5) (hc : ∀ (β : Type) (k_ : (Nat → Int32) → Int32 → β), fn_wk_X10_harm_1 t f i b β k_ = k_ zf z) (hr : ∀ (β : Type) (k_ : (Nat → Int32) → Int32 → β), fn_wr_X11_harm_1 r6 r5 i b β k_ = k_ y5 z') : z = z' ∧ Rby 6000 (r6 1) 6000 t zf y5 ∧ Rby 0 (r6 0) 6000 t2 f2 y5 := by
  obtain ⟨rfl, hk, hj⟩ := h
  have no : i < 0 ∨ nI (r6 1) ≤ i → z = z' ∧ Rby 6000 (r6 1) 6000 (nI (r6 1)) zf y5 ∧ Rby 0 (r6 0) 6000 t2 f2 y5 := fun hh => by
    by_cases h0 : i < 0
    · obtain ⟨rfl, rfl⟩ := out2 hc (fun β k_ => by rw [fn_wk_X10_harm_1_s, fn_wk_X2_turn_s, if_pos h0, if_pos rfl])
      obtain ⟨rfl, rfl⟩ := out2 hr (fun β k_ => by rw [fn_wr_X11_harm_1_s, if_pos h0])
      exact ⟨rfl, ⟨rfl, hk, hj⟩, ho⟩
    · have h1 : nI (r6 1) ≤ i := hh.resolve_left h0
      obtain ⟨rfl, rfl⟩ := out2 hc (fun β k_ => by rw [fn_wk_X10_harm_1_s, fn_wk_X2_turn_s, if_neg h0, if_pos h1, if_pos rfl])
      obtain ⟨rfl, rfl⟩ := out2 hr (fun β k_ => by rw [fn_wr_X11_harm_1_s, if_neg h0, if_neg (o_4 h1)])
      exact ⟨rfl, ⟨rfl, hk, hj⟩, ho⟩
  rcases pk_ix i (n := r6 1) (by omega) with h0 | h1 | ⟨j, hjn, rfl⟩
  · exact no (Or.inl h0)
  · exact no (Or.inr h1)
  · obtain ⟨rfl, rfl⟩ := out2 hc (fun β k_ => by rw [fn_wk_X10_harm_1_s, fn_wk_X2_turn_s, if_neg (nI_pos (by omega)), if_neg (nI_ge hjn (by omega)), if_pos (nI_lt (by omega) (by omega)), if_neg (by decide), nI_clamp (by omega)])
    obtain ⟨rfl, rfl⟩ := out2 hr (fun β k_ => by rw [fn_wr_X11_harm_1_s, if_neg (nI_pos (by omega)), if_pos (nI_lt hjn (by omega)), fnL_b, nI_clamp (by omega)])
    refine ⟨rfl, ⟨rfl, hk, fun l hl => ?_⟩, ?_⟩
    · by_cases e : l = j
      · rw [e, nb_us, nb_us, hj j hjn, b_xor]
      · rw [nb_un e, nb_un (by omega), hj l hl]
    · have hok := ho.2.1
      exact Rby_far (a := 0) ho (fun l h1 h2 => nb_un (by omega))
theorem rel_seal_1 {r6 : Nat → Nat} {r5 f f2 zf y5 : Nat → Int32} {t t2 z z' : Int32} (h : Rby 6000 (r6 1) 6000 t f r5) (ho : Rby 0 (r6 0) 6000 t2 f2 r5) (hc : ∀ (β : Type) (k_ : (Nat → Int32) → Int32 → β), fn_wk_X10_seal_1 t f β k_ = k_ zf z) (hr : ∀ (β : Type) (k_ : (Nat → Int32) → Int32 → β), fn_wr_X11_seal_1 r6 r5 β k_ = k_ y5 z') : z = z' ∧ Rby 6000 (r6 1) 6000 t zf y5 ∧ Rby 0 (r6 0) 6000 t2 f2 y5 := by
  obtain ⟨rfl, hk, hj⟩ := h
  by_cases h5 : 5 ≤ r6 1
  · have e4 : nI (r6 1) - 4 = nI (r6 1 - 4) := pk_sub (a := r6 1) (b := 4) (by omega)
    have ec : crcS (fun i => nb r5 (6000 + i)) (r6 1 - 4) = crcS (nb f) (r6 1 - 4) := crcS_congr _ (fun j hj2 => (hj j (by omega)).symm)
    obtain ⟨rfl, rfl⟩ := out2 hc (fun β k_ => by rw [fn_wk_X10_seal_1_s, if_pos (show (4 : Int32) < nI (r6 1) from nI_lt (a := 4) (b := r6 1) (by omega) (by omega)), e4, c_crc (by omega) hk (by omega), c_putWord (by omega) hk (by omega)])
    obtain ⟨rfl, rfl⟩ := out2 hr (fun β k_ => by rw [fn_wr_X11_seal_1_s, if_pos h5, r_crc, r_putInt, ec, show (6000 + r6 1) - 4 = 6000 + (r6 1 - 4) by omega])
    refine ⟨rfl, ⟨rfl, hk, fun j hj2 => ?_⟩, ?_⟩
    · exact rb_wr4 (fun l hl => hj l (by omega)) j (by omega)
    · have hok := ho.2.1
      exact Rby_far (a := 0) ho (fun l h1 h2 => wr4_out (by omega))
  · obtain ⟨rfl, rfl⟩ := out2 hc (fun β k_ => by rw [fn_wk_X10_seal_1_s, if_neg (show ¬ (4 : Int32) < nI (r6 1) from nI_nlt (a := 4) (b := r6 1) (by omega) (by omega))])
    obtain ⟨rfl, rfl⟩ := out2 hr (fun β k_ => by rw [fn_wr_X11_seal_1_s, if_neg h5])
    exact ⟨rfl, ⟨rfl, hk, hj⟩, ho⟩
theorem tk_1 {n : Nat} {s : Nat → Int32} : ∀ (d fuel l : Nat) (p : Nat → Int32), l + d = n → d < fuel → (∀ j, j < l → nb p (6000 + j) = nb s j) → ∃ p' : Nat → Int32, (∀ j, j < n → nb p' (6000 + j) = nb s j) ∧ (∀ i, i < 6000 ∨ 6000 + n ≤ i → p' i = p i) ∧ ∀ (β : Type) (kx : (Nat → Int32) → Nat → β), lf_wr_X11_take_1_22 n s β kx fuel p l = kx p' n := by
  intro d
  induction d with
  | zero =>
    intro fuel l p hl hf hp
    obtain ⟨z, rfl⟩ : ∃ z, fuel = z + 1 := ⟨fuel - 1, by omega⟩
    have e : l = n := by omega
    subst e
    exact ⟨p, hp, fun i _ => rfl, fun β kx => by rw [lf_wr_X11_take_1_22_s, if_pos (Nat.le_refl _)]⟩
  | succ d ih =>
    intro fuel l p hl hf hp
    obtain ⟨z, rfl⟩ : ∃ z, fuel = z + 1 := ⟨fuel - 1, by omega⟩
    obtain ⟨p', a1, a2, a3⟩ := ih z (l + 1) (upd p (6000 + l) (nb s l)) (by omega) (by omega) (fun j hj => by
      by_cases e : j = l
      · rw [e]
        show Int8.toInt32 (Int32.toInt8 (upd p (6000 + l) (nb s l) (6000 + l))) = _
        rw [pk_us]
        exact nb_nb s l
      · rw [nb_un (by omega)]
        exact hp j (by omega))
    exact ⟨p', a1, fun i hi => by rw [a2 i hi]; exact pk_un (by omega), fun β kx => by rw [lf_wr_X11_take_1_22_s, if_neg (by omega)]; exact a3 β kx⟩
theorem rel_take_1 {m : Nat} {r6 y6 : Nat → Nat} {r5 r7 f f2 sf zf y5 : Nat → Int32} {t t2 s zt z z' : Int32} (h : Rby 6000 (r6 1) 6000 t f r5) (ho : Rby 0 (r6 0) 6000 t2 f2 r5) (hs : Rby 0 m 2450 s sf r7) (hc : ∀ (β : Type) (k_ : Int32 → (Nat → Int32) → Int32 → β), fn_wk_X10_take_1 s sf t f β k_ = k_ zt zf z) (hr : ∀ (β : Type) (k_ : (Nat → Nat) → (Nat → Int32) → Int32 → β), fn_wr_X11_take_1 m r6 r5 r7 β k_ = k_ y6 y5 z') : z = z' ∧ Rby 6000 (y6 1) 6000 zt zf y5 ∧ Rby 0 (y6 0) 6000 t2 f2 y5 := by
  obtain ⟨rfl, hm, hs⟩ := hs
  by_cases h6 : m ≤ 6000
  · obtain ⟨p', a1, a2, a3⟩ := tk_1 (n := m) (s := r7) m ((6000 - 0) + 1) 0 r5 (by omega) (by omega) (fun j hj => absurd hj (Nat.not_lt_zero _))
    obtain ⟨rfl, rfl, rfl⟩ := out3 hc (fun β k_ => by rw [fn_wk_X10_take_1_s, fn_wk_X2_copy_s, if_neg (nI_pos (by omega)), if_neg (nI_nlt h6 (by omega)), if_pos (nI_le hm (by omega)), if_neg (by decide), nI_clamp (by omega)])
    obtain ⟨rfl, rfl, rfl⟩ := out3 hr (fun β k_ => by rw [fn_wr_X11_take_1_s, if_pos h6]; exact a3 β _)
    refine ⟨by rw [updN_eq], ⟨by rw [updN_eq], by rw [updN_eq]; exact h6, fun j hj => ?_⟩, ?_⟩
    · rw [updN_eq] at hj
      rw [a1 j hj]
      have e := hs j hj
      rw [Nat.zero_add] at e
      rw [← e]
      show Int8.toInt32 (Int32.toInt8 (va_cpy sf f 0 0 m j)) = _
      rw [pk_cpy_in (Nat.zero_le _) (by omega), Nat.sub_zero, Nat.zero_add]
      rfl
    · rw [updN_ne (by decide)]
      have hok := ho.2.1
      refine Rby_far (a := 0) ho (fun i h1 h2 => ?_)
      show Int8.toInt32 (Int32.toInt8 (y5 i)) = Int8.toInt32 (Int32.toInt8 (r5 i))
      rw [a2 i (by omega)]
  · obtain ⟨rfl, rfl, rfl⟩ := out3 hc (fun β k_ => by rw [fn_wk_X10_take_1_s, fn_wk_X2_copy_s, if_neg (nI_pos (by omega)), if_pos (nI_lt (by omega) (by omega)), if_pos rfl])
    obtain ⟨rfl, rfl, rfl⟩ := out3 hr (fun β k_ => by rw [fn_wr_X11_take_1_s, if_neg h6])
    exact ⟨rfl, h, ho⟩
theorem rel_out_1 {m : Nat} {s i z z' : Int32} {sf r7 : Nat → Int32} (hs : Rby 0 m 2450 s sf r7) (hc : ∀ (β : Type) (k_ : Int32 → β), fn_wk_X10_out_1 s sf i β k_ = k_ z) (hr : ∀ (β : Type) (k_ : Int32 → β), fn_wr_X11_out_1 m r7 i β k_ = k_ z') : z = z' := by
  obtain ⟨rfl, hm, hs⟩ := hs
  rcases pk_ix i (n := m) (by omega) with h0 | h1 | ⟨j, hjn, rfl⟩
  · rw [out1 hc (fun β k_ => by rw [fn_wk_X10_out_1_s, fn_wk_X2_at_s, if_pos h0]), out1 hr (fun β k_ => by rw [fn_wr_X11_out_1_s, if_pos h0])]
  · by_cases h0 : i < 0
    · rw [out1 hc (fun β k_ => by rw [fn_wk_X10_out_1_s, fn_wk_X2_at_s, if_pos h0]), out1 hr (fun β k_ => by rw [fn_wr_X11_out_1_s, if_pos h0])]
    · rw [out1 hc (fun β k_ => by rw [fn_wk_X10_out_1_s, fn_wk_X2_at_s, if_neg h0, if_pos h1]), out1 hr (fun β k_ => by rw [fn_wr_X11_out_1_s, if_neg h0, if_neg (o_4 h1)])]
  · have e := hs j hjn
    rw [Nat.zero_add] at e
    rw [out1 hc (fun β k_ => by rw [fn_wk_X10_out_1_s, c_at hjn hm (by omega)]), out1 hr (fun β k_ => by rw [fn_wr_X11_out_1_s, if_neg (nI_pos (by omega)), if_pos (nI_lt hjn (by omega)), fnL_b, nI_clamp (by omega)]), e]
theorem rel_size_1 {m : Nat} {s z : Int32} {sf r7 : Nat → Int32} (hs : Rby 0 m 2450 s sf r7) (hc : ∀ (β : Type) (k_ : Int32 → β), fn_wk_X10_size_1 s β k_ = k_ z) : z = nI m := by
  rw [out1 hc (fun β k_ => fn_wk_X10_size_1_s)]
  exact hs.1
theorem rel_size_n {z : Int32} (hc : ∀ (β : Type) (k_ : Int32 → β), fn_wk_X10_size_n β k_ = k_ z) : z = -1 := out1 hc (fun β k_ => fn_wk_X10_size_n_s)
theorem rel_out_n {z : Int32} (hc : ∀ (β : Type) (k_ : Int32 → β), fn_wk_X10_out_n β k_ = k_ z) : z = -1 := out1 hc (fun β k_ => fn_wk_X10_out_n_s)
theorem rel_feed_n {z : Int32} (hc : ∀ (β : Type) (k_ : Int32 → β), fn_wk_X10_feed_n β k_ = k_ z) : z = -1 := out1 hc (fun β k_ => fn_wk_X10_feed_n_s)
theorem rel_take_n {z : Int32} (hc : ∀ (β : Type) (k_ : Int32 → β), fn_wk_X10_take_n β k_ = k_ z) : z = -1 := out1 hc (fun β k_ => fn_wk_X10_take_n_s)
theorem rel_end_n {z : Int32} (hc : ∀ (β : Type) (k_ : Int32 → β), fn_wk_X10_end_n β k_ = k_ z) : z = 0 := out1 hc (fun β k_ => fn_wk_X10_end_n_s)
theorem rel_harm_n {z : Int32} (hc : ∀ (β : Type) (k_ : Int32 → β), fn_wk_X10_harm_n β k_ = k_ z) : z = 0 := out1 hc (fun β k_ => fn_wk_X10_harm_n_s)
theorem rel_seal_n {z : Int32} (hc : ∀ (β : Type) (k_ : Int32 → β), fn_wk_X10_seal_n β k_ = k_ z) : z = 0 := out1 hc (fun β k_ => fn_wk_X10_seal_n_s)
theorem rel_look {w2 w3 w4 p2 : Nat} {w5 w6 w7 w8 w9 w10 w11 : Int32} {we r11 r12 : Nat → Int32} {mi r13 : Nat → Int64} {x z z' : Int32} (h : Rsn w2 w3 w4 w5 w6 w7 w8 w9 w10 w11 p2 we mi r11 r12 r13) (hc : ∀ (β : Type) (k_ : Int32 → β), fn_wk_X10_look w2 w4 w5 w6 w7 w8 w9 w10 w11 p2 x β k_ = k_ z) (hr : ∀ (β : Type) (k_ : Int32 → β), fn_wr_X11_look r11 x β k_ = k_ z') : z = z' := by
  obtain ⟨h0, h1, h2, h3, h4, h5, h6, h7, h8, h9, -⟩ := h
  by_cases a : x < 0
  · have ne : ∀ k, k < 10 → ¬ x = nI k := fun k hk e => by rw [e] at a; exact nI_pos (by omega) a
    rw [out1 hr (fun β k_ => by rw [fn_wr_X11_look_s, if_pos a])]
    exact out1 hc (fun β k_ => by rw [fn_wk_X10_look_s, fn_wk_X9_tell_s, if_neg (show ¬ x = (0 : Int32) from ne 0 (by omega)), if_neg (show ¬ x = (1 : Int32) from ne 1 (by omega)), if_neg (show ¬ x = (2 : Int32) from ne 2 (by omega)), if_neg (show ¬ x = (3 : Int32) from ne 3 (by omega)), if_neg (show ¬ x = (4 : Int32) from ne 4 (by omega)), if_neg (show ¬ x = (5 : Int32) from ne 5 (by omega)), if_neg (show ¬ x = (6 : Int32) from ne 6 (by omega)), if_neg (show ¬ x = (7 : Int32) from ne 7 (by omega)), if_neg (show ¬ x = (8 : Int32) from ne 8 (by omega)), if_neg (show ¬ x = (9 : Int32) from ne 9 (by omega))])
  · by_cases b : x ≤ 9
    · obtain ⟨k, hk, rfl⟩ := nI_of2 (M := 9) (n := 9) (by decide) a b
      have e := out1 hr (fun β k_ => by rw [fn_wr_X11_look_s, if_neg a, if_pos b, fnL_b, nI_clamp (by omega)])
      rw [e]
      match k, hk with
      | 0, _ => rw [h0]; exact out1 hc (fun β k_ => rfl)
      | 1, _ => rw [h1]; exact out1 hc (fun β k_ => rfl)
      | 2, _ => rw [h2]; exact out1 hc (fun β k_ => rfl)
      | 3, _ => rw [h3]; exact out1 hc (fun β k_ => rfl)
      | 4, _ => rw [h4]; exact out1 hc (fun β k_ => rfl)
      | 5, _ => rw [h5]; exact out1 hc (fun β k_ => rfl)
      | 6, _ => rw [h6]; exact out1 hc (fun β k_ => rfl)
      | 7, _ => rw [h7]; exact out1 hc (fun β k_ => rfl)
      | 8, _ => rw [h8]; exact out1 hc (fun β k_ => rfl)
      | 9, _ => rw [h9]; exact out1 hc (fun β k_ => rfl)
      | k + 10, hk => exact absurd hk (by omega)
    · have ne : ∀ k, k < 10 → ¬ x = nI k := fun k hk e => by rw [e] at b; exact b (nI_le (a := k) (b := 9) (by omega) (by omega))
      rw [out1 hr (fun β k_ => by rw [fn_wr_X11_look_s, if_neg a, if_neg b])]
      exact out1 hc (fun β k_ => by rw [fn_wk_X10_look_s, fn_wk_X9_tell_s, if_neg (show ¬ x = (0 : Int32) from ne 0 (by omega)), if_neg (show ¬ x = (1 : Int32) from ne 1 (by omega)), if_neg (show ¬ x = (2 : Int32) from ne 2 (by omega)), if_neg (show ¬ x = (3 : Int32) from ne 3 (by omega)), if_neg (show ¬ x = (4 : Int32) from ne 4 (by omega)), if_neg (show ¬ x = (5 : Int32) from ne 5 (by omega)), if_neg (show ¬ x = (6 : Int32) from ne 6 (by omega)), if_neg (show ¬ x = (7 : Int32) from ne 7 (by omega)), if_neg (show ¬ x = (8 : Int32) from ne 8 (by omega)), if_neg (show ¬ x = (9 : Int32) from ne 9 (by omega))])
theorem rel_weight_0 {w2 w3 w4 p2 : Nat} {w5 w6 w7 w8 w9 w10 w11 : Int32} {we r11 r12 : Nat → Int32} {mi r13 : Nat → Int64} {x z z' : Int32} (h : Rsn w2 w3 w4 w5 w6 w7 w8 w9 w10 w11 p2 we mi r11 r12 r13) (hc : ∀ (β : Type) (k_ : Int32 → β), fn_wk_X10_weight w3 p2 we x 0 β k_ = k_ z) (hr : ∀ (β : Type) (k_ : Int32 → β), fn_wr_X11_weight_0 r12 x β k_ = k_ z') : z = z' := by
  obtain ⟨-, -, -, -, -, -, -, -, -, -, hw3, hp2, hw, -⟩ := h
  have n0 : ¬ (0 : Int32) < 0 := by decide
  by_cases h1 : nI w3 ≤ (0 : Int32)
  · have l1 : ¬ 0 < w3 := fun q => nI_ge (a := 0) (b := w3) q (by omega) h1
    rw [out1 hc (fun β k_ => by rw [fn_wk_X10_weight_s, if_neg n0, if_pos h1])]
    by_cases a : x < 0
    · rw [out1 hr (fun β k_ => by rw [fn_wr_X11_weight_0_s, if_pos a])]
    · by_cases b : 8 ≤ x
      · rw [out1 hr (fun β k_ => by rw [fn_wr_X11_weight_0_s, if_neg a, if_pos b])]
      · obtain ⟨k, hk, rfl⟩ : ∃ k, k < 8 ∧ x = nI k := by
          rcases pk_ix x (n := 8) (by omega) with q | q | q
          · exact absurd q a
          · exact absurd q b
          · exact q
        rw [out1 hr (fun β k_ => by rw [fn_wr_X11_weight_0_s, if_neg a, if_neg b, fnL_b, nI_clamp (by omega)]), hw k 0 hk (by omega), if_neg (fun q => l1 q.2)]
  · have l1 : 0 < w3 := Nat.lt_of_not_le (fun q => h1 (nI_le (a := w3) (b := 0) q (by omega)))
    by_cases a : x < 0
    · rw [out1 hc (fun β k_ => by rw [fn_wk_X10_weight_s, if_neg n0, if_neg h1, if_pos a]), out1 hr (fun β k_ => by rw [fn_wr_X11_weight_0_s, if_pos a])]
    · by_cases b : 8 ≤ x
      · rw [out1 hc (fun β k_ => by rw [fn_wk_X10_weight_s, if_neg n0, if_neg h1, if_neg a, if_neg (fun q => o_3 q (Int32.le_trans (show nI p2 ≤ 8 from nI_le (a := p2) (b := 8) hp2 (by omega)) b))]), out1 hr (fun β k_ => by rw [fn_wr_X11_weight_0_s, if_neg a, if_pos b])]
      · obtain ⟨k, hk, rfl⟩ : ∃ k, k < 8 ∧ x = nI k := by
          rcases pk_ix x (n := 8) (by omega) with q | q | q
          · exact absurd q a
          · exact absurd q b
          · exact q
        rw [out1 hr (fun β k_ => by rw [fn_wr_X11_weight_0_s, if_neg a, if_neg b, fnL_b, nI_clamp (by omega)]), hw k 0 hk (by omega)]
        by_cases c : k < p2
        · rw [if_pos ⟨c, l1⟩]
          exact out1 hc (fun β k_ => by rw [fn_wk_X10_weight_s, if_neg n0, if_neg h1, if_neg a, if_pos (nI_lt c (by omega)), fn_wk_X6_weightOf_s, show Int32.toNatClampNeg (((nI k &&& 7) * 2) + ((0 : Int32) &&& 1)) = 2 * k + 0 from c_track (c := 0) hk (by omega)])
        · rw [if_neg (fun q => c q.1)]
          exact out1 hc (fun β k_ => by rw [fn_wk_X10_weight_s, if_neg n0, if_neg h1, if_neg a, if_neg (nI_nlt (by omega) (by omega))])
theorem rel_median_0 {w2 w3 w4 p2 : Nat} {w5 w6 w7 w8 w9 w10 w11 : Int32} {we r11 r12 : Nat → Int32} {mi r13 : Nat → Int64} {x : Int32} {z z' : Int64} (h : Rsn w2 w3 w4 w5 w6 w7 w8 w9 w10 w11 p2 we mi r11 r12 r13) (hc : ∀ (β : Type) (k_ : Int64 → β), fn_wk_X10_median w3 mi 0 x β k_ = k_ z) (hr : ∀ (β : Type) (k_ : Int64 → β), fn_wr_X11_median_0 r13 x β k_ = k_ z') : z = z' := by
  obtain ⟨-, -, -, -, -, -, -, -, -, -, hw3, hp2, -, hm⟩ := h
  have n0 : ¬ (0 : Int32) < 0 := by decide
  by_cases h1 : nI w3 ≤ (0 : Int32)
  · have l1 : ¬ 0 < w3 := fun q => nI_ge (a := 0) (b := w3) q (by omega) h1
    rw [out1 hc (fun β k_ => by rw [fn_wk_X10_median_s, if_neg n0, if_pos h1])]
    by_cases a : x < 0
    · rw [out1 hr (fun β k_ => by rw [fn_wr_X11_median_0_s, if_pos a])]
    · by_cases b : x ≤ 2
      · obtain ⟨k, hk, rfl⟩ := nI_of2 (M := 2) (n := 2) (by decide) a b
        rw [out1 hr (fun β k_ => by rw [fn_wr_X11_median_0_s, if_neg a, if_pos b, fnL_b, nI_clamp (by omega)]), hm _ (by omega), if_neg (by omega)]
      · rw [out1 hr (fun β k_ => by rw [fn_wr_X11_median_0_s, if_neg a, if_neg b])]
  · have l1 : 0 < w3 := Nat.lt_of_not_le (fun q => h1 (nI_le (a := w3) (b := 0) q (by omega)))
    by_cases a : x < 0
    · rw [out1 hc (fun β k_ => by rw [fn_wk_X10_median_s, if_neg n0, if_neg h1, if_pos a]), out1 hr (fun β k_ => by rw [fn_wr_X11_median_0_s, if_pos a])]
    · by_cases b : x ≤ 2
      · obtain ⟨k, hk, rfl⟩ := nI_of2 (M := 2) (n := 2) (by decide) a b
        rw [out1 hr (fun β k_ => by rw [fn_wr_X11_median_0_s, if_neg a, if_pos b, fnL_b, nI_clamp (by omega)]), hm _ (by omega), if_pos (by omega)]
        have e := out1 hc (fun β k_ => by rw [fn_wk_X10_median_s, if_neg n0, if_neg h1, if_neg a, if_pos b]; exact c_middle (c := 0) (k := k) rfl rfl (by omega) (by omega))
        rw [e]
      · rw [out1 hc (fun β k_ => by rw [fn_wk_X10_median_s, if_neg n0, if_neg h1, if_neg a, if_neg b]), out1 hr (fun β k_ => by rw [fn_wr_X11_median_0_s, if_neg a, if_neg b])]
theorem rel_weight_1 {w2 w3 w4 p2 : Nat} {w5 w6 w7 w8 w9 w10 w11 : Int32} {we r11 r12 : Nat → Int32} {mi r13 : Nat → Int64} {x z z' : Int32} (h : Rsn w2 w3 w4 w5 w6 w7 w8 w9 w10 w11 p2 we mi r11 r12 r13) (hc : ∀ (β : Type) (k_ : Int32 → β), fn_wk_X10_weight w3 p2 we x 1 β k_ = k_ z) (hr : ∀ (β : Type) (k_ : Int32 → β), fn_wr_X11_weight_1 r12 x β k_ = k_ z') : z = z' := by
  obtain ⟨-, -, -, -, -, -, -, -, -, -, hw3, hp2, hw, -⟩ := h
  have n0 : ¬ (1 : Int32) < 0 := by decide
  by_cases h1 : nI w3 ≤ (1 : Int32)
  · have l1 : ¬ 1 < w3 := fun q => nI_ge (a := 1) (b := w3) q (by omega) h1
    rw [out1 hc (fun β k_ => by rw [fn_wk_X10_weight_s, if_neg n0, if_pos h1])]
    by_cases a : x < 0
    · rw [out1 hr (fun β k_ => by rw [fn_wr_X11_weight_1_s, if_pos a])]
    · by_cases b : 8 ≤ x
      · rw [out1 hr (fun β k_ => by rw [fn_wr_X11_weight_1_s, if_neg a, if_pos b])]
      · obtain ⟨k, hk, rfl⟩ : ∃ k, k < 8 ∧ x = nI k := by
          rcases pk_ix x (n := 8) (by omega) with q | q | q
          · exact absurd q a
          · exact absurd q b
          · exact q
        rw [out1 hr (fun β k_ => by rw [fn_wr_X11_weight_1_s, if_neg a, if_neg b, fnL_b, nI_clamp (by omega)]), hw k 1 hk (by omega), if_neg (fun q => l1 q.2)]
  · have l1 : 1 < w3 := Nat.lt_of_not_le (fun q => h1 (nI_le (a := w3) (b := 1) q (by omega)))
    by_cases a : x < 0
    · rw [out1 hc (fun β k_ => by rw [fn_wk_X10_weight_s, if_neg n0, if_neg h1, if_pos a]), out1 hr (fun β k_ => by rw [fn_wr_X11_weight_1_s, if_pos a])]
    · by_cases b : 8 ≤ x
      · rw [out1 hc (fun β k_ => by rw [fn_wk_X10_weight_s, if_neg n0, if_neg h1, if_neg a, if_neg (fun q => o_3 q (Int32.le_trans (show nI p2 ≤ 8 from nI_le (a := p2) (b := 8) hp2 (by omega)) b))]), out1 hr (fun β k_ => by rw [fn_wr_X11_weight_1_s, if_neg a, if_pos b])]
      · obtain ⟨k, hk, rfl⟩ : ∃ k, k < 8 ∧ x = nI k := by
          rcases pk_ix x (n := 8) (by omega) with q | q | q
          · exact absurd q a
          · exact absurd q b
          · exact q
        rw [out1 hr (fun β k_ => by rw [fn_wr_X11_weight_1_s, if_neg a, if_neg b, fnL_b, nI_clamp (by omega)]), hw k 1 hk (by omega)]
        by_cases c : k < p2
        · rw [if_pos ⟨c, l1⟩]
          exact out1 hc (fun β k_ => by rw [fn_wk_X10_weight_s, if_neg n0, if_neg h1, if_neg a, if_pos (nI_lt c (by omega)), fn_wk_X6_weightOf_s, show Int32.toNatClampNeg (((nI k &&& 7) * 2) + ((1 : Int32) &&& 1)) = 2 * k + 1 from c_track (c := 1) hk (by omega)])
        · rw [if_neg (fun q => c q.1)]
          exact out1 hc (fun β k_ => by rw [fn_wk_X10_weight_s, if_neg n0, if_neg h1, if_neg a, if_neg (nI_nlt (by omega) (by omega))])
theorem rel_median_1 {w2 w3 w4 p2 : Nat} {w5 w6 w7 w8 w9 w10 w11 : Int32} {we r11 r12 : Nat → Int32} {mi r13 : Nat → Int64} {x : Int32} {z z' : Int64} (h : Rsn w2 w3 w4 w5 w6 w7 w8 w9 w10 w11 p2 we mi r11 r12 r13) (hc : ∀ (β : Type) (k_ : Int64 → β), fn_wk_X10_median w3 mi 1 x β k_ = k_ z) (hr : ∀ (β : Type) (k_ : Int64 → β), fn_wr_X11_median_1 r13 x β k_ = k_ z') : z = z' := by
  obtain ⟨-, -, -, -, -, -, -, -, -, -, hw3, hp2, -, hm⟩ := h
  have n0 : ¬ (1 : Int32) < 0 := by decide
  by_cases h1 : nI w3 ≤ (1 : Int32)
  · have l1 : ¬ 1 < w3 := fun q => nI_ge (a := 1) (b := w3) q (by omega) h1
    rw [out1 hc (fun β k_ => by rw [fn_wk_X10_median_s, if_neg n0, if_pos h1])]
    by_cases a : x < 0
    · rw [out1 hr (fun β k_ => by rw [fn_wr_X11_median_1_s, if_pos a])]
    · by_cases b : x ≤ 2
      · obtain ⟨k, hk, rfl⟩ := nI_of2 (M := 2) (n := 2) (by decide) a b
        rw [out1 hr (fun β k_ => by rw [fn_wr_X11_median_1_s, if_neg a, if_pos b, fnL_b, nI_clamp (by omega)]), hm _ (by omega), if_neg (by omega)]
      · rw [out1 hr (fun β k_ => by rw [fn_wr_X11_median_1_s, if_neg a, if_neg b])]
  · have l1 : 1 < w3 := Nat.lt_of_not_le (fun q => h1 (nI_le (a := w3) (b := 1) q (by omega)))
    by_cases a : x < 0
    · rw [out1 hc (fun β k_ => by rw [fn_wk_X10_median_s, if_neg n0, if_neg h1, if_pos a]), out1 hr (fun β k_ => by rw [fn_wr_X11_median_1_s, if_pos a])]
    · by_cases b : x ≤ 2
      · obtain ⟨k, hk, rfl⟩ := nI_of2 (M := 2) (n := 2) (by decide) a b
        rw [out1 hr (fun β k_ => by rw [fn_wr_X11_median_1_s, if_neg a, if_pos b, fnL_b, nI_clamp (by omega)]), hm _ (by omega), if_pos (by omega)]
        have e := out1 hc (fun β k_ => by rw [fn_wk_X10_median_s, if_neg n0, if_neg h1, if_neg a, if_pos b]; exact c_middle (c := 1) (k := k) rfl rfl (by omega) (by omega))
        rw [e]
      · rw [out1 hc (fun β k_ => by rw [fn_wk_X10_median_s, if_neg n0, if_neg h1, if_neg a, if_neg b]), out1 hr (fun β k_ => by rw [fn_wr_X11_median_1_s, if_neg a, if_neg b])]
theorem rel_weight_n {w2 w3 w4 p2 : Nat} {w5 w6 w7 w8 w9 w10 w11 : Int32} {we r11 r12 : Nat → Int32} {mi r13 : Nat → Int64} {x c z : Int32} (h : Rsn w2 w3 w4 w5 w6 w7 w8 w9 w10 w11 p2 we mi r11 r12 r13) (h0 : ¬ c = 0) (h1 : ¬ c = 1) (hc : ∀ (β : Type) (k_ : Int32 → β), fn_wk_X10_weight w3 p2 we x c β k_ = k_ z) : z = 0 := by
  obtain ⟨-, -, -, -, -, -, -, -, -, -, hw3, hp2, -, -⟩ := h
  rcases pk_ix c (n := w3) (by omega) with a | a | ⟨j, hj, rfl⟩
  · exact out1 hc (fun β k_ => by rw [fn_wk_X10_weight_s, if_pos a])
  · by_cases b : c < 0
    · exact out1 hc (fun β k_ => by rw [fn_wk_X10_weight_s, if_pos b])
    · exact out1 hc (fun β k_ => by rw [fn_wk_X10_weight_s, if_neg b, if_pos a])
  · match j, hj with
    | 0, _ => exact absurd rfl h0
    | 1, _ => exact absurd rfl h1
    | j + 2, hj => exact absurd hj (by omega)
theorem rel_median_n {w2 w3 w4 p2 : Nat} {w5 w6 w7 w8 w9 w10 w11 : Int32} {we r11 r12 : Nat → Int32} {mi r13 : Nat → Int64} {x c : Int32} {z : Int64} (h : Rsn w2 w3 w4 w5 w6 w7 w8 w9 w10 w11 p2 we mi r11 r12 r13) (h0 : ¬ c = 0) (h1 : ¬ c = 1) (hc : ∀ (β : Type) (k_ : Int64 → β), fn_wk_X10_median w3 mi c x β k_ = k_ z) : z = 0 := by
  obtain ⟨-, -, -, -, -, -, -, -, -, -, hw3, hp2, -, -⟩ := h
  rcases pk_ix c (n := w3) (by omega) with a | a | ⟨j, hj, rfl⟩
  · exact out1 hc (fun β k_ => by rw [fn_wk_X10_median_s, if_pos a])
  · by_cases b : c < 0
    · exact out1 hc (fun β k_ => by rw [fn_wk_X10_median_s, if_pos b])
    · exact out1 hc (fun β k_ => by rw [fn_wk_X10_median_s, if_neg b, if_pos a])
  · match j, hj with
    | 0, _ => exact absurd rfl h0
    | 1, _ => exact absurd rfl h1
    | j + 2, hj => exact absurd hj (by omega)
theorem rel_count {x1 m1 pl m4 : Nat} {r6 : Nat → Nat} {nu r0 plt pld r2 r3 f r5 f2 : Nat → Int32} {t t2 x z z' : Int32} (h1 : Rrow x1 nu m1 r0) (h2 : Rpl pl plt pld m4 r2 r3) (h3 : Rby 0 (r6 0) 6000 t f r5) (h4 : Rby 6000 (r6 1) 6000 t2 f2 r5) (hc : ∀ (β : Type) (k_ : Int32 → β), fn_wk_X10_count x1 pl t t2 x β k_ = k_ z) (hr : ∀ (β : Type) (k_ : Int32 → β), fn_wr_X11_count m1 m4 r6 x β k_ = k_ z') : z = z' := by
  obtain ⟨rfl, -⟩ := h1
  obtain ⟨rfl, -⟩ := h2
  obtain ⟨rfl, -⟩ := h3
  obtain ⟨rfl, -⟩ := h4
  by_cases a : x = 0
  · rw [out1 hc (fun β k_ => by rw [fn_wk_X10_count_s, if_pos a]), out1 hr (fun β k_ => by rw [fn_wr_X11_count_s, if_pos a])]
  · by_cases b : x = 1
    · rw [out1 hc (fun β k_ => by rw [fn_wk_X10_count_s, if_neg a, if_pos b]), out1 hr (fun β k_ => by rw [fn_wr_X11_count_s, if_neg a, if_pos b])]
    · by_cases c : x = 2
      · rw [out1 hc (fun β k_ => by rw [fn_wk_X10_count_s, if_neg a, if_neg b, if_pos c]), out1 hr (fun β k_ => by rw [fn_wr_X11_count_s, if_neg a, if_neg b, if_pos c])]
      · by_cases d : x = 3
        · rw [out1 hc (fun β k_ => by rw [fn_wk_X10_count_s, if_neg a, if_neg b, if_neg c, if_pos d]), out1 hr (fun β k_ => by rw [fn_wr_X11_count_s, if_neg a, if_neg b, if_neg c, if_pos d])]
        · rw [out1 hc (fun β k_ => by rw [fn_wk_X10_count_s, if_neg a, if_neg b, if_neg c, if_neg d]), out1 hr (fun β k_ => by rw [fn_wr_X11_count_s, if_neg a, if_neg b, if_neg c, if_neg d])]
