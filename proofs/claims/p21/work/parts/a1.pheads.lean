/-! heads and ends of both streams -/
def AB (f : Nat → Int32) (k : Nat) (g : Nat → Int32) : Prop := ∀ j, j < k → nb f j = g j
theorem AB_upd {f g : Nat → Int32} {k : Nat} {x : Int32} (h : AB f k g) (hx : Int8.toInt32 (Int32.toInt8 x) = g k) : AB (upd f k x) (k + 1) g := by
  intro j hj
  by_cases e : j = k
  · rw [e, ← hx]
    show (upd f k x k).toInt8.toInt32 = _
    rw [pk_us]
  · rw [nb_un e]
    exact h j (by omega)
theorem i8_i8 (x : Int32) : Int8.toInt32 (Int32.toInt8 (Int8.toInt32 (Int32.toInt8 x))) = Int8.toInt32 (Int32.toInt8 x) := by rw [Int8.toInt8_toInt32]
theorem AB_0 {f g : Nat → Int32} : AB f 0 g := fun j hj => absurd hj (Nat.not_lt_zero _)
def hdB (n : Nat) (fl sh : Int32) (F E : Nat) (T D : Nat → Int32) (j : Nat) : Int32 := Int8.toInt32 (Int32.toInt8 (if j = 0 then 83 else if j = 1 then fl else if j = 2 then sh else if j = 3 then nI (F / 256) else if j = 4 then nI F else if j = 5 then nI n else if j < 6 + 2 * n then (if j % 2 = 0 then T ((j - 6) / 2) else D ((j - 6) / 2)) else if j = 6 + 2 * n then nI (E / 256) else nI E))
theorem hd_T {n k F E : Nat} {fl sh : Int32} {T D : Nat → Int32} (h : k < n) : hdB n fl sh F E T D (6 + 2 * k) = Int8.toInt32 (Int32.toInt8 (T k)) := by
  unfold hdB
  rw [if_neg (by omega), if_neg (by omega), if_neg (by omega), if_neg (by omega), if_neg (by omega), if_neg (by omega), if_pos (by omega), if_pos (by omega), show (6 + 2 * k - 6) / 2 = k by omega]
theorem hd_D {n k F E : Nat} {fl sh : Int32} {T D : Nat → Int32} (h : k < n) : hdB n fl sh F E T D (6 + 2 * k + 1) = Int8.toInt32 (Int32.toInt8 (D k)) := by
  unfold hdB
  rw [if_neg (by omega), if_neg (by omega), if_neg (by omega), if_neg (by omega), if_neg (by omega), if_neg (by omega), if_pos (by omega), if_neg (by omega), show (6 + 2 * k + 1 - 6) / 2 = k by omega]
theorem hd_E1 {n F E : Nat} {fl sh : Int32} {T D : Nat → Int32} : hdB n fl sh F E T D (6 + 2 * n) = Int8.toInt32 (Int32.toInt8 (nI (E / 256))) := by
  unfold hdB
  rw [if_neg (by omega), if_neg (by omega), if_neg (by omega), if_neg (by omega), if_neg (by omega), if_neg (by omega), if_neg (by omega), if_pos rfl]
theorem hd_E2 {n F E : Nat} {fl sh : Int32} {T D : Nat → Int32} : hdB n fl sh F E T D (6 + 2 * n + 1) = Int8.toInt32 (Int32.toInt8 (nI E)) := by
  unfold hdB
  rw [if_neg (by omega), if_neg (by omega), if_neg (by omega), if_neg (by omega), if_neg (by omega), if_neg (by omega), if_neg (by omega), if_neg (by omega)]
def hdN (n E : Nat) : Nat := 6 + 2 * n + (if E = 0 then 0 else 2)
theorem c_whl {n F E : Nat} {fl sh : Int32} {te de T D sea : Nat → Int32} {se : Int32} (hn : n ≤ 8) (hTe : ∀ j, j < n → te j = T j) (hDe : ∀ j, j < n → de j = D j) : ∀ (d fuel k : Nat) (f : Nat → Int32), k + d = n → d < fuel → AB f (6 + 2 * k) (hdB n fl sh F E T D) → ∃ f' : Nat → Int32, AB f' (6 + 2 * n) (hdB n fl sh F E T D) ∧ ∀ (β : Type) (kx : Int32 → (Nat → Int32) → Int32 → (Nat → Int32) → Int32 → β), lf_wk_X4_writeHeads_86 n te de β kx fuel (nI (6 + 2 * k)) f se sea (nI k) = kx (nI (6 + 2 * n)) f' se sea (nI n) := by
  intro d
  induction d with
  | zero =>
    intro fuel k f hk hf h
    obtain ⟨q, rfl⟩ : ∃ q, fuel = q + 1 := ⟨fuel - 1, by omega⟩
    have e : k = n := by omega
    subst e
    exact ⟨f, h, fun β kx => by rw [lf_wk_X4_writeHeads_86_s, if_pos (nI_le (Nat.le_refl _) (by omega))]⟩
  | succ d ih =>
    intro fuel k f hk hf h
    obtain ⟨q, rfl⟩ : ∃ q, fuel = q + 1 := ⟨fuel - 1, by omega⟩
    have h1 := AB_upd (x := Int8.toInt32 (Int32.toInt8 (te k))) h (by rw [i8_i8, hd_T (by omega), hTe k (by omega)])
    have h2 := AB_upd (x := Int8.toInt32 (Int32.toInt8 (de k))) h1 (by rw [i8_i8, hd_D (by omega), hDe k (by omega)])
    obtain ⟨f', a1, a2⟩ := ih q (k + 1) _ (by omega) (by omega) (by rw [show 6 + 2 * (k + 1) = 6 + 2 * k + 1 + 1 by omega]; exact h2)
    refine ⟨f', a1, fun β kx => ?_⟩
    rw [lf_wk_X4_writeHeads_86_s, if_neg (nI_ge (by omega) (by omega)), if_neg (show ¬ (8 : Int32) ≤ nI k from nI_ge (a := k) (b := 8) (by omega) (by omega)), nI_clamp (by omega), c_add (by omega) (by omega), c_add (by omega) (by omega), nI_1, show 6 + 2 * k + 1 + 1 = 6 + 2 * (k + 1) by omega]
    exact a2 β kx
theorem c_short0 {k : Nat} (h : k < 2147483648) {β : Type} {K : Int32 → Int32 → β} : fn_wk_X2_shorten (nI k) 0 β K = K 0 1 := by
  rw [fn_wk_X2_shorten_s, if_neg (by decide), if_pos (nI_pos' h)]
def hd2 (j : Nat) : Int32 := if j = 0 then 67 else 0
set_option maxHeartbeats 1000000 in
theorem c_heads {n F E k1 k2 : Nat} {fl sh : Int32} {te de T D fia sea : Nat → Int32} (hn : n ≤ 8) (hF : F ≤ 600) (hE : E ≤ 65535) (hk1 : k1 < 2147483648) (hk2 : k2 < 2147483648) (hTe : ∀ j, j < n → te j = T j) (hDe : ∀ j, j < n → de j = D j) : ∃ f1 f2 : Nat → Int32, AB f1 (hdN n E) (hdB n fl sh F E T D) ∧ nb f2 0 = 67 ∧ ∀ (β : Type) (K : Int32 → (Nat → Int32) → Int32 → (Nat → Int32) → β), fn_wk_X4_writeHeads F fl sh (nI E) n te de (nI k1) fia (nI k2) sea β K = K (nI (hdN n E)) f1 (nI 5) f2 := by
  have e8 : nI F >>> (8 &&& 31) = nI (F / 2 ^ 8) := pk_shrN (by omega) (8 &&& 31) 8 (by decide)
  have eE : nI E >>> (8 &&& 31) = nI (E / 2 ^ 8) := pk_shrN (by omega) (8 &&& 31) 8 (by decide)
  have h0 : AB (upd fia 0 (Int8.toInt32 (Int32.toInt8 83))) 1 (hdB n fl sh F E T D) := AB_upd AB_0 (by rw [i8_i8]; rfl)
  have h1 := AB_upd (x := Int8.toInt32 (Int32.toInt8 fl)) h0 (by rw [i8_i8]; rfl)
  have h2 := AB_upd (x := Int8.toInt32 (Int32.toInt8 sh)) h1 (by rw [i8_i8]; rfl)
  have h3 := AB_upd (x := Int8.toInt32 (Int32.toInt8 (nI (F / 2 ^ 8)))) h2 (by rw [i8_i8]; rfl)
  have h4 := AB_upd (x := Int8.toInt32 (Int32.toInt8 (nI F))) h3 (by rw [i8_i8]; rfl)
  have h5 := AB_upd (x := Int8.toInt32 (Int32.toInt8 (nI n))) h4 (by rw [i8_i8]; rfl)
  obtain ⟨f, a1, a2⟩ := c_whl (se := nI k2) (sea := sea) (F := F) (E := E) (fl := fl) (sh := sh) hn hTe hDe n 9 0 _ (by omega) (by omega) h5
  have hn67 : nb (wr4 (upd sea 0 (Int8.toInt32 (Int32.toInt8 67))) 1 0) 0 = 67 := by
    rw [wr4_out (by omega), nb_us]
    decide
  have sec : ∀ (β : Type) (K : Int32 → (Nat → Int32) → β), fn_wk_X2_shorten (nI k2) 0 β (fun a _ => fn_wk_X2_add 2450 a sea 67 β (fun b c => fn_wk_X2_addWord 2450 b c 0 β (fun x y => K x y))) = K (nI 5) (wr4 (upd sea 0 (Int8.toInt32 (Int32.toInt8 67))) 1 0) := fun β K => by
    rw [c_short0 hk2]
    have : fn_wk_X2_add 2450 (nI 0) sea 67 β (fun b c => fn_wk_X2_addWord 2450 b c 0 β (fun x y => K x y)) = K (nI 5) (wr4 (upd sea 0 (Int8.toInt32 (Int32.toInt8 67))) 1 0) := by
      rw [c_add (by omega) (by omega), c_addWord (by omega) (by omega)]
    exact this
  have pre : ∀ (β : Type) (K : Int32 → (Nat → Int32) → β), fn_wk_X2_shorten (nI k1) 0 β (fun a _ => fn_wk_X2_add 9600 a fia 83 β (fun a b => fn_wk_X2_add 9600 a b fl β (fun a b => fn_wk_X2_add 9600 a b sh β (fun a b => fn_wk_X2_add 9600 a b (nI F >>> (8 &&& 31)) β (fun a b => fn_wk_X2_add 9600 a b (nI F) β (fun a b => fn_wk_X2_add 9600 a b (nI n) β (fun a b => K a b))))))) = K (nI 6) (upd (upd (upd (upd (upd (upd fia 0 (Int8.toInt32 (Int32.toInt8 83))) 1 (Int8.toInt32 (Int32.toInt8 fl))) 2 (Int8.toInt32 (Int32.toInt8 sh))) 3 (Int8.toInt32 (Int32.toInt8 (nI (F / 2 ^ 8))))) 4 (Int8.toInt32 (Int32.toInt8 (nI F)))) 5 (Int8.toInt32 (Int32.toInt8 (nI n)))) := fun β K => by
    rw [c_short0 hk1, e8]
    have : fn_wk_X2_add 9600 (nI 0) fia 83 β (fun a b => fn_wk_X2_add 9600 a b fl β (fun a b => fn_wk_X2_add 9600 a b sh β (fun a b => fn_wk_X2_add 9600 a b (nI (F / 2 ^ 8)) β (fun a b => fn_wk_X2_add 9600 a b (nI F) β (fun a b => fn_wk_X2_add 9600 a b (nI n) β (fun a b => K a b)))))) = K (nI 6) (upd (upd (upd (upd (upd (upd fia 0 (Int8.toInt32 (Int32.toInt8 83))) 1 (Int8.toInt32 (Int32.toInt8 fl))) 2 (Int8.toInt32 (Int32.toInt8 sh))) 3 (Int8.toInt32 (Int32.toInt8 (nI (F / 2 ^ 8))))) 4 (Int8.toInt32 (Int32.toInt8 (nI F)))) 5 (Int8.toInt32 (Int32.toInt8 (nI n)))) := by
      rw [c_add (by omega) (by omega), c_add (by omega) (by omega), c_add (by omega) (by omega), c_add (by omega) (by omega), c_add (by omega) (by omega), c_add (by omega) (by omega)]
    exact this
  by_cases hE0 : E = 0
  · refine ⟨f, _, ?_, hn67, fun β K => ?_⟩
    · unfold hdN
      rw [if_pos hE0]
      exact a1
    · rw [fn_wk_X4_writeHeads_s]
      refine (pre β _).trans ?_
      rw [show ((Int32.toInt 8 - Int32.toInt 0).toNat + 1) = 9 from by decide]
      refine (a2 β _).trans ?_
      have eh : hdN n E = 6 + 2 * n := by unfold hdN; rw [if_pos hE0]; rfl
      rw [eh, hE0]
      refine (if_pos (by decide)).trans ?_
      exact sec β _
  · have h6 := AB_upd (x := Int8.toInt32 (Int32.toInt8 (nI (E / 2 ^ 8)))) a1 (by rw [i8_i8, hd_E1])
    have h7 := AB_upd (x := Int8.toInt32 (Int32.toInt8 (nI E))) h6 (by rw [i8_i8, hd_E2])
    have eh : hdN n E = 6 + 2 * n + 1 + 1 := by unfold hdN; rw [if_neg hE0]
    rw [← eh] at h7
    refine ⟨_, _, h7, hn67, fun β K => ?_⟩
    rw [fn_wk_X4_writeHeads_s]
    refine (pre β _).trans ?_
    rw [show ((Int32.toInt 8 - Int32.toInt 0).toNat + 1) = 9 from by decide]
    refine (a2 β _).trans ?_
    refine (if_neg (nI_nle (by omega) (by omega))).trans ?_
    rw [eE, c_add (by omega) (by omega), c_add (by omega) (by omega), eh]
    exact sec β _
/-- the reference's -/
theorem r_hdl {n F E : Nat} {fl sh : Int32} {te de T D : Nat → Int32} (hTe : ∀ j, j < n → te j = T j) (hDe : ∀ j, j < n → de j = D j) : ∀ (d fuel k : Nat) (f : Nat → Int32), k + d = n → d < fuel → AB f (6 + 2 * k) (hdB n fl sh F E T D) → ∃ f' : Nat → Int32, AB f' (6 + 2 * n) (hdB n fl sh F E T D) ∧ ∀ (β : Type) (kx : (Nat → Int32) → Nat → β), lf_wr_X11_heads_68 n te de β kx fuel f k = kx f' n := by
  intro d
  induction d with
  | zero =>
    intro fuel k f hk hf h
    obtain ⟨q, rfl⟩ : ∃ q, fuel = q + 1 := ⟨fuel - 1, by omega⟩
    have e : k = n := by omega
    subst e
    exact ⟨f, h, fun β kx => by rw [lf_wr_X11_heads_68_s, if_pos (Nat.le_refl _)]⟩
  | succ d ih =>
    intro fuel k f hk hf h
    obtain ⟨q, rfl⟩ : ∃ q, fuel = q + 1 := ⟨fuel - 1, by omega⟩
    have h1 := AB_upd (x := Int8.toInt32 (Int32.toInt8 (te k))) h (by rw [i8_i8, hd_T (by omega), hTe k (by omega)])
    have h2 := AB_upd (x := Int8.toInt32 (Int32.toInt8 (de k))) h1 (by rw [i8_i8, hd_D (by omega), hDe k (by omega)])
    obtain ⟨f', a1, a2⟩ := ih q (k + 1) _ (by omega) (by omega) (by rw [show 6 + 2 * (k + 1) = 6 + 2 * k + 1 + 1 by omega]; exact h2)
    refine ⟨f', a1, fun β kx => ?_⟩
    rw [lf_wr_X11_heads_68_s, if_neg (by omega), fnL_b, fnL_b, show 7 + (2 * k) = 6 + 2 * k + 1 by omega]
    exact a2 β kx
theorem r_heads {n F E : Nat} {fl sh : Int32} {te de T D f : Nat → Int32} (hn : n ≤ 8) (hTe : ∀ j, j < n → te j = T j) (hDe : ∀ j, j < n → de j = D j) : ∃ f1 : Nat → Int32, AB f1 (hdN n E) (hdB n fl sh F E T D) ∧ ∀ (β : Type) (K : (Nat → Int32) → Nat → β), fn_wr_X11_heads n E sh F fl f te de β K = K f1 (hdN n E) := by
  have h0 : AB (upd f 0 83) 1 (hdB n fl sh F E T D) := AB_upd AB_0 rfl
  have h1 := AB_upd (x := Int8.toInt32 (Int32.toInt8 fl)) h0 (by rw [i8_i8]; rfl)
  have h2 := AB_upd (x := Int8.toInt32 (Int32.toInt8 sh)) h1 (by rw [i8_i8]; rfl)
  have h3 := AB_upd (x := Int8.toInt32 (Int32.toInt8 (nI (F / 256)))) h2 (by rw [i8_i8]; rfl)
  have h4 := AB_upd (x := Int8.toInt32 (Int32.toInt8 (nI F))) h3 (by rw [i8_i8]; rfl)
  have h5 := AB_upd (x := Int8.toInt32 (Int32.toInt8 (nI n))) h4 (by rw [i8_i8]; rfl)
  obtain ⟨f', a1, a2⟩ := r_hdl (F := F) (E := E) (fl := fl) (sh := sh) hTe hDe n 9 0 _ (by omega) (by omega) h5
  by_cases hE0 : E = 0
  · refine ⟨f', ?_, fun β K => ?_⟩
    · unfold hdN
      rw [if_pos hE0]
      exact a1
    · rw [fn_wr_X11_heads_s, fnL_b, fnL_b, fnL_b, fnL_b, fnL_b]
      refine (a2 β _).trans ?_
      refine (if_pos hE0).trans ?_
      unfold hdN
      rw [if_pos hE0]
      rfl
  · have h6 := AB_upd (x := Int8.toInt32 (Int32.toInt8 (nI (E / 256)))) a1 (by rw [i8_i8, hd_E1])
    have h7 := AB_upd (x := Int8.toInt32 (Int32.toInt8 (nI E))) h6 (by rw [i8_i8, hd_E2])
    have eh : hdN n E = 6 + 2 * n + 1 + 1 := by unfold hdN; rw [if_neg hE0]
    rw [← eh] at h7
    refine ⟨_, h7, fun β K => ?_⟩
    rw [fn_wr_X11_heads_s, fnL_b, fnL_b, fnL_b, fnL_b, fnL_b]
    refine (a2 β _).trans ?_
    refine (if_neg hE0).trans ?_
    rw [fnL_b, fnL_b, eh]
