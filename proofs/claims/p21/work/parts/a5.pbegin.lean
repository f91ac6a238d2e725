/-! fold, begin, tells -/
theorem c_foldl {ch nch F : Nat} {jo : Bool} {fl sh : Int32} {sm : Nat → Int32} (hcn : (ch = 1 ∧ nch = 1) ∨ (ch = 2 ∧ nch = 1) ∨ (ch = 2 ∧ nch = 2)) (hF : F ≤ 600) (hjo : nch = 2 → ((fl &&& 4) = 0 ↔ jo = false)) (hch : F * ch ≤ 1200) : ∀ (d fuel f : Nat) (sv : Nat → Int32), f + d = F → d < fuel → (∀ j, j < f * nch → sv j = vS ch nch jo sh sm j) → ∃ sv' : Nat → Int32, (∀ j, j < F * nch → sv' j = vS ch nch jo sh sm j) ∧ ∀ (β : Type) (kx : (Nat → Int32) → Int32 → β) (k : (Nat → Int32) → β), lf_wk_X8_fold_2 ch nch F fl sh sm β kx k fuel sv (nI f) = kx sv' (nI F) := by
  intro d
  induction d with
  | zero =>
    intro fuel f sv hf hfu h
    obtain ⟨z, rfl⟩ : ∃ z, fuel = z + 1 := ⟨fuel - 1, by omega⟩
    have e : f = F := by omega
    subst e
    exact ⟨sv, h, fun β kx k => by rw [lf_wk_X8_fold_2_s, if_pos (nI_le (Nat.le_refl _) (by omega))]⟩
  | succ d ih =>
    intro fuel f sv hf hfu h
    obtain ⟨z, rfl⟩ : ∃ z, fuel = z + 1 := ⟨fuel - 1, by omega⟩
    have hm : (f + 1) * ch ≤ F * ch := Nat.mul_le_mul_right _ (by omega)
    rw [Nat.add_mul, Nat.one_mul] at hm
    have hn1 : f * nch + nch ≤ 1200 := by rcases hcn with ⟨rfl, rfl⟩ | ⟨rfl, rfl⟩ | ⟨rfl, rfl⟩ <;> omega
    have c1 : ¬ (1200 : Int32) < nI (f * ch + ch) := nI_nlt (a := 1200) (b := f * ch + ch) (by omega) (by omega)
    have c2 : nI (f * nch + nch) ≤ (1200 : Int32) := nI_le (a := f * nch + nch) (b := 1200) (by omega) (by omega)
    by_cases hn2 : nch = 2
    · have hc2 : ch = 2 := by omega
      subst hn2 hc2
      have e1 : nI (f * 2) + 1 = nI (f * 2 + 1) := nI_1 _
      have hh : ∀ (x y w : Int32), x = vS 2 2 jo sh sm (f * 2) → y = vS 2 2 jo sh sm (f * 2 + 1) → ∀ j, j < (f + 1) * 2 → upd (upd (upd sv (f * 2) w) (f * 2) x) (f * 2 + 1) y j = vS 2 2 jo sh sm j := fun x y w hx hy j hj => fo2 (sv := upd sv (f * 2) w) (fun j hj => (pk_un (by omega)).trans (h j hj)) hx hy j (by omega)
      cases jo
      · obtain ⟨sv', a1, a2⟩ := ih z (f + 1) _ (by omega) (by omega) (hh ((sm (f * 2)) >>> (sh &&& 31)) ((sm (f * 2 + 1)) >>> (sh &&& 31)) ((sm (f * 2)) >>> (sh &&& 31)) (by rw [vS_e, if_neg (by decide)]) (by rw [vS_o, if_neg (by decide)]))
        refine ⟨sv', a1, fun β kx k => ?_⟩
        rw [lf_wk_X8_fold_2_s, if_neg (nI_ge (by omega) (by omega)), pk_mul, nI_add, if_neg c1, if_pos c2, if_pos (show nI 2 = 2 from rfl), if_pos ((hjo rfl).mpr rfl), fnL_b, e1, nI_clamp (by omega), nI_clamp (by omega), nI_1]
        exact a2 β kx k
      · obtain ⟨sv', a1, a2⟩ := ih z (f + 1) _ (by omega) (by omega) (hh (((sm (f * 2)) >>> (sh &&& 31)) - ((sm (f * 2 + 1)) >>> (sh &&& 31))) (((sm (f * 2 + 1)) >>> (sh &&& 31)) + ((((sm (f * 2)) >>> (sh &&& 31)) - ((sm (f * 2 + 1)) >>> (sh &&& 31))) >>> (1 &&& 31))) ((sm (f * 2)) >>> (sh &&& 31)) (by rw [vS_e, if_pos rfl]) (by rw [vS_o, if_pos rfl]))
        refine ⟨sv', a1, fun β kx k => ?_⟩
        rw [lf_wk_X8_fold_2_s, if_neg (nI_ge (by omega) (by omega)), pk_mul, nI_add, if_neg c1, if_pos c2, if_pos (show nI 2 = 2 from rfl), if_neg (fun q => absurd ((hjo rfl).mp q) (by decide)), fnL_b, e1, nI_clamp (by omega), nI_clamp (by omega), nI_1]
        exact a2 β kx k
    · have hn1' : nch = 1 := by omega
      subst hn1'
      have hx : (sm (f * ch)) >>> (sh &&& 31) = vS ch 1 jo sh sm f := by unfold vS; rw [if_pos rfl]
      obtain ⟨sv', a1, a2⟩ := ih z (f + 1) (upd sv f ((sm (f * ch)) >>> (sh &&& 31))) (by omega) (by omega) (by rw [Nat.mul_one] at h ⊢; exact fo_step h hx)
      refine ⟨sv', a1, fun β kx k => ?_⟩
      rw [lf_wk_X8_fold_2_s, if_neg (nI_ge (by omega) (by omega)), pk_mul, pk_mul, nI_add, nI_add, if_neg c1, if_pos c2, if_neg (by decide), nI_clamp (by omega), nI_clamp (by omega), Nat.mul_one, nI_1]
      exact a2 β kx k
theorem c_fold {ch nch F : Nat} {jo : Bool} {fl sh : Int32} {sm sv : Nat → Int32} (hcn : (ch = 1 ∧ nch = 1) ∨ (ch = 2 ∧ nch = 1) ∨ (ch = 2 ∧ nch = 2)) (hF : F ≤ 600) (hjo : nch = 2 → ((fl &&& 4) = 0 ↔ jo = false)) (hch : F * ch ≤ 1200) : ∃ sv' : Nat → Int32, (∀ j, j < F * nch → sv' j = vS ch nch jo sh sm j) ∧ ∀ (β : Type) (K : (Nat → Int32) → β), fn_wk_X8_fold ch nch F fl sh sm sv β K = K sv' := by
  obtain ⟨sv', a1, a2⟩ := c_foldl (sh := sh) (sm := sm) hcn hF hjo hch F (F + 1) 0 sv (by omega) (by omega) (fun j hj => absurd hj (by omega))
  refine ⟨sv', a1, fun β K => ?_⟩
  rw [fn_wk_X8_fold_s, fu_n (by omega)]
  exact a2 β _ _
theorem c_fill {N : Nat} {v : Int32} (hN : N < 2147483648) {f : Nat → Int32} : ∃ f' : Nat → Int32, (∀ j, j < N → f' j = v) ∧ ∀ (β : Type) (K : (Nat → Int32) → β), fn_wk_J7_fill_53178 N f v β K = K f' := by
  have hl : ∀ (d fuel j : Nat) (f : Nat → Int32), j + d = N → d < fuel → (∀ i, i < j → f i = v) → ∃ f' : Nat → Int32, (∀ i, i < N → f' i = v) ∧ ∀ (β : Type) (kx : (Nat → Int32) → Int32 → Int32 → β), lf_wk_J7_fill_53178_5 N β kx fuel f v (nI j) = kx f' v (nI N) := by
    intro d
    induction d with
    | zero =>
      intro fuel j f hj hf h
      obtain ⟨z, rfl⟩ : ∃ z, fuel = z + 1 := ⟨fuel - 1, by omega⟩
      have e : j = N := by omega
      subst e
      exact ⟨f, h, fun β kx => by rw [lf_wk_J7_fill_53178_5_s, if_pos (nI_le (Nat.le_refl _) (by omega))]⟩
    | succ d ih =>
      intro fuel j f hj hf h
      obtain ⟨z, rfl⟩ : ∃ z, fuel = z + 1 := ⟨fuel - 1, by omega⟩
      obtain ⟨f', a1, a2⟩ := ih z (j + 1) (upd f j v) (by omega) (by omega) (fo_step (g := fun _ => v) h rfl)
      exact ⟨f', a1, fun β kx => by rw [lf_wk_J7_fill_53178_5_s, if_neg (nI_ge (by omega) (by omega)), nI_clamp (by omega), nI_1]; exact a2 β kx⟩
  obtain ⟨f', a1, a2⟩ := hl N (N + 1) 0 f (by omega) (by omega) (fun i hi => absurd hi (Nat.not_lt_zero _))
  refine ⟨f', a1, fun β K => ?_⟩
  rw [fn_wk_J7_fill_53178_s, fu_n hN]
  exact a2 β _
theorem fo_stepL {g z : Nat → Int64} {x : Int64} {k : Nat} (h : ∀ j, j < k → z j = g j) (hx : x = g k) : ∀ j, j < k + 1 → vp_updL z k x j = g j := by
  intro j hj
  by_cases e : j = k
  · rw [e, pk_uLs, hx]
  · rw [pk_uLn e]
    exact h j (by omega)
theorem c_fillL {N : Nat} {v : Int64} (hN : N < 2147483648) {f : Nat → Int64} : ∃ f' : Nat → Int64, (∀ j, j < N → f' j = v) ∧ ∀ (β : Type) (K : (Nat → Int64) → β), fn_wk_J7_fill_d0a16 N f v β K = K f' := by
  have hl : ∀ (d fuel j : Nat) (f : Nat → Int64), j + d = N → d < fuel → (∀ i, i < j → f i = v) → ∃ f' : Nat → Int64, (∀ i, i < N → f' i = v) ∧ ∀ (β : Type) (kx : (Nat → Int64) → Int64 → Int32 → β), lf_wk_J7_fill_d0a16_6 N β kx fuel f v (nI j) = kx f' v (nI N) := by
    intro d
    induction d with
    | zero =>
      intro fuel j f hj hf h
      obtain ⟨z, rfl⟩ : ∃ z, fuel = z + 1 := ⟨fuel - 1, by omega⟩
      have e : j = N := by omega
      subst e
      exact ⟨f, h, fun β kx => by rw [lf_wk_J7_fill_d0a16_6_s, if_pos (nI_le (Nat.le_refl _) (by omega))]⟩
    | succ d ih =>
      intro fuel j f hj hf h
      obtain ⟨z, rfl⟩ : ∃ z, fuel = z + 1 := ⟨fuel - 1, by omega⟩
      obtain ⟨f', a1, a2⟩ := ih z (j + 1) (vp_updL f j v) (by omega) (by omega) (fo_stepL (g := fun _ => v) h rfl)
      exact ⟨f', a1, fun β kx => by rw [lf_wk_J7_fill_d0a16_6_s, if_neg (nI_ge (by omega) (by omega)), nI_clamp (by omega), nI_1]; exact a2 β kx⟩
  obtain ⟨f', a1, a2⟩ := hl N (N + 1) 0 f (by omega) (by omega) (fun i hi => absurd hi (Nat.not_lt_zero _))
  refine ⟨f', a1, fun β K => ?_⟩
  rw [fn_wk_J7_fill_d0a16_s, fu_n hN]
  exact a2 β _
def chOf (fl : Int32) : Nat := if (fl &&& 1) = 0 then 1 else 2
def ncOf (fl : Int32) : Nat := if (fl &&& 1) = 0 then 1 else if (fl &&& 2) = 0 then 2 else 1
theorem c_begin {F : Nat} {we inp : Nat → Int32} {mi : Nat → Int64} {fl si er : Int32} : ∃ (we' inp' : Nat → Int32) (mi' : Nat → Int64), (∀ q, q < 16 → we' q = 0) ∧ (∀ q, q < 128 → inp' q = 0) ∧ (∀ q, q < 6 → mi' q = 0) ∧ ∀ (β : Type) (K : Nat → Nat → Nat → Int32 → Int32 → Int32 → Int32 → Int32 → Int32 → Int32 → Int32 → (Nat → Int32) → (Nat → Int32) → Int64 → Int64 → (Nat → Int64) → β), fn_wk_X9_begin F we inp mi fl si er β K = K (chOf fl) (ncOf fl) F fl si er 0 0 0 0 (nI (ncOf fl)) we' inp' 0 0 mi' := by
  obtain ⟨we', a1, a2⟩ := c_fill (N := 16) (v := 0) (by omega) (f := we)
  obtain ⟨inp', b1, b2⟩ := c_fill (N := 128) (v := 0) (by omega) (f := inp)
  obtain ⟨mi', c1, c2⟩ := c_fillL (N := 6) (v := 0) (by omega) (f := mi)
  refine ⟨we', inp', mi', a1, b1, c1, fun β K => ?_⟩
  rw [fn_wk_X9_begin_s]
  unfold chOf ncOf
  by_cases h1 : (fl &&& 1) = 0
  · rw [if_pos h1, if_pos h1, if_pos h1, fn_wk_X6_begin_s, a2, b2, fn_wk_X5_begin_s, c2]
    rfl
  · rw [if_neg h1, if_neg h1, if_neg h1]
    by_cases h2 : (fl &&& 2) = 0
    · rw [if_pos h2, if_pos h2, fn_wk_X6_begin_s, a2, b2, fn_wk_X5_begin_s, c2]
      rfl
    · rw [if_neg h2, if_neg h2, fn_wk_X6_begin_s, a2, b2, fn_wk_X5_begin_s, c2]
      rfl
theorem CP_0 {nch n : Nat} {we inp : Nat → Int32} (hn : n ≤ 8) (h1 : ∀ q, q < 16 → we q = 0) (h2 : ∀ q, q < 128 → inp q = 0) : CP nch n 0 0 we inp (fun _ => 0, fun _ _ => 0) := by
  refine ⟨h1, fun q a hq _ ha => ?_⟩
  unfold hC
  exact h2 _ (by omega)
theorem RP_0 {w g : Nat → Int32} (h1 : ∀ q, q < 16 → w q = 0) (h2 : ∀ q, q < 128 → g q = 0) : RP w g (fun _ => 0, fun _ _ => 0) := ⟨h1, fun q a hq ha => h2 _ (by omega)⟩
theorem r_begins {x25 x26 : Int32} {x27 : Int64} {w g : Nat → Int32} {M : Nat → Nat} : ∃ (w' g' : Nat → Int32) (M' : Nat → Nat), (∀ q, q < 16 → w' q = 0) ∧ (∀ q, q < 128 → g' q = 0) ∧ (∀ q, q < 6 → M' q = 0) ∧ ∀ (β : Type) (K : Int32 → Int32 → Int64 → (Nat → Int32) → (Nat → Int32) → (Nat → Nat) → β), fn_wr_X11_begins x25 x26 x27 w g M β K = K 0 0 0 w' g' M' := by
  have l1 : ∀ (d fuel j : Nat) (w : Nat → Int32), j + d = 16 → d < fuel → (∀ i, i < j → w i = 0) → ∃ w' : Nat → Int32, (∀ i, i < 16 → w' i = 0) ∧ ∀ (β : Type) (kx : Int32 → Int32 → Int64 → (Nat → Int32) → (Nat → Int32) → (Nat → Nat) → Nat → β), lf_wr_X11_begins_2 β kx fuel x25 x26 x27 w g M j = kx x25 x26 x27 w' g M 16 := by
    intro d
    induction d with
    | zero =>
      intro fuel j w hj hf h
      obtain ⟨z, rfl⟩ : ∃ z, fuel = z + 1 := ⟨fuel - 1, by omega⟩
      have e : j = 16 := by omega
      subst e
      exact ⟨w, h, fun β kx => by rw [lf_wr_X11_begins_2_s, if_pos (by omega)]⟩
    | succ d ih =>
      intro fuel j w hj hf h
      obtain ⟨z, rfl⟩ : ∃ z, fuel = z + 1 := ⟨fuel - 1, by omega⟩
      obtain ⟨w', a1, a2⟩ := ih z (j + 1) (upd w j 0) (by omega) (by omega) (fo_step (g := fun _ => 0) h rfl)
      exact ⟨w', a1, fun β kx => by rw [lf_wr_X11_begins_2_s, if_neg (by omega)]; exact a2 β kx⟩
  have l2 : ∀ (w : Nat → Int32) (d fuel j : Nat) (g : Nat → Int32), j + d = 128 → d < fuel → (∀ i, i < j → g i = 0) → ∃ g' : Nat → Int32, (∀ i, i < 128 → g' i = 0) ∧ ∀ (β : Type) (kx : Int32 → Int32 → Int64 → (Nat → Int32) → (Nat → Int32) → (Nat → Nat) → Nat → β), lf_wr_X11_begins_23 β kx fuel x25 x26 x27 w g M j = kx x25 x26 x27 w g' M 128 := by
    intro w d
    induction d with
    | zero =>
      intro fuel j g hj hf h
      obtain ⟨z, rfl⟩ : ∃ z, fuel = z + 1 := ⟨fuel - 1, by omega⟩
      have e : j = 128 := by omega
      subst e
      exact ⟨g, h, fun β kx => by rw [lf_wr_X11_begins_23_s, if_pos (by omega)]⟩
    | succ d ih =>
      intro fuel j g hj hf h
      obtain ⟨z, rfl⟩ : ∃ z, fuel = z + 1 := ⟨fuel - 1, by omega⟩
      obtain ⟨g', a1, a2⟩ := ih z (j + 1) (upd g j 0) (by omega) (by omega) (fo_step (g := fun _ => 0) h rfl)
      exact ⟨g', a1, fun β kx => by rw [lf_wr_X11_begins_23_s, if_neg (by omega)]; exact a2 β kx⟩
  have l3 : ∀ (w g : Nat → Int32) (d fuel j : Nat) (M : Nat → Nat), j + d = 6 → d < fuel → (∀ i, i < j → M i = 0) → ∃ M' : Nat → Nat, (∀ i, i < 6 → M' i = 0) ∧ ∀ (β : Type) (kx : Int32 → Int32 → Int64 → (Nat → Int32) → (Nat → Int32) → (Nat → Nat) → Nat → β), lf_wr_X11_begins_45 β kx fuel x25 x26 x27 w g M j = kx x25 x26 x27 w g M' 6 := by
    intro w g d
    induction d with
    | zero =>
      intro fuel j M hj hf h
      obtain ⟨z, rfl⟩ : ∃ z, fuel = z + 1 := ⟨fuel - 1, by omega⟩
      have e : j = 6 := by omega
      subst e
      exact ⟨M, h, fun β kx => by rw [lf_wr_X11_begins_45_s, if_pos (by omega)]⟩
    | succ d ih =>
      intro fuel j M hj hf h
      obtain ⟨z, rfl⟩ : ∃ z, fuel = z + 1 := ⟨fuel - 1, by omega⟩
      obtain ⟨M', a1, a2⟩ := ih z (j + 1) (updN M j 0) (by omega) (by omega) (fun i hi => by
        by_cases e : i = j
        · rw [e, updN_eq]
        · rw [updN_ne e]; exact h i (by omega))
      exact ⟨M', a1, fun β kx => by rw [lf_wr_X11_begins_45_s, if_neg (by omega)]; exact a2 β kx⟩
  obtain ⟨w', a1, a2⟩ := l1 16 17 0 w (by omega) (by omega) (fun i hi => absurd hi (Nat.not_lt_zero _))
  obtain ⟨g', b1, b2⟩ := l2 w' 128 129 0 g (by omega) (by omega) (fun i hi => absurd hi (Nat.not_lt_zero _))
  obtain ⟨M', c1, c2⟩ := l3 w' g' 6 7 0 M (by omega) (by omega) (fun i hi => absurd hi (Nat.not_lt_zero _))
  refine ⟨w', g', M', a1, b1, c1, fun β K => ?_⟩
  rw [fn_wr_X11_begins_s]
  refine (a2 β _).trans ?_
  refine (b2 β _).trans ?_
  exact c2 β _
/-- what is told of WEIGHTS and MEDIANS -/
theorem r_tellsAll {n nch E F : Nat} {x25 x26 x37 x39 x40 : Int32} {x27 : Int64} {r11 r12 w : Nat → Int32} {r13 : Nat → Int64} {M : Nat → Nat} : ∃ (r12' : Nat → Int32) (r13' : Nat → Int64), (∀ p c, p < 8 → c < 2 → r12' (2 * p + c) = if p < n ∧ c < nch then w (2 * p + c) else 0) ∧ (∀ k, k < 6 → r13' k = if k / 3 < nch then lN (M k) else 0) ∧ ∀ (β : Type) (K : (Nat → Int32) → (Nat → Int32) → (Nat → Int64) → β), fn_wr_X11_tells n nch x25 x26 x27 E x37 F x39 x40 r11 r12 r13 w M β K = K (upd (upd (upd (upd (upd (upd (upd (upd (upd (upd r11 0 (nI (1 + ((x39).toBitVec.toNat % 2)))) 1 (nI F)) 2 x39) 3 x37) 4 (nI n)) 5 (nI E)) 6 x25) 7 x26) 8 (Int64.toInt32 x27)) 9 x40) r12' r13' := by
  have g12 : ∀ (p : Nat) (d fuel c : Nat) (f : Nat → Int32), c + d = 2 → d < fuel → p < 8 → (∀ j, j < 2 * p + c → f j = if j / 2 < n ∧ j % 2 < nch then w j else 0) → ∃ f' : Nat → Int32, (∀ j, j < 2 * p + 2 → f' j = if j / 2 < n ∧ j % 2 < nch then w j else 0) ∧ ∀ (β : Type) (kx : (Nat → Int32) → Nat → β), lf_wr_X11_tells_119 n nch w p β kx fuel f c = kx f' 2 := by
    intro p d
    induction d with
    | zero =>
      intro fuel c f hc hf hp h
      obtain ⟨z, rfl⟩ : ∃ z, fuel = z + 1 := ⟨fuel - 1, by omega⟩
      have e : c = 2 := by omega
      subst e
      exact ⟨f, h, fun β kx => by rw [lf_wr_X11_tells_119_s, if_pos (by omega)]⟩
    | succ d ih =>
      intro fuel c f hc hf hp h
      obtain ⟨z, rfl⟩ : ∃ z, fuel = z + 1 := ⟨fuel - 1, by omega⟩
      have e1 : (2 * p + c) / 2 = p := by omega
      have e2 : (2 * p + c) % 2 = c := by omega
      by_cases q1 : n ≤ p
      · obtain ⟨f', a1, a2⟩ := ih z (c + 1) (upd f (2 * p + c) 0) (by omega) (by omega) hp (fo_step (g := fun j => if j / 2 < n ∧ j % 2 < nch then w j else 0) h (by show (0 : Int32) = if (2 * p + c) / 2 < n ∧ (2 * p + c) % 2 < nch then w (2 * p + c) else 0; rw [if_neg (by omega)]))
        exact ⟨f', a1, fun β kx => by rw [lf_wr_X11_tells_119_s, if_neg (by omega), if_pos q1]; exact a2 β kx⟩
      · by_cases q2 : nch ≤ c
        · obtain ⟨f', a1, a2⟩ := ih z (c + 1) (upd f (2 * p + c) 0) (by omega) (by omega) hp (fo_step (g := fun j => if j / 2 < n ∧ j % 2 < nch then w j else 0) h (by show (0 : Int32) = if (2 * p + c) / 2 < n ∧ (2 * p + c) % 2 < nch then w (2 * p + c) else 0; rw [if_neg (by omega)]))
          exact ⟨f', a1, fun β kx => by rw [lf_wr_X11_tells_119_s, if_neg (by omega), if_neg q1, if_pos q2]; exact a2 β kx⟩
        · obtain ⟨f', a1, a2⟩ := ih z (c + 1) (upd f (2 * p + c) (w (2 * p + c))) (by omega) (by omega) hp (fo_step (g := fun j => if j / 2 < n ∧ j % 2 < nch then w j else 0) h (by show w (2 * p + c) = if (2 * p + c) / 2 < n ∧ (2 * p + c) % 2 < nch then w (2 * p + c) else 0; rw [if_pos (by omega)]))
          exact ⟨f', a1, fun β kx => by rw [lf_wr_X11_tells_119_s, if_neg (by omega), if_neg q1, if_neg q2]; exact a2 β kx⟩
  have g11 : ∀ (d fuel p : Nat) (f : Nat → Int32), p + d = 8 → d < fuel → (∀ j, j < 2 * p → f j = if j / 2 < n ∧ j % 2 < nch then w j else 0) → ∃ f' : Nat → Int32, (∀ j, j < 16 → f' j = if j / 2 < n ∧ j % 2 < nch then w j else 0) ∧ ∀ (β : Type) (kx : (Nat → Int32) → Nat → β), lf_wr_X11_tells_111 n nch w β kx fuel f p = kx f' 8 := by
    intro d
    induction d with
    | zero =>
      intro fuel p f hp hf h
      obtain ⟨z, rfl⟩ : ∃ z, fuel = z + 1 := ⟨fuel - 1, by omega⟩
      have e : p = 8 := by omega
      subst e
      exact ⟨f, h, fun β kx => by rw [lf_wr_X11_tells_111_s, if_pos (by omega)]⟩
    | succ d ih =>
      intro fuel p f hp hf h
      obtain ⟨z, rfl⟩ : ∃ z, fuel = z + 1 := ⟨fuel - 1, by omega⟩
      obtain ⟨f1, b1, b2⟩ := g12 p 2 3 0 f (by omega) (by omega) (by omega) h
      obtain ⟨f', a1, a2⟩ := ih z (p + 1) f1 (by omega) (by omega) (by rw [show 2 * (p + 1) = 2 * p + 2 by omega]; exact b1)
      exact ⟨f', a1, fun β kx => by rw [lf_wr_X11_tells_111_s, if_neg (by omega)]; exact (b2 β _).trans (a2 β kx)⟩
  have g13 : ∀ (d fuel k : Nat) (f : Nat → Int64), k + d = 6 → d < fuel → (∀ j, j < k → f j = if j / 3 < nch then lN (M j) else 0) → ∃ f' : Nat → Int64, (∀ j, j < 6 → f' j = if j / 3 < nch then lN (M j) else 0) ∧ ∀ (β : Type) (kx : (Nat → Int64) → Nat → β), lf_wr_X11_tells_178 nch M β kx fuel f k = kx f' 6 := by
    intro d
    induction d with
    | zero =>
      intro fuel k f hk hf h
      obtain ⟨z, rfl⟩ : ∃ z, fuel = z + 1 := ⟨fuel - 1, by omega⟩
      have e : k = 6 := by omega
      subst e
      exact ⟨f, h, fun β kx => by rw [lf_wr_X11_tells_178_s, if_pos (by omega)]⟩
    | succ d ih =>
      intro fuel k f hk hf h
      obtain ⟨z, rfl⟩ : ∃ z, fuel = z + 1 := ⟨fuel - 1, by omega⟩
      by_cases q : nch ≤ k / 3
      · obtain ⟨f', a1, a2⟩ := ih z (k + 1) (vp_updL f k 0) (by omega) (by omega) (fo_stepL (g := fun j => if j / 3 < nch then lN (M j) else 0) h (by show (0 : Int64) = if k / 3 < nch then lN (M k) else 0; rw [if_neg (by omega)]))
        exact ⟨f', a1, fun β kx => by rw [lf_wr_X11_tells_178_s, if_neg (by omega), if_pos q]; exact a2 β kx⟩
      · obtain ⟨f', a1, a2⟩ := ih z (k + 1) (vp_updL f k (lN (M k))) (by omega) (by omega) (fo_stepL (g := fun j => if j / 3 < nch then lN (M j) else 0) h (by show lN (M k) = if k / 3 < nch then lN (M k) else 0; rw [if_pos (by omega)]))
        exact ⟨f', a1, fun β kx => by rw [lf_wr_X11_tells_178_s, if_neg (by omega), if_neg q]; exact a2 β kx⟩
  obtain ⟨r12', a1, a2⟩ := g11 8 9 0 r12 (by omega) (by omega) (fun j hj => absurd hj (by omega))
  obtain ⟨r13', b1, b2⟩ := g13 6 7 0 r13 (by omega) (by omega) (fun j hj => absurd hj (by omega))
  refine ⟨r12', r13', fun p c hp hc => ?_, b1, fun β K => ?_⟩
  · rw [a1 _ (by omega), show (2 * p + c) / 2 = p by omega, show (2 * p + c) % 2 = c by omega]
  · rw [fn_wr_X11_tells_s]
    refine (a2 β _).trans ?_
    exact b2 β _
theorem r_plan {n : Nat} {r2 r3 r16 r17 : Nat → Int32} (hn : n ≤ 8) : ∃ a b : Nat → Int32, (∀ j, j < n → a j = r2 j) ∧ (∀ j, j < n → b j = r3 j) ∧ (∀ (β : Type) (kx : (Nat → Int32) → (Nat → Int32) → Nat → β), lf_wr_X11_encode_1_47 n r2 r3 β kx 9 r16 r17 0 = kx a b n) ∧ (∀ (β : Type) (kx : (Nat → Int32) → (Nat → Int32) → Nat → β), lf_wr_X11_encode_2_47 n r2 r3 β kx 9 r16 r17 0 = kx a b n) := by
  have g : ∀ (d fuel k : Nat) (f h : Nat → Int32), k + d = n → d < fuel → (∀ j, j < k → f j = r2 j) → (∀ j, j < k → h j = r3 j) → ∃ a b : Nat → Int32, (∀ j, j < n → a j = r2 j) ∧ (∀ j, j < n → b j = r3 j) ∧ (∀ (β : Type) (kx : (Nat → Int32) → (Nat → Int32) → Nat → β), lf_wr_X11_encode_1_47 n r2 r3 β kx fuel f h k = kx a b n) ∧ (∀ (β : Type) (kx : (Nat → Int32) → (Nat → Int32) → Nat → β), lf_wr_X11_encode_2_47 n r2 r3 β kx fuel f h k = kx a b n) := by
    intro d
    induction d with
    | zero =>
      intro fuel k f h hk hf h1 h2
      obtain ⟨z, rfl⟩ : ∃ z, fuel = z + 1 := ⟨fuel - 1, by omega⟩
      have e : k = n := by omega
      subst e
      exact ⟨f, h, h1, h2, fun β kx => by rw [lf_wr_X11_encode_1_47_s, if_pos (Nat.le_refl _)], fun β kx => by rw [lf_wr_X11_encode_2_47_s, if_pos (Nat.le_refl _)]⟩
    | succ d ih =>
      intro fuel k f h hk hf h1 h2
      obtain ⟨z, rfl⟩ : ∃ z, fuel = z + 1 := ⟨fuel - 1, by omega⟩
      obtain ⟨a, b, a1, a2, a3, a4⟩ := ih z (k + 1) (upd f k (r2 k)) (upd h k (r3 k)) (by omega) (by omega) (fo_step h1 rfl) (fo_step h2 rfl)
      exact ⟨a, b, a1, a2, fun β kx => by rw [lf_wr_X11_encode_1_47_s, if_neg (by omega)]; exact a3 β kx, fun β kx => by rw [lf_wr_X11_encode_2_47_s, if_neg (by omega)]; exact a4 β kx⟩
  exact g n 9 0 r16 r17 (by omega) (by omega) (fun j hj => absurd hj (Nat.not_lt_zero _)) (fun j hj => absurd hj (Nat.not_lt_zero _))
theorem c_copy {n : Nat} {te2 de2 te de : Nat → Int32} : ∃ a b : Nat → Int32, (∀ j, j < 8 → a j = te2 j) ∧ (∀ j, j < 8 → b j = de2 j) ∧ ∀ (β : Type) (K : Nat → (Nat → Int32) → (Nat → Int32) → β), fn_wk_X7_copy n te2 de2 te de β K = K n a b := by
  have g : ∀ (f t : Nat → Int32), ∀ j, j < 8 → upd (upd (upd (upd (upd (upd (upd (upd f 0 (t 0)) 1 (t 1)) 2 (t 2)) 3 (t 3)) 4 (t 4)) 5 (t 5)) 6 (t 6)) 7 (t 7) j = t j := fun f t => fo_step (fo_step (fo_step (fo_step (fo_step (fo_step (fo_step (fo_step (fun j hj => absurd hj (Nat.not_lt_zero _)) rfl) rfl) rfl) rfl) rfl) rfl) rfl) rfl
  exact ⟨_, _, g te te2, g de de2, fun β K => by rw [fn_wk_X7_copy_s]⟩
