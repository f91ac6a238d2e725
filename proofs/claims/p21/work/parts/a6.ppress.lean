/-! both encoders, from heads to ends -/
abbrev RSt : Type := ESt × PSt × Nat × Nat × Nat
def P0 : PSt := (fun _ => 0, fun _ _ => 0)
noncomputable def encR (E nch n F : Nat) (T D V : Nat → Int32) (M : Nat → Nat) : RSt := if E = 0 then ((EZ (tR nch n T D V) nch F 0 0 (([], [], M, 0), 0, 0)).1, tS nch n T D V (F * nch), (EZ (tR nch n T D V) nch F 0 0 (([], [], M, 0), 0, 0)).2.1, (EZ (tR nch n T D V) nch F 0 0 (([], [], M, 0), 0, 0)).2.2, 0) else ((fal E nch n T D V F 0 (([], [], M, 0), P0, 0)).1, (fal E nch n T D V F 0 (([], [], M, 0), P0, 0)).2.1, 0, 0, (fal E nch n T D V F 0 (([], [], M, 0), P0, 0)).2.2)
theorem BW_nil {h : Nat} {f : Nat → Int32} : BW h [] 0 0 (nI h) f := ⟨fun x hx => (by cases hx), rfl, rfl, rfl, fun j hj => absurd hj (by show ¬ j < 0 / 8; omega)⟩
theorem RB_nil {g : Nat → Int32} : RB [] 0 g := ⟨fun x hx => (by cases hx), rfl, fun j hj => absurd hj (Nat.not_lt_zero _)⟩
theorem EB_0 {M : Nat → Nat} {a b : Nat} (h : ∀ i, i < 6 → M i = 0) : EB a b ([], [], M, 0) := ⟨fun i hi => by show M i ≤ _; rw [h i hi]; exact Nat.zero_le _, Nat.zero_le _, Nat.zero_le _, (by show 0 < 2147483648; decide)⟩
theorem hdN_le {n E : Nat} (hn : n ≤ 8) : hdN n E ≤ 24 := by unfold hdN; split <;> omega
set_option maxHeartbeats 2000000 in
theorem r_codesAll {E nch n F lo hi : Nat} {te de T D V kw kg w g ba gu rf sf : Nat → Int32} {M : Nat → Nat} (hnc : nch = 1 ∨ nch = 2) (hP : PV n T) (hTe : ∀ j, j < n → te j = T j) (hDe : ∀ j, j < n → de j = D j) (hE : E ≤ 65535) (hF : F ≤ 600) (hM : ∀ i, i < 6 → M i = 0) (hw : ∀ q, q < 16 → w q = 0) (hg : ∀ q, q < 128 → g q = 0) : ∃ (g27' : Int64) (lo' hi' m1' m2' : Nat) (kw' kg' w' g' ba' gu' : Nat → Int32) (M' : Nat → Nat) (rf' sf' : Nat → Int32), RE (encR E nch n F T D V M).1 g27' m1' m2' M' rf' sf' ∧ RP w' g' (encR E nch n F T D V M).2.1 ∧ EB (122 * F + 14) (32 * F) (encR E nch n F T D V M).1 ∧ (encR E nch n F T D V M).2.2.2.2 < 2147483648 ∧ ∀ (β : Type) (K : Int32 → Int32 → Int64 → Nat → Nat → Nat → Nat → Int32 → (Nat → Int32) → (Nat → Int32) → (Nat → Int32) → (Nat → Int32) → (Nat → Int32) → (Nat → Int32) → (Nat → Nat) → (Nat → Int32) → (Nat → Int32) → β), fn_wr_X11_codesAll n nch 0 0 0 lo hi 0 0 E F 0 te de V kw kg w g ba gu M rf sf β K = K (nI (encR E nch n F T D V M).2.2.1) (nI (encR E nch n F T D V M).2.2.2.1) g27' lo' hi' m1' m2' (nI (encR E nch n F T D V M).2.2.2.2) kw' kg' w' g' ba' gu' M' rf' sf' := by
  have hRE : RE ([], [], M, 0) 0 0 0 M rf sf := ⟨RB_nil, RB_nil, rfl, rfl⟩
  have hRP : RP w g P0 := RP_0 hw hg
  unfold encR
  by_cases h0 : E = 0
  · rw [if_pos h0]
    subst h0
    obtain ⟨a27, alo, ahi, am1, am2, akw, akg, aw, ag, aba, agu, aM, arf, asf, aq, af, b1, b2, b3, b4⟩ := r_ca0 (gr := 0) (V := V) hnc hP hTe hDe (by omega) hF (2 * (F - 0) + (1 - 0) + 1) 0 0 (([], [], M, 0), 0, 0) 0 lo hi 0 0 kw kg w g ba gu M rf sf (by omega) (by omega) (by omega) (EB_0 hM) hRE (by rw [Nat.zero_mul]; exact hRP)
    refine ⟨a27, alo, ahi, am1, am2, akw, akg, aw, ag, aba, agu, aM, arf, asf, b1, b2, b3, (by show 0 < 2147483648; decide), fun β K => ?_⟩
    rw [fn_wr_X11_codesAll_s]
    exact b4 β _
  · rw [if_neg h0]
    obtain ⟨a27, alo, ahi, am1, am2, aw, ag, aba, agu, aM, arf, asf, aq, b1, b2, b3, b4, b5⟩ := r_caE (F := F) (V := V) (si := 0) (po := 0) hnc hP hTe hDe hE h0 F (2 * (F - 0) + (1 - 0) + 1) 0 (([], [], M, 0), P0, 0) 0 lo hi 0 0 kw kg w g ba gu M rf sf 0 (by omega) (by omega) (EB_0 hM) (by show 0 < 2147483648; decide) hRE hRP
    refine ⟨a27, alo, ahi, am1, am2, kw, kg, aw, ag, aba, agu, aM, arf, asf, b1, b2, EB_mono b3 (by omega) (by omega), b4, fun β K => ?_⟩
    rw [fn_wr_X11_codesAll_s]
    exact b5 β _
theorem efc_V {E base : Nat} {R S : Nat → Int32} : True := trivial
theorem tS_congr {nch n : Nat} {T D V W : Nat → Int32} : ∀ i, (∀ j, j < i → V j = W j) → tS nch n T D V i = tS nch n T D W i := by
  intro i
  induction i with
  | zero => intro _; rfl
  | succ i ih =>
    intro h
    show stS nch n T D (i % nch) (tS nch n T D V i) (V i - gS nch n T (i % nch) (tS nch n T D V i)) = stS nch n T D (i % nch) (tS nch n T D W i) (W i - gS nch n T (i % nch) (tS nch n T D W i))
    rw [ih (fun j hj => h j (by omega)), h i (by omega)]
theorem tR_congr {nch n : Nat} {T D V W : Nat → Int32} {i : Nat} (h : ∀ j, j ≤ i → V j = W j) : tR nch n T D V i = tR nch n T D W i := by
  unfold tR
  rw [tS_congr i (fun j hj => h j (by omega)), h i (Nat.le_refl _)]
theorem enc0_congr {R S : Nat → Int32} {nch F : Nat} (hn : nch = 1 ∨ nch = 2) (h : ∀ j, j < F * nch → R j = S j) : ∀ (k f q : Nat) (z : ZSt), f ≤ F → enc0 R nch F k f q z = enc0 S nch F k f q z := by
  intro k
  induction k with
  | zero => intro f q z _; rfl
  | succ k ih =>
    intro f q z hf
    show (if F ≤ f then z else if q = 0 ∧ z.1.2.2.1 0 = 0 ∧ (nch = 1 ∨ z.1.2.2.1 3 = 0) then enc0 R nch F k (f + cz R nch (F - f) f) 1 (silS (cz R nch (F - f) f) z) else enc0 R nch F k (f + 1) 0 (efc 0 (f * nch) R nch 0 z.1, z.2)) = (if F ≤ f then z else if q = 0 ∧ z.1.2.2.1 0 = 0 ∧ (nch = 1 ∨ z.1.2.2.1 3 = 0) then enc0 S nch F k (f + cz S nch (F - f) f) 1 (silS (cz S nch (F - f) f) z) else enc0 S nch F k (f + 1) 0 (efc 0 (f * nch) S nch 0 z.1, z.2))
    by_cases h1 : F ≤ f
    · rw [if_pos h1, if_pos h1]
    · have hm1 : (f + 1) * nch ≤ F * nch := Nat.mul_le_mul_right _ (by omega)
      rw [Nat.add_mul, Nat.one_mul] at hm1
      have hc := cz_le (R := S) (nch := nch) (F - f) f
      rw [if_neg h1, if_neg h1, cz_congr hn h (F - f) f (by omega), efc_congr nch 0 z.1 (fun j hj => h j (by omega)), ih _ _ _ (by omega), ih _ _ _ (by omega)]
theorem ffc_congr {E nch n base : Nat} {T D V W : Nat → Int32} : ∀ (d c : Nat) (z : FSt), (∀ j, j < base + (c + d) → V j = W j) → ffc E nch n T D V base d c z = ffc E nch n T D W base d c z := by
  intro d
  induction d with
  | zero => intro c z _; rfl
  | succ d ih =>
    intro c z h
    have e : fsS E nch n T D V (base + c) c z = fsS E nch n T D W (base + c) c z := by
      unfold fsS fsx
      rw [h (base + c) (by omega)]
    show ffc E nch n T D V base d (c + 1) (fsS E nch n T D V (base + c) c z) = ffc E nch n T D W base d (c + 1) (fsS E nch n T D W (base + c) c z)
    rw [e]
    exact ih (c + 1) _ (fun j hj => h j (by omega))
theorem fal_congr {E nch n F : Nat} {T D V W : Nat → Int32} (h : ∀ j, j < F * nch → V j = W j) : ∀ (d f : Nat) (z : FSt), f + d = F → fal E nch n T D V d f z = fal E nch n T D W d f z := by
  intro d
  induction d with
  | zero => intro f z _; rfl
  | succ d ih =>
    intro f z hf
    have hm1 : (f + 1) * nch ≤ F * nch := Nat.mul_le_mul_right _ (by omega)
    rw [Nat.add_mul, Nat.one_mul] at hm1
    show fal E nch n T D V d (f + 1) (ffc E nch n T D V (f * nch) nch 0 z) = fal E nch n T D W d (f + 1) (ffc E nch n T D W (f * nch) nch 0 z)
    rw [ffc_congr nch 0 z (fun j hj => h j (by omega))]
    exact ih (f + 1) _ (by omega)
theorem encR_congr {E nch n F : Nat} {T D V W : Nat → Int32} {M : Nat → Nat} (hn : nch = 1 ∨ nch = 2) (h : ∀ j, j < F * nch → V j = W j) : encR E nch n F T D V M = encR E nch n F T D W M := by
  have h1 : EZ (tR nch n T D V) nch F 0 0 (([], [], M, 0), 0, 0) = EZ (tR nch n T D W) nch F 0 0 (([], [], M, 0), 0, 0) := enc0_congr hn (fun j hj => tR_congr (fun i hi => h i (by omega))) _ 0 0 _ (by omega)
  unfold encR
  rw [h1, tS_congr (F * nch) h, fal_congr h F 0 _ (by omega)]
set_option maxHeartbeats 4000000 in
theorem c_press {E nch n F k1 k2 : Nat} {fl sh p6 p7 : Int32} {md1 md2 : Int64} {sv te de T D fia sea sr we inp ba gu : Nat → Int32} {mi : Nat → Int64} {M : Nat → Nat} (hnc : nch = 1 ∨ nch = 2) (hP : PV n T) (hTe : ∀ j, j < n → te j = T j) (hDe : ∀ j, j < n → de j = D j) (hE : E ≤ 65535) (hF : F ≤ 600) (hFn : F * nch ≤ 1200) (hk1 : k1 < 2147483648) (hk2 : k2 < 2147483648) (hM : ∀ i, i < 6 → M i = 0) (hmi : ∀ i, i < 6 → mi i = 0) (hw : ∀ q, q < 16 → we q = 0) (hg : ∀ q, q < 128 → inp q = 0) (hEBr : EB (122 * F + 14) (32 * F) (encR E nch n F T D sv M).1) : ∃ (f1 f2 sr' : Nat → Int32) (p6' p7' : Int32) (we' inp' ba' gu' : Nat → Int32) (md1' md2' : Int64) (mi' : Nat → Int64), AB f1 (K1 (hdN n E) (encR E nch n F T D sv M).1.1 + 4) (st1 (hdB n fl sh F E T D) (hdN n E) (encR E nch n F T D sv M).1.1) ∧ AB f2 (K1 5 (encR E nch n F T D sv M).1.2.1 + 4) (st2 (hdB n fl sh F E T D) (hdN n E) (encR E nch n F T D sv M).1.1 (encR E nch n F T D sv M).1.2.1) ∧ CP nch n F 0 we' inp' (encR E nch n F T D sv M).2.1 ∧ MR mi' (encR E nch n F T D sv M).1.2.2.1 ∧ ∀ (β : Type) (K : Int32 → (Nat → Int32) → Int32 → (Nat → Int32) → Int32 → Int32 → Int32 → Int32 → (Nat → Int32) → Int32 → Int32 → Int32 → Int32 → Int32 → Int32 → (Nat → Int32) → (Nat → Int32) → (Nat → Int32) → (Nat → Int32) → Int64 → Int64 → (Nat → Int64) → β), fn_wk_X4_press sv nch F fl sh (nI E) (nI nch) n te de (nI k1) fia (nI k2) sea 0 0 0 0 sr 0 0 0 0 p6 p7 we inp ba gu md1 md2 mi β K = K (nI (K1 (hdN n E) (encR E nch n F T D sv M).1.1 + 4)) f1 (nI (K1 5 (encR E nch n F T D sv M).1.2.1 + 4)) f2 0 0 0 0 sr' (nI (encR E nch n F T D sv M).2.2.1) (nI (encR E nch n F T D sv M).2.2.2.1) (nI (encR E nch n F T D sv M).1.2.2.2) (nI (encR E nch n F T D sv M).2.2.2.2) p6' p7' we' inp' ba' gu' md1' md2' mi' := by
  have hh := hdN_le (E := E) hP.1
  have hh6 : 6 ≤ hdN n E := by unfold hdN; omega
  obtain ⟨f1, f2, a1, a2, a3⟩ := c_heads (fl := fl) (sh := sh) (fia := fia) (sea := sea) (F := F) hP.1 hF hE hk1 hk2 hTe hDe
  have hMR : MR mi M := fun i hi => by rw [hmi i hi, hM i hi]; rfl
  have hCE : CE (hdN n E) 5 ([], [], M, 0) (nI (hdN n E)) f1 (nI 5) f2 0 0 0 0 0 mi := ⟨BW_nil, BW_nil, hMR, rfl⟩
  have hCP : CP nch n 0 0 we inp P0 := CP_0 hP.1 hw hg
  have hl1 := hEBr.2.1
  have hl2 := hEBr.2.2.1
  have hK1 : K1 (hdN n E) (encR E nch n F T D sv M).1.1 + 4 ≤ 9600 := by unfold K1; omega
  have hK2 : K1 5 (encR E nch n F T D sv M).1.2.1 + 4 ≤ 2450 := by unfold K1; omega
  clear hl1 hl2
  unfold encR at hK1 hK2 ⊢
  by_cases h0 : E = 0
  · rw [if_pos h0] at hK1 hK2 ⊢
    subst h0
    obtain ⟨sr', we', inp', ba', gu', p6', p7', b1, b2, b3⟩ := c_foretellAll (sv := sv) (sr := sr) (ba := ba) (gu := gu) (p6 := p6) (p7 := p7) hnc hP hTe hDe hFn hCP
    obtain ⟨o1, u1, t1, g1, o2, u2, t2, g2, mi', w10', md1', md2', x1, x2, x3, c1, c2, c3, c4⟩ := c_pr0 (n := n) (h1 := hdN n 0) (h2 := 5) (sv := sv) (te := te) (de := de) (sr := sr') (R := tR nch n T D sv) (p5 := nI nch) (w11 := 0) (p6 := p6') (p7 := p7') (we := we') (inp := inp') (ba := ba') (gu := gu') hnc hF hFn hh (by omega) b2 F (F + 1) 0 0 (([], [], M, 0), 0, 0) 0 0 (nI (hdN n 0)) f1 0 0 (nI 5) f2 mi 0 md1 md2 (by omega) (by omega) (by omega) (by omega) (EB_0 hM) hCE
    obtain ⟨d1, d2, d3, d4⟩ := c1
    obtain ⟨ff1, ff2, e1, e2, e3⟩ := c_tails (G := hdB n fl sh F 0 T D) d1 d2 (fun j hj => (c2 j hj).trans (a1 j hj)) ((c3 0 (by omega)).trans a2) hK1 hK2
    refine ⟨ff1, ff2, sr', p6', p7', we', inp', ba', gu', md1', md2', mi', e1, e2, b1, d3, fun β K => ?_⟩
    rw [fn_wk_X4_press_s, a3]
    refine (if_pos (show nI 0 = 0 from rfl)).trans ?_
    rw [b3, fu_n (by omega)]
    refine (c4 β _).trans ?_
    refine (e3 β _).trans ?_
    rw [d4]
    rfl
  · rw [if_neg h0] at hK1 hK2 ⊢
    obtain ⟨o1, u1, t1, g1, o2, u2, t2, g2, mi', w10', md1', md2', p6', p7', we', inp', ba', gu', c1, c2, c3, c4, c5⟩ := c_prE (h1 := hdN n E) (h2 := 5) (sv := sv) (sr := sr) (w8 := 0) (w9 := 0) hnc hP hTe hDe hE h0 hF hFn hh (by omega) F (F + 1) 0 (([], [], M, 0), P0, 0) 0 0 (nI (hdN n E)) f1 0 0 (nI 5) f2 mi 0 md1 md2 p6 p7 we inp ba gu (by omega) (by omega) (EB_0 hM) (by show 0 < 2147483648; decide) hCE hCP
    obtain ⟨d1, d2, d3, d4⟩ := c1
    obtain ⟨ff1, ff2, e1, e2, e3⟩ := c_tails (G := hdB n fl sh F E T D) d1 d2 (fun j hj => (c3 j hj).trans (a1 j hj)) ((c4 0 (by omega)).trans a2) hK1 hK2
    refine ⟨ff1, ff2, sr, p6', p7', we', inp', ba', gu', md1', md2', mi', e1, e2, c2, d3, fun β K => ?_⟩
    rw [fn_wk_X4_press_s, a3]
    refine (if_neg (nI_ne0 (by omega) (by omega))).trans ?_
    rw [fu_n (by omega)]
    refine (c5 β _).trans ?_
    refine (e3 β _).trans ?_
    rw [d4]
    rfl
