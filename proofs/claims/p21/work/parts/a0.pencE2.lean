/-! FRAMES with an error: the reference; all FRAMES -/
set_option maxHeartbeats 1000000 in
theorem r_cflE {nch n f E : Nat} {te de T D V : Nat → Int32} (hnc : nch = 1 ∨ nch = 2) (hP : PV n T) (hTe : ∀ j, j < n → te j = T j) (hDe : ∀ j, j < n → de j = D j) (hE : E ≤ 65535) : ∀ (d fuel c a b : Nat) (z : FSt) (g27 : Int64) (lo hi m1 m2 : Nat) (w g ba gu : Nat → Int32) (M : Nat → Nat) (rf sf : Nat → Int32), c + d = nch → d < fuel → EB a b z.1 → z.2.2 < 2147483648 → RE z.1 g27 m1 m2 M rf sf → RP w g z.2.1 → ∃ (g27' : Int64) (lo' hi' m1' m2' : Nat) (w' g' ba' gu' : Nat → Int32) (M' : Nat → Nat) (rf' sf' : Nat → Int32), RE (ffc E nch n T D V (f * nch) d c z).1 g27' m1' m2' M' rf' sf' ∧ RP w' g' (ffc E nch n T D V (f * nch) d c z).2.1 ∧ ∀ (β : Type) (kx : Int64 → Nat → Nat → Nat → Nat → Int32 → (Nat → Int32) → (Nat → Int32) → (Nat → Int32) → (Nat → Int32) → (Nat → Nat) → (Nat → Int32) → (Nat → Int32) → Nat → β), lf_wr_X11_codesAll_82 n nch E te de V f β kx fuel g27 lo hi m1 m2 (nI z.2.2) w g ba gu M rf sf c = kx g27' lo' hi' m1' m2' (nI (ffc E nch n T D V (f * nch) d c z).2.2) w' g' ba' gu' M' rf' sf' nch := by
  intro d
  induction d with
  | zero =>
    intro fuel c a b z g27 lo hi m1 m2 w g ba gu M rf sf hcd hf hEB hg hRE hRP
    obtain ⟨k, rfl⟩ : ∃ k, fuel = k + 1 := ⟨fuel - 1, by omega⟩
    have e : c = nch := by omega
    subst e
    exact ⟨g27, lo, hi, m1, m2, w, g, ba, gu, M, rf, sf, hRE, hRP, fun β kx => by rw [lf_wr_X11_codesAll_82_s, if_pos (Nat.le_refl _)]; rfl⟩
  | succ d ih =>
    intro fuel c a b z g27 lo hi m1 m2 w g ba gu M rf sf hcd hf hEB hg hRE hRP
    obtain ⟨k, rfl⟩ : ∃ k, fuel = k + 1 := ⟨fuel - 1, by omega⟩
    obtain ⟨w1, g1, ba1, gu1, rf1, sf1, n1, n2, lo1, hi1, M1, z27, a1, a2, a3⟩ := re_codes (E := E) (ba := ba) (gu := gu) (va := V (f * nch + c)) hnc (by omega : c < nch) hP hTe hDe hg hE hEB hRE hRP
    obtain ⟨e1, e2⟩ := FB_step (nch := nch) (n := n) (i := f * nch + c) (T := T) (D := D) (V := V) (by omega : c < 2) hE hEB hg
    obtain ⟨g27', lo', hi', m1', m2', w', g', ba', gu', M', rf', sf', b1, b2, b3⟩ := ih k (c + 1) (a + 54) (b + 16) (fsS E nch n T D V (f * nch + c) c z) z27 lo1 hi1 n1 n2 w1 g1 ba1 gu1 M1 rf1 sf1 (by omega) (by omega) e1 e2 a1 a2
    refine ⟨g27', lo', hi', m1', m2', w', g', ba', gu', M', rf', sf', b1, b2, fun β kx => ?_⟩
    rw [lf_wr_X11_codesAll_82_s, if_neg (by omega), show (nch * f) + c = f * nch + c by rw [Nat.mul_comm], a3]
    exact b3 β kx
theorem FB_frm {nch n f E : Nat} {T D V : Nat → Int32} {z : FSt} (hnc : nch = 1 ∨ nch = 2) (hE : E ≤ 65535) (h : EB (108 * f) (32 * f) z.1) (hg : z.2.2 < 2147483648) : EB (108 * (f + 1)) (32 * (f + 1)) (ffc E nch n T D V (f * nch) nch 0 z).1 ∧ (ffc E nch n T D V (f * nch) nch 0 z).2.2 < 2147483648 := by
  obtain ⟨h1, h2⟩ := FB_ffc (nch := nch) (n := n) (base := f * nch) (T := T) (D := D) (V := V) hE nch 0 _ _ z (by omega) h hg
  exact ⟨EB_mono h1 (by omega) (by omega), h2⟩
set_option maxHeartbeats 4000000 in
theorem r_caE {nch n F E : Nat} {te de T D V : Nat → Int32} {si po : Int32} (hnc : nch = 1 ∨ nch = 2) (hP : PV n T) (hTe : ∀ j, j < n → te j = T j) (hDe : ∀ j, j < n → de j = D j) (hE : E ≤ 65535) (hE0 : E ≠ 0) : ∀ (d fuel f : Nat) (z : FSt) (g27 : Int64) (lo hi m1 m2 : Nat) (kw kg w g ba gu : Nat → Int32) (M : Nat → Nat) (rf sf : Nat → Int32) (q : Nat), f + d = F → d < fuel → EB (108 * f) (32 * f) z.1 → z.2.2 < 2147483648 → RE z.1 g27 m1 m2 M rf sf → RP w g z.2.1 → ∃ (g27' : Int64) (lo' hi' m1' m2' : Nat) (w' g' ba' gu' : Nat → Int32) (M' : Nat → Nat) (rf' sf' : Nat → Int32) (q' : Nat), RE (fal E nch n T D V d f z).1 g27' m1' m2' M' rf' sf' ∧ RP w' g' (fal E nch n T D V d f z).2.1 ∧ EB (108 * F) (32 * F) (fal E nch n T D V d f z).1 ∧ (fal E nch n T D V d f z).2.2 < 2147483648 ∧ ∀ (β : Type) (kx : Int32 → Int32 → Int64 → Nat → Nat → Nat → Nat → Int32 → (Nat → Int32) → (Nat → Int32) → (Nat → Int32) → (Nat → Int32) → (Nat → Int32) → (Nat → Int32) → (Nat → Nat) → (Nat → Int32) → (Nat → Int32) → Nat → Nat → β), lf_wr_X11_codesAll_4 n nch E F te de V β kx fuel si po g27 lo hi m1 m2 (nI z.2.2) kw kg w g ba gu M rf sf q f = kx si po g27' lo' hi' m1' m2' (nI (fal E nch n T D V d f z).2.2) kw kg w' g' ba' gu' M' rf' sf' q' F := by
  intro d
  induction d with
  | zero =>
    intro fuel f z g27 lo hi m1 m2 kw kg w g ba gu M rf sf q hfd hf hEB hg hRE hRP
    obtain ⟨k, rfl⟩ : ∃ k, fuel = k + 1 := ⟨fuel - 1, by omega⟩
    have e : f = F := by omega
    subst e
    exact ⟨g27, lo, hi, m1, m2, w, g, ba, gu, M, rf, sf, q, hRE, hRP, hEB, hg, fun β kx => by rw [lf_wr_X11_codesAll_4_s, if_pos (Nat.le_refl _)]; rfl⟩
  | succ d ih =>
    intro fuel f z g27 lo hi m1 m2 kw kg w g ba gu M rf sf q hfd hf hEB hg hRE hRP
    obtain ⟨k, rfl⟩ : ∃ k, fuel = k + 1 := ⟨fuel - 1, by omega⟩
    obtain ⟨a27, alo, ahi, am1, am2, aw, ag, aba, agu, aM, arf, asf, b1, b2, b3⟩ := r_cflE (f := f) (V := V) hnc hP hTe hDe hE nch (nch + 1) 0 _ _ z g27 lo hi m1 m2 w g ba gu M rf sf (by omega) (by omega) hEB hg hRE hRP
    obtain ⟨e1, e2⟩ := FB_frm (n := n) (T := T) (D := D) (V := V) hnc hE hEB hg
    obtain ⟨c27, clo, chi, cm1, cm2, cw, cg, cba, cgu, cM, crf, csf, cq, d1, d2, d3, d4, d5⟩ := ih k (f + 1) (ffc E nch n T D V (f * nch) nch 0 z) a27 alo ahi am1 am2 kw kg aw ag aba agu aM arf asf 0 (by omega) (by omega) e1 e2 b1 b2
    refine ⟨c27, clo, chi, cm1, cm2, cw, cg, cba, cgu, cM, crf, csf, cq, d1, d2, d3, d4, fun β kx => ?_⟩
    rw [lf_wr_X11_codesAll_4_s, if_neg (by omega), if_neg hE0]
    refine (b3 β _).trans ?_
    exact d5 β kx
set_option maxHeartbeats 4000000 in
theorem c_prE {nch n F h1 h2 E : Nat} {sv te de sr T D : Nat → Int32} {w8 w9 : Int32} (hnc : nch = 1 ∨ nch = 2) (hP : PV n T) (hTe : ∀ j, j < n → te j = T j) (hDe : ∀ j, j < n → de j = D j) (hE : E ≤ 65535) (hE0 : E ≠ 0) (hF : F ≤ 600) (hFn : F * nch ≤ 1200) (hh1 : h1 ≤ 24) (hh2 : h2 ≤ 5) : ∀ (d fuel f : Nat) (z : FSt) (o1 u1 t1 : Int32) (f1 : Nat → Int32) (o2 u2 t2 : Int32) (f2 : Nat → Int32) (mi : Nat → Int64) (w10 : Int32) (md1 md2 : Int64) (p6 p7 : Int32) (we inp ba gu : Nat → Int32), f + d = F → d < fuel → EB (108 * f) (32 * f) z.1 → z.2.2 < 2147483648 → CE h1 h2 z.1 t1 f1 t2 f2 o1 u1 o2 u2 w10 mi → CP nch n f 0 we inp z.2.1 → ∃ (o1' u1' t1' : Int32) (f1' : Nat → Int32) (o2' u2' t2' : Int32) (f2' : Nat → Int32) (mi' : Nat → Int64) (w10' : Int32) (md1' md2' : Int64) (p6' p7' : Int32) (we' inp' ba' gu' : Nat → Int32), CE h1 h2 (fal E nch n T D sv d f z).1 t1' f1' t2' f2' o1' u1' o2' u2' w10' mi' ∧ CP nch n F 0 we' inp' (fal E nch n T D sv d f z).2.1 ∧ (∀ j, j < h1 → nb f1' j = nb f1 j) ∧ (∀ j, j < h2 → nb f2' j = nb f2 j) ∧ ∀ (β : Type) (kx : Int32 → (Nat → Int32) → Int32 → (Nat → Int32) → Int32 → Int32 → Int32 → Int32 → (Nat → Int32) → Int32 → Int32 → Int32 → Int32 → Int32 → Int32 → (Nat → Int32) → (Nat → Int32) → (Nat → Int32) → (Nat → Int32) → Int64 → Int64 → (Nat → Int64) → Int32 → Int32 → Int32 → β), lf_wk_X4_press_24 sv nch F (nI E) (nI nch) n te de β kx fuel t1 f1 t2 f2 o1 u1 o2 u2 sr w8 w9 w10 (nI z.2.2) p6 p7 we inp ba gu md1 md2 mi 0 0 (nI f) = kx t1' f1' t2' f2' o1' u1' o2' u2' sr w8 w9 w10' (nI (fal E nch n T D sv d f z).2.2) p6' p7' we' inp' ba' gu' md1' md2' mi' 0 0 (nI F) := by
  intro d
  induction d with
  | zero =>
    intro fuel f z o1 u1 t1 f1 o2 u2 t2 f2 mi w10 md1 md2 p6 p7 we inp ba gu hfd hf hEB hg hCE hCP
    obtain ⟨k, rfl⟩ : ∃ k, fuel = k + 1 := ⟨fuel - 1, by omega⟩
    have e : f = F := by omega
    subst e
    exact ⟨o1, u1, t1, f1, o2, u2, t2, f2, mi, w10, md1, md2, p6, p7, we, inp, ba, gu, hCE, hCP, fun _ _ => rfl, fun _ _ => rfl, fun β kx => by rw [lf_wk_X4_press_24_s, if_pos (nI_le (Nat.le_refl _) (by omega))]; rfl⟩
  | succ d ih =>
    intro fuel f z o1 u1 t1 f1 o2 u2 t2 f2 mi w10 md1 md2 p6 p7 we inp ba gu hfd hf hEB hg hCE hCP
    obtain ⟨k, rfl⟩ : ∃ k, fuel = k + 1 := ⟨fuel - 1, by omega⟩
    have hm1 : (f + 1) * nch ≤ F * nch := Nat.mul_le_mul_right _ (by omega)
    rw [Nat.add_mul, Nat.one_mul] at hm1
    obtain ⟨y1, y2, y3, y4, y5, y6, y7, y8, mi2, w2, md5, md6, q6, q7, we2, inp2, ba2, gu2, c1, c2, c3, c4, c5⟩ := c_wflE (sv := sv) (sr := sr) hnc hP hTe hDe (by omega : f * nch + nch ≤ 1200) hE hE0 nch (nch + 1) 0 _ _ z o1 u1 t1 f1 o2 u2 t2 f2 mi w10 md1 md2 p6 p7 we inp ba gu (by omega) (by omega) hEB hg hCE hCP (by omega) (by omega)
    obtain ⟨e1, e2⟩ := FB_frm (n := n) (T := T) (D := D) (V := sv) hnc hE hEB hg
    obtain ⟨x1, x2, x3, x4, x5, x6, x7, x8, mi3, w3, md7, md8, r6, r7, we3, inp3, ba3, gu3, d1, d2, d3, d4, d5⟩ := ih k (f + 1) (ffc E nch n T D sv (f * nch) nch 0 z) y1 y2 y3 y4 y5 y6 y7 y8 mi2 w2 md5 md6 q6 q7 we2 inp2 ba2 gu2 (by omega) (by omega) e1 e2 c1 (CP_next c2)
    refine ⟨x1, x2, x3, x4, x5, x6, x7, x8, mi3, w3, md7, md8, r6, r7, we3, inp3, ba3, gu3, d1, d2, fun j hj => (d3 j hj).trans (c3 j hj), fun j hj => (d4 j hj).trans (c4 j hj), fun β kx => ?_⟩
    rw [lf_wk_X4_press_24_s, if_neg (nI_ge (by omega) (by omega)), if_pos rfl, fn_wk_X9_mayBeSilent_s, if_neg (nI_ne0 (by omega) (by omega)), if_pos rfl, if_pos (by decide), fn_wk_X4_writeFrame_s, fu_n (by omega)]
    refine (c5 β _).trans ?_
    rw [nI_1]
    exact d5 β kx
