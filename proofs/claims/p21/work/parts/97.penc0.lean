/-! the loops without an error: both give what enc0 gives -/
noncomputable def EZ (R : Nat → Int32) (nch F f q : Nat) (z : ZSt) : ZSt := enc0 R nch F (2 * (F - f) + (1 - q)) f q z
theorem EZ_end {R : Nat → Int32} {nch F f q : Nat} {z : ZSt} (h : F ≤ f) : EZ R nch F f q z = z := by
  unfold EZ
  generalize 2 * (F - f) + (1 - q) = k
  cases k with
  | zero => rfl
  | succ k => exact if_pos h
theorem EZ_sil {R : Nat → Int32} {nch F f : Nat} {z : ZSt} (h : f < F) (h2 : z.1.2.2.1 0 = 0 ∧ (nch = 1 ∨ z.1.2.2.1 3 = 0)) : EZ R nch F f 0 z = EZ R nch F (f + cz R nch (F - f) f) 1 (silS (cz R nch (F - f) f) z) := by
  have hm := cz_le (R := R) (nch := nch) (F - f) f
  unfold EZ
  show (if F ≤ f then z else if (0 = 0 ∧ z.1.2.2.1 0 = 0 ∧ (nch = 1 ∨ z.1.2.2.1 3 = 0)) then enc0 R nch F (2 * (F - f) + 0) (f + cz R nch (F - f) f) 1 (silS (cz R nch (F - f) f) z) else _) = _
  rw [if_neg (by omega), if_pos ⟨rfl, h2⟩]
  have := enc0_more (R := R) (nch := nch) (F := F) (f := f + cz R nch (F - f) f) (q := 1) (z := silS (cz R nch (F - f) f) z) (by omega) (2 * cz R nch (F - f) f) (2 * (F - (f + cz R nch (F - f) f)) + (1 - 1)) (by omega)
  rw [show 2 * (F - (f + cz R nch (F - f) f)) + (1 - 1) + 2 * cz R nch (F - f) f = 2 * (F - f) + 0 by omega] at this
  exact this
theorem EZ_frm {R : Nat → Int32} {nch F f q : Nat} {z : ZSt} (hq : q ≤ 1) (h : f < F) (h2 : ¬ (q = 0 ∧ z.1.2.2.1 0 = 0 ∧ (nch = 1 ∨ z.1.2.2.1 3 = 0))) : EZ R nch F f q z = EZ R nch F (f + 1) 0 (efc 0 (f * nch) R nch 0 z.1, z.2) := by
  unfold EZ
  obtain ⟨k, hk⟩ : ∃ k, 2 * (F - f) + (1 - q) = k + 1 := ⟨2 * (F - f) + (1 - q) - 1, by omega⟩
  rw [hk]
  show (if F ≤ f then z else if q = 0 ∧ z.1.2.2.1 0 = 0 ∧ (nch = 1 ∨ z.1.2.2.1 3 = 0) then _ else enc0 R nch F k (f + 1) 0 (efc 0 (f * nch) R nch 0 z.1, z.2)) = _
  rw [if_neg (by omega), if_neg h2]
  have := enc0_more (R := R) (nch := nch) (F := F) (f := f + 1) (q := 0) (z := (efc 0 (f * nch) R nch 0 z.1, z.2)) (by omega) (1 - q) (2 * (F - (f + 1)) + (1 - 0)) (by omega)
  rw [show 2 * (F - (f + 1)) + (1 - 0) + (1 - q) = k by omega] at this
  exact this
theorem EB_sil {f m : Nat} {z : ZSt} (hm : m ≤ 600) (h : EB (122 * f) (32 * f) z.1) : EB (122 * (f + m) + 14) (32 * (f + m)) (silS m z).1 := by
  obtain ⟨h1, h2, h3, h4⟩ := h
  have hl : Nat.log2 (m + 1) < 10 := (Nat.log2_lt (by omega)).mpr (by omega)
  refine ⟨h1, ?_, ?_, h4⟩
  · show (z.1.1 ++ bitsG (m + 1)).length ≤ _
    rw [List.length_append, bitsG_len]
    omega
  · show z.1.2.1.length ≤ _
    omega
theorem EB_frm {nch f q : Nat} {R : Nat → Int32} {s : ESt} (hnc : nch = 1 ∨ nch = 2) (hq : q ≤ 1) (h : EB (122 * f + 14 * q) (32 * f) s) : EB (122 * (f + 1) + 14 * 0) (32 * (f + 1)) (efc 0 (f * nch) R nch 0 s) :=
  EB_mono (EB_efc (E := 0) (base := f * nch) (R := R) (by omega) nch 0 _ _ s (by omega) h) (by omega) (by omega)
theorem r_tells {si po m : Nat} (hm : m ≤ 600) {β : Type} {K : Int32 → Int32 → β} : fn_wr_X11_tellsSilence (nI si) (nI po) (nI m) β K = K (nI (si + (if m = 0 then 0 else 1))) (nI (po + m)) := by
  rw [fn_wr_X11_tellsSilence_s, nI_add]
  by_cases h : m = 0
  · rw [if_pos (by rw [h]; decide), if_pos h]
    have : nI si + 0 = nI (si + 0) := nI_add si 0
    rw [this]
  · rw [if_neg (nI_nle (by omega) (by omega)), if_neg h, nI_1]
set_option maxHeartbeats 4000000 in
theorem r_ca0 {nch n F gr : Nat} {te de T D V : Nat → Int32} (hnc : nch = 1 ∨ nch = 2) (hP : PV n T) (hTe : ∀ j, j < n → te j = T j) (hDe : ∀ j, j < n → de j = D j) (hgr : gr < 2147483648) (hF : F ≤ 600) : ∀ (fuel f q : Nat) (z : ZSt) (g27 : Int64) (lo hi m1 m2 : Nat) (kw kg w g ba gu : Nat → Int32) (M : Nat → Nat) (rf sf : Nat → Int32), f ≤ F → q ≤ 1 → 2 * (F - f) + (1 - q) < fuel → EB (122 * f + 14 * q) (32 * f) z.1 → RE z.1 g27 m1 m2 M rf sf → RP w g (tS nch n T D V (f * nch)) → ∃ (g27' : Int64) (lo' hi' m1' m2' : Nat) (kw' kg' w' g' ba' gu' : Nat → Int32) (M' : Nat → Nat) (rf' sf' : Nat → Int32) (q' f' : Nat), RE (EZ (tR nch n T D V) nch F f q z).1 g27' m1' m2' M' rf' sf' ∧ RP w' g' (tS nch n T D V (F * nch)) ∧ EB (122 * F + 14) (32 * F) (EZ (tR nch n T D V) nch F f q z).1 ∧ ∀ (β : Type) (kx : Int32 → Int32 → Int64 → Nat → Nat → Nat → Nat → Int32 → (Nat → Int32) → (Nat → Int32) → (Nat → Int32) → (Nat → Int32) → (Nat → Int32) → (Nat → Int32) → (Nat → Nat) → (Nat → Int32) → (Nat → Int32) → Nat → Nat → β), lf_wr_X11_codesAll_4 n nch 0 F te de V β kx fuel (nI z.2.1) (nI z.2.2) g27 lo hi m1 m2 (nI gr) kw kg w g ba gu M rf sf q f = kx (nI (EZ (tR nch n T D V) nch F f q z).2.1) (nI (EZ (tR nch n T D V) nch F f q z).2.2) g27' lo' hi' m1' m2' (nI gr) kw' kg' w' g' ba' gu' M' rf' sf' q' f' := by
  intro fuel
  induction fuel with
  | zero => intro f q z g27 lo hi m1 m2 kw kg w g ba gu M rf sf _ _ h; exact absurd h (Nat.not_lt_zero _)
  | succ fuel ih =>
    intro f q z g27 lo hi m1 m2 kw kg w g ba gu M rf sf hfF hq hfu hEB hRE hRP
    by_cases hend : F ≤ f
    · have e : f = F := by omega
      subst e
      rw [EZ_end (Nat.le_refl _)]
      exact ⟨g27, lo, hi, m1, m2, kw, kg, w, g, ba, gu, M, rf, sf, q, f, hRE, hRP, EB_mono hEB (by omega) (by omega), fun β kx => by rw [lf_wr_X11_codesAll_4_s, if_pos (Nat.le_refl _)]⟩
    · have eM : z.1.2.2.1 = M := hRE.2.2.1
      have hfr : ∀ (w g ba gu : Nat → Int32), ¬ (q = 0 ∧ z.1.2.2.1 0 = 0 ∧ (nch = 1 ∨ z.1.2.2.1 3 = 0)) → RP w g (tS nch n T D V (f * nch)) → ∃ (g27' : Int64) (lo' hi' m1' m2' : Nat) (kw' kg' w' g' ba' gu' : Nat → Int32) (M' : Nat → Nat) (rf' sf' : Nat → Int32) (q' f' : Nat), RE (EZ (tR nch n T D V) nch F f q z).1 g27' m1' m2' M' rf' sf' ∧ RP w' g' (tS nch n T D V (F * nch)) ∧ EB (122 * F + 14) (32 * F) (EZ (tR nch n T D V) nch F f q z).1 ∧ ∀ (β : Type) (kx : Int32 → Int32 → Int64 → Nat → Nat → Nat → Nat → Int32 → (Nat → Int32) → (Nat → Int32) → (Nat → Int32) → (Nat → Int32) → (Nat → Int32) → (Nat → Int32) → (Nat → Nat) → (Nat → Int32) → (Nat → Int32) → Nat → Nat → β), lf_wr_X11_codesAll_82 n nch 0 te de V f β (fun y1 y2 y3 y4 y5 y6 y7 y8 y9 y10 y11 y12 y13 y14 => lf_wr_X11_codesAll_4 n nch 0 F te de V β kx fuel (nI z.2.1) (nI z.2.2) y1 y2 y3 y4 y5 y6 kw kg y7 y8 y9 y10 y11 y12 y13 0 (f + 1)) ((nch - 0) + 1) g27 lo hi m1 m2 (nI gr) w g ba gu M rf sf 0 = kx (nI (EZ (tR nch n T D V) nch F f q z).2.1) (nI (EZ (tR nch n T D V) nch F f q z).2.2) g27' lo' hi' m1' m2' (nI gr) kw' kg' w' g' ba' gu' M' rf' sf' q' f' := fun w g ba gu hnq hRP => by
        obtain ⟨a27, alo, ahi, am1, am2, aw, ag, aba, agu, aM, arf, asf, b1, b2, b3⟩ := r_cfl0 hnc hP hTe hDe hgr nch (nch + 1) 0 _ _ z.1 g27 lo hi m1 m2 w g ba gu M rf sf (by omega) (by omega) hEB hRE hRP
        obtain ⟨c27, clo, chi, cm1, cm2, ckw, ckg, cw, cg, cba, cgu, cM, crf, csf, cq, cf, d1, d2, d3, d4⟩ := ih (f + 1) 0 (efc 0 (f * nch) (tR nch n T D V) nch 0 z.1, z.2) a27 alo ahi am1 am2 kw kg aw ag aba agu aM arf asf (by omega) (by omega) (by omega) (EB_frm hnc hq hEB) b1 (by rw [Nat.add_mul, Nat.one_mul]; exact b2)
        rw [← EZ_frm hq (by omega) hnq] at d1 d3 d4
        exact ⟨c27, clo, chi, cm1, cm2, ckw, ckg, cw, cg, cba, cgu, cM, crf, csf, cq, cf, d1, d2, d3, fun β kx => (b3 β _).trans (d4 β kx)⟩
      by_cases hq0 : q = 0
      · by_cases hqu : z.1.2.2.1 0 = 0 ∧ (nch = 1 ∨ z.1.2.2.1 3 = 0)
        · -- a SILENCE
          subst hq0
          have hm := cz_le (R := tR nch n T D V) (nch := nch) (F - f) f
          obtain ⟨kw1, kg1, w1, g1, ba1, gu1, a1, a2⟩ := r_cnt (F := F) (f := f) hnc hP hTe hDe (F - f) (F - f + 1) 0 kw kg w g ba gu (by omega) (by omega) hRP
          simp only [Nat.zero_add, Nat.add_zero] at a1 a2
          obtain ⟨rb1, rb2, rb3, rb4⟩ := hRE
          obtain ⟨rf1, b1, b2⟩ := r_putG (a := cz (tR nch n T D V) nch (F - f) f + 1) (by omega) (by omega) rb1
          obtain ⟨c27, clo, chi, cm1, cm2, ckw, ckg, cw, cg, cba, cgu, cM, crf, csf, cq, cf, d1, d2, d3, d4⟩ := ih (f + cz (tR nch n T D V) nch (F - f) f) 1 (silS (cz (tR nch n T D V) nch (F - f) f) z) g27 lo hi (m1 + (bitsG (cz (tR nch n T D V) nch (F - f) f + 1)).length) m2 kw1 kg1 w1 g1 ba1 gu1 M rf1 sf (by omega) (by omega) (by omega) (EB_sil (by omega) hEB) ⟨b1, rb2, rb3, rb4⟩ a1
          rw [← EZ_sil (by omega) hqu] at d1 d3 d4
          refine ⟨c27, clo, chi, cm1, cm2, ckw, ckg, cw, cg, cba, cgu, cM, crf, csf, cq, cf, d1, d2, d3, fun β kx => ?_⟩
          rw [lf_wr_X11_codesAll_4_s, if_neg hend, if_pos rfl, if_pos rfl, ← eM, r_silent, if_pos hqu, if_neg (by decide), eM]
          refine (a2 β _).trans ?_
          rw [b2, r_tells (by omega)]
          exact d4 β kx
        · obtain ⟨c27, clo, chi, cm1, cm2, ckw, ckg, cw, cg, cba, cgu, cM, crf, csf, cq, cf, d1, d2, d3, d4⟩ := hfr w g ba gu (fun x => hqu x.2) hRP
          refine ⟨c27, clo, chi, cm1, cm2, ckw, ckg, cw, cg, cba, cgu, cM, crf, csf, cq, cf, d1, d2, d3, fun β kx => ?_⟩
          rw [lf_wr_X11_codesAll_4_s, if_neg hend, if_pos rfl, if_pos hq0, ← eM, r_silent, if_neg hqu, if_pos rfl, eM]
          exact d4 β kx
      · obtain ⟨c27, clo, chi, cm1, cm2, ckw, ckg, cw, cg, cba, cgu, cM, crf, csf, cq, cf, d1, d2, d3, d4⟩ := hfr w g ba gu (fun x => hq0 x.1) hRP
        refine ⟨c27, clo, chi, cm1, cm2, ckw, ckg, cw, cg, cba, cgu, cM, crf, csf, cq, cf, d1, d2, d3, fun β kx => ?_⟩
        rw [lf_wr_X11_codesAll_4_s, if_neg hend, if_pos rfl, if_neg hq0]
        exact d4 β kx
/-! the class -/
theorem c_may {nch : Nat} {mi : Nat → Int64} {M : Nat → Nat} (hn : nch = 1 ∨ nch = 2) (hM : MR mi M) (hB : MB M) {β : Type} {K : Int32 → β} : fn_wk_X9_mayBeSilent nch (nI 0) mi β K = K (if M 0 = 0 ∧ (nch = 1 ∨ M 3 = 0) then 1 else 0) := by
  rw [fn_wk_X9_mayBeSilent_s, if_pos (show nI 0 = 0 from rfl), c_quiet hn hM hB]
  by_cases h : M 0 = 0 ∧ (nch = 1 ∨ M 3 = 0)
  · rw [if_pos h, if_neg (by decide)]
  · rw [if_neg h, if_pos rfl]
theorem c_noteS {si po m : Nat} (hm : m ≤ 600) {β : Type} {K : Int32 → Int32 → β} : fn_wk_X9_noteSilence (nI si) (nI po) (nI m) β K = K (nI (si + (if m = 0 then 0 else 1))) (nI (po + m)) := by
  rw [fn_wk_X9_noteSilence_s]
  by_cases h : m = 0
  · rw [if_pos (by rw [h]; decide), if_pos h, h]
    rfl
  · rw [if_neg (nI_nle (by omega) (by omega)), if_neg h, nI_1, nI_add]
theorem c_skip {nch n F E : Nat} {sv te de sr : Nat → Int32} {p5 : Int32} {t1 t2 o1 u1 o2 u2 w8 w9 w10 w11 p6 p7 : Int32} {f1 f2 we inp ba gu : Nat → Int32} {md1 md2 : Int64} {mi : Nat → Int64} (hF : F ≤ 600) : ∀ (m fuel f : Nat), f + m ≤ F → ∀ (β : Type) (kx : Int32 → (Nat → Int32) → Int32 → (Nat → Int32) → Int32 → Int32 → Int32 → Int32 → (Nat → Int32) → Int32 → Int32 → Int32 → Int32 → Int32 → Int32 → (Nat → Int32) → (Nat → Int32) → (Nat → Int32) → (Nat → Int32) → Int64 → Int64 → (Nat → Int64) → Int32 → Int32 → Int32 → β), lf_wk_X4_press_24 sv nch F (nI E) p5 n te de β kx (fuel + m) t1 f1 t2 f2 o1 u1 o2 u2 sr w8 w9 w10 w11 p6 p7 we inp ba gu md1 md2 mi (nI m) 1 (nI f) = lf_wk_X4_press_24 sv nch F (nI E) p5 n te de β kx fuel t1 f1 t2 f2 o1 u1 o2 u2 sr w8 w9 w10 w11 p6 p7 we inp ba gu md1 md2 mi (nI 0) 1 (nI (f + m)) := by
  intro m
  induction m with
  | zero => intro fuel f _ β kx; rfl
  | succ m ih =>
    intro fuel f hf β kx
    rw [← Nat.add_assoc, lf_wk_X4_press_24_s, if_neg (nI_ge (by omega) (by omega)), if_neg (by decide), if_neg (nI_nle (by omega) (by omega)), pk_m1, nI_1, ih fuel (f + 1) (by omega) β kx, show f + 1 + m = f + (m + 1) by omega]
