/-! FRAMES without an error -/
def efc (E base : Nat) (R : Nat → Int32) : Nat → Nat → ESt → ESt
  | 0, _, s => s
  | d + 1, c, s => efc E base R d (c + 1) (est E c (R (base + c)) s)
theorem efc_congr {E base : Nat} {R S : Nat → Int32} : ∀ (d c : Nat) (s : ESt), (∀ j, j < base + (c + d) → R j = S j) → efc E base R d c s = efc E base S d c s := by
  intro d
  induction d with
  | zero => intro c s _; rfl
  | succ d ih =>
    intro c s h
    show efc E base R d (c + 1) (est E c (R (base + c)) s) = efc E base S d (c + 1) (est E c (S (base + c)) s)
    rw [h (base + c) (by omega)]
    exact ih (c + 1) _ (fun j hj => h j (by omega))
theorem EB_efc {E base : Nat} {R : Nat → Int32} (hE : E ≤ 65535) : ∀ (d c a b : Nat) (s : ESt), c + d ≤ 2 → EB a b s → EB (a + 54 * d) (b + 16 * d) (efc E base R d c s) := by
  intro d
  induction d with
  | zero => intro c a b s _ h; exact h
  | succ d ih =>
    intro c a b s hc h
    have := ih (c + 1) (a + 54) (b + 16) _ (by omega) (EB_est (x := R (base + c)) (by omega : c < 2) hE h)
    rw [show a + 54 + 54 * d = a + 54 * (d + 1) by omega, show b + 16 + 16 * d = b + 16 * (d + 1) by omega] at this
    exact this
theorem EB_mono {a b a' b' : Nat} {s : ESt} (h : EB a b s) (h1 : a ≤ a') (h2 : b ≤ b') : EB a' b' s := ⟨h.1, by have := h.2.1; omega, by have := h.2.2.1; omega, h.2.2.2⟩
set_option maxHeartbeats 1000000 in
theorem c_wfl0 {nch n fr h1 h2 : Nat} {sv sr te de : Nat → Int32} {p5 w11 p6 p7 : Int32} {we inp ba gu : Nat → Int32} (hnc : nch = 1 ∨ nch = 2) (hfr : fr * nch + nch ≤ 1200) : ∀ (d fuel c a b : Nat) (s : ESt) (o1 u1 t1 : Int32) (f1 : Nat → Int32) (o2 u2 t2 : Int32) (f2 : Nat → Int32) (mi : Nat → Int64) (w10 : Int32) (md1 md2 : Int64), c + d = nch → d < fuel → EB a b s → CE h1 h2 s t1 f1 t2 f2 o1 u1 o2 u2 w10 mi → h1 + (a + 54 * d + 124) / 8 ≤ 9600 → h2 + (b + 16 * d + 17) / 8 ≤ 2450 → ∃ (o1' u1' t1' : Int32) (f1' : Nat → Int32) (o2' u2' t2' : Int32) (f2' : Nat → Int32) (mi' : Nat → Int64) (w10' : Int32) (md1' md2' : Int64), CE h1 h2 (efc 0 (fr * nch) sr d c s) t1' f1' t2' f2' o1' u1' o2' u2' w10' mi' ∧ (∀ j, j < h1 → nb f1' j = nb f1 j) ∧ (∀ j, j < h2 → nb f2' j = nb f2 j) ∧ ∀ (β : Type) (kx : Int32 → (Nat → Int32) → Int32 → (Nat → Int32) → Int32 → Int32 → Int32 → Int32 → Int32 → Int32 → Int32 → Int32 → (Nat → Int32) → (Nat → Int32) → (Nat → Int32) → (Nat → Int32) → Int64 → Int64 → (Nat → Int64) → Int32 → Int32 → β), lf_wk_X4_writeFrame_2 sv sr nch (nI 0) p5 n te de β kx fuel t1 f1 t2 f2 o1 u1 o2 u2 w10 w11 p6 p7 we inp ba gu md1 md2 mi (nI fr) (nI c) = kx t1' f1' t2' f2' o1' u1' o2' u2' w10' w11 p6 p7 we inp ba gu md1' md2' mi' (nI fr) (nI nch) := by
  intro d
  induction d with
  | zero =>
    intro fuel c a b s o1 u1 t1 f1 o2 u2 t2 f2 mi w10 md1 md2 hcd hf hEB hCE ha hb
    obtain ⟨z, rfl⟩ : ∃ z, fuel = z + 1 := ⟨fuel - 1, by omega⟩
    have e : c = nch := by omega
    subst e
    exact ⟨o1, u1, t1, f1, o2, u2, t2, f2, mi, w10, md1, md2, hCE, fun _ _ => rfl, fun _ _ => rfl, fun β kx => by rw [lf_wk_X4_writeFrame_2_s, if_pos (nI_le (Nat.le_refl _) (by omega))]⟩
  | succ d ih =>
    intro fuel c a b s o1 u1 t1 f1 o2 u2 t2 f2 mi w10 md1 md2 hcd hf hEB hCE ha hb
    obtain ⟨z, rfl⟩ : ∃ z, fuel = z + 1 := ⟨fuel - 1, by omega⟩
    obtain ⟨x1, x2, x3, x4, x5, x6, x7, x8, mi1, w1, b1, b2, b3, md3, md4, b4⟩ := ce_writeRest (E := 0) (re := sr (fr * nch + c)) (c := c) (by omega) (by omega) hEB hCE (by omega) (by omega)
    obtain ⟨y1, y2, y3, y4, y5, y6, y7, y8, mi2, w2, md5, md6, c1, c2, c3, c4⟩ := ih z (c + 1) (a + 54) (b + 16) (est 0 c (sr (fr * nch + c)) s) x1 x2 x3 x4 x5 x6 x7 x8 mi1 w1 md3 md4 (by omega) (by omega) (EB_est (by omega) (by omega) hEB) b1 (by omega) (by omega)
    refine ⟨y1, y2, y3, y4, y5, y6, y7, y8, mi2, w2, md5, md6, c1, fun j hj => (c2 j hj).trans (b2 j hj), fun j hj => (c3 j hj).trans (b3 j hj), fun β kx => ?_⟩
    rw [lf_wk_X4_writeFrame_2_s, if_neg (nI_ge (by omega) (by omega)), if_pos (show nI 0 = 0 from rfl), nI_ix, c_restAt (by omega), b4, nI_1]
    exact c4 β kx
theorem c_wf0 {nch n fr h1 h2 a b : Nat} {sv sr te de : Nat → Int32} {p5 w11 p6 p7 : Int32} {we inp ba gu : Nat → Int32} {s : ESt} {o1 u1 t1 : Int32} {f1 : Nat → Int32} {o2 u2 t2 : Int32} {f2 : Nat → Int32} {mi : Nat → Int64} {w10 : Int32} {md1 md2 : Int64} (hnc : nch = 1 ∨ nch = 2) (hfr : fr * nch + nch ≤ 1200) (hEB : EB a b s) (hCE : CE h1 h2 s t1 f1 t2 f2 o1 u1 o2 u2 w10 mi) (ha : h1 + (a + 240) / 8 ≤ 9600) (hb : h2 + (b + 49) / 8 ≤ 2450) : ∃ (o1' u1' t1' : Int32) (f1' : Nat → Int32) (o2' u2' t2' : Int32) (f2' : Nat → Int32) (mi' : Nat → Int64) (w10' : Int32) (md1' md2' : Int64), CE h1 h2 (efc 0 (fr * nch) sr nch 0 s) t1' f1' t2' f2' o1' u1' o2' u2' w10' mi' ∧ (∀ j, j < h1 → nb f1' j = nb f1 j) ∧ (∀ j, j < h2 → nb f2' j = nb f2 j) ∧ ∀ (β : Type) (K : Int32 → (Nat → Int32) → Int32 → (Nat → Int32) → Int32 → Int32 → Int32 → Int32 → Int32 → Int32 → Int32 → Int32 → (Nat → Int32) → (Nat → Int32) → (Nat → Int32) → (Nat → Int32) → Int64 → Int64 → (Nat → Int64) → β), fn_wk_X4_writeFrame sv sr nch (nI 0) p5 n te de t1 f1 t2 f2 o1 u1 o2 u2 w10 w11 p6 p7 we inp ba gu md1 md2 mi (nI fr) β K = K t1' f1' t2' f2' o1' u1' o2' u2' w10' w11 p6 p7 we inp ba gu md1' md2' mi' := by
  obtain ⟨y1, y2, y3, y4, y5, y6, y7, y8, mi2, w2, md5, md6, c1, c2, c3, c4⟩ := c_wfl0 (n := n) (sv := sv) (sr := sr) (te := te) (de := de) (p5 := p5) (w11 := w11) (p6 := p6) (p7 := p7) (we := we) (inp := inp) (ba := ba) (gu := gu) hnc hfr nch (nch + 1) 0 a b s o1 u1 t1 f1 o2 u2 t2 f2 mi w10 md1 md2 (by omega) (by omega) hEB hCE (by omega) (by omega)
  refine ⟨y1, y2, y3, y4, y5, y6, y7, y8, mi2, w2, md5, md6, c1, c2, c3, fun β K => ?_⟩
  rw [fn_wk_X4_writeFrame_s, fu_n (by omega)]
  exact c4 β _
theorem ds_0 {v : Nat} : dsN v v = 0 := by
  unfold dsN
  rw [if_pos (Nat.le_refl _), Nat.sub_self]
set_option maxHeartbeats 1000000 in
theorem r_cfl0 {nch n f gr : Nat} {te de T D V : Nat → Int32} (hnc : nch = 1 ∨ nch = 2) (hP : PV n T) (hTe : ∀ j, j < n → te j = T j) (hDe : ∀ j, j < n → de j = D j) (hgr : gr < 2147483648) : ∀ (d fuel c a b : Nat) (s : ESt) (g27 : Int64) (lo hi m1 m2 : Nat) (w g ba gu : Nat → Int32) (M : Nat → Nat) (rf sf : Nat → Int32), c + d = nch → d < fuel → EB a b s → RE s g27 m1 m2 M rf sf → RP w g (tS nch n T D V (f * nch + c)) → ∃ (g27' : Int64) (lo' hi' m1' m2' : Nat) (w' g' ba' gu' : Nat → Int32) (M' : Nat → Nat) (rf' sf' : Nat → Int32), RE (efc 0 (f * nch) (tR nch n T D V) d c s) g27' m1' m2' M' rf' sf' ∧ RP w' g' (tS nch n T D V (f * nch + nch)) ∧ ∀ (β : Type) (kx : Int64 → Nat → Nat → Nat → Nat → Int32 → (Nat → Int32) → (Nat → Int32) → (Nat → Int32) → (Nat → Int32) → (Nat → Nat) → (Nat → Int32) → (Nat → Int32) → Nat → β), lf_wr_X11_codesAll_82 n nch 0 te de V f β kx fuel g27 lo hi m1 m2 (nI gr) w g ba gu M rf sf c = kx g27' lo' hi' m1' m2' (nI gr) w' g' ba' gu' M' rf' sf' nch := by
  intro d
  induction d with
  | zero =>
    intro fuel c a b s g27 lo hi m1 m2 w g ba gu M rf sf hcd hf hEB hRE hRP
    obtain ⟨z, rfl⟩ : ∃ z, fuel = z + 1 := ⟨fuel - 1, by omega⟩
    have e : c = nch := by omega
    subst e
    exact ⟨g27, lo, hi, m1, m2, w, g, ba, gu, M, rf, sf, hRE, hRP, fun β kx => by rw [lf_wr_X11_codesAll_82_s, if_pos (Nat.le_refl _)]⟩
  | succ d ih =>
    intro fuel c a b s g27 lo hi m1 m2 w g ba gu M rf sf hcd hf hEB hRE hRP
    obtain ⟨z, rfl⟩ : ∃ z, fuel = z + 1 := ⟨fuel - 1, by omega⟩
    have et : V (f * nch + c) - gS nch n T c (tS nch n T D V (f * nch + c)) = tR nch n T D V (f * nch + c) := (tR_eq hnc (by omega)).symm
    obtain ⟨hre, hv⟩ := vO_eq (tR nch n T D V (f * nch + c))
    obtain ⟨w1, g1, ba1, gu1, rf1, sf1, n1, n2, lo1, hi1, M1, z27, a1, a2, a3⟩ := re_codes (E := 0) (ba := ba) (gu := gu) (va := V (f * nch + c)) hnc (by omega : c < nch) hP hTe hDe hgr (by omega) hEB hRE hRP
    rw [et] at a1 a2 a3
    rw [rN_0 (by omega) hEB.1 hv, ← hre, ← tS_step hnc (by omega)] at a2
    have hm0 : max gr (dsN (vO (tR nch n T D V (f * nch + c))) (rN s.2.2.1 c 0 (vO (tR nch n T D V (f * nch + c))))) = gr := by
      rw [rN_0 (by omega) hEB.1 hv, ds_0]
      omega
    rw [hm0] at a3
    obtain ⟨g27', lo', hi', m1', m2', w', g', ba', gu', M', rf', sf', b1, b2, b3⟩ := ih z (c + 1) (a + 54) (b + 16) _ z27 lo1 hi1 n1 n2 w1 g1 ba1 gu1 M1 rf1 sf1 (by omega) (by omega) (EB_est (by omega) (by omega) hEB) a1 a2
    refine ⟨g27', lo', hi', m1', m2', w', g', ba', gu', M', rf', sf', b1, b2, fun β kx => ?_⟩
    rw [lf_wr_X11_codesAll_82_s, if_neg (by omega), show (nch * f) + c = f * nch + c by rw [Nat.mul_comm], a3]
    exact b3 β kx
/-! what both do, without an error -/
abbrev ZSt : Type := ESt × Nat × Nat
def quiet (nch : Nat) (M : Nat → Nat) : Prop := M 0 = 0 ∧ (nch = 1 ∨ M 3 = 0)
def silS (m : Nat) (z : ZSt) : ZSt := ((z.1.1 ++ bitsG (m + 1), z.1.2), z.2.1 + (if m = 0 then 0 else 1), z.2.2 + m)
noncomputable def enc0 (R : Nat → Int32) (nch F : Nat) : Nat → Nat → Nat → ZSt → ZSt
  | 0, _, _, z => z
  | k + 1, f, q, z => if F ≤ f then z else if q = 0 ∧ z.1.2.2.1 0 = 0 ∧ (nch = 1 ∨ z.1.2.2.1 3 = 0) then enc0 R nch F k (f + cz R nch (F - f) f) 1 (silS (cz R nch (F - f) f) z) else enc0 R nch F k (f + 1) 0 (efc 0 (f * nch) R nch 0 z.1, z.2)
theorem enc0_fuel {R : Nat → Int32} {nch F : Nat} : ∀ (k f q : Nat) (z : ZSt), q ≤ 1 → 2 * (F - f) + (1 - q) ≤ k → enc0 R nch F (k + 1) f q z = enc0 R nch F k f q z := by
  intro k
  induction k with
  | zero =>
    intro f q z hq hk
    show (if F ≤ f then z else _) = z
    rw [if_pos (by omega)]
  | succ k ih =>
    intro f q z hq hk
    show (if F ≤ f then z else if q = 0 ∧ z.1.2.2.1 0 = 0 ∧ (nch = 1 ∨ z.1.2.2.1 3 = 0) then enc0 R nch F (k + 1) (f + cz R nch (F - f) f) 1 (silS (cz R nch (F - f) f) z) else enc0 R nch F (k + 1) (f + 1) 0 (efc 0 (f * nch) R nch 0 z.1, z.2)) = (if F ≤ f then z else if q = 0 ∧ z.1.2.2.1 0 = 0 ∧ (nch = 1 ∨ z.1.2.2.1 3 = 0) then enc0 R nch F k (f + cz R nch (F - f) f) 1 (silS (cz R nch (F - f) f) z) else enc0 R nch F k (f + 1) 0 (efc 0 (f * nch) R nch 0 z.1, z.2))
    by_cases h : F ≤ f
    · rw [if_pos h, if_pos h]
    · rw [if_neg h, if_neg h]
      by_cases h2 : q = 0 ∧ z.1.2.2.1 0 = 0 ∧ (nch = 1 ∨ z.1.2.2.1 3 = 0)
      · rw [if_pos h2, if_pos h2]
        exact ih _ 1 _ (by omega) (by omega)
      · rw [if_neg h2, if_neg h2]
        exact ih _ 0 _ (by omega) (by omega)
theorem enc0_more {R : Nat → Int32} {nch F : Nat} {f q : Nat} {z : ZSt} (hq : q ≤ 1) : ∀ (j k : Nat), 2 * (F - f) + (1 - q) ≤ k → enc0 R nch F (k + j) f q z = enc0 R nch F k f q z := by
  intro j
  induction j with
  | zero => intro k _; rfl
  | succ j ih =>
    intro k hk
    rw [← Nat.add_assoc, enc0_fuel (k + j) f q z hq (by omega)]
    exact ih k hk
