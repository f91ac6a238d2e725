/-! FRAMES with an error -/
theorem sb_toInt {v r : Nat} (hv : v < 2147483648) (hr : r < 2147483648) : (nI v - nI r).toInt = (v : Int) - r := by
  rw [Int32.toInt_sub, nI_toInt hv, nI_toInt hr]
  rw [Int.bmod_eq_of_le] <;> omega
theorem abs_sb {v r : Nat} (hv : v < 2147483648) (hr : r < 2147483648) : (if 0 ≤ nI v - nI r then nI v - nI r else 0 - (nI v - nI r)) = nI (dsN v r) := by
  unfold dsN
  have e0 : Int32.toInt 0 = 0 := by decide
  by_cases h : r ≤ v
  · have hp : 0 ≤ nI v - nI r := Int32.le_iff_toInt_le.mpr (by rw [sb_toInt hv hr, e0]; omega)
    rw [if_pos hp, pk_sub h]
    by_cases h2 : v ≤ r
    · rw [if_pos h2]; congr 1; omega
    · rw [if_neg h2]
  · have hp : ¬ 0 ≤ nI v - nI r := fun q => by
      have := Int32.le_iff_toInt_le.mp q
      rw [sb_toInt hv hr, e0] at this
      omega
    rw [if_neg hp, if_pos (by omega)]
    apply Int32.toInt_inj.mp
    rw [Int32.toInt_sub, sb_toInt hv hr, e0, nI_toInt (by omega)]
    rw [Int.bmod_eq_of_le] <;> omega
theorem rs_sub {be : Bool} {v r : Nat} (hv : v < 2147483648) (hr : r < 2147483648) : rsN be v - rsN be r = if be = true then nI r - nI v else nI v - nI r := by
  cases be
  · rfl
  · show (-1 - nI v) - (-1 - nI r) = nI r - nI v
    apply Int32.toInt_inj.mp
    rw [sb_toInt hr hv, Int32.toInt_sub, rs_toInt hv, rs_toInt hr]
    rw [Int.bmod_eq_of_le] <;> omega
theorem ds_comm {v r : Nat} : dsN v r = dsN r v := by unfold dsN; split <;> split <;> omega
theorem c_noteOff {be : Bool} {a v r : Nat} (ha : a < 2147483648) (hv : v < 2147483648) (hr : r < 2147483648) {β : Type} {K : Int32 → β} : fn_wk_X9_noteOff (nI a) (rsN be v - rsN be r) β K = K (nI (max a (dsN v r))) := by
  have hd : dsN v r < 2147483648 := by unfold dsN; split <;> omega
  have e : (if 0 ≤ rsN be v - rsN be r then rsN be v - rsN be r else 0 - (rsN be v - rsN be r)) = nI (dsN v r) := by
    rw [rs_sub hv hr]
    cases be
    · exact abs_sb hv hr
    · rw [ds_comm]
      exact abs_sb hr hv
  rw [fn_wk_X9_noteOff_s, e]
  by_cases h : a < dsN v r
  · rw [if_pos ((nI_ltI ha hd).mpr h), show max a (dsN v r) = dsN v r by omega]
  · rw [if_neg (fun q => h ((nI_ltI ha hd).mp q)), show max a (dsN v r) = a by omega]
abbrev FSt : Type := ESt × PSt × Nat
def fsx (nch n : Nat) (T V : Nat → Int32) (i c : Nat) (z : FSt) : Int32 := V i - gS nch n T c z.2.1
def fsS (E nch n : Nat) (T D V : Nat → Int32) (i c : Nat) (z : FSt) : FSt := (est E c (fsx nch n T V i c z) z.1, stS nch n T D c z.2.1 (rsN (beO (fsx nch n T V i c z)) (rN z.1.2.2.1 c E (vO (fsx nch n T V i c z)))), max z.2.2 (dsN (vO (fsx nch n T V i c z)) (rN z.1.2.2.1 c E (vO (fsx nch n T V i c z)))))
def ffc (E nch n : Nat) (T D V : Nat → Int32) (base : Nat) : Nat → Nat → FSt → FSt
  | 0, _, z => z
  | d + 1, c, z => ffc E nch n T D V base d (c + 1) (fsS E nch n T D V (base + c) c z)
def fal (E nch n : Nat) (T D V : Nat → Int32) : Nat → Nat → FSt → FSt
  | 0, _, z => z
  | d + 1, f, z => fal E nch n T D V d (f + 1) (ffc E nch n T D V (f * nch) nch 0 z)
theorem nr_lt {lo hi : Nat} : nrN lo hi < 2147483648 := by unfold nrN; omega
theorem ds_lt {v r : Nat} (hv : v < 2147483648) (hr : r < 2147483648) : dsN v r < 2147483648 := by unfold dsN; split <;> omega
theorem FB_step {E nch n c i a b : Nat} {T D V : Nat → Int32} {z : FSt} (hc : c < 2) (hE : E ≤ 65535) (h : EB a b z.1) (hg : z.2.2 < 2147483648) : EB (a + 54) (b + 16) (fsS E nch n T D V i c z).1 ∧ (fsS E nch n T D V i c z).2.2 < 2147483648 := by
  refine ⟨EB_est hc hE h, ?_⟩
  show max z.2.2 _ < _
  have := ds_lt (vO_eq (fsx nch n T V i c z)).2 (nr_lt (lo := (hvR z.1.2.2.1 c E (vO (fsx nch n T V i c z))).2.1) (hi := (hvR z.1.2.2.1 c E (vO (fsx nch n T V i c z))).2.2))
  unfold rN
  omega
theorem FB_ffc {E nch n base : Nat} {T D V : Nat → Int32} (hE : E ≤ 65535) : ∀ (d c a b : Nat) (z : FSt), c + d ≤ 2 → EB a b z.1 → z.2.2 < 2147483648 → EB (a + 54 * d) (b + 16 * d) (ffc E nch n T D V base d c z).1 ∧ (ffc E nch n T D V base d c z).2.2 < 2147483648 := by
  intro d
  induction d with
  | zero => intro c a b z _ h hg; exact ⟨h, hg⟩
  | succ d ih =>
    intro c a b z hc h hg
    obtain ⟨h1, h2⟩ := FB_step (nch := nch) (n := n) (i := base + c) (T := T) (D := D) (V := V) (by omega : c < 2) hE h hg
    have := ih (c + 1) (a + 54) (b + 16) _ (by omega) h1 h2
    rw [show a + 54 + 54 * d = a + 54 * (d + 1) by omega, show b + 16 + 16 * d = b + 16 * (d + 1) by omega] at this
    exact this
set_option maxHeartbeats 2000000 in
theorem c_wflE {nch n fr h1 h2 E : Nat} {sv sr te de T D : Nat → Int32} (hnc : nch = 1 ∨ nch = 2) (hP : PV n T) (hTe : ∀ j, j < n → te j = T j) (hDe : ∀ j, j < n → de j = D j) (hfr : fr * nch + nch ≤ 1200) (hE : E ≤ 65535) (hE0 : E ≠ 0) : ∀ (d fuel c a b : Nat) (z : FSt) (o1 u1 t1 : Int32) (f1 : Nat → Int32) (o2 u2 t2 : Int32) (f2 : Nat → Int32) (mi : Nat → Int64) (w10 : Int32) (md1 md2 : Int64) (p6 p7 : Int32) (we inp ba gu : Nat → Int32), c + d = nch → d < fuel → EB a b z.1 → z.2.2 < 2147483648 → CE h1 h2 z.1 t1 f1 t2 f2 o1 u1 o2 u2 w10 mi → CP nch n fr c we inp z.2.1 → h1 + (a + 54 * d + 124) / 8 ≤ 9600 → h2 + (b + 16 * d + 17) / 8 ≤ 2450 → ∃ (o1' u1' t1' : Int32) (f1' : Nat → Int32) (o2' u2' t2' : Int32) (f2' : Nat → Int32) (mi' : Nat → Int64) (w10' : Int32) (md1' md2' : Int64) (p6' p7' : Int32) (we' inp' ba' gu' : Nat → Int32), CE h1 h2 (ffc E nch n T D sv (fr * nch) d c z).1 t1' f1' t2' f2' o1' u1' o2' u2' w10' mi' ∧ CP nch n fr nch we' inp' (ffc E nch n T D sv (fr * nch) d c z).2.1 ∧ (∀ j, j < h1 → nb f1' j = nb f1 j) ∧ (∀ j, j < h2 → nb f2' j = nb f2 j) ∧ ∀ (β : Type) (kx : Int32 → (Nat → Int32) → Int32 → (Nat → Int32) → Int32 → Int32 → Int32 → Int32 → Int32 → Int32 → Int32 → Int32 → (Nat → Int32) → (Nat → Int32) → (Nat → Int32) → (Nat → Int32) → Int64 → Int64 → (Nat → Int64) → Int32 → Int32 → β), lf_wk_X4_writeFrame_2 sv sr nch (nI E) (nI nch) n te de β kx fuel t1 f1 t2 f2 o1 u1 o2 u2 w10 (nI z.2.2) p6 p7 we inp ba gu md1 md2 mi (nI fr) (nI c) = kx t1' f1' t2' f2' o1' u1' o2' u2' w10' (nI (ffc E nch n T D sv (fr * nch) d c z).2.2) p6' p7' we' inp' ba' gu' md1' md2' mi' (nI fr) (nI nch) := by
  have hfr2 : fr < 1000000 := by
    have : fr * 1 ≤ fr * nch := Nat.mul_le_mul_left _ (by omega)
    omega
  intro d
  induction d with
  | zero =>
    intro fuel c a b z o1 u1 t1 f1 o2 u2 t2 f2 mi w10 md1 md2 p6 p7 we inp ba gu hcd hf hEB hg hCE hCP ha hb
    obtain ⟨k, rfl⟩ : ∃ k, fuel = k + 1 := ⟨fuel - 1, by omega⟩
    have e : c = nch := by omega
    subst e
    exact ⟨o1, u1, t1, f1, o2, u2, t2, f2, mi, w10, md1, md2, p6, p7, we, inp, ba, gu, hCE, hCP, fun _ _ => rfl, fun _ _ => rfl, fun β kx => by rw [lf_wk_X4_writeFrame_2_s, if_pos (nI_le (Nat.le_refl _) (by omega))]; rfl⟩
  | succ d ih =>
    intro fuel c a b z o1 u1 t1 f1 o2 u2 t2 f2 mi w10 md1 md2 p6 p7 we inp ba gu hcd hf hEB hg hCE hCP ha hb
    obtain ⟨k, rfl⟩ : ∃ k, fuel = k + 1 := ⟨fuel - 1, by omega⟩
    obtain ⟨ba1, gu1, a1, a2, a3⟩ := cp_foretell (ba := ba) (gu := gu) hnc (by omega : c < nch) hfr2 hP hTe hCP
    obtain ⟨x1, x2, x3, x4, x5, x6, x7, x8, mi1, w1, b1, b2, b3, md3, md4, b4⟩ := ce_writeRest (E := E) (re := fsx nch n T sv (fr * nch + c) c z) (c := c) (by omega) hE hEB hCE (by omega) (by omega)
    obtain ⟨we1, inp1, x, c1, c2, c3⟩ := cp_learn (re := rsN (beO (fsx nch n T sv (fr * nch + c) c z)) (rN z.1.2.2.1 c E (vO (fsx nch n T sv (fr * nch + c) c z)))) hnc (by omega : c < nch) hfr2 hP hDe hCP a1 a2
    obtain ⟨e1, e2⟩ := FB_step (nch := nch) (n := n) (i := fr * nch + c) (T := T) (D := D) (V := sv) (by omega : c < 2) hE hEB hg
    obtain ⟨hre, hv⟩ := vO_eq (fsx nch n T sv (fr * nch + c) c z)
    have hoff : ∀ (β : Type) (K : Int32 → β), fn_wk_X9_noteOff (nI z.2.2) (fsx nch n T sv (fr * nch + c) c z - rsN (beO (fsx nch n T sv (fr * nch + c) c z)) (rN z.1.2.2.1 c E (vO (fsx nch n T sv (fr * nch + c) c z)))) β K = K (nI (fsS E nch n T D sv (fr * nch + c) c z).2.2) := fun β K => by
      have := c_noteOff (be := beO (fsx nch n T sv (fr * nch + c) c z)) (a := z.2.2) (v := vO (fsx nch n T sv (fr * nch + c) c z)) (r := rN z.1.2.2.1 c E (vO (fsx nch n T sv (fr * nch + c) c z))) hg hv nr_lt (β := β) (K := K)
      rw [← hre] at this
      exact this
    obtain ⟨y1, y2, y3, y4, y5, y6, y7, y8, mi2, w2, md5, md6, q6, q7, we2, inp2, ba2, gu2, d1, d2, d3, d4, d5⟩ := ih k (c + 1) (a + 54) (b + 16) (fsS E nch n T D sv (fr * nch + c) c z) x1 x2 x3 x4 x5 x6 x7 x8 mi1 w1 md3 md4 (nI fr) (nI c) we1 inp1 ba1 gu1 (by omega) (by omega) e1 e2 b1 c1 (by omega) (by omega)
    refine ⟨y1, y2, y3, y4, y5, y6, y7, y8, mi2, w2, md5, md6, q6, q7, we2, inp2, ba2, gu2, d1, d2, fun j hj => (d3 j hj).trans (b2 j hj), fun j hj => (d4 j hj).trans (b3 j hj), fun β kx => ?_⟩
    rw [lf_wk_X4_writeFrame_2_s, if_neg (nI_ge (by omega) (by omega)), if_neg (nI_ne0 (by omega) (by omega)), nI_ix, c_valueAt (by omega), a3]
    refine (b4 β _).trans ?_
    refine (c3 β _).trans ?_
    refine (hoff β _).trans ?_
    rw [nI_1]
    exact d5 β kx
