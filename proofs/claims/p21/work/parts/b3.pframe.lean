/-! a frame read, a frame passed over: both sides -/
def SRi (sv sr : Nat → Int32) (sl : Nat → Int64) (sp r41 : Nat → Int32) (r44 r45 r46 : Nat → Int64) (r47 r48 : Nat → Int32) (i : Nat) : Prop := sv i = r41 i ∧ ((r48 i = 1 ∧ ∃ (lo hi : Nat) (be : Bool), lo ≤ hi ∧ hi ≤ lo + 65535 ∧ hi ≤ 4700000000 ∧ sl i = lN lo ∧ sp i = nI (hi - lo + 1) ∧ sr i = rsN be (nrN lo hi) ∧ r44 i = lN lo ∧ r45 i = lN hi ∧ r46 i = lN (nrN lo hi) ∧ r47 i = (if be = true then 1 else 0)) ∨ (r48 i = 0 ∧ sl i = 0 ∧ sp i = 1 ∧ sr i = 0))
def SR (k : Nat) (sv sr : Nat → Int32) (sl : Nat → Int64) (sp r41 : Nat → Int32) (r44 r45 r46 : Nat → Int64) (r47 r48 : Nat → Int32) : Prop := ∀ i, i < k → SRi sv sr sl sp r41 r44 r45 r46 r47 r48 i
theorem SR_w {k lo hi : Nat} {be : Bool} {x : Int32} {sv sr sp r41 r47 r48 : Nat → Int32} {sl r44 r45 r46 : Nat → Int64} (h : SR k sv sr sl sp r41 r44 r45 r46 r47 r48) (h1 : lo ≤ hi) (h2 : hi ≤ lo + 65535) (h3 : hi ≤ 4700000000) : SR (k + 1) (upd sv k x) (upd sr k (rsN be (nrN lo hi))) (vp_updL sl k (lN lo)) (upd sp k (nI (hi - lo + 1))) (upd r41 k x) (vp_updL r44 k (lN lo)) (vp_updL r45 k (lN hi)) (vp_updL r46 k (lN (nrN lo hi))) (upd r47 k (if be = true then 1 else 0)) (upd r48 k 1) := by
  intro i hi2
  by_cases e : i = k
  · subst e
    refine ⟨by rw [pk_us, pk_us], Or.inl ⟨pk_us, lo, hi, be, h1, h2, h3, pk_uLs, pk_us, pk_us, pk_uLs, pk_uLs, pk_uLs, pk_us⟩⟩
  · have hh := h i (by omega)
    unfold SRi at hh ⊢
    rw [pk_un e, pk_un e, pk_un e, pk_un e, pk_un e, pk_un e, pk_uLn e, pk_uLn e, pk_uLn e, pk_uLn e]
    exact hh
theorem SR_n {k : Nat} {x : Int32} {sv sr sp r41 r47 r48 : Nat → Int32} {sl r44 r45 r46 : Nat → Int64} (h : SR k sv sr sl sp r41 r44 r45 r46 r47 r48) : SR (k + 1) (upd sv k x) (upd sr k 0) (vp_updL sl k 0) (upd sp k 1) (upd r41 k x) r44 r45 r46 r47 (upd r48 k 0) := by
  intro i hi2
  by_cases e : i = k
  · subst e
    exact ⟨by rw [pk_us, pk_us], Or.inr ⟨pk_us, pk_uLs, pk_us, pk_us⟩⟩
  · have hh := h i (by omega)
    unfold SRi at hh ⊢
    rw [pk_un e, pk_un e, pk_un e, pk_un e, pk_un e, pk_uLn e]
    exact hh
abbrev KR (β : Type) : Type := Nat → Nat → Nat → Nat → Int64 → (Nat → Int32) → (Nat → Int32) → (Nat → Int32) → (Nat → Int32) → (Nat → Nat) → (Nat → Int32) → (Nat → Int64) → (Nat → Int64) → (Nat → Int64) → (Nat → Int32) → (Nat → Int32) → β
abbrev KF (β : Type) : Type := Int32 → Int32 → (Nat → Int32) → (Nat → Int32) → (Nat → Int64) → (Nat → Int32) → Int32 → Int32 → Int32 → (Nat → Int32) → (Nat → Int32) → (Nat → Int32) → (Nat → Int32) → Int64 → Int64 → (Nat → Int64) → Int32 → β
abbrev KX (β : Type) : Type := Int32 → Int32 → (Nat → Int32) → (Nat → Int32) → (Nat → Int64) → (Nat → Int32) → Int32 → Int32 → Int32 → (Nat → Int32) → (Nat → Int32) → (Nat → Int32) → (Nat → Int32) → Int64 → Int64 → (Nat → Int64) → Int32 → Int32 → β
abbrev KT (β : Type) : Type := Int64 → Nat → Nat → Nat → Nat → (Nat → Int32) → (Nat → Int32) → (Nat → Int32) → (Nat → Int32) → (Nat → Nat) → (Nat → Int32) → (Nat → Int64) → (Nat → Int64) → (Nat → Int64) → (Nat → Int32) → (Nat → Int32) → Nat → β
theorem rs_step {p q k c E w10 n nch fr lo0 hi0 : Nat} {f g te de rte rde T D sv sr sp we inp ba gu rw rh rba rgu r41 r47 r48 : Nat → Int32} {M : Nat → Nat} {mi sl r44 r45 r46 : Nat → Int64} {md1 md2 : Int64} {p6 p7 : Int32} {s : PSt} (hq : q ≤ 48000) (hpq : p ≤ q) (hfg : ∀ j, j < k → nb f j = nb g j) (hk : q ≤ 8 * k) (hnc : nch = 1 ∨ nch = 2) (hcn : c < nch) (hE : E ≤ 65535) (hM : MR mi M) (hB : MB M) (hw : w10 < 2147483648) (hP : PV n T) (hTe : ∀ j, j < n → te j = T j) (hDe : ∀ j, j < n → de j = D j) (hrTe : ∀ j, j < n → rte j = T j) (hrDe : ∀ j, j < n → rde j = D j) (hC' : CP nch n fr c we inp s) (hR' : RP rw rh s) (hi : fr * nch + c < 1200) : (∃ (p' w' lo hi : Nat) (be : Bool) (x p6' p7' : Int32) (mi' : Nat → Int64) (M' : Nat → Nat) (we' inp' ba' gu' rw' rh' rba' rgu' : Nat → Int32) (s' : PSt), p ≤ p' ∧ p' ≤ q ∧ w' < 2147483648 ∧ MR mi' M' ∧ MB M' ∧ CP nch n fr (c + 1) we' inp' s' ∧ RP rw' rh' s' ∧ lo ≤ hi ∧ hi ≤ lo + 65535 ∧ hi ≤ 4700000000 ∧ (∀ (β : Type) (kx : KX β) (k_ : KF β) (fuel : Nat), lf_wk_X3_readFrame_8 f (nI q) nch (nI E) (nI nch) n te de β kx k_ (fuel + 1) (nI p) 0 sv sr sl sp (nI w10) p6 p7 we inp ba gu md1 md2 mi (nI fr) (nI c) = lf_wk_X3_readFrame_8 f (nI q) nch (nI E) (nI nch) n te de β kx k_ fuel (nI p') 0 (upd sv (fr * nch + c) x) (upd sr (fr * nch + c) (rsN be (nrN lo hi))) (vp_updL sl (fr * nch + c) (lN lo)) (upd sp (fr * nch + c) (nI (hi - lo + 1))) (nI w') p6' p7' we' inp' ba' gu' (lN lo) (lN hi) mi' (nI fr) (nI (c + 1))) ∧ (∀ (β : Type) (K : KR β), fn_wr_X11_reads n nch (lN w10) lo0 hi0 p q E 0 g rte rde rba rgu rw rh M r47 r44 r45 r46 r48 r41 c (fr * nch + c) β K = K p' 0 lo hi (lN w') rba' rgu' rw' rh' M' (upd r47 (fr * nch + c) (if be = true then 1 else 0)) (vp_updL r44 (fr * nch + c) (lN lo)) (vp_updL r45 (fr * nch + c) (lN hi)) (vp_updL r46 (fr * nch + c) (lN (nrN lo hi))) (upd r48 (fr * nch + c) 1) (upd r41 (fr * nch + c) x))) ∨ (∃ fa : Nat, (fa = 4 ∨ fa = 5) ∧ (∃ (b1 b3 w : Int32) (a b : Int64) (m : Nat → Int64), ∀ (β : Type) (kx : KX β) (k_ : KF β) (fuel : Nat), lf_wk_X3_readFrame_8 f (nI q) nch (nI E) (nI nch) n te de β kx k_ (fuel + 1) (nI p) 0 sv sr sl sp (nI w10) p6 p7 we inp ba gu md1 md2 mi (nI fr) (nI c) = k_ b1 b3 sv sr sl sp w p6 p7 we inp ba gu a b m (nI fa)) ∧ (∃ (b1 lo hi : Nat) (g27 : Int64) (M' : Nat → Nat) (r47' rba' rgu' : Nat → Int32), ∀ (β : Type) (K : KR β), fn_wr_X11_reads n nch (lN w10) lo0 hi0 p q E 0 g rte rde rba rgu rw rh M r47 r44 r45 r46 r48 r41 c (fr * nch + c) β K = K b1 fa lo hi g27 rba' rgu' rw rh M' r47' r44 r45 r46 r48 r41)) := by
  have hc2 : c < 2 := by omega
  have hfr2 : fr < 1000000 := by
    have : fr * 1 ≤ fr * nch := Nat.mul_le_mul_left _ (by omega)
    omega
  have hlc : ¬ nI nch ≤ nI c := nI_ge hcn (by omega)
  obtain ⟨rba', rgu', q1, q2, q3⟩ := rp_foretell (ba := rba) (gu := rgu) hnc hcn hP hrTe hR'
  rcases rs_bd (md1 := md1) (md2 := md2) hq hpq hfg hk hc2 hE hM hB hw with ⟨p', on, lo, hi, x, mi', a1, a2, a3, a4, a5, a6, a7, a8, a9, a10, c1, c2, r3, p1, r1, r2⟩ | ⟨fa, hfa, ⟨b1, b3, w, a, b, m, cf⟩, rf⟩
  · obtain ⟨ba', gu', f1, f2, f3⟩ := cp_foretell (ba := ba) (gu := gu) hnc hcn hfr2 hP hTe hC'
    obtain ⟨be, hbe⟩ : ∃ be : Bool, x = (if be = true then 1 else 0) := by
      by_cases hx1 : x = 1
      · exact ⟨true, hx1⟩
      · exact ⟨false, show x = 0 by omega⟩
    obtain ⟨we', inp', y, l1, l2, l3⟩ := cp_learn (re := rsN be (nrN lo hi)) hnc hcn hfr2 hP hDe hC' f1 f2
    obtain ⟨rw', rh', y2, t1, t2, t3⟩ := rp_learns (nch := nch) (re := rsN be (nrN lo hi)) hc2 hP hrDe hR' q1 q2
    have ey : y2 = y := by rw [t2, l2]
    refine Or.inl ⟨p' + 1, max w10 on, lo, hi, be, y, nI fr, nI c, mi', mvM M c on, we', inp', ba', gu', rw', rh', rba', rgu', _, by omega, by omega, by omega, a10, MB_mv hB a4, l1, t1, a6, by omega, a8, fun β kx k_ fuel => ?_, fun β K => ?_⟩
    · rw [lf_wk_X3_readFrame_8_s, if_neg hlc]
      refine (c1 β _).trans ?_
      rw [if_pos rfl]
      refine (c2 β _).trans ?_
      cases be
      · have hx : x = 0 := hbe
        rw [if_neg (show ¬ (lg_cmp (lN x) 1) = 0 from fun h => by have := (lc_eq (a := x) (b := 1) (by omega) (by omega)).mp h; omega), if_pos rfl, c_near (lo := lo) (hi := hi) (by omega) false (bb := 0) rfl]
        refine (f3 β _).trans ?_
        refine (l3 β _).trans ?_
        rw [nI_ix, c_putRead (by omega) a6, nI_1]
      · have hx : x = 1 := hbe
        rw [if_pos (show (lg_cmp (lN x) 1) = 0 from (lc_eq (a := x) (b := 1) (by omega) (by omega)).mpr hx), if_pos rfl, c_near (lo := lo) (hi := hi) (by omega) true (bb := 1) rfl]
        refine (f3 β _).trans ?_
        refine (l3 β _).trans ?_
        rw [nI_ix, c_putRead (by omega) a6, nI_1]
    · rw [fn_wr_X11_reads_s]
      refine (q3 β _).trans ?_
      refine (r1 β (fun a' b' z => jf_wr_X11_reads_69 n (lN w10) lo0 hi0 q E g rde rw rh M r47 r44 r45 r46 r48 r41 c (fr * nch + c) a' b' rba' rgu' z β K)).trans ?_
      rw [jf_wr_X11_reads_69_s, if_pos (Nat.le_refl _), if_pos a3, r_bounds, if_pos a4, if_pos a4]
      refine (r2 β _).trans ?_
      refine (r3 β _).trans ?_
      rw [goN_max hw (by omega)]
      cases be
      · have hx : x = 0 := hbe
        rw [if_neg (by omega), jf_wr_X11_reads_209_s, if_pos (Nat.le_refl _), r_middle (by omega), if_pos (show upd r47 (fr * nch + c) (vp_nar .boolean 0) (fr * nch + c) = 0 from pk_us), lN_i]
        refine (t3 β _).trans ?_
        rw [ey]
        rfl
      · have hx : x = 1 := hbe
        rw [if_pos hx, jf_wr_X11_reads_209_s, if_pos (Nat.le_refl _), r_middle (by omega), if_neg (show ¬ upd r47 (fr * nch + c) (vp_nar .boolean 1) (fr * nch + c) = 0 from by rw [pk_us]; decide), t32_neg]
        refine (t3 β _).trans ?_
        rw [ey]
        rfl
  · obtain ⟨b1', lo, hi, g27, M', r47', hrf⟩ := @rf n (lN w10) lo0 hi0 (fr * nch + c) rde rw rh r47 r48 r41 rba' rgu' r44 r45 r46
    refine Or.inr ⟨fa, hfa, ?_, ⟨b1', lo, hi, g27, M', r47', rba', rgu', fun β K => ?_⟩⟩
    · rcases cf with c1 | ⟨e4, c1, cc, v, c2⟩
      · refine ⟨b1, b3, w, a, b, m, fun β kx k_ fuel => ?_⟩
        rw [lf_wk_X3_readFrame_8_s, if_neg hlc]
        refine (c1 β _).trans ?_
        rw [if_neg (nI_ne0 (by omega) (by omega))]
      · subst e4
        refine ⟨cc, 1, w, a, b, m, fun β kx k_ fuel => ?_⟩
        rw [lf_wk_X3_readFrame_8_s, if_neg hlc]
        refine (c1 β _).trans ?_
        rw [if_pos rfl]
        refine (c2 β _).trans ?_
        by_cases h2 : (lg_cmp v 1) = 0
        · rw [if_pos h2, if_neg (by decide)]
          rfl
        · rw [if_neg h2, if_neg (by decide)]
          rfl
    · rw [fn_wr_X11_reads_s]
      refine (q3 β _).trans ?_
      exact hrf β K
