/-! decode and decodeBoth: both sides -/
theorem rel0_row {f g : Nat → Int32} : Rrow 0 f 0 g := ⟨rfl, Nat.zero_le _, fun j hj => absurd hj (Nat.not_lt_zero _)⟩
theorem rel0_pl {a b c d : Nat → Int32} : Rpl 0 a b 0 c d := ⟨rfl, Nat.zero_le _, fun j hj => absurd hj (Nat.not_lt_zero _)⟩
theorem rel0_by {off lim : Nat} {f g : Nat → Int32} : Rby off 0 lim 0 f g := ⟨rfl, Nat.zero_le _, fun j hj => absurd hj (Nat.not_lt_zero _)⟩
theorem rel0_sn : Rsn 0 0 0 0 0 0 0 0 0 0 0 (fun _ => 0) (fun _ => 0) (fun _ => 0) (fun _ => 0) (fun _ => 0) := ⟨rfl, rfl, rfl, rfl, rfl, rfl, rfl, rfl, rfl, rfl, Nat.zero_le _, Nat.zero_le _, fun p c _ _ => (ite_self _).symm, fun k _ => (ite_self _).symm⟩
theorem cp_0 {r6 : Nat → Nat} {r5 : Nat → Int32} : ∀ (d fuel l : Nat) (p : Nat → Int32), l + d = r6 0 → d < fuel → (∀ j, j < l → nb p j = nb r5 j) → ∃ p' : Nat → Int32, (∀ j, j < r6 0 → nb p' j = nb r5 j) ∧ (∀ (β : Type) (kx : (Nat → Int32) → Nat → β), lf_wr_X11_decodes_0_45 r6 r5 β kx fuel p l = kx p' (r6 0)) ∧ (∀ (β : Type) (kx : (Nat → Int32) → Nat → β), lf_wr_X11_decodes_1_45 r6 r5 β kx fuel p l = kx p' (r6 0)) := by
  intro d
  induction d with
  | zero =>
    intro fuel l p hl hf hp
    obtain ⟨z, rfl⟩ : ∃ z, fuel = z + 1 := ⟨fuel - 1, by omega⟩
    have e : l = r6 0 := by omega
    subst e
    exact ⟨p, hp, fun β kx => by rw [lf_wr_X11_decodes_0_45_s, if_pos (Nat.le_refl _)], fun β kx => by rw [lf_wr_X11_decodes_1_45_s, if_pos (Nat.le_refl _)]⟩
  | succ d ih =>
    intro fuel l p hl hf hp
    obtain ⟨z, rfl⟩ : ∃ z, fuel = z + 1 := ⟨fuel - 1, by omega⟩
    obtain ⟨p', a1, a2, a3⟩ := ih z (l + 1) (upd p l (nb r5 l)) (by omega) (by omega) (fun j hj => by
      by_cases e : j = l
      · rw [e]
        show Int8.toInt32 (Int32.toInt8 (upd p l (nb r5 l) l)) = _
        rw [pk_us]
        exact nb_nb r5 l
      · rw [nb_un e]
        exact hp j (by omega))
    exact ⟨p', a1, fun β kx => by rw [lf_wr_X11_decodes_0_45_s, if_neg (by omega)]; exact a2 β kx, fun β kx => by rw [lf_wr_X11_decodes_1_45_s, if_neg (by omega)]; exact a3 β kx⟩
theorem cp_1 {r6 : Nat → Nat} {r5 : Nat → Int32} : ∀ (d fuel l : Nat) (p : Nat → Int32), l + d = r6 1 → d < fuel → (∀ j, j < l → nb p j = nb r5 (6000 + j)) → ∃ p' : Nat → Int32, (∀ j, j < r6 1 → nb p' j = nb r5 (6000 + j)) ∧ (∀ (β : Type) (kx : (Nat → Int32) → Nat → β), lf_wr_X11_decodes_1_104 r6 r5 β kx fuel p l = kx p' (r6 1)) := by
  intro d
  induction d with
  | zero =>
    intro fuel l p hl hf hp
    obtain ⟨z, rfl⟩ : ∃ z, fuel = z + 1 := ⟨fuel - 1, by omega⟩
    have e : l = r6 1 := by omega
    subst e
    exact ⟨p, hp, fun β kx => by rw [lf_wr_X11_decodes_1_104_s, if_pos (Nat.le_refl _)]⟩
  | succ d ih =>
    intro fuel l p hl hf hp
    obtain ⟨z, rfl⟩ : ∃ z, fuel = z + 1 := ⟨fuel - 1, by omega⟩
    obtain ⟨p', a1, a2⟩ := ih z (l + 1) (upd p l (nb r5 (6000 + l))) (by omega) (by omega) (fun j hj => by
      by_cases e : j = l
      · rw [e]
        show Int8.toInt32 (Int32.toInt8 (upd p l (nb r5 (6000 + l)) l)) = _
        rw [pk_us]
        exact nb_nb r5 (6000 + l)
      · rw [nb_un e]
        exact hp j (by omega))
    exact ⟨p', a1, fun β kx => by rw [lf_wr_X11_decodes_1_104_s, if_neg (by omega)]; exact a2 β kx⟩
theorem sh_0 {k : Nat} (hk : k < 2147483648) {β : Type} {K : Int32 → Int32 → β} : fn_wk_X2_shorten (nI k) 0 β K = K 0 1 := by
  rw [fn_wk_X2_shorten_s, if_neg (by decide), if_pos (nI_pos' hk)]
/-- what is told behind a decoding, or an encoding, against the class's work -/
theorem sn_ok {n nch E F ch w : Nat} {fl sh x25 x26 x40 : Int32} {r11 r12 r13f we rw : Nat → Int32} {r13 mi : Nat → Int64} {M : Nat → Nat} (hch : 1 + fl.toBitVec.toNat % 2 = ch) (hn : n ≤ 8) (hnc : nch ≤ 2) (hw : ∀ q, q < 16 → we q = rw q) (hM : MR mi M) : ∃ (r11' r12' : Nat → Int32) (r13' : Nat → Int64), Rsn ch nch F fl sh (nI E) x25 x26 (nI w) x40 n we mi r11' r12' r13' ∧ ∀ (β : Type) (K : (Nat → Int32) → (Nat → Int32) → (Nat → Int64) → β), fn_wr_X11_tells n nch x25 x26 (lN w) E sh F fl x40 r11 r12 r13 rw M β K = K r11' r12' r13' := by
  obtain ⟨r12', r13', a1, a2, a3⟩ := r_tellsAll (n := n) (nch := nch) (E := E) (F := F) (x25 := x25) (x26 := x26) (x37 := sh) (x39 := fl) (x40 := x40) (x27 := lN w) (r11 := r11) (r12 := r12) (r13 := r13) (w := rw) (M := M)
  refine ⟨_, r12', r13', ⟨?_, ?_, ?_, ?_, ?_, ?_, ?_, ?_, ?_, ?_, hnc, hn, fun p c hp hc => ?_, fun k hk => ?_⟩, a3⟩
  · rw [hch]; rfl
  · rfl
  · rfl
  · rfl
  · rfl
  · rfl
  · rfl
  · rfl
  · exact lN_i w
  · rfl
  · rw [a1 p c hp hc]
    by_cases h : p < n ∧ c < nch
    · rw [if_pos h, if_pos h, hw _ (by omega)]
    · rw [if_neg h, if_neg h]
  · rw [a2 k hk]
    by_cases h : k / 3 < nch
    · rw [if_pos h, if_pos h, hM k hk]
    · rw [if_neg h, if_neg h]
set_option maxHeartbeats 4000000 in
theorem rel_decode {wl : Nat} {wsp : Nat} {tpa : Nat → Int32} {x1 : Nat} {nu : Nat → Int32} {b11 : Int32} {b12 : Int32} {b13 : Int32} {tp : Int32} {sv : Nat → Int32} {sr : Nat → Int32} {sl : Nat → Int64} {sp : Nat → Int32} {w2 : Nat} {w3 : Nat} {w4 : Nat} {w5 : Int32} {w6 : Int32} {w7 : Int32} {w8 : Int32} {w9 : Int32} {w10 : Int32} {w11 : Int32} {ps5 : Int32} {ps6 : Int32} {ps7 : Int32} {p2 : Nat} {te : Nat → Int32} {de : Nat → Int32} {we : Nat → Int32} {inp : Nat → Int32} {ba : Nat → Int32} {gu : Nat → Int32} {md1 : Int64} {md2 : Int64} {mi : Nat → Int64} {zra : Nat} {zrb : Nat} {zx : Nat} {znu : Nat → Int32} {zb11 : Int32} {zb12 : Int32} {zb13 : Int32} {ztp : Int32} {zsv : Nat → Int32} {zsr : Nat → Int32} {zsl : Nat → Int64} {zsp : Nat → Int32} {zw2 : Nat} {zw3 : Nat} {zw4 : Nat} {zw5 : Int32} {zw6 : Int32} {zw7 : Int32} {zw8 : Int32} {zw9 : Int32} {zw10 : Int32} {zw11 : Int32} {zps5 : Int32} {zps6 : Int32} {zps7 : Int32} {zp2 : Nat} {zte : Nat → Int32} {zde : Nat → Int32} {zwe : Nat → Int32} {zinp : Nat → Int32} {zba : Nat → Int32} {zgu : Nat → Int32} {zmd1 : Int64} {zmd2 : Int64} {zmi : Nat → Int64} {z : Int32} {m1 : Nat} {m14 : Nat} {m15 : Nat} {m25 : Int32} {m26 : Int32} {m27 : Int64} {m28 : Nat} {m29 : Nat} {m32 : Nat} {m33 : Nat} {m36 : Nat} {m37 : Int32} {m38 : Nat} {m39 : Int32} {r6 : Nat → Nat} {r5 : Nat → Int32} {r43 : Nat → Int32} {r0 : Nat → Int32} {r11 : Nat → Int32} {r12 : Nat → Int32} {r13 : Nat → Int64} {rte : Nat → Int32} {rde : Nat → Int32} {rba : Nat → Int32} {rgu : Nat → Int32} {rw : Nat → Int32} {rh : Nat → Int32} {M : Nat → Nat} {r47 : Nat → Int32} {r44 : Nat → Int64} {r45 : Nat → Int64} {r46 : Nat → Int64} {r48 : Nat → Int32} {r41 : Nat → Int32} {ym1 : Nat} {ym40 : Int32} {ym39 : Int32} {ym37 : Int32} {ym38 : Nat} {ym14 : Nat} {ym36 : Nat} {ym15 : Nat} {ym32 : Nat} {ym33 : Nat} {ym42 : Nat} {ym28 : Nat} {ym29 : Nat} {ym27 : Int64} {ym25 : Int32} {ym26 : Int32} {yr6 : Nat → Nat} {yr43 : Nat → Int32} {yr0 : Nat → Int32} {yr11 : Nat → Int32} {yr12 : Nat → Int32} {yr13 : Nat → Int64} {yrte : Nat → Int32} {yrde : Nat → Int32} {yrba : Nat → Int32} {yrgu : Nat → Int32} {yrw : Nat → Int32} {yrh : Nat → Int32} {yM : Nat → Nat} {yr47 : Nat → Int32} {yr44 : Nat → Int64} {yr45 : Nat → Int64} {yr46 : Nat → Int64} {yr48 : Nat → Int32} {yr41 : Nat → Int32} {z' : Int32} {u2 : Nat} {u3 : Nat} {u4 : Nat} {u5 : Int32} {u6 : Int32} {u7 : Int32} {u8 : Int32} {u9 : Int32} {u10 : Int32} {u11 : Int32} {up : Nat} {uwe : Nat → Int32} {umi : Nat → Int64} {sd : Int32} {sda : Nat → Int32} (h1 : Rrow x1 nu m1 r0) (h3 : Rby 0 (r6 0) 6000 tp tpa r5) (h4 : Rby 6000 (r6 1) 6000 sd sda r5) (h7 : Rsn u2 u3 u4 u5 u6 u7 u8 u9 u10 u11 up uwe umi r11 r12 r13) (hc : ∀ (β : Type) (k_ : Nat → Nat → Nat → (Nat → Int32) → Int32 → Int32 → Int32 → Int32 → (Nat → Int32) → (Nat → Int32) → (Nat → Int64) → (Nat → Int32) → Nat → Nat → Nat → Int32 → Int32 → Int32 → Int32 → Int32 → Int32 → Int32 → Int32 → Int32 → Int32 → Nat → (Nat → Int32) → (Nat → Int32) → (Nat → Int32) → (Nat → Int32) → (Nat → Int32) → (Nat → Int32) → Int64 → Int64 → (Nat → Int64) → Int32 → β), fn_wk_X10_decode wl wsp tpa x1 nu b11 b12 b13 tp sv sr sl sp w2 w3 w4 w5 w6 w7 w8 w9 w10 w11 ps5 ps6 ps7 p2 te de we inp ba gu md1 md2 mi β k_ = k_ zra zrb zx znu zb11 zb12 zb13 ztp zsv zsr zsl zsp zw2 zw3 zw4 zw5 zw6 zw7 zw8 zw9 zw10 zw11 zps5 zps6 zps7 zp2 zte zde zwe zinp zba zgu zmd1 zmd2 zmi z) (hr : ∀ (β : Type) (k_ : Nat → Int32 → Int32 → Int32 → Nat → Nat → Nat → Nat → Nat → Nat → Nat → Nat → Nat → Int64 → Int32 → Int32 → (Nat → Nat) → (Nat → Int32) → (Nat → Int32) → (Nat → Int32) → (Nat → Int32) → (Nat → Int64) → (Nat → Int32) → (Nat → Int32) → (Nat → Int32) → (Nat → Int32) → (Nat → Int32) → (Nat → Int32) → (Nat → Nat) → (Nat → Int32) → (Nat → Int64) → (Nat → Int64) → (Nat → Int64) → (Nat → Int32) → (Nat → Int32) → Int32 → β), fn_wr_X11_decode m1 m14 m15 m25 m26 m27 m28 m29 m32 m33 m36 m37 m38 m39 r6 r5 r43 r0 r11 r12 r13 rte rde rba rgu rw rh M r47 r44 r45 r46 r48 r41 β k_ = k_ ym1 ym40 ym39 ym37 ym38 ym14 ym36 ym15 ym32 ym33 ym42 ym28 ym29 ym27 ym25 ym26 yr6 yr43 yr0 yr11 yr12 yr13 yrte yrde yrba yrgu yrw yrh yM yr47 yr44 yr45 yr46 yr48 yr41 z') : z = z' ∧ Rby 0 (yr6 0) 6000 ztp tpa r5 ∧ Rby 6000 (yr6 1) 6000 sd sda r5 ∧ ((zra = wsp ∧ zrb = wl ∧ Rrow zx znu ym1 yr0 ∧ Rsn zw2 zw3 zw4 zw5 zw6 zw7 zw8 zw9 zw10 zw11 zp2 zwe zmi yr11 yr12 yr13) ∨ (zra = wl ∧ zrb = wsp ∧ Rrow zx znu ym1 yr0 ∧ Rsn u2 u3 u4 u5 u6 u7 u8 u9 u10 u11 up uwe umi yr11 yr12 yr13)) := by
  have hrow0 := h1
  have hsd0 := h4
  have hsn0 := h7
  obtain ⟨rfl, hk, hj⟩ := h3
  obtain ⟨g, g1, g2, g3⟩ := cp_0 (r6 := r6) (r5 := r5) (r6 0) ((6000 - 0) + 1) 0 r43 (by omega) (by omega) (fun j hj => absurd hj (Nat.not_lt_zero _))
  have hfg : ∀ j, j < r6 0 → nb tpa j = nb g j := fun j hj2 => by
    rw [g1 j hj2]
    have e := hj j hj2
    rw [Nat.zero_add] at e
    exact e
  rcases rs_first (L := r6 0) (m14 := m14) (m15 := m15) (m28 := m28) (m29 := m29) (m32 := m32) (m33 := m33) (m36 := m36) (m38 := m38) (m25 := m25) (m26 := m26) (m37 := m37) (m39 := m39) (m27 := m27) (rte := rte) (rde := rde) (rba := rba) (rgu := rgu) (rw := rw) (rh := rh) (r47 := r47) (r48 := r48) (r41 := r41) (r44 := r44) (r45 := r45) (r46 := r46) (M := M) (f := tpa) (g := g) (b11 := b11) (b12 := b12) (b13 := b13) (sv := sv) (sr := sr) (sl := sl) (sp := sp) (w2 := w2) (w3 := w3) (w4 := w4) (w5 := w5) (w6 := w6) (w7 := w7) (w8 := w8) (w9 := w9) (w10 := w10) (w11 := w11) (ps5 := ps5) (ps6 := ps6) (ps7 := ps7) (p2 := p2) (te := te) (de := de) (we := we) (inp := inp) (ba := ba) (gu := gu) (md1 := md1) (md2 := md2) (mi := mi) hk hfg with ⟨hL, ⟨b1, b2, F, n, E, w', q, p', p'', lo', hi', x1', x3', w8', w9', p6', p7', a, b', mi', sl', r44', r45', r46', M', te', de', rte', rde', sv', sr', sp', we', inp', ba', gu', rw', rh', rba', rgu', r41', r47', r48', h1, h2, h3, h4, h5, h6, hPV, hte, hde, hBS, cF, rF⟩⟩ | ⟨fa, hfa1, hfa2, ⟨c1, c2, c3, c4, c5, c6, c7, c8, c9, c10, c11, c12, c13, c14, c15, c16, c17, c18, c19, c20, c21, c22, c23, c24, c25, c26, c27, c28, c29, c30, cF⟩, ⟨d1, d2, d3, d4, d5, d6, d7, d8, d9, d10, d11, d12, d13, d14, d15, d16, d17, d18, d19, d20, d21, d22, d23, d24, d25, d26, rF⟩⟩
  · have hch := (ch_tab b1 h1 h2).1
    have hcc := (ch_tab b1 h1 h2).2
    have hncb : ncOf (nI b1) ≤ 2 := by omega
    have hchb : chOf (nI b1) ≤ 2 := by omega
    have hrow : F * chOf (nI b1) ≤ 1200 := Nat.le_trans (Nat.mul_le_mul h5 hchb) (Nat.le_refl _)
    obtain ⟨hpq, hM, hB, hw', hS, s, hCP, hRP⟩ := hBS
    have hwe : ∀ q, q < 16 → we' q = rw' q := fun q hq => (hCP.1 q hq).trans (hRP.1 q hq).symm
    obtain ⟨sm', r0', hsm, cU, rU⟩ := rs_put (sh := nI b2) (sv := sv') (r41 := r41') (sm := nu) (r0 := r0) h1 h2 h5 (fun j hj => (hS j hj).1)
    obtain ⟨r11', r12', r13', hsn, rT⟩ := sn_ok (n := n) (nch := ncOf (nI b1)) (E := E) (F := F) (ch := chOf (nI b1)) (w := w') (fl := nI b1) (sh := nI b2) (x25 := w8') (x26 := w9') (x40 := 0) (r11 := r11) (r12 := r12) (r13 := r13) (we := we') (rw := rw') (mi := mi') (M := M') (r13f := we') hch hPV.1 hncb hwe hM
    have K1 : ∀ (β : Type) (K : Nat → Nat → Nat → (Nat → Int32) → Int32 → Int32 → Int32 → Int32 → (Nat → Int32) → (Nat → Int32) → (Nat → Int64) → (Nat → Int32) → Nat → Nat → Nat → Int32 → Int32 → Int32 → Int32 → Int32 → Int32 → Int32 → Int32 → Int32 → Int32 → Nat → (Nat → Int32) → (Nat → Int32) → (Nat → Int32) → (Nat → Int32) → (Nat → Int32) → (Nat → Int32) → Int64 → Int64 → (Nat → Int64) → Int32 → β), fn_wk_X10_decode wl wsp tpa x1 nu b11 b12 b13 (nI (r6 0)) sv sr sl sp w2 w3 w4 w5 w6 w7 w8 w9 w10 w11 ps5 ps6 ps7 p2 te de we inp ba gu md1 md2 mi β K = K wsp wl (F * chOf (nI b1)) sm' x1' (nI q) x3' 0 sv' sr' sl' sp' (chOf (nI b1)) (ncOf (nI b1)) F (nI b1) (nI b2) (nI E) w8' w9' (nI w') 0 (nI (ncOf (nI b1))) p6' p7' n te' de' we' inp' ba' gu' a b' mi' (nI (F * chOf (nI b1))) := fun β K => by
      rw [fn_wk_X10_decode_s]
      refine (cF β _).trans ?_
      rw [sh_0 (by omega), if_pos rfl, fn_wk_X10_keepSound_s]
      exact cU β _
    have K2 : ∀ (β : Type) (K : Nat → Int32 → Int32 → Int32 → Nat → Nat → Nat → Nat → Nat → Nat → Nat → Nat → Nat → Int64 → Int32 → Int32 → (Nat → Nat) → (Nat → Int32) → (Nat → Int32) → (Nat → Int32) → (Nat → Int32) → (Nat → Int64) → (Nat → Int32) → (Nat → Int32) → (Nat → Int32) → (Nat → Int32) → (Nat → Int32) → (Nat → Int32) → (Nat → Nat) → (Nat → Int32) → (Nat → Int64) → (Nat → Int64) → (Nat → Int64) → (Nat → Int32) → (Nat → Int32) → Int32 → β), fn_wr_X11_decode m1 m14 m15 m25 m26 m27 m28 m29 m32 m33 m36 m37 m38 m39 r6 r5 r43 r0 r11 r12 r13 rte rde rba rgu rw rh M r47 r44 r45 r46 r48 r41 β K = K (F * chOf (nI b1)) 0 (nI b1) (nI b2) F n E (ncOf (nI b1)) p'' q 0 lo' hi' (lN w') w8' w9' (updN r6 0 0) g r0' r11' r12' r13' rte' rde' rba' rgu' rw' rh' M' r47' r44' r45' r46' r48' r41' (nI (F * chOf (nI b1))) := fun β K => by
      rw [fn_wr_X11_decode_s, fn_wr_X11_decodes_0_s]
      refine (g2 β _).trans ?_
      refine (rF β _).trans ?_
      rw [if_neg (by decide)]
      refine (rU β _).trans ?_
      exact rT β _
    have e6 : yr6 = (updN r6 0 0) := (hr (Nat → Nat) (fun _ _ _ _ _ _ _ _ _ _ _ _ _ _ _ _ v _ _ _ _ _ _ _ _ _ _ _ _ _ _ _ _ _ _ _ => v)).symm.trans (K2 (Nat → Nat) (fun _ _ _ _ _ _ _ _ _ _ _ _ _ _ _ _ v _ _ _ _ _ _ _ _ _ _ _ _ _ _ _ _ _ _ _ => v))
    have etp : ztp = 0 := (hc Int32 (fun _ _ _ _ _ _ _ v _ _ _ _ _ _ _ _ _ _ _ _ _ _ _ _ _ _ _ _ _ _ _ _ _ _ _ _ => v)).symm.trans (K1 Int32 (fun _ _ _ _ _ _ _ v _ _ _ _ _ _ _ _ _ _ _ _ _ _ _ _ _ _ _ _ _ _ _ _ _ _ _ _ => v))
    have e_zra : zra = wsp := (hc Nat (fun v _ _ _ _ _ _ _ _ _ _ _ _ _ _ _ _ _ _ _ _ _ _ _ _ _ _ _ _ _ _ _ _ _ _ _ => v)).symm.trans (K1 Nat (fun v _ _ _ _ _ _ _ _ _ _ _ _ _ _ _ _ _ _ _ _ _ _ _ _ _ _ _ _ _ _ _ _ _ _ _ => v))
    have e_zrb : zrb = wl := (hc Nat (fun _ v _ _ _ _ _ _ _ _ _ _ _ _ _ _ _ _ _ _ _ _ _ _ _ _ _ _ _ _ _ _ _ _ _ _ => v)).symm.trans (K1 Nat (fun _ v _ _ _ _ _ _ _ _ _ _ _ _ _ _ _ _ _ _ _ _ _ _ _ _ _ _ _ _ _ _ _ _ _ _ => v))
    have e_zx : zx = F * chOf (nI b1) := (hc Nat (fun _ _ v _ _ _ _ _ _ _ _ _ _ _ _ _ _ _ _ _ _ _ _ _ _ _ _ _ _ _ _ _ _ _ _ _ => v)).symm.trans (K1 Nat (fun _ _ v _ _ _ _ _ _ _ _ _ _ _ _ _ _ _ _ _ _ _ _ _ _ _ _ _ _ _ _ _ _ _ _ _ => v))
    have e_znu : znu = sm' := (hc (Nat → Int32) (fun _ _ _ v _ _ _ _ _ _ _ _ _ _ _ _ _ _ _ _ _ _ _ _ _ _ _ _ _ _ _ _ _ _ _ _ => v)).symm.trans (K1 (Nat → Int32) (fun _ _ _ v _ _ _ _ _ _ _ _ _ _ _ _ _ _ _ _ _ _ _ _ _ _ _ _ _ _ _ _ _ _ _ _ => v))
    have e_zw2 : zw2 = chOf (nI b1) := (hc Nat (fun _ _ _ _ _ _ _ _ _ _ _ _ v _ _ _ _ _ _ _ _ _ _ _ _ _ _ _ _ _ _ _ _ _ _ _ => v)).symm.trans (K1 Nat (fun _ _ _ _ _ _ _ _ _ _ _ _ v _ _ _ _ _ _ _ _ _ _ _ _ _ _ _ _ _ _ _ _ _ _ _ => v))
    have e_zw3 : zw3 = ncOf (nI b1) := (hc Nat (fun _ _ _ _ _ _ _ _ _ _ _ _ _ v _ _ _ _ _ _ _ _ _ _ _ _ _ _ _ _ _ _ _ _ _ _ => v)).symm.trans (K1 Nat (fun _ _ _ _ _ _ _ _ _ _ _ _ _ v _ _ _ _ _ _ _ _ _ _ _ _ _ _ _ _ _ _ _ _ _ _ => v))
    have e_zw4 : zw4 = F := (hc Nat (fun _ _ _ _ _ _ _ _ _ _ _ _ _ _ v _ _ _ _ _ _ _ _ _ _ _ _ _ _ _ _ _ _ _ _ _ => v)).symm.trans (K1 Nat (fun _ _ _ _ _ _ _ _ _ _ _ _ _ _ v _ _ _ _ _ _ _ _ _ _ _ _ _ _ _ _ _ _ _ _ _ => v))
    have e_zw5 : zw5 = nI b1 := (hc Int32 (fun _ _ _ _ _ _ _ _ _ _ _ _ _ _ _ v _ _ _ _ _ _ _ _ _ _ _ _ _ _ _ _ _ _ _ _ => v)).symm.trans (K1 Int32 (fun _ _ _ _ _ _ _ _ _ _ _ _ _ _ _ v _ _ _ _ _ _ _ _ _ _ _ _ _ _ _ _ _ _ _ _ => v))
    have e_zw6 : zw6 = nI b2 := (hc Int32 (fun _ _ _ _ _ _ _ _ _ _ _ _ _ _ _ _ v _ _ _ _ _ _ _ _ _ _ _ _ _ _ _ _ _ _ _ => v)).symm.trans (K1 Int32 (fun _ _ _ _ _ _ _ _ _ _ _ _ _ _ _ _ v _ _ _ _ _ _ _ _ _ _ _ _ _ _ _ _ _ _ _ => v))
    have e_zw7 : zw7 = nI E := (hc Int32 (fun _ _ _ _ _ _ _ _ _ _ _ _ _ _ _ _ _ v _ _ _ _ _ _ _ _ _ _ _ _ _ _ _ _ _ _ => v)).symm.trans (K1 Int32 (fun _ _ _ _ _ _ _ _ _ _ _ _ _ _ _ _ _ v _ _ _ _ _ _ _ _ _ _ _ _ _ _ _ _ _ _ => v))
    have e_zw8 : zw8 = w8' := (hc Int32 (fun _ _ _ _ _ _ _ _ _ _ _ _ _ _ _ _ _ _ v _ _ _ _ _ _ _ _ _ _ _ _ _ _ _ _ _ => v)).symm.trans (K1 Int32 (fun _ _ _ _ _ _ _ _ _ _ _ _ _ _ _ _ _ _ v _ _ _ _ _ _ _ _ _ _ _ _ _ _ _ _ _ => v))
    have e_zw9 : zw9 = w9' := (hc Int32 (fun _ _ _ _ _ _ _ _ _ _ _ _ _ _ _ _ _ _ _ v _ _ _ _ _ _ _ _ _ _ _ _ _ _ _ _ => v)).symm.trans (K1 Int32 (fun _ _ _ _ _ _ _ _ _ _ _ _ _ _ _ _ _ _ _ v _ _ _ _ _ _ _ _ _ _ _ _ _ _ _ _ => v))
    have e_zw10 : zw10 = nI w' := (hc Int32 (fun _ _ _ _ _ _ _ _ _ _ _ _ _ _ _ _ _ _ _ _ v _ _ _ _ _ _ _ _ _ _ _ _ _ _ _ => v)).symm.trans (K1 Int32 (fun _ _ _ _ _ _ _ _ _ _ _ _ _ _ _ _ _ _ _ _ v _ _ _ _ _ _ _ _ _ _ _ _ _ _ _ => v))
    have e_zw11 : zw11 = 0 := (hc Int32 (fun _ _ _ _ _ _ _ _ _ _ _ _ _ _ _ _ _ _ _ _ _ v _ _ _ _ _ _ _ _ _ _ _ _ _ _ => v)).symm.trans (K1 Int32 (fun _ _ _ _ _ _ _ _ _ _ _ _ _ _ _ _ _ _ _ _ _ v _ _ _ _ _ _ _ _ _ _ _ _ _ _ => v))
    have e_zp2 : zp2 = n := (hc Nat (fun _ _ _ _ _ _ _ _ _ _ _ _ _ _ _ _ _ _ _ _ _ _ _ _ _ v _ _ _ _ _ _ _ _ _ _ => v)).symm.trans (K1 Nat (fun _ _ _ _ _ _ _ _ _ _ _ _ _ _ _ _ _ _ _ _ _ _ _ _ _ v _ _ _ _ _ _ _ _ _ _ => v))
    have e_zwe : zwe = we' := (hc (Nat → Int32) (fun _ _ _ _ _ _ _ _ _ _ _ _ _ _ _ _ _ _ _ _ _ _ _ _ _ _ _ _ v _ _ _ _ _ _ _ => v)).symm.trans (K1 (Nat → Int32) (fun _ _ _ _ _ _ _ _ _ _ _ _ _ _ _ _ _ _ _ _ _ _ _ _ _ _ _ _ v _ _ _ _ _ _ _ => v))
    have e_zmi : zmi = mi' := (hc (Nat → Int64) (fun _ _ _ _ _ _ _ _ _ _ _ _ _ _ _ _ _ _ _ _ _ _ _ _ _ _ _ _ _ _ _ _ _ _ v _ => v)).symm.trans (K1 (Nat → Int64) (fun _ _ _ _ _ _ _ _ _ _ _ _ _ _ _ _ _ _ _ _ _ _ _ _ _ _ _ _ _ _ _ _ _ _ v _ => v))
    have e_ym1 : ym1 = F * chOf (nI b1) := (hr Nat (fun v _ _ _ _ _ _ _ _ _ _ _ _ _ _ _ _ _ _ _ _ _ _ _ _ _ _ _ _ _ _ _ _ _ _ _ => v)).symm.trans (K2 Nat (fun v _ _ _ _ _ _ _ _ _ _ _ _ _ _ _ _ _ _ _ _ _ _ _ _ _ _ _ _ _ _ _ _ _ _ _ => v))
    have e_yr0 : yr0 = r0' := (hr (Nat → Int32) (fun _ _ _ _ _ _ _ _ _ _ _ _ _ _ _ _ _ _ v _ _ _ _ _ _ _ _ _ _ _ _ _ _ _ _ _ => v)).symm.trans (K2 (Nat → Int32) (fun _ _ _ _ _ _ _ _ _ _ _ _ _ _ _ _ _ _ v _ _ _ _ _ _ _ _ _ _ _ _ _ _ _ _ _ => v))
    have e_yr11 : yr11 = r11' := (hr (Nat → Int32) (fun _ _ _ _ _ _ _ _ _ _ _ _ _ _ _ _ _ _ _ v _ _ _ _ _ _ _ _ _ _ _ _ _ _ _ _ => v)).symm.trans (K2 (Nat → Int32) (fun _ _ _ _ _ _ _ _ _ _ _ _ _ _ _ _ _ _ _ v _ _ _ _ _ _ _ _ _ _ _ _ _ _ _ _ => v))
    have e_yr12 : yr12 = r12' := (hr (Nat → Int32) (fun _ _ _ _ _ _ _ _ _ _ _ _ _ _ _ _ _ _ _ _ v _ _ _ _ _ _ _ _ _ _ _ _ _ _ _ => v)).symm.trans (K2 (Nat → Int32) (fun _ _ _ _ _ _ _ _ _ _ _ _ _ _ _ _ _ _ _ _ v _ _ _ _ _ _ _ _ _ _ _ _ _ _ _ => v))
    have e_yr13 : yr13 = r13' := (hr (Nat → Int64) (fun _ _ _ _ _ _ _ _ _ _ _ _ _ _ _ _ _ _ _ _ _ v _ _ _ _ _ _ _ _ _ _ _ _ _ _ => v)).symm.trans (K2 (Nat → Int64) (fun _ _ _ _ _ _ _ _ _ _ _ _ _ _ _ _ _ _ _ _ _ v _ _ _ _ _ _ _ _ _ _ _ _ _ _ => v))
    have ez : z = nI (F * chOf (nI b1)) := (hc Int32 (fun _ _ _ _ _ _ _ _ _ _ _ _ _ _ _ _ _ _ _ _ _ _ _ _ _ _ _ _ _ _ _ _ _ _ _ v => v)).symm.trans (K1 Int32 (fun _ _ _ _ _ _ _ _ _ _ _ _ _ _ _ _ _ _ _ _ _ _ _ _ _ _ _ _ _ _ _ _ _ _ _ v => v))
    have ez' : z' = nI (F * chOf (nI b1)) := (hr Int32 (fun _ _ _ _ _ _ _ _ _ _ _ _ _ _ _ _ _ _ _ _ _ _ _ _ _ _ _ _ _ _ _ _ _ _ _ v => v)).symm.trans (K2 Int32 (fun _ _ _ _ _ _ _ _ _ _ _ _ _ _ _ _ _ _ _ _ _ _ _ _ _ _ _ _ _ _ _ _ _ _ _ v => v))
    exact ⟨by rw [ez, ez'], ⟨by rw [etp, e6]; rfl, by rw [e6]; exact Nat.zero_le _, fun j hj => absurd (by rw [e6] at hj; exact hj : j < 0) (Nat.not_lt_zero _)⟩, by rw [e6]; exact hsd0, Or.inl ⟨e_zra, e_zrb, ⟨by rw [e_zx, e_ym1], by rw [e_zx]; exact hrow, by rw [e_zx, e_znu, e_yr0]; exact hsm⟩, by rw [e_zw2, e_zw3, e_zw4, e_zw5, e_zw6, e_zw7, e_zw8, e_zw9, e_zw10, e_zw11, e_zp2, e_zwe, e_zmi, e_yr11, e_yr12, e_yr13]; exact hsn⟩⟩
  · skip
    have K1 : ∀ (β : Type) (K : Nat → Nat → Nat → (Nat → Int32) → Int32 → Int32 → Int32 → Int32 → (Nat → Int32) → (Nat → Int32) → (Nat → Int64) → (Nat → Int32) → Nat → Nat → Nat → Int32 → Int32 → Int32 → Int32 → Int32 → Int32 → Int32 → Int32 → Int32 → Int32 → Nat → (Nat → Int32) → (Nat → Int32) → (Nat → Int32) → (Nat → Int32) → (Nat → Int32) → (Nat → Int32) → Int64 → Int64 → (Nat → Int64) → Int32 → β), fn_wk_X10_decode wl wsp tpa x1 nu b11 b12 b13 (nI (r6 0)) sv sr sl sp w2 w3 w4 w5 w6 w7 w8 w9 w10 w11 ps5 ps6 ps7 p2 te de we inp ba gu md1 md2 mi β K = K wl wsp x1 nu c1 c2 c3 0 c4 c5 c6 c7 c8 c9 c10 c11 c12 c13 c14 c15 c16 c17 c18 c19 c20 c21 c22 c23 c24 c25 c26 c27 c28 c29 c30 (-(nI fa)) := fun β K => by
      rw [fn_wk_X10_decode_s]
      refine (cF β _).trans ?_
      rw [sh_0 (by omega), if_neg (nI_ne0 (by omega) (by omega))]
    have K2 : ∀ (β : Type) (K : Nat → Int32 → Int32 → Int32 → Nat → Nat → Nat → Nat → Nat → Nat → Nat → Nat → Nat → Int64 → Int32 → Int32 → (Nat → Nat) → (Nat → Int32) → (Nat → Int32) → (Nat → Int32) → (Nat → Int32) → (Nat → Int64) → (Nat → Int32) → (Nat → Int32) → (Nat → Int32) → (Nat → Int32) → (Nat → Int32) → (Nat → Int32) → (Nat → Nat) → (Nat → Int32) → (Nat → Int64) → (Nat → Int64) → (Nat → Int64) → (Nat → Int32) → (Nat → Int32) → Int32 → β), fn_wr_X11_decode m1 m14 m15 m25 m26 m27 m28 m29 m32 m33 m36 m37 m38 m39 r6 r5 r43 r0 r11 r12 r13 rte rde rba rgu rw rh M r47 r44 r45 r46 r48 r41 β K = K m1 0 d1 d2 d3 d4 d5 d6 d7 d8 fa d9 d10 d11 d12 d13 (updN r6 0 0) g r0 r11 r12 r13 d14 d15 d16 d17 d18 d19 d20 d21 d22 d23 d24 d25 d26 (-nI fa) := fun β K => by
      rw [fn_wr_X11_decode_s, fn_wr_X11_decodes_0_s]
      refine (g2 β _).trans ?_
      refine (rF β _).trans ?_
      rw [if_pos rfl]
    have e6 : yr6 = (updN r6 0 0) := (hr (Nat → Nat) (fun _ _ _ _ _ _ _ _ _ _ _ _ _ _ _ _ v _ _ _ _ _ _ _ _ _ _ _ _ _ _ _ _ _ _ _ => v)).symm.trans (K2 (Nat → Nat) (fun _ _ _ _ _ _ _ _ _ _ _ _ _ _ _ _ v _ _ _ _ _ _ _ _ _ _ _ _ _ _ _ _ _ _ _ => v))
    have etp : ztp = 0 := (hc Int32 (fun _ _ _ _ _ _ _ v _ _ _ _ _ _ _ _ _ _ _ _ _ _ _ _ _ _ _ _ _ _ _ _ _ _ _ _ => v)).symm.trans (K1 Int32 (fun _ _ _ _ _ _ _ v _ _ _ _ _ _ _ _ _ _ _ _ _ _ _ _ _ _ _ _ _ _ _ _ _ _ _ _ => v))
    have e_zra : zra = wl := (hc Nat (fun v _ _ _ _ _ _ _ _ _ _ _ _ _ _ _ _ _ _ _ _ _ _ _ _ _ _ _ _ _ _ _ _ _ _ _ => v)).symm.trans (K1 Nat (fun v _ _ _ _ _ _ _ _ _ _ _ _ _ _ _ _ _ _ _ _ _ _ _ _ _ _ _ _ _ _ _ _ _ _ _ => v))
    have e_zrb : zrb = wsp := (hc Nat (fun _ v _ _ _ _ _ _ _ _ _ _ _ _ _ _ _ _ _ _ _ _ _ _ _ _ _ _ _ _ _ _ _ _ _ _ => v)).symm.trans (K1 Nat (fun _ v _ _ _ _ _ _ _ _ _ _ _ _ _ _ _ _ _ _ _ _ _ _ _ _ _ _ _ _ _ _ _ _ _ _ => v))
    have e_zx : zx = x1 := (hc Nat (fun _ _ v _ _ _ _ _ _ _ _ _ _ _ _ _ _ _ _ _ _ _ _ _ _ _ _ _ _ _ _ _ _ _ _ _ => v)).symm.trans (K1 Nat (fun _ _ v _ _ _ _ _ _ _ _ _ _ _ _ _ _ _ _ _ _ _ _ _ _ _ _ _ _ _ _ _ _ _ _ _ => v))
    have e_znu : znu = nu := (hc (Nat → Int32) (fun _ _ _ v _ _ _ _ _ _ _ _ _ _ _ _ _ _ _ _ _ _ _ _ _ _ _ _ _ _ _ _ _ _ _ _ => v)).symm.trans (K1 (Nat → Int32) (fun _ _ _ v _ _ _ _ _ _ _ _ _ _ _ _ _ _ _ _ _ _ _ _ _ _ _ _ _ _ _ _ _ _ _ _ => v))
    have e_ym1 : ym1 = m1 := (hr Nat (fun v _ _ _ _ _ _ _ _ _ _ _ _ _ _ _ _ _ _ _ _ _ _ _ _ _ _ _ _ _ _ _ _ _ _ _ => v)).symm.trans (K2 Nat (fun v _ _ _ _ _ _ _ _ _ _ _ _ _ _ _ _ _ _ _ _ _ _ _ _ _ _ _ _ _ _ _ _ _ _ _ => v))
    have e_yr0 : yr0 = r0 := (hr (Nat → Int32) (fun _ _ _ _ _ _ _ _ _ _ _ _ _ _ _ _ _ _ v _ _ _ _ _ _ _ _ _ _ _ _ _ _ _ _ _ => v)).symm.trans (K2 (Nat → Int32) (fun _ _ _ _ _ _ _ _ _ _ _ _ _ _ _ _ _ _ v _ _ _ _ _ _ _ _ _ _ _ _ _ _ _ _ _ => v))
    have e_yr11 : yr11 = r11 := (hr (Nat → Int32) (fun _ _ _ _ _ _ _ _ _ _ _ _ _ _ _ _ _ _ _ v _ _ _ _ _ _ _ _ _ _ _ _ _ _ _ _ => v)).symm.trans (K2 (Nat → Int32) (fun _ _ _ _ _ _ _ _ _ _ _ _ _ _ _ _ _ _ _ v _ _ _ _ _ _ _ _ _ _ _ _ _ _ _ _ => v))
    have e_yr12 : yr12 = r12 := (hr (Nat → Int32) (fun _ _ _ _ _ _ _ _ _ _ _ _ _ _ _ _ _ _ _ _ v _ _ _ _ _ _ _ _ _ _ _ _ _ _ _ => v)).symm.trans (K2 (Nat → Int32) (fun _ _ _ _ _ _ _ _ _ _ _ _ _ _ _ _ _ _ _ _ v _ _ _ _ _ _ _ _ _ _ _ _ _ _ _ => v))
    have e_yr13 : yr13 = r13 := (hr (Nat → Int64) (fun _ _ _ _ _ _ _ _ _ _ _ _ _ _ _ _ _ _ _ _ _ v _ _ _ _ _ _ _ _ _ _ _ _ _ _ => v)).symm.trans (K2 (Nat → Int64) (fun _ _ _ _ _ _ _ _ _ _ _ _ _ _ _ _ _ _ _ _ _ v _ _ _ _ _ _ _ _ _ _ _ _ _ _ => v))
    have ez : z = -(nI fa) := (hc Int32 (fun _ _ _ _ _ _ _ _ _ _ _ _ _ _ _ _ _ _ _ _ _ _ _ _ _ _ _ _ _ _ _ _ _ _ _ v => v)).symm.trans (K1 Int32 (fun _ _ _ _ _ _ _ _ _ _ _ _ _ _ _ _ _ _ _ _ _ _ _ _ _ _ _ _ _ _ _ _ _ _ _ v => v))
    have ez' : z' = -nI fa := (hr Int32 (fun _ _ _ _ _ _ _ _ _ _ _ _ _ _ _ _ _ _ _ _ _ _ _ _ _ _ _ _ _ _ _ _ _ _ _ v => v)).symm.trans (K2 Int32 (fun _ _ _ _ _ _ _ _ _ _ _ _ _ _ _ _ _ _ _ _ _ _ _ _ _ _ _ _ _ _ _ _ _ _ _ v => v))
    exact ⟨by rw [ez, ez'], ⟨by rw [etp, e6]; rfl, by rw [e6]; exact Nat.zero_le _, fun j hj => absurd (by rw [e6] at hj; exact hj : j < 0) (Nat.not_lt_zero _)⟩, by rw [e6]; exact hsd0, Or.inr ⟨e_zra, e_zrb, by rw [e_zx, e_znu, e_ym1, e_yr0]; exact hrow0, by rw [e_yr11, e_yr12, e_yr13]; exact hsn0⟩⟩
set_option maxHeartbeats 4000000 in
theorem rel_decodeBoth {wl : Nat} {wsp : Nat} {tpa : Nat → Int32} {sda : Nat → Int32} {x1 : Nat} {nu : Nat → Int32} {b11 : Int32} {b12 : Int32} {b13 : Int32} {b21 : Int32} {b22 : Int32} {b23 : Int32} {tp : Int32} {sd : Int32} {sv : Nat → Int32} {sr : Nat → Int32} {sl : Nat → Int64} {sp : Nat → Int32} {w2 : Nat} {w3 : Nat} {w4 : Nat} {w5 : Int32} {w6 : Int32} {w7 : Int32} {w8 : Int32} {w9 : Int32} {w10 : Int32} {w11 : Int32} {ps5 : Int32} {ps6 : Int32} {ps7 : Int32} {p2 : Nat} {te : Nat → Int32} {de : Nat → Int32} {we : Nat → Int32} {inp : Nat → Int32} {ba : Nat → Int32} {gu : Nat → Int32} {md1 : Int64} {md2 : Int64} {mi : Nat → Int64} {zra : Nat} {zrb : Nat} {zx : Nat} {znu : Nat → Int32} {zb11 : Int32} {zb12 : Int32} {zb13 : Int32} {zb21 : Int32} {zb22 : Int32} {zb23 : Int32} {ztp : Int32} {zsd : Int32} {zsv : Nat → Int32} {zsr : Nat → Int32} {zsl : Nat → Int64} {zsp : Nat → Int32} {zw2 : Nat} {zw3 : Nat} {zw4 : Nat} {zw5 : Int32} {zw6 : Int32} {zw7 : Int32} {zw8 : Int32} {zw9 : Int32} {zw10 : Int32} {zw11 : Int32} {zps5 : Int32} {zps6 : Int32} {zps7 : Int32} {zp2 : Nat} {zte : Nat → Int32} {zde : Nat → Int32} {zwe : Nat → Int32} {zinp : Nat → Int32} {zba : Nat → Int32} {zgu : Nat → Int32} {zmd1 : Int64} {zmd2 : Int64} {zmi : Nat → Int64} {z : Int32} {m1 : Nat} {m14 : Nat} {m15 : Nat} {m25 : Int32} {m26 : Int32} {m27 : Int64} {m28 : Nat} {m29 : Nat} {m32 : Nat} {m33 : Nat} {m36 : Nat} {m37 : Int32} {m38 : Nat} {m39 : Int32} {r6 : Nat → Nat} {r5 : Nat → Int32} {r43 : Nat → Int32} {r0 : Nat → Int32} {r11 : Nat → Int32} {r12 : Nat → Int32} {r13 : Nat → Int64} {rte : Nat → Int32} {rde : Nat → Int32} {rba : Nat → Int32} {rgu : Nat → Int32} {rw : Nat → Int32} {rh : Nat → Int32} {M : Nat → Nat} {r47 : Nat → Int32} {r44 : Nat → Int64} {r45 : Nat → Int64} {r46 : Nat → Int64} {r48 : Nat → Int32} {r41 : Nat → Int32} {ym1 : Nat} {ym40 : Int32} {ym39 : Int32} {ym37 : Int32} {ym38 : Nat} {ym14 : Nat} {ym36 : Nat} {ym15 : Nat} {ym32 : Nat} {ym33 : Nat} {ym42 : Nat} {ym28 : Nat} {ym29 : Nat} {ym27 : Int64} {ym25 : Int32} {ym26 : Int32} {yr6 : Nat → Nat} {yr43 : Nat → Int32} {yr0 : Nat → Int32} {yr11 : Nat → Int32} {yr12 : Nat → Int32} {yr13 : Nat → Int64} {yrte : Nat → Int32} {yrde : Nat → Int32} {yrba : Nat → Int32} {yrgu : Nat → Int32} {yrw : Nat → Int32} {yrh : Nat → Int32} {yM : Nat → Nat} {yr47 : Nat → Int32} {yr44 : Nat → Int64} {yr45 : Nat → Int64} {yr46 : Nat → Int64} {yr48 : Nat → Int32} {yr41 : Nat → Int32} {z' : Int32} {u2 : Nat} {u3 : Nat} {u4 : Nat} {u5 : Int32} {u6 : Int32} {u7 : Int32} {u8 : Int32} {u9 : Int32} {u10 : Int32} {u11 : Int32} {up : Nat} {uwe : Nat → Int32} {umi : Nat → Int64} (h1 : Rrow x1 nu m1 r0) (h3 : Rby 0 (r6 0) 6000 tp tpa r5) (h4 : Rby 6000 (r6 1) 6000 sd sda r5) (h7 : Rsn u2 u3 u4 u5 u6 u7 u8 u9 u10 u11 up uwe umi r11 r12 r13) (hc : ∀ (β : Type) (k_ : Nat → Nat → Nat → (Nat → Int32) → Int32 → Int32 → Int32 → Int32 → Int32 → Int32 → Int32 → Int32 → (Nat → Int32) → (Nat → Int32) → (Nat → Int64) → (Nat → Int32) → Nat → Nat → Nat → Int32 → Int32 → Int32 → Int32 → Int32 → Int32 → Int32 → Int32 → Int32 → Int32 → Nat → (Nat → Int32) → (Nat → Int32) → (Nat → Int32) → (Nat → Int32) → (Nat → Int32) → (Nat → Int32) → Int64 → Int64 → (Nat → Int64) → Int32 → β), fn_wk_X10_decodeBoth wl wsp tpa sda x1 nu b11 b12 b13 b21 b22 b23 tp sd sv sr sl sp w2 w3 w4 w5 w6 w7 w8 w9 w10 w11 ps5 ps6 ps7 p2 te de we inp ba gu md1 md2 mi β k_ = k_ zra zrb zx znu zb11 zb12 zb13 zb21 zb22 zb23 ztp zsd zsv zsr zsl zsp zw2 zw3 zw4 zw5 zw6 zw7 zw8 zw9 zw10 zw11 zps5 zps6 zps7 zp2 zte zde zwe zinp zba zgu zmd1 zmd2 zmi z) (hr : ∀ (β : Type) (k_ : Nat → Int32 → Int32 → Int32 → Nat → Nat → Nat → Nat → Nat → Nat → Nat → Nat → Nat → Int64 → Int32 → Int32 → (Nat → Nat) → (Nat → Int32) → (Nat → Int32) → (Nat → Int32) → (Nat → Int32) → (Nat → Int64) → (Nat → Int32) → (Nat → Int32) → (Nat → Int32) → (Nat → Int32) → (Nat → Int32) → (Nat → Int32) → (Nat → Nat) → (Nat → Int32) → (Nat → Int64) → (Nat → Int64) → (Nat → Int64) → (Nat → Int32) → (Nat → Int32) → Int32 → β), fn_wr_X11_decodeBoth m1 m14 m15 m25 m26 m27 m28 m29 m32 m33 m36 m37 m38 m39 r6 r5 r43 r0 r11 r12 r13 rte rde rba rgu rw rh M r47 r44 r45 r46 r48 r41 β k_ = k_ ym1 ym40 ym39 ym37 ym38 ym14 ym36 ym15 ym32 ym33 ym42 ym28 ym29 ym27 ym25 ym26 yr6 yr43 yr0 yr11 yr12 yr13 yrte yrde yrba yrgu yrw yrh yM yr47 yr44 yr45 yr46 yr48 yr41 z') : Rby 0 (yr6 0) 6000 ztp tpa r5 ∧ Rby 6000 (yr6 1) 6000 zsd sda r5 ∧ ((zra = wsp ∧ zrb = wl ∧ Rrow zx znu ym1 yr0 ∧ Rsn zw2 zw3 zw4 zw5 zw6 zw7 zw8 zw9 zw10 zw11 zp2 zwe zmi yr11 yr12 yr13) ∨ (zra = wl ∧ zrb = wsp ∧ Rrow zx znu ym1 yr0 ∧ Rsn u2 u3 u4 u5 u6 u7 u8 u9 u10 u11 up uwe umi yr11 yr12 yr13)) := by
  have hrow0 := h1
  have hsd0 := h4
  have hsn0 := h7
  obtain ⟨rfl, hk, hj⟩ := h3
  obtain ⟨g, g1, g2, g3⟩ := cp_0 (r6 := r6) (r5 := r5) (r6 0) ((6000 - 0) + 1) 0 r43 (by omega) (by omega) (fun j hj => absurd hj (Nat.not_lt_zero _))
  have hfg : ∀ j, j < r6 0 → nb tpa j = nb g j := fun j hj2 => by
    rw [g1 j hj2]
    have e := hj j hj2
    rw [Nat.zero_add] at e
    exact e
  rcases rs_first (L := r6 0) (m14 := m14) (m15 := m15) (m28 := m28) (m29 := m29) (m32 := m32) (m33 := m33) (m36 := m36) (m38 := m38) (m25 := m25) (m26 := m26) (m37 := m37) (m39 := m39) (m27 := m27) (rte := rte) (rde := rde) (rba := rba) (rgu := rgu) (rw := rw) (rh := rh) (r47 := r47) (r48 := r48) (r41 := r41) (r44 := r44) (r45 := r45) (r46 := r46) (M := M) (f := tpa) (g := g) (b11 := b11) (b12 := b12) (b13 := b13) (sv := sv) (sr := sr) (sl := sl) (sp := sp) (w2 := w2) (w3 := w3) (w4 := w4) (w5 := w5) (w6 := w6) (w7 := w7) (w8 := w8) (w9 := w9) (w10 := w10) (w11 := w11) (ps5 := ps5) (ps6 := ps6) (ps7 := ps7) (p2 := p2) (te := te) (de := de) (we := we) (inp := inp) (ba := ba) (gu := gu) (md1 := md1) (md2 := md2) (mi := mi) hk hfg with ⟨hL, ⟨b1, b2, F, n, E, w', q, p', p'', lo', hi', x1', x3', w8', w9', p6', p7', a, b', mi', sl', r44', r45', r46', M', te', de', rte', rde', sv', sr', sp', we', inp', ba', gu', rw', rh', rba', rgu', r41', r47', r48', h1, h2, h3, h4, h5, h6, hPV, hte, hde, hBS, cF, rF⟩⟩ | ⟨fa, hfa1, hfa2, ⟨c1, c2, c3, c4, c5, c6, c7, c8, c9, c10, c11, c12, c13, c14, c15, c16, c17, c18, c19, c20, c21, c22, c23, c24, c25, c26, c27, c28, c29, c30, cF⟩, ⟨d1, d2, d3, d4, d5, d6, d7, d8, d9, d10, d11, d12, d13, d14, d15, d16, d17, d18, d19, d20, d21, d22, d23, d24, d25, d26, rF⟩⟩
  · have hch := (ch_tab b1 h1 h2).1
    have hcc := (ch_tab b1 h1 h2).2
    have hncb : ncOf (nI b1) ≤ 2 := by omega
    have hchb : chOf (nI b1) ≤ 2 := by omega
    have hrow : F * chOf (nI b1) ≤ 1200 := Nat.le_trans (Nat.mul_le_mul h5 hchb) (Nat.le_refl _)
    obtain ⟨hpq, hM, hB, hw', hS, s, hCP, hRP⟩ := hBS
    have hwe : ∀ q, q < 16 → we' q = rw' q := fun q hq => (hCP.1 q hq).trans (hRP.1 q hq).symm
    obtain ⟨hsd, hk2, hj2⟩ := hsd0
    subst hsd
    obtain ⟨gs, gs1, gs2⟩ := cp_1 (r6 := r6) (r5 := r5) (r6 1) ((6000 - 0) + 1) 0 g (by omega) (by omega) (fun j hj => absurd hj (Nat.not_lt_zero _))
    have hfs : ∀ j, j < r6 1 → nb sda j = nb gs j := fun j hj3 => by
      rw [gs1 j hj3]
      exact hj2 j hj3
    have ecr : nI (wdN g (r6 0 - 4)) = nI (wdN tpa (r6 0 - 4)) := by
      rw [wdN_congr (f := g) (g := tpa) (fun j _ hj3 => (hfg j (by omega)).symm)]
    have hFn : ncOf (nI b1) * F ≤ 1200 := Nat.le_trans (Nat.mul_le_mul hncb h5) (Nat.le_refl _)
    rcases rs_second (b21 := b21) (b22 := b22) (b23 := b23) (m32 := p'') (m33 := q) hL hk hk2 hfs ecr hFn hncb h5 hS with ⟨t1, t2, t3, pp, qq, gr, sv2, r412, hgr, hv, cS, rS⟩ | ⟨⟨t1, t2, t3, tw, sv2, fc, hfc1, hfc2, cS⟩, ⟨fb, ta, tb', tc, r412, hfb, hfb2, rS⟩⟩
    · have hv2 : ∀ j, j < F * ncOf (nI b1) → sv2 j = r412 j := fun j hj3 => hv j (by rw [Nat.mul_comm]; exact hj3)
      obtain ⟨sm', r0', hsm, cU, rU⟩ := rs_put (sh := nI b2) (sv := sv2) (r41 := r412) (sm := nu) (r0 := r0) h1 h2 h5 hv2
      obtain ⟨r11', r12', r13', hsn, rT⟩ := sn_ok (n := n) (nch := ncOf (nI b1)) (E := E) (F := F) (ch := chOf (nI b1)) (w := w') (fl := nI b1) (sh := nI b2) (x25 := w8') (x26 := w9') (x40 := (nI gr)) (r11 := r11) (r12 := r12) (r13 := r13) (we := we') (rw := rw') (mi := mi') (M := M') (r13f := we') hch hPV.1 hncb hwe hM
      have K1 : ∀ (β : Type) (K : Nat → Nat → Nat → (Nat → Int32) → Int32 → Int32 → Int32 → Int32 → Int32 → Int32 → Int32 → Int32 → (Nat → Int32) → (Nat → Int32) → (Nat → Int64) → (Nat → Int32) → Nat → Nat → Nat → Int32 → Int32 → Int32 → Int32 → Int32 → Int32 → Int32 → Int32 → Int32 → Int32 → Nat → (Nat → Int32) → (Nat → Int32) → (Nat → Int32) → (Nat → Int32) → (Nat → Int32) → (Nat → Int32) → Int64 → Int64 → (Nat → Int64) → Int32 → β), fn_wk_X10_decodeBoth wl wsp tpa sda x1 nu b11 b12 b13 b21 b22 b23 (nI (r6 0)) (nI (r6 1)) sv sr sl sp w2 w3 w4 w5 w6 w7 w8 w9 w10 w11 ps5 ps6 ps7 p2 te de we inp ba gu md1 md2 mi β K = K wsp wl (F * chOf (nI b1)) sm' x1' (nI q) x3' t1 t2 t3 0 0 sv2 sr' sl' sp' (chOf (nI b1)) (ncOf (nI b1)) F (nI b1) (nI b2) (nI E) w8' w9' (nI w') (nI gr) (nI (ncOf (nI b1))) p6' p7' n te' de' we' inp' ba' gu' a b' mi' (nI (F * chOf (nI b1))) := fun β K => by
        rw [fn_wk_X10_decodeBoth_s]
        refine (cF β _).trans ?_
        rw [if_pos rfl]
        refine (cS β _).trans ?_
        rw [sh_0 (by omega), sh_0 (by omega), if_pos rfl, fn_wk_X10_keepSound_s]
        exact cU β _
      have K2 : ∀ (β : Type) (K : Nat → Int32 → Int32 → Int32 → Nat → Nat → Nat → Nat → Nat → Nat → Nat → Nat → Nat → Int64 → Int32 → Int32 → (Nat → Nat) → (Nat → Int32) → (Nat → Int32) → (Nat → Int32) → (Nat → Int32) → (Nat → Int64) → (Nat → Int32) → (Nat → Int32) → (Nat → Int32) → (Nat → Int32) → (Nat → Int32) → (Nat → Int32) → (Nat → Nat) → (Nat → Int32) → (Nat → Int64) → (Nat → Int64) → (Nat → Int64) → (Nat → Int32) → (Nat → Int32) → Int32 → β), fn_wr_X11_decodeBoth m1 m14 m15 m25 m26 m27 m28 m29 m32 m33 m36 m37 m38 m39 r6 r5 r43 r0 r11 r12 r13 rte rde rba rgu rw rh M r47 r44 r45 r46 r48 r41 β K = K (F * chOf (nI b1)) (nI gr) (nI b1) (nI b2) F n E (ncOf (nI b1)) pp qq 0 lo' hi' (lN w') w8' w9' (updN (updN r6 0 0) 1 0) gs r0' r11' r12' r13' rte' rde' rba' rgu' rw' rh' M' r47' r44' r45' r46' r48' r412 (nI (F * chOf (nI b1))) := fun β K => by
        rw [fn_wr_X11_decodeBoth_s, fn_wr_X11_decodes_1_s]
        refine (g3 β _).trans ?_
        refine (rF β _).trans ?_
        rw [if_neg (by decide), r_intAt]
        refine (gs2 β _).trans ?_
        refine (rS β _).trans ?_
        rw [if_neg (by decide)]
        refine (rU β _).trans ?_
        exact rT β _
      have e6 : yr6 = (updN (updN r6 0 0) 1 0) := (hr (Nat → Nat) (fun _ _ _ _ _ _ _ _ _ _ _ _ _ _ _ _ v _ _ _ _ _ _ _ _ _ _ _ _ _ _ _ _ _ _ _ => v)).symm.trans (K2 (Nat → Nat) (fun _ _ _ _ _ _ _ _ _ _ _ _ _ _ _ _ v _ _ _ _ _ _ _ _ _ _ _ _ _ _ _ _ _ _ _ => v))
      have etp : ztp = 0 := (hc Int32 (fun _ _ _ _ _ _ _ _ _ _ v _ _ _ _ _ _ _ _ _ _ _ _ _ _ _ _ _ _ _ _ _ _ _ _ _ _ _ _ _ => v)).symm.trans (K1 Int32 (fun _ _ _ _ _ _ _ _ _ _ v _ _ _ _ _ _ _ _ _ _ _ _ _ _ _ _ _ _ _ _ _ _ _ _ _ _ _ _ _ => v))
      have esd : zsd = 0 := (hc Int32 (fun _ _ _ _ _ _ _ _ _ _ _ v _ _ _ _ _ _ _ _ _ _ _ _ _ _ _ _ _ _ _ _ _ _ _ _ _ _ _ _ => v)).symm.trans (K1 Int32 (fun _ _ _ _ _ _ _ _ _ _ _ v _ _ _ _ _ _ _ _ _ _ _ _ _ _ _ _ _ _ _ _ _ _ _ _ _ _ _ _ => v))
      have e_zra : zra = wsp := (hc Nat (fun v _ _ _ _ _ _ _ _ _ _ _ _ _ _ _ _ _ _ _ _ _ _ _ _ _ _ _ _ _ _ _ _ _ _ _ _ _ _ _ => v)).symm.trans (K1 Nat (fun v _ _ _ _ _ _ _ _ _ _ _ _ _ _ _ _ _ _ _ _ _ _ _ _ _ _ _ _ _ _ _ _ _ _ _ _ _ _ _ => v))
      have e_zrb : zrb = wl := (hc Nat (fun _ v _ _ _ _ _ _ _ _ _ _ _ _ _ _ _ _ _ _ _ _ _ _ _ _ _ _ _ _ _ _ _ _ _ _ _ _ _ _ => v)).symm.trans (K1 Nat (fun _ v _ _ _ _ _ _ _ _ _ _ _ _ _ _ _ _ _ _ _ _ _ _ _ _ _ _ _ _ _ _ _ _ _ _ _ _ _ _ => v))
      have e_zx : zx = F * chOf (nI b1) := (hc Nat (fun _ _ v _ _ _ _ _ _ _ _ _ _ _ _ _ _ _ _ _ _ _ _ _ _ _ _ _ _ _ _ _ _ _ _ _ _ _ _ _ => v)).symm.trans (K1 Nat (fun _ _ v _ _ _ _ _ _ _ _ _ _ _ _ _ _ _ _ _ _ _ _ _ _ _ _ _ _ _ _ _ _ _ _ _ _ _ _ _ => v))
      have e_znu : znu = sm' := (hc (Nat → Int32) (fun _ _ _ v _ _ _ _ _ _ _ _ _ _ _ _ _ _ _ _ _ _ _ _ _ _ _ _ _ _ _ _ _ _ _ _ _ _ _ _ => v)).symm.trans (K1 (Nat → Int32) (fun _ _ _ v _ _ _ _ _ _ _ _ _ _ _ _ _ _ _ _ _ _ _ _ _ _ _ _ _ _ _ _ _ _ _ _ _ _ _ _ => v))
      have e_zw2 : zw2 = chOf (nI b1) := (hc Nat (fun _ _ _ _ _ _ _ _ _ _ _ _ _ _ _ _ v _ _ _ _ _ _ _ _ _ _ _ _ _ _ _ _ _ _ _ _ _ _ _ => v)).symm.trans (K1 Nat (fun _ _ _ _ _ _ _ _ _ _ _ _ _ _ _ _ v _ _ _ _ _ _ _ _ _ _ _ _ _ _ _ _ _ _ _ _ _ _ _ => v))
      have e_zw3 : zw3 = ncOf (nI b1) := (hc Nat (fun _ _ _ _ _ _ _ _ _ _ _ _ _ _ _ _ _ v _ _ _ _ _ _ _ _ _ _ _ _ _ _ _ _ _ _ _ _ _ _ => v)).symm.trans (K1 Nat (fun _ _ _ _ _ _ _ _ _ _ _ _ _ _ _ _ _ v _ _ _ _ _ _ _ _ _ _ _ _ _ _ _ _ _ _ _ _ _ _ => v))
      have e_zw4 : zw4 = F := (hc Nat (fun _ _ _ _ _ _ _ _ _ _ _ _ _ _ _ _ _ _ v _ _ _ _ _ _ _ _ _ _ _ _ _ _ _ _ _ _ _ _ _ => v)).symm.trans (K1 Nat (fun _ _ _ _ _ _ _ _ _ _ _ _ _ _ _ _ _ _ v _ _ _ _ _ _ _ _ _ _ _ _ _ _ _ _ _ _ _ _ _ => v))
      have e_zw5 : zw5 = nI b1 := (hc Int32 (fun _ _ _ _ _ _ _ _ _ _ _ _ _ _ _ _ _ _ _ v _ _ _ _ _ _ _ _ _ _ _ _ _ _ _ _ _ _ _ _ => v)).symm.trans (K1 Int32 (fun _ _ _ _ _ _ _ _ _ _ _ _ _ _ _ _ _ _ _ v _ _ _ _ _ _ _ _ _ _ _ _ _ _ _ _ _ _ _ _ => v))
      have e_zw6 : zw6 = nI b2 := (hc Int32 (fun _ _ _ _ _ _ _ _ _ _ _ _ _ _ _ _ _ _ _ _ v _ _ _ _ _ _ _ _ _ _ _ _ _ _ _ _ _ _ _ => v)).symm.trans (K1 Int32 (fun _ _ _ _ _ _ _ _ _ _ _ _ _ _ _ _ _ _ _ _ v _ _ _ _ _ _ _ _ _ _ _ _ _ _ _ _ _ _ _ => v))
      have e_zw7 : zw7 = nI E := (hc Int32 (fun _ _ _ _ _ _ _ _ _ _ _ _ _ _ _ _ _ _ _ _ _ v _ _ _ _ _ _ _ _ _ _ _ _ _ _ _ _ _ _ => v)).symm.trans (K1 Int32 (fun _ _ _ _ _ _ _ _ _ _ _ _ _ _ _ _ _ _ _ _ _ v _ _ _ _ _ _ _ _ _ _ _ _ _ _ _ _ _ _ => v))
      have e_zw8 : zw8 = w8' := (hc Int32 (fun _ _ _ _ _ _ _ _ _ _ _ _ _ _ _ _ _ _ _ _ _ _ v _ _ _ _ _ _ _ _ _ _ _ _ _ _ _ _ _ => v)).symm.trans (K1 Int32 (fun _ _ _ _ _ _ _ _ _ _ _ _ _ _ _ _ _ _ _ _ _ _ v _ _ _ _ _ _ _ _ _ _ _ _ _ _ _ _ _ => v))
      have e_zw9 : zw9 = w9' := (hc Int32 (fun _ _ _ _ _ _ _ _ _ _ _ _ _ _ _ _ _ _ _ _ _ _ _ v _ _ _ _ _ _ _ _ _ _ _ _ _ _ _ _ => v)).symm.trans (K1 Int32 (fun _ _ _ _ _ _ _ _ _ _ _ _ _ _ _ _ _ _ _ _ _ _ _ v _ _ _ _ _ _ _ _ _ _ _ _ _ _ _ _ => v))
      have e_zw10 : zw10 = nI w' := (hc Int32 (fun _ _ _ _ _ _ _ _ _ _ _ _ _ _ _ _ _ _ _ _ _ _ _ _ v _ _ _ _ _ _ _ _ _ _ _ _ _ _ _ => v)).symm.trans (K1 Int32 (fun _ _ _ _ _ _ _ _ _ _ _ _ _ _ _ _ _ _ _ _ _ _ _ _ v _ _ _ _ _ _ _ _ _ _ _ _ _ _ _ => v))
      have e_zw11 : zw11 = (nI gr) := (hc Int32 (fun _ _ _ _ _ _ _ _ _ _ _ _ _ _ _ _ _ _ _ _ _ _ _ _ _ v _ _ _ _ _ _ _ _ _ _ _ _ _ _ => v)).symm.trans (K1 Int32 (fun _ _ _ _ _ _ _ _ _ _ _ _ _ _ _ _ _ _ _ _ _ _ _ _ _ v _ _ _ _ _ _ _ _ _ _ _ _ _ _ => v))
      have e_zp2 : zp2 = n := (hc Nat (fun _ _ _ _ _ _ _ _ _ _ _ _ _ _ _ _ _ _ _ _ _ _ _ _ _ _ _ _ _ v _ _ _ _ _ _ _ _ _ _ => v)).symm.trans (K1 Nat (fun _ _ _ _ _ _ _ _ _ _ _ _ _ _ _ _ _ _ _ _ _ _ _ _ _ _ _ _ _ v _ _ _ _ _ _ _ _ _ _ => v))
      have e_zwe : zwe = we' := (hc (Nat → Int32) (fun _ _ _ _ _ _ _ _ _ _ _ _ _ _ _ _ _ _ _ _ _ _ _ _ _ _ _ _ _ _ _ _ v _ _ _ _ _ _ _ => v)).symm.trans (K1 (Nat → Int32) (fun _ _ _ _ _ _ _ _ _ _ _ _ _ _ _ _ _ _ _ _ _ _ _ _ _ _ _ _ _ _ _ _ v _ _ _ _ _ _ _ => v))
      have e_zmi : zmi = mi' := (hc (Nat → Int64) (fun _ _ _ _ _ _ _ _ _ _ _ _ _ _ _ _ _ _ _ _ _ _ _ _ _ _ _ _ _ _ _ _ _ _ _ _ _ _ v _ => v)).symm.trans (K1 (Nat → Int64) (fun _ _ _ _ _ _ _ _ _ _ _ _ _ _ _ _ _ _ _ _ _ _ _ _ _ _ _ _ _ _ _ _ _ _ _ _ _ _ v _ => v))
      have e_ym1 : ym1 = F * chOf (nI b1) := (hr Nat (fun v _ _ _ _ _ _ _ _ _ _ _ _ _ _ _ _ _ _ _ _ _ _ _ _ _ _ _ _ _ _ _ _ _ _ _ => v)).symm.trans (K2 Nat (fun v _ _ _ _ _ _ _ _ _ _ _ _ _ _ _ _ _ _ _ _ _ _ _ _ _ _ _ _ _ _ _ _ _ _ _ => v))
      have e_yr0 : yr0 = r0' := (hr (Nat → Int32) (fun _ _ _ _ _ _ _ _ _ _ _ _ _ _ _ _ _ _ v _ _ _ _ _ _ _ _ _ _ _ _ _ _ _ _ _ => v)).symm.trans (K2 (Nat → Int32) (fun _ _ _ _ _ _ _ _ _ _ _ _ _ _ _ _ _ _ v _ _ _ _ _ _ _ _ _ _ _ _ _ _ _ _ _ => v))
      have e_yr11 : yr11 = r11' := (hr (Nat → Int32) (fun _ _ _ _ _ _ _ _ _ _ _ _ _ _ _ _ _ _ _ v _ _ _ _ _ _ _ _ _ _ _ _ _ _ _ _ => v)).symm.trans (K2 (Nat → Int32) (fun _ _ _ _ _ _ _ _ _ _ _ _ _ _ _ _ _ _ _ v _ _ _ _ _ _ _ _ _ _ _ _ _ _ _ _ => v))
      have e_yr12 : yr12 = r12' := (hr (Nat → Int32) (fun _ _ _ _ _ _ _ _ _ _ _ _ _ _ _ _ _ _ _ _ v _ _ _ _ _ _ _ _ _ _ _ _ _ _ _ => v)).symm.trans (K2 (Nat → Int32) (fun _ _ _ _ _ _ _ _ _ _ _ _ _ _ _ _ _ _ _ _ v _ _ _ _ _ _ _ _ _ _ _ _ _ _ _ => v))
      have e_yr13 : yr13 = r13' := (hr (Nat → Int64) (fun _ _ _ _ _ _ _ _ _ _ _ _ _ _ _ _ _ _ _ _ _ v _ _ _ _ _ _ _ _ _ _ _ _ _ _ => v)).symm.trans (K2 (Nat → Int64) (fun _ _ _ _ _ _ _ _ _ _ _ _ _ _ _ _ _ _ _ _ _ v _ _ _ _ _ _ _ _ _ _ _ _ _ _ => v))
      exact ⟨⟨by rw [etp, e6]; rfl, by rw [e6]; exact Nat.zero_le _, fun j hj => absurd (by rw [e6] at hj; exact hj : j < 0) (Nat.not_lt_zero _)⟩, ⟨by rw [esd, e6]; rfl, by rw [e6]; exact Nat.zero_le _, fun j hj => absurd (by rw [e6] at hj; exact hj : j < 0) (Nat.not_lt_zero _)⟩, Or.inl ⟨e_zra, e_zrb, ⟨by rw [e_zx, e_ym1], by rw [e_zx]; exact hrow, by rw [e_zx, e_znu, e_yr0]; exact hsm⟩, by rw [e_zw2, e_zw3, e_zw4, e_zw5, e_zw6, e_zw7, e_zw8, e_zw9, e_zw10, e_zw11, e_zp2, e_zwe, e_zmi, e_yr11, e_yr12, e_yr13]; exact hsn⟩⟩
    · skip
      have K1 : ∀ (β : Type) (K : Nat → Nat → Nat → (Nat → Int32) → Int32 → Int32 → Int32 → Int32 → Int32 → Int32 → Int32 → Int32 → (Nat → Int32) → (Nat → Int32) → (Nat → Int64) → (Nat → Int32) → Nat → Nat → Nat → Int32 → Int32 → Int32 → Int32 → Int32 → Int32 → Int32 → Int32 → Int32 → Int32 → Nat → (Nat → Int32) → (Nat → Int32) → (Nat → Int32) → (Nat → Int32) → (Nat → Int32) → (Nat → Int32) → Int64 → Int64 → (Nat → Int64) → Int32 → β), fn_wk_X10_decodeBoth wl wsp tpa sda x1 nu b11 b12 b13 b21 b22 b23 (nI (r6 0)) (nI (r6 1)) sv sr sl sp w2 w3 w4 w5 w6 w7 w8 w9 w10 w11 ps5 ps6 ps7 p2 te de we inp ba gu md1 md2 mi β K = K wl wsp x1 nu x1' (nI q) x3' t1 t2 t3 0 0 sv2 sr' sl' sp' (chOf (nI b1)) (ncOf (nI b1)) F (nI b1) (nI b2) (nI E) w8' w9' (nI w') tw (nI (ncOf (nI b1))) p6' p7' n te' de' we' inp' ba' gu' a b' mi' (-(nI fc)) := fun β K => by
        rw [fn_wk_X10_decodeBoth_s]
        refine (cF β _).trans ?_
        rw [if_pos rfl]
        refine (cS β _).trans ?_
        rw [sh_0 (by omega), sh_0 (by omega), if_neg (nI_ne0 (by omega) (by omega))]
      have K2 : ∀ (β : Type) (K : Nat → Int32 → Int32 → Int32 → Nat → Nat → Nat → Nat → Nat → Nat → Nat → Nat → Nat → Int64 → Int32 → Int32 → (Nat → Nat) → (Nat → Int32) → (Nat → Int32) → (Nat → Int32) → (Nat → Int32) → (Nat → Int64) → (Nat → Int32) → (Nat → Int32) → (Nat → Int32) → (Nat → Int32) → (Nat → Int32) → (Nat → Int32) → (Nat → Nat) → (Nat → Int32) → (Nat → Int64) → (Nat → Int64) → (Nat → Int64) → (Nat → Int32) → (Nat → Int32) → Int32 → β), fn_wr_X11_decodeBoth m1 m14 m15 m25 m26 m27 m28 m29 m32 m33 m36 m37 m38 m39 r6 r5 r43 r0 r11 r12 r13 rte rde rba rgu rw rh M r47 r44 r45 r46 r48 r41 β K = K m1 tc (nI b1) (nI b2) F n E (ncOf (nI b1)) ta tb' fb lo' hi' (lN w') w8' w9' (updN (updN r6 0 0) 1 0) gs r0 r11 r12 r13 rte' rde' rba' rgu' rw' rh' M' r47' r44' r45' r46' r48' r412 (-nI fb) := fun β K => by
        rw [fn_wr_X11_decodeBoth_s, fn_wr_X11_decodes_1_s]
        refine (g3 β _).trans ?_
        refine (rF β _).trans ?_
        rw [if_neg (by decide), r_intAt]
        refine (gs2 β _).trans ?_
        refine (rS β _).trans ?_
        rw [if_pos rfl]
      have e6 : yr6 = (updN (updN r6 0 0) 1 0) := (hr (Nat → Nat) (fun _ _ _ _ _ _ _ _ _ _ _ _ _ _ _ _ v _ _ _ _ _ _ _ _ _ _ _ _ _ _ _ _ _ _ _ => v)).symm.trans (K2 (Nat → Nat) (fun _ _ _ _ _ _ _ _ _ _ _ _ _ _ _ _ v _ _ _ _ _ _ _ _ _ _ _ _ _ _ _ _ _ _ _ => v))
      have etp : ztp = 0 := (hc Int32 (fun _ _ _ _ _ _ _ _ _ _ v _ _ _ _ _ _ _ _ _ _ _ _ _ _ _ _ _ _ _ _ _ _ _ _ _ _ _ _ _ => v)).symm.trans (K1 Int32 (fun _ _ _ _ _ _ _ _ _ _ v _ _ _ _ _ _ _ _ _ _ _ _ _ _ _ _ _ _ _ _ _ _ _ _ _ _ _ _ _ => v))
      have esd : zsd = 0 := (hc Int32 (fun _ _ _ _ _ _ _ _ _ _ _ v _ _ _ _ _ _ _ _ _ _ _ _ _ _ _ _ _ _ _ _ _ _ _ _ _ _ _ _ => v)).symm.trans (K1 Int32 (fun _ _ _ _ _ _ _ _ _ _ _ v _ _ _ _ _ _ _ _ _ _ _ _ _ _ _ _ _ _ _ _ _ _ _ _ _ _ _ _ => v))
      have e_zra : zra = wl := (hc Nat (fun v _ _ _ _ _ _ _ _ _ _ _ _ _ _ _ _ _ _ _ _ _ _ _ _ _ _ _ _ _ _ _ _ _ _ _ _ _ _ _ => v)).symm.trans (K1 Nat (fun v _ _ _ _ _ _ _ _ _ _ _ _ _ _ _ _ _ _ _ _ _ _ _ _ _ _ _ _ _ _ _ _ _ _ _ _ _ _ _ => v))
      have e_zrb : zrb = wsp := (hc Nat (fun _ v _ _ _ _ _ _ _ _ _ _ _ _ _ _ _ _ _ _ _ _ _ _ _ _ _ _ _ _ _ _ _ _ _ _ _ _ _ _ => v)).symm.trans (K1 Nat (fun _ v _ _ _ _ _ _ _ _ _ _ _ _ _ _ _ _ _ _ _ _ _ _ _ _ _ _ _ _ _ _ _ _ _ _ _ _ _ _ => v))
      have e_zx : zx = x1 := (hc Nat (fun _ _ v _ _ _ _ _ _ _ _ _ _ _ _ _ _ _ _ _ _ _ _ _ _ _ _ _ _ _ _ _ _ _ _ _ _ _ _ _ => v)).symm.trans (K1 Nat (fun _ _ v _ _ _ _ _ _ _ _ _ _ _ _ _ _ _ _ _ _ _ _ _ _ _ _ _ _ _ _ _ _ _ _ _ _ _ _ _ => v))
      have e_znu : znu = nu := (hc (Nat → Int32) (fun _ _ _ v _ _ _ _ _ _ _ _ _ _ _ _ _ _ _ _ _ _ _ _ _ _ _ _ _ _ _ _ _ _ _ _ _ _ _ _ => v)).symm.trans (K1 (Nat → Int32) (fun _ _ _ v _ _ _ _ _ _ _ _ _ _ _ _ _ _ _ _ _ _ _ _ _ _ _ _ _ _ _ _ _ _ _ _ _ _ _ _ => v))
      have e_ym1 : ym1 = m1 := (hr Nat (fun v _ _ _ _ _ _ _ _ _ _ _ _ _ _ _ _ _ _ _ _ _ _ _ _ _ _ _ _ _ _ _ _ _ _ _ => v)).symm.trans (K2 Nat (fun v _ _ _ _ _ _ _ _ _ _ _ _ _ _ _ _ _ _ _ _ _ _ _ _ _ _ _ _ _ _ _ _ _ _ _ => v))
      have e_yr0 : yr0 = r0 := (hr (Nat → Int32) (fun _ _ _ _ _ _ _ _ _ _ _ _ _ _ _ _ _ _ v _ _ _ _ _ _ _ _ _ _ _ _ _ _ _ _ _ => v)).symm.trans (K2 (Nat → Int32) (fun _ _ _ _ _ _ _ _ _ _ _ _ _ _ _ _ _ _ v _ _ _ _ _ _ _ _ _ _ _ _ _ _ _ _ _ => v))
      have e_yr11 : yr11 = r11 := (hr (Nat → Int32) (fun _ _ _ _ _ _ _ _ _ _ _ _ _ _ _ _ _ _ _ v _ _ _ _ _ _ _ _ _ _ _ _ _ _ _ _ => v)).symm.trans (K2 (Nat → Int32) (fun _ _ _ _ _ _ _ _ _ _ _ _ _ _ _ _ _ _ _ v _ _ _ _ _ _ _ _ _ _ _ _ _ _ _ _ => v))
      have e_yr12 : yr12 = r12 := (hr (Nat → Int32) (fun _ _ _ _ _ _ _ _ _ _ _ _ _ _ _ _ _ _ _ _ v _ _ _ _ _ _ _ _ _ _ _ _ _ _ _ => v)).symm.trans (K2 (Nat → Int32) (fun _ _ _ _ _ _ _ _ _ _ _ _ _ _ _ _ _ _ _ _ v _ _ _ _ _ _ _ _ _ _ _ _ _ _ _ => v))
      have e_yr13 : yr13 = r13 := (hr (Nat → Int64) (fun _ _ _ _ _ _ _ _ _ _ _ _ _ _ _ _ _ _ _ _ _ v _ _ _ _ _ _ _ _ _ _ _ _ _ _ => v)).symm.trans (K2 (Nat → Int64) (fun _ _ _ _ _ _ _ _ _ _ _ _ _ _ _ _ _ _ _ _ _ v _ _ _ _ _ _ _ _ _ _ _ _ _ _ => v))
      exact ⟨⟨by rw [etp, e6]; rfl, by rw [e6]; exact Nat.zero_le _, fun j hj => absurd (by rw [e6] at hj; exact hj : j < 0) (Nat.not_lt_zero _)⟩, ⟨by rw [esd, e6]; rfl, by rw [e6]; exact Nat.zero_le _, fun j hj => absurd (by rw [e6] at hj; exact hj : j < 0) (Nat.not_lt_zero _)⟩, Or.inr ⟨e_zra, e_zrb, by rw [e_zx, e_znu, e_ym1, e_yr0]; exact hrow0, by rw [e_yr11, e_yr12, e_yr13]; exact hsn0⟩⟩
  · skip
    obtain ⟨hsd, hk2, hj2⟩ := hsd0
    subst hsd
    have K1 : ∀ (β : Type) (K : Nat → Nat → Nat → (Nat → Int32) → Int32 → Int32 → Int32 → Int32 → Int32 → Int32 → Int32 → Int32 → (Nat → Int32) → (Nat → Int32) → (Nat → Int64) → (Nat → Int32) → Nat → Nat → Nat → Int32 → Int32 → Int32 → Int32 → Int32 → Int32 → Int32 → Int32 → Int32 → Int32 → Nat → (Nat → Int32) → (Nat → Int32) → (Nat → Int32) → (Nat → Int32) → (Nat → Int32) → (Nat → Int32) → Int64 → Int64 → (Nat → Int64) → Int32 → β), fn_wk_X10_decodeBoth wl wsp tpa sda x1 nu b11 b12 b13 b21 b22 b23 (nI (r6 0)) (nI (r6 1)) sv sr sl sp w2 w3 w4 w5 w6 w7 w8 w9 w10 w11 ps5 ps6 ps7 p2 te de we inp ba gu md1 md2 mi β K = K wl wsp x1 nu c1 c2 c3 b21 b22 b23 0 0 c4 c5 c6 c7 c8 c9 c10 c11 c12 c13 c14 c15 c16 c17 c18 c19 c20 c21 c22 c23 c24 c25 c26 c27 c28 c29 c30 (-(nI fa)) := fun β K => by
      rw [fn_wk_X10_decodeBoth_s]
      refine (cF β _).trans ?_
      rw [if_neg (nI_ne0 (by omega) (by omega)), sh_0 (by omega), sh_0 (by omega)]
    have K2 : ∀ (β : Type) (K : Nat → Int32 → Int32 → Int32 → Nat → Nat → Nat → Nat → Nat → Nat → Nat → Nat → Nat → Int64 → Int32 → Int32 → (Nat → Nat) → (Nat → Int32) → (Nat → Int32) → (Nat → Int32) → (Nat → Int32) → (Nat → Int64) → (Nat → Int32) → (Nat → Int32) → (Nat → Int32) → (Nat → Int32) → (Nat → Int32) → (Nat → Int32) → (Nat → Nat) → (Nat → Int32) → (Nat → Int64) → (Nat → Int64) → (Nat → Int64) → (Nat → Int32) → (Nat → Int32) → Int32 → β), fn_wr_X11_decodeBoth m1 m14 m15 m25 m26 m27 m28 m29 m32 m33 m36 m37 m38 m39 r6 r5 r43 r0 r11 r12 r13 rte rde rba rgu rw rh M r47 r44 r45 r46 r48 r41 β K = K m1 0 d1 d2 d3 d4 d5 d6 d7 d8 fa d9 d10 d11 d12 d13 (updN (updN r6 0 0) 1 0) g r0 r11 r12 r13 d14 d15 d16 d17 d18 d19 d20 d21 d22 d23 d24 d25 d26 (-nI fa) := fun β K => by
      rw [fn_wr_X11_decodeBoth_s, fn_wr_X11_decodes_1_s]
      refine (g3 β _).trans ?_
      refine (rF β _).trans ?_
      rw [if_pos rfl]
    have e6 : yr6 = (updN (updN r6 0 0) 1 0) := (hr (Nat → Nat) (fun _ _ _ _ _ _ _ _ _ _ _ _ _ _ _ _ v _ _ _ _ _ _ _ _ _ _ _ _ _ _ _ _ _ _ _ => v)).symm.trans (K2 (Nat → Nat) (fun _ _ _ _ _ _ _ _ _ _ _ _ _ _ _ _ v _ _ _ _ _ _ _ _ _ _ _ _ _ _ _ _ _ _ _ => v))
    have etp : ztp = 0 := (hc Int32 (fun _ _ _ _ _ _ _ _ _ _ v _ _ _ _ _ _ _ _ _ _ _ _ _ _ _ _ _ _ _ _ _ _ _ _ _ _ _ _ _ => v)).symm.trans (K1 Int32 (fun _ _ _ _ _ _ _ _ _ _ v _ _ _ _ _ _ _ _ _ _ _ _ _ _ _ _ _ _ _ _ _ _ _ _ _ _ _ _ _ => v))
    have esd : zsd = 0 := (hc Int32 (fun _ _ _ _ _ _ _ _ _ _ _ v _ _ _ _ _ _ _ _ _ _ _ _ _ _ _ _ _ _ _ _ _ _ _ _ _ _ _ _ => v)).symm.trans (K1 Int32 (fun _ _ _ _ _ _ _ _ _ _ _ v _ _ _ _ _ _ _ _ _ _ _ _ _ _ _ _ _ _ _ _ _ _ _ _ _ _ _ _ => v))
    have e_zra : zra = wl := (hc Nat (fun v _ _ _ _ _ _ _ _ _ _ _ _ _ _ _ _ _ _ _ _ _ _ _ _ _ _ _ _ _ _ _ _ _ _ _ _ _ _ _ => v)).symm.trans (K1 Nat (fun v _ _ _ _ _ _ _ _ _ _ _ _ _ _ _ _ _ _ _ _ _ _ _ _ _ _ _ _ _ _ _ _ _ _ _ _ _ _ _ => v))
    have e_zrb : zrb = wsp := (hc Nat (fun _ v _ _ _ _ _ _ _ _ _ _ _ _ _ _ _ _ _ _ _ _ _ _ _ _ _ _ _ _ _ _ _ _ _ _ _ _ _ _ => v)).symm.trans (K1 Nat (fun _ v _ _ _ _ _ _ _ _ _ _ _ _ _ _ _ _ _ _ _ _ _ _ _ _ _ _ _ _ _ _ _ _ _ _ _ _ _ _ => v))
    have e_zx : zx = x1 := (hc Nat (fun _ _ v _ _ _ _ _ _ _ _ _ _ _ _ _ _ _ _ _ _ _ _ _ _ _ _ _ _ _ _ _ _ _ _ _ _ _ _ _ => v)).symm.trans (K1 Nat (fun _ _ v _ _ _ _ _ _ _ _ _ _ _ _ _ _ _ _ _ _ _ _ _ _ _ _ _ _ _ _ _ _ _ _ _ _ _ _ _ => v))
    have e_znu : znu = nu := (hc (Nat → Int32) (fun _ _ _ v _ _ _ _ _ _ _ _ _ _ _ _ _ _ _ _ _ _ _ _ _ _ _ _ _ _ _ _ _ _ _ _ _ _ _ _ => v)).symm.trans (K1 (Nat → Int32) (fun _ _ _ v _ _ _ _ _ _ _ _ _ _ _ _ _ _ _ _ _ _ _ _ _ _ _ _ _ _ _ _ _ _ _ _ _ _ _ _ => v))
    have e_ym1 : ym1 = m1 := (hr Nat (fun v _ _ _ _ _ _ _ _ _ _ _ _ _ _ _ _ _ _ _ _ _ _ _ _ _ _ _ _ _ _ _ _ _ _ _ => v)).symm.trans (K2 Nat (fun v _ _ _ _ _ _ _ _ _ _ _ _ _ _ _ _ _ _ _ _ _ _ _ _ _ _ _ _ _ _ _ _ _ _ _ => v))
    have e_yr0 : yr0 = r0 := (hr (Nat → Int32) (fun _ _ _ _ _ _ _ _ _ _ _ _ _ _ _ _ _ _ v _ _ _ _ _ _ _ _ _ _ _ _ _ _ _ _ _ => v)).symm.trans (K2 (Nat → Int32) (fun _ _ _ _ _ _ _ _ _ _ _ _ _ _ _ _ _ _ v _ _ _ _ _ _ _ _ _ _ _ _ _ _ _ _ _ => v))
    have e_yr11 : yr11 = r11 := (hr (Nat → Int32) (fun _ _ _ _ _ _ _ _ _ _ _ _ _ _ _ _ _ _ _ v _ _ _ _ _ _ _ _ _ _ _ _ _ _ _ _ => v)).symm.trans (K2 (Nat → Int32) (fun _ _ _ _ _ _ _ _ _ _ _ _ _ _ _ _ _ _ _ v _ _ _ _ _ _ _ _ _ _ _ _ _ _ _ _ => v))
    have e_yr12 : yr12 = r12 := (hr (Nat → Int32) (fun _ _ _ _ _ _ _ _ _ _ _ _ _ _ _ _ _ _ _ _ v _ _ _ _ _ _ _ _ _ _ _ _ _ _ _ => v)).symm.trans (K2 (Nat → Int32) (fun _ _ _ _ _ _ _ _ _ _ _ _ _ _ _ _ _ _ _ _ v _ _ _ _ _ _ _ _ _ _ _ _ _ _ _ => v))
    have e_yr13 : yr13 = r13 := (hr (Nat → Int64) (fun _ _ _ _ _ _ _ _ _ _ _ _ _ _ _ _ _ _ _ _ _ v _ _ _ _ _ _ _ _ _ _ _ _ _ _ => v)).symm.trans (K2 (Nat → Int64) (fun _ _ _ _ _ _ _ _ _ _ _ _ _ _ _ _ _ _ _ _ _ v _ _ _ _ _ _ _ _ _ _ _ _ _ _ => v))
    exact ⟨⟨by rw [etp, e6]; rfl, by rw [e6]; exact Nat.zero_le _, fun j hj => absurd (by rw [e6] at hj; exact hj : j < 0) (Nat.not_lt_zero _)⟩, ⟨by rw [esd, e6]; rfl, by rw [e6]; exact Nat.zero_le _, fun j hj => absurd (by rw [e6] at hj; exact hj : j < 0) (Nat.not_lt_zero _)⟩, Or.inr ⟨e_zra, e_zrb, by rw [e_zx, e_znu, e_ym1, e_yr0]; exact hrow0, by rw [e_yr11, e_yr12, e_yr13]; exact hsn0⟩⟩
