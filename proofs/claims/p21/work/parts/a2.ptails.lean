/-! the streams' ends -/
def w4 (w : Int32) (i : Nat) : Int32 := nb (wr4 (fun _ => 0) 0 w) i
def S4 (S : Nat → Int32) (k : Nat) (w : Int32) (j : Nat) : Int32 := if j < k then S j else w4 w (j - k)
theorem AB_wr4 {f S : Nat → Int32} {k : Nat} {w : Int32} (h : AB f k S) : AB (wr4 f k w) (k + 4) (S4 S k w) := by
  intro j hj
  unfold S4
  by_cases e : j < k
  · rw [if_pos e, wr4_out (Or.inl e)]
    exact h j e
  · rw [if_neg e]
    have := wr4_in (f := f) (g := fun _ => 0) (k := k) (j := 0) (i := j - k) (w := w) (by omega)
    rw [show k + (j - k) = j by omega, Nat.zero_add] at this
    exact this
def sB (G : Nat → Int32) (h : Nat) (L : List Nat) (j : Nat) : Int32 := if j < h then G j else pkB L (j - h)
def cl1 (S : Nat → Int32) (k : Nat) : Nat → Int32 := S4 S k (crcS S k ^^^ (-1))
def G2 (w : Int32) (j : Nat) : Int32 := if j = 0 then 67 else w4 w (j - 1)
/-- the two streams -/
def K1 (h : Nat) (L : List Nat) : Nat := h + (L.length + 7) / 8
def st1 (G : Nat → Int32) (h : Nat) (L : List Nat) : Nat → Int32 := cl1 (sB G h L) (K1 h L)
def st2 (G : Nat → Int32) (h : Nat) (L L2 : List Nat) : Nat → Int32 := cl1 (sB (G2 (crcS (sB G h L) (K1 h L) ^^^ (-1))) 5 L2) (K1 5 L2)
theorem AB_sB {f G : Nat → Int32} {h : Nat} {L : List Nat} (h1 : ∀ j, j < h → nb f j = G j) (h2 : ∀ j, j < (L.length + 7) / 8 → nb f (h + j) = pkB L j) : AB f (K1 h L) (sB G h L) := by
  intro j hj
  unfold K1 at hj
  unfold sB
  by_cases e : j < h
  · rw [if_pos e]
    exact h1 j e
  · rw [if_neg e]
    have := h2 (j - h) (by omega)
    rw [show h + (j - h) = j by omega] at this
    exact this
set_option maxHeartbeats 1000000 in
theorem c_tails {h1 : Nat} {G : Nat → Int32} {L1 L2 : List Nat} {o1 u1 t1 o2 u2 t2 : Int32} {f1 f2 : Nat → Int32} (hB1 : BW h1 L1 o1 u1 t1 f1) (hB2 : BW 5 L2 o2 u2 t2 f2) (hG : ∀ j, j < h1 → nb f1 j = G j) (h67 : nb f2 0 = 67) (hk1 : K1 h1 L1 + 4 ≤ 9600) (hk2 : K1 5 L2 + 4 ≤ 2450) : ∃ f1' f2' : Nat → Int32, AB f1' (K1 h1 L1 + 4) (st1 G h1 L1) ∧ AB f2' (K1 5 L2 + 4) (st2 G h1 L1 L2) ∧ ∀ (β : Type) (K : Int32 → (Nat → Int32) → Int32 → (Nat → Int32) → Int32 → Int32 → Int32 → Int32 → β), fn_wk_X4_writeTails t1 f1 t2 f2 o1 u1 o2 u2 β K = K (nI (K1 h1 L1 + 4)) f1' (nI (K1 5 L2 + 4)) f2' 0 0 0 0 := by
  obtain ⟨g1, a1, a2, a3⟩ := c_finish (N := 9600) (by omega) hB1 (by unfold K1 at hk1; omega)
  obtain ⟨g2, b1, b2, b3⟩ := c_finish (N := 2450) (by omega) hB2 (by unfold K1 at hk2; omega)
  rw [show h1 + (L1.length + 7) / 8 = K1 h1 L1 from rfl] at a3
  rw [show 5 + (L2.length + 7) / 8 = K1 5 L2 from rfl] at b3
  have hK5 : 5 ≤ K1 5 L2 := by unfold K1; omega
  have A1 : AB g1 (K1 h1 L1) (sB G h1 L1) := AB_sB (fun j hj => (a1 j hj).trans (hG j hj)) a2
  have ec : crcS (nb g1) (K1 h1 L1) = crcS (sB G h1 L1) (K1 h1 L1) := crcS_congr _ A1
  have A2 : AB (wr4 g2 1 (crcS (sB G h1 L1) (K1 h1 L1) ^^^ (-1))) (K1 5 L2) (sB (G2 (crcS (sB G h1 L1) (K1 h1 L1) ^^^ (-1))) 5 L2) := by
    refine AB_sB (fun j hj => ?_) (fun j hj => ?_)
    · unfold G2
      by_cases e : j = 0
      · rw [if_pos e, e, wr4_out (by omega), b1 0 (by omega), h67]
      · rw [if_neg e]
        have := wr4_in (f := g2) (g := fun _ => 0) (k := 1) (j := 0) (i := j - 1) (w := crcS (sB G h1 L1) (K1 h1 L1) ^^^ (-1)) (by omega)
        rw [show 1 + (j - 1) = j by omega, Nat.zero_add] at this
        exact this
    · rw [wr4_out (by omega)]
      exact b2 j hj
  have ec2 : crcS (nb (wr4 g2 1 (crcS (sB G h1 L1) (K1 h1 L1) ^^^ (-1)))) (K1 5 L2) = crcS (sB (G2 (crcS (sB G h1 L1) (K1 h1 L1) ^^^ (-1))) 5 L2) (K1 5 L2) := crcS_congr _ A2
  refine ⟨_, _, AB_wr4 A1, AB_wr4 A2, fun β K => ?_⟩
  rw [fn_wk_X4_writeTails_s]
  refine (a3 β _).trans ?_
  refine (b3 β _).trans ?_
  rw [c_crc (Nat.le_refl _) (by omega) (by omega), ec, c_addWord (by omega) (by omega)]
  show fn_wk_X2_putWord 2450 (nI (K1 5 L2)) g2 (nI 1) (crcS (sB G h1 L1) (K1 h1 L1) ^^^ (-1)) β _ = _
  rw [c_putWord (by omega) (by omega) (by omega), c_crc (Nat.le_refl _) (by omega) (by omega), ec2, c_addWord (by omega) (by omega)]
theorem r_closes {k : Nat} {tf S : Nat → Int32} (h : AB tf k S) : AB (wr4 tf k (crcS S k ^^^ (-1))) (k + 4) (cl1 S k) ∧ ∀ (β : Type) (K : (Nat → Int32) → β), fn_wr_X11_closes k tf β K = K (wr4 tf k (crcS S k ^^^ (-1))) := by
  refine ⟨AB_wr4 h, fun β K => ?_⟩
  have e : crcS (fun i => nb tf (0 + i)) k = crcS S k := crcS_congr _ (fun j hj => by rw [Nat.zero_add]; exact h j hj)
  rw [fn_wr_X11_closes_s, r_crc, e, r_putInt]
set_option maxHeartbeats 1000000 in
theorem r_ends {n F E m1 m2 : Nat} {fl sh : Int32} {te de T D r7 r8 rf sf : Nat → Int32} {L1 L2 : List Nat} (hn : n ≤ 8) (hTe : ∀ j, j < n → te j = T j) (hDe : ∀ j, j < n → de j = D j) (hR1 : RB L1 m1 rf) (hR2 : RB L2 m2 sf) : ∃ f1 f2 : Nat → Int32, AB f1 (K1 (hdN n E) L1 + 4) (st1 (hdB n fl sh F E T D) (hdN n E) L1) ∧ AB f2 (K1 5 L2 + 4) (st2 (hdB n fl sh F E T D) (hdN n E) L1 L2) ∧ ∀ (β : Type) (K : Nat → (Nat → Int32) → (Nat → Int32) → β), (fn_wr_X11_heads n E sh F fl r7 te de β (fun a at_ => fn_wr_X11_packs m1 at_ rf a β (fun b => fn_wr_X11_closes (at_ + (m1 + 7) / 8) b β (fun c => fnL (nb c ((((at_ + (m1 + 7) / 8) + 4) - 4) + 0)) (fun x0 => fnL (nb c ((((at_ + (m1 + 7) / 8) + 4) - 4) + 1)) (fun x1 => fnL (nb c ((((at_ + (m1 + 7) / 8) + 4) - 4) + 2)) (fun x2 => fnL (nb c ((((at_ + (m1 + 7) / 8) + 4) - 4) + 3)) (fun x3 => fn_wr_X11_packs m2 5 sf (upd (upd (upd (upd (upd r8 0 67) 1 x0) 2 x1) 3 x2) 4 x3) β (fun d => fn_wr_X11_closes (5 + (m2 + 7) / 8) d β (fun e => K at_ c e)))))))))) = K (hdN n E) f1 f2 := by
  obtain ⟨f0, a1, a2⟩ := r_heads (F := F) (E := E) (fl := fl) (sh := sh) (f := r7) hn hTe hDe
  obtain ⟨fa, b1, b2, b3⟩ := r_packs (ao := hdN n E) (f := f0) hR1
  have e1 : m1 = L1.length := hR1.2.1
  have e2 : m2 = L2.length := hR2.2.1
  have A1 : AB fa (K1 (hdN n E) L1) (sB (hdB n fl sh F E T D) (hdN n E) L1) := AB_sB (fun j hj => (b1 j hj).trans (a1 j hj)) b2
  obtain ⟨c1, c2⟩ := r_closes A1
  have wd : ∀ i, i < 4 → nb (wr4 fa (K1 (hdN n E) L1) (crcS (sB (hdB n fl sh F E T D) (hdN n E) L1) (K1 (hdN n E) L1) ^^^ (-1))) (K1 (hdN n E) L1 + i) = w4 (crcS (sB (hdB n fl sh F E T D) (hdN n E) L1) (K1 (hdN n E) L1) ^^^ (-1)) i := fun i hi => by
    have := wr4_in (f := fa) (g := fun _ => 0) (k := K1 (hdN n E) L1) (j := 0) (i := i) (w := crcS (sB (hdB n fl sh F E T D) (hdN n E) L1) (K1 (hdN n E) L1) ^^^ (-1)) hi
    rw [Nat.zero_add] at this
    exact this
  have i8w : ∀ (w : Int32) (i : Nat), Int8.toInt32 (Int32.toInt8 (w4 w i)) = w4 w i := fun w i => nb_nb _ i
  have B5 : AB (upd (upd (upd (upd (upd r8 0 67) 1 (w4 (crcS (sB (hdB n fl sh F E T D) (hdN n E) L1) (K1 (hdN n E) L1) ^^^ (-1)) 0)) 2 (w4 (crcS (sB (hdB n fl sh F E T D) (hdN n E) L1) (K1 (hdN n E) L1) ^^^ (-1)) 1)) 3 (w4 (crcS (sB (hdB n fl sh F E T D) (hdN n E) L1) (K1 (hdN n E) L1) ^^^ (-1)) 2)) 4 (w4 (crcS (sB (hdB n fl sh F E T D) (hdN n E) L1) (K1 (hdN n E) L1) ^^^ (-1)) 3)) 5 (G2 (crcS (sB (hdB n fl sh F E T D) (hdN n E) L1) (K1 (hdN n E) L1) ^^^ (-1))) := by
    generalize crcS (sB (hdB n fl sh F E T D) (hdN n E) L1) (K1 (hdN n E) L1) ^^^ (-1) = w
    exact AB_upd (AB_upd (AB_upd (AB_upd (AB_upd AB_0 (show Int8.toInt32 (Int32.toInt8 67) = 67 by decide)) (i8w w 0)) (i8w w 1)) (i8w w 2)) (i8w w 3)
  obtain ⟨fb, d1, d2, d3⟩ := r_packs (ao := 5) (f := upd (upd (upd (upd (upd r8 0 67) 1 (w4 (crcS (sB (hdB n fl sh F E T D) (hdN n E) L1) (K1 (hdN n E) L1) ^^^ (-1)) 0)) 2 (w4 (crcS (sB (hdB n fl sh F E T D) (hdN n E) L1) (K1 (hdN n E) L1) ^^^ (-1)) 1)) 3 (w4 (crcS (sB (hdB n fl sh F E T D) (hdN n E) L1) (K1 (hdN n E) L1) ^^^ (-1)) 2)) 4 (w4 (crcS (sB (hdB n fl sh F E T D) (hdN n E) L1) (K1 (hdN n E) L1) ^^^ (-1)) 3)) hR2
  have A2 : AB fb (K1 5 L2) (sB (G2 (crcS (sB (hdB n fl sh F E T D) (hdN n E) L1) (K1 (hdN n E) L1) ^^^ (-1))) 5 L2) := AB_sB (fun j hj => (d1 j hj).trans (B5 j hj)) d2
  obtain ⟨g1, g2⟩ := r_closes A2
  refine ⟨_, _, c1, g1, fun β K => ?_⟩
  refine (a2 β _).trans ?_
  refine (b3 β _).trans ?_
  rw [e1, e2, show hdN n E + (L1.length + 7) / 8 = K1 (hdN n E) L1 from rfl, show 5 + (L2.length + 7) / 8 = K1 5 L2 from rfl]
  refine (c2 β _).trans ?_
  rw [fnL_b, fnL_b, fnL_b, fnL_b, show K1 (hdN n E) L1 + 4 - 4 = K1 (hdN n E) L1 by omega, wd 0 (by omega), wd 1 (by omega), wd 2 (by omega), wd 3 (by omega), ← e2]
  refine (d3 β _).trans ?_
  exact g2 β _
