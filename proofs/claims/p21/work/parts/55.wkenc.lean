abbrev MX4_isStill : g_M := (yX4_isStill, cX4_isStill, 4, (some .boolean))
theorem dX4_isStill_0 : decode cX4_isStill 0 = .ok (.iconst 0, 1) := by decide +kernel
theorem dX4_isStill_1 : decode cX4_isStill 1 = .ok (.istore_n 3, 1) := by decide +kernel
theorem dX4_isStill_2 : decode cX4_isStill 2 = .ok (.iload_n 3, 1) := by decide +kernel
theorem dX4_isStill_3 : decode cX4_isStill 3 = .ok (.aload_n 1, 1) := by decide +kernel
theorem dX4_isStill_4 : decode cX4_isStill 4 = .ok (.getfield 127, 3) := by decide +kernel
theorem w_fl_X4_127 : Cond.fieldLink RX4 127 (TX9 3).1 (TX9 3).2.1 (TX9 3).2.2.1 ∈ g_tbl := g_tbl_in 320 (by decide +kernel) (by decide +kernel)
theorem fl_X4_127 : FL RX4 127 9 3 := ⟨RX9, TX9, 12, rfl, by decide, inX_X9, w_fl_X4_127⟩
theorem dX4_isStill_7 : decode cX4_isStill 7 = .ok (.if_icmp .ge 29, 3) := by decide +kernel
theorem dX4_isStill_10 : decode cX4_isStill 10 = .ok (.aload_n 0, 1) := by decide +kernel
theorem dX4_isStill_11 : decode cX4_isStill 11 = .ok (.getfield 18, 3) := by decide +kernel
theorem dX4_isStill_14 : decode cX4_isStill 14 = .ok (.iload_n 2, 1) := by decide +kernel
theorem dX4_isStill_15 : decode cX4_isStill 15 = .ok (.aload_n 1, 1) := by decide +kernel
theorem dX4_isStill_16 : decode cX4_isStill 16 = .ok (.getfield 127, 3) := by decide +kernel
theorem dX4_isStill_19 : decode cX4_isStill 19 = .ok (.imul, 1) := by decide +kernel
theorem dX4_isStill_20 : decode cX4_isStill 20 = .ok (.iload_n 3, 1) := by decide +kernel
theorem dX4_isStill_21 : decode cX4_isStill 21 = .ok (.iadd, 1) := by decide +kernel
theorem dX4_isStill_22 : decode cX4_isStill 22 = .ok (.invokevirtual 149, 3) := by decide +kernel
theorem w_ml_X4_149 : Cond.methodLink RX4 149 yX8_restAt ∈ g_tbl := g_tbl_in 570 (by decide +kernel) (by decide +kernel)
theorem w_cd_X8_restAt : g_cw MX8_restAt ∈ g_tbl := g_tbl_in 573 (by decide +kernel) (by decide +kernel)
theorem cl_X4_149 : CL RX4 149 1 MX8_restAt := ⟨w_ml_X4_149, w_cd_X8_restAt, w_ini_X8, by decide +kernel, by decide +kernel, by decide +kernel⟩
theorem w_im_X8_restAt : Cond.instanceMethod yX8_restAt ∈ g_tbl := g_tbl_in 571 (by decide +kernel) (by decide +kernel)
theorem w_se_X8_restAt : Cond.selects RX8 yX8_restAt yX8_restAt ∈ g_tbl := g_tbl_in 572 (by decide +kernel) (by decide +kernel)
theorem dX4_isStill_25 : decode cX4_isStill 25 = .ok (.ifCond .eq 5, 3) := by decide +kernel
theorem dX4_isStill_30 : decode cX4_isStill 30 = .ok (.iinc 3 1, 3) := by decide +kernel
theorem dX4_isStill_33 : decode cX4_isStill 33 = .ok (.goto (-31), 3) := by decide +kernel
theorem dX4_isStill_28 : decode cX4_isStill 28 = .ok (.iconst 0, 1) := by decide +kernel
theorem dX4_isStill_29 : decode cX4_isStill 29 = .ok (.ireturn, 1) := by decide +kernel
set_option maxRecDepth 100000 in
def lf_wk_X4_isStill_2 (sr_f : Nat → Int32) (w_3 : Nat) (β : Type) (kx_ : Int32 → Int32 → β) (k_ : Int32 → β) : Nat → Int32 → Int32 → β
  | 0, l2, l3 => kx_ l2 l3
  | fuel + 1, l2, l3 => (if nI w_3 ≤ l3 then (kx_ l2 l3) else (fn_wk_X8_restAt sr_f ((l2 * nI w_3) + l3) β (fun zr_456 => (if zr_456 = 0 then (lf_wk_X4_isStill_2 sr_f w_3 β kx_ k_ fuel l2 (l3 + 1)) else (k_ 0)))))
set_option maxRecDepth 100000 in
theorem lf_wk_X4_isStill_2_s {sr_f : Nat → Int32} {w_3 : Nat} {β : Type} {kx_ : Int32 → Int32 → β} {k_ : Int32 → β} {fuel : Nat} {l2 : Int32} {l3 : Int32} : lf_wk_X4_isStill_2 sr_f w_3 β kx_ k_ (fuel + 1) l2 l3 = (if nI w_3 ≤ l3 then (kx_ l2 l3) else (fn_wk_X8_restAt sr_f ((l2 * nI w_3) + l3) β (fun zr_456 => (if zr_456 = 0 then (lf_wk_X4_isStill_2 sr_f w_3 β kx_ k_ fuel l2 (l3 + 1)) else (k_ 0))))) := rfl
set_option maxRecDepth 100000 in
set_option maxHeartbeats 4000000 in
theorem lp_wk_X4_isStill_2 (E : g_E) (e : Nat) (fi : Nat) (se : Nat) (b1 : Nat) (b2 : Nat) (sh : Nat) (sv : Nat) (sr : Nat) (sl : Nat) (sp : Nat) (w : Nat) (ps : Nat) (md : Nat) (sr_f : Nat → Int32) (w_2 : Nat) (w_3 : Nat) (w_4 : Nat) (w_5 : Int32) (w_6 : Int32) (w_7 : Int32) (w_8 : Int32) (w_9 : Int32) (w_10 : Int32) (w_11 : Int32) (hk0 : w_2 ≤ 2) (hk1 : w_3 ≤ 2) (hk2 : w_4 ≤ 600) {X : g_X} {rr : (β : Type) → (Int32 → β) → β} (kx_ : (β : Type) → (Int32 → β) → Int32 → Int32 → β) (B : Bd E X cX4_isStill RX4 4 2 42 0 0) (hr : Rt E X (some .boolean) 0 0 (fun v_ w_ => ∃ zr : Int32, (zr = 0 ∨ zr = 1) ∧ (∀ (β : Type) (k_ : Int32 → β), rr β k_ = k_ zr) ∧ v_ = some (.int zr) ∧ w_ = [(e, .inr (4, [.ref fi, .ref se, .ref b1, .ref b2, .ref sh])), (sh, .inr (8, [.ref sv, .ref sr, .ref sl, .ref sp])), (sr, .inl (E.2.2.1 0, 1200, .inl sr_f)), (w, .inr (9, [.ref ps, .ref md, .int (nI w_2), .int (nI w_3), .int (nI w_4), .int w_5, .int w_6, .int w_7, .int w_8, .int w_9, .int w_10, .int w_11]))])) (K : ∀ (l2 : Int32) (l3 : Int32), (∀ (β : Type) (k_ : Int32 → β), rr β k_ = kx_ β k_ l2 l3) → G E X 4 [(e, .inr (4, [.ref fi, .ref se, .ref b1, .ref b2, .ref sh])), (sh, .inr (8, [.ref sv, .ref sr, .ref sl, .ref sp])), (sr, .inl (E.2.2.1 0, 1200, .inl sr_f)), (w, .inr (9, [.ref ps, .ref md, .int (nI w_2), .int (nI w_3), .int (nI w_4), .int w_5, .int w_6, .int w_7, .int w_8, .int w_9, .int w_10, .int w_11]))] 0 0 [(0, .ref e), (1, .ref w), (2, .int l2), (3, .int l3)] 36 []) : ∀ (n : Nat) (l2 : Int32) (l3 : Int32), (Int32.toInt (nI w_3) - Int32.toInt l3).toNat < n → (∀ (β : Type) (k_ : Int32 → β), rr β k_ = lf_wk_X4_isStill_2 sr_f w_3 β (kx_ β k_) k_ n l2 l3) → G E X 4 [(e, .inr (4, [.ref fi, .ref se, .ref b1, .ref b2, .ref sh])), (sh, .inr (8, [.ref sv, .ref sr, .ref sl, .ref sp])), (sr, .inl (E.2.2.1 0, 1200, .inl sr_f)), (w, .inr (9, [.ref ps, .ref md, .int (nI w_2), .int (nI w_3), .int (nI w_4), .int w_5, .int w_6, .int w_7, .int w_8, .int w_9, .int w_10, .int w_11]))] 0 0 [(0, .ref e), (1, .ref w), (2, .int l2), (3, .int l3)] 2 [] := by
  intro n
  induction n with
  | zero => intro l2 l3 h _; exact absurd h (Nat.not_lt_zero _)
  | succ n ih =>
    intro l2 l3 hm e_
    replace e_ := fun β k_ => (e_ β k_).trans lf_wk_X4_isStill_2_s
    refine g_iload_n B dX4_isStill_2 rfl 3 rfl ?_
    refine g_aload_n B dX4_isStill_3 rfl 1 rfl ?_
    refine g_get B 3 3 fl_X4_127 rfl rfl dX4_isStill_4 ?_
    refine g_icmp_ge (tgt := 36) B dX4_isStill_7 (by decide) (fun c7_455 => ?_) (fun c7_455 => ?_)
    · replace e_ := fun β k_ => (e_ β k_).trans (if_pos c7_455)
      exact K l2 l3 e_
    · replace e_ := fun β k_ => (e_ β k_).trans (if_neg c7_455)
      refine g_aload_n B dX4_isStill_10 rfl 0 rfl ?_
      refine g_get B 0 4 fl_X4_18 rfl rfl dX4_isStill_11 ?_
      refine g_iload_n B dX4_isStill_14 rfl 2 rfl ?_
      refine g_aload_n B dX4_isStill_15 rfl 1 rfl ?_
      refine g_get B 3 3 fl_X4_127 rfl rfl dX4_isStill_16 ?_
      refine g_imul B dX4_isStill_19 ?_
      refine g_iload_n B dX4_isStill_20 rfl 3 rfl ?_
      refine g_iadd B dX4_isStill_21 ?_
      refine g_callV (st := []) (As := [.int ((l2 * nI w_3) + l3)]) (wr := [(e, .inr (4, [.ref fi, .ref se, .ref b1, .ref b2, .ref sh])), (w, .inr (9, [.ref ps, .ref md, .int (nI w_2), .int (nI w_3), .int (nI w_4), .int w_5, .int w_6, .int w_7, .int w_8, .int w_9, .int w_10, .int w_11]))]) (nc' := 0) (ns' := 0) B cl_X4_149 w_im_X8_restAt w_se_X8_restAt (wk_X8_restAt E sh sv sr sl sp sr_f ((l2 * nI w_3) + l3) ) rfl [1, 2] [0, 3] rfl rfl (by decide) (by decide) (by decide) 0 rfl (fun q h => by cases h; rfl) rfl ⟨by decide, by decide⟩ rfl rfl (by decide) (by decide) rfl (Nat.le_of_ble_eq_true rfl) dX4_isStill_22 (fun v w hq => ?_)
      obtain ⟨zr_456, hz_457, rfl, rfl⟩ := hq
      replace e_ := fun β k_ => (e_ β k_).trans (hz_457 β _)
      show G E X 4 [(e, .inr (4, [.ref fi, .ref se, .ref b1, .ref b2, .ref sh])), (w, .inr (9, [.ref ps, .ref md, .int (nI w_2), .int (nI w_3), .int (nI w_4), .int w_5, .int w_6, .int w_7, .int w_8, .int w_9, .int w_10, .int w_11])), (sh, .inr (8, [.ref sv, .ref sr, .ref sl, .ref sp])), (sr, .inl (E.2.2.1 0, 1200, .inl sr_f))] 0 0 [(0, .ref e), (1, .ref w), (2, .int l2), (3, .int l3)] 25 [.int zr_456]
      refine g_if_eq (tgt := 30) B dX4_isStill_25 (by decide) (fun c25_458 => ?_) (fun c25_458 => ?_)
      · replace e_ := fun β k_ => (e_ β k_).trans (if_pos c25_458)
        refine g_iinc (v := (l3 + 1)) (lv' := [(3, .int (l3 + 1)), (0, .ref e), (1, .ref w), (2, .int l2)]) B dX4_isStill_30 3 rfl rfl (by decide) rfl ?_
        refine g_goto (tgt := 2) B dX4_isStill_33 (by decide) ?_
        refine g_sub (ws' := [(e, .inr (4, [.ref fi, .ref se, .ref b1, .ref b2, .ref sh])), (sh, .inr (8, [.ref sv, .ref sr, .ref sl, .ref sp])), (sr, .inl (E.2.2.1 0, 1200, .inl sr_f)), (w, .inr (9, [.ref ps, .ref md, .int (nI w_2), .int (nI w_3), .int (nI w_4), .int w_5, .int w_6, .int w_7, .int w_8, .int w_9, .int w_10, .int w_11]))]) [0, 2, 3, 1] (by decide) rfl ?_
        refine g_lvsub (lv' := [(0, .ref e), (1, .ref w), (2, .int l2), (3, .int (l3 + 1))]) [1, 2, 3, 0] rfl ?_
        exact ih l2 (l3 + 1)  (Nat.lt_of_lt_of_le (st_up (o_2 c7_455)) (Nat.le_of_lt_succ hm)) e_
      · replace e_ := fun β k_ => (e_ β k_).trans (if_neg c25_458)
        refine g_iconst (v := 0) B dX4_isStill_28 (by decide) ?_
        refine g_sub (ws' := [(e, .inr (4, [.ref fi, .ref se, .ref b1, .ref b2, .ref sh])), (sh, .inr (8, [.ref sv, .ref sr, .ref sl, .ref sp])), (sr, .inl (E.2.2.1 0, 1200, .inl sr_f)), (w, .inr (9, [.ref ps, .ref md, .int (nI w_2), .int (nI w_3), .int (nI w_4), .int w_5, .int w_6, .int w_7, .int w_8, .int w_9, .int w_10, .int w_11]))]) [0, 2, 3, 1] (by decide) rfl ?_
        exact g_zret B hr (by decide) dX4_isStill_29 (by decide) (by decide) ⟨0, (Or.inl rfl), e_, rfl, rfl⟩
theorem dX4_isStill_36 : decode cX4_isStill 36 = .ok (.iconst 1, 1) := by decide +kernel
theorem dX4_isStill_37 : decode cX4_isStill 37 = .ok (.ireturn, 1) := by decide +kernel
set_option maxRecDepth 100000 in
def fn_wk_X4_isStill (sr_f : Nat → Int32) (w_3 : Nat) (fr_ : Int32) (β : Type) (k_ : Int32 → β) : β := (lf_wk_X4_isStill_2 sr_f w_3 β (fun y_459l2 y_459l3 => (k_ 1)) k_ ((Int32.toInt (nI w_3) - Int32.toInt 0).toNat + 1) fr_ 0)
set_option maxRecDepth 100000 in
theorem fn_wk_X4_isStill_s {sr_f : Nat → Int32} {w_3 : Nat} {fr_ : Int32} {β : Type} {k_ : Int32 → β} : fn_wk_X4_isStill sr_f w_3 fr_ β k_ = (lf_wk_X4_isStill_2 sr_f w_3 β (fun y_459l2 y_459l3 => (k_ 1)) k_ ((Int32.toInt (nI w_3) - Int32.toInt 0).toNat + 1) fr_ 0) := rfl
set_option maxRecDepth 100000 in
set_option maxHeartbeats 4000000 in
theorem wk_X4_isStill (E : g_E) (e : Nat) (fi : Nat) (se : Nat) (b1 : Nat) (b2 : Nat) (sh : Nat) (sv : Nat) (sr : Nat) (sl : Nat) (sp : Nat) (w : Nat) (ps : Nat) (md : Nat) (sr_f : Nat → Int32) (w_2 : Nat) (w_3 : Nat) (w_4 : Nat) (w_5 : Int32) (w_6 : Int32) (w_7 : Int32) (w_8 : Int32) (w_9 : Int32) (w_10 : Int32) (w_11 : Int32) (fr_ : Int32) (hk0 : w_2 ≤ 2) (hk1 : w_3 ≤ 2) (hk2 : w_4 ≤ 600) : Ev E MX4_isStill 2 42 0 0 [.ref e, .ref w, .int fr_] [(e, .inr (4, [.ref fi, .ref se, .ref b1, .ref b2, .ref sh])), (sh, .inr (8, [.ref sv, .ref sr, .ref sl, .ref sp])), (sr, .inl (E.2.2.1 0, 1200, .inl sr_f)), (w, .inr (9, [.ref ps, .ref md, .int (nI w_2), .int (nI w_3), .int (nI w_4), .int w_5, .int w_6, .int w_7, .int w_8, .int w_9, .int w_10, .int w_11]))] (fun v_ w_ => ∃ zr : Int32, (zr = 0 ∨ zr = 1) ∧ (∀ (β : Type) (k_ : Int32 → β), fn_wk_X4_isStill sr_f w_3 fr_ β k_ = k_ zr) ∧ v_ = some (.int zr) ∧ w_ = [(e, .inr (4, [.ref fi, .ref se, .ref b1, .ref b2, .ref sh])), (sh, .inr (8, [.ref sv, .ref sr, .ref sl, .ref sp])), (sr, .inl (E.2.2.1 0, 1200, .inl sr_f)), (w, .inr (9, [.ref ps, .ref md, .int (nI w_2), .int (nI w_3), .int (nI w_4), .int w_5, .int w_6, .int w_7, .int w_8, .int w_9, .int w_10, .int w_11]))]) := by
  refine Ev.intro (by decide) (Nat.le_of_ble_eq_true rfl) ?_
  intro X B hr hI
  have B : Bd E X cX4_isStill RX4 4 2 42 0 0 := B
  have hr : Rt E X (some .boolean) 0 0 (fun v_ w_ => ∃ zr : Int32, (zr = 0 ∨ zr = 1) ∧ (∀ (β : Type) (k_ : Int32 → β), fn_wk_X4_isStill sr_f w_3 fr_ β k_ = k_ zr) ∧ v_ = some (.int zr) ∧ w_ = [(e, .inr (4, [.ref fi, .ref se, .ref b1, .ref b2, .ref sh])), (sh, .inr (8, [.ref sv, .ref sr, .ref sl, .ref sp])), (sr, .inl (E.2.2.1 0, 1200, .inl sr_f)), (w, .inr (9, [.ref ps, .ref md, .int (nI w_2), .int (nI w_3), .int (nI w_4), .int w_5, .int w_6, .int w_7, .int w_8, .int w_9, .int w_10, .int w_11]))]) := hr
  have e_ := fun (β : Type) (k_ : Int32 → β) => fn_wk_X4_isStill_s (β := β) (k_ := k_) (sr_f := sr_f) (w_3 := w_3) (fr_ := fr_)
  show G E X 4 [(e, .inr (4, [.ref fi, .ref se, .ref b1, .ref b2, .ref sh])), (sh, .inr (8, [.ref sv, .ref sr, .ref sl, .ref sp])), (sr, .inl (E.2.2.1 0, 1200, .inl sr_f)), (w, .inr (9, [.ref ps, .ref md, .int (nI w_2), .int (nI w_3), .int (nI w_4), .int w_5, .int w_6, .int w_7, .int w_8, .int w_9, .int w_10, .int w_11]))] 0 0 [(0, .ref e), (1, .ref w), (2, .int fr_)] 0 []
  refine g_iconst (v := 0) B dX4_isStill_0 (by decide) ?_
  refine g_istore_n (lv' := [(3, .int 0), (0, .ref e), (1, .ref w), (2, .int fr_)]) B dX4_isStill_1 rfl (by decide) rfl ?_
  refine g_lvsub (lv' := [(0, .ref e), (1, .ref w), (2, .int fr_), (3, .int 0)]) [1, 2, 3, 0] rfl ?_
  refine lp_wk_X4_isStill_2 E e fi se b1 b2 sh sv sr sl sp w ps md sr_f w_2 w_3 w_4 w_5 w_6 w_7 w_8 w_9 w_10 w_11 hk0 hk1 hk2 _ B hr (fun y_459l2 y_459l3 e_ => ?_) _ fr_ 0  (Nat.lt_succ_self _) e_
  refine g_iconst (v := 1) B dX4_isStill_36 (by decide) ?_
  exact g_zret B hr (by decide) dX4_isStill_37 (by decide) (by decide) ⟨1, (Or.inr rfl), e_, rfl, rfl⟩
abbrev MX4_stillFrames : g_M := (yX4_stillFrames, cX4_stillFrames, 4, (some .int))
theorem dX4_stillFrames_0 : decode cX4_stillFrames 0 = .ok (.iconst 0, 1) := by decide +kernel
theorem dX4_stillFrames_1 : decode cX4_stillFrames 1 = .ok (.istore_n 3, 1) := by decide +kernel
theorem dX4_stillFrames_2 : decode cX4_stillFrames 2 = .ok (.iload_n 2, 1) := by decide +kernel
theorem dX4_stillFrames_3 : decode cX4_stillFrames 3 = .ok (.iload_n 3, 1) := by decide +kernel
theorem dX4_stillFrames_4 : decode cX4_stillFrames 4 = .ok (.iadd, 1) := by decide +kernel
theorem dX4_stillFrames_5 : decode cX4_stillFrames 5 = .ok (.aload_n 1, 1) := by decide +kernel
theorem dX4_stillFrames_6 : decode cX4_stillFrames 6 = .ok (.getfield 47, 3) := by decide +kernel
theorem w_fl_X4_47 : Cond.fieldLink RX4 47 (TX9 4).1 (TX9 4).2.1 (TX9 4).2.2.1 ∈ g_tbl := g_tbl_in 325 (by decide +kernel) (by decide +kernel)
theorem fl_X4_47 : FL RX4 47 9 4 := ⟨RX9, TX9, 12, rfl, by decide, inX_X9, w_fl_X4_47⟩
theorem dX4_stillFrames_9 : decode cX4_stillFrames 9 = .ok (.if_icmp .ge 20, 3) := by decide +kernel
theorem dX4_stillFrames_12 : decode cX4_stillFrames 12 = .ok (.aload_n 0, 1) := by decide +kernel
theorem dX4_stillFrames_13 : decode cX4_stillFrames 13 = .ok (.aload_n 1, 1) := by decide +kernel
theorem dX4_stillFrames_14 : decode cX4_stillFrames 14 = .ok (.iload_n 2, 1) := by decide +kernel
theorem dX4_stillFrames_15 : decode cX4_stillFrames 15 = .ok (.iload_n 3, 1) := by decide +kernel
theorem dX4_stillFrames_16 : decode cX4_stillFrames 16 = .ok (.iadd, 1) := by decide +kernel
theorem dX4_stillFrames_17 : decode cX4_stillFrames 17 = .ok (.invokevirtual 145, 3) := by decide +kernel
theorem w_ml_X4_145 : Cond.methodLink RX4 145 yX4_isStill ∈ g_tbl := g_tbl_in 566 (by decide +kernel) (by decide +kernel)
theorem w_cd_X4_isStill : g_cw MX4_isStill ∈ g_tbl := g_tbl_in 569 (by decide +kernel) (by decide +kernel)
theorem cl_X4_145 : CL RX4 145 2 MX4_isStill := ⟨w_ml_X4_145, w_cd_X4_isStill, w_ini_X4, by decide +kernel, by decide +kernel, by decide +kernel⟩
theorem w_im_X4_isStill : Cond.instanceMethod yX4_isStill ∈ g_tbl := g_tbl_in 568 (by decide +kernel) (by decide +kernel)
theorem w_se_X4_isStill : Cond.selects RX4 yX4_isStill yX4_isStill ∈ g_tbl := g_tbl_in 10 (by decide +kernel) (by decide +kernel)
theorem dX4_stillFrames_20 : decode cX4_stillFrames 20 = .ok (.ifCond .eq 9, 3) := by decide +kernel
theorem dX4_stillFrames_23 : decode cX4_stillFrames 23 = .ok (.iinc 3 1, 3) := by decide +kernel
theorem dX4_stillFrames_26 : decode cX4_stillFrames 26 = .ok (.goto (-24), 3) := by decide +kernel
set_option maxRecDepth 100000 in
def lf_wk_X4_stillFrames_2 (sr_f : Nat → Int32) (w_3 : Nat) (w_4 : Nat) (β : Type) (kx_ : Int32 → Int32 → β)  : Nat → Int32 → Int32 → β
  | 0, l2, l3 => kx_ l2 l3
  | fuel + 1, l2, l3 => (if nI w_4 ≤ (l2 + l3) then (kx_ l2 l3) else (fn_wk_X4_isStill sr_f w_3 (l2 + l3) β (fun zr_461 => (if zr_461 = 0 then (kx_ l2 l3) else (lf_wk_X4_stillFrames_2 sr_f w_3 w_4 β kx_ fuel l2 (l3 + 1))))))
set_option maxRecDepth 100000 in
theorem lf_wk_X4_stillFrames_2_s {sr_f : Nat → Int32} {w_3 : Nat} {w_4 : Nat} {β : Type} {kx_ : Int32 → Int32 → β}  {fuel : Nat} {l2 : Int32} {l3 : Int32} : lf_wk_X4_stillFrames_2 sr_f w_3 w_4 β kx_  (fuel + 1) l2 l3 = (if nI w_4 ≤ (l2 + l3) then (kx_ l2 l3) else (fn_wk_X4_isStill sr_f w_3 (l2 + l3) β (fun zr_461 => (if zr_461 = 0 then (kx_ l2 l3) else (lf_wk_X4_stillFrames_2 sr_f w_3 w_4 β kx_ fuel l2 (l3 + 1)))))) := rfl
set_option maxRecDepth 100000 in
set_option maxHeartbeats 4000000 in
theorem lp_wk_X4_stillFrames_2 (E : g_E) (e : Nat) (fi : Nat) (se : Nat) (b1 : Nat) (b2 : Nat) (sh : Nat) (sv : Nat) (sr : Nat) (sl : Nat) (sp : Nat) (w : Nat) (ps : Nat) (md : Nat) (sr_f : Nat → Int32) (w_2 : Nat) (w_3 : Nat) (w_4 : Nat) (w_5 : Int32) (w_6 : Int32) (w_7 : Int32) (w_8 : Int32) (w_9 : Int32) (w_10 : Int32) (w_11 : Int32) (hk0 : w_2 ≤ 2) (hk1 : w_3 ≤ 2) (hk2 : w_4 ≤ 600) {X : g_X} {rr : (β : Type) → (Int32 → β) → β} (kx_ : (β : Type) → (Int32 → β) → Int32 → Int32 → β) (B : Bd E X cX4_stillFrames RX4 4 3 65 0 0) (hr : Rt E X (some .int) 0 0 (fun v_ w_ => ∃ zr : Int32, (∀ (β : Type) (k_ : Int32 → β), rr β k_ = k_ zr) ∧ v_ = some (.int zr) ∧ w_ = [(e, .inr (4, [.ref fi, .ref se, .ref b1, .ref b2, .ref sh])), (sh, .inr (8, [.ref sv, .ref sr, .ref sl, .ref sp])), (sr, .inl (E.2.2.1 0, 1200, .inl sr_f)), (w, .inr (9, [.ref ps, .ref md, .int (nI w_2), .int (nI w_3), .int (nI w_4), .int w_5, .int w_6, .int w_7, .int w_8, .int w_9, .int w_10, .int w_11]))])) (K : ∀ (l2 : Int32) (l3 : Int32), (∀ (β : Type) (k_ : Int32 → β), rr β k_ = kx_ β k_ l2 l3) → G E X 4 [(e, .inr (4, [.ref fi, .ref se, .ref b1, .ref b2, .ref sh])), (sh, .inr (8, [.ref sv, .ref sr, .ref sl, .ref sp])), (sr, .inl (E.2.2.1 0, 1200, .inl sr_f)), (w, .inr (9, [.ref ps, .ref md, .int (nI w_2), .int (nI w_3), .int (nI w_4), .int w_5, .int w_6, .int w_7, .int w_8, .int w_9, .int w_10, .int w_11]))] 0 0 [(0, .ref e), (1, .ref w), (2, .int l2), (3, .int l3)] 29 []) : ∀ (n : Nat) (l2 : Int32) (l3 : Int32), (Int32.toInt (nI w_4) - Int32.toInt (l2 + l3)).toNat < n → (∀ (β : Type) (k_ : Int32 → β), rr β k_ = lf_wk_X4_stillFrames_2 sr_f w_3 w_4 β (kx_ β k_) n l2 l3) → G E X 4 [(e, .inr (4, [.ref fi, .ref se, .ref b1, .ref b2, .ref sh])), (sh, .inr (8, [.ref sv, .ref sr, .ref sl, .ref sp])), (sr, .inl (E.2.2.1 0, 1200, .inl sr_f)), (w, .inr (9, [.ref ps, .ref md, .int (nI w_2), .int (nI w_3), .int (nI w_4), .int w_5, .int w_6, .int w_7, .int w_8, .int w_9, .int w_10, .int w_11]))] 0 0 [(0, .ref e), (1, .ref w), (2, .int l2), (3, .int l3)] 2 [] := by
  intro n
  induction n with
  | zero => intro l2 l3 h _; exact absurd h (Nat.not_lt_zero _)
  | succ n ih =>
    intro l2 l3 hm e_
    replace e_ := fun β k_ => (e_ β k_).trans lf_wk_X4_stillFrames_2_s
    refine g_iload_n B dX4_stillFrames_2 rfl 2 rfl ?_
    refine g_iload_n B dX4_stillFrames_3 rfl 3 rfl ?_
    refine g_iadd B dX4_stillFrames_4 ?_
    refine g_aload_n B dX4_stillFrames_5 rfl 1 rfl ?_
    refine g_get B 3 4 fl_X4_47 rfl rfl dX4_stillFrames_6 ?_
    refine g_icmp_ge (tgt := 29) B dX4_stillFrames_9 (by decide) (fun c9_460 => ?_) (fun c9_460 => ?_)
    · replace e_ := fun β k_ => (e_ β k_).trans (if_pos c9_460)
      exact K l2 l3 e_
    · replace e_ := fun β k_ => (e_ β k_).trans (if_neg c9_460)
      refine g_aload_n B dX4_stillFrames_12 rfl 0 rfl ?_
      refine g_aload_n B dX4_stillFrames_13 rfl 1 rfl ?_
      refine g_iload_n B dX4_stillFrames_14 rfl 2 rfl ?_
      refine g_iload_n B dX4_stillFrames_15 rfl 3 rfl ?_
      refine g_iadd B dX4_stillFrames_16 ?_
      refine g_callV (st := []) (As := [.ref w, .int (l2 + l3)]) (wr := []) (nc' := 0) (ns' := 0) B cl_X4_145 w_im_X4_isStill w_se_X4_isStill (wk_X4_isStill E e fi se b1 b2 sh sv sr sl sp w ps md sr_f w_2 w_3 w_4 w_5 w_6 w_7 w_8 w_9 w_10 w_11 (l2 + l3) (by first | assumption | omega | decide) (by first | assumption | omega | decide) (by first | assumption | omega | decide)) rfl [0, 1, 2, 3] [] rfl rfl (by decide) (by decide) (by decide) 0 rfl (fun q h => by cases h; rfl) rfl ⟨by decide, by decide⟩ rfl rfl (by decide) (by decide) rfl (Nat.le_of_ble_eq_true rfl) dX4_stillFrames_17 (fun v w hq => ?_)
      obtain ⟨zr_461, hf_462, hz_463, rfl, rfl⟩ := hq
      replace e_ := fun β k_ => (e_ β k_).trans (hz_463 β _)
      show G E X 4 [(e, .inr (4, [.ref fi, .ref se, .ref b1, .ref b2, .ref sh])), (sh, .inr (8, [.ref sv, .ref sr, .ref sl, .ref sp])), (sr, .inl (E.2.2.1 0, 1200, .inl sr_f)), (w, .inr (9, [.ref ps, .ref md, .int (nI w_2), .int (nI w_3), .int (nI w_4), .int w_5, .int w_6, .int w_7, .int w_8, .int w_9, .int w_10, .int w_11]))] 0 0 [(0, .ref e), (1, .ref w), (2, .int l2), (3, .int l3)] 20 [.int zr_461]
      refine g_if_eq (tgt := 29) B dX4_stillFrames_20 (by decide) (fun c20_464 => ?_) (fun c20_464 => ?_)
      · replace e_ := fun β k_ => (e_ β k_).trans (if_pos c20_464)
        exact K l2 l3 e_
      · replace e_ := fun β k_ => (e_ β k_).trans (if_neg c20_464)
        refine g_iinc (v := (l3 + 1)) (lv' := [(3, .int (l3 + 1)), (0, .ref e), (1, .ref w), (2, .int l2)]) B dX4_stillFrames_23 3 rfl rfl (by decide) rfl ?_
        refine g_goto (tgt := 2) B dX4_stillFrames_26 (by decide) ?_
        refine g_lvsub (lv' := [(0, .ref e), (1, .ref w), (2, .int l2), (3, .int (l3 + 1))]) [1, 2, 3, 0] rfl ?_
        exact ih l2 (l3 + 1)  (by rw [← Int32.add_assoc]; exact Nat.lt_of_lt_of_le (st_up (o_2 c9_460)) (Nat.le_of_lt_succ hm)) e_
theorem dX4_stillFrames_29 : decode cX4_stillFrames 29 = .ok (.iload_n 3, 1) := by decide +kernel
theorem dX4_stillFrames_30 : decode cX4_stillFrames 30 = .ok (.ireturn, 1) := by decide +kernel
set_option maxRecDepth 100000 in
def fn_wk_X4_stillFrames (sr_f : Nat → Int32) (w_3 : Nat) (w_4 : Nat) (fr_ : Int32) (β : Type) (k_ : Int32 → β) : β := (lf_wk_X4_stillFrames_2 sr_f w_3 w_4 β (fun y_465l2 y_465l3 => (k_ y_465l3)) ((Int32.toInt (nI w_4) - Int32.toInt (fr_ + 0)).toNat + 1) fr_ 0)
set_option maxRecDepth 100000 in
theorem fn_wk_X4_stillFrames_s {sr_f : Nat → Int32} {w_3 : Nat} {w_4 : Nat} {fr_ : Int32} {β : Type} {k_ : Int32 → β} : fn_wk_X4_stillFrames sr_f w_3 w_4 fr_ β k_ = (lf_wk_X4_stillFrames_2 sr_f w_3 w_4 β (fun y_465l2 y_465l3 => (k_ y_465l3)) ((Int32.toInt (nI w_4) - Int32.toInt (fr_ + 0)).toNat + 1) fr_ 0) := rfl
set_option maxRecDepth 100000 in
set_option maxHeartbeats 4000000 in
theorem wk_X4_stillFrames (E : g_E) (e : Nat) (fi : Nat) (se : Nat) (b1 : Nat) (b2 : Nat) (sh : Nat) (sv : Nat) (sr : Nat) (sl : Nat) (sp : Nat) (w : Nat) (ps : Nat) (md : Nat) (sr_f : Nat → Int32) (w_2 : Nat) (w_3 : Nat) (w_4 : Nat) (w_5 : Int32) (w_6 : Int32) (w_7 : Int32) (w_8 : Int32) (w_9 : Int32) (w_10 : Int32) (w_11 : Int32) (fr_ : Int32) (hk0 : w_2 ≤ 2) (hk1 : w_3 ≤ 2) (hk2 : w_4 ≤ 600) : Ev E MX4_stillFrames 3 65 0 0 [.ref e, .ref w, .int fr_] [(e, .inr (4, [.ref fi, .ref se, .ref b1, .ref b2, .ref sh])), (sh, .inr (8, [.ref sv, .ref sr, .ref sl, .ref sp])), (sr, .inl (E.2.2.1 0, 1200, .inl sr_f)), (w, .inr (9, [.ref ps, .ref md, .int (nI w_2), .int (nI w_3), .int (nI w_4), .int w_5, .int w_6, .int w_7, .int w_8, .int w_9, .int w_10, .int w_11]))] (fun v_ w_ => ∃ zr : Int32, (∀ (β : Type) (k_ : Int32 → β), fn_wk_X4_stillFrames sr_f w_3 w_4 fr_ β k_ = k_ zr) ∧ v_ = some (.int zr) ∧ w_ = [(e, .inr (4, [.ref fi, .ref se, .ref b1, .ref b2, .ref sh])), (sh, .inr (8, [.ref sv, .ref sr, .ref sl, .ref sp])), (sr, .inl (E.2.2.1 0, 1200, .inl sr_f)), (w, .inr (9, [.ref ps, .ref md, .int (nI w_2), .int (nI w_3), .int (nI w_4), .int w_5, .int w_6, .int w_7, .int w_8, .int w_9, .int w_10, .int w_11]))]) := by
  refine Ev.intro (by decide) (Nat.le_of_ble_eq_true rfl) ?_
  intro X B hr hI
  have B : Bd E X cX4_stillFrames RX4 4 3 65 0 0 := B
  have hr : Rt E X (some .int) 0 0 (fun v_ w_ => ∃ zr : Int32, (∀ (β : Type) (k_ : Int32 → β), fn_wk_X4_stillFrames sr_f w_3 w_4 fr_ β k_ = k_ zr) ∧ v_ = some (.int zr) ∧ w_ = [(e, .inr (4, [.ref fi, .ref se, .ref b1, .ref b2, .ref sh])), (sh, .inr (8, [.ref sv, .ref sr, .ref sl, .ref sp])), (sr, .inl (E.2.2.1 0, 1200, .inl sr_f)), (w, .inr (9, [.ref ps, .ref md, .int (nI w_2), .int (nI w_3), .int (nI w_4), .int w_5, .int w_6, .int w_7, .int w_8, .int w_9, .int w_10, .int w_11]))]) := hr
  have e_ := fun (β : Type) (k_ : Int32 → β) => fn_wk_X4_stillFrames_s (β := β) (k_ := k_) (sr_f := sr_f) (w_3 := w_3) (w_4 := w_4) (fr_ := fr_)
  show G E X 4 [(e, .inr (4, [.ref fi, .ref se, .ref b1, .ref b2, .ref sh])), (sh, .inr (8, [.ref sv, .ref sr, .ref sl, .ref sp])), (sr, .inl (E.2.2.1 0, 1200, .inl sr_f)), (w, .inr (9, [.ref ps, .ref md, .int (nI w_2), .int (nI w_3), .int (nI w_4), .int w_5, .int w_6, .int w_7, .int w_8, .int w_9, .int w_10, .int w_11]))] 0 0 [(0, .ref e), (1, .ref w), (2, .int fr_)] 0 []
  refine g_iconst (v := 0) B dX4_stillFrames_0 (by decide) ?_
  refine g_istore_n (lv' := [(3, .int 0), (0, .ref e), (1, .ref w), (2, .int fr_)]) B dX4_stillFrames_1 rfl (by decide) rfl ?_
  refine g_lvsub (lv' := [(0, .ref e), (1, .ref w), (2, .int fr_), (3, .int 0)]) [1, 2, 3, 0] rfl ?_
  refine lp_wk_X4_stillFrames_2 E e fi se b1 b2 sh sv sr sl sp w ps md sr_f w_2 w_3 w_4 w_5 w_6 w_7 w_8 w_9 w_10 w_11 hk0 hk1 hk2 _ B hr (fun y_465l2 y_465l3 e_ => ?_) _ fr_ 0  (Nat.lt_succ_self _) e_
  refine g_iload_n B dX4_stillFrames_29 rfl 3 rfl ?_
  exact g_iret B hr dX4_stillFrames_30 (by decide) (by decide) ⟨y_465l3, e_, rfl, rfl⟩
abbrev MX4_writeHeads : g_M := (yX4_writeHeads, cX4_writeHeads, 4, none)
theorem dX4_writeHeads_0 : decode cX4_writeHeads 0 = .ok (.aload_n 0, 1) := by decide +kernel
theorem dX4_writeHeads_1 : decode cX4_writeHeads 1 = .ok (.getfield 9, 3) := by decide +kernel
theorem dX4_writeHeads_4 : decode cX4_writeHeads 4 = .ok (.iconst 0, 1) := by decide +kernel
theorem dX4_writeHeads_5 : decode cX4_writeHeads 5 = .ok (.invokevirtual 73, 3) := by decide +kernel
theorem w_ml_X4_73 : Cond.methodLink RX4 73 yX2_shorten ∈ g_tbl := g_tbl_in 488 (by decide +kernel) (by decide +kernel)
theorem w_cd_X2_shorten : g_cw MX2_shorten ∈ g_tbl := g_tbl_in 491 (by decide +kernel) (by decide +kernel)
theorem cl_X4_73 : CL RX4 73 1 MX2_shorten := ⟨w_ml_X4_73, w_cd_X2_shorten, w_ini_X2, by decide +kernel, by decide +kernel, by decide +kernel⟩
theorem w_im_X2_shorten : Cond.instanceMethod yX2_shorten ∈ g_tbl := g_tbl_in 489 (by decide +kernel) (by decide +kernel)
theorem w_se_X2_shorten : Cond.selects RX2 yX2_shorten yX2_shorten ∈ g_tbl := g_tbl_in 490 (by decide +kernel) (by decide +kernel)
theorem dX4_writeHeads_8 : decode cX4_writeHeads 8 = .ok (.pop, 1) := by decide +kernel
theorem dX4_writeHeads_9 : decode cX4_writeHeads 9 = .ok (.aload_n 0, 1) := by decide +kernel
theorem dX4_writeHeads_10 : decode cX4_writeHeads 10 = .ok (.getfield 9, 3) := by decide +kernel
theorem dX4_writeHeads_13 : decode cX4_writeHeads 13 = .ok (.bipush 83, 2) := by decide +kernel
theorem dX4_writeHeads_15 : decode cX4_writeHeads 15 = .ok (.invokevirtual 79, 3) := by decide +kernel
theorem w_ml_X4_79 : Cond.methodLink RX4 79 yX2_add ∈ g_tbl := g_tbl_in 492 (by decide +kernel) (by decide +kernel)
theorem cl_X4_79 : CL RX4 79 1 MX2_add := ⟨w_ml_X4_79, w_cd_X2_add, w_ini_X2, by decide +kernel, by decide +kernel, by decide +kernel⟩
theorem dX4_writeHeads_18 : decode cX4_writeHeads 18 = .ok (.aload_n 0, 1) := by decide +kernel
theorem dX4_writeHeads_19 : decode cX4_writeHeads 19 = .ok (.getfield 9, 3) := by decide +kernel
theorem dX4_writeHeads_22 : decode cX4_writeHeads 22 = .ok (.aload_n 1, 1) := by decide +kernel
theorem dX4_writeHeads_23 : decode cX4_writeHeads 23 = .ok (.getfield 82, 3) := by decide +kernel
theorem w_fl_X4_82 : Cond.fieldLink RX4 82 (TX9 5).1 (TX9 5).2.1 (TX9 5).2.2.1 ∈ g_tbl := g_tbl_in 329 (by decide +kernel) (by decide +kernel)
theorem fl_X4_82 : FL RX4 82 9 5 := ⟨RX9, TX9, 12, rfl, by decide, inX_X9, w_fl_X4_82⟩
theorem dX4_writeHeads_26 : decode cX4_writeHeads 26 = .ok (.invokevirtual 79, 3) := by decide +kernel
theorem dX4_writeHeads_29 : decode cX4_writeHeads 29 = .ok (.aload_n 0, 1) := by decide +kernel
theorem dX4_writeHeads_30 : decode cX4_writeHeads 30 = .ok (.getfield 9, 3) := by decide +kernel
theorem dX4_writeHeads_33 : decode cX4_writeHeads 33 = .ok (.aload_n 1, 1) := by decide +kernel
theorem dX4_writeHeads_34 : decode cX4_writeHeads 34 = .ok (.getfield 85, 3) := by decide +kernel
theorem w_fl_X4_85 : Cond.fieldLink RX4 85 (TX9 6).1 (TX9 6).2.1 (TX9 6).2.2.1 ∈ g_tbl := g_tbl_in 332 (by decide +kernel) (by decide +kernel)
theorem fl_X4_85 : FL RX4 85 9 6 := ⟨RX9, TX9, 12, rfl, by decide, inX_X9, w_fl_X4_85⟩
theorem dX4_writeHeads_37 : decode cX4_writeHeads 37 = .ok (.invokevirtual 79, 3) := by decide +kernel
theorem dX4_writeHeads_40 : decode cX4_writeHeads 40 = .ok (.aload_n 0, 1) := by decide +kernel
theorem dX4_writeHeads_41 : decode cX4_writeHeads 41 = .ok (.getfield 9, 3) := by decide +kernel
theorem dX4_writeHeads_44 : decode cX4_writeHeads 44 = .ok (.aload_n 1, 1) := by decide +kernel
theorem dX4_writeHeads_45 : decode cX4_writeHeads 45 = .ok (.getfield 47, 3) := by decide +kernel
theorem dX4_writeHeads_48 : decode cX4_writeHeads 48 = .ok (.bipush 8, 2) := by decide +kernel
theorem dX4_writeHeads_50 : decode cX4_writeHeads 50 = .ok (.ishr, 1) := by decide +kernel
theorem dX4_writeHeads_51 : decode cX4_writeHeads 51 = .ok (.invokevirtual 79, 3) := by decide +kernel
theorem dX4_writeHeads_54 : decode cX4_writeHeads 54 = .ok (.aload_n 0, 1) := by decide +kernel
theorem dX4_writeHeads_55 : decode cX4_writeHeads 55 = .ok (.getfield 9, 3) := by decide +kernel
theorem dX4_writeHeads_58 : decode cX4_writeHeads 58 = .ok (.aload_n 1, 1) := by decide +kernel
theorem dX4_writeHeads_59 : decode cX4_writeHeads 59 = .ok (.getfield 47, 3) := by decide +kernel
theorem dX4_writeHeads_62 : decode cX4_writeHeads 62 = .ok (.invokevirtual 79, 3) := by decide +kernel
theorem dX4_writeHeads_65 : decode cX4_writeHeads 65 = .ok (.aload_n 1, 1) := by decide +kernel
theorem dX4_writeHeads_66 : decode cX4_writeHeads 66 = .ok (.getfield 88, 3) := by decide +kernel
theorem w_fl_X4_88 : Cond.fieldLink RX4 88 (TX9 0).1 (TX9 0).2.1 (TX9 0).2.2.1 ∈ g_tbl := g_tbl_in 310 (by decide +kernel) (by decide +kernel)
theorem fl_X4_88 : FL RX4 88 9 0 := ⟨RX9, TX9, 12, rfl, by decide, inX_X9, w_fl_X4_88⟩
theorem dX4_writeHeads_69 : decode cX4_writeHeads 69 = .ok (.getfield 92, 3) := by decide +kernel
theorem w_fl_X4_92 : Cond.fieldLink RX4 92 (TX6 0).1 (TX6 0).2.1 (TX6 0).2.2.1 ∈ g_tbl := g_tbl_in 261 (by decide +kernel) (by decide +kernel)
theorem fl_X4_92 : FL RX4 92 6 0 := ⟨RX6, TX6, 8, rfl, by decide, inX_X6, w_fl_X4_92⟩
theorem dX4_writeHeads_72 : decode cX4_writeHeads 72 = .ok (.astore_n 2, 1) := by decide +kernel
theorem dX4_writeHeads_73 : decode cX4_writeHeads 73 = .ok (.aload_n 0, 1) := by decide +kernel
theorem dX4_writeHeads_74 : decode cX4_writeHeads 74 = .ok (.getfield 9, 3) := by decide +kernel
theorem dX4_writeHeads_77 : decode cX4_writeHeads 77 = .ok (.aload_n 2, 1) := by decide +kernel
theorem dX4_writeHeads_78 : decode cX4_writeHeads 78 = .ok (.getfield 98, 3) := by decide +kernel
theorem w_fl_X4_98 : Cond.fieldLink RX4 98 (TX7 2).1 (TX7 2).2.1 (TX7 2).2.2.1 ∈ g_tbl := g_tbl_in 107 (by decide +kernel) (by decide +kernel)
theorem fl_X4_98 : FL RX4 98 7 2 := ⟨RX7, TX7, 3, rfl, by decide, inX_X7, w_fl_X4_98⟩
theorem dX4_writeHeads_81 : decode cX4_writeHeads 81 = .ok (.invokevirtual 79, 3) := by decide +kernel
theorem dX4_writeHeads_84 : decode cX4_writeHeads 84 = .ok (.iconst 0, 1) := by decide +kernel
theorem dX4_writeHeads_85 : decode cX4_writeHeads 85 = .ok (.istore_n 3, 1) := by decide +kernel
theorem dX4_writeHeads_86 : decode cX4_writeHeads 86 = .ok (.iload_n 3, 1) := by decide +kernel
theorem dX4_writeHeads_87 : decode cX4_writeHeads 87 = .ok (.aload_n 2, 1) := by decide +kernel
theorem dX4_writeHeads_88 : decode cX4_writeHeads 88 = .ok (.getfield 98, 3) := by decide +kernel
theorem dX4_writeHeads_91 : decode cX4_writeHeads 91 = .ok (.if_icmp .ge 41, 3) := by decide +kernel
theorem dX4_writeHeads_94 : decode cX4_writeHeads 94 = .ok (.iload_n 3, 1) := by decide +kernel
theorem dX4_writeHeads_95 : decode cX4_writeHeads 95 = .ok (.bipush 8, 2) := by decide +kernel
theorem dX4_writeHeads_97 : decode cX4_writeHeads 97 = .ok (.if_icmp .ge 35, 3) := by decide +kernel
theorem dX4_writeHeads_100 : decode cX4_writeHeads 100 = .ok (.aload_n 0, 1) := by decide +kernel
theorem dX4_writeHeads_101 : decode cX4_writeHeads 101 = .ok (.getfield 9, 3) := by decide +kernel
theorem dX4_writeHeads_104 : decode cX4_writeHeads 104 = .ok (.aload_n 2, 1) := by decide +kernel
theorem dX4_writeHeads_105 : decode cX4_writeHeads 105 = .ok (.getfield 103, 3) := by decide +kernel
theorem w_fl_X4_103 : Cond.fieldLink RX4 103 (TX7 0).1 (TX7 0).2.1 (TX7 0).2.2.1 ∈ g_tbl := g_tbl_in 101 (by decide +kernel) (by decide +kernel)
theorem fl_X4_103 : FL RX4 103 7 0 := ⟨RX7, TX7, 3, rfl, by decide, inX_X7, w_fl_X4_103⟩
theorem dX4_writeHeads_108 : decode cX4_writeHeads 108 = .ok (.iload_n 3, 1) := by decide +kernel
theorem dX4_writeHeads_109 : decode cX4_writeHeads 109 = .ok (.iaload, 1) := by decide +kernel
theorem dX4_writeHeads_110 : decode cX4_writeHeads 110 = .ok (.invokevirtual 79, 3) := by decide +kernel
theorem dX4_writeHeads_113 : decode cX4_writeHeads 113 = .ok (.aload_n 0, 1) := by decide +kernel
theorem dX4_writeHeads_114 : decode cX4_writeHeads 114 = .ok (.getfield 9, 3) := by decide +kernel
theorem dX4_writeHeads_117 : decode cX4_writeHeads 117 = .ok (.aload_n 2, 1) := by decide +kernel
theorem dX4_writeHeads_118 : decode cX4_writeHeads 118 = .ok (.getfield 107, 3) := by decide +kernel
theorem w_fl_X4_107 : Cond.fieldLink RX4 107 (TX7 1).1 (TX7 1).2.1 (TX7 1).2.2.1 ∈ g_tbl := g_tbl_in 103 (by decide +kernel) (by decide +kernel)
theorem fl_X4_107 : FL RX4 107 7 1 := ⟨RX7, TX7, 3, rfl, by decide, inX_X7, w_fl_X4_107⟩
theorem dX4_writeHeads_121 : decode cX4_writeHeads 121 = .ok (.iload_n 3, 1) := by decide +kernel
theorem dX4_writeHeads_122 : decode cX4_writeHeads 122 = .ok (.iaload, 1) := by decide +kernel
theorem dX4_writeHeads_123 : decode cX4_writeHeads 123 = .ok (.invokevirtual 79, 3) := by decide +kernel
theorem dX4_writeHeads_126 : decode cX4_writeHeads 126 = .ok (.iinc 3 1, 3) := by decide +kernel
theorem dX4_writeHeads_129 : decode cX4_writeHeads 129 = .ok (.goto (-43), 3) := by decide +kernel
set_option maxRecDepth 100000 in
def lf_wk_X4_writeHeads_86 (p_2 : Nat) (te_f : Nat → Int32) (de_f : Nat → Int32) (β : Type) (kx_ : Int32 → (Nat → Int32) → Int32 → (Nat → Int32) → Int32 → β)  : Nat → Int32 → (Nat → Int32) → Int32 → (Nat → Int32) → Int32 → β
  | 0, fi_1, fia_f, se_1, sea_f, l3 => kx_ fi_1 fia_f se_1 sea_f l3
  | fuel + 1, fi_1, fia_f, se_1, sea_f, l3 => (if nI p_2 ≤ l3 then (kx_ fi_1 fia_f se_1 sea_f l3) else (if 8 ≤ l3 then (kx_ fi_1 fia_f se_1 sea_f l3) else (fn_wk_X2_add 9600 fi_1 fia_f (te_f (Int32.toNatClampNeg l3)) β (fun zt_1_490 za_f_491 => (fn_wk_X2_add 9600 zt_1_490 za_f_491 (de_f (Int32.toNatClampNeg l3)) β (fun zt_1_493 za_f_494 => (lf_wk_X4_writeHeads_86 p_2 te_f de_f β kx_ fuel zt_1_493 za_f_494 se_1 sea_f (l3 + 1))))))))
set_option maxRecDepth 100000 in
theorem lf_wk_X4_writeHeads_86_s {p_2 : Nat} {te_f : Nat → Int32} {de_f : Nat → Int32} {β : Type} {kx_ : Int32 → (Nat → Int32) → Int32 → (Nat → Int32) → Int32 → β}  {fuel : Nat} {fi_1 : Int32} {fia_f : Nat → Int32} {se_1 : Int32} {sea_f : Nat → Int32} {l3 : Int32} : lf_wk_X4_writeHeads_86 p_2 te_f de_f β kx_  (fuel + 1) fi_1 fia_f se_1 sea_f l3 = (if nI p_2 ≤ l3 then (kx_ fi_1 fia_f se_1 sea_f l3) else (if 8 ≤ l3 then (kx_ fi_1 fia_f se_1 sea_f l3) else (fn_wk_X2_add 9600 fi_1 fia_f (te_f (Int32.toNatClampNeg l3)) β (fun zt_1_490 za_f_491 => (fn_wk_X2_add 9600 zt_1_490 za_f_491 (de_f (Int32.toNatClampNeg l3)) β (fun zt_1_493 za_f_494 => (lf_wk_X4_writeHeads_86 p_2 te_f de_f β kx_ fuel zt_1_493 za_f_494 se_1 sea_f (l3 + 1)))))))) := rfl
set_option maxRecDepth 100000 in
set_option maxHeartbeats 4000000 in
theorem lp_wk_X4_writeHeads_86 (E : g_E) (e : Nat) (fi : Nat) (se : Nat) (b1 : Nat) (b2 : Nat) (sh : Nat) (fia : Nat) (sea : Nat) (w : Nat) (ps : Nat) (md : Nat) (p : Nat) (we : Nat) (inp : Nat) (ba : Nat) (gu : Nat) (te : Nat) (de : Nat) (w_2 : Nat) (w_3 : Nat) (w_4 : Nat) (w_5 : Int32) (w_6 : Int32) (w_7 : Int32) (w_8 : Int32) (w_9 : Int32) (w_10 : Int32) (w_11 : Int32) (ps_5 : Int32) (ps_6 : Int32) (ps_7 : Int32) (p_2 : Nat) (te_f : Nat → Int32) (de_f : Nat → Int32) (hk0 : w_2 ≤ 2) (hk1 : w_3 ≤ 2) (hk2 : w_4 ≤ 600) (hk3 : p_2 ≤ 8) {X : g_X} {rr : (β : Type) → (Int32 → (Nat → Int32) → Int32 → (Nat → Int32) → β) → β} (kx_ : (β : Type) → (Int32 → (Nat → Int32) → Int32 → (Nat → Int32) → β) → Int32 → (Nat → Int32) → Int32 → (Nat → Int32) → Int32 → β) (B : Bd E X cX4_writeHeads RX4 4 2 43 0 0) (hr : Rt E X none 0 0 (fun v_ w_ => ∃ zfi_1 : Int32, ∃ zfia_f : Nat → Int32, ∃ zse_1 : Int32, ∃ zsea_f : Nat → Int32, (∀ (β : Type) (k_ : Int32 → (Nat → Int32) → Int32 → (Nat → Int32) → β), rr β k_ = k_ zfi_1 zfia_f zse_1 zsea_f) ∧ v_ = none ∧ w_ = [(e, .inr (4, [.ref fi, .ref se, .ref b1, .ref b2, .ref sh])), (fi, .inr (2, [.ref fia, .int zfi_1])), (fia, .inl (E.2.2.1 1, 9600, .inl (nb zfia_f))), (se, .inr (2, [.ref sea, .int zse_1])), (sea, .inl (E.2.2.1 1, 2450, .inl (nb zsea_f))), (w, .inr (9, [.ref ps, .ref md, .int (nI w_2), .int (nI w_3), .int (nI w_4), .int w_5, .int w_6, .int w_7, .int w_8, .int w_9, .int w_10, .int w_11])), (ps, .inr (6, [.ref p, .ref we, .ref inp, .ref ba, .ref gu, .int ps_5, .int ps_6, .int ps_7])), (p, .inr (7, [.ref te, .ref de, .int (nI p_2)])), (te, .inl (E.2.2.1 0, 8, .inl te_f)), (de, .inl (E.2.2.1 0, 8, .inl de_f))])) (K : ∀ (fi_1 : Int32) (fia_f : Nat → Int32) (se_1 : Int32) (sea_f : Nat → Int32) (l3 : Int32), (∀ (β : Type) (k_ : Int32 → (Nat → Int32) → Int32 → (Nat → Int32) → β), rr β k_ = kx_ β k_ fi_1 fia_f se_1 sea_f l3) → G E X 4 [(e, .inr (4, [.ref fi, .ref se, .ref b1, .ref b2, .ref sh])), (fi, .inr (2, [.ref fia, .int fi_1])), (fia, .inl (E.2.2.1 1, 9600, .inl (nb fia_f))), (se, .inr (2, [.ref sea, .int se_1])), (sea, .inl (E.2.2.1 1, 2450, .inl (nb sea_f))), (w, .inr (9, [.ref ps, .ref md, .int (nI w_2), .int (nI w_3), .int (nI w_4), .int w_5, .int w_6, .int w_7, .int w_8, .int w_9, .int w_10, .int w_11])), (ps, .inr (6, [.ref p, .ref we, .ref inp, .ref ba, .ref gu, .int ps_5, .int ps_6, .int ps_7])), (p, .inr (7, [.ref te, .ref de, .int (nI p_2)])), (te, .inl (E.2.2.1 0, 8, .inl te_f)), (de, .inl (E.2.2.1 0, 8, .inl de_f))] 0 0 [(0, .ref e), (1, .ref w), (2, .ref p), (3, .int l3)] 132 []) : ∀ (n : Nat) (fi_1 : Int32) (fia_f : Nat → Int32) (se_1 : Int32) (sea_f : Nat → Int32) (l3 : Int32), ¬ l3 < 0 → (Int32.toInt 8 - Int32.toInt l3).toNat < n → (∀ (β : Type) (k_ : Int32 → (Nat → Int32) → Int32 → (Nat → Int32) → β), rr β k_ = lf_wk_X4_writeHeads_86 p_2 te_f de_f β (kx_ β k_) n fi_1 fia_f se_1 sea_f l3) → G E X 4 [(e, .inr (4, [.ref fi, .ref se, .ref b1, .ref b2, .ref sh])), (fi, .inr (2, [.ref fia, .int fi_1])), (fia, .inl (E.2.2.1 1, 9600, .inl (nb fia_f))), (se, .inr (2, [.ref sea, .int se_1])), (sea, .inl (E.2.2.1 1, 2450, .inl (nb sea_f))), (w, .inr (9, [.ref ps, .ref md, .int (nI w_2), .int (nI w_3), .int (nI w_4), .int w_5, .int w_6, .int w_7, .int w_8, .int w_9, .int w_10, .int w_11])), (ps, .inr (6, [.ref p, .ref we, .ref inp, .ref ba, .ref gu, .int ps_5, .int ps_6, .int ps_7])), (p, .inr (7, [.ref te, .ref de, .int (nI p_2)])), (te, .inl (E.2.2.1 0, 8, .inl te_f)), (de, .inl (E.2.2.1 0, 8, .inl de_f))] 0 0 [(0, .ref e), (1, .ref w), (2, .ref p), (3, .int l3)] 86 [] := by
  intro n
  induction n with
  | zero => intro fi_1 fia_f se_1 sea_f l3 _ h _; exact absurd h (Nat.not_lt_zero _)
  | succ n ih =>
    intro fi_1 fia_f se_1 sea_f l3 hv0 hm e_
    replace e_ := fun β k_ => (e_ β k_).trans lf_wk_X4_writeHeads_86_s
    refine g_iload_n B dX4_writeHeads_86 rfl 3 rfl ?_
    refine g_aload_n B dX4_writeHeads_87 rfl 2 rfl ?_
    refine g_get B 7 2 fl_X4_98 rfl rfl dX4_writeHeads_88 ?_
    refine g_icmp_ge (tgt := 132) B dX4_writeHeads_91 (by decide) (fun c91_488 => ?_) (fun c91_488 => ?_)
    · replace e_ := fun β k_ => (e_ β k_).trans (if_pos c91_488)
      exact K fi_1 fia_f se_1 sea_f l3 e_
    · replace e_ := fun β k_ => (e_ β k_).trans (if_neg c91_488)
      refine g_iload_n B dX4_writeHeads_94 rfl 3 rfl ?_
      refine g_bipush (v := 8) B dX4_writeHeads_95 (by decide) ?_
      refine g_icmp_ge (tgt := 132) B dX4_writeHeads_97 (by decide) (fun c97_489 => ?_) (fun c97_489 => ?_)
      · replace e_ := fun β k_ => (e_ β k_).trans (if_pos c97_489)
        exact K fi_1 fia_f se_1 sea_f l3 e_
      · replace e_ := fun β k_ => (e_ β k_).trans (if_neg c97_489)
        refine g_aload_n B dX4_writeHeads_100 rfl 0 rfl ?_
        refine g_get B 0 0 fl_X4_9 rfl rfl dX4_writeHeads_101 ?_
        refine g_aload_n B dX4_writeHeads_104 rfl 2 rfl ?_
        refine g_get B 7 0 fl_X4_103 rfl rfl dX4_writeHeads_105 ?_
        refine g_iload_n B dX4_writeHeads_108 rfl 3 rfl ?_
        refine g_iald B 8 rfl (in_lt (by decide) hv0 (o_2 c97_489)) dX4_writeHeads_109 ?_
        refine g_callV (st := []) (As := [.int (te_f (Int32.toNatClampNeg l3))]) (wr := [(e, .inr (4, [.ref fi, .ref se, .ref b1, .ref b2, .ref sh])), (se, .inr (2, [.ref sea, .int se_1])), (sea, .inl (E.2.2.1 1, 2450, .inl (nb sea_f))), (w, .inr (9, [.ref ps, .ref md, .int (nI w_2), .int (nI w_3), .int (nI w_4), .int w_5, .int w_6, .int w_7, .int w_8, .int w_9, .int w_10, .int w_11])), (ps, .inr (6, [.ref p, .ref we, .ref inp, .ref ba, .ref gu, .int ps_5, .int ps_6, .int ps_7])), (p, .inr (7, [.ref te, .ref de, .int (nI p_2)])), (te, .inl (E.2.2.1 0, 8, .inl te_f)), (de, .inl (E.2.2.1 0, 8, .inl de_f))]) (nc' := 0) (ns' := 0) B cl_X4_79 w_im_X2_add w_se_X2_add (wk_X2_add E fi fia 9600 fi_1 fia_f (te_f (Int32.toNatClampNeg l3)) (by first | assumption | omega | decide)) rfl [1, 2] [0, 3, 4, 5, 6, 7, 8, 9] rfl rfl (by decide) (by decide) (by decide) 0 rfl (fun q h => by cases h; rfl) rfl ⟨by decide, by decide⟩ rfl rfl (by decide) (by decide) rfl (Nat.le_of_ble_eq_true rfl) dX4_writeHeads_110 (fun v w hq => ?_)
        obtain ⟨zt_1_490, za_f_491, hz_492, rfl, rfl⟩ := hq
        replace e_ := fun β k_ => (e_ β k_).trans (hz_492 β _)
        show G E X 4 [(e, .inr (4, [.ref fi, .ref se, .ref b1, .ref b2, .ref sh])), (se, .inr (2, [.ref sea, .int se_1])), (sea, .inl (E.2.2.1 1, 2450, .inl (nb sea_f))), (w, .inr (9, [.ref ps, .ref md, .int (nI w_2), .int (nI w_3), .int (nI w_4), .int w_5, .int w_6, .int w_7, .int w_8, .int w_9, .int w_10, .int w_11])), (ps, .inr (6, [.ref p, .ref we, .ref inp, .ref ba, .ref gu, .int ps_5, .int ps_6, .int ps_7])), (p, .inr (7, [.ref te, .ref de, .int (nI p_2)])), (te, .inl (E.2.2.1 0, 8, .inl te_f)), (de, .inl (E.2.2.1 0, 8, .inl de_f)), (fi, .inr (2, [.ref fia, .int zt_1_490])), (fia, .inl (E.2.2.1 1, 9600, .inl (nb za_f_491)))] 0 0 [(0, .ref e), (1, .ref w), (2, .ref p), (3, .int l3)] 113 []
        refine g_aload_n B dX4_writeHeads_113 rfl 0 rfl ?_
        refine g_get B 0 0 fl_X4_9 rfl rfl dX4_writeHeads_114 ?_
        refine g_aload_n B dX4_writeHeads_117 rfl 2 rfl ?_
        refine g_get B 5 1 fl_X4_107 rfl rfl dX4_writeHeads_118 ?_
        refine g_iload_n B dX4_writeHeads_121 rfl 3 rfl ?_
        refine g_iald B 7 rfl (in_lt (by decide) hv0 (o_2 c97_489)) dX4_writeHeads_122 ?_
        refine g_callV (st := []) (As := [.int (de_f (Int32.toNatClampNeg l3))]) (wr := [(e, .inr (4, [.ref fi, .ref se, .ref b1, .ref b2, .ref sh])), (se, .inr (2, [.ref sea, .int se_1])), (sea, .inl (E.2.2.1 1, 2450, .inl (nb sea_f))), (w, .inr (9, [.ref ps, .ref md, .int (nI w_2), .int (nI w_3), .int (nI w_4), .int w_5, .int w_6, .int w_7, .int w_8, .int w_9, .int w_10, .int w_11])), (ps, .inr (6, [.ref p, .ref we, .ref inp, .ref ba, .ref gu, .int ps_5, .int ps_6, .int ps_7])), (p, .inr (7, [.ref te, .ref de, .int (nI p_2)])), (te, .inl (E.2.2.1 0, 8, .inl te_f)), (de, .inl (E.2.2.1 0, 8, .inl de_f))]) (nc' := 0) (ns' := 0) B cl_X4_79 w_im_X2_add w_se_X2_add (wk_X2_add E fi fia 9600 zt_1_490 za_f_491 (de_f (Int32.toNatClampNeg l3)) (by first | assumption | omega | decide)) rfl [8, 9] [0, 1, 2, 3, 4, 5, 6, 7] rfl rfl (by decide) (by decide) (by decide) 0 rfl (fun q h => by cases h; rfl) rfl ⟨by decide, by decide⟩ rfl rfl (by decide) (by decide) rfl (Nat.le_of_ble_eq_true rfl) dX4_writeHeads_123 (fun v w hq => ?_)
        obtain ⟨zt_1_493, za_f_494, hz_495, rfl, rfl⟩ := hq
        replace e_ := fun β k_ => (e_ β k_).trans (hz_495 β _)
        show G E X 4 [(e, .inr (4, [.ref fi, .ref se, .ref b1, .ref b2, .ref sh])), (se, .inr (2, [.ref sea, .int se_1])), (sea, .inl (E.2.2.1 1, 2450, .inl (nb sea_f))), (w, .inr (9, [.ref ps, .ref md, .int (nI w_2), .int (nI w_3), .int (nI w_4), .int w_5, .int w_6, .int w_7, .int w_8, .int w_9, .int w_10, .int w_11])), (ps, .inr (6, [.ref p, .ref we, .ref inp, .ref ba, .ref gu, .int ps_5, .int ps_6, .int ps_7])), (p, .inr (7, [.ref te, .ref de, .int (nI p_2)])), (te, .inl (E.2.2.1 0, 8, .inl te_f)), (de, .inl (E.2.2.1 0, 8, .inl de_f)), (fi, .inr (2, [.ref fia, .int zt_1_493])), (fia, .inl (E.2.2.1 1, 9600, .inl (nb za_f_494)))] 0 0 [(0, .ref e), (1, .ref w), (2, .ref p), (3, .int l3)] 126 []
        refine g_iinc (v := (l3 + 1)) (lv' := [(3, .int (l3 + 1)), (0, .ref e), (1, .ref w), (2, .ref p)]) B dX4_writeHeads_126 3 rfl rfl (by decide) rfl ?_
        refine g_goto (tgt := 86) B dX4_writeHeads_129 (by decide) ?_
        refine g_sub (ws' := [(e, .inr (4, [.ref fi, .ref se, .ref b1, .ref b2, .ref sh])), (fi, .inr (2, [.ref fia, .int zt_1_493])), (fia, .inl (E.2.2.1 1, 9600, .inl (nb za_f_494))), (se, .inr (2, [.ref sea, .int se_1])), (sea, .inl (E.2.2.1 1, 2450, .inl (nb sea_f))), (w, .inr (9, [.ref ps, .ref md, .int (nI w_2), .int (nI w_3), .int (nI w_4), .int w_5, .int w_6, .int w_7, .int w_8, .int w_9, .int w_10, .int w_11])), (ps, .inr (6, [.ref p, .ref we, .ref inp, .ref ba, .ref gu, .int ps_5, .int ps_6, .int ps_7])), (p, .inr (7, [.ref te, .ref de, .int (nI p_2)])), (te, .inl (E.2.2.1 0, 8, .inl te_f)), (de, .inl (E.2.2.1 0, 8, .inl de_f))]) [0, 8, 9, 1, 2, 3, 4, 5, 6, 7] (by decide) rfl ?_
        refine g_lvsub (lv' := [(0, .ref e), (1, .ref w), (2, .ref p), (3, .int (l3 + 1))]) [1, 2, 3, 0] rfl ?_
        exact ih zt_1_493 za_f_494 se_1 sea_f (l3 + 1) (inv_up hv0 (o_2 c97_489)) (Nat.lt_of_lt_of_le (st_up (o_2 c97_489)) (Nat.le_of_lt_succ hm)) e_
theorem dX4_writeHeads_132 : decode cX4_writeHeads 132 = .ok (.aload_n 1, 1) := by decide +kernel
theorem dX4_writeHeads_133 : decode cX4_writeHeads 133 = .ok (.getfield 38, 3) := by decide +kernel
theorem w_fl_X4_38 : Cond.fieldLink RX4 38 (TX9 7).1 (TX9 7).2.1 (TX9 7).2.2.1 ∈ g_tbl := g_tbl_in 334 (by decide +kernel) (by decide +kernel)
theorem fl_X4_38 : FL RX4 38 9 7 := ⟨RX9, TX9, 12, rfl, by decide, inX_X9, w_fl_X4_38⟩
theorem dX4_writeHeads_136 : decode cX4_writeHeads 136 = .ok (.ifCond .le 28, 3) := by decide +kernel
theorem dX4_writeHeads_164 : decode cX4_writeHeads 164 = .ok (.aload_n 0, 1) := by decide +kernel
theorem dX4_writeHeads_165 : decode cX4_writeHeads 165 = .ok (.getfield 15, 3) := by decide +kernel
theorem dX4_writeHeads_168 : decode cX4_writeHeads 168 = .ok (.iconst 0, 1) := by decide +kernel
theorem dX4_writeHeads_169 : decode cX4_writeHeads 169 = .ok (.invokevirtual 73, 3) := by decide +kernel
theorem dX4_writeHeads_172 : decode cX4_writeHeads 172 = .ok (.pop, 1) := by decide +kernel
theorem dX4_writeHeads_173 : decode cX4_writeHeads 173 = .ok (.aload_n 0, 1) := by decide +kernel
theorem dX4_writeHeads_174 : decode cX4_writeHeads 174 = .ok (.getfield 15, 3) := by decide +kernel
theorem dX4_writeHeads_177 : decode cX4_writeHeads 177 = .ok (.bipush 67, 2) := by decide +kernel
theorem dX4_writeHeads_179 : decode cX4_writeHeads 179 = .ok (.invokevirtual 79, 3) := by decide +kernel
theorem dX4_writeHeads_182 : decode cX4_writeHeads 182 = .ok (.aload_n 0, 1) := by decide +kernel
theorem dX4_writeHeads_183 : decode cX4_writeHeads 183 = .ok (.getfield 15, 3) := by decide +kernel
theorem dX4_writeHeads_186 : decode cX4_writeHeads 186 = .ok (.iconst 0, 1) := by decide +kernel
theorem dX4_writeHeads_187 : decode cX4_writeHeads 187 = .ok (.invokevirtual 110, 3) := by decide +kernel
theorem w_ml_X4_110 : Cond.methodLink RX4 110 yX2_addWord ∈ g_tbl := g_tbl_in 496 (by decide +kernel) (by decide +kernel)
theorem w_cd_X2_addWord : g_cw MX2_addWord ∈ g_tbl := g_tbl_in 499 (by decide +kernel) (by decide +kernel)
theorem cl_X4_110 : CL RX4 110 1 MX2_addWord := ⟨w_ml_X4_110, w_cd_X2_addWord, w_ini_X2, by decide +kernel, by decide +kernel, by decide +kernel⟩
theorem w_im_X2_addWord : Cond.instanceMethod yX2_addWord ∈ g_tbl := g_tbl_in 497 (by decide +kernel) (by decide +kernel)
theorem w_se_X2_addWord : Cond.selects RX2 yX2_addWord yX2_addWord ∈ g_tbl := g_tbl_in 498 (by decide +kernel) (by decide +kernel)
theorem dX4_writeHeads_190 : decode cX4_writeHeads 190 = .ok (.return_, 1) := by decide +kernel
theorem dX4_writeHeads_139 : decode cX4_writeHeads 139 = .ok (.aload_n 0, 1) := by decide +kernel
theorem dX4_writeHeads_140 : decode cX4_writeHeads 140 = .ok (.getfield 9, 3) := by decide +kernel
theorem dX4_writeHeads_143 : decode cX4_writeHeads 143 = .ok (.aload_n 1, 1) := by decide +kernel
theorem dX4_writeHeads_144 : decode cX4_writeHeads 144 = .ok (.getfield 38, 3) := by decide +kernel
theorem dX4_writeHeads_147 : decode cX4_writeHeads 147 = .ok (.bipush 8, 2) := by decide +kernel
theorem dX4_writeHeads_149 : decode cX4_writeHeads 149 = .ok (.ishr, 1) := by decide +kernel
theorem dX4_writeHeads_150 : decode cX4_writeHeads 150 = .ok (.invokevirtual 79, 3) := by decide +kernel
theorem dX4_writeHeads_153 : decode cX4_writeHeads 153 = .ok (.aload_n 0, 1) := by decide +kernel
theorem dX4_writeHeads_154 : decode cX4_writeHeads 154 = .ok (.getfield 9, 3) := by decide +kernel
theorem dX4_writeHeads_157 : decode cX4_writeHeads 157 = .ok (.aload_n 1, 1) := by decide +kernel
theorem dX4_writeHeads_158 : decode cX4_writeHeads 158 = .ok (.getfield 38, 3) := by decide +kernel
theorem dX4_writeHeads_161 : decode cX4_writeHeads 161 = .ok (.invokevirtual 79, 3) := by decide +kernel
set_option maxRecDepth 100000 in
def fn_wk_X4_writeHeads (w_4 : Nat) (w_5 : Int32) (w_6 : Int32) (w_7 : Int32) (p_2 : Nat) (te_f : Nat → Int32) (de_f : Nat → Int32) (fi_1 : Int32) (fia_f : Nat → Int32) (se_1 : Int32) (sea_f : Nat → Int32) (β : Type) (k_ : Int32 → (Nat → Int32) → Int32 → (Nat → Int32) → β) : β := (fn_wk_X2_shorten fi_1 0 β (fun zt_1_466 zr_467 => (fn_wk_X2_add 9600 zt_1_466 fia_f 83 β (fun zt_1_470 za_f_471 => (fn_wk_X2_add 9600 zt_1_470 za_f_471 w_5 β (fun zt_1_473 za_f_474 => (fn_wk_X2_add 9600 zt_1_473 za_f_474 w_6 β (fun zt_1_476 za_f_477 => (fn_wk_X2_add 9600 zt_1_476 za_f_477 (nI w_4 >>> (8 &&& 31)) β (fun zt_1_479 za_f_480 => (fn_wk_X2_add 9600 zt_1_479 za_f_480 (nI w_4) β (fun zt_1_482 za_f_483 => (fn_wk_X2_add 9600 zt_1_482 za_f_483 (nI p_2) β (fun zt_1_485 za_f_486 => (lf_wk_X4_writeHeads_86 p_2 te_f de_f β (fun y_496fi_1 y_496fia_f y_496se_1 y_496sea_f y_496l3 => (if w_7 ≤ 0 then (fn_wk_X2_shorten y_496se_1 0 β (fun zt_1_498 zr_499 => (fn_wk_X2_add 2450 zt_1_498 y_496sea_f 67 β (fun zt_1_502 za_f_503 => (fn_wk_X2_addWord 2450 zt_1_502 za_f_503 0 β (fun zt_1_505 za_f_506 => (k_ y_496fi_1 y_496fia_f zt_1_505 za_f_506))))))) else (fn_wk_X2_add 9600 y_496fi_1 y_496fia_f (w_7 >>> (8 &&& 31)) β (fun zt_1_508 za_f_509 => (fn_wk_X2_add 9600 zt_1_508 za_f_509 w_7 β (fun zt_1_511 za_f_512 => (fn_wk_X2_shorten y_496se_1 0 β (fun zt_1_514 zr_515 => (fn_wk_X2_add 2450 zt_1_514 y_496sea_f 67 β (fun zt_1_518 za_f_519 => (fn_wk_X2_addWord 2450 zt_1_518 za_f_519 0 β (fun zt_1_521 za_f_522 => (k_ zt_1_511 za_f_512 zt_1_521 za_f_522))))))))))))) ((Int32.toInt 8 - Int32.toInt 0).toNat + 1) zt_1_485 za_f_486 se_1 sea_f 0)))))))))))))))
set_option maxRecDepth 100000 in
theorem fn_wk_X4_writeHeads_s {w_4 : Nat} {w_5 : Int32} {w_6 : Int32} {w_7 : Int32} {p_2 : Nat} {te_f : Nat → Int32} {de_f : Nat → Int32} {fi_1 : Int32} {fia_f : Nat → Int32} {se_1 : Int32} {sea_f : Nat → Int32} {β : Type} {k_ : Int32 → (Nat → Int32) → Int32 → (Nat → Int32) → β} : fn_wk_X4_writeHeads w_4 w_5 w_6 w_7 p_2 te_f de_f fi_1 fia_f se_1 sea_f β k_ = (fn_wk_X2_shorten fi_1 0 β (fun zt_1_466 zr_467 => (fn_wk_X2_add 9600 zt_1_466 fia_f 83 β (fun zt_1_470 za_f_471 => (fn_wk_X2_add 9600 zt_1_470 za_f_471 w_5 β (fun zt_1_473 za_f_474 => (fn_wk_X2_add 9600 zt_1_473 za_f_474 w_6 β (fun zt_1_476 za_f_477 => (fn_wk_X2_add 9600 zt_1_476 za_f_477 (nI w_4 >>> (8 &&& 31)) β (fun zt_1_479 za_f_480 => (fn_wk_X2_add 9600 zt_1_479 za_f_480 (nI w_4) β (fun zt_1_482 za_f_483 => (fn_wk_X2_add 9600 zt_1_482 za_f_483 (nI p_2) β (fun zt_1_485 za_f_486 => (lf_wk_X4_writeHeads_86 p_2 te_f de_f β (fun y_496fi_1 y_496fia_f y_496se_1 y_496sea_f y_496l3 => (if w_7 ≤ 0 then (fn_wk_X2_shorten y_496se_1 0 β (fun zt_1_498 zr_499 => (fn_wk_X2_add 2450 zt_1_498 y_496sea_f 67 β (fun zt_1_502 za_f_503 => (fn_wk_X2_addWord 2450 zt_1_502 za_f_503 0 β (fun zt_1_505 za_f_506 => (k_ y_496fi_1 y_496fia_f zt_1_505 za_f_506))))))) else (fn_wk_X2_add 9600 y_496fi_1 y_496fia_f (w_7 >>> (8 &&& 31)) β (fun zt_1_508 za_f_509 => (fn_wk_X2_add 9600 zt_1_508 za_f_509 w_7 β (fun zt_1_511 za_f_512 => (fn_wk_X2_shorten y_496se_1 0 β (fun zt_1_514 zr_515 => (fn_wk_X2_add 2450 zt_1_514 y_496sea_f 67 β (fun zt_1_518 za_f_519 => (fn_wk_X2_addWord 2450 zt_1_518 za_f_519 0 β (fun zt_1_521 za_f_522 => (k_ zt_1_511 za_f_512 zt_1_521 za_f_522))))))))))))) ((Int32.toInt 8 - Int32.toInt 0).toNat + 1) zt_1_485 za_f_486 se_1 sea_f 0))))))))))))))) := rfl
set_option maxRecDepth 100000 in
set_option maxHeartbeats 4000000 in
theorem wk_X4_writeHeads (E : g_E) (e : Nat) (fi : Nat) (se : Nat) (b1 : Nat) (b2 : Nat) (sh : Nat) (fia : Nat) (sea : Nat) (w : Nat) (ps : Nat) (md : Nat) (p : Nat) (we : Nat) (inp : Nat) (ba : Nat) (gu : Nat) (te : Nat) (de : Nat) (w_2 : Nat) (w_3 : Nat) (w_4 : Nat) (w_5 : Int32) (w_6 : Int32) (w_7 : Int32) (w_8 : Int32) (w_9 : Int32) (w_10 : Int32) (w_11 : Int32) (ps_5 : Int32) (ps_6 : Int32) (ps_7 : Int32) (p_2 : Nat) (te_f : Nat → Int32) (de_f : Nat → Int32) (fi_1 : Int32) (fia_f : Nat → Int32) (se_1 : Int32) (sea_f : Nat → Int32) (hk0 : w_2 ≤ 2) (hk1 : w_3 ≤ 2) (hk2 : w_4 ≤ 600) (hk3 : p_2 ≤ 8) : Ev E MX4_writeHeads 2 43 0 0 [.ref e, .ref w] [(e, .inr (4, [.ref fi, .ref se, .ref b1, .ref b2, .ref sh])), (fi, .inr (2, [.ref fia, .int fi_1])), (fia, .inl (E.2.2.1 1, 9600, .inl (nb fia_f))), (se, .inr (2, [.ref sea, .int se_1])), (sea, .inl (E.2.2.1 1, 2450, .inl (nb sea_f))), (w, .inr (9, [.ref ps, .ref md, .int (nI w_2), .int (nI w_3), .int (nI w_4), .int w_5, .int w_6, .int w_7, .int w_8, .int w_9, .int w_10, .int w_11])), (ps, .inr (6, [.ref p, .ref we, .ref inp, .ref ba, .ref gu, .int ps_5, .int ps_6, .int ps_7])), (p, .inr (7, [.ref te, .ref de, .int (nI p_2)])), (te, .inl (E.2.2.1 0, 8, .inl te_f)), (de, .inl (E.2.2.1 0, 8, .inl de_f))] (fun v_ w_ => ∃ zfi_1 : Int32, ∃ zfia_f : Nat → Int32, ∃ zse_1 : Int32, ∃ zsea_f : Nat → Int32, (∀ (β : Type) (k_ : Int32 → (Nat → Int32) → Int32 → (Nat → Int32) → β), fn_wk_X4_writeHeads w_4 w_5 w_6 w_7 p_2 te_f de_f fi_1 fia_f se_1 sea_f β k_ = k_ zfi_1 zfia_f zse_1 zsea_f) ∧ v_ = none ∧ w_ = [(e, .inr (4, [.ref fi, .ref se, .ref b1, .ref b2, .ref sh])), (fi, .inr (2, [.ref fia, .int zfi_1])), (fia, .inl (E.2.2.1 1, 9600, .inl (nb zfia_f))), (se, .inr (2, [.ref sea, .int zse_1])), (sea, .inl (E.2.2.1 1, 2450, .inl (nb zsea_f))), (w, .inr (9, [.ref ps, .ref md, .int (nI w_2), .int (nI w_3), .int (nI w_4), .int w_5, .int w_6, .int w_7, .int w_8, .int w_9, .int w_10, .int w_11])), (ps, .inr (6, [.ref p, .ref we, .ref inp, .ref ba, .ref gu, .int ps_5, .int ps_6, .int ps_7])), (p, .inr (7, [.ref te, .ref de, .int (nI p_2)])), (te, .inl (E.2.2.1 0, 8, .inl te_f)), (de, .inl (E.2.2.1 0, 8, .inl de_f))]) := by
  refine Ev.intro (by decide) (Nat.le_of_ble_eq_true rfl) ?_
  intro X B hr hI
  have B : Bd E X cX4_writeHeads RX4 4 2 43 0 0 := B
  have hr : Rt E X none 0 0 (fun v_ w_ => ∃ zfi_1 : Int32, ∃ zfia_f : Nat → Int32, ∃ zse_1 : Int32, ∃ zsea_f : Nat → Int32, (∀ (β : Type) (k_ : Int32 → (Nat → Int32) → Int32 → (Nat → Int32) → β), fn_wk_X4_writeHeads w_4 w_5 w_6 w_7 p_2 te_f de_f fi_1 fia_f se_1 sea_f β k_ = k_ zfi_1 zfia_f zse_1 zsea_f) ∧ v_ = none ∧ w_ = [(e, .inr (4, [.ref fi, .ref se, .ref b1, .ref b2, .ref sh])), (fi, .inr (2, [.ref fia, .int zfi_1])), (fia, .inl (E.2.2.1 1, 9600, .inl (nb zfia_f))), (se, .inr (2, [.ref sea, .int zse_1])), (sea, .inl (E.2.2.1 1, 2450, .inl (nb zsea_f))), (w, .inr (9, [.ref ps, .ref md, .int (nI w_2), .int (nI w_3), .int (nI w_4), .int w_5, .int w_6, .int w_7, .int w_8, .int w_9, .int w_10, .int w_11])), (ps, .inr (6, [.ref p, .ref we, .ref inp, .ref ba, .ref gu, .int ps_5, .int ps_6, .int ps_7])), (p, .inr (7, [.ref te, .ref de, .int (nI p_2)])), (te, .inl (E.2.2.1 0, 8, .inl te_f)), (de, .inl (E.2.2.1 0, 8, .inl de_f))]) := hr
  have e_ := fun (β : Type) (k_ : Int32 → (Nat → Int32) → Int32 → (Nat → Int32) → β) => fn_wk_X4_writeHeads_s (β := β) (k_ := k_) (w_4 := w_4) (w_5 := w_5) (w_6 := w_6) (w_7 := w_7) (p_2 := p_2) (te_f := te_f) (de_f := de_f) (fi_1 := fi_1) (fia_f := fia_f) (se_1 := se_1) (sea_f := sea_f)
  show G E X 4 [(e, .inr (4, [.ref fi, .ref se, .ref b1, .ref b2, .ref sh])), (fi, .inr (2, [.ref fia, .int fi_1])), (fia, .inl (E.2.2.1 1, 9600, .inl (nb fia_f))), (se, .inr (2, [.ref sea, .int se_1])), (sea, .inl (E.2.2.1 1, 2450, .inl (nb sea_f))), (w, .inr (9, [.ref ps, .ref md, .int (nI w_2), .int (nI w_3), .int (nI w_4), .int w_5, .int w_6, .int w_7, .int w_8, .int w_9, .int w_10, .int w_11])), (ps, .inr (6, [.ref p, .ref we, .ref inp, .ref ba, .ref gu, .int ps_5, .int ps_6, .int ps_7])), (p, .inr (7, [.ref te, .ref de, .int (nI p_2)])), (te, .inl (E.2.2.1 0, 8, .inl te_f)), (de, .inl (E.2.2.1 0, 8, .inl de_f))] 0 0 [(0, .ref e), (1, .ref w)] 0 []
  refine g_aload_n B dX4_writeHeads_0 rfl 0 rfl ?_
  refine g_get B 0 0 fl_X4_9 rfl rfl dX4_writeHeads_1 ?_
  refine g_iconst (v := 0) B dX4_writeHeads_4 (by decide) ?_
  refine g_callV (st := []) (As := [.int 0]) (wr := [(e, .inr (4, [.ref fi, .ref se, .ref b1, .ref b2, .ref sh])), (se, .inr (2, [.ref sea, .int se_1])), (sea, .inl (E.2.2.1 1, 2450, .inl (nb sea_f))), (w, .inr (9, [.ref ps, .ref md, .int (nI w_2), .int (nI w_3), .int (nI w_4), .int w_5, .int w_6, .int w_7, .int w_8, .int w_9, .int w_10, .int w_11])), (ps, .inr (6, [.ref p, .ref we, .ref inp, .ref ba, .ref gu, .int ps_5, .int ps_6, .int ps_7])), (p, .inr (7, [.ref te, .ref de, .int (nI p_2)])), (te, .inl (E.2.2.1 0, 8, .inl te_f)), (de, .inl (E.2.2.1 0, 8, .inl de_f))]) (nc' := 0) (ns' := 0) B cl_X4_73 w_im_X2_shorten w_se_X2_shorten (wk_X2_shorten E fi fia 9600 fia_f fi_1 0 (by first | assumption | omega | decide)) rfl [1, 2] [0, 3, 4, 5, 6, 7, 8, 9] rfl rfl (by decide) (by decide) (by decide) 0 rfl (fun q h => by cases h; rfl) rfl ⟨by decide, by decide⟩ rfl rfl (by decide) (by decide) rfl (Nat.le_of_ble_eq_true rfl) dX4_writeHeads_5 (fun v w hq => ?_)
  obtain ⟨zt_1_466, zr_467, hf_468, hz_469, rfl, rfl⟩ := hq
  replace e_ := fun β k_ => (e_ β k_).trans (hz_469 β _)
  show G E X 4 [(e, .inr (4, [.ref fi, .ref se, .ref b1, .ref b2, .ref sh])), (se, .inr (2, [.ref sea, .int se_1])), (sea, .inl (E.2.2.1 1, 2450, .inl (nb sea_f))), (w, .inr (9, [.ref ps, .ref md, .int (nI w_2), .int (nI w_3), .int (nI w_4), .int w_5, .int w_6, .int w_7, .int w_8, .int w_9, .int w_10, .int w_11])), (ps, .inr (6, [.ref p, .ref we, .ref inp, .ref ba, .ref gu, .int ps_5, .int ps_6, .int ps_7])), (p, .inr (7, [.ref te, .ref de, .int (nI p_2)])), (te, .inl (E.2.2.1 0, 8, .inl te_f)), (de, .inl (E.2.2.1 0, 8, .inl de_f)), (fi, .inr (2, [.ref fia, .int zt_1_466])), (fia, .inl (E.2.2.1 1, 9600, .inl (nb fia_f)))] 0 0 [(0, .ref e), (1, .ref w)] 8 [.int zr_467]
  refine g_pop B dX4_writeHeads_8 rfl ?_
  refine g_aload_n B dX4_writeHeads_9 rfl 0 rfl ?_
  refine g_get B 0 0 fl_X4_9 rfl rfl dX4_writeHeads_10 ?_
  refine g_bipush (v := 83) B dX4_writeHeads_13 (by decide) ?_
  refine g_callV (st := []) (As := [.int 83]) (wr := [(e, .inr (4, [.ref fi, .ref se, .ref b1, .ref b2, .ref sh])), (se, .inr (2, [.ref sea, .int se_1])), (sea, .inl (E.2.2.1 1, 2450, .inl (nb sea_f))), (w, .inr (9, [.ref ps, .ref md, .int (nI w_2), .int (nI w_3), .int (nI w_4), .int w_5, .int w_6, .int w_7, .int w_8, .int w_9, .int w_10, .int w_11])), (ps, .inr (6, [.ref p, .ref we, .ref inp, .ref ba, .ref gu, .int ps_5, .int ps_6, .int ps_7])), (p, .inr (7, [.ref te, .ref de, .int (nI p_2)])), (te, .inl (E.2.2.1 0, 8, .inl te_f)), (de, .inl (E.2.2.1 0, 8, .inl de_f))]) (nc' := 0) (ns' := 0) B cl_X4_79 w_im_X2_add w_se_X2_add (wk_X2_add E fi fia 9600 zt_1_466 fia_f 83 (by first | assumption | omega | decide)) rfl [8, 9] [0, 1, 2, 3, 4, 5, 6, 7] rfl rfl (by decide) (by decide) (by decide) 0 rfl (fun q h => by cases h; rfl) rfl ⟨by decide, by decide⟩ rfl rfl (by decide) (by decide) rfl (Nat.le_of_ble_eq_true rfl) dX4_writeHeads_15 (fun v w hq => ?_)
  obtain ⟨zt_1_470, za_f_471, hz_472, rfl, rfl⟩ := hq
  replace e_ := fun β k_ => (e_ β k_).trans (hz_472 β _)
  show G E X 4 [(e, .inr (4, [.ref fi, .ref se, .ref b1, .ref b2, .ref sh])), (se, .inr (2, [.ref sea, .int se_1])), (sea, .inl (E.2.2.1 1, 2450, .inl (nb sea_f))), (w, .inr (9, [.ref ps, .ref md, .int (nI w_2), .int (nI w_3), .int (nI w_4), .int w_5, .int w_6, .int w_7, .int w_8, .int w_9, .int w_10, .int w_11])), (ps, .inr (6, [.ref p, .ref we, .ref inp, .ref ba, .ref gu, .int ps_5, .int ps_6, .int ps_7])), (p, .inr (7, [.ref te, .ref de, .int (nI p_2)])), (te, .inl (E.2.2.1 0, 8, .inl te_f)), (de, .inl (E.2.2.1 0, 8, .inl de_f)), (fi, .inr (2, [.ref fia, .int zt_1_470])), (fia, .inl (E.2.2.1 1, 9600, .inl (nb za_f_471)))] 0 0 [(0, .ref e), (1, .ref w)] 18 []
  refine g_aload_n B dX4_writeHeads_18 rfl 0 rfl ?_
  refine g_get B 0 0 fl_X4_9 rfl rfl dX4_writeHeads_19 ?_
  refine g_aload_n B dX4_writeHeads_22 rfl 1 rfl ?_
  refine g_get B 3 5 fl_X4_82 rfl rfl dX4_writeHeads_23 ?_
  refine g_callV (st := []) (As := [.int w_5]) (wr := [(e, .inr (4, [.ref fi, .ref se, .ref b1, .ref b2, .ref sh])), (se, .inr (2, [.ref sea, .int se_1])), (sea, .inl (E.2.2.1 1, 2450, .inl (nb sea_f))), (w, .inr (9, [.ref ps, .ref md, .int (nI w_2), .int (nI w_3), .int (nI w_4), .int w_5, .int w_6, .int w_7, .int w_8, .int w_9, .int w_10, .int w_11])), (ps, .inr (6, [.ref p, .ref we, .ref inp, .ref ba, .ref gu, .int ps_5, .int ps_6, .int ps_7])), (p, .inr (7, [.ref te, .ref de, .int (nI p_2)])), (te, .inl (E.2.2.1 0, 8, .inl te_f)), (de, .inl (E.2.2.1 0, 8, .inl de_f))]) (nc' := 0) (ns' := 0) B cl_X4_79 w_im_X2_add w_se_X2_add (wk_X2_add E fi fia 9600 zt_1_470 za_f_471 w_5 (by first | assumption | omega | decide)) rfl [8, 9] [0, 1, 2, 3, 4, 5, 6, 7] rfl rfl (by decide) (by decide) (by decide) 0 rfl (fun q h => by cases h; rfl) rfl ⟨by decide, by decide⟩ rfl rfl (by decide) (by decide) rfl (Nat.le_of_ble_eq_true rfl) dX4_writeHeads_26 (fun v w hq => ?_)
  obtain ⟨zt_1_473, za_f_474, hz_475, rfl, rfl⟩ := hq
  replace e_ := fun β k_ => (e_ β k_).trans (hz_475 β _)
  show G E X 4 [(e, .inr (4, [.ref fi, .ref se, .ref b1, .ref b2, .ref sh])), (se, .inr (2, [.ref sea, .int se_1])), (sea, .inl (E.2.2.1 1, 2450, .inl (nb sea_f))), (w, .inr (9, [.ref ps, .ref md, .int (nI w_2), .int (nI w_3), .int (nI w_4), .int w_5, .int w_6, .int w_7, .int w_8, .int w_9, .int w_10, .int w_11])), (ps, .inr (6, [.ref p, .ref we, .ref inp, .ref ba, .ref gu, .int ps_5, .int ps_6, .int ps_7])), (p, .inr (7, [.ref te, .ref de, .int (nI p_2)])), (te, .inl (E.2.2.1 0, 8, .inl te_f)), (de, .inl (E.2.2.1 0, 8, .inl de_f)), (fi, .inr (2, [.ref fia, .int zt_1_473])), (fia, .inl (E.2.2.1 1, 9600, .inl (nb za_f_474)))] 0 0 [(0, .ref e), (1, .ref w)] 29 []
  refine g_aload_n B dX4_writeHeads_29 rfl 0 rfl ?_
  refine g_get B 0 0 fl_X4_9 rfl rfl dX4_writeHeads_30 ?_
  refine g_aload_n B dX4_writeHeads_33 rfl 1 rfl ?_
  refine g_get B 3 6 fl_X4_85 rfl rfl dX4_writeHeads_34 ?_
  refine g_callV (st := []) (As := [.int w_6]) (wr := [(e, .inr (4, [.ref fi, .ref se, .ref b1, .ref b2, .ref sh])), (se, .inr (2, [.ref sea, .int se_1])), (sea, .inl (E.2.2.1 1, 2450, .inl (nb sea_f))), (w, .inr (9, [.ref ps, .ref md, .int (nI w_2), .int (nI w_3), .int (nI w_4), .int w_5, .int w_6, .int w_7, .int w_8, .int w_9, .int w_10, .int w_11])), (ps, .inr (6, [.ref p, .ref we, .ref inp, .ref ba, .ref gu, .int ps_5, .int ps_6, .int ps_7])), (p, .inr (7, [.ref te, .ref de, .int (nI p_2)])), (te, .inl (E.2.2.1 0, 8, .inl te_f)), (de, .inl (E.2.2.1 0, 8, .inl de_f))]) (nc' := 0) (ns' := 0) B cl_X4_79 w_im_X2_add w_se_X2_add (wk_X2_add E fi fia 9600 zt_1_473 za_f_474 w_6 (by first | assumption | omega | decide)) rfl [8, 9] [0, 1, 2, 3, 4, 5, 6, 7] rfl rfl (by decide) (by decide) (by decide) 0 rfl (fun q h => by cases h; rfl) rfl ⟨by decide, by decide⟩ rfl rfl (by decide) (by decide) rfl (Nat.le_of_ble_eq_true rfl) dX4_writeHeads_37 (fun v w hq => ?_)
  obtain ⟨zt_1_476, za_f_477, hz_478, rfl, rfl⟩ := hq
  replace e_ := fun β k_ => (e_ β k_).trans (hz_478 β _)
  show G E X 4 [(e, .inr (4, [.ref fi, .ref se, .ref b1, .ref b2, .ref sh])), (se, .inr (2, [.ref sea, .int se_1])), (sea, .inl (E.2.2.1 1, 2450, .inl (nb sea_f))), (w, .inr (9, [.ref ps, .ref md, .int (nI w_2), .int (nI w_3), .int (nI w_4), .int w_5, .int w_6, .int w_7, .int w_8, .int w_9, .int w_10, .int w_11])), (ps, .inr (6, [.ref p, .ref we, .ref inp, .ref ba, .ref gu, .int ps_5, .int ps_6, .int ps_7])), (p, .inr (7, [.ref te, .ref de, .int (nI p_2)])), (te, .inl (E.2.2.1 0, 8, .inl te_f)), (de, .inl (E.2.2.1 0, 8, .inl de_f)), (fi, .inr (2, [.ref fia, .int zt_1_476])), (fia, .inl (E.2.2.1 1, 9600, .inl (nb za_f_477)))] 0 0 [(0, .ref e), (1, .ref w)] 40 []
  refine g_aload_n B dX4_writeHeads_40 rfl 0 rfl ?_
  refine g_get B 0 0 fl_X4_9 rfl rfl dX4_writeHeads_41 ?_
  refine g_aload_n B dX4_writeHeads_44 rfl 1 rfl ?_
  refine g_get B 3 4 fl_X4_47 rfl rfl dX4_writeHeads_45 ?_
  refine g_bipush (v := 8) B dX4_writeHeads_48 (by decide) ?_
  refine g_ishr B dX4_writeHeads_50 ?_
  refine g_callV (st := []) (As := [.int (nI w_4 >>> (8 &&& 31))]) (wr := [(e, .inr (4, [.ref fi, .ref se, .ref b1, .ref b2, .ref sh])), (se, .inr (2, [.ref sea, .int se_1])), (sea, .inl (E.2.2.1 1, 2450, .inl (nb sea_f))), (w, .inr (9, [.ref ps, .ref md, .int (nI w_2), .int (nI w_3), .int (nI w_4), .int w_5, .int w_6, .int w_7, .int w_8, .int w_9, .int w_10, .int w_11])), (ps, .inr (6, [.ref p, .ref we, .ref inp, .ref ba, .ref gu, .int ps_5, .int ps_6, .int ps_7])), (p, .inr (7, [.ref te, .ref de, .int (nI p_2)])), (te, .inl (E.2.2.1 0, 8, .inl te_f)), (de, .inl (E.2.2.1 0, 8, .inl de_f))]) (nc' := 0) (ns' := 0) B cl_X4_79 w_im_X2_add w_se_X2_add (wk_X2_add E fi fia 9600 zt_1_476 za_f_477 (nI w_4 >>> (8 &&& 31)) (by first | assumption | omega | decide)) rfl [8, 9] [0, 1, 2, 3, 4, 5, 6, 7] rfl rfl (by decide) (by decide) (by decide) 0 rfl (fun q h => by cases h; rfl) rfl ⟨by decide, by decide⟩ rfl rfl (by decide) (by decide) rfl (Nat.le_of_ble_eq_true rfl) dX4_writeHeads_51 (fun v w hq => ?_)
  obtain ⟨zt_1_479, za_f_480, hz_481, rfl, rfl⟩ := hq
  replace e_ := fun β k_ => (e_ β k_).trans (hz_481 β _)
  show G E X 4 [(e, .inr (4, [.ref fi, .ref se, .ref b1, .ref b2, .ref sh])), (se, .inr (2, [.ref sea, .int se_1])), (sea, .inl (E.2.2.1 1, 2450, .inl (nb sea_f))), (w, .inr (9, [.ref ps, .ref md, .int (nI w_2), .int (nI w_3), .int (nI w_4), .int w_5, .int w_6, .int w_7, .int w_8, .int w_9, .int w_10, .int w_11])), (ps, .inr (6, [.ref p, .ref we, .ref inp, .ref ba, .ref gu, .int ps_5, .int ps_6, .int ps_7])), (p, .inr (7, [.ref te, .ref de, .int (nI p_2)])), (te, .inl (E.2.2.1 0, 8, .inl te_f)), (de, .inl (E.2.2.1 0, 8, .inl de_f)), (fi, .inr (2, [.ref fia, .int zt_1_479])), (fia, .inl (E.2.2.1 1, 9600, .inl (nb za_f_480)))] 0 0 [(0, .ref e), (1, .ref w)] 54 []
  refine g_aload_n B dX4_writeHeads_54 rfl 0 rfl ?_
  refine g_get B 0 0 fl_X4_9 rfl rfl dX4_writeHeads_55 ?_
  refine g_aload_n B dX4_writeHeads_58 rfl 1 rfl ?_
  refine g_get B 3 4 fl_X4_47 rfl rfl dX4_writeHeads_59 ?_
  refine g_callV (st := []) (As := [.int (nI w_4)]) (wr := [(e, .inr (4, [.ref fi, .ref se, .ref b1, .ref b2, .ref sh])), (se, .inr (2, [.ref sea, .int se_1])), (sea, .inl (E.2.2.1 1, 2450, .inl (nb sea_f))), (w, .inr (9, [.ref ps, .ref md, .int (nI w_2), .int (nI w_3), .int (nI w_4), .int w_5, .int w_6, .int w_7, .int w_8, .int w_9, .int w_10, .int w_11])), (ps, .inr (6, [.ref p, .ref we, .ref inp, .ref ba, .ref gu, .int ps_5, .int ps_6, .int ps_7])), (p, .inr (7, [.ref te, .ref de, .int (nI p_2)])), (te, .inl (E.2.2.1 0, 8, .inl te_f)), (de, .inl (E.2.2.1 0, 8, .inl de_f))]) (nc' := 0) (ns' := 0) B cl_X4_79 w_im_X2_add w_se_X2_add (wk_X2_add E fi fia 9600 zt_1_479 za_f_480 (nI w_4) (by first | assumption | omega | decide)) rfl [8, 9] [0, 1, 2, 3, 4, 5, 6, 7] rfl rfl (by decide) (by decide) (by decide) 0 rfl (fun q h => by cases h; rfl) rfl ⟨by decide, by decide⟩ rfl rfl (by decide) (by decide) rfl (Nat.le_of_ble_eq_true rfl) dX4_writeHeads_62 (fun v w hq => ?_)
  obtain ⟨zt_1_482, za_f_483, hz_484, rfl, rfl⟩ := hq
  replace e_ := fun β k_ => (e_ β k_).trans (hz_484 β _)
  show G E X 4 [(e, .inr (4, [.ref fi, .ref se, .ref b1, .ref b2, .ref sh])), (se, .inr (2, [.ref sea, .int se_1])), (sea, .inl (E.2.2.1 1, 2450, .inl (nb sea_f))), (w, .inr (9, [.ref ps, .ref md, .int (nI w_2), .int (nI w_3), .int (nI w_4), .int w_5, .int w_6, .int w_7, .int w_8, .int w_9, .int w_10, .int w_11])), (ps, .inr (6, [.ref p, .ref we, .ref inp, .ref ba, .ref gu, .int ps_5, .int ps_6, .int ps_7])), (p, .inr (7, [.ref te, .ref de, .int (nI p_2)])), (te, .inl (E.2.2.1 0, 8, .inl te_f)), (de, .inl (E.2.2.1 0, 8, .inl de_f)), (fi, .inr (2, [.ref fia, .int zt_1_482])), (fia, .inl (E.2.2.1 1, 9600, .inl (nb za_f_483)))] 0 0 [(0, .ref e), (1, .ref w)] 65 []
  refine g_aload_n B dX4_writeHeads_65 rfl 1 rfl ?_
  refine g_get B 3 0 fl_X4_88 rfl rfl dX4_writeHeads_66 ?_
  refine g_get B 4 0 fl_X4_92 rfl rfl dX4_writeHeads_69 ?_
  refine g_astore_n (lv' := [(2, .ref p), (0, .ref e), (1, .ref w)]) B dX4_writeHeads_72 rfl (by decide) rfl ?_
  refine g_aload_n B dX4_writeHeads_73 rfl 1 rfl ?_
  refine g_get B 0 0 fl_X4_9 rfl rfl dX4_writeHeads_74 ?_
  refine g_aload_n B dX4_writeHeads_77 rfl 0 rfl ?_
  refine g_get B 5 2 fl_X4_98 rfl rfl dX4_writeHeads_78 ?_
  refine g_callV (st := []) (As := [.int (nI p_2)]) (wr := [(e, .inr (4, [.ref fi, .ref se, .ref b1, .ref b2, .ref sh])), (se, .inr (2, [.ref sea, .int se_1])), (sea, .inl (E.2.2.1 1, 2450, .inl (nb sea_f))), (w, .inr (9, [.ref ps, .ref md, .int (nI w_2), .int (nI w_3), .int (nI w_4), .int w_5, .int w_6, .int w_7, .int w_8, .int w_9, .int w_10, .int w_11])), (ps, .inr (6, [.ref p, .ref we, .ref inp, .ref ba, .ref gu, .int ps_5, .int ps_6, .int ps_7])), (p, .inr (7, [.ref te, .ref de, .int (nI p_2)])), (te, .inl (E.2.2.1 0, 8, .inl te_f)), (de, .inl (E.2.2.1 0, 8, .inl de_f))]) (nc' := 0) (ns' := 0) B cl_X4_79 w_im_X2_add w_se_X2_add (wk_X2_add E fi fia 9600 zt_1_482 za_f_483 (nI p_2) (by first | assumption | omega | decide)) rfl [8, 9] [0, 1, 2, 3, 4, 5, 6, 7] rfl rfl (by decide) (by decide) (by decide) 0 rfl (fun q h => by cases h; rfl) rfl ⟨by decide, by decide⟩ rfl rfl (by decide) (by decide) rfl (Nat.le_of_ble_eq_true rfl) dX4_writeHeads_81 (fun v w hq => ?_)
  obtain ⟨zt_1_485, za_f_486, hz_487, rfl, rfl⟩ := hq
  replace e_ := fun β k_ => (e_ β k_).trans (hz_487 β _)
  show G E X 4 [(e, .inr (4, [.ref fi, .ref se, .ref b1, .ref b2, .ref sh])), (se, .inr (2, [.ref sea, .int se_1])), (sea, .inl (E.2.2.1 1, 2450, .inl (nb sea_f))), (w, .inr (9, [.ref ps, .ref md, .int (nI w_2), .int (nI w_3), .int (nI w_4), .int w_5, .int w_6, .int w_7, .int w_8, .int w_9, .int w_10, .int w_11])), (ps, .inr (6, [.ref p, .ref we, .ref inp, .ref ba, .ref gu, .int ps_5, .int ps_6, .int ps_7])), (p, .inr (7, [.ref te, .ref de, .int (nI p_2)])), (te, .inl (E.2.2.1 0, 8, .inl te_f)), (de, .inl (E.2.2.1 0, 8, .inl de_f)), (fi, .inr (2, [.ref fia, .int zt_1_485])), (fia, .inl (E.2.2.1 1, 9600, .inl (nb za_f_486)))] 0 0 [(2, .ref p), (0, .ref e), (1, .ref w)] 84 []
  refine g_iconst (v := 0) B dX4_writeHeads_84 (by decide) ?_
  refine g_istore_n (lv' := [(3, .int 0), (2, .ref p), (0, .ref e), (1, .ref w)]) B dX4_writeHeads_85 rfl (by decide) rfl ?_
  refine g_sub (ws' := [(e, .inr (4, [.ref fi, .ref se, .ref b1, .ref b2, .ref sh])), (fi, .inr (2, [.ref fia, .int zt_1_485])), (fia, .inl (E.2.2.1 1, 9600, .inl (nb za_f_486))), (se, .inr (2, [.ref sea, .int se_1])), (sea, .inl (E.2.2.1 1, 2450, .inl (nb sea_f))), (w, .inr (9, [.ref ps, .ref md, .int (nI w_2), .int (nI w_3), .int (nI w_4), .int w_5, .int w_6, .int w_7, .int w_8, .int w_9, .int w_10, .int w_11])), (ps, .inr (6, [.ref p, .ref we, .ref inp, .ref ba, .ref gu, .int ps_5, .int ps_6, .int ps_7])), (p, .inr (7, [.ref te, .ref de, .int (nI p_2)])), (te, .inl (E.2.2.1 0, 8, .inl te_f)), (de, .inl (E.2.2.1 0, 8, .inl de_f))]) [0, 8, 9, 1, 2, 3, 4, 5, 6, 7] (by decide) rfl ?_
  refine g_lvsub (lv' := [(0, .ref e), (1, .ref w), (2, .ref p), (3, .int 0)]) [2, 3, 1, 0] rfl ?_
  refine lp_wk_X4_writeHeads_86 E e fi se b1 b2 sh fia sea w ps md p we inp ba gu te de w_2 w_3 w_4 w_5 w_6 w_7 w_8 w_9 w_10 w_11 ps_5 ps_6 ps_7 p_2 te_f de_f hk0 hk1 hk2 hk3 _ B hr (fun y_496fi_1 y_496fia_f y_496se_1 y_496sea_f y_496l3 e_ => ?_) _ zt_1_485 za_f_486 se_1 sea_f 0 (by decide) (Nat.lt_succ_self _) e_
  refine g_aload_n B dX4_writeHeads_132 rfl 1 rfl ?_
  refine g_get B 5 7 fl_X4_38 rfl rfl dX4_writeHeads_133 ?_
  refine g_if_le (tgt := 164) B dX4_writeHeads_136 (by decide) (fun c136_497 => ?_) (fun c136_497 => ?_)
  · replace e_ := fun β k_ => (e_ β k_).trans (if_pos c136_497)
    refine g_aload_n B dX4_writeHeads_164 rfl 0 rfl ?_
    refine g_get B 0 1 fl_X4_15 rfl rfl dX4_writeHeads_165 ?_
    refine g_iconst (v := 0) B dX4_writeHeads_168 (by decide) ?_
    refine g_callV (st := []) (As := [.int 0]) (wr := [(e, .inr (4, [.ref fi, .ref se, .ref b1, .ref b2, .ref sh])), (fi, .inr (2, [.ref fia, .int y_496fi_1])), (fia, .inl (E.2.2.1 1, 9600, .inl (nb y_496fia_f))), (w, .inr (9, [.ref ps, .ref md, .int (nI w_2), .int (nI w_3), .int (nI w_4), .int w_5, .int w_6, .int w_7, .int w_8, .int w_9, .int w_10, .int w_11])), (ps, .inr (6, [.ref p, .ref we, .ref inp, .ref ba, .ref gu, .int ps_5, .int ps_6, .int ps_7])), (p, .inr (7, [.ref te, .ref de, .int (nI p_2)])), (te, .inl (E.2.2.1 0, 8, .inl te_f)), (de, .inl (E.2.2.1 0, 8, .inl de_f))]) (nc' := 0) (ns' := 0) B cl_X4_73 w_im_X2_shorten w_se_X2_shorten (wk_X2_shorten E se sea 2450 y_496sea_f y_496se_1 0 (by first | assumption | omega | decide)) rfl [3, 4] [0, 1, 2, 5, 6, 7, 8, 9] rfl rfl (by decide) (by decide) (by decide) 0 rfl (fun q h => by cases h; rfl) rfl ⟨by decide, by decide⟩ rfl rfl (by decide) (by decide) rfl (Nat.le_of_ble_eq_true rfl) dX4_writeHeads_169 (fun v w hq => ?_)
    obtain ⟨zt_1_498, zr_499, hf_500, hz_501, rfl, rfl⟩ := hq
    replace e_ := fun β k_ => (e_ β k_).trans (hz_501 β _)
    show G E X 4 [(e, .inr (4, [.ref fi, .ref se, .ref b1, .ref b2, .ref sh])), (fi, .inr (2, [.ref fia, .int y_496fi_1])), (fia, .inl (E.2.2.1 1, 9600, .inl (nb y_496fia_f))), (w, .inr (9, [.ref ps, .ref md, .int (nI w_2), .int (nI w_3), .int (nI w_4), .int w_5, .int w_6, .int w_7, .int w_8, .int w_9, .int w_10, .int w_11])), (ps, .inr (6, [.ref p, .ref we, .ref inp, .ref ba, .ref gu, .int ps_5, .int ps_6, .int ps_7])), (p, .inr (7, [.ref te, .ref de, .int (nI p_2)])), (te, .inl (E.2.2.1 0, 8, .inl te_f)), (de, .inl (E.2.2.1 0, 8, .inl de_f)), (se, .inr (2, [.ref sea, .int zt_1_498])), (sea, .inl (E.2.2.1 1, 2450, .inl (nb y_496sea_f)))] 0 0 [(0, .ref e), (1, .ref w), (2, .ref p), (3, .int y_496l3)] 172 [.int zr_499]
    refine g_pop B dX4_writeHeads_172 rfl ?_
    refine g_aload_n B dX4_writeHeads_173 rfl 0 rfl ?_
    refine g_get B 0 1 fl_X4_15 rfl rfl dX4_writeHeads_174 ?_
    refine g_bipush (v := 67) B dX4_writeHeads_177 (by decide) ?_
    refine g_callV (st := []) (As := [.int 67]) (wr := [(e, .inr (4, [.ref fi, .ref se, .ref b1, .ref b2, .ref sh])), (fi, .inr (2, [.ref fia, .int y_496fi_1])), (fia, .inl (E.2.2.1 1, 9600, .inl (nb y_496fia_f))), (w, .inr (9, [.ref ps, .ref md, .int (nI w_2), .int (nI w_3), .int (nI w_4), .int w_5, .int w_6, .int w_7, .int w_8, .int w_9, .int w_10, .int w_11])), (ps, .inr (6, [.ref p, .ref we, .ref inp, .ref ba, .ref gu, .int ps_5, .int ps_6, .int ps_7])), (p, .inr (7, [.ref te, .ref de, .int (nI p_2)])), (te, .inl (E.2.2.1 0, 8, .inl te_f)), (de, .inl (E.2.2.1 0, 8, .inl de_f))]) (nc' := 0) (ns' := 0) B cl_X4_79 w_im_X2_add w_se_X2_add (wk_X2_add E se sea 2450 zt_1_498 y_496sea_f 67 (by first | assumption | omega | decide)) rfl [8, 9] [0, 1, 2, 3, 4, 5, 6, 7] rfl rfl (by decide) (by decide) (by decide) 0 rfl (fun q h => by cases h; rfl) rfl ⟨by decide, by decide⟩ rfl rfl (by decide) (by decide) rfl (Nat.le_of_ble_eq_true rfl) dX4_writeHeads_179 (fun v w hq => ?_)
    obtain ⟨zt_1_502, za_f_503, hz_504, rfl, rfl⟩ := hq
    replace e_ := fun β k_ => (e_ β k_).trans (hz_504 β _)
    show G E X 4 [(e, .inr (4, [.ref fi, .ref se, .ref b1, .ref b2, .ref sh])), (fi, .inr (2, [.ref fia, .int y_496fi_1])), (fia, .inl (E.2.2.1 1, 9600, .inl (nb y_496fia_f))), (w, .inr (9, [.ref ps, .ref md, .int (nI w_2), .int (nI w_3), .int (nI w_4), .int w_5, .int w_6, .int w_7, .int w_8, .int w_9, .int w_10, .int w_11])), (ps, .inr (6, [.ref p, .ref we, .ref inp, .ref ba, .ref gu, .int ps_5, .int ps_6, .int ps_7])), (p, .inr (7, [.ref te, .ref de, .int (nI p_2)])), (te, .inl (E.2.2.1 0, 8, .inl te_f)), (de, .inl (E.2.2.1 0, 8, .inl de_f)), (se, .inr (2, [.ref sea, .int zt_1_502])), (sea, .inl (E.2.2.1 1, 2450, .inl (nb za_f_503)))] 0 0 [(0, .ref e), (1, .ref w), (2, .ref p), (3, .int y_496l3)] 182 []
    refine g_aload_n B dX4_writeHeads_182 rfl 0 rfl ?_
    refine g_get B 0 1 fl_X4_15 rfl rfl dX4_writeHeads_183 ?_
    refine g_iconst (v := 0) B dX4_writeHeads_186 (by decide) ?_
    refine g_callV (st := []) (As := [.int 0]) (wr := [(e, .inr (4, [.ref fi, .ref se, .ref b1, .ref b2, .ref sh])), (fi, .inr (2, [.ref fia, .int y_496fi_1])), (fia, .inl (E.2.2.1 1, 9600, .inl (nb y_496fia_f))), (w, .inr (9, [.ref ps, .ref md, .int (nI w_2), .int (nI w_3), .int (nI w_4), .int w_5, .int w_6, .int w_7, .int w_8, .int w_9, .int w_10, .int w_11])), (ps, .inr (6, [.ref p, .ref we, .ref inp, .ref ba, .ref gu, .int ps_5, .int ps_6, .int ps_7])), (p, .inr (7, [.ref te, .ref de, .int (nI p_2)])), (te, .inl (E.2.2.1 0, 8, .inl te_f)), (de, .inl (E.2.2.1 0, 8, .inl de_f))]) (nc' := 0) (ns' := 0) B cl_X4_110 w_im_X2_addWord w_se_X2_addWord (wk_X2_addWord E se sea 2450 zt_1_502 za_f_503 0 (by first | assumption | omega | decide)) rfl [8, 9] [0, 1, 2, 3, 4, 5, 6, 7] rfl rfl (by decide) (by decide) (by decide) 0 rfl (fun q h => by cases h; rfl) rfl ⟨by decide, by decide⟩ rfl rfl (by decide) (by decide) rfl (Nat.le_of_ble_eq_true rfl) dX4_writeHeads_187 (fun v w hq => ?_)
    obtain ⟨zt_1_505, za_f_506, hz_507, rfl, rfl⟩ := hq
    replace e_ := fun β k_ => (e_ β k_).trans (hz_507 β _)
    show G E X 4 [(e, .inr (4, [.ref fi, .ref se, .ref b1, .ref b2, .ref sh])), (fi, .inr (2, [.ref fia, .int y_496fi_1])), (fia, .inl (E.2.2.1 1, 9600, .inl (nb y_496fia_f))), (w, .inr (9, [.ref ps, .ref md, .int (nI w_2), .int (nI w_3), .int (nI w_4), .int w_5, .int w_6, .int w_7, .int w_8, .int w_9, .int w_10, .int w_11])), (ps, .inr (6, [.ref p, .ref we, .ref inp, .ref ba, .ref gu, .int ps_5, .int ps_6, .int ps_7])), (p, .inr (7, [.ref te, .ref de, .int (nI p_2)])), (te, .inl (E.2.2.1 0, 8, .inl te_f)), (de, .inl (E.2.2.1 0, 8, .inl de_f)), (se, .inr (2, [.ref sea, .int zt_1_505])), (sea, .inl (E.2.2.1 1, 2450, .inl (nb za_f_506)))] 0 0 [(0, .ref e), (1, .ref w), (2, .ref p), (3, .int y_496l3)] 190 []
    refine g_sub (ws' := [(e, .inr (4, [.ref fi, .ref se, .ref b1, .ref b2, .ref sh])), (fi, .inr (2, [.ref fia, .int y_496fi_1])), (fia, .inl (E.2.2.1 1, 9600, .inl (nb y_496fia_f))), (se, .inr (2, [.ref sea, .int zt_1_505])), (sea, .inl (E.2.2.1 1, 2450, .inl (nb za_f_506))), (w, .inr (9, [.ref ps, .ref md, .int (nI w_2), .int (nI w_3), .int (nI w_4), .int w_5, .int w_6, .int w_7, .int w_8, .int w_9, .int w_10, .int w_11])), (ps, .inr (6, [.ref p, .ref we, .ref inp, .ref ba, .ref gu, .int ps_5, .int ps_6, .int ps_7])), (p, .inr (7, [.ref te, .ref de, .int (nI p_2)])), (te, .inl (E.2.2.1 0, 8, .inl te_f)), (de, .inl (E.2.2.1 0, 8, .inl de_f))]) [0, 1, 2, 8, 9, 3, 4, 5, 6, 7] (by decide) rfl ?_
    exact g_vret B hr dX4_writeHeads_190 (by decide) (by decide) ⟨y_496fi_1, y_496fia_f, zt_1_505, za_f_506, e_, rfl, rfl⟩
  · replace e_ := fun β k_ => (e_ β k_).trans (if_neg c136_497)
    refine g_aload_n B dX4_writeHeads_139 rfl 0 rfl ?_
    refine g_get B 0 0 fl_X4_9 rfl rfl dX4_writeHeads_140 ?_
    refine g_aload_n B dX4_writeHeads_143 rfl 1 rfl ?_
    refine g_get B 5 7 fl_X4_38 rfl rfl dX4_writeHeads_144 ?_
    refine g_bipush (v := 8) B dX4_writeHeads_147 (by decide) ?_
    refine g_ishr B dX4_writeHeads_149 ?_
    refine g_callV (st := []) (As := [.int (w_7 >>> (8 &&& 31))]) (wr := [(e, .inr (4, [.ref fi, .ref se, .ref b1, .ref b2, .ref sh])), (se, .inr (2, [.ref sea, .int y_496se_1])), (sea, .inl (E.2.2.1 1, 2450, .inl (nb y_496sea_f))), (w, .inr (9, [.ref ps, .ref md, .int (nI w_2), .int (nI w_3), .int (nI w_4), .int w_5, .int w_6, .int w_7, .int w_8, .int w_9, .int w_10, .int w_11])), (ps, .inr (6, [.ref p, .ref we, .ref inp, .ref ba, .ref gu, .int ps_5, .int ps_6, .int ps_7])), (p, .inr (7, [.ref te, .ref de, .int (nI p_2)])), (te, .inl (E.2.2.1 0, 8, .inl te_f)), (de, .inl (E.2.2.1 0, 8, .inl de_f))]) (nc' := 0) (ns' := 0) B cl_X4_79 w_im_X2_add w_se_X2_add (wk_X2_add E fi fia 9600 y_496fi_1 y_496fia_f (w_7 >>> (8 &&& 31)) (by first | assumption | omega | decide)) rfl [1, 2] [0, 3, 4, 5, 6, 7, 8, 9] rfl rfl (by decide) (by decide) (by decide) 0 rfl (fun q h => by cases h; rfl) rfl ⟨by decide, by decide⟩ rfl rfl (by decide) (by decide) rfl (Nat.le_of_ble_eq_true rfl) dX4_writeHeads_150 (fun v w hq => ?_)
    obtain ⟨zt_1_508, za_f_509, hz_510, rfl, rfl⟩ := hq
    replace e_ := fun β k_ => (e_ β k_).trans (hz_510 β _)
    show G E X 4 [(e, .inr (4, [.ref fi, .ref se, .ref b1, .ref b2, .ref sh])), (se, .inr (2, [.ref sea, .int y_496se_1])), (sea, .inl (E.2.2.1 1, 2450, .inl (nb y_496sea_f))), (w, .inr (9, [.ref ps, .ref md, .int (nI w_2), .int (nI w_3), .int (nI w_4), .int w_5, .int w_6, .int w_7, .int w_8, .int w_9, .int w_10, .int w_11])), (ps, .inr (6, [.ref p, .ref we, .ref inp, .ref ba, .ref gu, .int ps_5, .int ps_6, .int ps_7])), (p, .inr (7, [.ref te, .ref de, .int (nI p_2)])), (te, .inl (E.2.2.1 0, 8, .inl te_f)), (de, .inl (E.2.2.1 0, 8, .inl de_f)), (fi, .inr (2, [.ref fia, .int zt_1_508])), (fia, .inl (E.2.2.1 1, 9600, .inl (nb za_f_509)))] 0 0 [(0, .ref e), (1, .ref w), (2, .ref p), (3, .int y_496l3)] 153 []
    refine g_aload_n B dX4_writeHeads_153 rfl 0 rfl ?_
    refine g_get B 0 0 fl_X4_9 rfl rfl dX4_writeHeads_154 ?_
    refine g_aload_n B dX4_writeHeads_157 rfl 1 rfl ?_
    refine g_get B 3 7 fl_X4_38 rfl rfl dX4_writeHeads_158 ?_
    refine g_callV (st := []) (As := [.int w_7]) (wr := [(e, .inr (4, [.ref fi, .ref se, .ref b1, .ref b2, .ref sh])), (se, .inr (2, [.ref sea, .int y_496se_1])), (sea, .inl (E.2.2.1 1, 2450, .inl (nb y_496sea_f))), (w, .inr (9, [.ref ps, .ref md, .int (nI w_2), .int (nI w_3), .int (nI w_4), .int w_5, .int w_6, .int w_7, .int w_8, .int w_9, .int w_10, .int w_11])), (ps, .inr (6, [.ref p, .ref we, .ref inp, .ref ba, .ref gu, .int ps_5, .int ps_6, .int ps_7])), (p, .inr (7, [.ref te, .ref de, .int (nI p_2)])), (te, .inl (E.2.2.1 0, 8, .inl te_f)), (de, .inl (E.2.2.1 0, 8, .inl de_f))]) (nc' := 0) (ns' := 0) B cl_X4_79 w_im_X2_add w_se_X2_add (wk_X2_add E fi fia 9600 zt_1_508 za_f_509 w_7 (by first | assumption | omega | decide)) rfl [8, 9] [0, 1, 2, 3, 4, 5, 6, 7] rfl rfl (by decide) (by decide) (by decide) 0 rfl (fun q h => by cases h; rfl) rfl ⟨by decide, by decide⟩ rfl rfl (by decide) (by decide) rfl (Nat.le_of_ble_eq_true rfl) dX4_writeHeads_161 (fun v w hq => ?_)
    obtain ⟨zt_1_511, za_f_512, hz_513, rfl, rfl⟩ := hq
    replace e_ := fun β k_ => (e_ β k_).trans (hz_513 β _)
    show G E X 4 [(e, .inr (4, [.ref fi, .ref se, .ref b1, .ref b2, .ref sh])), (se, .inr (2, [.ref sea, .int y_496se_1])), (sea, .inl (E.2.2.1 1, 2450, .inl (nb y_496sea_f))), (w, .inr (9, [.ref ps, .ref md, .int (nI w_2), .int (nI w_3), .int (nI w_4), .int w_5, .int w_6, .int w_7, .int w_8, .int w_9, .int w_10, .int w_11])), (ps, .inr (6, [.ref p, .ref we, .ref inp, .ref ba, .ref gu, .int ps_5, .int ps_6, .int ps_7])), (p, .inr (7, [.ref te, .ref de, .int (nI p_2)])), (te, .inl (E.2.2.1 0, 8, .inl te_f)), (de, .inl (E.2.2.1 0, 8, .inl de_f)), (fi, .inr (2, [.ref fia, .int zt_1_511])), (fia, .inl (E.2.2.1 1, 9600, .inl (nb za_f_512)))] 0 0 [(0, .ref e), (1, .ref w), (2, .ref p), (3, .int y_496l3)] 164 []
    refine g_aload_n B dX4_writeHeads_164 rfl 0 rfl ?_
    refine g_get B 0 1 fl_X4_15 rfl rfl dX4_writeHeads_165 ?_
    refine g_iconst (v := 0) B dX4_writeHeads_168 (by decide) ?_
    refine g_callV (st := []) (As := [.int 0]) (wr := [(e, .inr (4, [.ref fi, .ref se, .ref b1, .ref b2, .ref sh])), (w, .inr (9, [.ref ps, .ref md, .int (nI w_2), .int (nI w_3), .int (nI w_4), .int w_5, .int w_6, .int w_7, .int w_8, .int w_9, .int w_10, .int w_11])), (ps, .inr (6, [.ref p, .ref we, .ref inp, .ref ba, .ref gu, .int ps_5, .int ps_6, .int ps_7])), (p, .inr (7, [.ref te, .ref de, .int (nI p_2)])), (te, .inl (E.2.2.1 0, 8, .inl te_f)), (de, .inl (E.2.2.1 0, 8, .inl de_f)), (fi, .inr (2, [.ref fia, .int zt_1_511])), (fia, .inl (E.2.2.1 1, 9600, .inl (nb za_f_512)))]) (nc' := 0) (ns' := 0) B cl_X4_73 w_im_X2_shorten w_se_X2_shorten (wk_X2_shorten E se sea 2450 y_496sea_f y_496se_1 0 (by first | assumption | omega | decide)) rfl [1, 2] [0, 3, 4, 5, 6, 7, 8, 9] rfl rfl (by decide) (by decide) (by decide) 0 rfl (fun q h => by cases h; rfl) rfl ⟨by decide, by decide⟩ rfl rfl (by decide) (by decide) rfl (Nat.le_of_ble_eq_true rfl) dX4_writeHeads_169 (fun v w hq => ?_)
    obtain ⟨zt_1_514, zr_515, hf_516, hz_517, rfl, rfl⟩ := hq
    replace e_ := fun β k_ => (e_ β k_).trans (hz_517 β _)
    show G E X 4 [(e, .inr (4, [.ref fi, .ref se, .ref b1, .ref b2, .ref sh])), (w, .inr (9, [.ref ps, .ref md, .int (nI w_2), .int (nI w_3), .int (nI w_4), .int w_5, .int w_6, .int w_7, .int w_8, .int w_9, .int w_10, .int w_11])), (ps, .inr (6, [.ref p, .ref we, .ref inp, .ref ba, .ref gu, .int ps_5, .int ps_6, .int ps_7])), (p, .inr (7, [.ref te, .ref de, .int (nI p_2)])), (te, .inl (E.2.2.1 0, 8, .inl te_f)), (de, .inl (E.2.2.1 0, 8, .inl de_f)), (fi, .inr (2, [.ref fia, .int zt_1_511])), (fia, .inl (E.2.2.1 1, 9600, .inl (nb za_f_512))), (se, .inr (2, [.ref sea, .int zt_1_514])), (sea, .inl (E.2.2.1 1, 2450, .inl (nb y_496sea_f)))] 0 0 [(0, .ref e), (1, .ref w), (2, .ref p), (3, .int y_496l3)] 172 [.int zr_515]
    refine g_pop B dX4_writeHeads_172 rfl ?_
    refine g_aload_n B dX4_writeHeads_173 rfl 0 rfl ?_
    refine g_get B 0 1 fl_X4_15 rfl rfl dX4_writeHeads_174 ?_
    refine g_bipush (v := 67) B dX4_writeHeads_177 (by decide) ?_
    refine g_callV (st := []) (As := [.int 67]) (wr := [(e, .inr (4, [.ref fi, .ref se, .ref b1, .ref b2, .ref sh])), (w, .inr (9, [.ref ps, .ref md, .int (nI w_2), .int (nI w_3), .int (nI w_4), .int w_5, .int w_6, .int w_7, .int w_8, .int w_9, .int w_10, .int w_11])), (ps, .inr (6, [.ref p, .ref we, .ref inp, .ref ba, .ref gu, .int ps_5, .int ps_6, .int ps_7])), (p, .inr (7, [.ref te, .ref de, .int (nI p_2)])), (te, .inl (E.2.2.1 0, 8, .inl te_f)), (de, .inl (E.2.2.1 0, 8, .inl de_f)), (fi, .inr (2, [.ref fia, .int zt_1_511])), (fia, .inl (E.2.2.1 1, 9600, .inl (nb za_f_512)))]) (nc' := 0) (ns' := 0) B cl_X4_79 w_im_X2_add w_se_X2_add (wk_X2_add E se sea 2450 zt_1_514 y_496sea_f 67 (by first | assumption | omega | decide)) rfl [8, 9] [0, 1, 2, 3, 4, 5, 6, 7] rfl rfl (by decide) (by decide) (by decide) 0 rfl (fun q h => by cases h; rfl) rfl ⟨by decide, by decide⟩ rfl rfl (by decide) (by decide) rfl (Nat.le_of_ble_eq_true rfl) dX4_writeHeads_179 (fun v w hq => ?_)
    obtain ⟨zt_1_518, za_f_519, hz_520, rfl, rfl⟩ := hq
    replace e_ := fun β k_ => (e_ β k_).trans (hz_520 β _)
    show G E X 4 [(e, .inr (4, [.ref fi, .ref se, .ref b1, .ref b2, .ref sh])), (w, .inr (9, [.ref ps, .ref md, .int (nI w_2), .int (nI w_3), .int (nI w_4), .int w_5, .int w_6, .int w_7, .int w_8, .int w_9, .int w_10, .int w_11])), (ps, .inr (6, [.ref p, .ref we, .ref inp, .ref ba, .ref gu, .int ps_5, .int ps_6, .int ps_7])), (p, .inr (7, [.ref te, .ref de, .int (nI p_2)])), (te, .inl (E.2.2.1 0, 8, .inl te_f)), (de, .inl (E.2.2.1 0, 8, .inl de_f)), (fi, .inr (2, [.ref fia, .int zt_1_511])), (fia, .inl (E.2.2.1 1, 9600, .inl (nb za_f_512))), (se, .inr (2, [.ref sea, .int zt_1_518])), (sea, .inl (E.2.2.1 1, 2450, .inl (nb za_f_519)))] 0 0 [(0, .ref e), (1, .ref w), (2, .ref p), (3, .int y_496l3)] 182 []
    refine g_aload_n B dX4_writeHeads_182 rfl 0 rfl ?_
    refine g_get B 0 1 fl_X4_15 rfl rfl dX4_writeHeads_183 ?_
    refine g_iconst (v := 0) B dX4_writeHeads_186 (by decide) ?_
    refine g_callV (st := []) (As := [.int 0]) (wr := [(e, .inr (4, [.ref fi, .ref se, .ref b1, .ref b2, .ref sh])), (w, .inr (9, [.ref ps, .ref md, .int (nI w_2), .int (nI w_3), .int (nI w_4), .int w_5, .int w_6, .int w_7, .int w_8, .int w_9, .int w_10, .int w_11])), (ps, .inr (6, [.ref p, .ref we, .ref inp, .ref ba, .ref gu, .int ps_5, .int ps_6, .int ps_7])), (p, .inr (7, [.ref te, .ref de, .int (nI p_2)])), (te, .inl (E.2.2.1 0, 8, .inl te_f)), (de, .inl (E.2.2.1 0, 8, .inl de_f)), (fi, .inr (2, [.ref fia, .int zt_1_511])), (fia, .inl (E.2.2.1 1, 9600, .inl (nb za_f_512)))]) (nc' := 0) (ns' := 0) B cl_X4_110 w_im_X2_addWord w_se_X2_addWord (wk_X2_addWord E se sea 2450 zt_1_518 za_f_519 0 (by first | assumption | omega | decide)) rfl [8, 9] [0, 1, 2, 3, 4, 5, 6, 7] rfl rfl (by decide) (by decide) (by decide) 0 rfl (fun q h => by cases h; rfl) rfl ⟨by decide, by decide⟩ rfl rfl (by decide) (by decide) rfl (Nat.le_of_ble_eq_true rfl) dX4_writeHeads_187 (fun v w hq => ?_)
    obtain ⟨zt_1_521, za_f_522, hz_523, rfl, rfl⟩ := hq
    replace e_ := fun β k_ => (e_ β k_).trans (hz_523 β _)
    show G E X 4 [(e, .inr (4, [.ref fi, .ref se, .ref b1, .ref b2, .ref sh])), (w, .inr (9, [.ref ps, .ref md, .int (nI w_2), .int (nI w_3), .int (nI w_4), .int w_5, .int w_6, .int w_7, .int w_8, .int w_9, .int w_10, .int w_11])), (ps, .inr (6, [.ref p, .ref we, .ref inp, .ref ba, .ref gu, .int ps_5, .int ps_6, .int ps_7])), (p, .inr (7, [.ref te, .ref de, .int (nI p_2)])), (te, .inl (E.2.2.1 0, 8, .inl te_f)), (de, .inl (E.2.2.1 0, 8, .inl de_f)), (fi, .inr (2, [.ref fia, .int zt_1_511])), (fia, .inl (E.2.2.1 1, 9600, .inl (nb za_f_512))), (se, .inr (2, [.ref sea, .int zt_1_521])), (sea, .inl (E.2.2.1 1, 2450, .inl (nb za_f_522)))] 0 0 [(0, .ref e), (1, .ref w), (2, .ref p), (3, .int y_496l3)] 190 []
    refine g_sub (ws' := [(e, .inr (4, [.ref fi, .ref se, .ref b1, .ref b2, .ref sh])), (fi, .inr (2, [.ref fia, .int zt_1_511])), (fia, .inl (E.2.2.1 1, 9600, .inl (nb za_f_512))), (se, .inr (2, [.ref sea, .int zt_1_521])), (sea, .inl (E.2.2.1 1, 2450, .inl (nb za_f_522))), (w, .inr (9, [.ref ps, .ref md, .int (nI w_2), .int (nI w_3), .int (nI w_4), .int w_5, .int w_6, .int w_7, .int w_8, .int w_9, .int w_10, .int w_11])), (ps, .inr (6, [.ref p, .ref we, .ref inp, .ref ba, .ref gu, .int ps_5, .int ps_6, .int ps_7])), (p, .inr (7, [.ref te, .ref de, .int (nI p_2)])), (te, .inl (E.2.2.1 0, 8, .inl te_f)), (de, .inl (E.2.2.1 0, 8, .inl de_f))]) [0, 6, 7, 8, 9, 1, 2, 3, 4, 5] (by decide) rfl ?_
    exact g_vret B hr dX4_writeHeads_190 (by decide) (by decide) ⟨zt_1_511, za_f_512, zt_1_521, za_f_522, e_, rfl, rfl⟩
abbrev MX4_writeTails : g_M := (yX4_writeTails, cX4_writeTails, 2, none)
theorem dX4_writeTails_0 : decode cX4_writeTails 0 = .ok (.aload_n 0, 1) := by decide +kernel
theorem dX4_writeTails_1 : decode cX4_writeTails 1 = .ok (.getfield 27, 3) := by decide +kernel
theorem dX4_writeTails_4 : decode cX4_writeTails 4 = .ok (.invokevirtual 113, 3) := by decide +kernel
theorem w_ml_X4_113 : Cond.methodLink RX4 113 yX1_finish ∈ g_tbl := g_tbl_in 669 (by decide +kernel) (by decide +kernel)
theorem w_cd_X1_finish : g_cw MX1_finish ∈ g_tbl := g_tbl_in 672 (by decide +kernel) (by decide +kernel)
theorem cl_X4_113 : CL RX4 113 0 MX1_finish := ⟨w_ml_X4_113, w_cd_X1_finish, w_ini_X1, by decide +kernel, by decide +kernel, by decide +kernel⟩
theorem w_im_X1_finish : Cond.instanceMethod yX1_finish ∈ g_tbl := g_tbl_in 670 (by decide +kernel) (by decide +kernel)
theorem w_se_X1_finish : Cond.selects RX1 yX1_finish yX1_finish ∈ g_tbl := g_tbl_in 671 (by decide +kernel) (by decide +kernel)
theorem dX4_writeTails_7 : decode cX4_writeTails 7 = .ok (.aload_n 0, 1) := by decide +kernel
theorem dX4_writeTails_8 : decode cX4_writeTails 8 = .ok (.getfield 31, 3) := by decide +kernel
theorem dX4_writeTails_11 : decode cX4_writeTails 11 = .ok (.invokevirtual 113, 3) := by decide +kernel
theorem dX4_writeTails_14 : decode cX4_writeTails 14 = .ok (.aload_n 0, 1) := by decide +kernel
theorem dX4_writeTails_15 : decode cX4_writeTails 15 = .ok (.getfield 9, 3) := by decide +kernel
theorem dX4_writeTails_18 : decode cX4_writeTails 18 = .ok (.aload_n 0, 1) := by decide +kernel
theorem dX4_writeTails_19 : decode cX4_writeTails 19 = .ok (.getfield 9, 3) := by decide +kernel
theorem dX4_writeTails_22 : decode cX4_writeTails 22 = .ok (.getfield 116, 3) := by decide +kernel
theorem w_fl_X4_116 : Cond.fieldLink RX4 116 (TX2 1).1 (TX2 1).2.1 (TX2 1).2.2.1 ∈ g_tbl := g_tbl_in 132 (by decide +kernel) (by decide +kernel)
theorem fl_X4_116 : FL RX4 116 2 1 := ⟨RX2, TX2, 2, rfl, by decide, inX_X2, w_fl_X4_116⟩
theorem dX4_writeTails_25 : decode cX4_writeTails 25 = .ok (.invokevirtual 119, 3) := by decide +kernel
theorem w_ml_X4_119 : Cond.methodLink RX4 119 yX2_crc ∈ g_tbl := g_tbl_in 673 (by decide +kernel) (by decide +kernel)
theorem w_cd_X2_crc : g_cw MX2_crc ∈ g_tbl := g_tbl_in 676 (by decide +kernel) (by decide +kernel)
theorem cl_X4_119 : CL RX4 119 1 MX2_crc := ⟨w_ml_X4_119, w_cd_X2_crc, w_ini_X2, by decide +kernel, by decide +kernel, by decide +kernel⟩
theorem w_im_X2_crc : Cond.instanceMethod yX2_crc ∈ g_tbl := g_tbl_in 674 (by decide +kernel) (by decide +kernel)
theorem w_se_X2_crc : Cond.selects RX2 yX2_crc yX2_crc ∈ g_tbl := g_tbl_in 675 (by decide +kernel) (by decide +kernel)
theorem dX4_writeTails_28 : decode cX4_writeTails 28 = .ok (.istore_n 1, 1) := by decide +kernel
theorem dX4_writeTails_29 : decode cX4_writeTails 29 = .ok (.aload_n 0, 1) := by decide +kernel
theorem dX4_writeTails_30 : decode cX4_writeTails 30 = .ok (.getfield 9, 3) := by decide +kernel
theorem dX4_writeTails_33 : decode cX4_writeTails 33 = .ok (.iload_n 1, 1) := by decide +kernel
theorem dX4_writeTails_34 : decode cX4_writeTails 34 = .ok (.invokevirtual 110, 3) := by decide +kernel
theorem dX4_writeTails_37 : decode cX4_writeTails 37 = .ok (.aload_n 0, 1) := by decide +kernel
theorem dX4_writeTails_38 : decode cX4_writeTails 38 = .ok (.getfield 15, 3) := by decide +kernel
theorem dX4_writeTails_41 : decode cX4_writeTails 41 = .ok (.iconst 1, 1) := by decide +kernel
theorem dX4_writeTails_42 : decode cX4_writeTails 42 = .ok (.iload_n 1, 1) := by decide +kernel
theorem dX4_writeTails_43 : decode cX4_writeTails 43 = .ok (.invokevirtual 123, 3) := by decide +kernel
theorem w_ml_X4_123 : Cond.methodLink RX4 123 yX2_putWord ∈ g_tbl := g_tbl_in 679 (by decide +kernel) (by decide +kernel)
theorem w_cd_X2_putWord : g_cw MX2_putWord ∈ g_tbl := g_tbl_in 682 (by decide +kernel) (by decide +kernel)
theorem cl_X4_123 : CL RX4 123 2 MX2_putWord := ⟨w_ml_X4_123, w_cd_X2_putWord, w_ini_X2, by decide +kernel, by decide +kernel, by decide +kernel⟩
theorem w_im_X2_putWord : Cond.instanceMethod yX2_putWord ∈ g_tbl := g_tbl_in 680 (by decide +kernel) (by decide +kernel)
theorem w_se_X2_putWord : Cond.selects RX2 yX2_putWord yX2_putWord ∈ g_tbl := g_tbl_in 681 (by decide +kernel) (by decide +kernel)
theorem dX4_writeTails_46 : decode cX4_writeTails 46 = .ok (.aload_n 0, 1) := by decide +kernel
theorem dX4_writeTails_47 : decode cX4_writeTails 47 = .ok (.getfield 15, 3) := by decide +kernel
theorem dX4_writeTails_50 : decode cX4_writeTails 50 = .ok (.aload_n 0, 1) := by decide +kernel
theorem dX4_writeTails_51 : decode cX4_writeTails 51 = .ok (.getfield 15, 3) := by decide +kernel
theorem dX4_writeTails_54 : decode cX4_writeTails 54 = .ok (.aload_n 0, 1) := by decide +kernel
theorem dX4_writeTails_55 : decode cX4_writeTails 55 = .ok (.getfield 15, 3) := by decide +kernel
theorem dX4_writeTails_58 : decode cX4_writeTails 58 = .ok (.getfield 116, 3) := by decide +kernel
theorem dX4_writeTails_61 : decode cX4_writeTails 61 = .ok (.invokevirtual 119, 3) := by decide +kernel
theorem dX4_writeTails_64 : decode cX4_writeTails 64 = .ok (.invokevirtual 110, 3) := by decide +kernel
theorem dX4_writeTails_67 : decode cX4_writeTails 67 = .ok (.return_, 1) := by decide +kernel
set_option maxRecDepth 100000 in
def fn_wk_X4_writeTails (fi_1 : Int32) (fia_f : Nat → Int32) (se_1 : Int32) (sea_f : Nat → Int32) (b1_1 : Int32) (b1_2 : Int32) (b2_1 : Int32) (b2_2 : Int32) (β : Type) (k_ : Int32 → (Nat → Int32) → Int32 → (Nat → Int32) → Int32 → Int32 → Int32 → Int32 → β) : β := (fn_wk_X1_finish 9600 b1_1 b1_2 fi_1 fia_f β (fun zb_1_524 zb_2_525 zt_1_526 za_f_527 => (fn_wk_X1_finish 2450 b2_1 b2_2 se_1 sea_f β (fun zb_1_529 zb_2_530 zt_1_531 za_f_532 => (fn_wk_X2_crc 9600 zt_1_526 za_f_527 zt_1_526 β (fun zr_534 => (fn_wk_X2_addWord 9600 zt_1_526 za_f_527 zr_534 β (fun zt_1_536 za_f_537 => (fn_wk_X2_putWord 2450 zt_1_531 za_f_532 1 zr_534 β (fun za_f_539 => (fn_wk_X2_crc 2450 zt_1_531 za_f_539 zt_1_531 β (fun zr_541 => (fn_wk_X2_addWord 2450 zt_1_531 za_f_539 zr_541 β (fun zt_1_543 za_f_544 => (k_ zt_1_536 za_f_537 zt_1_543 za_f_544 zb_1_524 zb_2_525 zb_1_529 zb_2_530)))))))))))))))
set_option maxRecDepth 100000 in
theorem fn_wk_X4_writeTails_s {fi_1 : Int32} {fia_f : Nat → Int32} {se_1 : Int32} {sea_f : Nat → Int32} {b1_1 : Int32} {b1_2 : Int32} {b2_1 : Int32} {b2_2 : Int32} {β : Type} {k_ : Int32 → (Nat → Int32) → Int32 → (Nat → Int32) → Int32 → Int32 → Int32 → Int32 → β} : fn_wk_X4_writeTails fi_1 fia_f se_1 sea_f b1_1 b1_2 b2_1 b2_2 β k_ = (fn_wk_X1_finish 9600 b1_1 b1_2 fi_1 fia_f β (fun zb_1_524 zb_2_525 zt_1_526 za_f_527 => (fn_wk_X1_finish 2450 b2_1 b2_2 se_1 sea_f β (fun zb_1_529 zb_2_530 zt_1_531 za_f_532 => (fn_wk_X2_crc 9600 zt_1_526 za_f_527 zt_1_526 β (fun zr_534 => (fn_wk_X2_addWord 9600 zt_1_526 za_f_527 zr_534 β (fun zt_1_536 za_f_537 => (fn_wk_X2_putWord 2450 zt_1_531 za_f_532 1 zr_534 β (fun za_f_539 => (fn_wk_X2_crc 2450 zt_1_531 za_f_539 zt_1_531 β (fun zr_541 => (fn_wk_X2_addWord 2450 zt_1_531 za_f_539 zr_541 β (fun zt_1_543 za_f_544 => (k_ zt_1_536 za_f_537 zt_1_543 za_f_544 zb_1_524 zb_2_525 zb_1_529 zb_2_530))))))))))))))) := rfl
set_option maxRecDepth 100000 in
set_option maxHeartbeats 4000000 in
theorem wk_X4_writeTails (E : g_E) (e : Nat) (fi : Nat) (se : Nat) (b1 : Nat) (b2 : Nat) (sh : Nat) (fia : Nat) (sea : Nat) (fi_1 : Int32) (fia_f : Nat → Int32) (se_1 : Int32) (sea_f : Nat → Int32) (b1_1 : Int32) (b1_2 : Int32) (b2_1 : Int32) (b2_2 : Int32)  : Ev E MX4_writeTails 2 43 0 0 [.ref e] [(e, .inr (4, [.ref fi, .ref se, .ref b1, .ref b2, .ref sh])), (fi, .inr (2, [.ref fia, .int fi_1])), (fia, .inl (E.2.2.1 1, 9600, .inl (nb fia_f))), (se, .inr (2, [.ref sea, .int se_1])), (sea, .inl (E.2.2.1 1, 2450, .inl (nb sea_f))), (b1, .inr (1, [.ref fi, .int b1_1, .int b1_2])), (b2, .inr (1, [.ref se, .int b2_1, .int b2_2]))] (fun v_ w_ => ∃ zfi_1 : Int32, ∃ zfia_f : Nat → Int32, ∃ zse_1 : Int32, ∃ zsea_f : Nat → Int32, ∃ zb1_1 : Int32, ∃ zb1_2 : Int32, ∃ zb2_1 : Int32, ∃ zb2_2 : Int32, (∀ (β : Type) (k_ : Int32 → (Nat → Int32) → Int32 → (Nat → Int32) → Int32 → Int32 → Int32 → Int32 → β), fn_wk_X4_writeTails fi_1 fia_f se_1 sea_f b1_1 b1_2 b2_1 b2_2 β k_ = k_ zfi_1 zfia_f zse_1 zsea_f zb1_1 zb1_2 zb2_1 zb2_2) ∧ v_ = none ∧ w_ = [(e, .inr (4, [.ref fi, .ref se, .ref b1, .ref b2, .ref sh])), (fi, .inr (2, [.ref fia, .int zfi_1])), (fia, .inl (E.2.2.1 1, 9600, .inl (nb zfia_f))), (se, .inr (2, [.ref sea, .int zse_1])), (sea, .inl (E.2.2.1 1, 2450, .inl (nb zsea_f))), (b1, .inr (1, [.ref fi, .int zb1_1, .int zb1_2])), (b2, .inr (1, [.ref se, .int zb2_1, .int zb2_2]))]) := by
  refine Ev.intro (by decide) (Nat.le_of_ble_eq_true rfl) ?_
  intro X B hr hI
  have B : Bd E X cX4_writeTails RX4 2 2 43 0 0 := B
  have hr : Rt E X none 0 0 (fun v_ w_ => ∃ zfi_1 : Int32, ∃ zfia_f : Nat → Int32, ∃ zse_1 : Int32, ∃ zsea_f : Nat → Int32, ∃ zb1_1 : Int32, ∃ zb1_2 : Int32, ∃ zb2_1 : Int32, ∃ zb2_2 : Int32, (∀ (β : Type) (k_ : Int32 → (Nat → Int32) → Int32 → (Nat → Int32) → Int32 → Int32 → Int32 → Int32 → β), fn_wk_X4_writeTails fi_1 fia_f se_1 sea_f b1_1 b1_2 b2_1 b2_2 β k_ = k_ zfi_1 zfia_f zse_1 zsea_f zb1_1 zb1_2 zb2_1 zb2_2) ∧ v_ = none ∧ w_ = [(e, .inr (4, [.ref fi, .ref se, .ref b1, .ref b2, .ref sh])), (fi, .inr (2, [.ref fia, .int zfi_1])), (fia, .inl (E.2.2.1 1, 9600, .inl (nb zfia_f))), (se, .inr (2, [.ref sea, .int zse_1])), (sea, .inl (E.2.2.1 1, 2450, .inl (nb zsea_f))), (b1, .inr (1, [.ref fi, .int zb1_1, .int zb1_2])), (b2, .inr (1, [.ref se, .int zb2_1, .int zb2_2]))]) := hr
  have e_ := fun (β : Type) (k_ : Int32 → (Nat → Int32) → Int32 → (Nat → Int32) → Int32 → Int32 → Int32 → Int32 → β) => fn_wk_X4_writeTails_s (β := β) (k_ := k_) (fi_1 := fi_1) (fia_f := fia_f) (se_1 := se_1) (sea_f := sea_f) (b1_1 := b1_1) (b1_2 := b1_2) (b2_1 := b2_1) (b2_2 := b2_2)
  show G E X 2 [(e, .inr (4, [.ref fi, .ref se, .ref b1, .ref b2, .ref sh])), (fi, .inr (2, [.ref fia, .int fi_1])), (fia, .inl (E.2.2.1 1, 9600, .inl (nb fia_f))), (se, .inr (2, [.ref sea, .int se_1])), (sea, .inl (E.2.2.1 1, 2450, .inl (nb sea_f))), (b1, .inr (1, [.ref fi, .int b1_1, .int b1_2])), (b2, .inr (1, [.ref se, .int b2_1, .int b2_2]))] 0 0 [(0, .ref e)] 0 []
  refine g_aload_n B dX4_writeTails_0 rfl 0 rfl ?_
  refine g_get B 0 2 fl_X4_27 rfl rfl dX4_writeTails_1 ?_
  refine g_callV (st := []) (As := []) (wr := [(e, .inr (4, [.ref fi, .ref se, .ref b1, .ref b2, .ref sh])), (se, .inr (2, [.ref sea, .int se_1])), (sea, .inl (E.2.2.1 1, 2450, .inl (nb sea_f))), (b2, .inr (1, [.ref se, .int b2_1, .int b2_2]))]) (nc' := 0) (ns' := 0) B cl_X4_113 w_im_X1_finish w_se_X1_finish (wk_X1_finish E b1 fi fia 9600 b1_1 b1_2 fi_1 fia_f (by first | assumption | omega | decide)) rfl [5, 1, 2] [0, 3, 4, 6] rfl rfl (by decide) (by decide) (by decide) 0 rfl (fun q h => by cases h; rfl) rfl ⟨by decide, by decide⟩ rfl rfl (by decide) (by decide) rfl (Nat.le_of_ble_eq_true rfl) dX4_writeTails_4 (fun v w hq => ?_)
  obtain ⟨zb_1_524, zb_2_525, zt_1_526, za_f_527, hz_528, rfl, rfl⟩ := hq
  replace e_ := fun β k_ => (e_ β k_).trans (hz_528 β _)
  show G E X 2 [(e, .inr (4, [.ref fi, .ref se, .ref b1, .ref b2, .ref sh])), (se, .inr (2, [.ref sea, .int se_1])), (sea, .inl (E.2.2.1 1, 2450, .inl (nb sea_f))), (b2, .inr (1, [.ref se, .int b2_1, .int b2_2])), (b1, .inr (1, [.ref fi, .int zb_1_524, .int zb_2_525])), (fi, .inr (2, [.ref fia, .int zt_1_526])), (fia, .inl (E.2.2.1 1, 9600, .inl (nb za_f_527)))] 0 0 [(0, .ref e)] 7 []
  refine g_aload_n B dX4_writeTails_7 rfl 0 rfl ?_
  refine g_get B 0 3 fl_X4_31 rfl rfl dX4_writeTails_8 ?_
  refine g_callV (st := []) (As := []) (wr := [(e, .inr (4, [.ref fi, .ref se, .ref b1, .ref b2, .ref sh])), (b1, .inr (1, [.ref fi, .int zb_1_524, .int zb_2_525])), (fi, .inr (2, [.ref fia, .int zt_1_526])), (fia, .inl (E.2.2.1 1, 9600, .inl (nb za_f_527)))]) (nc' := 0) (ns' := 0) B cl_X4_113 w_im_X1_finish w_se_X1_finish (wk_X1_finish E b2 se sea 2450 b2_1 b2_2 se_1 sea_f (by first | assumption | omega | decide)) rfl [3, 1, 2] [0, 4, 5, 6] rfl rfl (by decide) (by decide) (by decide) 0 rfl (fun q h => by cases h; rfl) rfl ⟨by decide, by decide⟩ rfl rfl (by decide) (by decide) rfl (Nat.le_of_ble_eq_true rfl) dX4_writeTails_11 (fun v w hq => ?_)
  obtain ⟨zb_1_529, zb_2_530, zt_1_531, za_f_532, hz_533, rfl, rfl⟩ := hq
  replace e_ := fun β k_ => (e_ β k_).trans (hz_533 β _)
  show G E X 2 [(e, .inr (4, [.ref fi, .ref se, .ref b1, .ref b2, .ref sh])), (b1, .inr (1, [.ref fi, .int zb_1_524, .int zb_2_525])), (fi, .inr (2, [.ref fia, .int zt_1_526])), (fia, .inl (E.2.2.1 1, 9600, .inl (nb za_f_527))), (b2, .inr (1, [.ref se, .int zb_1_529, .int zb_2_530])), (se, .inr (2, [.ref sea, .int zt_1_531])), (sea, .inl (E.2.2.1 1, 2450, .inl (nb za_f_532)))] 0 0 [(0, .ref e)] 14 []
  refine g_aload_n B dX4_writeTails_14 rfl 0 rfl ?_
  refine g_get B 0 0 fl_X4_9 rfl rfl dX4_writeTails_15 ?_
  refine g_aload_n B dX4_writeTails_18 rfl 0 rfl ?_
  refine g_get B 0 0 fl_X4_9 rfl rfl dX4_writeTails_19 ?_
  refine g_get B 2 1 fl_X4_116 rfl rfl dX4_writeTails_22 ?_
  refine g_callV (st := []) (As := [.int zt_1_526]) (wr := [(e, .inr (4, [.ref fi, .ref se, .ref b1, .ref b2, .ref sh])), (b1, .inr (1, [.ref fi, .int zb_1_524, .int zb_2_525])), (b2, .inr (1, [.ref se, .int zb_1_529, .int zb_2_530])), (se, .inr (2, [.ref sea, .int zt_1_531])), (sea, .inl (E.2.2.1 1, 2450, .inl (nb za_f_532)))]) (nc' := 0) (ns' := 0) B cl_X4_119 w_im_X2_crc w_se_X2_crc (wk_X2_crc E fi fia 9600 zt_1_526 za_f_527 zt_1_526 (by first | assumption | omega | decide)) rfl [2, 3] [0, 1, 4, 5, 6] rfl rfl (by decide) (by decide) (by decide) 0 rfl (fun q h => by cases h; rfl) rfl ⟨by decide, by decide⟩ rfl rfl (by decide) (by decide) rfl (Nat.le_of_ble_eq_true rfl) dX4_writeTails_25 (fun v w hq => ?_)
  obtain ⟨zr_534, hz_535, rfl, rfl⟩ := hq
  replace e_ := fun β k_ => (e_ β k_).trans (hz_535 β _)
  show G E X 2 [(e, .inr (4, [.ref fi, .ref se, .ref b1, .ref b2, .ref sh])), (b1, .inr (1, [.ref fi, .int zb_1_524, .int zb_2_525])), (b2, .inr (1, [.ref se, .int zb_1_529, .int zb_2_530])), (se, .inr (2, [.ref sea, .int zt_1_531])), (sea, .inl (E.2.2.1 1, 2450, .inl (nb za_f_532))), (fi, .inr (2, [.ref fia, .int zt_1_526])), (fia, .inl (E.2.2.1 1, 9600, .inl (nb za_f_527)))] 0 0 [(0, .ref e)] 28 [.int zr_534]
  refine g_istore_n (lv' := [(1, .int zr_534), (0, .ref e)]) B dX4_writeTails_28 rfl (by decide) rfl ?_
  refine g_aload_n B dX4_writeTails_29 rfl 1 rfl ?_
  refine g_get B 0 0 fl_X4_9 rfl rfl dX4_writeTails_30 ?_
  refine g_iload_n B dX4_writeTails_33 rfl 0 rfl ?_
  refine g_callV (st := []) (As := [.int zr_534]) (wr := [(e, .inr (4, [.ref fi, .ref se, .ref b1, .ref b2, .ref sh])), (b1, .inr (1, [.ref fi, .int zb_1_524, .int zb_2_525])), (b2, .inr (1, [.ref se, .int zb_1_529, .int zb_2_530])), (se, .inr (2, [.ref sea, .int zt_1_531])), (sea, .inl (E.2.2.1 1, 2450, .inl (nb za_f_532)))]) (nc' := 0) (ns' := 0) B cl_X4_110 w_im_X2_addWord w_se_X2_addWord (wk_X2_addWord E fi fia 9600 zt_1_526 za_f_527 zr_534 (by first | assumption | omega | decide)) rfl [5, 6] [0, 1, 2, 3, 4] rfl rfl (by decide) (by decide) (by decide) 0 rfl (fun q h => by cases h; rfl) rfl ⟨by decide, by decide⟩ rfl rfl (by decide) (by decide) rfl (Nat.le_of_ble_eq_true rfl) dX4_writeTails_34 (fun v w hq => ?_)
  obtain ⟨zt_1_536, za_f_537, hz_538, rfl, rfl⟩ := hq
  replace e_ := fun β k_ => (e_ β k_).trans (hz_538 β _)
  show G E X 2 [(e, .inr (4, [.ref fi, .ref se, .ref b1, .ref b2, .ref sh])), (b1, .inr (1, [.ref fi, .int zb_1_524, .int zb_2_525])), (b2, .inr (1, [.ref se, .int zb_1_529, .int zb_2_530])), (se, .inr (2, [.ref sea, .int zt_1_531])), (sea, .inl (E.2.2.1 1, 2450, .inl (nb za_f_532))), (fi, .inr (2, [.ref fia, .int zt_1_536])), (fia, .inl (E.2.2.1 1, 9600, .inl (nb za_f_537)))] 0 0 [(1, .int zr_534), (0, .ref e)] 37 []
  refine g_aload_n B dX4_writeTails_37 rfl 1 rfl ?_
  refine g_get B 0 1 fl_X4_15 rfl rfl dX4_writeTails_38 ?_
  refine g_iconst (v := 1) B dX4_writeTails_41 (by decide) ?_
  refine g_iload_n B dX4_writeTails_42 rfl 0 rfl ?_
  refine g_callV (st := []) (As := [.int 1, .int zr_534]) (wr := [(e, .inr (4, [.ref fi, .ref se, .ref b1, .ref b2, .ref sh])), (b1, .inr (1, [.ref fi, .int zb_1_524, .int zb_2_525])), (b2, .inr (1, [.ref se, .int zb_1_529, .int zb_2_530])), (fi, .inr (2, [.ref fia, .int zt_1_536])), (fia, .inl (E.2.2.1 1, 9600, .inl (nb za_f_537)))]) (nc' := 0) (ns' := 0) B cl_X4_123 w_im_X2_putWord w_se_X2_putWord (wk_X2_putWord E se sea 2450 zt_1_531 za_f_532 1 zr_534 (by first | assumption | omega | decide) (by first | assumption | omega | decide)) rfl [3, 4] [0, 1, 2, 5, 6] rfl rfl (by decide) (by decide) (by decide) 0 rfl (fun q h => by cases h; rfl) rfl ⟨by decide, by decide⟩ rfl rfl (by decide) (by decide) rfl (Nat.le_of_ble_eq_true rfl) dX4_writeTails_43 (fun v w hq => ?_)
  obtain ⟨za_f_539, hz_540, rfl, rfl⟩ := hq
  replace e_ := fun β k_ => (e_ β k_).trans (hz_540 β _)
  show G E X 2 [(e, .inr (4, [.ref fi, .ref se, .ref b1, .ref b2, .ref sh])), (b1, .inr (1, [.ref fi, .int zb_1_524, .int zb_2_525])), (b2, .inr (1, [.ref se, .int zb_1_529, .int zb_2_530])), (fi, .inr (2, [.ref fia, .int zt_1_536])), (fia, .inl (E.2.2.1 1, 9600, .inl (nb za_f_537))), (se, .inr (2, [.ref sea, .int zt_1_531])), (sea, .inl (E.2.2.1 1, 2450, .inl (nb za_f_539)))] 0 0 [(1, .int zr_534), (0, .ref e)] 46 []
  refine g_aload_n B dX4_writeTails_46 rfl 1 rfl ?_
  refine g_get B 0 1 fl_X4_15 rfl rfl dX4_writeTails_47 ?_
  refine g_aload_n B dX4_writeTails_50 rfl 1 rfl ?_
  refine g_get B 0 1 fl_X4_15 rfl rfl dX4_writeTails_51 ?_
  refine g_aload_n B dX4_writeTails_54 rfl 1 rfl ?_
  refine g_get B 0 1 fl_X4_15 rfl rfl dX4_writeTails_55 ?_
  refine g_get B 5 1 fl_X4_116 rfl rfl dX4_writeTails_58 ?_
  refine g_callV (st := [.ref se]) (As := [.int zt_1_531]) (wr := [(e, .inr (4, [.ref fi, .ref se, .ref b1, .ref b2, .ref sh])), (b1, .inr (1, [.ref fi, .int zb_1_524, .int zb_2_525])), (b2, .inr (1, [.ref se, .int zb_1_529, .int zb_2_530])), (fi, .inr (2, [.ref fia, .int zt_1_536])), (fia, .inl (E.2.2.1 1, 9600, .inl (nb za_f_537)))]) (nc' := 0) (ns' := 0) B cl_X4_119 w_im_X2_crc w_se_X2_crc (wk_X2_crc E se sea 2450 zt_1_531 za_f_539 zt_1_531 (by first | assumption | omega | decide)) rfl [5, 6] [0, 1, 2, 3, 4] rfl rfl (by decide) (by decide) (by decide) 0 rfl (fun q h => by cases h; rfl) rfl ⟨by decide, by decide⟩ rfl rfl (by decide) (by decide) rfl (Nat.le_of_ble_eq_true rfl) dX4_writeTails_61 (fun v w hq => ?_)
  obtain ⟨zr_541, hz_542, rfl, rfl⟩ := hq
  replace e_ := fun β k_ => (e_ β k_).trans (hz_542 β _)
  show G E X 2 [(e, .inr (4, [.ref fi, .ref se, .ref b1, .ref b2, .ref sh])), (b1, .inr (1, [.ref fi, .int zb_1_524, .int zb_2_525])), (b2, .inr (1, [.ref se, .int zb_1_529, .int zb_2_530])), (fi, .inr (2, [.ref fia, .int zt_1_536])), (fia, .inl (E.2.2.1 1, 9600, .inl (nb za_f_537))), (se, .inr (2, [.ref sea, .int zt_1_531])), (sea, .inl (E.2.2.1 1, 2450, .inl (nb za_f_539)))] 0 0 [(1, .int zr_534), (0, .ref e)] 64 [.int zr_541, .ref se]
  refine g_callV (st := []) (As := [.int zr_541]) (wr := [(e, .inr (4, [.ref fi, .ref se, .ref b1, .ref b2, .ref sh])), (b1, .inr (1, [.ref fi, .int zb_1_524, .int zb_2_525])), (b2, .inr (1, [.ref se, .int zb_1_529, .int zb_2_530])), (fi, .inr (2, [.ref fia, .int zt_1_536])), (fia, .inl (E.2.2.1 1, 9600, .inl (nb za_f_537)))]) (nc' := 0) (ns' := 0) B cl_X4_110 w_im_X2_addWord w_se_X2_addWord (wk_X2_addWord E se sea 2450 zt_1_531 za_f_539 zr_541 (by first | assumption | omega | decide)) rfl [5, 6] [0, 1, 2, 3, 4] rfl rfl (by decide) (by decide) (by decide) 0 rfl (fun q h => by cases h; rfl) rfl ⟨by decide, by decide⟩ rfl rfl (by decide) (by decide) rfl (Nat.le_of_ble_eq_true rfl) dX4_writeTails_64 (fun v w hq => ?_)
  obtain ⟨zt_1_543, za_f_544, hz_545, rfl, rfl⟩ := hq
  replace e_ := fun β k_ => (e_ β k_).trans (hz_545 β _)
  show G E X 2 [(e, .inr (4, [.ref fi, .ref se, .ref b1, .ref b2, .ref sh])), (b1, .inr (1, [.ref fi, .int zb_1_524, .int zb_2_525])), (b2, .inr (1, [.ref se, .int zb_1_529, .int zb_2_530])), (fi, .inr (2, [.ref fia, .int zt_1_536])), (fia, .inl (E.2.2.1 1, 9600, .inl (nb za_f_537))), (se, .inr (2, [.ref sea, .int zt_1_543])), (sea, .inl (E.2.2.1 1, 2450, .inl (nb za_f_544)))] 0 0 [(1, .int zr_534), (0, .ref e)] 67 []
  refine g_sub (ws' := [(e, .inr (4, [.ref fi, .ref se, .ref b1, .ref b2, .ref sh])), (fi, .inr (2, [.ref fia, .int zt_1_536])), (fia, .inl (E.2.2.1 1, 9600, .inl (nb za_f_537))), (se, .inr (2, [.ref sea, .int zt_1_543])), (sea, .inl (E.2.2.1 1, 2450, .inl (nb za_f_544))), (b1, .inr (1, [.ref fi, .int zb_1_524, .int zb_2_525])), (b2, .inr (1, [.ref se, .int zb_1_529, .int zb_2_530]))]) [0, 3, 4, 5, 6, 1, 2] (by decide) rfl ?_
  exact g_vret B hr dX4_writeTails_67 (by decide) (by decide) ⟨zt_1_536, za_f_537, zt_1_543, za_f_544, zb_1_524, zb_2_525, zb_1_529, zb_2_530, e_, rfl, rfl⟩
abbrev MX4_foretellAll : g_M := (yX4_foretellAll, cX4_foretellAll, 6, none)
theorem dX4_foretellAll_0 : decode cX4_foretellAll 0 = .ok (.iconst 0, 1) := by decide +kernel
theorem dX4_foretellAll_1 : decode cX4_foretellAll 1 = .ok (.istore_n 2, 1) := by decide +kernel
theorem dX4_foretellAll_2 : decode cX4_foretellAll 2 = .ok (.iload_n 2, 1) := by decide +kernel
theorem dX4_foretellAll_3 : decode cX4_foretellAll 3 = .ok (.aload_n 1, 1) := by decide +kernel
theorem dX4_foretellAll_4 : decode cX4_foretellAll 4 = .ok (.getfield 47, 3) := by decide +kernel
theorem dX4_foretellAll_7 : decode cX4_foretellAll 7 = .ok (.if_icmp .ge 77, 3) := by decide +kernel
theorem dX4_foretellAll_10 : decode cX4_foretellAll 10 = .ok (.iconst 0, 1) := by decide +kernel
theorem dX4_foretellAll_11 : decode cX4_foretellAll 11 = .ok (.istore_n 3, 1) := by decide +kernel
theorem dX4_foretellAll_12 : decode cX4_foretellAll 12 = .ok (.iload_n 3, 1) := by decide +kernel
theorem dX4_foretellAll_13 : decode cX4_foretellAll 13 = .ok (.aload_n 1, 1) := by decide +kernel
theorem dX4_foretellAll_14 : decode cX4_foretellAll 14 = .ok (.getfield 127, 3) := by decide +kernel
theorem dX4_foretellAll_17 : decode cX4_foretellAll 17 = .ok (.if_icmp .ge 61, 3) := by decide +kernel
theorem dX4_foretellAll_20 : decode cX4_foretellAll 20 = .ok (.iload_n 2, 1) := by decide +kernel
theorem dX4_foretellAll_21 : decode cX4_foretellAll 21 = .ok (.aload_n 1, 1) := by decide +kernel
theorem dX4_foretellAll_22 : decode cX4_foretellAll 22 = .ok (.getfield 127, 3) := by decide +kernel
theorem dX4_foretellAll_25 : decode cX4_foretellAll 25 = .ok (.imul, 1) := by decide +kernel
theorem dX4_foretellAll_26 : decode cX4_foretellAll 26 = .ok (.iload_n 3, 1) := by decide +kernel
theorem dX4_foretellAll_27 : decode cX4_foretellAll 27 = .ok (.iadd, 1) := by decide +kernel
theorem dX4_foretellAll_28 : decode cX4_foretellAll 28 = .ok (.istore 4, 2) := by decide +kernel
theorem dX4_foretellAll_30 : decode cX4_foretellAll 30 = .ok (.aload_n 0, 1) := by decide +kernel
theorem dX4_foretellAll_31 : decode cX4_foretellAll 31 = .ok (.getfield 18, 3) := by decide +kernel
theorem dX4_foretellAll_34 : decode cX4_foretellAll 34 = .ok (.iload 4, 2) := by decide +kernel
theorem dX4_foretellAll_36 : decode cX4_foretellAll 36 = .ok (.invokevirtual 130, 3) := by decide +kernel
theorem w_ml_X4_130 : Cond.methodLink RX4 130 yX8_valueAt ∈ g_tbl := g_tbl_in 505 (by decide +kernel) (by decide +kernel)
theorem w_cd_X8_valueAt : g_cw MX8_valueAt ∈ g_tbl := g_tbl_in 508 (by decide +kernel) (by decide +kernel)
theorem cl_X4_130 : CL RX4 130 1 MX8_valueAt := ⟨w_ml_X4_130, w_cd_X8_valueAt, w_ini_X8, by decide +kernel, by decide +kernel, by decide +kernel⟩
theorem w_im_X8_valueAt : Cond.instanceMethod yX8_valueAt ∈ g_tbl := g_tbl_in 506 (by decide +kernel) (by decide +kernel)
theorem w_se_X8_valueAt : Cond.selects RX8 yX8_valueAt yX8_valueAt ∈ g_tbl := g_tbl_in 507 (by decide +kernel) (by decide +kernel)
theorem dX4_foretellAll_39 : decode cX4_foretellAll 39 = .ok (.aload_n 1, 1) := by decide +kernel
theorem dX4_foretellAll_40 : decode cX4_foretellAll 40 = .ok (.getfield 88, 3) := by decide +kernel
theorem dX4_foretellAll_43 : decode cX4_foretellAll 43 = .ok (.iload_n 2, 1) := by decide +kernel
theorem dX4_foretellAll_44 : decode cX4_foretellAll 44 = .ok (.iload_n 3, 1) := by decide +kernel
theorem dX4_foretellAll_45 : decode cX4_foretellAll 45 = .ok (.invokevirtual 135, 3) := by decide +kernel
theorem w_ml_X4_135 : Cond.methodLink RX4 135 yX6_foretell ∈ g_tbl := g_tbl_in 513 (by decide +kernel) (by decide +kernel)
theorem w_cd_X6_foretell : g_cw MX6_foretell ∈ g_tbl := g_tbl_in 516 (by decide +kernel) (by decide +kernel)
theorem cl_X4_135 : CL RX4 135 2 MX6_foretell := ⟨w_ml_X4_135, w_cd_X6_foretell, w_ini_X6, by decide +kernel, by decide +kernel, by decide +kernel⟩
theorem w_im_X6_foretell : Cond.instanceMethod yX6_foretell ∈ g_tbl := g_tbl_in 514 (by decide +kernel) (by decide +kernel)
theorem w_se_X6_foretell : Cond.selects RX6 yX6_foretell yX6_foretell ∈ g_tbl := g_tbl_in 515 (by decide +kernel) (by decide +kernel)
theorem dX4_foretellAll_48 : decode cX4_foretellAll 48 = .ok (.isub, 1) := by decide +kernel
theorem dX4_foretellAll_49 : decode cX4_foretellAll 49 = .ok (.istore 5, 2) := by decide +kernel
theorem dX4_foretellAll_51 : decode cX4_foretellAll 51 = .ok (.aload_n 1, 1) := by decide +kernel
theorem dX4_foretellAll_52 : decode cX4_foretellAll 52 = .ok (.getfield 88, 3) := by decide +kernel
theorem dX4_foretellAll_55 : decode cX4_foretellAll 55 = .ok (.iload 5, 2) := by decide +kernel
theorem dX4_foretellAll_57 : decode cX4_foretellAll 57 = .ok (.invokevirtual 139, 3) := by decide +kernel
theorem w_ml_X4_139 : Cond.methodLink RX4 139 yX6_learn ∈ g_tbl := g_tbl_in 534 (by decide +kernel) (by decide +kernel)
theorem w_cd_X6_learn : g_cw MX6_learn ∈ g_tbl := g_tbl_in 537 (by decide +kernel) (by decide +kernel)
theorem cl_X4_139 : CL RX4 139 1 MX6_learn := ⟨w_ml_X4_139, w_cd_X6_learn, w_ini_X6, by decide +kernel, by decide +kernel, by decide +kernel⟩
theorem w_im_X6_learn : Cond.instanceMethod yX6_learn ∈ g_tbl := g_tbl_in 535 (by decide +kernel) (by decide +kernel)
theorem w_se_X6_learn : Cond.selects RX6 yX6_learn yX6_learn ∈ g_tbl := g_tbl_in 536 (by decide +kernel) (by decide +kernel)
theorem dX4_foretellAll_60 : decode cX4_foretellAll 60 = .ok (.pop, 1) := by decide +kernel
theorem dX4_foretellAll_61 : decode cX4_foretellAll 61 = .ok (.aload_n 0, 1) := by decide +kernel
theorem dX4_foretellAll_62 : decode cX4_foretellAll 62 = .ok (.getfield 18, 3) := by decide +kernel
theorem dX4_foretellAll_65 : decode cX4_foretellAll 65 = .ok (.iload 4, 2) := by decide +kernel
theorem dX4_foretellAll_67 : decode cX4_foretellAll 67 = .ok (.iload 5, 2) := by decide +kernel
theorem dX4_foretellAll_69 : decode cX4_foretellAll 69 = .ok (.invokevirtual 142, 3) := by decide +kernel
theorem w_ml_X4_142 : Cond.methodLink RX4 142 yX8_putRest ∈ g_tbl := g_tbl_in 546 (by decide +kernel) (by decide +kernel)
theorem w_cd_X8_putRest : g_cw MX8_putRest ∈ g_tbl := g_tbl_in 549 (by decide +kernel) (by decide +kernel)
theorem cl_X4_142 : CL RX4 142 2 MX8_putRest := ⟨w_ml_X4_142, w_cd_X8_putRest, w_ini_X8, by decide +kernel, by decide +kernel, by decide +kernel⟩
theorem w_im_X8_putRest : Cond.instanceMethod yX8_putRest ∈ g_tbl := g_tbl_in 547 (by decide +kernel) (by decide +kernel)
theorem w_se_X8_putRest : Cond.selects RX8 yX8_putRest yX8_putRest ∈ g_tbl := g_tbl_in 548 (by decide +kernel) (by decide +kernel)
theorem dX4_foretellAll_72 : decode cX4_foretellAll 72 = .ok (.iinc 3 1, 3) := by decide +kernel
theorem dX4_foretellAll_75 : decode cX4_foretellAll 75 = .ok (.goto (-63), 3) := by decide +kernel
set_option maxRecDepth 100000 in
def lf_wk_X4_foretellAll_12 (sv_f : Nat → Int32) (w_3 : Nat) (ps_5 : Int32) (p_2 : Nat) (te_f : Nat → Int32) (de_f : Nat → Int32) (l2 : Int32) (β : Type) (kx_ : (Nat → Int32) → Int32 → Int32 → (Nat → Int32) → (Nat → Int32) → (Nat → Int32) → (Nat → Int32) → Int32 → β)  : Nat → (Nat → Int32) → Int32 → Int32 → (Nat → Int32) → (Nat → Int32) → (Nat → Int32) → (Nat → Int32) → Int32 → β
  | 0, sr_f, ps_6, ps_7, we_f, inp_f, ba_f, gu_f, l3 => kx_ sr_f ps_6 ps_7 we_f inp_f ba_f gu_f l3
  | fuel + 1, sr_f, ps_6, ps_7, we_f, inp_f, ba_f, gu_f, l3 => (if nI w_3 ≤ l3 then (kx_ sr_f ps_6 ps_7 we_f inp_f ba_f gu_f l3) else (fn_wk_X8_valueAt sv_f ((l2 * nI w_3) + l3) β (fun zr_548 => (fn_wk_X6_foretell ps_5 p_2 te_f we_f inp_f ba_f gu_f l2 l3 β (fun zps_6_550 zps_7_551 zba_f_552 zgu_f_553 zr_554 => (fn_wk_X6_learn zps_6_550 zps_7_551 p_2 de_f zba_f_552 zgu_f_553 we_f inp_f (zr_548 - zr_554) β (fun zwe_f_556 zinp_f_557 zr_558 => (fn_wk_X8_putRest sr_f ((l2 * nI w_3) + l3) (zr_548 - zr_554) β (fun zsr_f_560 => (lf_wk_X4_foretellAll_12 sv_f w_3 ps_5 p_2 te_f de_f l2 β kx_ fuel zsr_f_560 zps_6_550 zps_7_551 zwe_f_556 zinp_f_557 zba_f_552 zgu_f_553 (l3 + 1)))))))))))
set_option maxRecDepth 100000 in
theorem lf_wk_X4_foretellAll_12_s {sv_f : Nat → Int32} {w_3 : Nat} {ps_5 : Int32} {p_2 : Nat} {te_f : Nat → Int32} {de_f : Nat → Int32} {l2 : Int32} {β : Type} {kx_ : (Nat → Int32) → Int32 → Int32 → (Nat → Int32) → (Nat → Int32) → (Nat → Int32) → (Nat → Int32) → Int32 → β}  {fuel : Nat} {sr_f : Nat → Int32} {ps_6 : Int32} {ps_7 : Int32} {we_f : Nat → Int32} {inp_f : Nat → Int32} {ba_f : Nat → Int32} {gu_f : Nat → Int32} {l3 : Int32} : lf_wk_X4_foretellAll_12 sv_f w_3 ps_5 p_2 te_f de_f l2 β kx_  (fuel + 1) sr_f ps_6 ps_7 we_f inp_f ba_f gu_f l3 = (if nI w_3 ≤ l3 then (kx_ sr_f ps_6 ps_7 we_f inp_f ba_f gu_f l3) else (fn_wk_X8_valueAt sv_f ((l2 * nI w_3) + l3) β (fun zr_548 => (fn_wk_X6_foretell ps_5 p_2 te_f we_f inp_f ba_f gu_f l2 l3 β (fun zps_6_550 zps_7_551 zba_f_552 zgu_f_553 zr_554 => (fn_wk_X6_learn zps_6_550 zps_7_551 p_2 de_f zba_f_552 zgu_f_553 we_f inp_f (zr_548 - zr_554) β (fun zwe_f_556 zinp_f_557 zr_558 => (fn_wk_X8_putRest sr_f ((l2 * nI w_3) + l3) (zr_548 - zr_554) β (fun zsr_f_560 => (lf_wk_X4_foretellAll_12 sv_f w_3 ps_5 p_2 te_f de_f l2 β kx_ fuel zsr_f_560 zps_6_550 zps_7_551 zwe_f_556 zinp_f_557 zba_f_552 zgu_f_553 (l3 + 1))))))))))) := rfl
set_option maxRecDepth 100000 in
set_option maxHeartbeats 4000000 in
theorem lp_wk_X4_foretellAll_12 (E : g_E) (e : Nat) (fi : Nat) (se : Nat) (b1 : Nat) (b2 : Nat) (sh : Nat) (sv : Nat) (sr : Nat) (sl : Nat) (sp : Nat) (w : Nat) (ps : Nat) (md : Nat) (p : Nat) (we : Nat) (inp : Nat) (ba : Nat) (gu : Nat) (te : Nat) (de : Nat) (sv_f : Nat → Int32) (w_2 : Nat) (w_3 : Nat) (w_4 : Nat) (w_5 : Int32) (w_6 : Int32) (w_7 : Int32) (w_8 : Int32) (w_9 : Int32) (w_10 : Int32) (w_11 : Int32) (ps_5 : Int32) (p_2 : Nat) (te_f : Nat → Int32) (de_f : Nat → Int32) (l2 : Int32) (hk0 : w_2 ≤ 2) (hk1 : w_3 ≤ 2) (hk2 : w_4 ≤ 600) (hk3 : p_2 ≤ 8) {X : g_X} {rr : (β : Type) → ((Nat → Int32) → Int32 → Int32 → (Nat → Int32) → (Nat → Int32) → (Nat → Int32) → (Nat → Int32) → β) → β} (kx_ : (β : Type) → ((Nat → Int32) → Int32 → Int32 → (Nat → Int32) → (Nat → Int32) → (Nat → Int32) → (Nat → Int32) → β) → (Nat → Int32) → Int32 → Int32 → (Nat → Int32) → (Nat → Int32) → (Nat → Int32) → (Nat → Int32) → Int32 → β) (B : Bd E X cX4_foretellAll RX4 6 3 71 0 0) (hr : Rt E X none 0 0 (fun v_ w_ => ∃ zsr_f : Nat → Int32, ∃ zps_6 : Int32, ∃ zps_7 : Int32, ∃ zwe_f : Nat → Int32, ∃ zinp_f : Nat → Int32, ∃ zba_f : Nat → Int32, ∃ zgu_f : Nat → Int32, (∀ (β : Type) (k_ : (Nat → Int32) → Int32 → Int32 → (Nat → Int32) → (Nat → Int32) → (Nat → Int32) → (Nat → Int32) → β), rr β k_ = k_ zsr_f zps_6 zps_7 zwe_f zinp_f zba_f zgu_f) ∧ v_ = none ∧ w_ = [(e, .inr (4, [.ref fi, .ref se, .ref b1, .ref b2, .ref sh])), (sh, .inr (8, [.ref sv, .ref sr, .ref sl, .ref sp])), (sv, .inl (E.2.2.1 0, 1200, .inl sv_f)), (sr, .inl (E.2.2.1 0, 1200, .inl zsr_f)), (w, .inr (9, [.ref ps, .ref md, .int (nI w_2), .int (nI w_3), .int (nI w_4), .int w_5, .int w_6, .int w_7, .int w_8, .int w_9, .int w_10, .int w_11])), (ps, .inr (6, [.ref p, .ref we, .ref inp, .ref ba, .ref gu, .int ps_5, .int zps_6, .int zps_7])), (p, .inr (7, [.ref te, .ref de, .int (nI p_2)])), (te, .inl (E.2.2.1 0, 8, .inl te_f)), (de, .inl (E.2.2.1 0, 8, .inl de_f)), (we, .inl (E.2.2.1 0, 16, .inl zwe_f)), (inp, .inl (E.2.2.1 0, 128, .inl zinp_f)), (ba, .inl (E.2.2.1 0, 8, .inl zba_f)), (gu, .inl (E.2.2.1 0, 8, .inl zgu_f))])) (K : ∀ (sr_f : Nat → Int32) (ps_6 : Int32) (ps_7 : Int32) (we_f : Nat → Int32) (inp_f : Nat → Int32) (ba_f : Nat → Int32) (gu_f : Nat → Int32) (l3 : Int32), (∀ (β : Type) (k_ : (Nat → Int32) → Int32 → Int32 → (Nat → Int32) → (Nat → Int32) → (Nat → Int32) → (Nat → Int32) → β), rr β k_ = kx_ β k_ sr_f ps_6 ps_7 we_f inp_f ba_f gu_f l3) → G E X 6 [(e, .inr (4, [.ref fi, .ref se, .ref b1, .ref b2, .ref sh])), (sh, .inr (8, [.ref sv, .ref sr, .ref sl, .ref sp])), (sv, .inl (E.2.2.1 0, 1200, .inl sv_f)), (sr, .inl (E.2.2.1 0, 1200, .inl sr_f)), (w, .inr (9, [.ref ps, .ref md, .int (nI w_2), .int (nI w_3), .int (nI w_4), .int w_5, .int w_6, .int w_7, .int w_8, .int w_9, .int w_10, .int w_11])), (ps, .inr (6, [.ref p, .ref we, .ref inp, .ref ba, .ref gu, .int ps_5, .int ps_6, .int ps_7])), (p, .inr (7, [.ref te, .ref de, .int (nI p_2)])), (te, .inl (E.2.2.1 0, 8, .inl te_f)), (de, .inl (E.2.2.1 0, 8, .inl de_f)), (we, .inl (E.2.2.1 0, 16, .inl we_f)), (inp, .inl (E.2.2.1 0, 128, .inl inp_f)), (ba, .inl (E.2.2.1 0, 8, .inl ba_f)), (gu, .inl (E.2.2.1 0, 8, .inl gu_f))] 0 0 [(0, .ref e), (1, .ref w), (2, .int l2), (3, .int l3)] 78 []) : ∀ (n : Nat) (sr_f : Nat → Int32) (ps_6 : Int32) (ps_7 : Int32) (we_f : Nat → Int32) (inp_f : Nat → Int32) (ba_f : Nat → Int32) (gu_f : Nat → Int32) (l3 : Int32), (Int32.toInt (nI w_3) - Int32.toInt l3).toNat < n → (∀ (β : Type) (k_ : (Nat → Int32) → Int32 → Int32 → (Nat → Int32) → (Nat → Int32) → (Nat → Int32) → (Nat → Int32) → β), rr β k_ = lf_wk_X4_foretellAll_12 sv_f w_3 ps_5 p_2 te_f de_f l2 β (kx_ β k_) n sr_f ps_6 ps_7 we_f inp_f ba_f gu_f l3) → G E X 6 [(e, .inr (4, [.ref fi, .ref se, .ref b1, .ref b2, .ref sh])), (sh, .inr (8, [.ref sv, .ref sr, .ref sl, .ref sp])), (sv, .inl (E.2.2.1 0, 1200, .inl sv_f)), (sr, .inl (E.2.2.1 0, 1200, .inl sr_f)), (w, .inr (9, [.ref ps, .ref md, .int (nI w_2), .int (nI w_3), .int (nI w_4), .int w_5, .int w_6, .int w_7, .int w_8, .int w_9, .int w_10, .int w_11])), (ps, .inr (6, [.ref p, .ref we, .ref inp, .ref ba, .ref gu, .int ps_5, .int ps_6, .int ps_7])), (p, .inr (7, [.ref te, .ref de, .int (nI p_2)])), (te, .inl (E.2.2.1 0, 8, .inl te_f)), (de, .inl (E.2.2.1 0, 8, .inl de_f)), (we, .inl (E.2.2.1 0, 16, .inl we_f)), (inp, .inl (E.2.2.1 0, 128, .inl inp_f)), (ba, .inl (E.2.2.1 0, 8, .inl ba_f)), (gu, .inl (E.2.2.1 0, 8, .inl gu_f))] 0 0 [(0, .ref e), (1, .ref w), (2, .int l2), (3, .int l3)] 12 [] := by
  intro n
  induction n with
  | zero => intro sr_f ps_6 ps_7 we_f inp_f ba_f gu_f l3 h _; exact absurd h (Nat.not_lt_zero _)
  | succ n ih =>
    intro sr_f ps_6 ps_7 we_f inp_f ba_f gu_f l3 hm e_
    replace e_ := fun β k_ => (e_ β k_).trans lf_wk_X4_foretellAll_12_s
    refine g_iload_n B dX4_foretellAll_12 rfl 3 rfl ?_
    refine g_aload_n B dX4_foretellAll_13 rfl 1 rfl ?_
    refine g_get B 4 3 fl_X4_127 rfl rfl dX4_foretellAll_14 ?_
    refine g_icmp_ge (tgt := 78) B dX4_foretellAll_17 (by decide) (fun c17_547 => ?_) (fun c17_547 => ?_)
    · replace e_ := fun β k_ => (e_ β k_).trans (if_pos c17_547)
      exact K sr_f ps_6 ps_7 we_f inp_f ba_f gu_f l3 e_
    · replace e_ := fun β k_ => (e_ β k_).trans (if_neg c17_547)
      refine g_iload_n B dX4_foretellAll_20 rfl 2 rfl ?_
      refine g_aload_n B dX4_foretellAll_21 rfl 1 rfl ?_
      refine g_get B 4 3 fl_X4_127 rfl rfl dX4_foretellAll_22 ?_
      refine g_imul B dX4_foretellAll_25 ?_
      refine g_iload_n B dX4_foretellAll_26 rfl 3 rfl ?_
      refine g_iadd B dX4_foretellAll_27 ?_
      refine g_istore (lv' := [(4, .int ((l2 * nI w_3) + l3)), (0, .ref e), (1, .ref w), (2, .int l2), (3, .int l3)]) B dX4_foretellAll_28 (by decide) rfl ?_
      refine g_aload_n B dX4_foretellAll_30 rfl 1 rfl ?_
      refine g_get B 0 4 fl_X4_18 rfl rfl dX4_foretellAll_31 ?_
      refine g_iload B dX4_foretellAll_34 0 rfl ?_
      refine g_callV (st := []) (As := [.int ((l2 * nI w_3) + l3)]) (wr := [(e, .inr (4, [.ref fi, .ref se, .ref b1, .ref b2, .ref sh])), (sr, .inl (E.2.2.1 0, 1200, .inl sr_f)), (w, .inr (9, [.ref ps, .ref md, .int (nI w_2), .int (nI w_3), .int (nI w_4), .int w_5, .int w_6, .int w_7, .int w_8, .int w_9, .int w_10, .int w_11])), (ps, .inr (6, [.ref p, .ref we, .ref inp, .ref ba, .ref gu, .int ps_5, .int ps_6, .int ps_7])), (p, .inr (7, [.ref te, .ref de, .int (nI p_2)])), (te, .inl (E.2.2.1 0, 8, .inl te_f)), (de, .inl (E.2.2.1 0, 8, .inl de_f)), (we, .inl (E.2.2.1 0, 16, .inl we_f)), (inp, .inl (E.2.2.1 0, 128, .inl inp_f)), (ba, .inl (E.2.2.1 0, 8, .inl ba_f)), (gu, .inl (E.2.2.1 0, 8, .inl gu_f))]) (nc' := 0) (ns' := 0) B cl_X4_130 w_im_X8_valueAt w_se_X8_valueAt (wk_X8_valueAt E sh sv sr sl sp sv_f ((l2 * nI w_3) + l3) ) rfl [1, 2] [0, 3, 4, 5, 6, 7, 8, 9, 10, 11, 12] rfl rfl (by decide) (by decide) (by decide) 0 rfl (fun q h => by cases h; rfl) rfl ⟨by decide, by decide⟩ rfl rfl (by decide) (by decide) rfl (Nat.le_of_ble_eq_true rfl) dX4_foretellAll_36 (fun v w hq => ?_)
      obtain ⟨zr_548, hz_549, rfl, rfl⟩ := hq
      replace e_ := fun β k_ => (e_ β k_).trans (hz_549 β _)
      show G E X 6 [(e, .inr (4, [.ref fi, .ref se, .ref b1, .ref b2, .ref sh])), (sr, .inl (E.2.2.1 0, 1200, .inl sr_f)), (w, .inr (9, [.ref ps, .ref md, .int (nI w_2), .int (nI w_3), .int (nI w_4), .int w_5, .int w_6, .int w_7, .int w_8, .int w_9, .int w_10, .int w_11])), (ps, .inr (6, [.ref p, .ref we, .ref inp, .ref ba, .ref gu, .int ps_5, .int ps_6, .int ps_7])), (p, .inr (7, [.ref te, .ref de, .int (nI p_2)])), (te, .inl (E.2.2.1 0, 8, .inl te_f)), (de, .inl (E.2.2.1 0, 8, .inl de_f)), (we, .inl (E.2.2.1 0, 16, .inl we_f)), (inp, .inl (E.2.2.1 0, 128, .inl inp_f)), (ba, .inl (E.2.2.1 0, 8, .inl ba_f)), (gu, .inl (E.2.2.1 0, 8, .inl gu_f)), (sh, .inr (8, [.ref sv, .ref sr, .ref sl, .ref sp])), (sv, .inl (E.2.2.1 0, 1200, .inl sv_f))] 0 0 [(4, .int ((l2 * nI w_3) + l3)), (0, .ref e), (1, .ref w), (2, .int l2), (3, .int l3)] 39 [.int zr_548]
      refine g_aload_n B dX4_foretellAll_39 rfl 2 rfl ?_
      refine g_get B 2 0 fl_X4_88 rfl rfl dX4_foretellAll_40 ?_
      refine g_iload_n B dX4_foretellAll_43 rfl 3 rfl ?_
      refine g_iload_n B dX4_foretellAll_44 rfl 4 rfl ?_
      refine g_callV (st := [.int zr_548]) (As := [.int l2, .int l3]) (wr := [(e, .inr (4, [.ref fi, .ref se, .ref b1, .ref b2, .ref sh])), (sr, .inl (E.2.2.1 0, 1200, .inl sr_f)), (w, .inr (9, [.ref ps, .ref md, .int (nI w_2), .int (nI w_3), .int (nI w_4), .int w_5, .int w_6, .int w_7, .int w_8, .int w_9, .int w_10, .int w_11])), (sh, .inr (8, [.ref sv, .ref sr, .ref sl, .ref sp])), (sv, .inl (E.2.2.1 0, 1200, .inl sv_f))]) (nc' := 0) (ns' := 0) B cl_X4_135 w_im_X6_foretell w_se_X6_foretell (wk_X6_foretell E ps p we inp ba gu te de ps_5 p_2 te_f de_f we_f inp_f ps_6 ps_7 ba_f gu_f l2 l3 (by first | assumption | omega | decide)) rfl [3, 4, 5, 6, 7, 8, 9, 10] [0, 1, 2, 11, 12] rfl rfl (by decide) (by decide) (by decide) 0 rfl (fun q h => by cases h; rfl) rfl ⟨by decide, by decide⟩ rfl rfl (by decide) (by decide) rfl (Nat.le_of_ble_eq_true rfl) dX4_foretellAll_45 (fun v w hq => ?_)
      obtain ⟨zps_6_550, zps_7_551, zba_f_552, zgu_f_553, zr_554, hz_555, rfl, rfl⟩ := hq
      replace e_ := fun β k_ => (e_ β k_).trans (hz_555 β _)
      show G E X 6 [(e, .inr (4, [.ref fi, .ref se, .ref b1, .ref b2, .ref sh])), (sr, .inl (E.2.2.1 0, 1200, .inl sr_f)), (w, .inr (9, [.ref ps, .ref md, .int (nI w_2), .int (nI w_3), .int (nI w_4), .int w_5, .int w_6, .int w_7, .int w_8, .int w_9, .int w_10, .int w_11])), (sh, .inr (8, [.ref sv, .ref sr, .ref sl, .ref sp])), (sv, .inl (E.2.2.1 0, 1200, .inl sv_f)), (ps, .inr (6, [.ref p, .ref we, .ref inp, .ref ba, .ref gu, .int ps_5, .int zps_6_550, .int zps_7_551])), (p, .inr (7, [.ref te, .ref de, .int (nI p_2)])), (te, .inl (E.2.2.1 0, 8, .inl te_f)), (de, .inl (E.2.2.1 0, 8, .inl de_f)), (we, .inl (E.2.2.1 0, 16, .inl we_f)), (inp, .inl (E.2.2.1 0, 128, .inl inp_f)), (ba, .inl (E.2.2.1 0, 8, .inl zba_f_552)), (gu, .inl (E.2.2.1 0, 8, .inl zgu_f_553))] 0 0 [(4, .int ((l2 * nI w_3) + l3)), (0, .ref e), (1, .ref w), (2, .int l2), (3, .int l3)] 48 [.int zr_554, .int zr_548]
      refine g_isub B dX4_foretellAll_48 ?_
      refine g_istore (lv' := [(5, .int (zr_548 - zr_554)), (4, .int ((l2 * nI w_3) + l3)), (0, .ref e), (1, .ref w), (2, .int l2), (3, .int l3)]) B dX4_foretellAll_49 (by decide) rfl ?_
      refine g_aload_n B dX4_foretellAll_51 rfl 3 rfl ?_
      refine g_get B 2 0 fl_X4_88 rfl rfl dX4_foretellAll_52 ?_
      refine g_iload B dX4_foretellAll_55 0 rfl ?_
      refine g_callV (st := []) (As := [.int (zr_548 - zr_554)]) (wr := [(e, .inr (4, [.ref fi, .ref se, .ref b1, .ref b2, .ref sh])), (sr, .inl (E.2.2.1 0, 1200, .inl sr_f)), (w, .inr (9, [.ref ps, .ref md, .int (nI w_2), .int (nI w_3), .int (nI w_4), .int w_5, .int w_6, .int w_7, .int w_8, .int w_9, .int w_10, .int w_11])), (sh, .inr (8, [.ref sv, .ref sr, .ref sl, .ref sp])), (sv, .inl (E.2.2.1 0, 1200, .inl sv_f))]) (nc' := 0) (ns' := 0) B cl_X4_139 w_im_X6_learn w_se_X6_learn (wk_X6_learn E ps p we inp ba gu te de ps_5 zps_6_550 zps_7_551 p_2 te_f de_f zba_f_552 zgu_f_553 we_f inp_f (zr_548 - zr_554) (by first | assumption | omega | decide)) rfl [5, 6, 7, 8, 9, 10, 11, 12] [0, 1, 2, 3, 4] rfl rfl (by decide) (by decide) (by decide) 0 rfl (fun q h => by cases h; rfl) rfl ⟨by decide, by decide⟩ rfl rfl (by decide) (by decide) rfl (Nat.le_of_ble_eq_true rfl) dX4_foretellAll_57 (fun v w hq => ?_)
      obtain ⟨zwe_f_556, zinp_f_557, zr_558, hz_559, rfl, rfl⟩ := hq
      replace e_ := fun β k_ => (e_ β k_).trans (hz_559 β _)
      show G E X 6 [(e, .inr (4, [.ref fi, .ref se, .ref b1, .ref b2, .ref sh])), (sr, .inl (E.2.2.1 0, 1200, .inl sr_f)), (w, .inr (9, [.ref ps, .ref md, .int (nI w_2), .int (nI w_3), .int (nI w_4), .int w_5, .int w_6, .int w_7, .int w_8, .int w_9, .int w_10, .int w_11])), (sh, .inr (8, [.ref sv, .ref sr, .ref sl, .ref sp])), (sv, .inl (E.2.2.1 0, 1200, .inl sv_f)), (ps, .inr (6, [.ref p, .ref we, .ref inp, .ref ba, .ref gu, .int ps_5, .int zps_6_550, .int zps_7_551])), (p, .inr (7, [.ref te, .ref de, .int (nI p_2)])), (te, .inl (E.2.2.1 0, 8, .inl te_f)), (de, .inl (E.2.2.1 0, 8, .inl de_f)), (we, .inl (E.2.2.1 0, 16, .inl zwe_f_556)), (inp, .inl (E.2.2.1 0, 128, .inl zinp_f_557)), (ba, .inl (E.2.2.1 0, 8, .inl zba_f_552)), (gu, .inl (E.2.2.1 0, 8, .inl zgu_f_553))] 0 0 [(5, .int (zr_548 - zr_554)), (4, .int ((l2 * nI w_3) + l3)), (0, .ref e), (1, .ref w), (2, .int l2), (3, .int l3)] 60 [.int zr_558]
      refine g_pop B dX4_foretellAll_60 rfl ?_
      refine g_aload_n B dX4_foretellAll_61 rfl 2 rfl ?_
      refine g_get B 0 4 fl_X4_18 rfl rfl dX4_foretellAll_62 ?_
      refine g_iload B dX4_foretellAll_65 1 rfl ?_
      refine g_iload B dX4_foretellAll_67 0 rfl ?_
      refine g_callV (st := []) (As := [.int ((l2 * nI w_3) + l3), .int (zr_548 - zr_554)]) (wr := [(e, .inr (4, [.ref fi, .ref se, .ref b1, .ref b2, .ref sh])), (w, .inr (9, [.ref ps, .ref md, .int (nI w_2), .int (nI w_3), .int (nI w_4), .int w_5, .int w_6, .int w_7, .int w_8, .int w_9, .int w_10, .int w_11])), (sv, .inl (E.2.2.1 0, 1200, .inl sv_f)), (ps, .inr (6, [.ref p, .ref we, .ref inp, .ref ba, .ref gu, .int ps_5, .int zps_6_550, .int zps_7_551])), (p, .inr (7, [.ref te, .ref de, .int (nI p_2)])), (te, .inl (E.2.2.1 0, 8, .inl te_f)), (de, .inl (E.2.2.1 0, 8, .inl de_f)), (we, .inl (E.2.2.1 0, 16, .inl zwe_f_556)), (inp, .inl (E.2.2.1 0, 128, .inl zinp_f_557)), (ba, .inl (E.2.2.1 0, 8, .inl zba_f_552)), (gu, .inl (E.2.2.1 0, 8, .inl zgu_f_553))]) (nc' := 0) (ns' := 0) B cl_X4_142 w_im_X8_putRest w_se_X8_putRest (wk_X8_putRest E sh sv sr sl sp sr_f ((l2 * nI w_3) + l3) (zr_548 - zr_554) ) rfl [3, 1] [0, 2, 4, 5, 6, 7, 8, 9, 10, 11, 12] rfl rfl (by decide) (by decide) (by decide) 0 rfl (fun q h => by cases h; rfl) rfl ⟨by decide, by decide⟩ rfl rfl (by decide) (by decide) rfl (Nat.le_of_ble_eq_true rfl) dX4_foretellAll_69 (fun v w hq => ?_)
      obtain ⟨zsr_f_560, hz_561, rfl, rfl⟩ := hq
      replace e_ := fun β k_ => (e_ β k_).trans (hz_561 β _)
      show G E X 6 [(e, .inr (4, [.ref fi, .ref se, .ref b1, .ref b2, .ref sh])), (w, .inr (9, [.ref ps, .ref md, .int (nI w_2), .int (nI w_3), .int (nI w_4), .int w_5, .int w_6, .int w_7, .int w_8, .int w_9, .int w_10, .int w_11])), (sv, .inl (E.2.2.1 0, 1200, .inl sv_f)), (ps, .inr (6, [.ref p, .ref we, .ref inp, .ref ba, .ref gu, .int ps_5, .int zps_6_550, .int zps_7_551])), (p, .inr (7, [.ref te, .ref de, .int (nI p_2)])), (te, .inl (E.2.2.1 0, 8, .inl te_f)), (de, .inl (E.2.2.1 0, 8, .inl de_f)), (we, .inl (E.2.2.1 0, 16, .inl zwe_f_556)), (inp, .inl (E.2.2.1 0, 128, .inl zinp_f_557)), (ba, .inl (E.2.2.1 0, 8, .inl zba_f_552)), (gu, .inl (E.2.2.1 0, 8, .inl zgu_f_553)), (sh, .inr (8, [.ref sv, .ref sr, .ref sl, .ref sp])), (sr, .inl (E.2.2.1 0, 1200, .inl zsr_f_560))] 0 0 [(5, .int (zr_548 - zr_554)), (4, .int ((l2 * nI w_3) + l3)), (0, .ref e), (1, .ref w), (2, .int l2), (3, .int l3)] 72 []
      refine g_iinc (v := (l3 + 1)) (lv' := [(3, .int (l3 + 1)), (5, .int (zr_548 - zr_554)), (4, .int ((l2 * nI w_3) + l3)), (0, .ref e), (1, .ref w), (2, .int l2)]) B dX4_foretellAll_72 5 rfl rfl (by decide) rfl ?_
      refine g_goto (tgt := 12) B dX4_foretellAll_75 (by decide) ?_
      refine g_sub (ws' := [(e, .inr (4, [.ref fi, .ref se, .ref b1, .ref b2, .ref sh])), (sh, .inr (8, [.ref sv, .ref sr, .ref sl, .ref sp])), (sv, .inl (E.2.2.1 0, 1200, .inl sv_f)), (sr, .inl (E.2.2.1 0, 1200, .inl zsr_f_560)), (w, .inr (9, [.ref ps, .ref md, .int (nI w_2), .int (nI w_3), .int (nI w_4), .int w_5, .int w_6, .int w_7, .int w_8, .int w_9, .int w_10, .int w_11])), (ps, .inr (6, [.ref p, .ref we, .ref inp, .ref ba, .ref gu, .int ps_5, .int zps_6_550, .int zps_7_551])), (p, .inr (7, [.ref te, .ref de, .int (nI p_2)])), (te, .inl (E.2.2.1 0, 8, .inl te_f)), (de, .inl (E.2.2.1 0, 8, .inl de_f)), (we, .inl (E.2.2.1 0, 16, .inl zwe_f_556)), (inp, .inl (E.2.2.1 0, 128, .inl zinp_f_557)), (ba, .inl (E.2.2.1 0, 8, .inl zba_f_552)), (gu, .inl (E.2.2.1 0, 8, .inl zgu_f_553))]) [0, 11, 2, 12, 1, 3, 4, 5, 6, 7, 8, 9, 10] (by decide) rfl ?_
      refine g_lvsub (lv' := [(0, .ref e), (1, .ref w), (2, .int l2), (3, .int (l3 + 1))]) [3, 4, 5, 0] rfl ?_
      exact ih zsr_f_560 zps_6_550 zps_7_551 zwe_f_556 zinp_f_557 zba_f_552 zgu_f_553 (l3 + 1)  (Nat.lt_of_lt_of_le (st_up (o_2 c17_547)) (Nat.le_of_lt_succ hm)) e_
theorem dX4_foretellAll_78 : decode cX4_foretellAll 78 = .ok (.iinc 2 1, 3) := by decide +kernel
theorem dX4_foretellAll_81 : decode cX4_foretellAll 81 = .ok (.goto (-79), 3) := by decide +kernel
set_option maxRecDepth 100000 in
def lf_wk_X4_foretellAll_2 (sv_f : Nat → Int32) (w_3 : Nat) (w_4 : Nat) (ps_5 : Int32) (p_2 : Nat) (te_f : Nat → Int32) (de_f : Nat → Int32) (β : Type) (kx_ : (Nat → Int32) → Int32 → Int32 → (Nat → Int32) → (Nat → Int32) → (Nat → Int32) → (Nat → Int32) → Int32 → β)  : Nat → (Nat → Int32) → Int32 → Int32 → (Nat → Int32) → (Nat → Int32) → (Nat → Int32) → (Nat → Int32) → Int32 → β
  | 0, sr_f, ps_6, ps_7, we_f, inp_f, ba_f, gu_f, l2 => kx_ sr_f ps_6 ps_7 we_f inp_f ba_f gu_f l2
  | fuel + 1, sr_f, ps_6, ps_7, we_f, inp_f, ba_f, gu_f, l2 => (if nI w_4 ≤ l2 then (kx_ sr_f ps_6 ps_7 we_f inp_f ba_f gu_f l2) else (lf_wk_X4_foretellAll_12 sv_f w_3 ps_5 p_2 te_f de_f l2 β (fun y_562sr_f y_562ps_6 y_562ps_7 y_562we_f y_562inp_f y_562ba_f y_562gu_f y_562l3 => (lf_wk_X4_foretellAll_2 sv_f w_3 w_4 ps_5 p_2 te_f de_f β kx_ fuel y_562sr_f y_562ps_6 y_562ps_7 y_562we_f y_562inp_f y_562ba_f y_562gu_f (l2 + 1))) ((Int32.toInt (nI w_3) - Int32.toInt 0).toNat + 1) sr_f ps_6 ps_7 we_f inp_f ba_f gu_f 0))
set_option maxRecDepth 100000 in
theorem lf_wk_X4_foretellAll_2_s {sv_f : Nat → Int32} {w_3 : Nat} {w_4 : Nat} {ps_5 : Int32} {p_2 : Nat} {te_f : Nat → Int32} {de_f : Nat → Int32} {β : Type} {kx_ : (Nat → Int32) → Int32 → Int32 → (Nat → Int32) → (Nat → Int32) → (Nat → Int32) → (Nat → Int32) → Int32 → β}  {fuel : Nat} {sr_f : Nat → Int32} {ps_6 : Int32} {ps_7 : Int32} {we_f : Nat → Int32} {inp_f : Nat → Int32} {ba_f : Nat → Int32} {gu_f : Nat → Int32} {l2 : Int32} : lf_wk_X4_foretellAll_2 sv_f w_3 w_4 ps_5 p_2 te_f de_f β kx_  (fuel + 1) sr_f ps_6 ps_7 we_f inp_f ba_f gu_f l2 = (if nI w_4 ≤ l2 then (kx_ sr_f ps_6 ps_7 we_f inp_f ba_f gu_f l2) else (lf_wk_X4_foretellAll_12 sv_f w_3 ps_5 p_2 te_f de_f l2 β (fun y_562sr_f y_562ps_6 y_562ps_7 y_562we_f y_562inp_f y_562ba_f y_562gu_f y_562l3 => (lf_wk_X4_foretellAll_2 sv_f w_3 w_4 ps_5 p_2 te_f de_f β kx_ fuel y_562sr_f y_562ps_6 y_562ps_7 y_562we_f y_562inp_f y_562ba_f y_562gu_f (l2 + 1))) ((Int32.toInt (nI w_3) - Int32.toInt 0).toNat + 1) sr_f ps_6 ps_7 we_f inp_f ba_f gu_f 0)) := rfl
set_option maxRecDepth 100000 in
set_option maxHeartbeats 4000000 in
theorem lp_wk_X4_foretellAll_2 (E : g_E) (e : Nat) (fi : Nat) (se : Nat) (b1 : Nat) (b2 : Nat) (sh : Nat) (sv : Nat) (sr : Nat) (sl : Nat) (sp : Nat) (w : Nat) (ps : Nat) (md : Nat) (p : Nat) (we : Nat) (inp : Nat) (ba : Nat) (gu : Nat) (te : Nat) (de : Nat) (sv_f : Nat → Int32) (w_2 : Nat) (w_3 : Nat) (w_4 : Nat) (w_5 : Int32) (w_6 : Int32) (w_7 : Int32) (w_8 : Int32) (w_9 : Int32) (w_10 : Int32) (w_11 : Int32) (ps_5 : Int32) (p_2 : Nat) (te_f : Nat → Int32) (de_f : Nat → Int32) (hk0 : w_2 ≤ 2) (hk1 : w_3 ≤ 2) (hk2 : w_4 ≤ 600) (hk3 : p_2 ≤ 8) {X : g_X} {rr : (β : Type) → ((Nat → Int32) → Int32 → Int32 → (Nat → Int32) → (Nat → Int32) → (Nat → Int32) → (Nat → Int32) → β) → β} (kx_ : (β : Type) → ((Nat → Int32) → Int32 → Int32 → (Nat → Int32) → (Nat → Int32) → (Nat → Int32) → (Nat → Int32) → β) → (Nat → Int32) → Int32 → Int32 → (Nat → Int32) → (Nat → Int32) → (Nat → Int32) → (Nat → Int32) → Int32 → β) (B : Bd E X cX4_foretellAll RX4 6 3 71 0 0) (hr : Rt E X none 0 0 (fun v_ w_ => ∃ zsr_f : Nat → Int32, ∃ zps_6 : Int32, ∃ zps_7 : Int32, ∃ zwe_f : Nat → Int32, ∃ zinp_f : Nat → Int32, ∃ zba_f : Nat → Int32, ∃ zgu_f : Nat → Int32, (∀ (β : Type) (k_ : (Nat → Int32) → Int32 → Int32 → (Nat → Int32) → (Nat → Int32) → (Nat → Int32) → (Nat → Int32) → β), rr β k_ = k_ zsr_f zps_6 zps_7 zwe_f zinp_f zba_f zgu_f) ∧ v_ = none ∧ w_ = [(e, .inr (4, [.ref fi, .ref se, .ref b1, .ref b2, .ref sh])), (sh, .inr (8, [.ref sv, .ref sr, .ref sl, .ref sp])), (sv, .inl (E.2.2.1 0, 1200, .inl sv_f)), (sr, .inl (E.2.2.1 0, 1200, .inl zsr_f)), (w, .inr (9, [.ref ps, .ref md, .int (nI w_2), .int (nI w_3), .int (nI w_4), .int w_5, .int w_6, .int w_7, .int w_8, .int w_9, .int w_10, .int w_11])), (ps, .inr (6, [.ref p, .ref we, .ref inp, .ref ba, .ref gu, .int ps_5, .int zps_6, .int zps_7])), (p, .inr (7, [.ref te, .ref de, .int (nI p_2)])), (te, .inl (E.2.2.1 0, 8, .inl te_f)), (de, .inl (E.2.2.1 0, 8, .inl de_f)), (we, .inl (E.2.2.1 0, 16, .inl zwe_f)), (inp, .inl (E.2.2.1 0, 128, .inl zinp_f)), (ba, .inl (E.2.2.1 0, 8, .inl zba_f)), (gu, .inl (E.2.2.1 0, 8, .inl zgu_f))])) (K : ∀ (sr_f : Nat → Int32) (ps_6 : Int32) (ps_7 : Int32) (we_f : Nat → Int32) (inp_f : Nat → Int32) (ba_f : Nat → Int32) (gu_f : Nat → Int32) (l2 : Int32), (∀ (β : Type) (k_ : (Nat → Int32) → Int32 → Int32 → (Nat → Int32) → (Nat → Int32) → (Nat → Int32) → (Nat → Int32) → β), rr β k_ = kx_ β k_ sr_f ps_6 ps_7 we_f inp_f ba_f gu_f l2) → G E X 6 [(e, .inr (4, [.ref fi, .ref se, .ref b1, .ref b2, .ref sh])), (sh, .inr (8, [.ref sv, .ref sr, .ref sl, .ref sp])), (sv, .inl (E.2.2.1 0, 1200, .inl sv_f)), (sr, .inl (E.2.2.1 0, 1200, .inl sr_f)), (w, .inr (9, [.ref ps, .ref md, .int (nI w_2), .int (nI w_3), .int (nI w_4), .int w_5, .int w_6, .int w_7, .int w_8, .int w_9, .int w_10, .int w_11])), (ps, .inr (6, [.ref p, .ref we, .ref inp, .ref ba, .ref gu, .int ps_5, .int ps_6, .int ps_7])), (p, .inr (7, [.ref te, .ref de, .int (nI p_2)])), (te, .inl (E.2.2.1 0, 8, .inl te_f)), (de, .inl (E.2.2.1 0, 8, .inl de_f)), (we, .inl (E.2.2.1 0, 16, .inl we_f)), (inp, .inl (E.2.2.1 0, 128, .inl inp_f)), (ba, .inl (E.2.2.1 0, 8, .inl ba_f)), (gu, .inl (E.2.2.1 0, 8, .inl gu_f))] 0 0 [(0, .ref e), (1, .ref w), (2, .int l2)] 84 []) : ∀ (n : Nat) (sr_f : Nat → Int32) (ps_6 : Int32) (ps_7 : Int32) (we_f : Nat → Int32) (inp_f : Nat → Int32) (ba_f : Nat → Int32) (gu_f : Nat → Int32) (l2 : Int32), (Int32.toInt (nI w_4) - Int32.toInt l2).toNat < n → (∀ (β : Type) (k_ : (Nat → Int32) → Int32 → Int32 → (Nat → Int32) → (Nat → Int32) → (Nat → Int32) → (Nat → Int32) → β), rr β k_ = lf_wk_X4_foretellAll_2 sv_f w_3 w_4 ps_5 p_2 te_f de_f β (kx_ β k_) n sr_f ps_6 ps_7 we_f inp_f ba_f gu_f l2) → G E X 6 [(e, .inr (4, [.ref fi, .ref se, .ref b1, .ref b2, .ref sh])), (sh, .inr (8, [.ref sv, .ref sr, .ref sl, .ref sp])), (sv, .inl (E.2.2.1 0, 1200, .inl sv_f)), (sr, .inl (E.2.2.1 0, 1200, .inl sr_f)), (w, .inr (9, [.ref ps, .ref md, .int (nI w_2), .int (nI w_3), .int (nI w_4), .int w_5, .int w_6, .int w_7, .int w_8, .int w_9, .int w_10, .int w_11])), (ps, .inr (6, [.ref p, .ref we, .ref inp, .ref ba, .ref gu, .int ps_5, .int ps_6, .int ps_7])), (p, .inr (7, [.ref te, .ref de, .int (nI p_2)])), (te, .inl (E.2.2.1 0, 8, .inl te_f)), (de, .inl (E.2.2.1 0, 8, .inl de_f)), (we, .inl (E.2.2.1 0, 16, .inl we_f)), (inp, .inl (E.2.2.1 0, 128, .inl inp_f)), (ba, .inl (E.2.2.1 0, 8, .inl ba_f)), (gu, .inl (E.2.2.1 0, 8, .inl gu_f))] 0 0 [(0, .ref e), (1, .ref w), (2, .int l2)] 2 [] := by
  intro n
  induction n with
  | zero => intro sr_f ps_6 ps_7 we_f inp_f ba_f gu_f l2 h _; exact absurd h (Nat.not_lt_zero _)
  | succ n ih =>
    intro sr_f ps_6 ps_7 we_f inp_f ba_f gu_f l2 hm e_
    replace e_ := fun β k_ => (e_ β k_).trans lf_wk_X4_foretellAll_2_s
    refine g_iload_n B dX4_foretellAll_2 rfl 2 rfl ?_
    refine g_aload_n B dX4_foretellAll_3 rfl 1 rfl ?_
    refine g_get B 4 4 fl_X4_47 rfl rfl dX4_foretellAll_4 ?_
    refine g_icmp_ge (tgt := 84) B dX4_foretellAll_7 (by decide) (fun c7_546 => ?_) (fun c7_546 => ?_)
    · replace e_ := fun β k_ => (e_ β k_).trans (if_pos c7_546)
      exact K sr_f ps_6 ps_7 we_f inp_f ba_f gu_f l2 e_
    · replace e_ := fun β k_ => (e_ β k_).trans (if_neg c7_546)
      refine g_iconst (v := 0) B dX4_foretellAll_10 (by decide) ?_
      refine g_istore_n (lv' := [(3, .int 0), (0, .ref e), (1, .ref w), (2, .int l2)]) B dX4_foretellAll_11 rfl (by decide) rfl ?_
      refine g_lvsub (lv' := [(0, .ref e), (1, .ref w), (2, .int l2), (3, .int 0)]) [1, 2, 3, 0] rfl ?_
      refine lp_wk_X4_foretellAll_12 E e fi se b1 b2 sh sv sr sl sp w ps md p we inp ba gu te de sv_f w_2 w_3 w_4 w_5 w_6 w_7 w_8 w_9 w_10 w_11 ps_5 p_2 te_f de_f l2 hk0 hk1 hk2 hk3 _ B hr (fun y_562sr_f y_562ps_6 y_562ps_7 y_562we_f y_562inp_f y_562ba_f y_562gu_f y_562l3 e_ => ?_) _ sr_f ps_6 ps_7 we_f inp_f ba_f gu_f 0  (Nat.lt_succ_self _) e_
      refine g_iinc (v := (l2 + 1)) (lv' := [(2, .int (l2 + 1)), (0, .ref e), (1, .ref w), (3, .int y_562l3)]) B dX4_foretellAll_78 2 rfl rfl (by decide) rfl ?_
      refine g_goto (tgt := 2) B dX4_foretellAll_81 (by decide) ?_
      refine g_lvsub (lv' := [(0, .ref e), (1, .ref w), (2, .int (l2 + 1))]) [1, 2, 0] rfl ?_
      exact ih y_562sr_f y_562ps_6 y_562ps_7 y_562we_f y_562inp_f y_562ba_f y_562gu_f (l2 + 1)  (Nat.lt_of_lt_of_le (st_up (o_2 c7_546)) (Nat.le_of_lt_succ hm)) e_
theorem dX4_foretellAll_84 : decode cX4_foretellAll 84 = .ok (.return_, 1) := by decide +kernel
set_option maxRecDepth 100000 in
def fn_wk_X4_foretellAll (sv_f : Nat → Int32) (w_3 : Nat) (w_4 : Nat) (ps_5 : Int32) (p_2 : Nat) (te_f : Nat → Int32) (de_f : Nat → Int32) (sr_f : Nat → Int32) (ps_6 : Int32) (ps_7 : Int32) (we_f : Nat → Int32) (inp_f : Nat → Int32) (ba_f : Nat → Int32) (gu_f : Nat → Int32) (β : Type) (k_ : (Nat → Int32) → Int32 → Int32 → (Nat → Int32) → (Nat → Int32) → (Nat → Int32) → (Nat → Int32) → β) : β := (lf_wk_X4_foretellAll_2 sv_f w_3 w_4 ps_5 p_2 te_f de_f β (fun y_563sr_f y_563ps_6 y_563ps_7 y_563we_f y_563inp_f y_563ba_f y_563gu_f y_563l2 => (k_ y_563sr_f y_563ps_6 y_563ps_7 y_563we_f y_563inp_f y_563ba_f y_563gu_f)) ((Int32.toInt (nI w_4) - Int32.toInt 0).toNat + 1) sr_f ps_6 ps_7 we_f inp_f ba_f gu_f 0)
set_option maxRecDepth 100000 in
theorem fn_wk_X4_foretellAll_s {sv_f : Nat → Int32} {w_3 : Nat} {w_4 : Nat} {ps_5 : Int32} {p_2 : Nat} {te_f : Nat → Int32} {de_f : Nat → Int32} {sr_f : Nat → Int32} {ps_6 : Int32} {ps_7 : Int32} {we_f : Nat → Int32} {inp_f : Nat → Int32} {ba_f : Nat → Int32} {gu_f : Nat → Int32} {β : Type} {k_ : (Nat → Int32) → Int32 → Int32 → (Nat → Int32) → (Nat → Int32) → (Nat → Int32) → (Nat → Int32) → β} : fn_wk_X4_foretellAll sv_f w_3 w_4 ps_5 p_2 te_f de_f sr_f ps_6 ps_7 we_f inp_f ba_f gu_f β k_ = (lf_wk_X4_foretellAll_2 sv_f w_3 w_4 ps_5 p_2 te_f de_f β (fun y_563sr_f y_563ps_6 y_563ps_7 y_563we_f y_563inp_f y_563ba_f y_563gu_f y_563l2 => (k_ y_563sr_f y_563ps_6 y_563ps_7 y_563we_f y_563inp_f y_563ba_f y_563gu_f)) ((Int32.toInt (nI w_4) - Int32.toInt 0).toNat + 1) sr_f ps_6 ps_7 we_f inp_f ba_f gu_f 0) := rfl
set_option maxRecDepth 100000 in
set_option maxHeartbeats 4000000 in
theorem wk_X4_foretellAll (E : g_E) (e : Nat) (fi : Nat) (se : Nat) (b1 : Nat) (b2 : Nat) (sh : Nat) (sv : Nat) (sr : Nat) (sl : Nat) (sp : Nat) (w : Nat) (ps : Nat) (md : Nat) (p : Nat) (we : Nat) (inp : Nat) (ba : Nat) (gu : Nat) (te : Nat) (de : Nat) (sv_f : Nat → Int32) (w_2 : Nat) (w_3 : Nat) (w_4 : Nat) (w_5 : Int32) (w_6 : Int32) (w_7 : Int32) (w_8 : Int32) (w_9 : Int32) (w_10 : Int32) (w_11 : Int32) (ps_5 : Int32) (p_2 : Nat) (te_f : Nat → Int32) (de_f : Nat → Int32) (sr_f : Nat → Int32) (ps_6 : Int32) (ps_7 : Int32) (we_f : Nat → Int32) (inp_f : Nat → Int32) (ba_f : Nat → Int32) (gu_f : Nat → Int32) (hk0 : w_2 ≤ 2) (hk1 : w_3 ≤ 2) (hk2 : w_4 ≤ 600) (hk3 : p_2 ≤ 8) : Ev E MX4_foretellAll 3 71 0 0 [.ref e, .ref w] [(e, .inr (4, [.ref fi, .ref se, .ref b1, .ref b2, .ref sh])), (sh, .inr (8, [.ref sv, .ref sr, .ref sl, .ref sp])), (sv, .inl (E.2.2.1 0, 1200, .inl sv_f)), (sr, .inl (E.2.2.1 0, 1200, .inl sr_f)), (w, .inr (9, [.ref ps, .ref md, .int (nI w_2), .int (nI w_3), .int (nI w_4), .int w_5, .int w_6, .int w_7, .int w_8, .int w_9, .int w_10, .int w_11])), (ps, .inr (6, [.ref p, .ref we, .ref inp, .ref ba, .ref gu, .int ps_5, .int ps_6, .int ps_7])), (p, .inr (7, [.ref te, .ref de, .int (nI p_2)])), (te, .inl (E.2.2.1 0, 8, .inl te_f)), (de, .inl (E.2.2.1 0, 8, .inl de_f)), (we, .inl (E.2.2.1 0, 16, .inl we_f)), (inp, .inl (E.2.2.1 0, 128, .inl inp_f)), (ba, .inl (E.2.2.1 0, 8, .inl ba_f)), (gu, .inl (E.2.2.1 0, 8, .inl gu_f))] (fun v_ w_ => ∃ zsr_f : Nat → Int32, ∃ zps_6 : Int32, ∃ zps_7 : Int32, ∃ zwe_f : Nat → Int32, ∃ zinp_f : Nat → Int32, ∃ zba_f : Nat → Int32, ∃ zgu_f : Nat → Int32, (∀ (β : Type) (k_ : (Nat → Int32) → Int32 → Int32 → (Nat → Int32) → (Nat → Int32) → (Nat → Int32) → (Nat → Int32) → β), fn_wk_X4_foretellAll sv_f w_3 w_4 ps_5 p_2 te_f de_f sr_f ps_6 ps_7 we_f inp_f ba_f gu_f β k_ = k_ zsr_f zps_6 zps_7 zwe_f zinp_f zba_f zgu_f) ∧ v_ = none ∧ w_ = [(e, .inr (4, [.ref fi, .ref se, .ref b1, .ref b2, .ref sh])), (sh, .inr (8, [.ref sv, .ref sr, .ref sl, .ref sp])), (sv, .inl (E.2.2.1 0, 1200, .inl sv_f)), (sr, .inl (E.2.2.1 0, 1200, .inl zsr_f)), (w, .inr (9, [.ref ps, .ref md, .int (nI w_2), .int (nI w_3), .int (nI w_4), .int w_5, .int w_6, .int w_7, .int w_8, .int w_9, .int w_10, .int w_11])), (ps, .inr (6, [.ref p, .ref we, .ref inp, .ref ba, .ref gu, .int ps_5, .int zps_6, .int zps_7])), (p, .inr (7, [.ref te, .ref de, .int (nI p_2)])), (te, .inl (E.2.2.1 0, 8, .inl te_f)), (de, .inl (E.2.2.1 0, 8, .inl de_f)), (we, .inl (E.2.2.1 0, 16, .inl zwe_f)), (inp, .inl (E.2.2.1 0, 128, .inl zinp_f)), (ba, .inl (E.2.2.1 0, 8, .inl zba_f)), (gu, .inl (E.2.2.1 0, 8, .inl zgu_f))]) := by
  refine Ev.intro (by decide) (Nat.le_of_ble_eq_true rfl) ?_
  intro X B hr hI
  have B : Bd E X cX4_foretellAll RX4 6 3 71 0 0 := B
  have hr : Rt E X none 0 0 (fun v_ w_ => ∃ zsr_f : Nat → Int32, ∃ zps_6 : Int32, ∃ zps_7 : Int32, ∃ zwe_f : Nat → Int32, ∃ zinp_f : Nat → Int32, ∃ zba_f : Nat → Int32, ∃ zgu_f : Nat → Int32, (∀ (β : Type) (k_ : (Nat → Int32) → Int32 → Int32 → (Nat → Int32) → (Nat → Int32) → (Nat → Int32) → (Nat → Int32) → β), fn_wk_X4_foretellAll sv_f w_3 w_4 ps_5 p_2 te_f de_f sr_f ps_6 ps_7 we_f inp_f ba_f gu_f β k_ = k_ zsr_f zps_6 zps_7 zwe_f zinp_f zba_f zgu_f) ∧ v_ = none ∧ w_ = [(e, .inr (4, [.ref fi, .ref se, .ref b1, .ref b2, .ref sh])), (sh, .inr (8, [.ref sv, .ref sr, .ref sl, .ref sp])), (sv, .inl (E.2.2.1 0, 1200, .inl sv_f)), (sr, .inl (E.2.2.1 0, 1200, .inl zsr_f)), (w, .inr (9, [.ref ps, .ref md, .int (nI w_2), .int (nI w_3), .int (nI w_4), .int w_5, .int w_6, .int w_7, .int w_8, .int w_9, .int w_10, .int w_11])), (ps, .inr (6, [.ref p, .ref we, .ref inp, .ref ba, .ref gu, .int ps_5, .int zps_6, .int zps_7])), (p, .inr (7, [.ref te, .ref de, .int (nI p_2)])), (te, .inl (E.2.2.1 0, 8, .inl te_f)), (de, .inl (E.2.2.1 0, 8, .inl de_f)), (we, .inl (E.2.2.1 0, 16, .inl zwe_f)), (inp, .inl (E.2.2.1 0, 128, .inl zinp_f)), (ba, .inl (E.2.2.1 0, 8, .inl zba_f)), (gu, .inl (E.2.2.1 0, 8, .inl zgu_f))]) := hr
  have e_ := fun (β : Type) (k_ : (Nat → Int32) → Int32 → Int32 → (Nat → Int32) → (Nat → Int32) → (Nat → Int32) → (Nat → Int32) → β) => fn_wk_X4_foretellAll_s (β := β) (k_ := k_) (sv_f := sv_f) (w_3 := w_3) (w_4 := w_4) (ps_5 := ps_5) (p_2 := p_2) (te_f := te_f) (de_f := de_f) (sr_f := sr_f) (ps_6 := ps_6) (ps_7 := ps_7) (we_f := we_f) (inp_f := inp_f) (ba_f := ba_f) (gu_f := gu_f)
  show G E X 6 [(e, .inr (4, [.ref fi, .ref se, .ref b1, .ref b2, .ref sh])), (sh, .inr (8, [.ref sv, .ref sr, .ref sl, .ref sp])), (sv, .inl (E.2.2.1 0, 1200, .inl sv_f)), (sr, .inl (E.2.2.1 0, 1200, .inl sr_f)), (w, .inr (9, [.ref ps, .ref md, .int (nI w_2), .int (nI w_3), .int (nI w_4), .int w_5, .int w_6, .int w_7, .int w_8, .int w_9, .int w_10, .int w_11])), (ps, .inr (6, [.ref p, .ref we, .ref inp, .ref ba, .ref gu, .int ps_5, .int ps_6, .int ps_7])), (p, .inr (7, [.ref te, .ref de, .int (nI p_2)])), (te, .inl (E.2.2.1 0, 8, .inl te_f)), (de, .inl (E.2.2.1 0, 8, .inl de_f)), (we, .inl (E.2.2.1 0, 16, .inl we_f)), (inp, .inl (E.2.2.1 0, 128, .inl inp_f)), (ba, .inl (E.2.2.1 0, 8, .inl ba_f)), (gu, .inl (E.2.2.1 0, 8, .inl gu_f))] 0 0 [(0, .ref e), (1, .ref w)] 0 []
  refine g_iconst (v := 0) B dX4_foretellAll_0 (by decide) ?_
  refine g_istore_n (lv' := [(2, .int 0), (0, .ref e), (1, .ref w)]) B dX4_foretellAll_1 rfl (by decide) rfl ?_
  refine g_lvsub (lv' := [(0, .ref e), (1, .ref w), (2, .int 0)]) [1, 2, 0] rfl ?_
  refine lp_wk_X4_foretellAll_2 E e fi se b1 b2 sh sv sr sl sp w ps md p we inp ba gu te de sv_f w_2 w_3 w_4 w_5 w_6 w_7 w_8 w_9 w_10 w_11 ps_5 p_2 te_f de_f hk0 hk1 hk2 hk3 _ B hr (fun y_563sr_f y_563ps_6 y_563ps_7 y_563we_f y_563inp_f y_563ba_f y_563gu_f y_563l2 e_ => ?_) _ sr_f ps_6 ps_7 we_f inp_f ba_f gu_f 0  (Nat.lt_succ_self _) e_
  exact g_vret B hr dX4_foretellAll_84 (by decide) (by decide) ⟨y_563sr_f, y_563ps_6, y_563ps_7, y_563we_f, y_563inp_f, y_563ba_f, y_563gu_f, e_, rfl, rfl⟩
