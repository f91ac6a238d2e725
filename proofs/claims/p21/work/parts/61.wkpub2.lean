abbrev MX10_size : g_M := (yX10_size, cX10_size, 3, (some .int))
theorem dX10_size_0 : decode cX10_size 0 = .ok (.aload_n 0, 1) := by decide +kernel
theorem dX10_size_1 : decode cX10_size 1 = .ok (.iload_n 1, 1) := by decide +kernel
theorem dX10_size_2 : decode cX10_size 2 = .ok (.invokevirtual 125, 3) := by decide +kernel
theorem w_ml_X10_125 : Cond.methodLink RX10 125 yX10_pressed ∈ g_tbl := g_tbl_in 691 (by decide +kernel) (by decide +kernel)
theorem w_cd_X10_pressed : g_cw MX10_pressed ∈ g_tbl := g_tbl_in 694 (by decide +kernel) (by decide +kernel)
theorem cl_X10_125 : CL RX10 125 1 MX10_pressed := ⟨w_ml_X10_125, w_cd_X10_pressed, w_ini_X10, by decide +kernel, by decide +kernel, by decide +kernel⟩
theorem w_im_X10_pressed : Cond.instanceMethod yX10_pressed ∈ g_tbl := g_tbl_in 693 (by decide +kernel) (by decide +kernel)
theorem w_se_X10_pressed : Cond.selects RX10 yX10_pressed yX10_pressed ∈ g_tbl := g_tbl_in 17 (by decide +kernel) (by decide +kernel)
theorem dX10_size_5 : decode cX10_size 5 = .ok (.astore_n 2, 1) := by decide +kernel
theorem dX10_size_6 : decode cX10_size 6 = .ok (.aload_n 2, 1) := by decide +kernel
theorem dX10_size_7 : decode cX10_size 7 = .ok (.ifnonnull 7, 3) := by decide +kernel
theorem dX10_size_14 : decode cX10_size 14 = .ok (.aload_n 2, 1) := by decide +kernel
theorem dX10_size_15 : decode cX10_size 15 = .ok (.getfield 124, 3) := by decide +kernel
theorem w_fl_X10_124 : Cond.fieldLink RX10 124 (TX2 1).1 (TX2 1).2.1 (TX2 1).2.2.1 ∈ g_tbl := g_tbl_in 133 (by decide +kernel) (by decide +kernel)
theorem fl_X10_124 : FL RX10 124 2 1 := ⟨RX2, TX2, 2, rfl, by decide, inX_X2, w_fl_X10_124⟩
theorem dX10_size_18 : decode cX10_size 18 = .ok (.ireturn, 1) := by decide +kernel
set_option maxRecDepth 100000 in
def fn_wk_X10_size_0 (fi_1 : Int32) (β : Type) (k_ : Int32 → β) : β := (k_ fi_1)
set_option maxRecDepth 100000 in
theorem fn_wk_X10_size_0_s {fi_1 : Int32} {β : Type} {k_ : Int32 → β} : fn_wk_X10_size_0 fi_1 β k_ = (k_ fi_1) := rfl
set_option maxRecDepth 100000 in
set_option maxHeartbeats 4000000 in
theorem wk_X10_size_0 (E : g_E) (x : Nat) (nu : Nat) (pl : Nat) (tp : Nat) (sd : Nat) (fi : Nat) (se : Nat) (enc : Nat) (dec : Nat) (wl : Nat) (wsp : Nat) (fia : Nat) (x_1 : Nat) (fi_1 : Int32) (hk0 : x_1 ≤ 1200) : Ev E MX10_size 1 21 0 0 [.ref x, .int 0] [(x, .inr (10, [.ref nu, .int (nI x_1), .ref pl, .ref tp, .ref sd, .ref fi, .ref se, .ref enc, .ref dec, .ref wl, .ref wsp])), (fi, .inr (2, [.ref fia, .int fi_1]))] (fun v_ w_ => ∃ zr : Int32, (∀ (β : Type) (k_ : Int32 → β), fn_wk_X10_size_0 fi_1 β k_ = k_ zr) ∧ v_ = some (.int zr) ∧ w_ = [(x, .inr (10, [.ref nu, .int (nI x_1), .ref pl, .ref tp, .ref sd, .ref fi, .ref se, .ref enc, .ref dec, .ref wl, .ref wsp])), (fi, .inr (2, [.ref fia, .int fi_1]))]) := by
  refine Ev.intro (by decide) (Nat.le_of_ble_eq_true rfl) ?_
  intro X B hr hI
  have B : Bd E X cX10_size RX10 3 1 21 0 0 := B
  have hr : Rt E X (some .int) 0 0 (fun v_ w_ => ∃ zr : Int32, (∀ (β : Type) (k_ : Int32 → β), fn_wk_X10_size_0 fi_1 β k_ = k_ zr) ∧ v_ = some (.int zr) ∧ w_ = [(x, .inr (10, [.ref nu, .int (nI x_1), .ref pl, .ref tp, .ref sd, .ref fi, .ref se, .ref enc, .ref dec, .ref wl, .ref wsp])), (fi, .inr (2, [.ref fia, .int fi_1]))]) := hr
  have e_ := fun (β : Type) (k_ : Int32 → β) => fn_wk_X10_size_0_s (β := β) (k_ := k_) (fi_1 := fi_1)
  show G E X 3 [(x, .inr (10, [.ref nu, .int (nI x_1), .ref pl, .ref tp, .ref sd, .ref fi, .ref se, .ref enc, .ref dec, .ref wl, .ref wsp])), (fi, .inr (2, [.ref fia, .int fi_1]))] 0 0 [(0, .ref x), (1, .int 0)] 0 []
  refine g_aload_n B dX10_size_0 rfl 0 rfl ?_
  refine g_iload_n B dX10_size_1 rfl 1 rfl ?_
  refine g_callV (st := []) (As := [.int 0]) (wr := [(fi, .inr (2, [.ref fia, .int fi_1]))]) (nc' := 0) (ns' := 0) B cl_X10_125 w_im_X10_pressed w_se_X10_pressed (wk_X10_pressed_0 E x nu pl tp sd fi se enc dec wl wsp (nI x_1) ) rfl [0] [1] rfl rfl (by decide) (by decide) (by decide) 0 rfl (fun q h => by cases h; rfl) rfl ⟨by decide, by decide⟩ rfl rfl (by decide) (by decide) rfl (Nat.le_of_ble_eq_true rfl) dX10_size_2 (fun v w hq => ?_)
  obtain ⟨rfl, rfl⟩ := hq
  show G E X 3 [(fi, .inr (2, [.ref fia, .int fi_1])), (x, .inr (10, [.ref nu, .int (nI x_1), .ref pl, .ref tp, .ref sd, .ref fi, .ref se, .ref enc, .ref dec, .ref wl, .ref wsp]))] 0 0 [(0, .ref x), (1, .int 0)] 5 [.ref fi]
  refine g_astore_n (lv' := [(2, .ref fi), (0, .ref x), (1, .int 0)]) B dX10_size_5 rfl (by decide) rfl ?_
  refine g_aload_n B dX10_size_6 rfl 0 rfl ?_
  refine g_ifnonnull (tgt := 14) B dX10_size_7 (by decide) ?_
  refine g_aload_n B dX10_size_14 rfl 0 rfl ?_
  refine g_get B 0 1 fl_X10_124 rfl rfl dX10_size_15 ?_
  refine g_sub (ws' := [(x, .inr (10, [.ref nu, .int (nI x_1), .ref pl, .ref tp, .ref sd, .ref fi, .ref se, .ref enc, .ref dec, .ref wl, .ref wsp])), (fi, .inr (2, [.ref fia, .int fi_1]))]) [1, 0] (by decide) rfl ?_
  exact g_iret B hr dX10_size_18 (by decide) (by decide) ⟨fi_1, e_, rfl, rfl⟩
abbrev MX10_out : g_M := (yX10_out, cX10_out, 4, (some .int))
theorem dX10_out_0 : decode cX10_out 0 = .ok (.aload_n 0, 1) := by decide +kernel
theorem dX10_out_1 : decode cX10_out 1 = .ok (.iload_n 1, 1) := by decide +kernel
theorem dX10_out_2 : decode cX10_out 2 = .ok (.invokevirtual 125, 3) := by decide +kernel
theorem dX10_out_5 : decode cX10_out 5 = .ok (.astore_n 3, 1) := by decide +kernel
theorem dX10_out_6 : decode cX10_out 6 = .ok (.aload_n 3, 1) := by decide +kernel
theorem dX10_out_7 : decode cX10_out 7 = .ok (.ifnonnull 7, 3) := by decide +kernel
theorem dX10_out_14 : decode cX10_out 14 = .ok (.aload_n 3, 1) := by decide +kernel
theorem dX10_out_15 : decode cX10_out 15 = .ok (.iload_n 2, 1) := by decide +kernel
theorem dX10_out_16 : decode cX10_out 16 = .ok (.invokevirtual 129, 3) := by decide +kernel
theorem w_ml_X10_129 : Cond.methodLink RX10 129 yX2_at ∈ g_tbl := g_tbl_in 699 (by decide +kernel) (by decide +kernel)
theorem cl_X10_129 : CL RX10 129 1 MX2_at := ⟨w_ml_X10_129, w_cd_X2_at, w_ini_X2, by decide +kernel, by decide +kernel, by decide +kernel⟩
theorem dX10_out_19 : decode cX10_out 19 = .ok (.ireturn, 1) := by decide +kernel
set_option maxRecDepth 100000 in
def fn_wk_X10_out_0 (fi_1 : Int32) (fia_f : Nat → Int32) (i : Int32) (β : Type) (k_ : Int32 → β) : β := (fn_wk_X2_at 9600 fi_1 fia_f i β (fun zr_1376 => (k_ zr_1376)))
set_option maxRecDepth 100000 in
theorem fn_wk_X10_out_0_s {fi_1 : Int32} {fia_f : Nat → Int32} {i : Int32} {β : Type} {k_ : Int32 → β} : fn_wk_X10_out_0 fi_1 fia_f i β k_ = (fn_wk_X2_at 9600 fi_1 fia_f i β (fun zr_1376 => (k_ zr_1376))) := rfl
set_option maxRecDepth 100000 in
set_option maxHeartbeats 4000000 in
theorem wk_X10_out_0 (E : g_E) (x : Nat) (nu : Nat) (pl : Nat) (tp : Nat) (sd : Nat) (fi : Nat) (se : Nat) (enc : Nat) (dec : Nat) (wl : Nat) (wsp : Nat) (fia : Nat) (x_1 : Nat) (fi_1 : Int32) (fia_f : Nat → Int32) (i : Int32) (hk0 : x_1 ≤ 1200) : Ev E MX10_out 1 21 0 0 [.ref x, .int 0, .int i] [(x, .inr (10, [.ref nu, .int (nI x_1), .ref pl, .ref tp, .ref sd, .ref fi, .ref se, .ref enc, .ref dec, .ref wl, .ref wsp])), (fi, .inr (2, [.ref fia, .int fi_1])), (fia, .inl (E.2.2.1 1, 9600, .inl (nb fia_f)))] (fun v_ w_ => ∃ zr : Int32, (∀ (β : Type) (k_ : Int32 → β), fn_wk_X10_out_0 fi_1 fia_f i β k_ = k_ zr) ∧ v_ = some (.int zr) ∧ w_ = [(x, .inr (10, [.ref nu, .int (nI x_1), .ref pl, .ref tp, .ref sd, .ref fi, .ref se, .ref enc, .ref dec, .ref wl, .ref wsp])), (fi, .inr (2, [.ref fia, .int fi_1])), (fia, .inl (E.2.2.1 1, 9600, .inl (nb fia_f)))]) := by
  refine Ev.intro (by decide) (Nat.le_of_ble_eq_true rfl) ?_
  intro X B hr hI
  have B : Bd E X cX10_out RX10 4 1 21 0 0 := B
  have hr : Rt E X (some .int) 0 0 (fun v_ w_ => ∃ zr : Int32, (∀ (β : Type) (k_ : Int32 → β), fn_wk_X10_out_0 fi_1 fia_f i β k_ = k_ zr) ∧ v_ = some (.int zr) ∧ w_ = [(x, .inr (10, [.ref nu, .int (nI x_1), .ref pl, .ref tp, .ref sd, .ref fi, .ref se, .ref enc, .ref dec, .ref wl, .ref wsp])), (fi, .inr (2, [.ref fia, .int fi_1])), (fia, .inl (E.2.2.1 1, 9600, .inl (nb fia_f)))]) := hr
  have e_ := fun (β : Type) (k_ : Int32 → β) => fn_wk_X10_out_0_s (β := β) (k_ := k_) (fi_1 := fi_1) (fia_f := fia_f) (i := i)
  show G E X 4 [(x, .inr (10, [.ref nu, .int (nI x_1), .ref pl, .ref tp, .ref sd, .ref fi, .ref se, .ref enc, .ref dec, .ref wl, .ref wsp])), (fi, .inr (2, [.ref fia, .int fi_1])), (fia, .inl (E.2.2.1 1, 9600, .inl (nb fia_f)))] 0 0 [(0, .ref x), (1, .int 0), (2, .int i)] 0 []
  refine g_aload_n B dX10_out_0 rfl 0 rfl ?_
  refine g_iload_n B dX10_out_1 rfl 1 rfl ?_
  refine g_callV (st := []) (As := [.int 0]) (wr := [(fi, .inr (2, [.ref fia, .int fi_1])), (fia, .inl (E.2.2.1 1, 9600, .inl (nb fia_f)))]) (nc' := 0) (ns' := 0) B cl_X10_125 w_im_X10_pressed w_se_X10_pressed (wk_X10_pressed_0 E x nu pl tp sd fi se enc dec wl wsp (nI x_1) ) rfl [0] [1, 2] rfl rfl (by decide) (by decide) (by decide) 0 rfl (fun q h => by cases h; rfl) rfl ⟨by decide, by decide⟩ rfl rfl (by decide) (by decide) rfl (Nat.le_of_ble_eq_true rfl) dX10_out_2 (fun v w hq => ?_)
  obtain ⟨rfl, rfl⟩ := hq
  show G E X 4 [(fi, .inr (2, [.ref fia, .int fi_1])), (fia, .inl (E.2.2.1 1, 9600, .inl (nb fia_f))), (x, .inr (10, [.ref nu, .int (nI x_1), .ref pl, .ref tp, .ref sd, .ref fi, .ref se, .ref enc, .ref dec, .ref wl, .ref wsp]))] 0 0 [(0, .ref x), (1, .int 0), (2, .int i)] 5 [.ref fi]
  refine g_astore_n (lv' := [(3, .ref fi), (0, .ref x), (1, .int 0), (2, .int i)]) B dX10_out_5 rfl (by decide) rfl ?_
  refine g_aload_n B dX10_out_6 rfl 0 rfl ?_
  refine g_ifnonnull (tgt := 14) B dX10_out_7 (by decide) ?_
  refine g_aload_n B dX10_out_14 rfl 0 rfl ?_
  refine g_iload_n B dX10_out_15 rfl 3 rfl ?_
  refine g_callV (st := []) (As := [.int i]) (wr := [(x, .inr (10, [.ref nu, .int (nI x_1), .ref pl, .ref tp, .ref sd, .ref fi, .ref se, .ref enc, .ref dec, .ref wl, .ref wsp]))]) (nc' := 0) (ns' := 0) B cl_X10_129 w_im_X2_at w_se_X2_at (wk_X2_at E fi fia 9600 fi_1 fia_f i (by first | assumption | omega | decide)) rfl [0, 1] [2] rfl rfl (by decide) (by decide) (by decide) 0 rfl (fun q h => by cases h; rfl) rfl ⟨by decide, by decide⟩ rfl rfl (by decide) (by decide) rfl (Nat.le_of_ble_eq_true rfl) dX10_out_16 (fun v w hq => ?_)
  obtain ⟨zr_1376, hz_1377, rfl, rfl⟩ := hq
  replace e_ := fun β k_ => (e_ β k_).trans (hz_1377 β _)
  show G E X 4 [(x, .inr (10, [.ref nu, .int (nI x_1), .ref pl, .ref tp, .ref sd, .ref fi, .ref se, .ref enc, .ref dec, .ref wl, .ref wsp])), (fi, .inr (2, [.ref fia, .int fi_1])), (fia, .inl (E.2.2.1 1, 9600, .inl (nb fia_f)))] 0 0 [(3, .ref fi), (0, .ref x), (1, .int 0), (2, .int i)] 19 [.int zr_1376]
  exact g_iret B hr dX10_out_19 (by decide) (by decide) ⟨zr_1376, e_, rfl, rfl⟩
abbrev MX10_feed : g_M := (yX10_feed, cX10_feed, 6, (some .int))
theorem dX10_feed_0 : decode cX10_feed 0 = .ok (.aload_n 0, 1) := by decide +kernel
theorem dX10_feed_1 : decode cX10_feed 1 = .ok (.iload_n 1, 1) := by decide +kernel
theorem dX10_feed_2 : decode cX10_feed 2 = .ok (.invokevirtual 133, 3) := by decide +kernel
theorem w_ml_X10_133 : Cond.methodLink RX10 133 yX10_fed ∈ g_tbl := g_tbl_in 707 (by decide +kernel) (by decide +kernel)
theorem w_cd_X10_fed : g_cw MX10_fed ∈ g_tbl := g_tbl_in 710 (by decide +kernel) (by decide +kernel)
theorem cl_X10_133 : CL RX10 133 1 MX10_fed := ⟨w_ml_X10_133, w_cd_X10_fed, w_ini_X10, by decide +kernel, by decide +kernel, by decide +kernel⟩
theorem w_im_X10_fed : Cond.instanceMethod yX10_fed ∈ g_tbl := g_tbl_in 709 (by decide +kernel) (by decide +kernel)
theorem w_se_X10_fed : Cond.selects RX10 yX10_fed yX10_fed ∈ g_tbl := g_tbl_in 18 (by decide +kernel) (by decide +kernel)
theorem dX10_feed_5 : decode cX10_feed 5 = .ok (.astore 5, 2) := by decide +kernel
theorem dX10_feed_7 : decode cX10_feed 7 = .ok (.aload 5, 2) := by decide +kernel
theorem dX10_feed_9 : decode cX10_feed 9 = .ok (.ifnull 20, 3) := by decide +kernel
theorem dX10_feed_12 : decode cX10_feed 12 = .ok (.aload 5, 2) := by decide +kernel
theorem dX10_feed_14 : decode cX10_feed 14 = .ok (.getfield 124, 3) := by decide +kernel
theorem dX10_feed_17 : decode cX10_feed 17 = .ok (.bipush 12, 2) := by decide +kernel
theorem dX10_feed_19 : decode cX10_feed 19 = .ok (.iadd, 1) := by decide +kernel
theorem dX10_feed_20 : decode cX10_feed 20 = .ok (.aload 5, 2) := by decide +kernel
theorem dX10_feed_22 : decode cX10_feed 22 = .ok (.getfield 136, 3) := by decide +kernel
theorem w_fl_X10_136 : Cond.fieldLink RX10 136 (TX2 0).1 (TX2 0).2.1 (TX2 0).2.2.1 ∈ g_tbl := g_tbl_in 129 (by decide +kernel) (by decide +kernel)
theorem fl_X10_136 : FL RX10 136 2 0 := ⟨RX2, TX2, 2, rfl, by decide, inX_X2, w_fl_X10_136⟩
theorem dX10_feed_25 : decode cX10_feed 25 = .ok (.arraylength, 1) := by decide +kernel
theorem dX10_feed_26 : decode cX10_feed 26 = .ok (.if_icmp .le 5, 3) := by decide +kernel
theorem dX10_feed_31 : decode cX10_feed 31 = .ok (.aload 5, 2) := by decide +kernel
theorem dX10_feed_33 : decode cX10_feed 33 = .ok (.iload_n 2, 1) := by decide +kernel
theorem dX10_feed_34 : decode cX10_feed 34 = .ok (.invokevirtual 140, 3) := by decide +kernel
theorem w_ml_X10_140 : Cond.methodLink RX10 140 yX2_addWord ∈ g_tbl := g_tbl_in 711 (by decide +kernel) (by decide +kernel)
theorem cl_X10_140 : CL RX10 140 1 MX2_addWord := ⟨w_ml_X10_140, w_cd_X2_addWord, w_ini_X2, by decide +kernel, by decide +kernel, by decide +kernel⟩
theorem dX10_feed_37 : decode cX10_feed 37 = .ok (.aload 5, 2) := by decide +kernel
theorem dX10_feed_39 : decode cX10_feed 39 = .ok (.iload_n 3, 1) := by decide +kernel
theorem dX10_feed_40 : decode cX10_feed 40 = .ok (.invokevirtual 140, 3) := by decide +kernel
theorem dX10_feed_43 : decode cX10_feed 43 = .ok (.aload 5, 2) := by decide +kernel
theorem dX10_feed_45 : decode cX10_feed 45 = .ok (.iload 4, 2) := by decide +kernel
theorem dX10_feed_47 : decode cX10_feed 47 = .ok (.invokevirtual 140, 3) := by decide +kernel
theorem dX10_feed_50 : decode cX10_feed 50 = .ok (.aload 5, 2) := by decide +kernel
theorem dX10_feed_52 : decode cX10_feed 52 = .ok (.getfield 124, 3) := by decide +kernel
theorem dX10_feed_55 : decode cX10_feed 55 = .ok (.ireturn, 1) := by decide +kernel
theorem dX10_feed_29 : decode cX10_feed 29 = .ok (.iconst (-1), 1) := by decide +kernel
theorem dX10_feed_30 : decode cX10_feed 30 = .ok (.ireturn, 1) := by decide +kernel
set_option maxRecDepth 100000 in
def fn_wk_X10_feed_0 (tp_1 : Int32) (tpa_f : Nat → Int32) (a1 : Int32) (a2 : Int32) (a3 : Int32) (β : Type) (k_ : Int32 → (Nat → Int32) → Int32 → β) : β := (if (tp_1 + 12) ≤ 6000 then (fn_wk_X2_addWord 6000 tp_1 tpa_f a1 β (fun zt_1_1380 za_f_1381 => (fn_wk_X2_addWord 6000 zt_1_1380 za_f_1381 a2 β (fun zt_1_1383 za_f_1384 => (fn_wk_X2_addWord 6000 zt_1_1383 za_f_1384 a3 β (fun zt_1_1386 za_f_1387 => (k_ zt_1_1386 za_f_1387 zt_1_1386))))))) else (k_ tp_1 tpa_f (-1)))
set_option maxRecDepth 100000 in
theorem fn_wk_X10_feed_0_s {tp_1 : Int32} {tpa_f : Nat → Int32} {a1 : Int32} {a2 : Int32} {a3 : Int32} {β : Type} {k_ : Int32 → (Nat → Int32) → Int32 → β} : fn_wk_X10_feed_0 tp_1 tpa_f a1 a2 a3 β k_ = (if (tp_1 + 12) ≤ 6000 then (fn_wk_X2_addWord 6000 tp_1 tpa_f a1 β (fun zt_1_1380 za_f_1381 => (fn_wk_X2_addWord 6000 zt_1_1380 za_f_1381 a2 β (fun zt_1_1383 za_f_1384 => (fn_wk_X2_addWord 6000 zt_1_1383 za_f_1384 a3 β (fun zt_1_1386 za_f_1387 => (k_ zt_1_1386 za_f_1387 zt_1_1386))))))) else (k_ tp_1 tpa_f (-1))) := rfl
set_option maxRecDepth 100000 in
set_option maxHeartbeats 4000000 in
theorem wk_X10_feed_0 (E : g_E) (x : Nat) (nu : Nat) (pl : Nat) (tp : Nat) (sd : Nat) (fi : Nat) (se : Nat) (enc : Nat) (dec : Nat) (wl : Nat) (wsp : Nat) (tpa : Nat) (x_1 : Nat) (tp_1 : Int32) (tpa_f : Nat → Int32) (a1 : Int32) (a2 : Int32) (a3 : Int32) (hk0 : x_1 ≤ 1200) : Ev E MX10_feed 2 43 0 0 [.ref x, .int 0, .int a1, .int a2, .int a3] [(x, .inr (10, [.ref nu, .int (nI x_1), .ref pl, .ref tp, .ref sd, .ref fi, .ref se, .ref enc, .ref dec, .ref wl, .ref wsp])), (tp, .inr (2, [.ref tpa, .int tp_1])), (tpa, .inl (E.2.2.1 1, 6000, .inl (nb tpa_f)))] (fun v_ w_ => ∃ ztp_1 : Int32, ∃ ztpa_f : Nat → Int32, ∃ zr : Int32, (∀ (β : Type) (k_ : Int32 → (Nat → Int32) → Int32 → β), fn_wk_X10_feed_0 tp_1 tpa_f a1 a2 a3 β k_ = k_ ztp_1 ztpa_f zr) ∧ v_ = some (.int zr) ∧ w_ = [(x, .inr (10, [.ref nu, .int (nI x_1), .ref pl, .ref tp, .ref sd, .ref fi, .ref se, .ref enc, .ref dec, .ref wl, .ref wsp])), (tp, .inr (2, [.ref tpa, .int ztp_1])), (tpa, .inl (E.2.2.1 1, 6000, .inl (nb ztpa_f)))]) := by
  refine Ev.intro (by decide) (Nat.le_of_ble_eq_true rfl) ?_
  intro X B hr hI
  have B : Bd E X cX10_feed RX10 6 2 43 0 0 := B
  have hr : Rt E X (some .int) 0 0 (fun v_ w_ => ∃ ztp_1 : Int32, ∃ ztpa_f : Nat → Int32, ∃ zr : Int32, (∀ (β : Type) (k_ : Int32 → (Nat → Int32) → Int32 → β), fn_wk_X10_feed_0 tp_1 tpa_f a1 a2 a3 β k_ = k_ ztp_1 ztpa_f zr) ∧ v_ = some (.int zr) ∧ w_ = [(x, .inr (10, [.ref nu, .int (nI x_1), .ref pl, .ref tp, .ref sd, .ref fi, .ref se, .ref enc, .ref dec, .ref wl, .ref wsp])), (tp, .inr (2, [.ref tpa, .int ztp_1])), (tpa, .inl (E.2.2.1 1, 6000, .inl (nb ztpa_f)))]) := hr
  have e_ := fun (β : Type) (k_ : Int32 → (Nat → Int32) → Int32 → β) => fn_wk_X10_feed_0_s (β := β) (k_ := k_) (tp_1 := tp_1) (tpa_f := tpa_f) (a1 := a1) (a2 := a2) (a3 := a3)
  show G E X 6 [(x, .inr (10, [.ref nu, .int (nI x_1), .ref pl, .ref tp, .ref sd, .ref fi, .ref se, .ref enc, .ref dec, .ref wl, .ref wsp])), (tp, .inr (2, [.ref tpa, .int tp_1])), (tpa, .inl (E.2.2.1 1, 6000, .inl (nb tpa_f)))] 0 0 [(0, .ref x), (1, .int 0), (2, .int a1), (3, .int a2), (4, .int a3)] 0 []
  refine g_aload_n B dX10_feed_0 rfl 0 rfl ?_
  refine g_iload_n B dX10_feed_1 rfl 1 rfl ?_
  refine g_callV (st := []) (As := [.int 0]) (wr := [(tp, .inr (2, [.ref tpa, .int tp_1])), (tpa, .inl (E.2.2.1 1, 6000, .inl (nb tpa_f)))]) (nc' := 0) (ns' := 0) B cl_X10_133 w_im_X10_fed w_se_X10_fed (wk_X10_fed_0 E x nu pl tp sd fi se enc dec wl wsp (nI x_1) ) rfl [0] [1, 2] rfl rfl (by decide) (by decide) (by decide) 0 rfl (fun q h => by cases h; rfl) rfl ⟨by decide, by decide⟩ rfl rfl (by decide) (by decide) rfl (Nat.le_of_ble_eq_true rfl) dX10_feed_2 (fun v w hq => ?_)
  obtain ⟨rfl, rfl⟩ := hq
  show G E X 6 [(tp, .inr (2, [.ref tpa, .int tp_1])), (tpa, .inl (E.2.2.1 1, 6000, .inl (nb tpa_f))), (x, .inr (10, [.ref nu, .int (nI x_1), .ref pl, .ref tp, .ref sd, .ref fi, .ref se, .ref enc, .ref dec, .ref wl, .ref wsp]))] 0 0 [(0, .ref x), (1, .int 0), (2, .int a1), (3, .int a2), (4, .int a3)] 5 [.ref tp]
  refine g_astore (lv' := [(5, .ref tp), (0, .ref x), (1, .int 0), (2, .int a1), (3, .int a2), (4, .int a3)]) B dX10_feed_5 (by decide) rfl ?_
  refine g_aload B dX10_feed_7 0 rfl ?_
  refine g_ifnull B dX10_feed_9 ?_
  refine g_aload B dX10_feed_12 0 rfl ?_
  refine g_get B 0 1 fl_X10_124 rfl rfl dX10_feed_14 ?_
  refine g_bipush (v := 12) B dX10_feed_17 (by decide) ?_
  refine g_iadd B dX10_feed_19 ?_
  refine g_aload B dX10_feed_20 0 rfl ?_
  refine g_get B 0 0 fl_X10_136 rfl rfl dX10_feed_22 ?_
  refine g_alen (v := nI 6000) B 1 (by decide) rfl rfl dX10_feed_25 ?_
  refine g_ri (x' := 6000) (by decide) ?_
  refine g_icmp_le (tgt := 31) B dX10_feed_26 (by decide) (fun c26_1379 => ?_) (fun c26_1379 => ?_)
  · replace e_ := fun β k_ => (e_ β k_).trans (if_pos c26_1379)
    refine g_aload B dX10_feed_31 0 rfl ?_
    refine g_iload_n B dX10_feed_33 rfl 3 rfl ?_
    refine g_callV (st := []) (As := [.int a1]) (wr := [(x, .inr (10, [.ref nu, .int (nI x_1), .ref pl, .ref tp, .ref sd, .ref fi, .ref se, .ref enc, .ref dec, .ref wl, .ref wsp]))]) (nc' := 0) (ns' := 0) B cl_X10_140 w_im_X2_addWord w_se_X2_addWord (wk_X2_addWord E tp tpa 6000 tp_1 tpa_f a1 (by first | assumption | omega | decide)) rfl [0, 1] [2] rfl rfl (by decide) (by decide) (by decide) 0 rfl (fun q h => by cases h; rfl) rfl ⟨by decide, by decide⟩ rfl rfl (by decide) (by decide) rfl (Nat.le_of_ble_eq_true rfl) dX10_feed_34 (fun v w hq => ?_)
    obtain ⟨zt_1_1380, za_f_1381, hz_1382, rfl, rfl⟩ := hq
    replace e_ := fun β k_ => (e_ β k_).trans (hz_1382 β _)
    show G E X 6 [(x, .inr (10, [.ref nu, .int (nI x_1), .ref pl, .ref tp, .ref sd, .ref fi, .ref se, .ref enc, .ref dec, .ref wl, .ref wsp])), (tp, .inr (2, [.ref tpa, .int zt_1_1380])), (tpa, .inl (E.2.2.1 1, 6000, .inl (nb za_f_1381)))] 0 0 [(5, .ref tp), (0, .ref x), (1, .int 0), (2, .int a1), (3, .int a2), (4, .int a3)] 37 []
    refine g_aload B dX10_feed_37 0 rfl ?_
    refine g_iload_n B dX10_feed_39 rfl 4 rfl ?_
    refine g_callV (st := []) (As := [.int a2]) (wr := [(x, .inr (10, [.ref nu, .int (nI x_1), .ref pl, .ref tp, .ref sd, .ref fi, .ref se, .ref enc, .ref dec, .ref wl, .ref wsp]))]) (nc' := 0) (ns' := 0) B cl_X10_140 w_im_X2_addWord w_se_X2_addWord (wk_X2_addWord E tp tpa 6000 zt_1_1380 za_f_1381 a2 (by first | assumption | omega | decide)) rfl [1, 2] [0] rfl rfl (by decide) (by decide) (by decide) 0 rfl (fun q h => by cases h; rfl) rfl ⟨by decide, by decide⟩ rfl rfl (by decide) (by decide) rfl (Nat.le_of_ble_eq_true rfl) dX10_feed_40 (fun v w hq => ?_)
    obtain ⟨zt_1_1383, za_f_1384, hz_1385, rfl, rfl⟩ := hq
    replace e_ := fun β k_ => (e_ β k_).trans (hz_1385 β _)
    show G E X 6 [(x, .inr (10, [.ref nu, .int (nI x_1), .ref pl, .ref tp, .ref sd, .ref fi, .ref se, .ref enc, .ref dec, .ref wl, .ref wsp])), (tp, .inr (2, [.ref tpa, .int zt_1_1383])), (tpa, .inl (E.2.2.1 1, 6000, .inl (nb za_f_1384)))] 0 0 [(5, .ref tp), (0, .ref x), (1, .int 0), (2, .int a1), (3, .int a2), (4, .int a3)] 43 []
    refine g_aload B dX10_feed_43 0 rfl ?_
    refine g_iload B dX10_feed_45 5 rfl ?_
    refine g_callV (st := []) (As := [.int a3]) (wr := [(x, .inr (10, [.ref nu, .int (nI x_1), .ref pl, .ref tp, .ref sd, .ref fi, .ref se, .ref enc, .ref dec, .ref wl, .ref wsp]))]) (nc' := 0) (ns' := 0) B cl_X10_140 w_im_X2_addWord w_se_X2_addWord (wk_X2_addWord E tp tpa 6000 zt_1_1383 za_f_1384 a3 (by first | assumption | omega | decide)) rfl [1, 2] [0] rfl rfl (by decide) (by decide) (by decide) 0 rfl (fun q h => by cases h; rfl) rfl ⟨by decide, by decide⟩ rfl rfl (by decide) (by decide) rfl (Nat.le_of_ble_eq_true rfl) dX10_feed_47 (fun v w hq => ?_)
    obtain ⟨zt_1_1386, za_f_1387, hz_1388, rfl, rfl⟩ := hq
    replace e_ := fun β k_ => (e_ β k_).trans (hz_1388 β _)
    show G E X 6 [(x, .inr (10, [.ref nu, .int (nI x_1), .ref pl, .ref tp, .ref sd, .ref fi, .ref se, .ref enc, .ref dec, .ref wl, .ref wsp])), (tp, .inr (2, [.ref tpa, .int zt_1_1386])), (tpa, .inl (E.2.2.1 1, 6000, .inl (nb za_f_1387)))] 0 0 [(5, .ref tp), (0, .ref x), (1, .int 0), (2, .int a1), (3, .int a2), (4, .int a3)] 50 []
    refine g_aload B dX10_feed_50 0 rfl ?_
    refine g_get B 1 1 fl_X10_124 rfl rfl dX10_feed_52 ?_
    exact g_iret B hr dX10_feed_55 (by decide) (by decide) ⟨zt_1_1386, za_f_1387, zt_1_1386, e_, rfl, rfl⟩
  · replace e_ := fun β k_ => (e_ β k_).trans (if_neg c26_1379)
    refine g_iconst (v := (-1)) B dX10_feed_29 (by decide) ?_
    refine g_sub (ws' := [(x, .inr (10, [.ref nu, .int (nI x_1), .ref pl, .ref tp, .ref sd, .ref fi, .ref se, .ref enc, .ref dec, .ref wl, .ref wsp])), (tp, .inr (2, [.ref tpa, .int tp_1])), (tpa, .inl (E.2.2.1 1, 6000, .inl (nb tpa_f)))]) [2, 0, 1] (by decide) rfl ?_
    exact g_iret B hr dX10_feed_30 (by decide) (by decide) ⟨tp_1, tpa_f, (-1), e_, rfl, rfl⟩
abbrev MX10_end : g_M := (yX10_end, cX10_end, 4, (some .boolean))
theorem dX10_end_0 : decode cX10_end 0 = .ok (.aload_n 0, 1) := by decide +kernel
theorem dX10_end_1 : decode cX10_end 1 = .ok (.iload_n 1, 1) := by decide +kernel
theorem dX10_end_2 : decode cX10_end 2 = .ok (.invokevirtual 133, 3) := by decide +kernel
theorem dX10_end_5 : decode cX10_end 5 = .ok (.astore_n 3, 1) := by decide +kernel
theorem dX10_end_6 : decode cX10_end 6 = .ok (.aload_n 3, 1) := by decide +kernel
theorem dX10_end_7 : decode cX10_end 7 = .ok (.ifnull 15, 3) := by decide +kernel
theorem dX10_end_10 : decode cX10_end 10 = .ok (.aload_n 3, 1) := by decide +kernel
theorem dX10_end_11 : decode cX10_end 11 = .ok (.iload_n 2, 1) := by decide +kernel
theorem dX10_end_12 : decode cX10_end 12 = .ok (.invokevirtual 143, 3) := by decide +kernel
theorem w_ml_X10_143 : Cond.methodLink RX10 143 yX2_shorten ∈ g_tbl := g_tbl_in 716 (by decide +kernel) (by decide +kernel)
theorem cl_X10_143 : CL RX10 143 1 MX2_shorten := ⟨w_ml_X10_143, w_cd_X2_shorten, w_ini_X2, by decide +kernel, by decide +kernel, by decide +kernel⟩
theorem dX10_end_15 : decode cX10_end 15 = .ok (.ifCond .eq 7, 3) := by decide +kernel
theorem dX10_end_22 : decode cX10_end 22 = .ok (.iconst 0, 1) := by decide +kernel
theorem dX10_end_23 : decode cX10_end 23 = .ok (.ireturn, 1) := by decide +kernel
theorem dX10_end_18 : decode cX10_end 18 = .ok (.iconst 1, 1) := by decide +kernel
theorem dX10_end_19 : decode cX10_end 19 = .ok (.goto 4, 3) := by decide +kernel
set_option maxRecDepth 100000 in
def fn_wk_X10_end_0 (tp_1 : Int32) (n : Int32) (β : Type) (k_ : Int32 → Int32 → β) : β := (fn_wk_X2_shorten tp_1 n β (fun zt_1_1390 zr_1391 => (if zr_1391 = 0 then (k_ zt_1_1390 0) else (k_ zt_1_1390 1))))
set_option maxRecDepth 100000 in
theorem fn_wk_X10_end_0_s {tp_1 : Int32} {n : Int32} {β : Type} {k_ : Int32 → Int32 → β} : fn_wk_X10_end_0 tp_1 n β k_ = (fn_wk_X2_shorten tp_1 n β (fun zt_1_1390 zr_1391 => (if zr_1391 = 0 then (k_ zt_1_1390 0) else (k_ zt_1_1390 1)))) := rfl
set_option maxRecDepth 100000 in
set_option maxHeartbeats 4000000 in
theorem wk_X10_end_0 (E : g_E) (x : Nat) (nu : Nat) (pl : Nat) (tp : Nat) (sd : Nat) (fi : Nat) (se : Nat) (enc : Nat) (dec : Nat) (wl : Nat) (wsp : Nat) (tpa : Nat) (x_1 : Nat) (tpa_f : Nat → Int32) (tp_1 : Int32) (n : Int32) (hk0 : x_1 ≤ 1200) : Ev E MX10_end 1 21 0 0 [.ref x, .int 0, .int n] [(x, .inr (10, [.ref nu, .int (nI x_1), .ref pl, .ref tp, .ref sd, .ref fi, .ref se, .ref enc, .ref dec, .ref wl, .ref wsp])), (tp, .inr (2, [.ref tpa, .int tp_1])), (tpa, .inl (E.2.2.1 1, 6000, .inl (nb tpa_f)))] (fun v_ w_ => ∃ ztp_1 : Int32, ∃ zr : Int32, (zr = 0 ∨ zr = 1) ∧ (∀ (β : Type) (k_ : Int32 → Int32 → β), fn_wk_X10_end_0 tp_1 n β k_ = k_ ztp_1 zr) ∧ v_ = some (.int zr) ∧ w_ = [(x, .inr (10, [.ref nu, .int (nI x_1), .ref pl, .ref tp, .ref sd, .ref fi, .ref se, .ref enc, .ref dec, .ref wl, .ref wsp])), (tp, .inr (2, [.ref tpa, .int ztp_1])), (tpa, .inl (E.2.2.1 1, 6000, .inl (nb tpa_f)))]) := by
  refine Ev.intro (by decide) (Nat.le_of_ble_eq_true rfl) ?_
  intro X B hr hI
  have B : Bd E X cX10_end RX10 4 1 21 0 0 := B
  have hr : Rt E X (some .boolean) 0 0 (fun v_ w_ => ∃ ztp_1 : Int32, ∃ zr : Int32, (zr = 0 ∨ zr = 1) ∧ (∀ (β : Type) (k_ : Int32 → Int32 → β), fn_wk_X10_end_0 tp_1 n β k_ = k_ ztp_1 zr) ∧ v_ = some (.int zr) ∧ w_ = [(x, .inr (10, [.ref nu, .int (nI x_1), .ref pl, .ref tp, .ref sd, .ref fi, .ref se, .ref enc, .ref dec, .ref wl, .ref wsp])), (tp, .inr (2, [.ref tpa, .int ztp_1])), (tpa, .inl (E.2.2.1 1, 6000, .inl (nb tpa_f)))]) := hr
  have e_ := fun (β : Type) (k_ : Int32 → Int32 → β) => fn_wk_X10_end_0_s (β := β) (k_ := k_) (tp_1 := tp_1) (n := n)
  show G E X 4 [(x, .inr (10, [.ref nu, .int (nI x_1), .ref pl, .ref tp, .ref sd, .ref fi, .ref se, .ref enc, .ref dec, .ref wl, .ref wsp])), (tp, .inr (2, [.ref tpa, .int tp_1])), (tpa, .inl (E.2.2.1 1, 6000, .inl (nb tpa_f)))] 0 0 [(0, .ref x), (1, .int 0), (2, .int n)] 0 []
  refine g_aload_n B dX10_end_0 rfl 0 rfl ?_
  refine g_iload_n B dX10_end_1 rfl 1 rfl ?_
  refine g_callV (st := []) (As := [.int 0]) (wr := [(tp, .inr (2, [.ref tpa, .int tp_1])), (tpa, .inl (E.2.2.1 1, 6000, .inl (nb tpa_f)))]) (nc' := 0) (ns' := 0) B cl_X10_133 w_im_X10_fed w_se_X10_fed (wk_X10_fed_0 E x nu pl tp sd fi se enc dec wl wsp (nI x_1) ) rfl [0] [1, 2] rfl rfl (by decide) (by decide) (by decide) 0 rfl (fun q h => by cases h; rfl) rfl ⟨by decide, by decide⟩ rfl rfl (by decide) (by decide) rfl (Nat.le_of_ble_eq_true rfl) dX10_end_2 (fun v w hq => ?_)
  obtain ⟨rfl, rfl⟩ := hq
  show G E X 4 [(tp, .inr (2, [.ref tpa, .int tp_1])), (tpa, .inl (E.2.2.1 1, 6000, .inl (nb tpa_f))), (x, .inr (10, [.ref nu, .int (nI x_1), .ref pl, .ref tp, .ref sd, .ref fi, .ref se, .ref enc, .ref dec, .ref wl, .ref wsp]))] 0 0 [(0, .ref x), (1, .int 0), (2, .int n)] 5 [.ref tp]
  refine g_astore_n (lv' := [(3, .ref tp), (0, .ref x), (1, .int 0), (2, .int n)]) B dX10_end_5 rfl (by decide) rfl ?_
  refine g_aload_n B dX10_end_6 rfl 0 rfl ?_
  refine g_ifnull B dX10_end_7 ?_
  refine g_aload_n B dX10_end_10 rfl 0 rfl ?_
  refine g_iload_n B dX10_end_11 rfl 3 rfl ?_
  refine g_callV (st := []) (As := [.int n]) (wr := [(x, .inr (10, [.ref nu, .int (nI x_1), .ref pl, .ref tp, .ref sd, .ref fi, .ref se, .ref enc, .ref dec, .ref wl, .ref wsp]))]) (nc' := 0) (ns' := 0) B cl_X10_143 w_im_X2_shorten w_se_X2_shorten (wk_X2_shorten E tp tpa 6000 tpa_f tp_1 n (by first | assumption | omega | decide)) rfl [0, 1] [2] rfl rfl (by decide) (by decide) (by decide) 0 rfl (fun q h => by cases h; rfl) rfl ⟨by decide, by decide⟩ rfl rfl (by decide) (by decide) rfl (Nat.le_of_ble_eq_true rfl) dX10_end_12 (fun v w hq => ?_)
  obtain ⟨zt_1_1390, zr_1391, hf_1392, hz_1393, rfl, rfl⟩ := hq
  replace e_ := fun β k_ => (e_ β k_).trans (hz_1393 β _)
  show G E X 4 [(x, .inr (10, [.ref nu, .int (nI x_1), .ref pl, .ref tp, .ref sd, .ref fi, .ref se, .ref enc, .ref dec, .ref wl, .ref wsp])), (tp, .inr (2, [.ref tpa, .int zt_1_1390])), (tpa, .inl (E.2.2.1 1, 6000, .inl (nb tpa_f)))] 0 0 [(3, .ref tp), (0, .ref x), (1, .int 0), (2, .int n)] 15 [.int zr_1391]
  refine g_if_eq (tgt := 22) B dX10_end_15 (by decide) (fun c15_1394 => ?_) (fun c15_1394 => ?_)
  · replace e_ := fun β k_ => (e_ β k_).trans (if_pos c15_1394)
    refine g_iconst (v := 0) B dX10_end_22 (by decide) ?_
    exact g_zret B hr (by decide) dX10_end_23 (by decide) (by decide) ⟨zt_1_1390, 0, (Or.inl rfl), e_, rfl, rfl⟩
  · replace e_ := fun β k_ => (e_ β k_).trans (if_neg c15_1394)
    refine g_iconst (v := 1) B dX10_end_18 (by decide) ?_
    refine g_goto (tgt := 23) B dX10_end_19 (by decide) ?_
    exact g_zret B hr (by decide) dX10_end_23 (by decide) (by decide) ⟨zt_1_1390, 1, (Or.inr rfl), e_, rfl, rfl⟩
abbrev MX10_harm : g_M := (yX10_harm, cX10_harm, 5, (some .boolean))
theorem dX10_harm_0 : decode cX10_harm 0 = .ok (.aload_n 0, 1) := by decide +kernel
theorem dX10_harm_1 : decode cX10_harm 1 = .ok (.iload_n 1, 1) := by decide +kernel
theorem dX10_harm_2 : decode cX10_harm 2 = .ok (.invokevirtual 133, 3) := by decide +kernel
theorem dX10_harm_5 : decode cX10_harm 5 = .ok (.astore 4, 2) := by decide +kernel
theorem dX10_harm_7 : decode cX10_harm 7 = .ok (.aload 4, 2) := by decide +kernel
theorem dX10_harm_9 : decode cX10_harm 9 = .ok (.ifnull 17, 3) := by decide +kernel
theorem dX10_harm_12 : decode cX10_harm 12 = .ok (.aload 4, 2) := by decide +kernel
theorem dX10_harm_14 : decode cX10_harm 14 = .ok (.iload_n 2, 1) := by decide +kernel
theorem dX10_harm_15 : decode cX10_harm 15 = .ok (.iload_n 3, 1) := by decide +kernel
theorem dX10_harm_16 : decode cX10_harm 16 = .ok (.invokevirtual 149, 3) := by decide +kernel
theorem w_ml_X10_149 : Cond.methodLink RX10 149 yX2_turn ∈ g_tbl := g_tbl_in 732 (by decide +kernel) (by decide +kernel)
theorem w_cd_X2_turn : g_cw MX2_turn ∈ g_tbl := g_tbl_in 735 (by decide +kernel) (by decide +kernel)
theorem cl_X10_149 : CL RX10 149 2 MX2_turn := ⟨w_ml_X10_149, w_cd_X2_turn, w_ini_X2, by decide +kernel, by decide +kernel, by decide +kernel⟩
theorem w_im_X2_turn : Cond.instanceMethod yX2_turn ∈ g_tbl := g_tbl_in 733 (by decide +kernel) (by decide +kernel)
theorem w_se_X2_turn : Cond.selects RX2 yX2_turn yX2_turn ∈ g_tbl := g_tbl_in 734 (by decide +kernel) (by decide +kernel)
theorem dX10_harm_19 : decode cX10_harm 19 = .ok (.ifCond .eq 7, 3) := by decide +kernel
theorem dX10_harm_26 : decode cX10_harm 26 = .ok (.iconst 0, 1) := by decide +kernel
theorem dX10_harm_27 : decode cX10_harm 27 = .ok (.ireturn, 1) := by decide +kernel
theorem dX10_harm_22 : decode cX10_harm 22 = .ok (.iconst 1, 1) := by decide +kernel
theorem dX10_harm_23 : decode cX10_harm 23 = .ok (.goto 4, 3) := by decide +kernel
set_option maxRecDepth 100000 in
def fn_wk_X10_harm_0 (tp_1 : Int32) (tpa_f : Nat → Int32) (i : Int32) (b : Int32) (β : Type) (k_ : (Nat → Int32) → Int32 → β) : β := (fn_wk_X2_turn 6000 tp_1 tpa_f i b β (fun za_f_1396 zr_1397 => (if zr_1397 = 0 then (k_ za_f_1396 0) else (k_ za_f_1396 1))))
set_option maxRecDepth 100000 in
theorem fn_wk_X10_harm_0_s {tp_1 : Int32} {tpa_f : Nat → Int32} {i : Int32} {b : Int32} {β : Type} {k_ : (Nat → Int32) → Int32 → β} : fn_wk_X10_harm_0 tp_1 tpa_f i b β k_ = (fn_wk_X2_turn 6000 tp_1 tpa_f i b β (fun za_f_1396 zr_1397 => (if zr_1397 = 0 then (k_ za_f_1396 0) else (k_ za_f_1396 1)))) := rfl
set_option maxRecDepth 100000 in
set_option maxHeartbeats 4000000 in
theorem wk_X10_harm_0 (E : g_E) (x : Nat) (nu : Nat) (pl : Nat) (tp : Nat) (sd : Nat) (fi : Nat) (se : Nat) (enc : Nat) (dec : Nat) (wl : Nat) (wsp : Nat) (tpa : Nat) (x_1 : Nat) (tp_1 : Int32) (tpa_f : Nat → Int32) (i : Int32) (b : Int32) (hk0 : x_1 ≤ 1200) : Ev E MX10_harm 1 22 0 0 [.ref x, .int 0, .int i, .int b] [(x, .inr (10, [.ref nu, .int (nI x_1), .ref pl, .ref tp, .ref sd, .ref fi, .ref se, .ref enc, .ref dec, .ref wl, .ref wsp])), (tp, .inr (2, [.ref tpa, .int tp_1])), (tpa, .inl (E.2.2.1 1, 6000, .inl (nb tpa_f)))] (fun v_ w_ => ∃ ztpa_f : Nat → Int32, ∃ zr : Int32, (zr = 0 ∨ zr = 1) ∧ (∀ (β : Type) (k_ : (Nat → Int32) → Int32 → β), fn_wk_X10_harm_0 tp_1 tpa_f i b β k_ = k_ ztpa_f zr) ∧ v_ = some (.int zr) ∧ w_ = [(x, .inr (10, [.ref nu, .int (nI x_1), .ref pl, .ref tp, .ref sd, .ref fi, .ref se, .ref enc, .ref dec, .ref wl, .ref wsp])), (tp, .inr (2, [.ref tpa, .int tp_1])), (tpa, .inl (E.2.2.1 1, 6000, .inl (nb ztpa_f)))]) := by
  refine Ev.intro (by decide) (Nat.le_of_ble_eq_true rfl) ?_
  intro X B hr hI
  have B : Bd E X cX10_harm RX10 5 1 22 0 0 := B
  have hr : Rt E X (some .boolean) 0 0 (fun v_ w_ => ∃ ztpa_f : Nat → Int32, ∃ zr : Int32, (zr = 0 ∨ zr = 1) ∧ (∀ (β : Type) (k_ : (Nat → Int32) → Int32 → β), fn_wk_X10_harm_0 tp_1 tpa_f i b β k_ = k_ ztpa_f zr) ∧ v_ = some (.int zr) ∧ w_ = [(x, .inr (10, [.ref nu, .int (nI x_1), .ref pl, .ref tp, .ref sd, .ref fi, .ref se, .ref enc, .ref dec, .ref wl, .ref wsp])), (tp, .inr (2, [.ref tpa, .int tp_1])), (tpa, .inl (E.2.2.1 1, 6000, .inl (nb ztpa_f)))]) := hr
  have e_ := fun (β : Type) (k_ : (Nat → Int32) → Int32 → β) => fn_wk_X10_harm_0_s (β := β) (k_ := k_) (tp_1 := tp_1) (tpa_f := tpa_f) (i := i) (b := b)
  show G E X 5 [(x, .inr (10, [.ref nu, .int (nI x_1), .ref pl, .ref tp, .ref sd, .ref fi, .ref se, .ref enc, .ref dec, .ref wl, .ref wsp])), (tp, .inr (2, [.ref tpa, .int tp_1])), (tpa, .inl (E.2.2.1 1, 6000, .inl (nb tpa_f)))] 0 0 [(0, .ref x), (1, .int 0), (2, .int i), (3, .int b)] 0 []
  refine g_aload_n B dX10_harm_0 rfl 0 rfl ?_
  refine g_iload_n B dX10_harm_1 rfl 1 rfl ?_
  refine g_callV (st := []) (As := [.int 0]) (wr := [(tp, .inr (2, [.ref tpa, .int tp_1])), (tpa, .inl (E.2.2.1 1, 6000, .inl (nb tpa_f)))]) (nc' := 0) (ns' := 0) B cl_X10_133 w_im_X10_fed w_se_X10_fed (wk_X10_fed_0 E x nu pl tp sd fi se enc dec wl wsp (nI x_1) ) rfl [0] [1, 2] rfl rfl (by decide) (by decide) (by decide) 0 rfl (fun q h => by cases h; rfl) rfl ⟨by decide, by decide⟩ rfl rfl (by decide) (by decide) rfl (Nat.le_of_ble_eq_true rfl) dX10_harm_2 (fun v w hq => ?_)
  obtain ⟨rfl, rfl⟩ := hq
  show G E X 5 [(tp, .inr (2, [.ref tpa, .int tp_1])), (tpa, .inl (E.2.2.1 1, 6000, .inl (nb tpa_f))), (x, .inr (10, [.ref nu, .int (nI x_1), .ref pl, .ref tp, .ref sd, .ref fi, .ref se, .ref enc, .ref dec, .ref wl, .ref wsp]))] 0 0 [(0, .ref x), (1, .int 0), (2, .int i), (3, .int b)] 5 [.ref tp]
  refine g_astore (lv' := [(4, .ref tp), (0, .ref x), (1, .int 0), (2, .int i), (3, .int b)]) B dX10_harm_5 (by decide) rfl ?_
  refine g_aload B dX10_harm_7 0 rfl ?_
  refine g_ifnull B dX10_harm_9 ?_
  refine g_aload B dX10_harm_12 0 rfl ?_
  refine g_iload_n B dX10_harm_14 rfl 3 rfl ?_
  refine g_iload_n B dX10_harm_15 rfl 4 rfl ?_
  refine g_callV (st := []) (As := [.int i, .int b]) (wr := [(x, .inr (10, [.ref nu, .int (nI x_1), .ref pl, .ref tp, .ref sd, .ref fi, .ref se, .ref enc, .ref dec, .ref wl, .ref wsp]))]) (nc' := 0) (ns' := 0) B cl_X10_149 w_im_X2_turn w_se_X2_turn (wk_X2_turn E tp tpa 6000 tp_1 tpa_f i b (by first | assumption | omega | decide)) rfl [0, 1] [2] rfl rfl (by decide) (by decide) (by decide) 0 rfl (fun q h => by cases h; rfl) rfl ⟨by decide, by decide⟩ rfl rfl (by decide) (by decide) rfl (Nat.le_of_ble_eq_true rfl) dX10_harm_16 (fun v w hq => ?_)
  obtain ⟨za_f_1396, zr_1397, hf_1398, hz_1399, rfl, rfl⟩ := hq
  replace e_ := fun β k_ => (e_ β k_).trans (hz_1399 β _)
  show G E X 5 [(x, .inr (10, [.ref nu, .int (nI x_1), .ref pl, .ref tp, .ref sd, .ref fi, .ref se, .ref enc, .ref dec, .ref wl, .ref wsp])), (tp, .inr (2, [.ref tpa, .int tp_1])), (tpa, .inl (E.2.2.1 1, 6000, .inl (nb za_f_1396)))] 0 0 [(4, .ref tp), (0, .ref x), (1, .int 0), (2, .int i), (3, .int b)] 19 [.int zr_1397]
  refine g_if_eq (tgt := 26) B dX10_harm_19 (by decide) (fun c19_1400 => ?_) (fun c19_1400 => ?_)
  · replace e_ := fun β k_ => (e_ β k_).trans (if_pos c19_1400)
    refine g_iconst (v := 0) B dX10_harm_26 (by decide) ?_
    exact g_zret B hr (by decide) dX10_harm_27 (by decide) (by decide) ⟨za_f_1396, 0, (Or.inl rfl), e_, rfl, rfl⟩
  · replace e_ := fun β k_ => (e_ β k_).trans (if_neg c19_1400)
    refine g_iconst (v := 1) B dX10_harm_22 (by decide) ?_
    refine g_goto (tgt := 27) B dX10_harm_23 (by decide) ?_
    exact g_zret B hr (by decide) dX10_harm_27 (by decide) (by decide) ⟨za_f_1396, 1, (Or.inr rfl), e_, rfl, rfl⟩
abbrev MX10_seal : g_M := (yX10_seal, cX10_seal, 3, (some .boolean))
theorem dX10_seal_0 : decode cX10_seal 0 = .ok (.aload_n 0, 1) := by decide +kernel
theorem dX10_seal_1 : decode cX10_seal 1 = .ok (.iload_n 1, 1) := by decide +kernel
theorem dX10_seal_2 : decode cX10_seal 2 = .ok (.invokevirtual 133, 3) := by decide +kernel
theorem dX10_seal_5 : decode cX10_seal 5 = .ok (.astore_n 2, 1) := by decide +kernel
theorem dX10_seal_6 : decode cX10_seal 6 = .ok (.aload_n 2, 1) := by decide +kernel
theorem dX10_seal_7 : decode cX10_seal 7 = .ok (.ifnull 11, 3) := by decide +kernel
theorem dX10_seal_10 : decode cX10_seal 10 = .ok (.aload_n 2, 1) := by decide +kernel
theorem dX10_seal_11 : decode cX10_seal 11 = .ok (.getfield 124, 3) := by decide +kernel
theorem dX10_seal_14 : decode cX10_seal 14 = .ok (.iconst 4, 1) := by decide +kernel
theorem dX10_seal_15 : decode cX10_seal 15 = .ok (.if_icmp .gt 5, 3) := by decide +kernel
theorem dX10_seal_20 : decode cX10_seal 20 = .ok (.aload_n 2, 1) := by decide +kernel
theorem dX10_seal_21 : decode cX10_seal 21 = .ok (.aload_n 2, 1) := by decide +kernel
theorem dX10_seal_22 : decode cX10_seal 22 = .ok (.getfield 124, 3) := by decide +kernel
theorem dX10_seal_25 : decode cX10_seal 25 = .ok (.iconst 4, 1) := by decide +kernel
theorem dX10_seal_26 : decode cX10_seal 26 = .ok (.isub, 1) := by decide +kernel
theorem dX10_seal_27 : decode cX10_seal 27 = .ok (.aload_n 2, 1) := by decide +kernel
theorem dX10_seal_28 : decode cX10_seal 28 = .ok (.aload_n 2, 1) := by decide +kernel
theorem dX10_seal_29 : decode cX10_seal 29 = .ok (.getfield 124, 3) := by decide +kernel
theorem dX10_seal_32 : decode cX10_seal 32 = .ok (.iconst 4, 1) := by decide +kernel
theorem dX10_seal_33 : decode cX10_seal 33 = .ok (.isub, 1) := by decide +kernel
theorem dX10_seal_34 : decode cX10_seal 34 = .ok (.invokevirtual 152, 3) := by decide +kernel
theorem w_ml_X10_152 : Cond.methodLink RX10 152 yX2_crc ∈ g_tbl := g_tbl_in 740 (by decide +kernel) (by decide +kernel)
theorem cl_X10_152 : CL RX10 152 1 MX2_crc := ⟨w_ml_X10_152, w_cd_X2_crc, w_ini_X2, by decide +kernel, by decide +kernel, by decide +kernel⟩
theorem dX10_seal_37 : decode cX10_seal 37 = .ok (.invokevirtual 155, 3) := by decide +kernel
theorem w_ml_X10_155 : Cond.methodLink RX10 155 yX2_putWord ∈ g_tbl := g_tbl_in 741 (by decide +kernel) (by decide +kernel)
theorem cl_X10_155 : CL RX10 155 2 MX2_putWord := ⟨w_ml_X10_155, w_cd_X2_putWord, w_ini_X2, by decide +kernel, by decide +kernel, by decide +kernel⟩
theorem dX10_seal_40 : decode cX10_seal 40 = .ok (.iconst 1, 1) := by decide +kernel
theorem dX10_seal_41 : decode cX10_seal 41 = .ok (.ireturn, 1) := by decide +kernel
theorem dX10_seal_18 : decode cX10_seal 18 = .ok (.iconst 0, 1) := by decide +kernel
theorem dX10_seal_19 : decode cX10_seal 19 = .ok (.ireturn, 1) := by decide +kernel
set_option maxRecDepth 100000 in
def fn_wk_X10_seal_0 (tp_1 : Int32) (tpa_f : Nat → Int32) (β : Type) (k_ : (Nat → Int32) → Int32 → β) : β := (if 4 < tp_1 then (fn_wk_X2_crc 6000 tp_1 tpa_f (tp_1 - 4) β (fun zr_1403 => (fn_wk_X2_putWord 6000 tp_1 tpa_f (tp_1 - 4) zr_1403 β (fun za_f_1405 => (k_ za_f_1405 1))))) else (k_ tpa_f 0))
set_option maxRecDepth 100000 in
theorem fn_wk_X10_seal_0_s {tp_1 : Int32} {tpa_f : Nat → Int32} {β : Type} {k_ : (Nat → Int32) → Int32 → β} : fn_wk_X10_seal_0 tp_1 tpa_f β k_ = (if 4 < tp_1 then (fn_wk_X2_crc 6000 tp_1 tpa_f (tp_1 - 4) β (fun zr_1403 => (fn_wk_X2_putWord 6000 tp_1 tpa_f (tp_1 - 4) zr_1403 β (fun za_f_1405 => (k_ za_f_1405 1))))) else (k_ tpa_f 0)) := rfl
set_option maxRecDepth 100000 in
set_option maxHeartbeats 4000000 in
theorem wk_X10_seal_0 (E : g_E) (x : Nat) (nu : Nat) (pl : Nat) (tp : Nat) (sd : Nat) (fi : Nat) (se : Nat) (enc : Nat) (dec : Nat) (wl : Nat) (wsp : Nat) (tpa : Nat) (x_1 : Nat) (tp_1 : Int32) (tpa_f : Nat → Int32) (hk0 : x_1 ≤ 1200) : Ev E MX10_seal 1 23 0 0 [.ref x, .int 0] [(x, .inr (10, [.ref nu, .int (nI x_1), .ref pl, .ref tp, .ref sd, .ref fi, .ref se, .ref enc, .ref dec, .ref wl, .ref wsp])), (tp, .inr (2, [.ref tpa, .int tp_1])), (tpa, .inl (E.2.2.1 1, 6000, .inl (nb tpa_f)))] (fun v_ w_ => ∃ ztpa_f : Nat → Int32, ∃ zr : Int32, (zr = 0 ∨ zr = 1) ∧ (∀ (β : Type) (k_ : (Nat → Int32) → Int32 → β), fn_wk_X10_seal_0 tp_1 tpa_f β k_ = k_ ztpa_f zr) ∧ v_ = some (.int zr) ∧ w_ = [(x, .inr (10, [.ref nu, .int (nI x_1), .ref pl, .ref tp, .ref sd, .ref fi, .ref se, .ref enc, .ref dec, .ref wl, .ref wsp])), (tp, .inr (2, [.ref tpa, .int tp_1])), (tpa, .inl (E.2.2.1 1, 6000, .inl (nb ztpa_f)))]) := by
  refine Ev.intro (by decide) (Nat.le_of_ble_eq_true rfl) ?_
  intro X B hr hI
  have B : Bd E X cX10_seal RX10 3 1 23 0 0 := B
  have hr : Rt E X (some .boolean) 0 0 (fun v_ w_ => ∃ ztpa_f : Nat → Int32, ∃ zr : Int32, (zr = 0 ∨ zr = 1) ∧ (∀ (β : Type) (k_ : (Nat → Int32) → Int32 → β), fn_wk_X10_seal_0 tp_1 tpa_f β k_ = k_ ztpa_f zr) ∧ v_ = some (.int zr) ∧ w_ = [(x, .inr (10, [.ref nu, .int (nI x_1), .ref pl, .ref tp, .ref sd, .ref fi, .ref se, .ref enc, .ref dec, .ref wl, .ref wsp])), (tp, .inr (2, [.ref tpa, .int tp_1])), (tpa, .inl (E.2.2.1 1, 6000, .inl (nb ztpa_f)))]) := hr
  have e_ := fun (β : Type) (k_ : (Nat → Int32) → Int32 → β) => fn_wk_X10_seal_0_s (β := β) (k_ := k_) (tp_1 := tp_1) (tpa_f := tpa_f)
  show G E X 3 [(x, .inr (10, [.ref nu, .int (nI x_1), .ref pl, .ref tp, .ref sd, .ref fi, .ref se, .ref enc, .ref dec, .ref wl, .ref wsp])), (tp, .inr (2, [.ref tpa, .int tp_1])), (tpa, .inl (E.2.2.1 1, 6000, .inl (nb tpa_f)))] 0 0 [(0, .ref x), (1, .int 0)] 0 []
  refine g_aload_n B dX10_seal_0 rfl 0 rfl ?_
  refine g_iload_n B dX10_seal_1 rfl 1 rfl ?_
  refine g_callV (st := []) (As := [.int 0]) (wr := [(tp, .inr (2, [.ref tpa, .int tp_1])), (tpa, .inl (E.2.2.1 1, 6000, .inl (nb tpa_f)))]) (nc' := 0) (ns' := 0) B cl_X10_133 w_im_X10_fed w_se_X10_fed (wk_X10_fed_0 E x nu pl tp sd fi se enc dec wl wsp (nI x_1) ) rfl [0] [1, 2] rfl rfl (by decide) (by decide) (by decide) 0 rfl (fun q h => by cases h; rfl) rfl ⟨by decide, by decide⟩ rfl rfl (by decide) (by decide) rfl (Nat.le_of_ble_eq_true rfl) dX10_seal_2 (fun v w hq => ?_)
  obtain ⟨rfl, rfl⟩ := hq
  show G E X 3 [(tp, .inr (2, [.ref tpa, .int tp_1])), (tpa, .inl (E.2.2.1 1, 6000, .inl (nb tpa_f))), (x, .inr (10, [.ref nu, .int (nI x_1), .ref pl, .ref tp, .ref sd, .ref fi, .ref se, .ref enc, .ref dec, .ref wl, .ref wsp]))] 0 0 [(0, .ref x), (1, .int 0)] 5 [.ref tp]
  refine g_astore_n (lv' := [(2, .ref tp), (0, .ref x), (1, .int 0)]) B dX10_seal_5 rfl (by decide) rfl ?_
  refine g_aload_n B dX10_seal_6 rfl 0 rfl ?_
  refine g_ifnull B dX10_seal_7 ?_
  refine g_aload_n B dX10_seal_10 rfl 0 rfl ?_
  refine g_get B 0 1 fl_X10_124 rfl rfl dX10_seal_11 ?_
  refine g_iconst (v := 4) B dX10_seal_14 (by decide) ?_
  refine g_icmp_gt (tgt := 20) B dX10_seal_15 (by decide) (fun c15_1402 => ?_) (fun c15_1402 => ?_)
  · replace e_ := fun β k_ => (e_ β k_).trans (if_pos c15_1402)
    refine g_aload_n B dX10_seal_20 rfl 0 rfl ?_
    refine g_aload_n B dX10_seal_21 rfl 0 rfl ?_
    refine g_get B 0 1 fl_X10_124 rfl rfl dX10_seal_22 ?_
    refine g_iconst (v := 4) B dX10_seal_25 (by decide) ?_
    refine g_isub B dX10_seal_26 ?_
    refine g_aload_n B dX10_seal_27 rfl 0 rfl ?_
    refine g_aload_n B dX10_seal_28 rfl 0 rfl ?_
    refine g_get B 0 1 fl_X10_124 rfl rfl dX10_seal_29 ?_
    refine g_iconst (v := 4) B dX10_seal_32 (by decide) ?_
    refine g_isub B dX10_seal_33 ?_
    refine g_callV (st := [.int (tp_1 - 4), .ref tp]) (As := [.int (tp_1 - 4)]) (wr := [(x, .inr (10, [.ref nu, .int (nI x_1), .ref pl, .ref tp, .ref sd, .ref fi, .ref se, .ref enc, .ref dec, .ref wl, .ref wsp]))]) (nc' := 0) (ns' := 0) B cl_X10_152 w_im_X2_crc w_se_X2_crc (wk_X2_crc E tp tpa 6000 tp_1 tpa_f (tp_1 - 4) (by first | assumption | omega | decide)) rfl [0, 1] [2] rfl rfl (by decide) (by decide) (by decide) 0 rfl (fun q h => by cases h; rfl) rfl ⟨by decide, by decide⟩ rfl rfl (by decide) (by decide) rfl (Nat.le_of_ble_eq_true rfl) dX10_seal_34 (fun v w hq => ?_)
    obtain ⟨zr_1403, hz_1404, rfl, rfl⟩ := hq
    replace e_ := fun β k_ => (e_ β k_).trans (hz_1404 β _)
    show G E X 3 [(x, .inr (10, [.ref nu, .int (nI x_1), .ref pl, .ref tp, .ref sd, .ref fi, .ref se, .ref enc, .ref dec, .ref wl, .ref wsp])), (tp, .inr (2, [.ref tpa, .int tp_1])), (tpa, .inl (E.2.2.1 1, 6000, .inl (nb tpa_f)))] 0 0 [(2, .ref tp), (0, .ref x), (1, .int 0)] 37 [.int zr_1403, .int (tp_1 - 4), .ref tp]
    refine g_callV (st := []) (As := [.int (tp_1 - 4), .int zr_1403]) (wr := [(x, .inr (10, [.ref nu, .int (nI x_1), .ref pl, .ref tp, .ref sd, .ref fi, .ref se, .ref enc, .ref dec, .ref wl, .ref wsp]))]) (nc' := 0) (ns' := 0) B cl_X10_155 w_im_X2_putWord w_se_X2_putWord (wk_X2_putWord E tp tpa 6000 tp_1 tpa_f (tp_1 - 4) zr_1403 (by first | assumption | omega | decide) (sl_4 (o_3 c15_1402))) rfl [1, 2] [0] rfl rfl (by decide) (by decide) (by decide) 0 rfl (fun q h => by cases h; rfl) rfl ⟨by decide, by decide⟩ rfl rfl (by decide) (by decide) rfl (Nat.le_of_ble_eq_true rfl) dX10_seal_37 (fun v w hq => ?_)
    obtain ⟨za_f_1405, hz_1406, rfl, rfl⟩ := hq
    replace e_ := fun β k_ => (e_ β k_).trans (hz_1406 β _)
    show G E X 3 [(x, .inr (10, [.ref nu, .int (nI x_1), .ref pl, .ref tp, .ref sd, .ref fi, .ref se, .ref enc, .ref dec, .ref wl, .ref wsp])), (tp, .inr (2, [.ref tpa, .int tp_1])), (tpa, .inl (E.2.2.1 1, 6000, .inl (nb za_f_1405)))] 0 0 [(2, .ref tp), (0, .ref x), (1, .int 0)] 40 []
    refine g_iconst (v := 1) B dX10_seal_40 (by decide) ?_
    exact g_zret B hr (by decide) dX10_seal_41 (by decide) (by decide) ⟨za_f_1405, 1, (Or.inr rfl), e_, rfl, rfl⟩
  · replace e_ := fun β k_ => (e_ β k_).trans (if_neg c15_1402)
    refine g_iconst (v := 0) B dX10_seal_18 (by decide) ?_
    refine g_sub (ws' := [(x, .inr (10, [.ref nu, .int (nI x_1), .ref pl, .ref tp, .ref sd, .ref fi, .ref se, .ref enc, .ref dec, .ref wl, .ref wsp])), (tp, .inr (2, [.ref tpa, .int tp_1])), (tpa, .inl (E.2.2.1 1, 6000, .inl (nb tpa_f)))]) [2, 0, 1] (by decide) rfl ?_
    exact g_zret B hr (by decide) dX10_seal_19 (by decide) (by decide) ⟨tpa_f, 0, (Or.inl rfl), e_, rfl, rfl⟩
abbrev MX10_take : g_M := (yX10_take, cX10_take, 4, (some .int))
theorem dX10_take_0 : decode cX10_take 0 = .ok (.aload_n 0, 1) := by decide +kernel
theorem dX10_take_1 : decode cX10_take 1 = .ok (.iload_n 1, 1) := by decide +kernel
theorem dX10_take_2 : decode cX10_take 2 = .ok (.invokevirtual 133, 3) := by decide +kernel
theorem dX10_take_5 : decode cX10_take 5 = .ok (.astore_n 2, 1) := by decide +kernel
theorem dX10_take_6 : decode cX10_take 6 = .ok (.aload_n 0, 1) := by decide +kernel
theorem dX10_take_7 : decode cX10_take 7 = .ok (.iload_n 1, 1) := by decide +kernel
theorem dX10_take_8 : decode cX10_take 8 = .ok (.invokevirtual 125, 3) := by decide +kernel
theorem dX10_take_11 : decode cX10_take 11 = .ok (.astore_n 3, 1) := by decide +kernel
theorem dX10_take_12 : decode cX10_take 12 = .ok (.aload_n 2, 1) := by decide +kernel
theorem dX10_take_13 : decode cX10_take 13 = .ok (.ifnull 15, 3) := by decide +kernel
theorem dX10_take_16 : decode cX10_take 16 = .ok (.aload_n 3, 1) := by decide +kernel
theorem dX10_take_17 : decode cX10_take 17 = .ok (.ifnull 11, 3) := by decide +kernel
theorem dX10_take_20 : decode cX10_take 20 = .ok (.aload_n 2, 1) := by decide +kernel
theorem dX10_take_21 : decode cX10_take 21 = .ok (.aload_n 3, 1) := by decide +kernel
theorem dX10_take_22 : decode cX10_take 22 = .ok (.invokevirtual 146, 3) := by decide +kernel
theorem w_ml_X10_146 : Cond.methodLink RX10 146 yX2_copy ∈ g_tbl := g_tbl_in 721 (by decide +kernel) (by decide +kernel)
theorem w_cd_X2_copy : g_cw MX2_copy ∈ g_tbl := g_tbl_in 724 (by decide +kernel) (by decide +kernel)
theorem cl_X10_146 : CL RX10 146 1 MX2_copy := ⟨w_ml_X10_146, w_cd_X2_copy, w_ini_X2, by decide +kernel, by decide +kernel, by decide +kernel⟩
theorem w_im_X2_copy : Cond.instanceMethod yX2_copy ∈ g_tbl := g_tbl_in 722 (by decide +kernel) (by decide +kernel)
theorem w_se_X2_copy : Cond.selects RX2 yX2_copy yX2_copy ∈ g_tbl := g_tbl_in 723 (by decide +kernel) (by decide +kernel)
theorem dX10_take_25 : decode cX10_take 25 = .ok (.ifCond .ne 5, 3) := by decide +kernel
theorem dX10_take_30 : decode cX10_take 30 = .ok (.aload_n 2, 1) := by decide +kernel
theorem dX10_take_31 : decode cX10_take 31 = .ok (.getfield 124, 3) := by decide +kernel
theorem dX10_take_34 : decode cX10_take 34 = .ok (.ireturn, 1) := by decide +kernel
theorem dX10_take_28 : decode cX10_take 28 = .ok (.iconst (-1), 1) := by decide +kernel
theorem dX10_take_29 : decode cX10_take 29 = .ok (.ireturn, 1) := by decide +kernel
set_option maxRecDepth 100000 in
def fn_wk_X10_take_0 (fi_1 : Int32) (fia_f : Nat → Int32) (tp_1 : Int32) (tpa_f : Nat → Int32) (β : Type) (k_ : Int32 → (Nat → Int32) → Int32 → β) : β := (fn_wk_X2_copy 6000 9600 fi_1 fia_f tp_1 tpa_f β (fun zt_1_1409 za_f_1410 zr_1411 => (if zr_1411 = 0 then (k_ zt_1_1409 za_f_1410 (-1)) else (k_ zt_1_1409 za_f_1410 zt_1_1409))))
set_option maxRecDepth 100000 in
theorem fn_wk_X10_take_0_s {fi_1 : Int32} {fia_f : Nat → Int32} {tp_1 : Int32} {tpa_f : Nat → Int32} {β : Type} {k_ : Int32 → (Nat → Int32) → Int32 → β} : fn_wk_X10_take_0 fi_1 fia_f tp_1 tpa_f β k_ = (fn_wk_X2_copy 6000 9600 fi_1 fia_f tp_1 tpa_f β (fun zt_1_1409 za_f_1410 zr_1411 => (if zr_1411 = 0 then (k_ zt_1_1409 za_f_1410 (-1)) else (k_ zt_1_1409 za_f_1410 zt_1_1409)))) := rfl
set_option maxRecDepth 100000 in
set_option maxHeartbeats 4000000 in
theorem wk_X10_take_0 (E : g_E) (x : Nat) (nu : Nat) (pl : Nat) (tp : Nat) (sd : Nat) (fi : Nat) (se : Nat) (enc : Nat) (dec : Nat) (wl : Nat) (wsp : Nat) (tpa : Nat) (fia : Nat) (x_1 : Nat) (fi_1 : Int32) (fia_f : Nat → Int32) (tp_1 : Int32) (tpa_f : Nat → Int32) (hk0 : x_1 ≤ 1200) : Ev E MX10_take 2 82 0 0 [.ref x, .int 0] [(x, .inr (10, [.ref nu, .int (nI x_1), .ref pl, .ref tp, .ref sd, .ref fi, .ref se, .ref enc, .ref dec, .ref wl, .ref wsp])), (tp, .inr (2, [.ref tpa, .int tp_1])), (tpa, .inl (E.2.2.1 1, 6000, .inl (nb tpa_f))), (fi, .inr (2, [.ref fia, .int fi_1])), (fia, .inl (E.2.2.1 1, 9600, .inl (nb fia_f)))] (fun v_ w_ => ∃ ztp_1 : Int32, ∃ ztpa_f : Nat → Int32, ∃ zr : Int32, (∀ (β : Type) (k_ : Int32 → (Nat → Int32) → Int32 → β), fn_wk_X10_take_0 fi_1 fia_f tp_1 tpa_f β k_ = k_ ztp_1 ztpa_f zr) ∧ v_ = some (.int zr) ∧ w_ = [(x, .inr (10, [.ref nu, .int (nI x_1), .ref pl, .ref tp, .ref sd, .ref fi, .ref se, .ref enc, .ref dec, .ref wl, .ref wsp])), (tp, .inr (2, [.ref tpa, .int ztp_1])), (tpa, .inl (E.2.2.1 1, 6000, .inl (nb ztpa_f))), (fi, .inr (2, [.ref fia, .int fi_1])), (fia, .inl (E.2.2.1 1, 9600, .inl (nb fia_f)))]) := by
  refine Ev.intro (by decide) (Nat.le_of_ble_eq_true rfl) ?_
  intro X B hr hI
  have B : Bd E X cX10_take RX10 4 2 82 0 0 := B
  have hr : Rt E X (some .int) 0 0 (fun v_ w_ => ∃ ztp_1 : Int32, ∃ ztpa_f : Nat → Int32, ∃ zr : Int32, (∀ (β : Type) (k_ : Int32 → (Nat → Int32) → Int32 → β), fn_wk_X10_take_0 fi_1 fia_f tp_1 tpa_f β k_ = k_ ztp_1 ztpa_f zr) ∧ v_ = some (.int zr) ∧ w_ = [(x, .inr (10, [.ref nu, .int (nI x_1), .ref pl, .ref tp, .ref sd, .ref fi, .ref se, .ref enc, .ref dec, .ref wl, .ref wsp])), (tp, .inr (2, [.ref tpa, .int ztp_1])), (tpa, .inl (E.2.2.1 1, 6000, .inl (nb ztpa_f))), (fi, .inr (2, [.ref fia, .int fi_1])), (fia, .inl (E.2.2.1 1, 9600, .inl (nb fia_f)))]) := hr
  have e_ := fun (β : Type) (k_ : Int32 → (Nat → Int32) → Int32 → β) => fn_wk_X10_take_0_s (β := β) (k_ := k_) (fi_1 := fi_1) (fia_f := fia_f) (tp_1 := tp_1) (tpa_f := tpa_f)
  show G E X 4 [(x, .inr (10, [.ref nu, .int (nI x_1), .ref pl, .ref tp, .ref sd, .ref fi, .ref se, .ref enc, .ref dec, .ref wl, .ref wsp])), (tp, .inr (2, [.ref tpa, .int tp_1])), (tpa, .inl (E.2.2.1 1, 6000, .inl (nb tpa_f))), (fi, .inr (2, [.ref fia, .int fi_1])), (fia, .inl (E.2.2.1 1, 9600, .inl (nb fia_f)))] 0 0 [(0, .ref x), (1, .int 0)] 0 []
  refine g_aload_n B dX10_take_0 rfl 0 rfl ?_
  refine g_iload_n B dX10_take_1 rfl 1 rfl ?_
  refine g_callV (st := []) (As := [.int 0]) (wr := [(tp, .inr (2, [.ref tpa, .int tp_1])), (tpa, .inl (E.2.2.1 1, 6000, .inl (nb tpa_f))), (fi, .inr (2, [.ref fia, .int fi_1])), (fia, .inl (E.2.2.1 1, 9600, .inl (nb fia_f)))]) (nc' := 0) (ns' := 0) B cl_X10_133 w_im_X10_fed w_se_X10_fed (wk_X10_fed_0 E x nu pl tp sd fi se enc dec wl wsp (nI x_1) ) rfl [0] [1, 2, 3, 4] rfl rfl (by decide) (by decide) (by decide) 0 rfl (fun q h => by cases h; rfl) rfl ⟨by decide, by decide⟩ rfl rfl (by decide) (by decide) rfl (Nat.le_of_ble_eq_true rfl) dX10_take_2 (fun v w hq => ?_)
  obtain ⟨rfl, rfl⟩ := hq
  show G E X 4 [(tp, .inr (2, [.ref tpa, .int tp_1])), (tpa, .inl (E.2.2.1 1, 6000, .inl (nb tpa_f))), (fi, .inr (2, [.ref fia, .int fi_1])), (fia, .inl (E.2.2.1 1, 9600, .inl (nb fia_f))), (x, .inr (10, [.ref nu, .int (nI x_1), .ref pl, .ref tp, .ref sd, .ref fi, .ref se, .ref enc, .ref dec, .ref wl, .ref wsp]))] 0 0 [(0, .ref x), (1, .int 0)] 5 [.ref tp]
  refine g_astore_n (lv' := [(2, .ref tp), (0, .ref x), (1, .int 0)]) B dX10_take_5 rfl (by decide) rfl ?_
  refine g_aload_n B dX10_take_6 rfl 1 rfl ?_
  refine g_iload_n B dX10_take_7 rfl 2 rfl ?_
  refine g_callV (st := []) (As := [.int 0]) (wr := [(tp, .inr (2, [.ref tpa, .int tp_1])), (tpa, .inl (E.2.2.1 1, 6000, .inl (nb tpa_f))), (fi, .inr (2, [.ref fia, .int fi_1])), (fia, .inl (E.2.2.1 1, 9600, .inl (nb fia_f)))]) (nc' := 0) (ns' := 0) B cl_X10_125 w_im_X10_pressed w_se_X10_pressed (wk_X10_pressed_0 E x nu pl tp sd fi se enc dec wl wsp (nI x_1) ) rfl [4] [0, 1, 2, 3] rfl rfl (by decide) (by decide) (by decide) 0 rfl (fun q h => by cases h; rfl) rfl ⟨by decide, by decide⟩ rfl rfl (by decide) (by decide) rfl (Nat.le_of_ble_eq_true rfl) dX10_take_8 (fun v w hq => ?_)
  obtain ⟨rfl, rfl⟩ := hq
  show G E X 4 [(tp, .inr (2, [.ref tpa, .int tp_1])), (tpa, .inl (E.2.2.1 1, 6000, .inl (nb tpa_f))), (fi, .inr (2, [.ref fia, .int fi_1])), (fia, .inl (E.2.2.1 1, 9600, .inl (nb fia_f))), (x, .inr (10, [.ref nu, .int (nI x_1), .ref pl, .ref tp, .ref sd, .ref fi, .ref se, .ref enc, .ref dec, .ref wl, .ref wsp]))] 0 0 [(2, .ref tp), (0, .ref x), (1, .int 0)] 11 [.ref fi]
  refine g_astore_n (lv' := [(3, .ref fi), (2, .ref tp), (0, .ref x), (1, .int 0)]) B dX10_take_11 rfl (by decide) rfl ?_
  refine g_aload_n B dX10_take_12 rfl 1 rfl ?_
  refine g_ifnull B dX10_take_13 ?_
  refine g_aload_n B dX10_take_16 rfl 0 rfl ?_
  refine g_ifnull B dX10_take_17 ?_
  refine g_aload_n B dX10_take_20 rfl 1 rfl ?_
  refine g_aload_n B dX10_take_21 rfl 0 rfl ?_
  refine g_callV (st := []) (As := [.ref fi]) (wr := [(x, .inr (10, [.ref nu, .int (nI x_1), .ref pl, .ref tp, .ref sd, .ref fi, .ref se, .ref enc, .ref dec, .ref wl, .ref wsp]))]) (nc' := 0) (ns' := 0) B cl_X10_146 w_im_X2_copy w_se_X2_copy (wk_X2_copy E tp tpa fi fia 6000 9600 fi_1 fia_f tp_1 tpa_f (by first | assumption | omega | decide) (by first | assumption | omega | decide)) rfl [0, 1, 2, 3] [4] rfl rfl (by decide) (by decide) (by decide) 0 rfl (fun q h => by cases h; rfl) rfl ⟨by decide, by decide⟩ rfl rfl (by decide) (by decide) rfl (Nat.le_of_ble_eq_true rfl) dX10_take_22 (fun v w hq => ?_)
  obtain ⟨zt_1_1409, za_f_1410, zr_1411, hf_1412, hz_1413, rfl, rfl⟩ := hq
  replace e_ := fun β k_ => (e_ β k_).trans (hz_1413 β _)
  show G E X 4 [(x, .inr (10, [.ref nu, .int (nI x_1), .ref pl, .ref tp, .ref sd, .ref fi, .ref se, .ref enc, .ref dec, .ref wl, .ref wsp])), (tp, .inr (2, [.ref tpa, .int zt_1_1409])), (tpa, .inl (E.2.2.1 1, 6000, .inl (nb za_f_1410))), (fi, .inr (2, [.ref fia, .int fi_1])), (fia, .inl (E.2.2.1 1, 9600, .inl (nb fia_f)))] 0 0 [(3, .ref fi), (2, .ref tp), (0, .ref x), (1, .int 0)] 25 [.int zr_1411]
  refine g_if_ne (tgt := 30) B dX10_take_25 (by decide) (fun c25_1414 => ?_) (fun c25_1414 => ?_)
  · replace e_ := fun β k_ => (e_ β k_).trans (if_neg c25_1414)
    refine g_aload_n B dX10_take_30 rfl 1 rfl ?_
    refine g_get B 1 1 fl_X10_124 rfl rfl dX10_take_31 ?_
    exact g_iret B hr dX10_take_34 (by decide) (by decide) ⟨zt_1_1409, za_f_1410, zt_1_1409, e_, rfl, rfl⟩
  · replace e_ := fun β k_ => (e_ β k_).trans (if_pos c25_1414)
    refine g_iconst (v := (-1)) B dX10_take_28 (by decide) ?_
    exact g_iret B hr dX10_take_29 (by decide) (by decide) ⟨zt_1_1409, za_f_1410, (-1), e_, rfl, rfl⟩
set_option maxRecDepth 100000 in
def fn_wk_X10_size_1 (se_1 : Int32) (β : Type) (k_ : Int32 → β) : β := (k_ se_1)
set_option maxRecDepth 100000 in
theorem fn_wk_X10_size_1_s {se_1 : Int32} {β : Type} {k_ : Int32 → β} : fn_wk_X10_size_1 se_1 β k_ = (k_ se_1) := rfl
set_option maxRecDepth 100000 in
set_option maxHeartbeats 4000000 in
theorem wk_X10_size_1 (E : g_E) (x : Nat) (nu : Nat) (pl : Nat) (tp : Nat) (sd : Nat) (fi : Nat) (se : Nat) (enc : Nat) (dec : Nat) (wl : Nat) (wsp : Nat) (sea : Nat) (x_1 : Nat) (se_1 : Int32) (hk0 : x_1 ≤ 1200) : Ev E MX10_size 1 21 0 0 [.ref x, .int 1] [(x, .inr (10, [.ref nu, .int (nI x_1), .ref pl, .ref tp, .ref sd, .ref fi, .ref se, .ref enc, .ref dec, .ref wl, .ref wsp])), (se, .inr (2, [.ref sea, .int se_1]))] (fun v_ w_ => ∃ zr : Int32, (∀ (β : Type) (k_ : Int32 → β), fn_wk_X10_size_1 se_1 β k_ = k_ zr) ∧ v_ = some (.int zr) ∧ w_ = [(x, .inr (10, [.ref nu, .int (nI x_1), .ref pl, .ref tp, .ref sd, .ref fi, .ref se, .ref enc, .ref dec, .ref wl, .ref wsp])), (se, .inr (2, [.ref sea, .int se_1]))]) := by
  refine Ev.intro (by decide) (Nat.le_of_ble_eq_true rfl) ?_
  intro X B hr hI
  have B : Bd E X cX10_size RX10 3 1 21 0 0 := B
  have hr : Rt E X (some .int) 0 0 (fun v_ w_ => ∃ zr : Int32, (∀ (β : Type) (k_ : Int32 → β), fn_wk_X10_size_1 se_1 β k_ = k_ zr) ∧ v_ = some (.int zr) ∧ w_ = [(x, .inr (10, [.ref nu, .int (nI x_1), .ref pl, .ref tp, .ref sd, .ref fi, .ref se, .ref enc, .ref dec, .ref wl, .ref wsp])), (se, .inr (2, [.ref sea, .int se_1]))]) := hr
  have e_ := fun (β : Type) (k_ : Int32 → β) => fn_wk_X10_size_1_s (β := β) (k_ := k_) (se_1 := se_1)
  show G E X 3 [(x, .inr (10, [.ref nu, .int (nI x_1), .ref pl, .ref tp, .ref sd, .ref fi, .ref se, .ref enc, .ref dec, .ref wl, .ref wsp])), (se, .inr (2, [.ref sea, .int se_1]))] 0 0 [(0, .ref x), (1, .int 1)] 0 []
  refine g_aload_n B dX10_size_0 rfl 0 rfl ?_
  refine g_iload_n B dX10_size_1 rfl 1 rfl ?_
  refine g_callV (st := []) (As := [.int 1]) (wr := [(se, .inr (2, [.ref sea, .int se_1]))]) (nc' := 0) (ns' := 0) B cl_X10_125 w_im_X10_pressed w_se_X10_pressed (wk_X10_pressed_1 E x nu pl tp sd fi se enc dec wl wsp (nI x_1) ) rfl [0] [1] rfl rfl (by decide) (by decide) (by decide) 0 rfl (fun q h => by cases h; rfl) rfl ⟨by decide, by decide⟩ rfl rfl (by decide) (by decide) rfl (Nat.le_of_ble_eq_true rfl) dX10_size_2 (fun v w hq => ?_)
  obtain ⟨rfl, rfl⟩ := hq
  show G E X 3 [(se, .inr (2, [.ref sea, .int se_1])), (x, .inr (10, [.ref nu, .int (nI x_1), .ref pl, .ref tp, .ref sd, .ref fi, .ref se, .ref enc, .ref dec, .ref wl, .ref wsp]))] 0 0 [(0, .ref x), (1, .int 1)] 5 [.ref se]
  refine g_astore_n (lv' := [(2, .ref se), (0, .ref x), (1, .int 1)]) B dX10_size_5 rfl (by decide) rfl ?_
  refine g_aload_n B dX10_size_6 rfl 0 rfl ?_
  refine g_ifnonnull (tgt := 14) B dX10_size_7 (by decide) ?_
  refine g_aload_n B dX10_size_14 rfl 0 rfl ?_
  refine g_get B 0 1 fl_X10_124 rfl rfl dX10_size_15 ?_
  refine g_sub (ws' := [(x, .inr (10, [.ref nu, .int (nI x_1), .ref pl, .ref tp, .ref sd, .ref fi, .ref se, .ref enc, .ref dec, .ref wl, .ref wsp])), (se, .inr (2, [.ref sea, .int se_1]))]) [1, 0] (by decide) rfl ?_
  exact g_iret B hr dX10_size_18 (by decide) (by decide) ⟨se_1, e_, rfl, rfl⟩
set_option maxRecDepth 100000 in
def fn_wk_X10_out_1 (se_1 : Int32) (sea_f : Nat → Int32) (i : Int32) (β : Type) (k_ : Int32 → β) : β := (fn_wk_X2_at 2450 se_1 sea_f i β (fun zr_1417 => (k_ zr_1417)))
set_option maxRecDepth 100000 in
theorem fn_wk_X10_out_1_s {se_1 : Int32} {sea_f : Nat → Int32} {i : Int32} {β : Type} {k_ : Int32 → β} : fn_wk_X10_out_1 se_1 sea_f i β k_ = (fn_wk_X2_at 2450 se_1 sea_f i β (fun zr_1417 => (k_ zr_1417))) := rfl
set_option maxRecDepth 100000 in
set_option maxHeartbeats 4000000 in
theorem wk_X10_out_1 (E : g_E) (x : Nat) (nu : Nat) (pl : Nat) (tp : Nat) (sd : Nat) (fi : Nat) (se : Nat) (enc : Nat) (dec : Nat) (wl : Nat) (wsp : Nat) (sea : Nat) (x_1 : Nat) (se_1 : Int32) (sea_f : Nat → Int32) (i : Int32) (hk0 : x_1 ≤ 1200) : Ev E MX10_out 1 21 0 0 [.ref x, .int 1, .int i] [(x, .inr (10, [.ref nu, .int (nI x_1), .ref pl, .ref tp, .ref sd, .ref fi, .ref se, .ref enc, .ref dec, .ref wl, .ref wsp])), (se, .inr (2, [.ref sea, .int se_1])), (sea, .inl (E.2.2.1 1, 2450, .inl (nb sea_f)))] (fun v_ w_ => ∃ zr : Int32, (∀ (β : Type) (k_ : Int32 → β), fn_wk_X10_out_1 se_1 sea_f i β k_ = k_ zr) ∧ v_ = some (.int zr) ∧ w_ = [(x, .inr (10, [.ref nu, .int (nI x_1), .ref pl, .ref tp, .ref sd, .ref fi, .ref se, .ref enc, .ref dec, .ref wl, .ref wsp])), (se, .inr (2, [.ref sea, .int se_1])), (sea, .inl (E.2.2.1 1, 2450, .inl (nb sea_f)))]) := by
  refine Ev.intro (by decide) (Nat.le_of_ble_eq_true rfl) ?_
  intro X B hr hI
  have B : Bd E X cX10_out RX10 4 1 21 0 0 := B
  have hr : Rt E X (some .int) 0 0 (fun v_ w_ => ∃ zr : Int32, (∀ (β : Type) (k_ : Int32 → β), fn_wk_X10_out_1 se_1 sea_f i β k_ = k_ zr) ∧ v_ = some (.int zr) ∧ w_ = [(x, .inr (10, [.ref nu, .int (nI x_1), .ref pl, .ref tp, .ref sd, .ref fi, .ref se, .ref enc, .ref dec, .ref wl, .ref wsp])), (se, .inr (2, [.ref sea, .int se_1])), (sea, .inl (E.2.2.1 1, 2450, .inl (nb sea_f)))]) := hr
  have e_ := fun (β : Type) (k_ : Int32 → β) => fn_wk_X10_out_1_s (β := β) (k_ := k_) (se_1 := se_1) (sea_f := sea_f) (i := i)
  show G E X 4 [(x, .inr (10, [.ref nu, .int (nI x_1), .ref pl, .ref tp, .ref sd, .ref fi, .ref se, .ref enc, .ref dec, .ref wl, .ref wsp])), (se, .inr (2, [.ref sea, .int se_1])), (sea, .inl (E.2.2.1 1, 2450, .inl (nb sea_f)))] 0 0 [(0, .ref x), (1, .int 1), (2, .int i)] 0 []
  refine g_aload_n B dX10_out_0 rfl 0 rfl ?_
  refine g_iload_n B dX10_out_1 rfl 1 rfl ?_
  refine g_callV (st := []) (As := [.int 1]) (wr := [(se, .inr (2, [.ref sea, .int se_1])), (sea, .inl (E.2.2.1 1, 2450, .inl (nb sea_f)))]) (nc' := 0) (ns' := 0) B cl_X10_125 w_im_X10_pressed w_se_X10_pressed (wk_X10_pressed_1 E x nu pl tp sd fi se enc dec wl wsp (nI x_1) ) rfl [0] [1, 2] rfl rfl (by decide) (by decide) (by decide) 0 rfl (fun q h => by cases h; rfl) rfl ⟨by decide, by decide⟩ rfl rfl (by decide) (by decide) rfl (Nat.le_of_ble_eq_true rfl) dX10_out_2 (fun v w hq => ?_)
  obtain ⟨rfl, rfl⟩ := hq
  show G E X 4 [(se, .inr (2, [.ref sea, .int se_1])), (sea, .inl (E.2.2.1 1, 2450, .inl (nb sea_f))), (x, .inr (10, [.ref nu, .int (nI x_1), .ref pl, .ref tp, .ref sd, .ref fi, .ref se, .ref enc, .ref dec, .ref wl, .ref wsp]))] 0 0 [(0, .ref x), (1, .int 1), (2, .int i)] 5 [.ref se]
  refine g_astore_n (lv' := [(3, .ref se), (0, .ref x), (1, .int 1), (2, .int i)]) B dX10_out_5 rfl (by decide) rfl ?_
  refine g_aload_n B dX10_out_6 rfl 0 rfl ?_
  refine g_ifnonnull (tgt := 14) B dX10_out_7 (by decide) ?_
  refine g_aload_n B dX10_out_14 rfl 0 rfl ?_
  refine g_iload_n B dX10_out_15 rfl 3 rfl ?_
  refine g_callV (st := []) (As := [.int i]) (wr := [(x, .inr (10, [.ref nu, .int (nI x_1), .ref pl, .ref tp, .ref sd, .ref fi, .ref se, .ref enc, .ref dec, .ref wl, .ref wsp]))]) (nc' := 0) (ns' := 0) B cl_X10_129 w_im_X2_at w_se_X2_at (wk_X2_at E se sea 2450 se_1 sea_f i (by first | assumption | omega | decide)) rfl [0, 1] [2] rfl rfl (by decide) (by decide) (by decide) 0 rfl (fun q h => by cases h; rfl) rfl ⟨by decide, by decide⟩ rfl rfl (by decide) (by decide) rfl (Nat.le_of_ble_eq_true rfl) dX10_out_16 (fun v w hq => ?_)
  obtain ⟨zr_1417, hz_1418, rfl, rfl⟩ := hq
  replace e_ := fun β k_ => (e_ β k_).trans (hz_1418 β _)
  show G E X 4 [(x, .inr (10, [.ref nu, .int (nI x_1), .ref pl, .ref tp, .ref sd, .ref fi, .ref se, .ref enc, .ref dec, .ref wl, .ref wsp])), (se, .inr (2, [.ref sea, .int se_1])), (sea, .inl (E.2.2.1 1, 2450, .inl (nb sea_f)))] 0 0 [(3, .ref se), (0, .ref x), (1, .int 1), (2, .int i)] 19 [.int zr_1417]
  exact g_iret B hr dX10_out_19 (by decide) (by decide) ⟨zr_1417, e_, rfl, rfl⟩
set_option maxRecDepth 100000 in
def fn_wk_X10_feed_1 (sd_1 : Int32) (sda_f : Nat → Int32) (a1 : Int32) (a2 : Int32) (a3 : Int32) (β : Type) (k_ : Int32 → (Nat → Int32) → Int32 → β) : β := (if (sd_1 + 12) ≤ 6000 then (fn_wk_X2_addWord 6000 sd_1 sda_f a1 β (fun zt_1_1421 za_f_1422 => (fn_wk_X2_addWord 6000 zt_1_1421 za_f_1422 a2 β (fun zt_1_1424 za_f_1425 => (fn_wk_X2_addWord 6000 zt_1_1424 za_f_1425 a3 β (fun zt_1_1427 za_f_1428 => (k_ zt_1_1427 za_f_1428 zt_1_1427))))))) else (k_ sd_1 sda_f (-1)))
set_option maxRecDepth 100000 in
theorem fn_wk_X10_feed_1_s {sd_1 : Int32} {sda_f : Nat → Int32} {a1 : Int32} {a2 : Int32} {a3 : Int32} {β : Type} {k_ : Int32 → (Nat → Int32) → Int32 → β} : fn_wk_X10_feed_1 sd_1 sda_f a1 a2 a3 β k_ = (if (sd_1 + 12) ≤ 6000 then (fn_wk_X2_addWord 6000 sd_1 sda_f a1 β (fun zt_1_1421 za_f_1422 => (fn_wk_X2_addWord 6000 zt_1_1421 za_f_1422 a2 β (fun zt_1_1424 za_f_1425 => (fn_wk_X2_addWord 6000 zt_1_1424 za_f_1425 a3 β (fun zt_1_1427 za_f_1428 => (k_ zt_1_1427 za_f_1428 zt_1_1427))))))) else (k_ sd_1 sda_f (-1))) := rfl
set_option maxRecDepth 100000 in
set_option maxHeartbeats 4000000 in
theorem wk_X10_feed_1 (E : g_E) (x : Nat) (nu : Nat) (pl : Nat) (tp : Nat) (sd : Nat) (fi : Nat) (se : Nat) (enc : Nat) (dec : Nat) (wl : Nat) (wsp : Nat) (sda : Nat) (x_1 : Nat) (sd_1 : Int32) (sda_f : Nat → Int32) (a1 : Int32) (a2 : Int32) (a3 : Int32) (hk0 : x_1 ≤ 1200) : Ev E MX10_feed 2 43 0 0 [.ref x, .int 1, .int a1, .int a2, .int a3] [(x, .inr (10, [.ref nu, .int (nI x_1), .ref pl, .ref tp, .ref sd, .ref fi, .ref se, .ref enc, .ref dec, .ref wl, .ref wsp])), (sd, .inr (2, [.ref sda, .int sd_1])), (sda, .inl (E.2.2.1 1, 6000, .inl (nb sda_f)))] (fun v_ w_ => ∃ zsd_1 : Int32, ∃ zsda_f : Nat → Int32, ∃ zr : Int32, (∀ (β : Type) (k_ : Int32 → (Nat → Int32) → Int32 → β), fn_wk_X10_feed_1 sd_1 sda_f a1 a2 a3 β k_ = k_ zsd_1 zsda_f zr) ∧ v_ = some (.int zr) ∧ w_ = [(x, .inr (10, [.ref nu, .int (nI x_1), .ref pl, .ref tp, .ref sd, .ref fi, .ref se, .ref enc, .ref dec, .ref wl, .ref wsp])), (sd, .inr (2, [.ref sda, .int zsd_1])), (sda, .inl (E.2.2.1 1, 6000, .inl (nb zsda_f)))]) := by
  refine Ev.intro (by decide) (Nat.le_of_ble_eq_true rfl) ?_
  intro X B hr hI
  have B : Bd E X cX10_feed RX10 6 2 43 0 0 := B
  have hr : Rt E X (some .int) 0 0 (fun v_ w_ => ∃ zsd_1 : Int32, ∃ zsda_f : Nat → Int32, ∃ zr : Int32, (∀ (β : Type) (k_ : Int32 → (Nat → Int32) → Int32 → β), fn_wk_X10_feed_1 sd_1 sda_f a1 a2 a3 β k_ = k_ zsd_1 zsda_f zr) ∧ v_ = some (.int zr) ∧ w_ = [(x, .inr (10, [.ref nu, .int (nI x_1), .ref pl, .ref tp, .ref sd, .ref fi, .ref se, .ref enc, .ref dec, .ref wl, .ref wsp])), (sd, .inr (2, [.ref sda, .int zsd_1])), (sda, .inl (E.2.2.1 1, 6000, .inl (nb zsda_f)))]) := hr
  have e_ := fun (β : Type) (k_ : Int32 → (Nat → Int32) → Int32 → β) => fn_wk_X10_feed_1_s (β := β) (k_ := k_) (sd_1 := sd_1) (sda_f := sda_f) (a1 := a1) (a2 := a2) (a3 := a3)
  show G E X 6 [(x, .inr (10, [.ref nu, .int (nI x_1), .ref pl, .ref tp, .ref sd, .ref fi, .ref se, .ref enc, .ref dec, .ref wl, .ref wsp])), (sd, .inr (2, [.ref sda, .int sd_1])), (sda, .inl (E.2.2.1 1, 6000, .inl (nb sda_f)))] 0 0 [(0, .ref x), (1, .int 1), (2, .int a1), (3, .int a2), (4, .int a3)] 0 []
  refine g_aload_n B dX10_feed_0 rfl 0 rfl ?_
  refine g_iload_n B dX10_feed_1 rfl 1 rfl ?_
  refine g_callV (st := []) (As := [.int 1]) (wr := [(sd, .inr (2, [.ref sda, .int sd_1])), (sda, .inl (E.2.2.1 1, 6000, .inl (nb sda_f)))]) (nc' := 0) (ns' := 0) B cl_X10_133 w_im_X10_fed w_se_X10_fed (wk_X10_fed_1 E x nu pl tp sd fi se enc dec wl wsp (nI x_1) ) rfl [0] [1, 2] rfl rfl (by decide) (by decide) (by decide) 0 rfl (fun q h => by cases h; rfl) rfl ⟨by decide, by decide⟩ rfl rfl (by decide) (by decide) rfl (Nat.le_of_ble_eq_true rfl) dX10_feed_2 (fun v w hq => ?_)
  obtain ⟨rfl, rfl⟩ := hq
  show G E X 6 [(sd, .inr (2, [.ref sda, .int sd_1])), (sda, .inl (E.2.2.1 1, 6000, .inl (nb sda_f))), (x, .inr (10, [.ref nu, .int (nI x_1), .ref pl, .ref tp, .ref sd, .ref fi, .ref se, .ref enc, .ref dec, .ref wl, .ref wsp]))] 0 0 [(0, .ref x), (1, .int 1), (2, .int a1), (3, .int a2), (4, .int a3)] 5 [.ref sd]
  refine g_astore (lv' := [(5, .ref sd), (0, .ref x), (1, .int 1), (2, .int a1), (3, .int a2), (4, .int a3)]) B dX10_feed_5 (by decide) rfl ?_
  refine g_aload B dX10_feed_7 0 rfl ?_
  refine g_ifnull B dX10_feed_9 ?_
  refine g_aload B dX10_feed_12 0 rfl ?_
  refine g_get B 0 1 fl_X10_124 rfl rfl dX10_feed_14 ?_
  refine g_bipush (v := 12) B dX10_feed_17 (by decide) ?_
  refine g_iadd B dX10_feed_19 ?_
  refine g_aload B dX10_feed_20 0 rfl ?_
  refine g_get B 0 0 fl_X10_136 rfl rfl dX10_feed_22 ?_
  refine g_alen (v := nI 6000) B 1 (by decide) rfl rfl dX10_feed_25 ?_
  refine g_ri (x' := 6000) (by decide) ?_
  refine g_icmp_le (tgt := 31) B dX10_feed_26 (by decide) (fun c26_1420 => ?_) (fun c26_1420 => ?_)
  · replace e_ := fun β k_ => (e_ β k_).trans (if_pos c26_1420)
    refine g_aload B dX10_feed_31 0 rfl ?_
    refine g_iload_n B dX10_feed_33 rfl 3 rfl ?_
    refine g_callV (st := []) (As := [.int a1]) (wr := [(x, .inr (10, [.ref nu, .int (nI x_1), .ref pl, .ref tp, .ref sd, .ref fi, .ref se, .ref enc, .ref dec, .ref wl, .ref wsp]))]) (nc' := 0) (ns' := 0) B cl_X10_140 w_im_X2_addWord w_se_X2_addWord (wk_X2_addWord E sd sda 6000 sd_1 sda_f a1 (by first | assumption | omega | decide)) rfl [0, 1] [2] rfl rfl (by decide) (by decide) (by decide) 0 rfl (fun q h => by cases h; rfl) rfl ⟨by decide, by decide⟩ rfl rfl (by decide) (by decide) rfl (Nat.le_of_ble_eq_true rfl) dX10_feed_34 (fun v w hq => ?_)
    obtain ⟨zt_1_1421, za_f_1422, hz_1423, rfl, rfl⟩ := hq
    replace e_ := fun β k_ => (e_ β k_).trans (hz_1423 β _)
    show G E X 6 [(x, .inr (10, [.ref nu, .int (nI x_1), .ref pl, .ref tp, .ref sd, .ref fi, .ref se, .ref enc, .ref dec, .ref wl, .ref wsp])), (sd, .inr (2, [.ref sda, .int zt_1_1421])), (sda, .inl (E.2.2.1 1, 6000, .inl (nb za_f_1422)))] 0 0 [(5, .ref sd), (0, .ref x), (1, .int 1), (2, .int a1), (3, .int a2), (4, .int a3)] 37 []
    refine g_aload B dX10_feed_37 0 rfl ?_
    refine g_iload_n B dX10_feed_39 rfl 4 rfl ?_
    refine g_callV (st := []) (As := [.int a2]) (wr := [(x, .inr (10, [.ref nu, .int (nI x_1), .ref pl, .ref tp, .ref sd, .ref fi, .ref se, .ref enc, .ref dec, .ref wl, .ref wsp]))]) (nc' := 0) (ns' := 0) B cl_X10_140 w_im_X2_addWord w_se_X2_addWord (wk_X2_addWord E sd sda 6000 zt_1_1421 za_f_1422 a2 (by first | assumption | omega | decide)) rfl [1, 2] [0] rfl rfl (by decide) (by decide) (by decide) 0 rfl (fun q h => by cases h; rfl) rfl ⟨by decide, by decide⟩ rfl rfl (by decide) (by decide) rfl (Nat.le_of_ble_eq_true rfl) dX10_feed_40 (fun v w hq => ?_)
    obtain ⟨zt_1_1424, za_f_1425, hz_1426, rfl, rfl⟩ := hq
    replace e_ := fun β k_ => (e_ β k_).trans (hz_1426 β _)
    show G E X 6 [(x, .inr (10, [.ref nu, .int (nI x_1), .ref pl, .ref tp, .ref sd, .ref fi, .ref se, .ref enc, .ref dec, .ref wl, .ref wsp])), (sd, .inr (2, [.ref sda, .int zt_1_1424])), (sda, .inl (E.2.2.1 1, 6000, .inl (nb za_f_1425)))] 0 0 [(5, .ref sd), (0, .ref x), (1, .int 1), (2, .int a1), (3, .int a2), (4, .int a3)] 43 []
    refine g_aload B dX10_feed_43 0 rfl ?_
    refine g_iload B dX10_feed_45 5 rfl ?_
    refine g_callV (st := []) (As := [.int a3]) (wr := [(x, .inr (10, [.ref nu, .int (nI x_1), .ref pl, .ref tp, .ref sd, .ref fi, .ref se, .ref enc, .ref dec, .ref wl, .ref wsp]))]) (nc' := 0) (ns' := 0) B cl_X10_140 w_im_X2_addWord w_se_X2_addWord (wk_X2_addWord E sd sda 6000 zt_1_1424 za_f_1425 a3 (by first | assumption | omega | decide)) rfl [1, 2] [0] rfl rfl (by decide) (by decide) (by decide) 0 rfl (fun q h => by cases h; rfl) rfl ⟨by decide, by decide⟩ rfl rfl (by decide) (by decide) rfl (Nat.le_of_ble_eq_true rfl) dX10_feed_47 (fun v w hq => ?_)
    obtain ⟨zt_1_1427, za_f_1428, hz_1429, rfl, rfl⟩ := hq
    replace e_ := fun β k_ => (e_ β k_).trans (hz_1429 β _)
    show G E X 6 [(x, .inr (10, [.ref nu, .int (nI x_1), .ref pl, .ref tp, .ref sd, .ref fi, .ref se, .ref enc, .ref dec, .ref wl, .ref wsp])), (sd, .inr (2, [.ref sda, .int zt_1_1427])), (sda, .inl (E.2.2.1 1, 6000, .inl (nb za_f_1428)))] 0 0 [(5, .ref sd), (0, .ref x), (1, .int 1), (2, .int a1), (3, .int a2), (4, .int a3)] 50 []
    refine g_aload B dX10_feed_50 0 rfl ?_
    refine g_get B 1 1 fl_X10_124 rfl rfl dX10_feed_52 ?_
    exact g_iret B hr dX10_feed_55 (by decide) (by decide) ⟨zt_1_1427, za_f_1428, zt_1_1427, e_, rfl, rfl⟩
  · replace e_ := fun β k_ => (e_ β k_).trans (if_neg c26_1420)
    refine g_iconst (v := (-1)) B dX10_feed_29 (by decide) ?_
    refine g_sub (ws' := [(x, .inr (10, [.ref nu, .int (nI x_1), .ref pl, .ref tp, .ref sd, .ref fi, .ref se, .ref enc, .ref dec, .ref wl, .ref wsp])), (sd, .inr (2, [.ref sda, .int sd_1])), (sda, .inl (E.2.2.1 1, 6000, .inl (nb sda_f)))]) [2, 0, 1] (by decide) rfl ?_
    exact g_iret B hr dX10_feed_30 (by decide) (by decide) ⟨sd_1, sda_f, (-1), e_, rfl, rfl⟩
set_option maxRecDepth 100000 in
def fn_wk_X10_end_1 (sd_1 : Int32) (n : Int32) (β : Type) (k_ : Int32 → Int32 → β) : β := (fn_wk_X2_shorten sd_1 n β (fun zt_1_1431 zr_1432 => (if zr_1432 = 0 then (k_ zt_1_1431 0) else (k_ zt_1_1431 1))))
set_option maxRecDepth 100000 in
theorem fn_wk_X10_end_1_s {sd_1 : Int32} {n : Int32} {β : Type} {k_ : Int32 → Int32 → β} : fn_wk_X10_end_1 sd_1 n β k_ = (fn_wk_X2_shorten sd_1 n β (fun zt_1_1431 zr_1432 => (if zr_1432 = 0 then (k_ zt_1_1431 0) else (k_ zt_1_1431 1)))) := rfl
set_option maxRecDepth 100000 in
set_option maxHeartbeats 4000000 in
theorem wk_X10_end_1 (E : g_E) (x : Nat) (nu : Nat) (pl : Nat) (tp : Nat) (sd : Nat) (fi : Nat) (se : Nat) (enc : Nat) (dec : Nat) (wl : Nat) (wsp : Nat) (sda : Nat) (x_1 : Nat) (sda_f : Nat → Int32) (sd_1 : Int32) (n : Int32) (hk0 : x_1 ≤ 1200) : Ev E MX10_end 1 21 0 0 [.ref x, .int 1, .int n] [(x, .inr (10, [.ref nu, .int (nI x_1), .ref pl, .ref tp, .ref sd, .ref fi, .ref se, .ref enc, .ref dec, .ref wl, .ref wsp])), (sd, .inr (2, [.ref sda, .int sd_1])), (sda, .inl (E.2.2.1 1, 6000, .inl (nb sda_f)))] (fun v_ w_ => ∃ zsd_1 : Int32, ∃ zr : Int32, (zr = 0 ∨ zr = 1) ∧ (∀ (β : Type) (k_ : Int32 → Int32 → β), fn_wk_X10_end_1 sd_1 n β k_ = k_ zsd_1 zr) ∧ v_ = some (.int zr) ∧ w_ = [(x, .inr (10, [.ref nu, .int (nI x_1), .ref pl, .ref tp, .ref sd, .ref fi, .ref se, .ref enc, .ref dec, .ref wl, .ref wsp])), (sd, .inr (2, [.ref sda, .int zsd_1])), (sda, .inl (E.2.2.1 1, 6000, .inl (nb sda_f)))]) := by
  refine Ev.intro (by decide) (Nat.le_of_ble_eq_true rfl) ?_
  intro X B hr hI
  have B : Bd E X cX10_end RX10 4 1 21 0 0 := B
  have hr : Rt E X (some .boolean) 0 0 (fun v_ w_ => ∃ zsd_1 : Int32, ∃ zr : Int32, (zr = 0 ∨ zr = 1) ∧ (∀ (β : Type) (k_ : Int32 → Int32 → β), fn_wk_X10_end_1 sd_1 n β k_ = k_ zsd_1 zr) ∧ v_ = some (.int zr) ∧ w_ = [(x, .inr (10, [.ref nu, .int (nI x_1), .ref pl, .ref tp, .ref sd, .ref fi, .ref se, .ref enc, .ref dec, .ref wl, .ref wsp])), (sd, .inr (2, [.ref sda, .int zsd_1])), (sda, .inl (E.2.2.1 1, 6000, .inl (nb sda_f)))]) := hr
  have e_ := fun (β : Type) (k_ : Int32 → Int32 → β) => fn_wk_X10_end_1_s (β := β) (k_ := k_) (sd_1 := sd_1) (n := n)
  show G E X 4 [(x, .inr (10, [.ref nu, .int (nI x_1), .ref pl, .ref tp, .ref sd, .ref fi, .ref se, .ref enc, .ref dec, .ref wl, .ref wsp])), (sd, .inr (2, [.ref sda, .int sd_1])), (sda, .inl (E.2.2.1 1, 6000, .inl (nb sda_f)))] 0 0 [(0, .ref x), (1, .int 1), (2, .int n)] 0 []
  refine g_aload_n B dX10_end_0 rfl 0 rfl ?_
  refine g_iload_n B dX10_end_1 rfl 1 rfl ?_
  refine g_callV (st := []) (As := [.int 1]) (wr := [(sd, .inr (2, [.ref sda, .int sd_1])), (sda, .inl (E.2.2.1 1, 6000, .inl (nb sda_f)))]) (nc' := 0) (ns' := 0) B cl_X10_133 w_im_X10_fed w_se_X10_fed (wk_X10_fed_1 E x nu pl tp sd fi se enc dec wl wsp (nI x_1) ) rfl [0] [1, 2] rfl rfl (by decide) (by decide) (by decide) 0 rfl (fun q h => by cases h; rfl) rfl ⟨by decide, by decide⟩ rfl rfl (by decide) (by decide) rfl (Nat.le_of_ble_eq_true rfl) dX10_end_2 (fun v w hq => ?_)
  obtain ⟨rfl, rfl⟩ := hq
  show G E X 4 [(sd, .inr (2, [.ref sda, .int sd_1])), (sda, .inl (E.2.2.1 1, 6000, .inl (nb sda_f))), (x, .inr (10, [.ref nu, .int (nI x_1), .ref pl, .ref tp, .ref sd, .ref fi, .ref se, .ref enc, .ref dec, .ref wl, .ref wsp]))] 0 0 [(0, .ref x), (1, .int 1), (2, .int n)] 5 [.ref sd]
  refine g_astore_n (lv' := [(3, .ref sd), (0, .ref x), (1, .int 1), (2, .int n)]) B dX10_end_5 rfl (by decide) rfl ?_
  refine g_aload_n B dX10_end_6 rfl 0 rfl ?_
  refine g_ifnull B dX10_end_7 ?_
  refine g_aload_n B dX10_end_10 rfl 0 rfl ?_
  refine g_iload_n B dX10_end_11 rfl 3 rfl ?_
  refine g_callV (st := []) (As := [.int n]) (wr := [(x, .inr (10, [.ref nu, .int (nI x_1), .ref pl, .ref tp, .ref sd, .ref fi, .ref se, .ref enc, .ref dec, .ref wl, .ref wsp]))]) (nc' := 0) (ns' := 0) B cl_X10_143 w_im_X2_shorten w_se_X2_shorten (wk_X2_shorten E sd sda 6000 sda_f sd_1 n (by first | assumption | omega | decide)) rfl [0, 1] [2] rfl rfl (by decide) (by decide) (by decide) 0 rfl (fun q h => by cases h; rfl) rfl ⟨by decide, by decide⟩ rfl rfl (by decide) (by decide) rfl (Nat.le_of_ble_eq_true rfl) dX10_end_12 (fun v w hq => ?_)
  obtain ⟨zt_1_1431, zr_1432, hf_1433, hz_1434, rfl, rfl⟩ := hq
  replace e_ := fun β k_ => (e_ β k_).trans (hz_1434 β _)
  show G E X 4 [(x, .inr (10, [.ref nu, .int (nI x_1), .ref pl, .ref tp, .ref sd, .ref fi, .ref se, .ref enc, .ref dec, .ref wl, .ref wsp])), (sd, .inr (2, [.ref sda, .int zt_1_1431])), (sda, .inl (E.2.2.1 1, 6000, .inl (nb sda_f)))] 0 0 [(3, .ref sd), (0, .ref x), (1, .int 1), (2, .int n)] 15 [.int zr_1432]
  refine g_if_eq (tgt := 22) B dX10_end_15 (by decide) (fun c15_1435 => ?_) (fun c15_1435 => ?_)
  · replace e_ := fun β k_ => (e_ β k_).trans (if_pos c15_1435)
    refine g_iconst (v := 0) B dX10_end_22 (by decide) ?_
    exact g_zret B hr (by decide) dX10_end_23 (by decide) (by decide) ⟨zt_1_1431, 0, (Or.inl rfl), e_, rfl, rfl⟩
  · replace e_ := fun β k_ => (e_ β k_).trans (if_neg c15_1435)
    refine g_iconst (v := 1) B dX10_end_18 (by decide) ?_
    refine g_goto (tgt := 23) B dX10_end_19 (by decide) ?_
    exact g_zret B hr (by decide) dX10_end_23 (by decide) (by decide) ⟨zt_1_1431, 1, (Or.inr rfl), e_, rfl, rfl⟩
set_option maxRecDepth 100000 in
def fn_wk_X10_harm_1 (sd_1 : Int32) (sda_f : Nat → Int32) (i : Int32) (b : Int32) (β : Type) (k_ : (Nat → Int32) → Int32 → β) : β := (fn_wk_X2_turn 6000 sd_1 sda_f i b β (fun za_f_1437 zr_1438 => (if zr_1438 = 0 then (k_ za_f_1437 0) else (k_ za_f_1437 1))))
set_option maxRecDepth 100000 in
theorem fn_wk_X10_harm_1_s {sd_1 : Int32} {sda_f : Nat → Int32} {i : Int32} {b : Int32} {β : Type} {k_ : (Nat → Int32) → Int32 → β} : fn_wk_X10_harm_1 sd_1 sda_f i b β k_ = (fn_wk_X2_turn 6000 sd_1 sda_f i b β (fun za_f_1437 zr_1438 => (if zr_1438 = 0 then (k_ za_f_1437 0) else (k_ za_f_1437 1)))) := rfl
set_option maxRecDepth 100000 in
set_option maxHeartbeats 4000000 in
theorem wk_X10_harm_1 (E : g_E) (x : Nat) (nu : Nat) (pl : Nat) (tp : Nat) (sd : Nat) (fi : Nat) (se : Nat) (enc : Nat) (dec : Nat) (wl : Nat) (wsp : Nat) (sda : Nat) (x_1 : Nat) (sd_1 : Int32) (sda_f : Nat → Int32) (i : Int32) (b : Int32) (hk0 : x_1 ≤ 1200) : Ev E MX10_harm 1 22 0 0 [.ref x, .int 1, .int i, .int b] [(x, .inr (10, [.ref nu, .int (nI x_1), .ref pl, .ref tp, .ref sd, .ref fi, .ref se, .ref enc, .ref dec, .ref wl, .ref wsp])), (sd, .inr (2, [.ref sda, .int sd_1])), (sda, .inl (E.2.2.1 1, 6000, .inl (nb sda_f)))] (fun v_ w_ => ∃ zsda_f : Nat → Int32, ∃ zr : Int32, (zr = 0 ∨ zr = 1) ∧ (∀ (β : Type) (k_ : (Nat → Int32) → Int32 → β), fn_wk_X10_harm_1 sd_1 sda_f i b β k_ = k_ zsda_f zr) ∧ v_ = some (.int zr) ∧ w_ = [(x, .inr (10, [.ref nu, .int (nI x_1), .ref pl, .ref tp, .ref sd, .ref fi, .ref se, .ref enc, .ref dec, .ref wl, .ref wsp])), (sd, .inr (2, [.ref sda, .int sd_1])), (sda, .inl (E.2.2.1 1, 6000, .inl (nb zsda_f)))]) := by
  refine Ev.intro (by decide) (Nat.le_of_ble_eq_true rfl) ?_
  intro X B hr hI
  have B : Bd E X cX10_harm RX10 5 1 22 0 0 := B
  have hr : Rt E X (some .boolean) 0 0 (fun v_ w_ => ∃ zsda_f : Nat → Int32, ∃ zr : Int32, (zr = 0 ∨ zr = 1) ∧ (∀ (β : Type) (k_ : (Nat → Int32) → Int32 → β), fn_wk_X10_harm_1 sd_1 sda_f i b β k_ = k_ zsda_f zr) ∧ v_ = some (.int zr) ∧ w_ = [(x, .inr (10, [.ref nu, .int (nI x_1), .ref pl, .ref tp, .ref sd, .ref fi, .ref se, .ref enc, .ref dec, .ref wl, .ref wsp])), (sd, .inr (2, [.ref sda, .int sd_1])), (sda, .inl (E.2.2.1 1, 6000, .inl (nb zsda_f)))]) := hr
  have e_ := fun (β : Type) (k_ : (Nat → Int32) → Int32 → β) => fn_wk_X10_harm_1_s (β := β) (k_ := k_) (sd_1 := sd_1) (sda_f := sda_f) (i := i) (b := b)
  show G E X 5 [(x, .inr (10, [.ref nu, .int (nI x_1), .ref pl, .ref tp, .ref sd, .ref fi, .ref se, .ref enc, .ref dec, .ref wl, .ref wsp])), (sd, .inr (2, [.ref sda, .int sd_1])), (sda, .inl (E.2.2.1 1, 6000, .inl (nb sda_f)))] 0 0 [(0, .ref x), (1, .int 1), (2, .int i), (3, .int b)] 0 []
  refine g_aload_n B dX10_harm_0 rfl 0 rfl ?_
  refine g_iload_n B dX10_harm_1 rfl 1 rfl ?_
  refine g_callV (st := []) (As := [.int 1]) (wr := [(sd, .inr (2, [.ref sda, .int sd_1])), (sda, .inl (E.2.2.1 1, 6000, .inl (nb sda_f)))]) (nc' := 0) (ns' := 0) B cl_X10_133 w_im_X10_fed w_se_X10_fed (wk_X10_fed_1 E x nu pl tp sd fi se enc dec wl wsp (nI x_1) ) rfl [0] [1, 2] rfl rfl (by decide) (by decide) (by decide) 0 rfl (fun q h => by cases h; rfl) rfl ⟨by decide, by decide⟩ rfl rfl (by decide) (by decide) rfl (Nat.le_of_ble_eq_true rfl) dX10_harm_2 (fun v w hq => ?_)
  obtain ⟨rfl, rfl⟩ := hq
  show G E X 5 [(sd, .inr (2, [.ref sda, .int sd_1])), (sda, .inl (E.2.2.1 1, 6000, .inl (nb sda_f))), (x, .inr (10, [.ref nu, .int (nI x_1), .ref pl, .ref tp, .ref sd, .ref fi, .ref se, .ref enc, .ref dec, .ref wl, .ref wsp]))] 0 0 [(0, .ref x), (1, .int 1), (2, .int i), (3, .int b)] 5 [.ref sd]
  refine g_astore (lv' := [(4, .ref sd), (0, .ref x), (1, .int 1), (2, .int i), (3, .int b)]) B dX10_harm_5 (by decide) rfl ?_
  refine g_aload B dX10_harm_7 0 rfl ?_
  refine g_ifnull B dX10_harm_9 ?_
  refine g_aload B dX10_harm_12 0 rfl ?_
  refine g_iload_n B dX10_harm_14 rfl 3 rfl ?_
  refine g_iload_n B dX10_harm_15 rfl 4 rfl ?_
  refine g_callV (st := []) (As := [.int i, .int b]) (wr := [(x, .inr (10, [.ref nu, .int (nI x_1), .ref pl, .ref tp, .ref sd, .ref fi, .ref se, .ref enc, .ref dec, .ref wl, .ref wsp]))]) (nc' := 0) (ns' := 0) B cl_X10_149 w_im_X2_turn w_se_X2_turn (wk_X2_turn E sd sda 6000 sd_1 sda_f i b (by first | assumption | omega | decide)) rfl [0, 1] [2] rfl rfl (by decide) (by decide) (by decide) 0 rfl (fun q h => by cases h; rfl) rfl ⟨by decide, by decide⟩ rfl rfl (by decide) (by decide) rfl (Nat.le_of_ble_eq_true rfl) dX10_harm_16 (fun v w hq => ?_)
  obtain ⟨za_f_1437, zr_1438, hf_1439, hz_1440, rfl, rfl⟩ := hq
  replace e_ := fun β k_ => (e_ β k_).trans (hz_1440 β _)
  show G E X 5 [(x, .inr (10, [.ref nu, .int (nI x_1), .ref pl, .ref tp, .ref sd, .ref fi, .ref se, .ref enc, .ref dec, .ref wl, .ref wsp])), (sd, .inr (2, [.ref sda, .int sd_1])), (sda, .inl (E.2.2.1 1, 6000, .inl (nb za_f_1437)))] 0 0 [(4, .ref sd), (0, .ref x), (1, .int 1), (2, .int i), (3, .int b)] 19 [.int zr_1438]
  refine g_if_eq (tgt := 26) B dX10_harm_19 (by decide) (fun c19_1441 => ?_) (fun c19_1441 => ?_)
  · replace e_ := fun β k_ => (e_ β k_).trans (if_pos c19_1441)
    refine g_iconst (v := 0) B dX10_harm_26 (by decide) ?_
    exact g_zret B hr (by decide) dX10_harm_27 (by decide) (by decide) ⟨za_f_1437, 0, (Or.inl rfl), e_, rfl, rfl⟩
  · replace e_ := fun β k_ => (e_ β k_).trans (if_neg c19_1441)
    refine g_iconst (v := 1) B dX10_harm_22 (by decide) ?_
    refine g_goto (tgt := 27) B dX10_harm_23 (by decide) ?_
    exact g_zret B hr (by decide) dX10_harm_27 (by decide) (by decide) ⟨za_f_1437, 1, (Or.inr rfl), e_, rfl, rfl⟩
set_option maxRecDepth 100000 in
def fn_wk_X10_seal_1 (sd_1 : Int32) (sda_f : Nat → Int32) (β : Type) (k_ : (Nat → Int32) → Int32 → β) : β := (if 4 < sd_1 then (fn_wk_X2_crc 6000 sd_1 sda_f (sd_1 - 4) β (fun zr_1444 => (fn_wk_X2_putWord 6000 sd_1 sda_f (sd_1 - 4) zr_1444 β (fun za_f_1446 => (k_ za_f_1446 1))))) else (k_ sda_f 0))
set_option maxRecDepth 100000 in
theorem fn_wk_X10_seal_1_s {sd_1 : Int32} {sda_f : Nat → Int32} {β : Type} {k_ : (Nat → Int32) → Int32 → β} : fn_wk_X10_seal_1 sd_1 sda_f β k_ = (if 4 < sd_1 then (fn_wk_X2_crc 6000 sd_1 sda_f (sd_1 - 4) β (fun zr_1444 => (fn_wk_X2_putWord 6000 sd_1 sda_f (sd_1 - 4) zr_1444 β (fun za_f_1446 => (k_ za_f_1446 1))))) else (k_ sda_f 0)) := rfl
set_option maxRecDepth 100000 in
set_option maxHeartbeats 4000000 in
theorem wk_X10_seal_1 (E : g_E) (x : Nat) (nu : Nat) (pl : Nat) (tp : Nat) (sd : Nat) (fi : Nat) (se : Nat) (enc : Nat) (dec : Nat) (wl : Nat) (wsp : Nat) (sda : Nat) (x_1 : Nat) (sd_1 : Int32) (sda_f : Nat → Int32) (hk0 : x_1 ≤ 1200) : Ev E MX10_seal 1 23 0 0 [.ref x, .int 1] [(x, .inr (10, [.ref nu, .int (nI x_1), .ref pl, .ref tp, .ref sd, .ref fi, .ref se, .ref enc, .ref dec, .ref wl, .ref wsp])), (sd, .inr (2, [.ref sda, .int sd_1])), (sda, .inl (E.2.2.1 1, 6000, .inl (nb sda_f)))] (fun v_ w_ => ∃ zsda_f : Nat → Int32, ∃ zr : Int32, (zr = 0 ∨ zr = 1) ∧ (∀ (β : Type) (k_ : (Nat → Int32) → Int32 → β), fn_wk_X10_seal_1 sd_1 sda_f β k_ = k_ zsda_f zr) ∧ v_ = some (.int zr) ∧ w_ = [(x, .inr (10, [.ref nu, .int (nI x_1), .ref pl, .ref tp, .ref sd, .ref fi, .ref se, .ref enc, .ref dec, .ref wl, .ref wsp])), (sd, .inr (2, [.ref sda, .int sd_1])), (sda, .inl (E.2.2.1 1, 6000, .inl (nb zsda_f)))]) := by
  refine Ev.intro (by decide) (Nat.le_of_ble_eq_true rfl) ?_
  intro X B hr hI
  have B : Bd E X cX10_seal RX10 3 1 23 0 0 := B
  have hr : Rt E X (some .boolean) 0 0 (fun v_ w_ => ∃ zsda_f : Nat → Int32, ∃ zr : Int32, (zr = 0 ∨ zr = 1) ∧ (∀ (β : Type) (k_ : (Nat → Int32) → Int32 → β), fn_wk_X10_seal_1 sd_1 sda_f β k_ = k_ zsda_f zr) ∧ v_ = some (.int zr) ∧ w_ = [(x, .inr (10, [.ref nu, .int (nI x_1), .ref pl, .ref tp, .ref sd, .ref fi, .ref se, .ref enc, .ref dec, .ref wl, .ref wsp])), (sd, .inr (2, [.ref sda, .int sd_1])), (sda, .inl (E.2.2.1 1, 6000, .inl (nb zsda_f)))]) := hr
  have e_ := fun (β : Type) (k_ : (Nat → Int32) → Int32 → β) => fn_wk_X10_seal_1_s (β := β) (k_ := k_) (sd_1 := sd_1) (sda_f := sda_f)
  show G E X 3 [(x, .inr (10, [.ref nu, .int (nI x_1), .ref pl, .ref tp, .ref sd, .ref fi, .ref se, .ref enc, .ref dec, .ref wl, .ref wsp])), (sd, .inr (2, [.ref sda, .int sd_1])), (sda, .inl (E.2.2.1 1, 6000, .inl (nb sda_f)))] 0 0 [(0, .ref x), (1, .int 1)] 0 []
  refine g_aload_n B dX10_seal_0 rfl 0 rfl ?_
  refine g_iload_n B dX10_seal_1 rfl 1 rfl ?_
  refine g_callV (st := []) (As := [.int 1]) (wr := [(sd, .inr (2, [.ref sda, .int sd_1])), (sda, .inl (E.2.2.1 1, 6000, .inl (nb sda_f)))]) (nc' := 0) (ns' := 0) B cl_X10_133 w_im_X10_fed w_se_X10_fed (wk_X10_fed_1 E x nu pl tp sd fi se enc dec wl wsp (nI x_1) ) rfl [0] [1, 2] rfl rfl (by decide) (by decide) (by decide) 0 rfl (fun q h => by cases h; rfl) rfl ⟨by decide, by decide⟩ rfl rfl (by decide) (by decide) rfl (Nat.le_of_ble_eq_true rfl) dX10_seal_2 (fun v w hq => ?_)
  obtain ⟨rfl, rfl⟩ := hq
  show G E X 3 [(sd, .inr (2, [.ref sda, .int sd_1])), (sda, .inl (E.2.2.1 1, 6000, .inl (nb sda_f))), (x, .inr (10, [.ref nu, .int (nI x_1), .ref pl, .ref tp, .ref sd, .ref fi, .ref se, .ref enc, .ref dec, .ref wl, .ref wsp]))] 0 0 [(0, .ref x), (1, .int 1)] 5 [.ref sd]
  refine g_astore_n (lv' := [(2, .ref sd), (0, .ref x), (1, .int 1)]) B dX10_seal_5 rfl (by decide) rfl ?_
  refine g_aload_n B dX10_seal_6 rfl 0 rfl ?_
  refine g_ifnull B dX10_seal_7 ?_
  refine g_aload_n B dX10_seal_10 rfl 0 rfl ?_
  refine g_get B 0 1 fl_X10_124 rfl rfl dX10_seal_11 ?_
  refine g_iconst (v := 4) B dX10_seal_14 (by decide) ?_
  refine g_icmp_gt (tgt := 20) B dX10_seal_15 (by decide) (fun c15_1443 => ?_) (fun c15_1443 => ?_)
  · replace e_ := fun β k_ => (e_ β k_).trans (if_pos c15_1443)
    refine g_aload_n B dX10_seal_20 rfl 0 rfl ?_
    refine g_aload_n B dX10_seal_21 rfl 0 rfl ?_
    refine g_get B 0 1 fl_X10_124 rfl rfl dX10_seal_22 ?_
    refine g_iconst (v := 4) B dX10_seal_25 (by decide) ?_
    refine g_isub B dX10_seal_26 ?_
    refine g_aload_n B dX10_seal_27 rfl 0 rfl ?_
    refine g_aload_n B dX10_seal_28 rfl 0 rfl ?_
    refine g_get B 0 1 fl_X10_124 rfl rfl dX10_seal_29 ?_
    refine g_iconst (v := 4) B dX10_seal_32 (by decide) ?_
    refine g_isub B dX10_seal_33 ?_
    refine g_callV (st := [.int (sd_1 - 4), .ref sd]) (As := [.int (sd_1 - 4)]) (wr := [(x, .inr (10, [.ref nu, .int (nI x_1), .ref pl, .ref tp, .ref sd, .ref fi, .ref se, .ref enc, .ref dec, .ref wl, .ref wsp]))]) (nc' := 0) (ns' := 0) B cl_X10_152 w_im_X2_crc w_se_X2_crc (wk_X2_crc E sd sda 6000 sd_1 sda_f (sd_1 - 4) (by first | assumption | omega | decide)) rfl [0, 1] [2] rfl rfl (by decide) (by decide) (by decide) 0 rfl (fun q h => by cases h; rfl) rfl ⟨by decide, by decide⟩ rfl rfl (by decide) (by decide) rfl (Nat.le_of_ble_eq_true rfl) dX10_seal_34 (fun v w hq => ?_)
    obtain ⟨zr_1444, hz_1445, rfl, rfl⟩ := hq
    replace e_ := fun β k_ => (e_ β k_).trans (hz_1445 β _)
    show G E X 3 [(x, .inr (10, [.ref nu, .int (nI x_1), .ref pl, .ref tp, .ref sd, .ref fi, .ref se, .ref enc, .ref dec, .ref wl, .ref wsp])), (sd, .inr (2, [.ref sda, .int sd_1])), (sda, .inl (E.2.2.1 1, 6000, .inl (nb sda_f)))] 0 0 [(2, .ref sd), (0, .ref x), (1, .int 1)] 37 [.int zr_1444, .int (sd_1 - 4), .ref sd]
    refine g_callV (st := []) (As := [.int (sd_1 - 4), .int zr_1444]) (wr := [(x, .inr (10, [.ref nu, .int (nI x_1), .ref pl, .ref tp, .ref sd, .ref fi, .ref se, .ref enc, .ref dec, .ref wl, .ref wsp]))]) (nc' := 0) (ns' := 0) B cl_X10_155 w_im_X2_putWord w_se_X2_putWord (wk_X2_putWord E sd sda 6000 sd_1 sda_f (sd_1 - 4) zr_1444 (by first | assumption | omega | decide) (sl_4 (o_3 c15_1443))) rfl [1, 2] [0] rfl rfl (by decide) (by decide) (by decide) 0 rfl (fun q h => by cases h; rfl) rfl ⟨by decide, by decide⟩ rfl rfl (by decide) (by decide) rfl (Nat.le_of_ble_eq_true rfl) dX10_seal_37 (fun v w hq => ?_)
    obtain ⟨za_f_1446, hz_1447, rfl, rfl⟩ := hq
    replace e_ := fun β k_ => (e_ β k_).trans (hz_1447 β _)
    show G E X 3 [(x, .inr (10, [.ref nu, .int (nI x_1), .ref pl, .ref tp, .ref sd, .ref fi, .ref se, .ref enc, .ref dec, .ref wl, .ref wsp])), (sd, .inr (2, [.ref sda, .int sd_1])), (sda, .inl (E.2.2.1 1, 6000, .inl (nb za_f_1446)))] 0 0 [(2, .ref sd), (0, .ref x), (1, .int 1)] 40 []
    refine g_iconst (v := 1) B dX10_seal_40 (by decide) ?_
    exact g_zret B hr (by decide) dX10_seal_41 (by decide) (by decide) ⟨za_f_1446, 1, (Or.inr rfl), e_, rfl, rfl⟩
  · replace e_ := fun β k_ => (e_ β k_).trans (if_neg c15_1443)
    refine g_iconst (v := 0) B dX10_seal_18 (by decide) ?_
    refine g_sub (ws' := [(x, .inr (10, [.ref nu, .int (nI x_1), .ref pl, .ref tp, .ref sd, .ref fi, .ref se, .ref enc, .ref dec, .ref wl, .ref wsp])), (sd, .inr (2, [.ref sda, .int sd_1])), (sda, .inl (E.2.2.1 1, 6000, .inl (nb sda_f)))]) [2, 0, 1] (by decide) rfl ?_
    exact g_zret B hr (by decide) dX10_seal_19 (by decide) (by decide) ⟨sda_f, 0, (Or.inl rfl), e_, rfl, rfl⟩
set_option maxRecDepth 100000 in
def fn_wk_X10_take_1 (se_1 : Int32) (sea_f : Nat → Int32) (sd_1 : Int32) (sda_f : Nat → Int32) (β : Type) (k_ : Int32 → (Nat → Int32) → Int32 → β) : β := (fn_wk_X2_copy 6000 2450 se_1 sea_f sd_1 sda_f β (fun zt_1_1450 za_f_1451 zr_1452 => (if zr_1452 = 0 then (k_ zt_1_1450 za_f_1451 (-1)) else (k_ zt_1_1450 za_f_1451 zt_1_1450))))
set_option maxRecDepth 100000 in
theorem fn_wk_X10_take_1_s {se_1 : Int32} {sea_f : Nat → Int32} {sd_1 : Int32} {sda_f : Nat → Int32} {β : Type} {k_ : Int32 → (Nat → Int32) → Int32 → β} : fn_wk_X10_take_1 se_1 sea_f sd_1 sda_f β k_ = (fn_wk_X2_copy 6000 2450 se_1 sea_f sd_1 sda_f β (fun zt_1_1450 za_f_1451 zr_1452 => (if zr_1452 = 0 then (k_ zt_1_1450 za_f_1451 (-1)) else (k_ zt_1_1450 za_f_1451 zt_1_1450)))) := rfl
set_option maxRecDepth 100000 in
set_option maxHeartbeats 4000000 in
theorem wk_X10_take_1 (E : g_E) (x : Nat) (nu : Nat) (pl : Nat) (tp : Nat) (sd : Nat) (fi : Nat) (se : Nat) (enc : Nat) (dec : Nat) (wl : Nat) (wsp : Nat) (sda : Nat) (sea : Nat) (x_1 : Nat) (se_1 : Int32) (sea_f : Nat → Int32) (sd_1 : Int32) (sda_f : Nat → Int32) (hk0 : x_1 ≤ 1200) : Ev E MX10_take 2 82 0 0 [.ref x, .int 1] [(x, .inr (10, [.ref nu, .int (nI x_1), .ref pl, .ref tp, .ref sd, .ref fi, .ref se, .ref enc, .ref dec, .ref wl, .ref wsp])), (sd, .inr (2, [.ref sda, .int sd_1])), (sda, .inl (E.2.2.1 1, 6000, .inl (nb sda_f))), (se, .inr (2, [.ref sea, .int se_1])), (sea, .inl (E.2.2.1 1, 2450, .inl (nb sea_f)))] (fun v_ w_ => ∃ zsd_1 : Int32, ∃ zsda_f : Nat → Int32, ∃ zr : Int32, (∀ (β : Type) (k_ : Int32 → (Nat → Int32) → Int32 → β), fn_wk_X10_take_1 se_1 sea_f sd_1 sda_f β k_ = k_ zsd_1 zsda_f zr) ∧ v_ = some (.int zr) ∧ w_ = [(x, .inr (10, [.ref nu, .int (nI x_1), .ref pl, .ref tp, .ref sd, .ref fi, .ref se, .ref enc, .ref dec, .ref wl, .ref wsp])), (sd, .inr (2, [.ref sda, .int zsd_1])), (sda, .inl (E.2.2.1 1, 6000, .inl (nb zsda_f))), (se, .inr (2, [.ref sea, .int se_1])), (sea, .inl (E.2.2.1 1, 2450, .inl (nb sea_f)))]) := by
  refine Ev.intro (by decide) (Nat.le_of_ble_eq_true rfl) ?_
  intro X B hr hI
  have B : Bd E X cX10_take RX10 4 2 82 0 0 := B
  have hr : Rt E X (some .int) 0 0 (fun v_ w_ => ∃ zsd_1 : Int32, ∃ zsda_f : Nat → Int32, ∃ zr : Int32, (∀ (β : Type) (k_ : Int32 → (Nat → Int32) → Int32 → β), fn_wk_X10_take_1 se_1 sea_f sd_1 sda_f β k_ = k_ zsd_1 zsda_f zr) ∧ v_ = some (.int zr) ∧ w_ = [(x, .inr (10, [.ref nu, .int (nI x_1), .ref pl, .ref tp, .ref sd, .ref fi, .ref se, .ref enc, .ref dec, .ref wl, .ref wsp])), (sd, .inr (2, [.ref sda, .int zsd_1])), (sda, .inl (E.2.2.1 1, 6000, .inl (nb zsda_f))), (se, .inr (2, [.ref sea, .int se_1])), (sea, .inl (E.2.2.1 1, 2450, .inl (nb sea_f)))]) := hr
  have e_ := fun (β : Type) (k_ : Int32 → (Nat → Int32) → Int32 → β) => fn_wk_X10_take_1_s (β := β) (k_ := k_) (se_1 := se_1) (sea_f := sea_f) (sd_1 := sd_1) (sda_f := sda_f)
  show G E X 4 [(x, .inr (10, [.ref nu, .int (nI x_1), .ref pl, .ref tp, .ref sd, .ref fi, .ref se, .ref enc, .ref dec, .ref wl, .ref wsp])), (sd, .inr (2, [.ref sda, .int sd_1])), (sda, .inl (E.2.2.1 1, 6000, .inl (nb sda_f))), (se, .inr (2, [.ref sea, .int se_1])), (sea, .inl (E.2.2.1 1, 2450, .inl (nb sea_f)))] 0 0 [(0, .ref x), (1, .int 1)] 0 []
  refine g_aload_n B dX10_take_0 rfl 0 rfl ?_
  refine g_iload_n B dX10_take_1 rfl 1 rfl ?_
  refine g_callV (st := []) (As := [.int 1]) (wr := [(sd, .inr (2, [.ref sda, .int sd_1])), (sda, .inl (E.2.2.1 1, 6000, .inl (nb sda_f))), (se, .inr (2, [.ref sea, .int se_1])), (sea, .inl (E.2.2.1 1, 2450, .inl (nb sea_f)))]) (nc' := 0) (ns' := 0) B cl_X10_133 w_im_X10_fed w_se_X10_fed (wk_X10_fed_1 E x nu pl tp sd fi se enc dec wl wsp (nI x_1) ) rfl [0] [1, 2, 3, 4] rfl rfl (by decide) (by decide) (by decide) 0 rfl (fun q h => by cases h; rfl) rfl ⟨by decide, by decide⟩ rfl rfl (by decide) (by decide) rfl (Nat.le_of_ble_eq_true rfl) dX10_take_2 (fun v w hq => ?_)
  obtain ⟨rfl, rfl⟩ := hq
  show G E X 4 [(sd, .inr (2, [.ref sda, .int sd_1])), (sda, .inl (E.2.2.1 1, 6000, .inl (nb sda_f))), (se, .inr (2, [.ref sea, .int se_1])), (sea, .inl (E.2.2.1 1, 2450, .inl (nb sea_f))), (x, .inr (10, [.ref nu, .int (nI x_1), .ref pl, .ref tp, .ref sd, .ref fi, .ref se, .ref enc, .ref dec, .ref wl, .ref wsp]))] 0 0 [(0, .ref x), (1, .int 1)] 5 [.ref sd]
  refine g_astore_n (lv' := [(2, .ref sd), (0, .ref x), (1, .int 1)]) B dX10_take_5 rfl (by decide) rfl ?_
  refine g_aload_n B dX10_take_6 rfl 1 rfl ?_
  refine g_iload_n B dX10_take_7 rfl 2 rfl ?_
  refine g_callV (st := []) (As := [.int 1]) (wr := [(sd, .inr (2, [.ref sda, .int sd_1])), (sda, .inl (E.2.2.1 1, 6000, .inl (nb sda_f))), (se, .inr (2, [.ref sea, .int se_1])), (sea, .inl (E.2.2.1 1, 2450, .inl (nb sea_f)))]) (nc' := 0) (ns' := 0) B cl_X10_125 w_im_X10_pressed w_se_X10_pressed (wk_X10_pressed_1 E x nu pl tp sd fi se enc dec wl wsp (nI x_1) ) rfl [4] [0, 1, 2, 3] rfl rfl (by decide) (by decide) (by decide) 0 rfl (fun q h => by cases h; rfl) rfl ⟨by decide, by decide⟩ rfl rfl (by decide) (by decide) rfl (Nat.le_of_ble_eq_true rfl) dX10_take_8 (fun v w hq => ?_)
  obtain ⟨rfl, rfl⟩ := hq
  show G E X 4 [(sd, .inr (2, [.ref sda, .int sd_1])), (sda, .inl (E.2.2.1 1, 6000, .inl (nb sda_f))), (se, .inr (2, [.ref sea, .int se_1])), (sea, .inl (E.2.2.1 1, 2450, .inl (nb sea_f))), (x, .inr (10, [.ref nu, .int (nI x_1), .ref pl, .ref tp, .ref sd, .ref fi, .ref se, .ref enc, .ref dec, .ref wl, .ref wsp]))] 0 0 [(2, .ref sd), (0, .ref x), (1, .int 1)] 11 [.ref se]
  refine g_astore_n (lv' := [(3, .ref se), (2, .ref sd), (0, .ref x), (1, .int 1)]) B dX10_take_11 rfl (by decide) rfl ?_
  refine g_aload_n B dX10_take_12 rfl 1 rfl ?_
  refine g_ifnull B dX10_take_13 ?_
  refine g_aload_n B dX10_take_16 rfl 0 rfl ?_
  refine g_ifnull B dX10_take_17 ?_
  refine g_aload_n B dX10_take_20 rfl 1 rfl ?_
  refine g_aload_n B dX10_take_21 rfl 0 rfl ?_
  refine g_callV (st := []) (As := [.ref se]) (wr := [(x, .inr (10, [.ref nu, .int (nI x_1), .ref pl, .ref tp, .ref sd, .ref fi, .ref se, .ref enc, .ref dec, .ref wl, .ref wsp]))]) (nc' := 0) (ns' := 0) B cl_X10_146 w_im_X2_copy w_se_X2_copy (wk_X2_copy E sd sda se sea 6000 2450 se_1 sea_f sd_1 sda_f (by first | assumption | omega | decide) (by first | assumption | omega | decide)) rfl [0, 1, 2, 3] [4] rfl rfl (by decide) (by decide) (by decide) 0 rfl (fun q h => by cases h; rfl) rfl ⟨by decide, by decide⟩ rfl rfl (by decide) (by decide) rfl (Nat.le_of_ble_eq_true rfl) dX10_take_22 (fun v w hq => ?_)
  obtain ⟨zt_1_1450, za_f_1451, zr_1452, hf_1453, hz_1454, rfl, rfl⟩ := hq
  replace e_ := fun β k_ => (e_ β k_).trans (hz_1454 β _)
  show G E X 4 [(x, .inr (10, [.ref nu, .int (nI x_1), .ref pl, .ref tp, .ref sd, .ref fi, .ref se, .ref enc, .ref dec, .ref wl, .ref wsp])), (sd, .inr (2, [.ref sda, .int zt_1_1450])), (sda, .inl (E.2.2.1 1, 6000, .inl (nb za_f_1451))), (se, .inr (2, [.ref sea, .int se_1])), (sea, .inl (E.2.2.1 1, 2450, .inl (nb sea_f)))] 0 0 [(3, .ref se), (2, .ref sd), (0, .ref x), (1, .int 1)] 25 [.int zr_1452]
  refine g_if_ne (tgt := 30) B dX10_take_25 (by decide) (fun c25_1455 => ?_) (fun c25_1455 => ?_)
  · replace e_ := fun β k_ => (e_ β k_).trans (if_neg c25_1455)
    refine g_aload_n B dX10_take_30 rfl 1 rfl ?_
    refine g_get B 1 1 fl_X10_124 rfl rfl dX10_take_31 ?_
    exact g_iret B hr dX10_take_34 (by decide) (by decide) ⟨zt_1_1450, za_f_1451, zt_1_1450, e_, rfl, rfl⟩
  · replace e_ := fun β k_ => (e_ β k_).trans (if_pos c25_1455)
    refine g_iconst (v := (-1)) B dX10_take_28 (by decide) ?_
    exact g_iret B hr dX10_take_29 (by decide) (by decide) ⟨zt_1_1450, za_f_1451, (-1), e_, rfl, rfl⟩
theorem dX10_size_10 : decode cX10_size 10 = .ok (.iconst (-1), 1) := by decide +kernel
theorem dX10_size_11 : decode cX10_size 11 = .ok (.goto 7, 3) := by decide +kernel
set_option maxRecDepth 100000 in
def fn_wk_X10_size_n  (β : Type) (k_ : Int32 → β) : β := (k_ (-1))
set_option maxRecDepth 100000 in
theorem fn_wk_X10_size_n_s  {β : Type} {k_ : Int32 → β} : fn_wk_X10_size_n  β k_ = (k_ (-1)) := rfl
set_option maxRecDepth 100000 in
set_option maxHeartbeats 4000000 in
theorem wk_X10_size_n (E : g_E) (x : Nat) (nu : Nat) (pl : Nat) (tp : Nat) (sd : Nat) (fi : Nat) (se : Nat) (enc : Nat) (dec : Nat) (wl : Nat) (wsp : Nat) (x_1 : Nat) (wh : Int32) (h0 : ¬ wh = 0) (h1 : ¬ wh = 1) (hk0 : x_1 ≤ 1200) : Ev E MX10_size 1 21 0 0 [.ref x, .int wh] [(x, .inr (10, [.ref nu, .int (nI x_1), .ref pl, .ref tp, .ref sd, .ref fi, .ref se, .ref enc, .ref dec, .ref wl, .ref wsp]))] (fun v_ w_ => ∃ zr : Int32, (∀ (β : Type) (k_ : Int32 → β), fn_wk_X10_size_n β k_ = k_ zr) ∧ v_ = some (.int zr) ∧ w_ = [(x, .inr (10, [.ref nu, .int (nI x_1), .ref pl, .ref tp, .ref sd, .ref fi, .ref se, .ref enc, .ref dec, .ref wl, .ref wsp]))]) := by
  refine Ev.intro (by decide) (Nat.le_of_ble_eq_true rfl) ?_
  intro X B hr hI
  have B : Bd E X cX10_size RX10 3 1 21 0 0 := B
  have hr : Rt E X (some .int) 0 0 (fun v_ w_ => ∃ zr : Int32, (∀ (β : Type) (k_ : Int32 → β), fn_wk_X10_size_n β k_ = k_ zr) ∧ v_ = some (.int zr) ∧ w_ = [(x, .inr (10, [.ref nu, .int (nI x_1), .ref pl, .ref tp, .ref sd, .ref fi, .ref se, .ref enc, .ref dec, .ref wl, .ref wsp]))]) := hr
  have e_ := fun (β : Type) (k_ : Int32 → β) => fn_wk_X10_size_n_s (β := β) (k_ := k_) 
  show G E X 3 [(x, .inr (10, [.ref nu, .int (nI x_1), .ref pl, .ref tp, .ref sd, .ref fi, .ref se, .ref enc, .ref dec, .ref wl, .ref wsp]))] 0 0 [(0, .ref x), (1, .int wh)] 0 []
  refine g_aload_n B dX10_size_0 rfl 0 rfl ?_
  refine g_iload_n B dX10_size_1 rfl 1 rfl ?_
  refine g_callV (st := []) (As := [.int wh]) (wr := []) (nc' := 0) (ns' := 0) B cl_X10_125 w_im_X10_pressed w_se_X10_pressed (wk_X10_pressed_n E x nu pl tp sd fi se enc dec wl wsp (nI x_1) wh (by first | assumption | omega | decide) (by first | assumption | omega | decide)) rfl [0] [] rfl rfl (by decide) (by decide) (by decide) 0 rfl (fun q h => by cases h; rfl) rfl ⟨by decide, by decide⟩ rfl rfl (by decide) (by decide) rfl (Nat.le_of_ble_eq_true rfl) dX10_size_2 (fun v w hq => ?_)
  obtain ⟨rfl, rfl⟩ := hq
  show G E X 3 [(x, .inr (10, [.ref nu, .int (nI x_1), .ref pl, .ref tp, .ref sd, .ref fi, .ref se, .ref enc, .ref dec, .ref wl, .ref wsp]))] 0 0 [(0, .ref x), (1, .int wh)] 5 [.null]
  refine g_astore_nN (lv' := [(2, .null), (0, .ref x), (1, .int wh)]) B dX10_size_5 rfl (by decide) rfl ?_
  refine g_aload_nN B dX10_size_6 rfl 0 rfl ?_
  refine g_ifnonnullN B dX10_size_7 ?_
  refine g_iconst (v := (-1)) B dX10_size_10 (by decide) ?_
  refine g_goto (tgt := 18) B dX10_size_11 (by decide) ?_
  exact g_iret B hr dX10_size_18 (by decide) (by decide) ⟨(-1), e_, rfl, rfl⟩
theorem dX10_out_10 : decode cX10_out 10 = .ok (.iconst (-1), 1) := by decide +kernel
theorem dX10_out_11 : decode cX10_out 11 = .ok (.goto 8, 3) := by decide +kernel
set_option maxRecDepth 100000 in
def fn_wk_X10_out_n  (β : Type) (k_ : Int32 → β) : β := (k_ (-1))
set_option maxRecDepth 100000 in
theorem fn_wk_X10_out_n_s  {β : Type} {k_ : Int32 → β} : fn_wk_X10_out_n  β k_ = (k_ (-1)) := rfl
set_option maxRecDepth 100000 in
set_option maxHeartbeats 4000000 in
theorem wk_X10_out_n (E : g_E) (x : Nat) (nu : Nat) (pl : Nat) (tp : Nat) (sd : Nat) (fi : Nat) (se : Nat) (enc : Nat) (dec : Nat) (wl : Nat) (wsp : Nat) (x_1 : Nat) (wh : Int32) (i : Int32) (h0 : ¬ wh = 0) (h1 : ¬ wh = 1) (hk0 : x_1 ≤ 1200) : Ev E MX10_out 1 21 0 0 [.ref x, .int wh, .int i] [(x, .inr (10, [.ref nu, .int (nI x_1), .ref pl, .ref tp, .ref sd, .ref fi, .ref se, .ref enc, .ref dec, .ref wl, .ref wsp]))] (fun v_ w_ => ∃ zr : Int32, (∀ (β : Type) (k_ : Int32 → β), fn_wk_X10_out_n β k_ = k_ zr) ∧ v_ = some (.int zr) ∧ w_ = [(x, .inr (10, [.ref nu, .int (nI x_1), .ref pl, .ref tp, .ref sd, .ref fi, .ref se, .ref enc, .ref dec, .ref wl, .ref wsp]))]) := by
  refine Ev.intro (by decide) (Nat.le_of_ble_eq_true rfl) ?_
  intro X B hr hI
  have B : Bd E X cX10_out RX10 4 1 21 0 0 := B
  have hr : Rt E X (some .int) 0 0 (fun v_ w_ => ∃ zr : Int32, (∀ (β : Type) (k_ : Int32 → β), fn_wk_X10_out_n β k_ = k_ zr) ∧ v_ = some (.int zr) ∧ w_ = [(x, .inr (10, [.ref nu, .int (nI x_1), .ref pl, .ref tp, .ref sd, .ref fi, .ref se, .ref enc, .ref dec, .ref wl, .ref wsp]))]) := hr
  have e_ := fun (β : Type) (k_ : Int32 → β) => fn_wk_X10_out_n_s (β := β) (k_ := k_) 
  show G E X 4 [(x, .inr (10, [.ref nu, .int (nI x_1), .ref pl, .ref tp, .ref sd, .ref fi, .ref se, .ref enc, .ref dec, .ref wl, .ref wsp]))] 0 0 [(0, .ref x), (1, .int wh), (2, .int i)] 0 []
  refine g_aload_n B dX10_out_0 rfl 0 rfl ?_
  refine g_iload_n B dX10_out_1 rfl 1 rfl ?_
  refine g_callV (st := []) (As := [.int wh]) (wr := []) (nc' := 0) (ns' := 0) B cl_X10_125 w_im_X10_pressed w_se_X10_pressed (wk_X10_pressed_n E x nu pl tp sd fi se enc dec wl wsp (nI x_1) wh (by first | assumption | omega | decide) (by first | assumption | omega | decide)) rfl [0] [] rfl rfl (by decide) (by decide) (by decide) 0 rfl (fun q h => by cases h; rfl) rfl ⟨by decide, by decide⟩ rfl rfl (by decide) (by decide) rfl (Nat.le_of_ble_eq_true rfl) dX10_out_2 (fun v w hq => ?_)
  obtain ⟨rfl, rfl⟩ := hq
  show G E X 4 [(x, .inr (10, [.ref nu, .int (nI x_1), .ref pl, .ref tp, .ref sd, .ref fi, .ref se, .ref enc, .ref dec, .ref wl, .ref wsp]))] 0 0 [(0, .ref x), (1, .int wh), (2, .int i)] 5 [.null]
  refine g_astore_nN (lv' := [(3, .null), (0, .ref x), (1, .int wh), (2, .int i)]) B dX10_out_5 rfl (by decide) rfl ?_
  refine g_aload_nN B dX10_out_6 rfl 0 rfl ?_
  refine g_ifnonnullN B dX10_out_7 ?_
  refine g_iconst (v := (-1)) B dX10_out_10 (by decide) ?_
  refine g_goto (tgt := 19) B dX10_out_11 (by decide) ?_
  exact g_iret B hr dX10_out_19 (by decide) (by decide) ⟨(-1), e_, rfl, rfl⟩
set_option maxRecDepth 100000 in
def fn_wk_X10_feed_n  (β : Type) (k_ : Int32 → β) : β := (k_ (-1))
set_option maxRecDepth 100000 in
theorem fn_wk_X10_feed_n_s  {β : Type} {k_ : Int32 → β} : fn_wk_X10_feed_n  β k_ = (k_ (-1)) := rfl
set_option maxRecDepth 100000 in
set_option maxHeartbeats 4000000 in
theorem wk_X10_feed_n (E : g_E) (x : Nat) (nu : Nat) (pl : Nat) (tp : Nat) (sd : Nat) (fi : Nat) (se : Nat) (enc : Nat) (dec : Nat) (wl : Nat) (wsp : Nat) (x_1 : Nat) (wh : Int32) (a1 : Int32) (a2 : Int32) (a3 : Int32) (h0 : ¬ wh = 0) (h1 : ¬ wh = 1) (hk0 : x_1 ≤ 1200) : Ev E MX10_feed 2 43 0 0 [.ref x, .int wh, .int a1, .int a2, .int a3] [(x, .inr (10, [.ref nu, .int (nI x_1), .ref pl, .ref tp, .ref sd, .ref fi, .ref se, .ref enc, .ref dec, .ref wl, .ref wsp]))] (fun v_ w_ => ∃ zr : Int32, (∀ (β : Type) (k_ : Int32 → β), fn_wk_X10_feed_n β k_ = k_ zr) ∧ v_ = some (.int zr) ∧ w_ = [(x, .inr (10, [.ref nu, .int (nI x_1), .ref pl, .ref tp, .ref sd, .ref fi, .ref se, .ref enc, .ref dec, .ref wl, .ref wsp]))]) := by
  refine Ev.intro (by decide) (Nat.le_of_ble_eq_true rfl) ?_
  intro X B hr hI
  have B : Bd E X cX10_feed RX10 6 2 43 0 0 := B
  have hr : Rt E X (some .int) 0 0 (fun v_ w_ => ∃ zr : Int32, (∀ (β : Type) (k_ : Int32 → β), fn_wk_X10_feed_n β k_ = k_ zr) ∧ v_ = some (.int zr) ∧ w_ = [(x, .inr (10, [.ref nu, .int (nI x_1), .ref pl, .ref tp, .ref sd, .ref fi, .ref se, .ref enc, .ref dec, .ref wl, .ref wsp]))]) := hr
  have e_ := fun (β : Type) (k_ : Int32 → β) => fn_wk_X10_feed_n_s (β := β) (k_ := k_) 
  show G E X 6 [(x, .inr (10, [.ref nu, .int (nI x_1), .ref pl, .ref tp, .ref sd, .ref fi, .ref se, .ref enc, .ref dec, .ref wl, .ref wsp]))] 0 0 [(0, .ref x), (1, .int wh), (2, .int a1), (3, .int a2), (4, .int a3)] 0 []
  refine g_aload_n B dX10_feed_0 rfl 0 rfl ?_
  refine g_iload_n B dX10_feed_1 rfl 1 rfl ?_
  refine g_callV (st := []) (As := [.int wh]) (wr := []) (nc' := 0) (ns' := 0) B cl_X10_133 w_im_X10_fed w_se_X10_fed (wk_X10_fed_n E x nu pl tp sd fi se enc dec wl wsp (nI x_1) wh (by first | assumption | omega | decide) (by first | assumption | omega | decide)) rfl [0] [] rfl rfl (by decide) (by decide) (by decide) 0 rfl (fun q h => by cases h; rfl) rfl ⟨by decide, by decide⟩ rfl rfl (by decide) (by decide) rfl (Nat.le_of_ble_eq_true rfl) dX10_feed_2 (fun v w hq => ?_)
  obtain ⟨rfl, rfl⟩ := hq
  show G E X 6 [(x, .inr (10, [.ref nu, .int (nI x_1), .ref pl, .ref tp, .ref sd, .ref fi, .ref se, .ref enc, .ref dec, .ref wl, .ref wsp]))] 0 0 [(0, .ref x), (1, .int wh), (2, .int a1), (3, .int a2), (4, .int a3)] 5 [.null]
  refine g_astoreN (lv' := [(5, .null), (0, .ref x), (1, .int wh), (2, .int a1), (3, .int a2), (4, .int a3)]) B dX10_feed_5 (by decide) rfl ?_
  refine g_aloadN B dX10_feed_7 0 rfl ?_
  refine g_ifnullN (tgt := 29) B dX10_feed_9 (by decide) ?_
  refine g_iconst (v := (-1)) B dX10_feed_29 (by decide) ?_
  exact g_iret B hr dX10_feed_30 (by decide) (by decide) ⟨(-1), e_, rfl, rfl⟩
set_option maxRecDepth 100000 in
def fn_wk_X10_end_n  (β : Type) (k_ : Int32 → β) : β := (k_ 0)
set_option maxRecDepth 100000 in
theorem fn_wk_X10_end_n_s  {β : Type} {k_ : Int32 → β} : fn_wk_X10_end_n  β k_ = (k_ 0) := rfl
set_option maxRecDepth 100000 in
set_option maxHeartbeats 4000000 in
theorem wk_X10_end_n (E : g_E) (x : Nat) (nu : Nat) (pl : Nat) (tp : Nat) (sd : Nat) (fi : Nat) (se : Nat) (enc : Nat) (dec : Nat) (wl : Nat) (wsp : Nat) (x_1 : Nat) (wh : Int32) (n : Int32) (h0 : ¬ wh = 0) (h1 : ¬ wh = 1) (hk0 : x_1 ≤ 1200) : Ev E MX10_end 1 21 0 0 [.ref x, .int wh, .int n] [(x, .inr (10, [.ref nu, .int (nI x_1), .ref pl, .ref tp, .ref sd, .ref fi, .ref se, .ref enc, .ref dec, .ref wl, .ref wsp]))] (fun v_ w_ => ∃ zr : Int32, (zr = 0 ∨ zr = 1) ∧ (∀ (β : Type) (k_ : Int32 → β), fn_wk_X10_end_n β k_ = k_ zr) ∧ v_ = some (.int zr) ∧ w_ = [(x, .inr (10, [.ref nu, .int (nI x_1), .ref pl, .ref tp, .ref sd, .ref fi, .ref se, .ref enc, .ref dec, .ref wl, .ref wsp]))]) := by
  refine Ev.intro (by decide) (Nat.le_of_ble_eq_true rfl) ?_
  intro X B hr hI
  have B : Bd E X cX10_end RX10 4 1 21 0 0 := B
  have hr : Rt E X (some .boolean) 0 0 (fun v_ w_ => ∃ zr : Int32, (zr = 0 ∨ zr = 1) ∧ (∀ (β : Type) (k_ : Int32 → β), fn_wk_X10_end_n β k_ = k_ zr) ∧ v_ = some (.int zr) ∧ w_ = [(x, .inr (10, [.ref nu, .int (nI x_1), .ref pl, .ref tp, .ref sd, .ref fi, .ref se, .ref enc, .ref dec, .ref wl, .ref wsp]))]) := hr
  have e_ := fun (β : Type) (k_ : Int32 → β) => fn_wk_X10_end_n_s (β := β) (k_ := k_) 
  show G E X 4 [(x, .inr (10, [.ref nu, .int (nI x_1), .ref pl, .ref tp, .ref sd, .ref fi, .ref se, .ref enc, .ref dec, .ref wl, .ref wsp]))] 0 0 [(0, .ref x), (1, .int wh), (2, .int n)] 0 []
  refine g_aload_n B dX10_end_0 rfl 0 rfl ?_
  refine g_iload_n B dX10_end_1 rfl 1 rfl ?_
  refine g_callV (st := []) (As := [.int wh]) (wr := []) (nc' := 0) (ns' := 0) B cl_X10_133 w_im_X10_fed w_se_X10_fed (wk_X10_fed_n E x nu pl tp sd fi se enc dec wl wsp (nI x_1) wh (by first | assumption | omega | decide) (by first | assumption | omega | decide)) rfl [0] [] rfl rfl (by decide) (by decide) (by decide) 0 rfl (fun q h => by cases h; rfl) rfl ⟨by decide, by decide⟩ rfl rfl (by decide) (by decide) rfl (Nat.le_of_ble_eq_true rfl) dX10_end_2 (fun v w hq => ?_)
  obtain ⟨rfl, rfl⟩ := hq
  show G E X 4 [(x, .inr (10, [.ref nu, .int (nI x_1), .ref pl, .ref tp, .ref sd, .ref fi, .ref se, .ref enc, .ref dec, .ref wl, .ref wsp]))] 0 0 [(0, .ref x), (1, .int wh), (2, .int n)] 5 [.null]
  refine g_astore_nN (lv' := [(3, .null), (0, .ref x), (1, .int wh), (2, .int n)]) B dX10_end_5 rfl (by decide) rfl ?_
  refine g_aload_nN B dX10_end_6 rfl 0 rfl ?_
  refine g_ifnullN (tgt := 22) B dX10_end_7 (by decide) ?_
  refine g_iconst (v := 0) B dX10_end_22 (by decide) ?_
  exact g_zret B hr (by decide) dX10_end_23 (by decide) (by decide) ⟨0, (Or.inl rfl), e_, rfl, rfl⟩
set_option maxRecDepth 100000 in
def fn_wk_X10_harm_n  (β : Type) (k_ : Int32 → β) : β := (k_ 0)
set_option maxRecDepth 100000 in
theorem fn_wk_X10_harm_n_s  {β : Type} {k_ : Int32 → β} : fn_wk_X10_harm_n  β k_ = (k_ 0) := rfl
set_option maxRecDepth 100000 in
set_option maxHeartbeats 4000000 in
theorem wk_X10_harm_n (E : g_E) (x : Nat) (nu : Nat) (pl : Nat) (tp : Nat) (sd : Nat) (fi : Nat) (se : Nat) (enc : Nat) (dec : Nat) (wl : Nat) (wsp : Nat) (x_1 : Nat) (wh : Int32) (i : Int32) (b : Int32) (h0 : ¬ wh = 0) (h1 : ¬ wh = 1) (hk0 : x_1 ≤ 1200) : Ev E MX10_harm 1 22 0 0 [.ref x, .int wh, .int i, .int b] [(x, .inr (10, [.ref nu, .int (nI x_1), .ref pl, .ref tp, .ref sd, .ref fi, .ref se, .ref enc, .ref dec, .ref wl, .ref wsp]))] (fun v_ w_ => ∃ zr : Int32, (zr = 0 ∨ zr = 1) ∧ (∀ (β : Type) (k_ : Int32 → β), fn_wk_X10_harm_n β k_ = k_ zr) ∧ v_ = some (.int zr) ∧ w_ = [(x, .inr (10, [.ref nu, .int (nI x_1), .ref pl, .ref tp, .ref sd, .ref fi, .ref se, .ref enc, .ref dec, .ref wl, .ref wsp]))]) := by
  refine Ev.intro (by decide) (Nat.le_of_ble_eq_true rfl) ?_
  intro X B hr hI
  have B : Bd E X cX10_harm RX10 5 1 22 0 0 := B
  have hr : Rt E X (some .boolean) 0 0 (fun v_ w_ => ∃ zr : Int32, (zr = 0 ∨ zr = 1) ∧ (∀ (β : Type) (k_ : Int32 → β), fn_wk_X10_harm_n β k_ = k_ zr) ∧ v_ = some (.int zr) ∧ w_ = [(x, .inr (10, [.ref nu, .int (nI x_1), .ref pl, .ref tp, .ref sd, .ref fi, .ref se, .ref enc, .ref dec, .ref wl, .ref wsp]))]) := hr
  have e_ := fun (β : Type) (k_ : Int32 → β) => fn_wk_X10_harm_n_s (β := β) (k_ := k_) 
  show G E X 5 [(x, .inr (10, [.ref nu, .int (nI x_1), .ref pl, .ref tp, .ref sd, .ref fi, .ref se, .ref enc, .ref dec, .ref wl, .ref wsp]))] 0 0 [(0, .ref x), (1, .int wh), (2, .int i), (3, .int b)] 0 []
  refine g_aload_n B dX10_harm_0 rfl 0 rfl ?_
  refine g_iload_n B dX10_harm_1 rfl 1 rfl ?_
  refine g_callV (st := []) (As := [.int wh]) (wr := []) (nc' := 0) (ns' := 0) B cl_X10_133 w_im_X10_fed w_se_X10_fed (wk_X10_fed_n E x nu pl tp sd fi se enc dec wl wsp (nI x_1) wh (by first | assumption | omega | decide) (by first | assumption | omega | decide)) rfl [0] [] rfl rfl (by decide) (by decide) (by decide) 0 rfl (fun q h => by cases h; rfl) rfl ⟨by decide, by decide⟩ rfl rfl (by decide) (by decide) rfl (Nat.le_of_ble_eq_true rfl) dX10_harm_2 (fun v w hq => ?_)
  obtain ⟨rfl, rfl⟩ := hq
  show G E X 5 [(x, .inr (10, [.ref nu, .int (nI x_1), .ref pl, .ref tp, .ref sd, .ref fi, .ref se, .ref enc, .ref dec, .ref wl, .ref wsp]))] 0 0 [(0, .ref x), (1, .int wh), (2, .int i), (3, .int b)] 5 [.null]
  refine g_astoreN (lv' := [(4, .null), (0, .ref x), (1, .int wh), (2, .int i), (3, .int b)]) B dX10_harm_5 (by decide) rfl ?_
  refine g_aloadN B dX10_harm_7 0 rfl ?_
  refine g_ifnullN (tgt := 26) B dX10_harm_9 (by decide) ?_
  refine g_iconst (v := 0) B dX10_harm_26 (by decide) ?_
  exact g_zret B hr (by decide) dX10_harm_27 (by decide) (by decide) ⟨0, (Or.inl rfl), e_, rfl, rfl⟩
set_option maxRecDepth 100000 in
def fn_wk_X10_seal_n  (β : Type) (k_ : Int32 → β) : β := (k_ 0)
set_option maxRecDepth 100000 in
theorem fn_wk_X10_seal_n_s  {β : Type} {k_ : Int32 → β} : fn_wk_X10_seal_n  β k_ = (k_ 0) := rfl
set_option maxRecDepth 100000 in
set_option maxHeartbeats 4000000 in
theorem wk_X10_seal_n (E : g_E) (x : Nat) (nu : Nat) (pl : Nat) (tp : Nat) (sd : Nat) (fi : Nat) (se : Nat) (enc : Nat) (dec : Nat) (wl : Nat) (wsp : Nat) (x_1 : Nat) (wh : Int32) (h0 : ¬ wh = 0) (h1 : ¬ wh = 1) (hk0 : x_1 ≤ 1200) : Ev E MX10_seal 1 23 0 0 [.ref x, .int wh] [(x, .inr (10, [.ref nu, .int (nI x_1), .ref pl, .ref tp, .ref sd, .ref fi, .ref se, .ref enc, .ref dec, .ref wl, .ref wsp]))] (fun v_ w_ => ∃ zr : Int32, (zr = 0 ∨ zr = 1) ∧ (∀ (β : Type) (k_ : Int32 → β), fn_wk_X10_seal_n β k_ = k_ zr) ∧ v_ = some (.int zr) ∧ w_ = [(x, .inr (10, [.ref nu, .int (nI x_1), .ref pl, .ref tp, .ref sd, .ref fi, .ref se, .ref enc, .ref dec, .ref wl, .ref wsp]))]) := by
  refine Ev.intro (by decide) (Nat.le_of_ble_eq_true rfl) ?_
  intro X B hr hI
  have B : Bd E X cX10_seal RX10 3 1 23 0 0 := B
  have hr : Rt E X (some .boolean) 0 0 (fun v_ w_ => ∃ zr : Int32, (zr = 0 ∨ zr = 1) ∧ (∀ (β : Type) (k_ : Int32 → β), fn_wk_X10_seal_n β k_ = k_ zr) ∧ v_ = some (.int zr) ∧ w_ = [(x, .inr (10, [.ref nu, .int (nI x_1), .ref pl, .ref tp, .ref sd, .ref fi, .ref se, .ref enc, .ref dec, .ref wl, .ref wsp]))]) := hr
  have e_ := fun (β : Type) (k_ : Int32 → β) => fn_wk_X10_seal_n_s (β := β) (k_ := k_) 
  show G E X 3 [(x, .inr (10, [.ref nu, .int (nI x_1), .ref pl, .ref tp, .ref sd, .ref fi, .ref se, .ref enc, .ref dec, .ref wl, .ref wsp]))] 0 0 [(0, .ref x), (1, .int wh)] 0 []
  refine g_aload_n B dX10_seal_0 rfl 0 rfl ?_
  refine g_iload_n B dX10_seal_1 rfl 1 rfl ?_
  refine g_callV (st := []) (As := [.int wh]) (wr := []) (nc' := 0) (ns' := 0) B cl_X10_133 w_im_X10_fed w_se_X10_fed (wk_X10_fed_n E x nu pl tp sd fi se enc dec wl wsp (nI x_1) wh (by first | assumption | omega | decide) (by first | assumption | omega | decide)) rfl [0] [] rfl rfl (by decide) (by decide) (by decide) 0 rfl (fun q h => by cases h; rfl) rfl ⟨by decide, by decide⟩ rfl rfl (by decide) (by decide) rfl (Nat.le_of_ble_eq_true rfl) dX10_seal_2 (fun v w hq => ?_)
  obtain ⟨rfl, rfl⟩ := hq
  show G E X 3 [(x, .inr (10, [.ref nu, .int (nI x_1), .ref pl, .ref tp, .ref sd, .ref fi, .ref se, .ref enc, .ref dec, .ref wl, .ref wsp]))] 0 0 [(0, .ref x), (1, .int wh)] 5 [.null]
  refine g_astore_nN (lv' := [(2, .null), (0, .ref x), (1, .int wh)]) B dX10_seal_5 rfl (by decide) rfl ?_
  refine g_aload_nN B dX10_seal_6 rfl 0 rfl ?_
  refine g_ifnullN (tgt := 18) B dX10_seal_7 (by decide) ?_
  refine g_iconst (v := 0) B dX10_seal_18 (by decide) ?_
  exact g_zret B hr (by decide) dX10_seal_19 (by decide) (by decide) ⟨0, (Or.inl rfl), e_, rfl, rfl⟩
set_option maxRecDepth 100000 in
def fn_wk_X10_take_n  (β : Type) (k_ : Int32 → β) : β := (k_ (-1))
set_option maxRecDepth 100000 in
theorem fn_wk_X10_take_n_s  {β : Type} {k_ : Int32 → β} : fn_wk_X10_take_n  β k_ = (k_ (-1)) := rfl
set_option maxRecDepth 100000 in
set_option maxHeartbeats 4000000 in
theorem wk_X10_take_n (E : g_E) (x : Nat) (nu : Nat) (pl : Nat) (tp : Nat) (sd : Nat) (fi : Nat) (se : Nat) (enc : Nat) (dec : Nat) (wl : Nat) (wsp : Nat) (x_1 : Nat) (wh : Int32) (h0 : ¬ wh = 0) (h1 : ¬ wh = 1) (hk0 : x_1 ≤ 1200) : Ev E MX10_take 2 82 0 0 [.ref x, .int wh] [(x, .inr (10, [.ref nu, .int (nI x_1), .ref pl, .ref tp, .ref sd, .ref fi, .ref se, .ref enc, .ref dec, .ref wl, .ref wsp]))] (fun v_ w_ => ∃ zr : Int32, (∀ (β : Type) (k_ : Int32 → β), fn_wk_X10_take_n β k_ = k_ zr) ∧ v_ = some (.int zr) ∧ w_ = [(x, .inr (10, [.ref nu, .int (nI x_1), .ref pl, .ref tp, .ref sd, .ref fi, .ref se, .ref enc, .ref dec, .ref wl, .ref wsp]))]) := by
  refine Ev.intro (by decide) (Nat.le_of_ble_eq_true rfl) ?_
  intro X B hr hI
  have B : Bd E X cX10_take RX10 4 2 82 0 0 := B
  have hr : Rt E X (some .int) 0 0 (fun v_ w_ => ∃ zr : Int32, (∀ (β : Type) (k_ : Int32 → β), fn_wk_X10_take_n β k_ = k_ zr) ∧ v_ = some (.int zr) ∧ w_ = [(x, .inr (10, [.ref nu, .int (nI x_1), .ref pl, .ref tp, .ref sd, .ref fi, .ref se, .ref enc, .ref dec, .ref wl, .ref wsp]))]) := hr
  have e_ := fun (β : Type) (k_ : Int32 → β) => fn_wk_X10_take_n_s (β := β) (k_ := k_) 
  show G E X 4 [(x, .inr (10, [.ref nu, .int (nI x_1), .ref pl, .ref tp, .ref sd, .ref fi, .ref se, .ref enc, .ref dec, .ref wl, .ref wsp]))] 0 0 [(0, .ref x), (1, .int wh)] 0 []
  refine g_aload_n B dX10_take_0 rfl 0 rfl ?_
  refine g_iload_n B dX10_take_1 rfl 1 rfl ?_
  refine g_callV (st := []) (As := [.int wh]) (wr := []) (nc' := 0) (ns' := 0) B cl_X10_133 w_im_X10_fed w_se_X10_fed (wk_X10_fed_n E x nu pl tp sd fi se enc dec wl wsp (nI x_1) wh (by first | assumption | omega | decide) (by first | assumption | omega | decide)) rfl [0] [] rfl rfl (by decide) (by decide) (by decide) 0 rfl (fun q h => by cases h; rfl) rfl ⟨by decide, by decide⟩ rfl rfl (by decide) (by decide) rfl (Nat.le_of_ble_eq_true rfl) dX10_take_2 (fun v w hq => ?_)
  obtain ⟨rfl, rfl⟩ := hq
  show G E X 4 [(x, .inr (10, [.ref nu, .int (nI x_1), .ref pl, .ref tp, .ref sd, .ref fi, .ref se, .ref enc, .ref dec, .ref wl, .ref wsp]))] 0 0 [(0, .ref x), (1, .int wh)] 5 [.null]
  refine g_astore_nN (lv' := [(2, .null), (0, .ref x), (1, .int wh)]) B dX10_take_5 rfl (by decide) rfl ?_
  refine g_aload_n B dX10_take_6 rfl 1 rfl ?_
  refine g_iload_n B dX10_take_7 rfl 2 rfl ?_
  refine g_callV (st := []) (As := [.int wh]) (wr := []) (nc' := 0) (ns' := 0) B cl_X10_125 w_im_X10_pressed w_se_X10_pressed (wk_X10_pressed_n E x nu pl tp sd fi se enc dec wl wsp (nI x_1) wh (by first | assumption | omega | decide) (by first | assumption | omega | decide)) rfl [0] [] rfl rfl (by decide) (by decide) (by decide) 0 rfl (fun q h => by cases h; rfl) rfl ⟨by decide, by decide⟩ rfl rfl (by decide) (by decide) rfl (Nat.le_of_ble_eq_true rfl) dX10_take_8 (fun v w hq => ?_)
  obtain ⟨rfl, rfl⟩ := hq
  show G E X 4 [(x, .inr (10, [.ref nu, .int (nI x_1), .ref pl, .ref tp, .ref sd, .ref fi, .ref se, .ref enc, .ref dec, .ref wl, .ref wsp]))] 0 0 [(2, .null), (0, .ref x), (1, .int wh)] 11 [.null]
  refine g_astore_nN (lv' := [(3, .null), (2, .null), (0, .ref x), (1, .int wh)]) B dX10_take_11 rfl (by decide) rfl ?_
  refine g_aload_nN B dX10_take_12 rfl 1 rfl ?_
  refine g_ifnullN (tgt := 28) B dX10_take_13 (by decide) ?_
  refine g_iconst (v := (-1)) B dX10_take_28 (by decide) ?_
  exact g_iret B hr dX10_take_29 (by decide) (by decide) ⟨(-1), e_, rfl, rfl⟩
abbrev MX10_pass : g_M := (yX10_pass, cX10_pass, 3, (some .int))
theorem dX10_pass_0 : decode cX10_pass 0 = .ok (.aload_n 0, 1) := by decide +kernel
theorem dX10_pass_1 : decode cX10_pass 1 = .ok (.getfield 20, 3) := by decide +kernel
theorem dX10_pass_4 : decode cX10_pass 4 = .ok (.iload_n 1, 1) := by decide +kernel
theorem dX10_pass_5 : decode cX10_pass 5 = .ok (.iload_n 2, 1) := by decide +kernel
theorem dX10_pass_6 : decode cX10_pass 6 = .ok (.invokevirtual 71, 3) := by decide +kernel
theorem w_ml_X10_71 : Cond.methodLink RX10 71 yX7_add ∈ g_tbl := g_tbl_in 420 (by decide +kernel) (by decide +kernel)
theorem cl_X10_71 : CL RX10 71 2 MX7_add := ⟨w_ml_X10_71, w_cd_X7_add, w_ini_X7, by decide +kernel, by decide +kernel, by decide +kernel⟩
theorem dX10_pass_9 : decode cX10_pass 9 = .ok (.ifCond .eq 13, 3) := by decide +kernel
theorem dX10_pass_22 : decode cX10_pass 22 = .ok (.iconst (-1), 1) := by decide +kernel
theorem dX10_pass_23 : decode cX10_pass 23 = .ok (.ireturn, 1) := by decide +kernel
theorem dX10_pass_12 : decode cX10_pass 12 = .ok (.aload_n 0, 1) := by decide +kernel
theorem dX10_pass_13 : decode cX10_pass 13 = .ok (.getfield 20, 3) := by decide +kernel
theorem dX10_pass_16 : decode cX10_pass 16 = .ok (.getfield 75, 3) := by decide +kernel
theorem w_fl_X10_75 : Cond.fieldLink RX10 75 (TX7 2).1 (TX7 2).2.1 (TX7 2).2.2.1 ∈ g_tbl := g_tbl_in 108 (by decide +kernel) (by decide +kernel)
theorem fl_X10_75 : FL RX10 75 7 2 := ⟨RX7, TX7, 3, rfl, by decide, inX_X7, w_fl_X10_75⟩
theorem dX10_pass_19 : decode cX10_pass 19 = .ok (.goto 4, 3) := by decide +kernel
set_option maxRecDepth 100000 in
def fn_wk_X10_pass (pl_2 : Nat) (plt_f : Nat → Int32) (pld_f : Nat → Int32) (t : Int32) (d : Int32) (β : Type) (k_ : Nat → (Nat → Int32) → (Nat → Int32) → Int32 → β) : β := (fn_wk_X7_add pl_2 plt_f pld_f t d β (fun zp_2_1464 zte_f_1465 zde_f_1466 zr_1467 => (if zr_1467 = 0 then (k_ zp_2_1464 zte_f_1465 zde_f_1466 (-1)) else (k_ zp_2_1464 zte_f_1465 zde_f_1466 (nI zp_2_1464)))))
set_option maxRecDepth 100000 in
theorem fn_wk_X10_pass_s {pl_2 : Nat} {plt_f : Nat → Int32} {pld_f : Nat → Int32} {t : Int32} {d : Int32} {β : Type} {k_ : Nat → (Nat → Int32) → (Nat → Int32) → Int32 → β} : fn_wk_X10_pass pl_2 plt_f pld_f t d β k_ = (fn_wk_X7_add pl_2 plt_f pld_f t d β (fun zp_2_1464 zte_f_1465 zde_f_1466 zr_1467 => (if zr_1467 = 0 then (k_ zp_2_1464 zte_f_1465 zde_f_1466 (-1)) else (k_ zp_2_1464 zte_f_1465 zde_f_1466 (nI zp_2_1464))))) := rfl
set_option maxRecDepth 100000 in
set_option maxHeartbeats 4000000 in
theorem wk_X10_pass (E : g_E) (x : Nat) (nu : Nat) (pl : Nat) (tp : Nat) (sd : Nat) (fi : Nat) (se : Nat) (enc : Nat) (dec : Nat) (wl : Nat) (wsp : Nat) (plt : Nat) (pld : Nat) (x_1 : Nat) (pl_2 : Nat) (plt_f : Nat → Int32) (pld_f : Nat → Int32) (t : Int32) (d : Int32) (hk0 : x_1 ≤ 1200) (hp0 : pl_2 ≤ 8) : Ev E MX10_pass 2 42 0 0 [.ref x, .int t, .int d] [(x, .inr (10, [.ref nu, .int (nI x_1), .ref pl, .ref tp, .ref sd, .ref fi, .ref se, .ref enc, .ref dec, .ref wl, .ref wsp])), (pl, .inr (7, [.ref plt, .ref pld, .int (nI pl_2)])), (plt, .inl (E.2.2.1 0, 8, .inl plt_f)), (pld, .inl (E.2.2.1 0, 8, .inl pld_f))] (fun v_ w_ => ∃ zpl_2 : Nat, ∃ zplt_f : Nat → Int32, ∃ zpld_f : Nat → Int32, ∃ zr : Int32, (zpl_2 ≤ 8) ∧ (∀ (β : Type) (k_ : Nat → (Nat → Int32) → (Nat → Int32) → Int32 → β), fn_wk_X10_pass pl_2 plt_f pld_f t d β k_ = k_ zpl_2 zplt_f zpld_f zr) ∧ v_ = some (.int zr) ∧ w_ = [(x, .inr (10, [.ref nu, .int (nI x_1), .ref pl, .ref tp, .ref sd, .ref fi, .ref se, .ref enc, .ref dec, .ref wl, .ref wsp])), (pl, .inr (7, [.ref plt, .ref pld, .int (nI zpl_2)])), (plt, .inl (E.2.2.1 0, 8, .inl zplt_f)), (pld, .inl (E.2.2.1 0, 8, .inl zpld_f))]) := by
  refine Ev.intro (by decide) (Nat.le_of_ble_eq_true rfl) ?_
  intro X B hr hI
  have B : Bd E X cX10_pass RX10 3 2 42 0 0 := B
  have hr : Rt E X (some .int) 0 0 (fun v_ w_ => ∃ zpl_2 : Nat, ∃ zplt_f : Nat → Int32, ∃ zpld_f : Nat → Int32, ∃ zr : Int32, (zpl_2 ≤ 8) ∧ (∀ (β : Type) (k_ : Nat → (Nat → Int32) → (Nat → Int32) → Int32 → β), fn_wk_X10_pass pl_2 plt_f pld_f t d β k_ = k_ zpl_2 zplt_f zpld_f zr) ∧ v_ = some (.int zr) ∧ w_ = [(x, .inr (10, [.ref nu, .int (nI x_1), .ref pl, .ref tp, .ref sd, .ref fi, .ref se, .ref enc, .ref dec, .ref wl, .ref wsp])), (pl, .inr (7, [.ref plt, .ref pld, .int (nI zpl_2)])), (plt, .inl (E.2.2.1 0, 8, .inl zplt_f)), (pld, .inl (E.2.2.1 0, 8, .inl zpld_f))]) := hr
  have e_ := fun (β : Type) (k_ : Nat → (Nat → Int32) → (Nat → Int32) → Int32 → β) => fn_wk_X10_pass_s (β := β) (k_ := k_) (pl_2 := pl_2) (plt_f := plt_f) (pld_f := pld_f) (t := t) (d := d)
  show G E X 3 [(x, .inr (10, [.ref nu, .int (nI x_1), .ref pl, .ref tp, .ref sd, .ref fi, .ref se, .ref enc, .ref dec, .ref wl, .ref wsp])), (pl, .inr (7, [.ref plt, .ref pld, .int (nI pl_2)])), (plt, .inl (E.2.2.1 0, 8, .inl plt_f)), (pld, .inl (E.2.2.1 0, 8, .inl pld_f))] 0 0 [(0, .ref x), (1, .int t), (2, .int d)] 0 []
  refine g_aload_n B dX10_pass_0 rfl 0 rfl ?_
  refine g_get B 0 2 fl_X10_20 rfl rfl dX10_pass_1 ?_
  refine g_iload_n B dX10_pass_4 rfl 1 rfl ?_
  refine g_iload_n B dX10_pass_5 rfl 2 rfl ?_
  refine g_callV (st := []) (As := [.int t, .int d]) (wr := [(x, .inr (10, [.ref nu, .int (nI x_1), .ref pl, .ref tp, .ref sd, .ref fi, .ref se, .ref enc, .ref dec, .ref wl, .ref wsp]))]) (nc' := 0) (ns' := 0) B cl_X10_71 w_im_X7_add w_se_X7_add (wk_X7_add E pl plt pld pl_2 plt_f pld_f t d (by first | assumption | omega | decide)) rfl [1, 2, 3] [0] rfl rfl (by decide) (by decide) (by decide) 0 rfl (fun q h => by cases h; rfl) rfl ⟨by decide, by decide⟩ rfl rfl (by decide) (by decide) rfl (Nat.le_of_ble_eq_true rfl) dX10_pass_6 (fun v w hq => ?_)
  obtain ⟨zp_2_1464, zte_f_1465, zde_f_1466, zr_1467, hf_1468, hf_1469, hz_1470, rfl, rfl⟩ := hq
  replace e_ := fun β k_ => (e_ β k_).trans (hz_1470 β _)
  show G E X 3 [(x, .inr (10, [.ref nu, .int (nI x_1), .ref pl, .ref tp, .ref sd, .ref fi, .ref se, .ref enc, .ref dec, .ref wl, .ref wsp])), (pl, .inr (7, [.ref plt, .ref pld, .int (nI zp_2_1464)])), (plt, .inl (E.2.2.1 0, 8, .inl zte_f_1465)), (pld, .inl (E.2.2.1 0, 8, .inl zde_f_1466))] 0 0 [(0, .ref x), (1, .int t), (2, .int d)] 9 [.int zr_1467]
  refine g_if_eq (tgt := 22) B dX10_pass_9 (by decide) (fun c9_1471 => ?_) (fun c9_1471 => ?_)
  · replace e_ := fun β k_ => (e_ β k_).trans (if_pos c9_1471)
    refine g_iconst (v := (-1)) B dX10_pass_22 (by decide) ?_
    exact g_iret B hr dX10_pass_23 (by decide) (by decide) ⟨zp_2_1464, zte_f_1465, zde_f_1466, (-1), (by first | assumption | omega | decide), e_, rfl, rfl⟩
  · replace e_ := fun β k_ => (e_ β k_).trans (if_neg c9_1471)
    refine g_aload_n B dX10_pass_12 rfl 0 rfl ?_
    refine g_get B 0 2 fl_X10_20 rfl rfl dX10_pass_13 ?_
    refine g_get B 1 2 fl_X10_75 rfl rfl dX10_pass_16 ?_
    refine g_goto (tgt := 23) B dX10_pass_19 (by decide) ?_
    exact g_iret B hr dX10_pass_23 (by decide) (by decide) ⟨zp_2_1464, zte_f_1465, zde_f_1466, (nI zp_2_1464), (by first | assumption | omega | decide), e_, rfl, rfl⟩
abbrev MX10_unpass : g_M := (yX10_unpass, cX10_unpass, 2, (some .int))
theorem dX10_unpass_0 : decode cX10_unpass 0 = .ok (.aload_n 0, 1) := by decide +kernel
theorem dX10_unpass_1 : decode cX10_unpass 1 = .ok (.getfield 20, 3) := by decide +kernel
theorem dX10_unpass_4 : decode cX10_unpass 4 = .ok (.getfield 75, 3) := by decide +kernel
theorem dX10_unpass_7 : decode cX10_unpass 7 = .ok (.istore_n 1, 1) := by decide +kernel
theorem dX10_unpass_8 : decode cX10_unpass 8 = .ok (.aload_n 0, 1) := by decide +kernel
theorem dX10_unpass_9 : decode cX10_unpass 9 = .ok (.getfield 20, 3) := by decide +kernel
theorem dX10_unpass_12 : decode cX10_unpass 12 = .ok (.invokevirtual 78, 3) := by decide +kernel
theorem w_ml_X10_78 : Cond.methodLink RX10 78 yX7_clear ∈ g_tbl := g_tbl_in 431 (by decide +kernel) (by decide +kernel)
theorem cl_X10_78 : CL RX10 78 0 MX7_clear := ⟨w_ml_X10_78, w_cd_X7_clear, w_ini_X7, by decide +kernel, by decide +kernel, by decide +kernel⟩
theorem dX10_unpass_15 : decode cX10_unpass 15 = .ok (.iload_n 1, 1) := by decide +kernel
theorem dX10_unpass_16 : decode cX10_unpass 16 = .ok (.ireturn, 1) := by decide +kernel
set_option maxRecDepth 100000 in
def fn_wk_X10_unpass (pl_2 : Nat) (β : Type) (k_ : Nat → Int32 → β) : β := (fn_wk_X7_clear β (fun zp_2_1472 => (k_ zp_2_1472 (nI pl_2))))
set_option maxRecDepth 100000 in
theorem fn_wk_X10_unpass_s {pl_2 : Nat} {β : Type} {k_ : Nat → Int32 → β} : fn_wk_X10_unpass pl_2 β k_ = (fn_wk_X7_clear β (fun zp_2_1472 => (k_ zp_2_1472 (nI pl_2)))) := rfl
set_option maxRecDepth 100000 in
set_option maxHeartbeats 4000000 in
theorem wk_X10_unpass (E : g_E) (x : Nat) (nu : Nat) (pl : Nat) (tp : Nat) (sd : Nat) (fi : Nat) (se : Nat) (enc : Nat) (dec : Nat) (wl : Nat) (wsp : Nat) (plt : Nat) (pld : Nat) (x_1 : Nat) (pl_2 : Nat) (hk0 : x_1 ≤ 1200) (hp0 : pl_2 ≤ 8) : Ev E MX10_unpass 1 20 0 0 [.ref x] [(x, .inr (10, [.ref nu, .int (nI x_1), .ref pl, .ref tp, .ref sd, .ref fi, .ref se, .ref enc, .ref dec, .ref wl, .ref wsp])), (pl, .inr (7, [.ref plt, .ref pld, .int (nI pl_2)]))] (fun v_ w_ => ∃ zpl_2 : Nat, ∃ zr : Int32, (zpl_2 ≤ 8) ∧ (∀ (β : Type) (k_ : Nat → Int32 → β), fn_wk_X10_unpass pl_2 β k_ = k_ zpl_2 zr) ∧ v_ = some (.int zr) ∧ w_ = [(x, .inr (10, [.ref nu, .int (nI x_1), .ref pl, .ref tp, .ref sd, .ref fi, .ref se, .ref enc, .ref dec, .ref wl, .ref wsp])), (pl, .inr (7, [.ref plt, .ref pld, .int (nI zpl_2)]))]) := by
  refine Ev.intro (by decide) (Nat.le_of_ble_eq_true rfl) ?_
  intro X B hr hI
  have B : Bd E X cX10_unpass RX10 2 1 20 0 0 := B
  have hr : Rt E X (some .int) 0 0 (fun v_ w_ => ∃ zpl_2 : Nat, ∃ zr : Int32, (zpl_2 ≤ 8) ∧ (∀ (β : Type) (k_ : Nat → Int32 → β), fn_wk_X10_unpass pl_2 β k_ = k_ zpl_2 zr) ∧ v_ = some (.int zr) ∧ w_ = [(x, .inr (10, [.ref nu, .int (nI x_1), .ref pl, .ref tp, .ref sd, .ref fi, .ref se, .ref enc, .ref dec, .ref wl, .ref wsp])), (pl, .inr (7, [.ref plt, .ref pld, .int (nI zpl_2)]))]) := hr
  have e_ := fun (β : Type) (k_ : Nat → Int32 → β) => fn_wk_X10_unpass_s (β := β) (k_ := k_) (pl_2 := pl_2)
  show G E X 2 [(x, .inr (10, [.ref nu, .int (nI x_1), .ref pl, .ref tp, .ref sd, .ref fi, .ref se, .ref enc, .ref dec, .ref wl, .ref wsp])), (pl, .inr (7, [.ref plt, .ref pld, .int (nI pl_2)]))] 0 0 [(0, .ref x)] 0 []
  refine g_aload_n B dX10_unpass_0 rfl 0 rfl ?_
  refine g_get B 0 2 fl_X10_20 rfl rfl dX10_unpass_1 ?_
  refine g_get B 1 2 fl_X10_75 rfl rfl dX10_unpass_4 ?_
  refine g_istore_n (lv' := [(1, .int (nI pl_2)), (0, .ref x)]) B dX10_unpass_7 rfl (by decide) rfl ?_
  refine g_aload_n B dX10_unpass_8 rfl 1 rfl ?_
  refine g_get B 0 2 fl_X10_20 rfl rfl dX10_unpass_9 ?_
  refine g_callV (st := []) (As := []) (wr := [(x, .inr (10, [.ref nu, .int (nI x_1), .ref pl, .ref tp, .ref sd, .ref fi, .ref se, .ref enc, .ref dec, .ref wl, .ref wsp]))]) (nc' := 0) (ns' := 0) B cl_X10_78 w_im_X7_clear w_se_X7_clear (wk_X7_clear E pl plt pld pl_2 (by first | assumption | omega | decide)) rfl [1] [0] rfl rfl (by decide) (by decide) (by decide) 0 rfl (fun q h => by cases h; rfl) rfl ⟨by decide, by decide⟩ rfl rfl (by decide) (by decide) rfl (Nat.le_of_ble_eq_true rfl) dX10_unpass_12 (fun v w hq => ?_)
  obtain ⟨zp_2_1472, hf_1473, hz_1474, rfl, rfl⟩ := hq
  replace e_ := fun β k_ => (e_ β k_).trans (hz_1474 β _)
  show G E X 2 [(x, .inr (10, [.ref nu, .int (nI x_1), .ref pl, .ref tp, .ref sd, .ref fi, .ref se, .ref enc, .ref dec, .ref wl, .ref wsp])), (pl, .inr (7, [.ref plt, .ref pld, .int (nI zp_2_1472)]))] 0 0 [(1, .int (nI pl_2)), (0, .ref x)] 15 []
  refine g_iload_n B dX10_unpass_15 rfl 0 rfl ?_
  exact g_iret B hr dX10_unpass_16 (by decide) (by decide) ⟨zp_2_1472, (nI pl_2), (by first | assumption | omega | decide), e_, rfl, rfl⟩
abbrev MX10_look : g_M := (yX10_look, cX10_look, 2, (some .int))
theorem dX10_look_0 : decode cX10_look 0 = .ok (.aload_n 0, 1) := by decide +kernel
theorem dX10_look_1 : decode cX10_look 1 = .ok (.getfield 64, 3) := by decide +kernel
theorem dX10_look_4 : decode cX10_look 4 = .ok (.iload_n 1, 1) := by decide +kernel
theorem dX10_look_5 : decode cX10_look 5 = .ok (.invokevirtual 169, 3) := by decide +kernel
theorem w_ml_X10_169 : Cond.methodLink RX10 169 yX9_tell ∈ g_tbl := g_tbl_in 854 (by decide +kernel) (by decide +kernel)
theorem w_cd_X9_tell : g_cw MX9_tell ∈ g_tbl := g_tbl_in 857 (by decide +kernel) (by decide +kernel)
theorem cl_X10_169 : CL RX10 169 1 MX9_tell := ⟨w_ml_X10_169, w_cd_X9_tell, w_ini_X9, by decide +kernel, by decide +kernel, by decide +kernel⟩
theorem w_im_X9_tell : Cond.instanceMethod yX9_tell ∈ g_tbl := g_tbl_in 855 (by decide +kernel) (by decide +kernel)
theorem w_se_X9_tell : Cond.selects RX9 yX9_tell yX9_tell ∈ g_tbl := g_tbl_in 856 (by decide +kernel) (by decide +kernel)
theorem dX10_look_8 : decode cX10_look 8 = .ok (.ireturn, 1) := by decide +kernel
set_option maxRecDepth 100000 in
def fn_wk_X10_look (wl_2 : Nat) (wl_4 : Nat) (wl_5 : Int32) (wl_6 : Int32) (wl_7 : Int32) (wl_8 : Int32) (wl_9 : Int32) (wl_10 : Int32) (wl_11 : Int32) (l_p_2 : Nat) (wh : Int32) (β : Type) (k_ : Int32 → β) : β := (fn_wk_X9_tell wl_2 wl_4 wl_5 wl_6 wl_7 wl_8 wl_9 wl_10 wl_11 l_p_2 wh β (fun zr_1475 => (k_ zr_1475)))
set_option maxRecDepth 100000 in
theorem fn_wk_X10_look_s {wl_2 : Nat} {wl_4 : Nat} {wl_5 : Int32} {wl_6 : Int32} {wl_7 : Int32} {wl_8 : Int32} {wl_9 : Int32} {wl_10 : Int32} {wl_11 : Int32} {l_p_2 : Nat} {wh : Int32} {β : Type} {k_ : Int32 → β} : fn_wk_X10_look wl_2 wl_4 wl_5 wl_6 wl_7 wl_8 wl_9 wl_10 wl_11 l_p_2 wh β k_ = (fn_wk_X9_tell wl_2 wl_4 wl_5 wl_6 wl_7 wl_8 wl_9 wl_10 wl_11 l_p_2 wh β (fun zr_1475 => (k_ zr_1475))) := rfl
set_option maxRecDepth 100000 in
set_option maxHeartbeats 4000000 in
theorem wk_X10_look (E : g_E) (x : Nat) (nu : Nat) (pl : Nat) (tp : Nat) (sd : Nat) (fi : Nat) (se : Nat) (enc : Nat) (dec : Nat) (wl : Nat) (wsp : Nat) (l_ps : Nat) (l_md : Nat) (l_p : Nat) (l_we : Nat) (l_inp : Nat) (l_ba : Nat) (l_gu : Nat) (l_te : Nat) (l_de : Nat) (x_1 : Nat) (wl_2 : Nat) (wl_3 : Nat) (wl_4 : Nat) (wl_5 : Int32) (wl_6 : Int32) (wl_7 : Int32) (wl_8 : Int32) (wl_9 : Int32) (wl_10 : Int32) (wl_11 : Int32) (l_ps_5 : Int32) (l_ps_6 : Int32) (l_ps_7 : Int32) (l_p_2 : Nat) (wh : Int32) (hk0 : x_1 ≤ 1200) (hk1 : wl_2 ≤ 2) (hk2 : wl_3 ≤ 2) (hk3 : wl_4 ≤ 600) (hk4 : l_p_2 ≤ 8) : Ev E MX10_look 1 21 0 0 [.ref x, .int wh] [(x, .inr (10, [.ref nu, .int (nI x_1), .ref pl, .ref tp, .ref sd, .ref fi, .ref se, .ref enc, .ref dec, .ref wl, .ref wsp])), (wl, .inr (9, [.ref l_ps, .ref l_md, .int (nI wl_2), .int (nI wl_3), .int (nI wl_4), .int wl_5, .int wl_6, .int wl_7, .int wl_8, .int wl_9, .int wl_10, .int wl_11])), (l_ps, .inr (6, [.ref l_p, .ref l_we, .ref l_inp, .ref l_ba, .ref l_gu, .int l_ps_5, .int l_ps_6, .int l_ps_7])), (l_p, .inr (7, [.ref l_te, .ref l_de, .int (nI l_p_2)]))] (fun v_ w_ => ∃ zr : Int32, (∀ (β : Type) (k_ : Int32 → β), fn_wk_X10_look wl_2 wl_4 wl_5 wl_6 wl_7 wl_8 wl_9 wl_10 wl_11 l_p_2 wh β k_ = k_ zr) ∧ v_ = some (.int zr) ∧ w_ = [(x, .inr (10, [.ref nu, .int (nI x_1), .ref pl, .ref tp, .ref sd, .ref fi, .ref se, .ref enc, .ref dec, .ref wl, .ref wsp])), (wl, .inr (9, [.ref l_ps, .ref l_md, .int (nI wl_2), .int (nI wl_3), .int (nI wl_4), .int wl_5, .int wl_6, .int wl_7, .int wl_8, .int wl_9, .int wl_10, .int wl_11])), (l_ps, .inr (6, [.ref l_p, .ref l_we, .ref l_inp, .ref l_ba, .ref l_gu, .int l_ps_5, .int l_ps_6, .int l_ps_7])), (l_p, .inr (7, [.ref l_te, .ref l_de, .int (nI l_p_2)]))]) := by
  refine Ev.intro (by decide) (Nat.le_of_ble_eq_true rfl) ?_
  intro X B hr hI
  have B : Bd E X cX10_look RX10 2 1 21 0 0 := B
  have hr : Rt E X (some .int) 0 0 (fun v_ w_ => ∃ zr : Int32, (∀ (β : Type) (k_ : Int32 → β), fn_wk_X10_look wl_2 wl_4 wl_5 wl_6 wl_7 wl_8 wl_9 wl_10 wl_11 l_p_2 wh β k_ = k_ zr) ∧ v_ = some (.int zr) ∧ w_ = [(x, .inr (10, [.ref nu, .int (nI x_1), .ref pl, .ref tp, .ref sd, .ref fi, .ref se, .ref enc, .ref dec, .ref wl, .ref wsp])), (wl, .inr (9, [.ref l_ps, .ref l_md, .int (nI wl_2), .int (nI wl_3), .int (nI wl_4), .int wl_5, .int wl_6, .int wl_7, .int wl_8, .int wl_9, .int wl_10, .int wl_11])), (l_ps, .inr (6, [.ref l_p, .ref l_we, .ref l_inp, .ref l_ba, .ref l_gu, .int l_ps_5, .int l_ps_6, .int l_ps_7])), (l_p, .inr (7, [.ref l_te, .ref l_de, .int (nI l_p_2)]))]) := hr
  have e_ := fun (β : Type) (k_ : Int32 → β) => fn_wk_X10_look_s (β := β) (k_ := k_) (wl_2 := wl_2) (wl_4 := wl_4) (wl_5 := wl_5) (wl_6 := wl_6) (wl_7 := wl_7) (wl_8 := wl_8) (wl_9 := wl_9) (wl_10 := wl_10) (wl_11 := wl_11) (l_p_2 := l_p_2) (wh := wh)
  show G E X 2 [(x, .inr (10, [.ref nu, .int (nI x_1), .ref pl, .ref tp, .ref sd, .ref fi, .ref se, .ref enc, .ref dec, .ref wl, .ref wsp])), (wl, .inr (9, [.ref l_ps, .ref l_md, .int (nI wl_2), .int (nI wl_3), .int (nI wl_4), .int wl_5, .int wl_6, .int wl_7, .int wl_8, .int wl_9, .int wl_10, .int wl_11])), (l_ps, .inr (6, [.ref l_p, .ref l_we, .ref l_inp, .ref l_ba, .ref l_gu, .int l_ps_5, .int l_ps_6, .int l_ps_7])), (l_p, .inr (7, [.ref l_te, .ref l_de, .int (nI l_p_2)]))] 0 0 [(0, .ref x), (1, .int wh)] 0 []
  refine g_aload_n B dX10_look_0 rfl 0 rfl ?_
  refine g_get B 0 9 fl_X10_64 rfl rfl dX10_look_1 ?_
  refine g_iload_n B dX10_look_4 rfl 1 rfl ?_
  refine g_callV (st := []) (As := [.int wh]) (wr := [(x, .inr (10, [.ref nu, .int (nI x_1), .ref pl, .ref tp, .ref sd, .ref fi, .ref se, .ref enc, .ref dec, .ref wl, .ref wsp]))]) (nc' := 0) (ns' := 0) B cl_X10_169 w_im_X9_tell w_se_X9_tell (wk_X9_tell E wl l_ps l_md l_p l_we l_inp l_ba l_gu l_te l_de wl_2 wl_3 wl_4 wl_5 wl_6 wl_7 wl_8 wl_9 wl_10 wl_11 l_ps_5 l_ps_6 l_ps_7 l_p_2 wh (by first | assumption | omega | decide) (by first | assumption | omega | decide) (by first | assumption | omega | decide) (by first | assumption | omega | decide)) rfl [1, 2, 3] [0] rfl rfl (by decide) (by decide) (by decide) 0 rfl (fun q h => by cases h; rfl) rfl ⟨by decide, by decide⟩ rfl rfl (by decide) (by decide) rfl (Nat.le_of_ble_eq_true rfl) dX10_look_5 (fun v w hq => ?_)
  obtain ⟨zr_1475, hz_1476, rfl, rfl⟩ := hq
  replace e_ := fun β k_ => (e_ β k_).trans (hz_1476 β _)
  show G E X 2 [(x, .inr (10, [.ref nu, .int (nI x_1), .ref pl, .ref tp, .ref sd, .ref fi, .ref se, .ref enc, .ref dec, .ref wl, .ref wsp])), (wl, .inr (9, [.ref l_ps, .ref l_md, .int (nI wl_2), .int (nI wl_3), .int (nI wl_4), .int wl_5, .int wl_6, .int wl_7, .int wl_8, .int wl_9, .int wl_10, .int wl_11])), (l_ps, .inr (6, [.ref l_p, .ref l_we, .ref l_inp, .ref l_ba, .ref l_gu, .int l_ps_5, .int l_ps_6, .int l_ps_7])), (l_p, .inr (7, [.ref l_te, .ref l_de, .int (nI l_p_2)]))] 0 0 [(0, .ref x), (1, .int wh)] 8 [.int zr_1475]
  exact g_iret B hr dX10_look_8 (by decide) (by decide) ⟨zr_1475, e_, rfl, rfl⟩
abbrev MX10_weight : g_M := (yX10_weight, cX10_weight, 3, (some .int))
theorem dX10_weight_0 : decode cX10_weight 0 = .ok (.iload_n 2, 1) := by decide +kernel
theorem dX10_weight_1 : decode cX10_weight 1 = .ok (.ifCond .lt 35, 3) := by decide +kernel
theorem dX10_weight_36 : decode cX10_weight 36 = .ok (.iconst 0, 1) := by decide +kernel
theorem dX10_weight_37 : decode cX10_weight 37 = .ok (.ireturn, 1) := by decide +kernel
theorem dX10_weight_4 : decode cX10_weight 4 = .ok (.iload_n 2, 1) := by decide +kernel
theorem dX10_weight_5 : decode cX10_weight 5 = .ok (.aload_n 0, 1) := by decide +kernel
theorem dX10_weight_6 : decode cX10_weight 6 = .ok (.getfield 64, 3) := by decide +kernel
theorem dX10_weight_9 : decode cX10_weight 9 = .ok (.getfield 172, 3) := by decide +kernel
theorem w_fl_X10_172 : Cond.fieldLink RX10 172 (TX9 3).1 (TX9 3).2.1 (TX9 3).2.2.1 ∈ g_tbl := g_tbl_in 323 (by decide +kernel) (by decide +kernel)
theorem fl_X10_172 : FL RX10 172 9 3 := ⟨RX9, TX9, 12, rfl, by decide, inX_X9, w_fl_X10_172⟩
theorem dX10_weight_12 : decode cX10_weight 12 = .ok (.if_icmp .ge 24, 3) := by decide +kernel
theorem dX10_weight_15 : decode cX10_weight 15 = .ok (.iload_n 1, 1) := by decide +kernel
theorem dX10_weight_16 : decode cX10_weight 16 = .ok (.ifCond .lt 20, 3) := by decide +kernel
theorem dX10_weight_19 : decode cX10_weight 19 = .ok (.iload_n 1, 1) := by decide +kernel
theorem dX10_weight_20 : decode cX10_weight 20 = .ok (.aload_n 0, 1) := by decide +kernel
theorem dX10_weight_21 : decode cX10_weight 21 = .ok (.getfield 64, 3) := by decide +kernel
theorem dX10_weight_24 : decode cX10_weight 24 = .ok (.getfield 90, 3) := by decide +kernel
theorem w_fl_X10_90 : Cond.fieldLink RX10 90 (TX9 0).1 (TX9 0).2.1 (TX9 0).2.2.1 ∈ g_tbl := g_tbl_in 312 (by decide +kernel) (by decide +kernel)
theorem fl_X10_90 : FL RX10 90 9 0 := ⟨RX9, TX9, 12, rfl, by decide, inX_X9, w_fl_X10_90⟩
theorem dX10_weight_27 : decode cX10_weight 27 = .ok (.getfield 94, 3) := by decide +kernel
theorem w_fl_X10_94 : Cond.fieldLink RX10 94 (TX6 0).1 (TX6 0).2.1 (TX6 0).2.2.1 ∈ g_tbl := g_tbl_in 264 (by decide +kernel) (by decide +kernel)
theorem fl_X10_94 : FL RX10 94 6 0 := ⟨RX6, TX6, 8, rfl, by decide, inX_X6, w_fl_X10_94⟩
theorem dX10_weight_30 : decode cX10_weight 30 = .ok (.getfield 75, 3) := by decide +kernel
theorem dX10_weight_33 : decode cX10_weight 33 = .ok (.if_icmp .lt 5, 3) := by decide +kernel
theorem dX10_weight_38 : decode cX10_weight 38 = .ok (.aload_n 0, 1) := by decide +kernel
theorem dX10_weight_39 : decode cX10_weight 39 = .ok (.getfield 64, 3) := by decide +kernel
theorem dX10_weight_42 : decode cX10_weight 42 = .ok (.getfield 90, 3) := by decide +kernel
theorem dX10_weight_45 : decode cX10_weight 45 = .ok (.iload_n 1, 1) := by decide +kernel
theorem dX10_weight_46 : decode cX10_weight 46 = .ok (.iload_n 2, 1) := by decide +kernel
theorem dX10_weight_47 : decode cX10_weight 47 = .ok (.invokevirtual 175, 3) := by decide +kernel
theorem w_ml_X10_175 : Cond.methodLink RX10 175 yX6_weightOf ∈ g_tbl := g_tbl_in 862 (by decide +kernel) (by decide +kernel)
theorem cl_X10_175 : CL RX10 175 2 MX6_weightOf := ⟨w_ml_X10_175, w_cd_X6_weightOf, w_ini_X6, by decide +kernel, by decide +kernel, by decide +kernel⟩
theorem dX10_weight_50 : decode cX10_weight 50 = .ok (.ireturn, 1) := by decide +kernel
set_option maxRecDepth 100000 in
def fn_wk_X10_weight (wl_3 : Nat) (l_p_2 : Nat) (l_we_f : Nat → Int32) (a1 : Int32) (a2 : Int32) (β : Type) (k_ : Int32 → β) : β := (if a2 < 0 then (k_ 0) else (if nI wl_3 ≤ a2 then (k_ 0) else (if a1 < 0 then (k_ 0) else (if a1 < nI l_p_2 then (fn_wk_X6_weightOf l_we_f a1 a2 β (fun zr_1481 => (k_ zr_1481))) else (k_ 0)))))
set_option maxRecDepth 100000 in
theorem fn_wk_X10_weight_s {wl_3 : Nat} {l_p_2 : Nat} {l_we_f : Nat → Int32} {a1 : Int32} {a2 : Int32} {β : Type} {k_ : Int32 → β} : fn_wk_X10_weight wl_3 l_p_2 l_we_f a1 a2 β k_ = (if a2 < 0 then (k_ 0) else (if nI wl_3 ≤ a2 then (k_ 0) else (if a1 < 0 then (k_ 0) else (if a1 < nI l_p_2 then (fn_wk_X6_weightOf l_we_f a1 a2 β (fun zr_1481 => (k_ zr_1481))) else (k_ 0))))) := rfl
set_option maxRecDepth 100000 in
set_option maxHeartbeats 4000000 in
theorem wk_X10_weight (E : g_E) (x : Nat) (nu : Nat) (pl : Nat) (tp : Nat) (sd : Nat) (fi : Nat) (se : Nat) (enc : Nat) (dec : Nat) (wl : Nat) (wsp : Nat) (l_ps : Nat) (l_md : Nat) (l_p : Nat) (l_we : Nat) (l_inp : Nat) (l_ba : Nat) (l_gu : Nat) (l_te : Nat) (l_de : Nat) (x_1 : Nat) (wl_2 : Nat) (wl_3 : Nat) (wl_4 : Nat) (wl_5 : Int32) (wl_6 : Int32) (wl_7 : Int32) (wl_8 : Int32) (wl_9 : Int32) (wl_10 : Int32) (wl_11 : Int32) (l_ps_5 : Int32) (l_ps_6 : Int32) (l_ps_7 : Int32) (l_p_2 : Nat) (l_we_f : Nat → Int32) (a1 : Int32) (a2 : Int32) (hk0 : x_1 ≤ 1200) (hk1 : wl_2 ≤ 2) (hk2 : wl_3 ≤ 2) (hk3 : wl_4 ≤ 600) (hk4 : l_p_2 ≤ 8) : Ev E MX10_weight 2 44 0 0 [.ref x, .int a1, .int a2] [(x, .inr (10, [.ref nu, .int (nI x_1), .ref pl, .ref tp, .ref sd, .ref fi, .ref se, .ref enc, .ref dec, .ref wl, .ref wsp])), (wl, .inr (9, [.ref l_ps, .ref l_md, .int (nI wl_2), .int (nI wl_3), .int (nI wl_4), .int wl_5, .int wl_6, .int wl_7, .int wl_8, .int wl_9, .int wl_10, .int wl_11])), (l_ps, .inr (6, [.ref l_p, .ref l_we, .ref l_inp, .ref l_ba, .ref l_gu, .int l_ps_5, .int l_ps_6, .int l_ps_7])), (l_p, .inr (7, [.ref l_te, .ref l_de, .int (nI l_p_2)])), (l_we, .inl (E.2.2.1 0, 16, .inl l_we_f))] (fun v_ w_ => ∃ zr : Int32, (∀ (β : Type) (k_ : Int32 → β), fn_wk_X10_weight wl_3 l_p_2 l_we_f a1 a2 β k_ = k_ zr) ∧ v_ = some (.int zr) ∧ w_ = [(x, .inr (10, [.ref nu, .int (nI x_1), .ref pl, .ref tp, .ref sd, .ref fi, .ref se, .ref enc, .ref dec, .ref wl, .ref wsp])), (wl, .inr (9, [.ref l_ps, .ref l_md, .int (nI wl_2), .int (nI wl_3), .int (nI wl_4), .int wl_5, .int wl_6, .int wl_7, .int wl_8, .int wl_9, .int wl_10, .int wl_11])), (l_ps, .inr (6, [.ref l_p, .ref l_we, .ref l_inp, .ref l_ba, .ref l_gu, .int l_ps_5, .int l_ps_6, .int l_ps_7])), (l_p, .inr (7, [.ref l_te, .ref l_de, .int (nI l_p_2)])), (l_we, .inl (E.2.2.1 0, 16, .inl l_we_f))]) := by
  refine Ev.intro (by decide) (Nat.le_of_ble_eq_true rfl) ?_
  intro X B hr hI
  have B : Bd E X cX10_weight RX10 3 2 44 0 0 := B
  have hr : Rt E X (some .int) 0 0 (fun v_ w_ => ∃ zr : Int32, (∀ (β : Type) (k_ : Int32 → β), fn_wk_X10_weight wl_3 l_p_2 l_we_f a1 a2 β k_ = k_ zr) ∧ v_ = some (.int zr) ∧ w_ = [(x, .inr (10, [.ref nu, .int (nI x_1), .ref pl, .ref tp, .ref sd, .ref fi, .ref se, .ref enc, .ref dec, .ref wl, .ref wsp])), (wl, .inr (9, [.ref l_ps, .ref l_md, .int (nI wl_2), .int (nI wl_3), .int (nI wl_4), .int wl_5, .int wl_6, .int wl_7, .int wl_8, .int wl_9, .int wl_10, .int wl_11])), (l_ps, .inr (6, [.ref l_p, .ref l_we, .ref l_inp, .ref l_ba, .ref l_gu, .int l_ps_5, .int l_ps_6, .int l_ps_7])), (l_p, .inr (7, [.ref l_te, .ref l_de, .int (nI l_p_2)])), (l_we, .inl (E.2.2.1 0, 16, .inl l_we_f))]) := hr
  have e_ := fun (β : Type) (k_ : Int32 → β) => fn_wk_X10_weight_s (β := β) (k_ := k_) (wl_3 := wl_3) (l_p_2 := l_p_2) (l_we_f := l_we_f) (a1 := a1) (a2 := a2)
  show G E X 3 [(x, .inr (10, [.ref nu, .int (nI x_1), .ref pl, .ref tp, .ref sd, .ref fi, .ref se, .ref enc, .ref dec, .ref wl, .ref wsp])), (wl, .inr (9, [.ref l_ps, .ref l_md, .int (nI wl_2), .int (nI wl_3), .int (nI wl_4), .int wl_5, .int wl_6, .int wl_7, .int wl_8, .int wl_9, .int wl_10, .int wl_11])), (l_ps, .inr (6, [.ref l_p, .ref l_we, .ref l_inp, .ref l_ba, .ref l_gu, .int l_ps_5, .int l_ps_6, .int l_ps_7])), (l_p, .inr (7, [.ref l_te, .ref l_de, .int (nI l_p_2)])), (l_we, .inl (E.2.2.1 0, 16, .inl l_we_f))] 0 0 [(0, .ref x), (1, .int a1), (2, .int a2)] 0 []
  refine g_iload_n B dX10_weight_0 rfl 2 rfl ?_
  refine g_if_lt (tgt := 36) B dX10_weight_1 (by decide) (fun c1_1477 => ?_) (fun c1_1477 => ?_)
  · replace e_ := fun β k_ => (e_ β k_).trans (if_pos c1_1477)
    refine g_iconst (v := 0) B dX10_weight_36 (by decide) ?_
    exact g_iret B hr dX10_weight_37 (by decide) (by decide) ⟨0, e_, rfl, rfl⟩
  · replace e_ := fun β k_ => (e_ β k_).trans (if_neg c1_1477)
    refine g_iload_n B dX10_weight_4 rfl 2 rfl ?_
    refine g_aload_n B dX10_weight_5 rfl 0 rfl ?_
    refine g_get B 0 9 fl_X10_64 rfl rfl dX10_weight_6 ?_
    refine g_get B 1 3 fl_X10_172 rfl rfl dX10_weight_9 ?_
    refine g_icmp_ge (tgt := 36) B dX10_weight_12 (by decide) (fun c12_1478 => ?_) (fun c12_1478 => ?_)
    · replace e_ := fun β k_ => (e_ β k_).trans (if_pos c12_1478)
      refine g_iconst (v := 0) B dX10_weight_36 (by decide) ?_
      exact g_iret B hr dX10_weight_37 (by decide) (by decide) ⟨0, e_, rfl, rfl⟩
    · replace e_ := fun β k_ => (e_ β k_).trans (if_neg c12_1478)
      refine g_iload_n B dX10_weight_15 rfl 1 rfl ?_
      refine g_if_lt (tgt := 36) B dX10_weight_16 (by decide) (fun c16_1479 => ?_) (fun c16_1479 => ?_)
      · replace e_ := fun β k_ => (e_ β k_).trans (if_pos c16_1479)
        refine g_iconst (v := 0) B dX10_weight_36 (by decide) ?_
        exact g_iret B hr dX10_weight_37 (by decide) (by decide) ⟨0, e_, rfl, rfl⟩
      · replace e_ := fun β k_ => (e_ β k_).trans (if_neg c16_1479)
        refine g_iload_n B dX10_weight_19 rfl 1 rfl ?_
        refine g_aload_n B dX10_weight_20 rfl 0 rfl ?_
        refine g_get B 0 9 fl_X10_64 rfl rfl dX10_weight_21 ?_
        refine g_get B 1 0 fl_X10_90 rfl rfl dX10_weight_24 ?_
        refine g_get B 2 0 fl_X10_94 rfl rfl dX10_weight_27 ?_
        refine g_get B 3 2 fl_X10_75 rfl rfl dX10_weight_30 ?_
        refine g_icmp_lt (tgt := 38) B dX10_weight_33 (by decide) (fun c33_1480 => ?_) (fun c33_1480 => ?_)
        · replace e_ := fun β k_ => (e_ β k_).trans (if_pos c33_1480)
          refine g_aload_n B dX10_weight_38 rfl 0 rfl ?_
          refine g_get B 0 9 fl_X10_64 rfl rfl dX10_weight_39 ?_
          refine g_get B 1 0 fl_X10_90 rfl rfl dX10_weight_42 ?_
          refine g_iload_n B dX10_weight_45 rfl 1 rfl ?_
          refine g_iload_n B dX10_weight_46 rfl 2 rfl ?_
          refine g_callV (st := []) (As := [.int a1, .int a2]) (wr := [(x, .inr (10, [.ref nu, .int (nI x_1), .ref pl, .ref tp, .ref sd, .ref fi, .ref se, .ref enc, .ref dec, .ref wl, .ref wsp])), (wl, .inr (9, [.ref l_ps, .ref l_md, .int (nI wl_2), .int (nI wl_3), .int (nI wl_4), .int wl_5, .int wl_6, .int wl_7, .int wl_8, .int wl_9, .int wl_10, .int wl_11])), (l_p, .inr (7, [.ref l_te, .ref l_de, .int (nI l_p_2)]))]) (nc' := 0) (ns' := 0) B cl_X10_175 w_im_X6_weightOf w_se_X6_weightOf (wk_X6_weightOf E l_ps l_p l_we l_inp l_ba l_gu l_ps_5 l_ps_6 l_ps_7 l_we_f a1 a2 ) rfl [2, 4] [0, 1, 3] rfl rfl (by decide) (by decide) (by decide) 0 rfl (fun q h => by cases h; rfl) rfl ⟨by decide, by decide⟩ rfl rfl (by decide) (by decide) rfl (Nat.le_of_ble_eq_true rfl) dX10_weight_47 (fun v w hq => ?_)
          obtain ⟨zr_1481, hz_1482, rfl, rfl⟩ := hq
          replace e_ := fun β k_ => (e_ β k_).trans (hz_1482 β _)
          show G E X 3 [(x, .inr (10, [.ref nu, .int (nI x_1), .ref pl, .ref tp, .ref sd, .ref fi, .ref se, .ref enc, .ref dec, .ref wl, .ref wsp])), (wl, .inr (9, [.ref l_ps, .ref l_md, .int (nI wl_2), .int (nI wl_3), .int (nI wl_4), .int wl_5, .int wl_6, .int wl_7, .int wl_8, .int wl_9, .int wl_10, .int wl_11])), (l_p, .inr (7, [.ref l_te, .ref l_de, .int (nI l_p_2)])), (l_ps, .inr (6, [.ref l_p, .ref l_we, .ref l_inp, .ref l_ba, .ref l_gu, .int l_ps_5, .int l_ps_6, .int l_ps_7])), (l_we, .inl (E.2.2.1 0, 16, .inl l_we_f))] 0 0 [(0, .ref x), (1, .int a1), (2, .int a2)] 50 [.int zr_1481]
          refine g_sub (ws' := [(x, .inr (10, [.ref nu, .int (nI x_1), .ref pl, .ref tp, .ref sd, .ref fi, .ref se, .ref enc, .ref dec, .ref wl, .ref wsp])), (wl, .inr (9, [.ref l_ps, .ref l_md, .int (nI wl_2), .int (nI wl_3), .int (nI wl_4), .int wl_5, .int wl_6, .int wl_7, .int wl_8, .int wl_9, .int wl_10, .int wl_11])), (l_ps, .inr (6, [.ref l_p, .ref l_we, .ref l_inp, .ref l_ba, .ref l_gu, .int l_ps_5, .int l_ps_6, .int l_ps_7])), (l_p, .inr (7, [.ref l_te, .ref l_de, .int (nI l_p_2)])), (l_we, .inl (E.2.2.1 0, 16, .inl l_we_f))]) [0, 1, 3, 2, 4] (by decide) rfl ?_
          exact g_iret B hr dX10_weight_50 (by decide) (by decide) ⟨zr_1481, e_, rfl, rfl⟩
        · replace e_ := fun β k_ => (e_ β k_).trans (if_neg c33_1480)
          refine g_iconst (v := 0) B dX10_weight_36 (by decide) ?_
          exact g_iret B hr dX10_weight_37 (by decide) (by decide) ⟨0, e_, rfl, rfl⟩
abbrev MX10_median : g_M := (yX10_median, cX10_median, 3, (some .long))
theorem dX10_median_0 : decode cX10_median 0 = .ok (.iload_n 1, 1) := by decide +kernel
theorem dX10_median_1 : decode cX10_median 1 = .ok (.ifCond .lt 23, 3) := by decide +kernel
theorem dX10_median_24 : decode cX10_median 24 = .ok (.lconst 0, 1) := by decide +kernel
theorem dX10_median_25 : decode cX10_median 25 = .ok (.lreturn, 1) := by decide +kernel
theorem dX10_median_4 : decode cX10_median 4 = .ok (.iload_n 1, 1) := by decide +kernel
theorem dX10_median_5 : decode cX10_median 5 = .ok (.aload_n 0, 1) := by decide +kernel
theorem dX10_median_6 : decode cX10_median 6 = .ok (.getfield 64, 3) := by decide +kernel
theorem dX10_median_9 : decode cX10_median 9 = .ok (.getfield 172, 3) := by decide +kernel
theorem dX10_median_12 : decode cX10_median 12 = .ok (.if_icmp .ge 12, 3) := by decide +kernel
theorem dX10_median_15 : decode cX10_median 15 = .ok (.iload_n 2, 1) := by decide +kernel
theorem dX10_median_16 : decode cX10_median 16 = .ok (.ifCond .lt 8, 3) := by decide +kernel
theorem dX10_median_19 : decode cX10_median 19 = .ok (.iload_n 2, 1) := by decide +kernel
theorem dX10_median_20 : decode cX10_median 20 = .ok (.iconst 2, 1) := by decide +kernel
theorem dX10_median_21 : decode cX10_median 21 = .ok (.if_icmp .le 5, 3) := by decide +kernel
theorem dX10_median_26 : decode cX10_median 26 = .ok (.aload_n 0, 1) := by decide +kernel
theorem dX10_median_27 : decode cX10_median 27 = .ok (.getfield 64, 3) := by decide +kernel
theorem dX10_median_30 : decode cX10_median 30 = .ok (.getfield 179, 3) := by decide +kernel
theorem w_fl_X10_179 : Cond.fieldLink RX10 179 (TX9 1).1 (TX9 1).2.1 (TX9 1).2.2.1 ∈ g_tbl := g_tbl_in 316 (by decide +kernel) (by decide +kernel)
theorem fl_X10_179 : FL RX10 179 9 1 := ⟨RX9, TX9, 12, rfl, by decide, inX_X9, w_fl_X10_179⟩
theorem dX10_median_33 : decode cX10_median 33 = .ok (.iload_n 1, 1) := by decide +kernel
theorem dX10_median_34 : decode cX10_median 34 = .ok (.iload_n 2, 1) := by decide +kernel
theorem dX10_median_35 : decode cX10_median 35 = .ok (.invokevirtual 183, 3) := by decide +kernel
theorem w_ml_X10_183 : Cond.methodLink RX10 183 yX5_middleOf ∈ g_tbl := g_tbl_in 867 (by decide +kernel) (by decide +kernel)
theorem cl_X10_183 : CL RX10 183 2 MX5_middleOf := ⟨w_ml_X10_183, w_cd_X5_middleOf, w_ini_X5, by decide +kernel, by decide +kernel, by decide +kernel⟩
theorem dX10_median_38 : decode cX10_median 38 = .ok (.lreturn, 1) := by decide +kernel
set_option maxRecDepth 100000 in
def fn_wk_X10_median (wl_3 : Nat) (l_mi_f : Nat → Int64) (a1 : Int32) (a2 : Int32) (β : Type) (k_ : Int64 → β) : β := (if a1 < 0 then (k_ 0) else (if nI wl_3 ≤ a1 then (k_ 0) else (if a2 < 0 then (k_ 0) else (if a2 ≤ 2 then (fn_wk_X5_middleOf l_mi_f a1 a2 β (fun zr_1487 => (k_ zr_1487))) else (k_ 0)))))
set_option maxRecDepth 100000 in
theorem fn_wk_X10_median_s {wl_3 : Nat} {l_mi_f : Nat → Int64} {a1 : Int32} {a2 : Int32} {β : Type} {k_ : Int64 → β} : fn_wk_X10_median wl_3 l_mi_f a1 a2 β k_ = (if a1 < 0 then (k_ 0) else (if nI wl_3 ≤ a1 then (k_ 0) else (if a2 < 0 then (k_ 0) else (if a2 ≤ 2 then (fn_wk_X5_middleOf l_mi_f a1 a2 β (fun zr_1487 => (k_ zr_1487))) else (k_ 0))))) := rfl
set_option maxRecDepth 100000 in
set_option maxHeartbeats 4000000 in
theorem wk_X10_median (E : g_E) (x : Nat) (nu : Nat) (pl : Nat) (tp : Nat) (sd : Nat) (fi : Nat) (se : Nat) (enc : Nat) (dec : Nat) (wl : Nat) (wsp : Nat) (l_ps : Nat) (l_md : Nat) (l_mi : Nat) (x_1 : Nat) (wl_2 : Nat) (wl_3 : Nat) (wl_4 : Nat) (wl_5 : Int32) (wl_6 : Int32) (wl_7 : Int32) (wl_8 : Int32) (wl_9 : Int32) (wl_10 : Int32) (wl_11 : Int32) (l_md_1 : Int64) (l_md_2 : Int64) (l_mi_f : Nat → Int64) (a1 : Int32) (a2 : Int32) (hk0 : x_1 ≤ 1200) (hk1 : wl_2 ≤ 2) (hk2 : wl_3 ≤ 2) (hk3 : wl_4 ≤ 600) : Ev E MX10_median 1 23 0 0 [.ref x, .int a1, .int a2] [(x, .inr (10, [.ref nu, .int (nI x_1), .ref pl, .ref tp, .ref sd, .ref fi, .ref se, .ref enc, .ref dec, .ref wl, .ref wsp])), (wl, .inr (9, [.ref l_ps, .ref l_md, .int (nI wl_2), .int (nI wl_3), .int (nI wl_4), .int wl_5, .int wl_6, .int wl_7, .int wl_8, .int wl_9, .int wl_10, .int wl_11])), (l_md, .inr (5, [.ref l_mi, .long l_md_1, .long l_md_2])), (l_mi, .inl (E.2.2.1 3, 6, .inr (.inl l_mi_f)))] (fun v_ w_ => ∃ zr : Int64, (∀ (β : Type) (k_ : Int64 → β), fn_wk_X10_median wl_3 l_mi_f a1 a2 β k_ = k_ zr) ∧ v_ = some (.long zr) ∧ w_ = [(x, .inr (10, [.ref nu, .int (nI x_1), .ref pl, .ref tp, .ref sd, .ref fi, .ref se, .ref enc, .ref dec, .ref wl, .ref wsp])), (wl, .inr (9, [.ref l_ps, .ref l_md, .int (nI wl_2), .int (nI wl_3), .int (nI wl_4), .int wl_5, .int wl_6, .int wl_7, .int wl_8, .int wl_9, .int wl_10, .int wl_11])), (l_md, .inr (5, [.ref l_mi, .long l_md_1, .long l_md_2])), (l_mi, .inl (E.2.2.1 3, 6, .inr (.inl l_mi_f)))]) := by
  refine Ev.intro (by decide) (Nat.le_of_ble_eq_true rfl) ?_
  intro X B hr hI
  have B : Bd E X cX10_median RX10 3 1 23 0 0 := B
  have hr : Rt E X (some .long) 0 0 (fun v_ w_ => ∃ zr : Int64, (∀ (β : Type) (k_ : Int64 → β), fn_wk_X10_median wl_3 l_mi_f a1 a2 β k_ = k_ zr) ∧ v_ = some (.long zr) ∧ w_ = [(x, .inr (10, [.ref nu, .int (nI x_1), .ref pl, .ref tp, .ref sd, .ref fi, .ref se, .ref enc, .ref dec, .ref wl, .ref wsp])), (wl, .inr (9, [.ref l_ps, .ref l_md, .int (nI wl_2), .int (nI wl_3), .int (nI wl_4), .int wl_5, .int wl_6, .int wl_7, .int wl_8, .int wl_9, .int wl_10, .int wl_11])), (l_md, .inr (5, [.ref l_mi, .long l_md_1, .long l_md_2])), (l_mi, .inl (E.2.2.1 3, 6, .inr (.inl l_mi_f)))]) := hr
  have e_ := fun (β : Type) (k_ : Int64 → β) => fn_wk_X10_median_s (β := β) (k_ := k_) (wl_3 := wl_3) (l_mi_f := l_mi_f) (a1 := a1) (a2 := a2)
  show G E X 3 [(x, .inr (10, [.ref nu, .int (nI x_1), .ref pl, .ref tp, .ref sd, .ref fi, .ref se, .ref enc, .ref dec, .ref wl, .ref wsp])), (wl, .inr (9, [.ref l_ps, .ref l_md, .int (nI wl_2), .int (nI wl_3), .int (nI wl_4), .int wl_5, .int wl_6, .int wl_7, .int wl_8, .int wl_9, .int wl_10, .int wl_11])), (l_md, .inr (5, [.ref l_mi, .long l_md_1, .long l_md_2])), (l_mi, .inl (E.2.2.1 3, 6, .inr (.inl l_mi_f)))] 0 0 [(0, .ref x), (1, .int a1), (2, .int a2)] 0 []
  refine g_iload_n B dX10_median_0 rfl 1 rfl ?_
  refine g_if_lt (tgt := 24) B dX10_median_1 (by decide) (fun c1_1483 => ?_) (fun c1_1483 => ?_)
  · replace e_ := fun β k_ => (e_ β k_).trans (if_pos c1_1483)
    refine g_lconst (v := 0) B dX10_median_24 (by decide) ?_
    exact g_lret B hr dX10_median_25 (by decide) (by decide) ⟨0, e_, rfl, rfl⟩
  · replace e_ := fun β k_ => (e_ β k_).trans (if_neg c1_1483)
    refine g_iload_n B dX10_median_4 rfl 1 rfl ?_
    refine g_aload_n B dX10_median_5 rfl 0 rfl ?_
    refine g_get B 0 9 fl_X10_64 rfl rfl dX10_median_6 ?_
    refine g_get B 1 3 fl_X10_172 rfl rfl dX10_median_9 ?_
    refine g_icmp_ge (tgt := 24) B dX10_median_12 (by decide) (fun c12_1484 => ?_) (fun c12_1484 => ?_)
    · replace e_ := fun β k_ => (e_ β k_).trans (if_pos c12_1484)
      refine g_lconst (v := 0) B dX10_median_24 (by decide) ?_
      exact g_lret B hr dX10_median_25 (by decide) (by decide) ⟨0, e_, rfl, rfl⟩
    · replace e_ := fun β k_ => (e_ β k_).trans (if_neg c12_1484)
      refine g_iload_n B dX10_median_15 rfl 2 rfl ?_
      refine g_if_lt (tgt := 24) B dX10_median_16 (by decide) (fun c16_1485 => ?_) (fun c16_1485 => ?_)
      · replace e_ := fun β k_ => (e_ β k_).trans (if_pos c16_1485)
        refine g_lconst (v := 0) B dX10_median_24 (by decide) ?_
        exact g_lret B hr dX10_median_25 (by decide) (by decide) ⟨0, e_, rfl, rfl⟩
      · replace e_ := fun β k_ => (e_ β k_).trans (if_neg c16_1485)
        refine g_iload_n B dX10_median_19 rfl 2 rfl ?_
        refine g_iconst (v := 2) B dX10_median_20 (by decide) ?_
        refine g_icmp_le (tgt := 26) B dX10_median_21 (by decide) (fun c21_1486 => ?_) (fun c21_1486 => ?_)
        · replace e_ := fun β k_ => (e_ β k_).trans (if_pos c21_1486)
          refine g_aload_n B dX10_median_26 rfl 0 rfl ?_
          refine g_get B 0 9 fl_X10_64 rfl rfl dX10_median_27 ?_
          refine g_get B 1 1 fl_X10_179 rfl rfl dX10_median_30 ?_
          refine g_iload_n B dX10_median_33 rfl 1 rfl ?_
          refine g_iload_n B dX10_median_34 rfl 2 rfl ?_
          refine g_callV (st := []) (As := [.int a1, .int a2]) (wr := [(x, .inr (10, [.ref nu, .int (nI x_1), .ref pl, .ref tp, .ref sd, .ref fi, .ref se, .ref enc, .ref dec, .ref wl, .ref wsp])), (wl, .inr (9, [.ref l_ps, .ref l_md, .int (nI wl_2), .int (nI wl_3), .int (nI wl_4), .int wl_5, .int wl_6, .int wl_7, .int wl_8, .int wl_9, .int wl_10, .int wl_11]))]) (nc' := 0) (ns' := 0) B cl_X10_183 w_im_X5_middleOf w_se_X5_middleOf (wk_X5_middleOf E l_md l_mi l_md_1 l_md_2 l_mi_f a1 a2 ) rfl [2, 3] [0, 1] rfl rfl (by decide) (by decide) (by decide) 0 rfl (fun q h => by cases h; rfl) rfl ⟨by decide, by decide⟩ rfl rfl (by decide) (by decide) rfl (Nat.le_of_ble_eq_true rfl) dX10_median_35 (fun v w hq => ?_)
          obtain ⟨zr_1487, hz_1488, rfl, rfl⟩ := hq
          replace e_ := fun β k_ => (e_ β k_).trans (hz_1488 β _)
          show G E X 3 [(x, .inr (10, [.ref nu, .int (nI x_1), .ref pl, .ref tp, .ref sd, .ref fi, .ref se, .ref enc, .ref dec, .ref wl, .ref wsp])), (wl, .inr (9, [.ref l_ps, .ref l_md, .int (nI wl_2), .int (nI wl_3), .int (nI wl_4), .int wl_5, .int wl_6, .int wl_7, .int wl_8, .int wl_9, .int wl_10, .int wl_11])), (l_md, .inr (5, [.ref l_mi, .long l_md_1, .long l_md_2])), (l_mi, .inl (E.2.2.1 3, 6, .inr (.inl l_mi_f)))] 0 0 [(0, .ref x), (1, .int a1), (2, .int a2)] 38 [.long zr_1487]
          exact g_lret B hr dX10_median_38 (by decide) (by decide) ⟨zr_1487, e_, rfl, rfl⟩
        · replace e_ := fun β k_ => (e_ β k_).trans (if_neg c21_1486)
          refine g_lconst (v := 0) B dX10_median_24 (by decide) ?_
          exact g_lret B hr dX10_median_25 (by decide) (by decide) ⟨0, e_, rfl, rfl⟩
abbrev MX10_count : g_M := (yX10_count, cX10_count, 2, (some .int))
theorem dX10_count_0 : decode cX10_count 0 = .ok (.iload_n 1, 1) := by decide +kernel
theorem dX10_count_1 : decode cX10_count 1 = .ok (.tableswitch 60 0 3 #[31, 36, 44, 52], 31) := by decide +kernel
theorem dX10_count_32 : decode cX10_count 32 = .ok (.aload_n 0, 1) := by decide +kernel
theorem dX10_count_33 : decode cX10_count 33 = .ok (.getfield 13, 3) := by decide +kernel
theorem dX10_count_36 : decode cX10_count 36 = .ok (.ireturn, 1) := by decide +kernel
theorem dX10_count_37 : decode cX10_count 37 = .ok (.aload_n 0, 1) := by decide +kernel
theorem dX10_count_38 : decode cX10_count 38 = .ok (.getfield 20, 3) := by decide +kernel
theorem dX10_count_41 : decode cX10_count 41 = .ok (.getfield 75, 3) := by decide +kernel
theorem dX10_count_44 : decode cX10_count 44 = .ok (.ireturn, 1) := by decide +kernel
theorem dX10_count_45 : decode cX10_count 45 = .ok (.aload_n 0, 1) := by decide +kernel
theorem dX10_count_46 : decode cX10_count 46 = .ok (.getfield 29, 3) := by decide +kernel
theorem dX10_count_49 : decode cX10_count 49 = .ok (.getfield 124, 3) := by decide +kernel
theorem dX10_count_52 : decode cX10_count 52 = .ok (.ireturn, 1) := by decide +kernel
theorem dX10_count_53 : decode cX10_count 53 = .ok (.aload_n 0, 1) := by decide +kernel
theorem dX10_count_54 : decode cX10_count 54 = .ok (.getfield 33, 3) := by decide +kernel
theorem dX10_count_57 : decode cX10_count 57 = .ok (.getfield 124, 3) := by decide +kernel
theorem dX10_count_60 : decode cX10_count 60 = .ok (.ireturn, 1) := by decide +kernel
theorem dX10_count_61 : decode cX10_count 61 = .ok (.iconst (-1), 1) := by decide +kernel
theorem dX10_count_62 : decode cX10_count 62 = .ok (.ireturn, 1) := by decide +kernel
set_option maxRecDepth 100000 in
def fn_wk_X10_count (x_1 : Nat) (pl_2 : Nat) (tp_1 : Int32) (sd_1 : Int32) (wh : Int32) (β : Type) (k_ : Int32 → β) : β := (if wh = 0 then (k_ (nI x_1)) else (if wh = 1 then (k_ (nI pl_2)) else (if wh = 2 then (k_ tp_1) else (if wh = 3 then (k_ sd_1) else (k_ (-1))))))
set_option maxRecDepth 100000 in
theorem fn_wk_X10_count_s {x_1 : Nat} {pl_2 : Nat} {tp_1 : Int32} {sd_1 : Int32} {wh : Int32} {β : Type} {k_ : Int32 → β} : fn_wk_X10_count x_1 pl_2 tp_1 sd_1 wh β k_ = (if wh = 0 then (k_ (nI x_1)) else (if wh = 1 then (k_ (nI pl_2)) else (if wh = 2 then (k_ tp_1) else (if wh = 3 then (k_ sd_1) else (k_ (-1)))))) := rfl
set_option maxRecDepth 100000 in
set_option maxHeartbeats 4000000 in
theorem wk_X10_count (E : g_E) (x : Nat) (nu : Nat) (pl : Nat) (tp : Nat) (sd : Nat) (fi : Nat) (se : Nat) (enc : Nat) (dec : Nat) (wl : Nat) (wsp : Nat) (plt : Nat) (pld : Nat) (tpa : Nat) (sda : Nat) (x_1 : Nat) (pl_2 : Nat) (tp_1 : Int32) (sd_1 : Int32) (wh : Int32) (hk0 : x_1 ≤ 1200) (hk1 : pl_2 ≤ 8) : Ev E MX10_count 0 0 0 0 [.ref x, .int wh] [(x, .inr (10, [.ref nu, .int (nI x_1), .ref pl, .ref tp, .ref sd, .ref fi, .ref se, .ref enc, .ref dec, .ref wl, .ref wsp])), (pl, .inr (7, [.ref plt, .ref pld, .int (nI pl_2)])), (tp, .inr (2, [.ref tpa, .int tp_1])), (sd, .inr (2, [.ref sda, .int sd_1]))] (fun v_ w_ => ∃ zr : Int32, (∀ (β : Type) (k_ : Int32 → β), fn_wk_X10_count x_1 pl_2 tp_1 sd_1 wh β k_ = k_ zr) ∧ v_ = some (.int zr) ∧ w_ = [(x, .inr (10, [.ref nu, .int (nI x_1), .ref pl, .ref tp, .ref sd, .ref fi, .ref se, .ref enc, .ref dec, .ref wl, .ref wsp])), (pl, .inr (7, [.ref plt, .ref pld, .int (nI pl_2)])), (tp, .inr (2, [.ref tpa, .int tp_1])), (sd, .inr (2, [.ref sda, .int sd_1]))]) := by
  refine Ev.intro (by decide) (Nat.le_of_ble_eq_true rfl) ?_
  intro X B hr hI
  have B : Bd E X cX10_count RX10 2 0 0 0 0 := B
  have hr : Rt E X (some .int) 0 0 (fun v_ w_ => ∃ zr : Int32, (∀ (β : Type) (k_ : Int32 → β), fn_wk_X10_count x_1 pl_2 tp_1 sd_1 wh β k_ = k_ zr) ∧ v_ = some (.int zr) ∧ w_ = [(x, .inr (10, [.ref nu, .int (nI x_1), .ref pl, .ref tp, .ref sd, .ref fi, .ref se, .ref enc, .ref dec, .ref wl, .ref wsp])), (pl, .inr (7, [.ref plt, .ref pld, .int (nI pl_2)])), (tp, .inr (2, [.ref tpa, .int tp_1])), (sd, .inr (2, [.ref sda, .int sd_1]))]) := hr
  have e_ := fun (β : Type) (k_ : Int32 → β) => fn_wk_X10_count_s (β := β) (k_ := k_) (x_1 := x_1) (pl_2 := pl_2) (tp_1 := tp_1) (sd_1 := sd_1) (wh := wh)
  show G E X 2 [(x, .inr (10, [.ref nu, .int (nI x_1), .ref pl, .ref tp, .ref sd, .ref fi, .ref se, .ref enc, .ref dec, .ref wl, .ref wsp])), (pl, .inr (7, [.ref plt, .ref pld, .int (nI pl_2)])), (tp, .inr (2, [.ref tpa, .int tp_1])), (sd, .inr (2, [.ref sda, .int sd_1]))] 0 0 [(0, .ref x), (1, .int wh)] 0 []
  refine g_iload_n B dX10_count_0 rfl 1 rfl ?_
  by_cases sw_1489 : wh = 0
  · replace e_ := fun β k_ => (e_ β k_).trans (if_pos sw_1489)
    subst sw_1489
    refine g_tableIn (off := 31) (tgt := 32) B dX10_count_1 (by decide) (by decide) (by decide) (by decide) ?_
    refine g_aload_n B dX10_count_32 rfl 0 rfl ?_
    refine g_get B 0 1 fl_X10_13 rfl rfl dX10_count_33 ?_
    exact g_iret B hr dX10_count_36 (by decide) (by decide) ⟨(nI x_1), e_, rfl, rfl⟩
  replace e_ := fun β k_ => (e_ β k_).trans (if_neg sw_1489)
  by_cases sw_1490 : wh = 1
  · replace e_ := fun β k_ => (e_ β k_).trans (if_pos sw_1490)
    subst sw_1490
    refine g_tableIn (off := 36) (tgt := 37) B dX10_count_1 (by decide) (by decide) (by decide) (by decide) ?_
    refine g_aload_n B dX10_count_37 rfl 0 rfl ?_
    refine g_get B 0 2 fl_X10_20 rfl rfl dX10_count_38 ?_
    refine g_get B 1 2 fl_X10_75 rfl rfl dX10_count_41 ?_
    exact g_iret B hr dX10_count_44 (by decide) (by decide) ⟨(nI pl_2), e_, rfl, rfl⟩
  replace e_ := fun β k_ => (e_ β k_).trans (if_neg sw_1490)
  by_cases sw_1491 : wh = 2
  · replace e_ := fun β k_ => (e_ β k_).trans (if_pos sw_1491)
    subst sw_1491
    refine g_tableIn (off := 44) (tgt := 45) B dX10_count_1 (by decide) (by decide) (by decide) (by decide) ?_
    refine g_aload_n B dX10_count_45 rfl 0 rfl ?_
    refine g_get B 0 3 fl_X10_29 rfl rfl dX10_count_46 ?_
    refine g_get B 2 1 fl_X10_124 rfl rfl dX10_count_49 ?_
    exact g_iret B hr dX10_count_52 (by decide) (by decide) ⟨tp_1, e_, rfl, rfl⟩
  replace e_ := fun β k_ => (e_ β k_).trans (if_neg sw_1491)
  by_cases sw_1492 : wh = 3
  · replace e_ := fun β k_ => (e_ β k_).trans (if_pos sw_1492)
    subst sw_1492
    refine g_tableIn (off := 52) (tgt := 53) B dX10_count_1 (by decide) (by decide) (by decide) (by decide) ?_
    refine g_aload_n B dX10_count_53 rfl 0 rfl ?_
    refine g_get B 0 4 fl_X10_33 rfl rfl dX10_count_54 ?_
    refine g_get B 3 1 fl_X10_124 rfl rfl dX10_count_57 ?_
    exact g_iret B hr dX10_count_60 (by decide) (by decide) ⟨sd_1, e_, rfl, rfl⟩
  replace e_ := fun β k_ => (e_ β k_).trans (if_neg sw_1492)
  have so_1493 : Int32.toInt wh < 0 ∨ 3 < Int32.toInt wh := by
    have nsw_1489 := lv_neT (a := 0) sw_1489 rfl
    have nsw_1490 := lv_neT (a := 1) sw_1490 rfl
    have nsw_1491 := lv_neT (a := 2) sw_1491 rfl
    have nsw_1492 := lv_neT (a := 3) sw_1492 rfl
    omega
  refine g_tableOut (tgt := 61) B dX10_count_1 so_1493 (by decide) ?_
  refine g_iconst (v := (-1)) B dX10_count_61 (by decide) ?_
  exact g_iret B hr dX10_count_62 (by decide) (by decide) ⟨(-1), e_, rfl, rfl⟩
