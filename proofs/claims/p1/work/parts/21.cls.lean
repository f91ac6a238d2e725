abbrev MX10_size : g_M := (yX10_size, cX10_size, 3, (some .int))
theorem dX10_size_0 : decode cX10_size 0 = .ok (.aload_n 0, 1) := by decide +kernel
theorem dX10_size_1 : decode cX10_size 1 = .ok (.iload_n 1, 1) := by decide +kernel
theorem dX10_size_2 : decode cX10_size 2 = .ok (.invokevirtual 125, 3) := by decide +kernel
theorem w_ml_X10_125 : Cond.methodLink RX10 125 yX10_pressed ∈ g_tbl := g_tbl_in 691 (by decide +kernel) (by decide +kernel)
theorem w_cd_X10_pressed : g_cw MX10_pressed ∈ g_tbl := g_tbl_in 694 (by decide +kernel) (by decide +kernel)
theorem cl_X10_125 : CL RX10 125 1 MX10_pressed := ⟨w_ml_X10_125, w_cd_X10_pressed, w_ini_X10, by decide +kernel, by decide +kernel, by decide +kernel⟩
theorem w_im_X10_pressed : Cond.instanceMethod yX10_pressed ∈ g_tbl := g_tbl_in 693 (by decide +kernel) (by decide +kernel)
theorem w_se_X10_pressed : Cond.selects RX10 yX10_pressed yX10_pressed ∈ g_tbl := g_tbl_in 17 (by decide +kernel) (by decide +kernel)
theorem dX10_size_5 : decode cX10_size 5 = .ok (.astore_n 2, 1) := by decide +kernel
theorem dX10_size_6 : decode cX10_size 6 = .ok (.aload_n 2, 1) := by decide +kernel
theorem dX10_size_7 : decode cX10_size 7 = .ok (.ifnonnull 7, 3) := by decide +kernel
theorem dX10_size_14 : decode cX10_size 14 = .ok (.aload_n 2, 1) := by decide +kernel
theorem dX10_size_15 : decode cX10_size 15 = .ok (.getfield 124, 3) := by decide +kernel
theorem w_fl_X10_124 : Cond.fieldLink RX10 124 (TX2 1).1 (TX2 1).2.1 (TX2 1).2.2.1 ∈ g_tbl := g_tbl_in 133 (by decide +kernel) (by decide +kernel)
theorem fl_X10_124 : FL RX10 124 2 1 := ⟨RX2, TX2, 2, rfl, by decide, inX_X2, w_fl_X10_124⟩
theorem dX10_size_18 : decode cX10_size 18 = .ok (.ireturn, 1) := by decide +kernel
set_option maxRecDepth 100000 in
set_option maxHeartbeats 4000000 in
theorem ev_X10_size_0 (E : g_E) (x : Nat) (nu : Nat) (pl : Nat) (tp : Nat) (sd : Nat) (fi : Nat) (se : Nat) (enc : Nat) (dec : Nat) (wl : Nat) (wsp : Nat) (fia : Nat)  : Ev E MX10_size 1 21 0 0 [.ref x, .int 0] [(x, .inr (10, [.ref nu, .int 0, .ref pl, .ref tp, .ref sd, .ref fi, .ref se, .ref enc, .ref dec, .ref wl, .ref wsp])), (fi, .inr (2, [.ref fia, .int 0]))] (fun v_ w_ => v_ = some (.int 0)) := by
  refine Ev.intro (by decide) (Nat.le_of_ble_eq_true rfl) ?_
  intro X B hr hI
  have B : Bd E X cX10_size RX10 3 1 21 0 0 := B
  have hr : Rt E X (some .int) 0 0 (fun v_ w_ => v_ = some (.int 0)) := hr
  show G E X 3 [(x, .inr (10, [.ref nu, .int 0, .ref pl, .ref tp, .ref sd, .ref fi, .ref se, .ref enc, .ref dec, .ref wl, .ref wsp])), (fi, .inr (2, [.ref fia, .int 0]))] 0 0 [(0, .ref x), (1, .int 0)] 0 []
  refine g_aload_n B dX10_size_0 rfl 0 rfl ?_
  refine g_iload_n B dX10_size_1 rfl 1 rfl ?_
  refine g_callV (st := []) (As := [.int 0]) (wr := [(fi, .inr (2, [.ref fia, .int 0]))]) (nc' := 0) (ns' := 0) B cl_X10_125 w_im_X10_pressed w_se_X10_pressed (ev_X10_pressed_0 E x nu pl tp sd fi se enc dec wl wsp ) rfl [0] [1] rfl rfl (by decide) (by decide) (by decide) 0 rfl (fun q h => by cases h; rfl) rfl ⟨by decide, by decide⟩ rfl rfl (by decide) (by decide) rfl (Nat.le_of_ble_eq_true rfl) dX10_size_2 (fun v w hq => ?_)
  obtain ⟨rfl, rfl⟩ := hq
  show G E X 3 [(fi, .inr (2, [.ref fia, .int 0])), (x, .inr (10, [.ref nu, .int 0, .ref pl, .ref tp, .ref sd, .ref fi, .ref se, .ref enc, .ref dec, .ref wl, .ref wsp]))] 0 0 [(0, .ref x), (1, .int 0)] 5 [.ref fi]
  refine g_astore_n (lv' := [(2, .ref fi), (0, .ref x), (1, .int 0)]) B dX10_size_5 rfl (by decide) rfl ?_
  refine g_aload_n B dX10_size_6 rfl 0 rfl ?_
  refine g_ifnonnull (tgt := 14) B dX10_size_7 (by decide) ?_
  refine g_aload_n B dX10_size_14 rfl 0 rfl ?_
  refine g_get B 0 1 fl_X10_124 rfl rfl dX10_size_15 ?_
  exact g_iret B hr dX10_size_18 (by decide) (by decide) rfl
abbrev MX10_out : g_M := (yX10_out, cX10_out, 4, (some .int))
theorem dX10_out_0 : decode cX10_out 0 = .ok (.aload_n 0, 1) := by decide +kernel
theorem dX10_out_1 : decode cX10_out 1 = .ok (.iload_n 1, 1) := by decide +kernel
theorem dX10_out_2 : decode cX10_out 2 = .ok (.invokevirtual 125, 3) := by decide +kernel
theorem dX10_out_5 : decode cX10_out 5 = .ok (.astore_n 3, 1) := by decide +kernel
theorem dX10_out_6 : decode cX10_out 6 = .ok (.aload_n 3, 1) := by decide +kernel
theorem dX10_out_7 : decode cX10_out 7 = .ok (.ifnonnull 7, 3) := by decide +kernel
theorem dX10_out_14 : decode cX10_out 14 = .ok (.aload_n 3, 1) := by decide +kernel
theorem dX10_out_15 : decode cX10_out 15 = .ok (.iload_n 2, 1) := by decide +kernel
theorem dX10_out_16 : decode cX10_out 16 = .ok (.invokevirtual 129, 3) := by decide +kernel
theorem w_ml_X10_129 : Cond.methodLink RX10 129 yX2_at ∈ g_tbl := g_tbl_in 699 (by decide +kernel) (by decide +kernel)
theorem w_cd_X2_at : g_cw MX2_at ∈ g_tbl := g_tbl_in 702 (by decide +kernel) (by decide +kernel)
theorem cl_X10_129 : CL RX10 129 1 MX2_at := ⟨w_ml_X10_129, w_cd_X2_at, w_ini_X2, by decide +kernel, by decide +kernel, by decide +kernel⟩
theorem w_im_X2_at : Cond.instanceMethod yX2_at ∈ g_tbl := g_tbl_in 700 (by decide +kernel) (by decide +kernel)
theorem w_se_X2_at : Cond.selects RX2 yX2_at yX2_at ∈ g_tbl := g_tbl_in 701 (by decide +kernel) (by decide +kernel)
theorem dX10_out_19 : decode cX10_out 19 = .ok (.ireturn, 1) := by decide +kernel
set_option maxRecDepth 100000 in
set_option maxHeartbeats 4000000 in
theorem ev_X10_out_0 (E : g_E) (x : Nat) (nu : Nat) (pl : Nat) (tp : Nat) (sd : Nat) (fi : Nat) (se : Nat) (enc : Nat) (dec : Nat) (wl : Nat) (wsp : Nat) (fia : Nat) (i : Int32)  : Ev E MX10_out 1 21 0 0 [.ref x, .int 0, .int i] [(x, .inr (10, [.ref nu, .int 0, .ref pl, .ref tp, .ref sd, .ref fi, .ref se, .ref enc, .ref dec, .ref wl, .ref wsp])), (fi, .inr (2, [.ref fia, .int 0]))] (fun v_ w_ => v_ = some (.int (-1))) := by
  refine Ev.intro (by decide) (Nat.le_of_ble_eq_true rfl) ?_
  intro X B hr hI
  have B : Bd E X cX10_out RX10 4 1 21 0 0 := B
  have hr : Rt E X (some .int) 0 0 (fun v_ w_ => v_ = some (.int (-1))) := hr
  show G E X 4 [(x, .inr (10, [.ref nu, .int 0, .ref pl, .ref tp, .ref sd, .ref fi, .ref se, .ref enc, .ref dec, .ref wl, .ref wsp])), (fi, .inr (2, [.ref fia, .int 0]))] 0 0 [(0, .ref x), (1, .int 0), (2, .int i)] 0 []
  refine g_aload_n B dX10_out_0 rfl 0 rfl ?_
  refine g_iload_n B dX10_out_1 rfl 1 rfl ?_
  refine g_callV (st := []) (As := [.int 0]) (wr := [(fi, .inr (2, [.ref fia, .int 0]))]) (nc' := 0) (ns' := 0) B cl_X10_125 w_im_X10_pressed w_se_X10_pressed (ev_X10_pressed_0 E x nu pl tp sd fi se enc dec wl wsp ) rfl [0] [1] rfl rfl (by decide) (by decide) (by decide) 0 rfl (fun q h => by cases h; rfl) rfl ⟨by decide, by decide⟩ rfl rfl (by decide) (by decide) rfl (Nat.le_of_ble_eq_true rfl) dX10_out_2 (fun v w hq => ?_)
  obtain ⟨rfl, rfl⟩ := hq
  show G E X 4 [(fi, .inr (2, [.ref fia, .int 0])), (x, .inr (10, [.ref nu, .int 0, .ref pl, .ref tp, .ref sd, .ref fi, .ref se, .ref enc, .ref dec, .ref wl, .ref wsp]))] 0 0 [(0, .ref x), (1, .int 0), (2, .int i)] 5 [.ref fi]
  refine g_astore_n (lv' := [(3, .ref fi), (0, .ref x), (1, .int 0), (2, .int i)]) B dX10_out_5 rfl (by decide) rfl ?_
  refine g_aload_n B dX10_out_6 rfl 0 rfl ?_
  refine g_ifnonnull (tgt := 14) B dX10_out_7 (by decide) ?_
  refine g_aload_n B dX10_out_14 rfl 0 rfl ?_
  refine g_iload_n B dX10_out_15 rfl 3 rfl ?_
  refine g_callV (st := []) (As := [.int i]) (wr := [(x, .inr (10, [.ref nu, .int 0, .ref pl, .ref tp, .ref sd, .ref fi, .ref se, .ref enc, .ref dec, .ref wl, .ref wsp]))]) (nc' := 0) (ns' := 0) B cl_X10_129 w_im_X2_at w_se_X2_at (ev_X2_at_0 E fi fia i ) rfl [0] [1] rfl rfl (by decide) (by decide) (by decide) 0 rfl (fun q h => by cases h; rfl) rfl ⟨by decide, by decide⟩ rfl rfl (by decide) (by decide) rfl (Nat.le_of_ble_eq_true rfl) dX10_out_16 (fun v w hq => ?_)
  obtain ⟨rfl, rfl⟩ := hq
  show G E X 4 [(x, .inr (10, [.ref nu, .int 0, .ref pl, .ref tp, .ref sd, .ref fi, .ref se, .ref enc, .ref dec, .ref wl, .ref wsp])), (fi, .inr (2, [.ref fia, .int 0]))] 0 0 [(3, .ref fi), (0, .ref x), (1, .int 0), (2, .int i)] 19 [.int (-1)]
  exact g_iret B hr dX10_out_19 (by decide) (by decide) rfl
abbrev MX10_feed : g_M := (yX10_feed, cX10_feed, 6, (some .int))
theorem dX10_feed_0 : decode cX10_feed 0 = .ok (.aload_n 0, 1) := by decide +kernel
theorem dX10_feed_1 : decode cX10_feed 1 = .ok (.iload_n 1, 1) := by decide +kernel
theorem dX10_feed_2 : decode cX10_feed 2 = .ok (.invokevirtual 133, 3) := by decide +kernel
theorem w_ml_X10_133 : Cond.methodLink RX10 133 yX10_fed ∈ g_tbl := g_tbl_in 707 (by decide +kernel) (by decide +kernel)
theorem w_cd_X10_fed : g_cw MX10_fed ∈ g_tbl := g_tbl_in 710 (by decide +kernel) (by decide +kernel)
theorem cl_X10_133 : CL RX10 133 1 MX10_fed := ⟨w_ml_X10_133, w_cd_X10_fed, w_ini_X10, by decide +kernel, by decide +kernel, by decide +kernel⟩
theorem w_im_X10_fed : Cond.instanceMethod yX10_fed ∈ g_tbl := g_tbl_in 709 (by decide +kernel) (by decide +kernel)
theorem w_se_X10_fed : Cond.selects RX10 yX10_fed yX10_fed ∈ g_tbl := g_tbl_in 18 (by decide +kernel) (by decide +kernel)
theorem dX10_feed_5 : decode cX10_feed 5 = .ok (.astore 5, 2) := by decide +kernel
theorem dX10_feed_7 : decode cX10_feed 7 = .ok (.aload 5, 2) := by decide +kernel
theorem dX10_feed_9 : decode cX10_feed 9 = .ok (.ifnull 20, 3) := by decide +kernel
theorem dX10_feed_12 : decode cX10_feed 12 = .ok (.aload 5, 2) := by decide +kernel
theorem dX10_feed_14 : decode cX10_feed 14 = .ok (.getfield 124, 3) := by decide +kernel
theorem dX10_feed_17 : decode cX10_feed 17 = .ok (.bipush 12, 2) := by decide +kernel
theorem dX10_feed_19 : decode cX10_feed 19 = .ok (.iadd, 1) := by decide +kernel
theorem dX10_feed_20 : decode cX10_feed 20 = .ok (.aload 5, 2) := by decide +kernel
theorem dX10_feed_22 : decode cX10_feed 22 = .ok (.getfield 136, 3) := by decide +kernel
theorem w_fl_X10_136 : Cond.fieldLink RX10 136 (TX2 0).1 (TX2 0).2.1 (TX2 0).2.2.1 ∈ g_tbl := g_tbl_in 129 (by decide +kernel) (by decide +kernel)
theorem fl_X10_136 : FL RX10 136 2 0 := ⟨RX2, TX2, 2, rfl, by decide, inX_X2, w_fl_X10_136⟩
theorem dX10_feed_25 : decode cX10_feed 25 = .ok (.arraylength, 1) := by decide +kernel
theorem dX10_feed_26 : decode cX10_feed 26 = .ok (.if_icmp .le 5, 3) := by decide +kernel
theorem dX10_feed_31 : decode cX10_feed 31 = .ok (.aload 5, 2) := by decide +kernel
theorem dX10_feed_33 : decode cX10_feed 33 = .ok (.iload_n 2, 1) := by decide +kernel
theorem dX10_feed_34 : decode cX10_feed 34 = .ok (.invokevirtual 140, 3) := by decide +kernel
theorem w_ml_X10_140 : Cond.methodLink RX10 140 yX2_addWord ∈ g_tbl := g_tbl_in 711 (by decide +kernel) (by decide +kernel)
theorem w_cd_X2_addWord : g_cw MX2_addWord ∈ g_tbl := g_tbl_in 499 (by decide +kernel) (by decide +kernel)
theorem cl_X10_140 : CL RX10 140 1 MX2_addWord := ⟨w_ml_X10_140, w_cd_X2_addWord, w_ini_X2, by decide +kernel, by decide +kernel, by decide +kernel⟩
theorem w_im_X2_addWord : Cond.instanceMethod yX2_addWord ∈ g_tbl := g_tbl_in 497 (by decide +kernel) (by decide +kernel)
theorem w_se_X2_addWord : Cond.selects RX2 yX2_addWord yX2_addWord ∈ g_tbl := g_tbl_in 498 (by decide +kernel) (by decide +kernel)
theorem dX10_feed_37 : decode cX10_feed 37 = .ok (.aload 5, 2) := by decide +kernel
theorem dX10_feed_39 : decode cX10_feed 39 = .ok (.iload_n 3, 1) := by decide +kernel
theorem dX10_feed_40 : decode cX10_feed 40 = .ok (.invokevirtual 140, 3) := by decide +kernel
theorem dX10_feed_43 : decode cX10_feed 43 = .ok (.aload 5, 2) := by decide +kernel
theorem dX10_feed_45 : decode cX10_feed 45 = .ok (.iload 4, 2) := by decide +kernel
theorem dX10_feed_47 : decode cX10_feed 47 = .ok (.invokevirtual 140, 3) := by decide +kernel
theorem dX10_feed_50 : decode cX10_feed 50 = .ok (.aload 5, 2) := by decide +kernel
theorem dX10_feed_52 : decode cX10_feed 52 = .ok (.getfield 124, 3) := by decide +kernel
theorem dX10_feed_55 : decode cX10_feed 55 = .ok (.ireturn, 1) := by decide +kernel
set_option maxRecDepth 100000 in
set_option maxHeartbeats 4000000 in
theorem ev_X10_feed_0 (E : g_E) (x : Nat) (nu : Nat) (pl : Nat) (tp : Nat) (sd : Nat) (fi : Nat) (se : Nat) (enc : Nat) (dec : Nat) (wl : Nat) (wsp : Nat) (tpa : Nat) (a1 : Int32) (a2 : Int32) (a3 : Int32)  : Ev E MX10_feed 2 43 0 0 [.ref x, .int 0, .int a1, .int a2, .int a3] [(x, .inr (10, [.ref nu, .int 0, .ref pl, .ref tp, .ref sd, .ref fi, .ref se, .ref enc, .ref dec, .ref wl, .ref wsp])), (tp, .inr (2, [.ref tpa, .int 0])), (tpa, .inl (E.2.2.1 1, 6000, .inl (fun _ => 0)))] (fun v_ w_ => v_ = some (.int 12)) := by
  refine Ev.intro (by decide) (Nat.le_of_ble_eq_true rfl) ?_
  intro X B hr hI
  have B : Bd E X cX10_feed RX10 6 2 43 0 0 := B
  have hr : Rt E X (some .int) 0 0 (fun v_ w_ => v_ = some (.int 12)) := hr
  show G E X 6 [(x, .inr (10, [.ref nu, .int 0, .ref pl, .ref tp, .ref sd, .ref fi, .ref se, .ref enc, .ref dec, .ref wl, .ref wsp])), (tp, .inr (2, [.ref tpa, .int 0])), (tpa, .inl (E.2.2.1 1, 6000, .inl (fun _ => 0)))] 0 0 [(0, .ref x), (1, .int 0), (2, .int a1), (3, .int a2), (4, .int a3)] 0 []
  refine g_aload_n B dX10_feed_0 rfl 0 rfl ?_
  refine g_iload_n B dX10_feed_1 rfl 1 rfl ?_
  refine g_callV (st := []) (As := [.int 0]) (wr := [(tp, .inr (2, [.ref tpa, .int 0])), (tpa, .inl (E.2.2.1 1, 6000, .inl (fun _ => 0)))]) (nc' := 0) (ns' := 0) B cl_X10_133 w_im_X10_fed w_se_X10_fed (ev_X10_fed_0 E x nu pl tp sd fi se enc dec wl wsp ) rfl [0] [1, 2] rfl rfl (by decide) (by decide) (by decide) 0 rfl (fun q h => by cases h; rfl) rfl ⟨by decide, by decide⟩ rfl rfl (by decide) (by decide) rfl (Nat.le_of_ble_eq_true rfl) dX10_feed_2 (fun v w hq => ?_)
  obtain ⟨rfl, rfl⟩ := hq
  show G E X 6 [(tp, .inr (2, [.ref tpa, .int 0])), (tpa, .inl (E.2.2.1 1, 6000, .inl (fun _ => 0))), (x, .inr (10, [.ref nu, .int 0, .ref pl, .ref tp, .ref sd, .ref fi, .ref se, .ref enc, .ref dec, .ref wl, .ref wsp]))] 0 0 [(0, .ref x), (1, .int 0), (2, .int a1), (3, .int a2), (4, .int a3)] 5 [.ref tp]
  refine g_astore (lv' := [(5, .ref tp), (0, .ref x), (1, .int 0), (2, .int a1), (3, .int a2), (4, .int a3)]) B dX10_feed_5 (by decide) rfl ?_
  refine g_aload B dX10_feed_7 0 rfl ?_
  refine g_ifnull B dX10_feed_9 ?_
  refine g_aload B dX10_feed_12 0 rfl ?_
  refine g_get B 0 1 fl_X10_124 rfl rfl dX10_feed_14 ?_
  refine g_bipush (v := 12) B dX10_feed_17 (by decide) ?_
  refine g_iadd B dX10_feed_19 ?_
  refine g_ri (x' := 12) (by decide) ?_
  refine g_aload B dX10_feed_20 0 rfl ?_
  refine g_get B 0 0 fl_X10_136 rfl rfl dX10_feed_22 ?_
  refine g_alen (v := nI 6000) B 1 (by decide) rfl rfl dX10_feed_25 ?_
  refine g_ri (x' := 6000) (by decide) ?_
  refine g_icmp_le (tgt := 31) B dX10_feed_26 (by decide) (fun c26 => ?_) (fun h => absurd (by decide) h)
  refine g_aload B dX10_feed_31 0 rfl ?_
  refine g_iload_n B dX10_feed_33 rfl 3 rfl ?_
  refine g_callV (st := []) (As := [.int a1]) (wr := [(x, .inr (10, [.ref nu, .int 0, .ref pl, .ref tp, .ref sd, .ref fi, .ref se, .ref enc, .ref dec, .ref wl, .ref wsp]))]) (nc' := 0) (ns' := 0) B cl_X10_140 w_im_X2_addWord w_se_X2_addWord (ev_X2_addWord E tp tpa 0 6000 (fun _ => 0) a1 (by first | assumption | omega | decide) (by first | assumption | omega | decide)) rfl [0, 1] [2] rfl rfl (by decide) (by decide) (by decide) 0 rfl (fun q h => by cases h; rfl) rfl ⟨by decide, by decide⟩ rfl rfl (by decide) (by decide) rfl (Nat.le_of_ble_eq_true rfl) dX10_feed_34 (fun v w hq => ?_)
  obtain ⟨rfl, rfl⟩ := hq
  show G E X 6 [(x, .inr (10, [.ref nu, .int 0, .ref pl, .ref tp, .ref sd, .ref fi, .ref se, .ref enc, .ref dec, .ref wl, .ref wsp])), (tp, .inr (2, [.ref tpa, .int (nI (0 + 4))])), (tpa, .inl (E.2.2.1 1, 6000, .inl (by_w (fun _ => 0) 0 a1)))] 0 0 [(5, .ref tp), (0, .ref x), (1, .int 0), (2, .int a1), (3, .int a2), (4, .int a3)] 37 []
  refine g_aload B dX10_feed_37 0 rfl ?_
  refine g_iload_n B dX10_feed_39 rfl 4 rfl ?_
  refine g_callV (st := []) (As := [.int a2]) (wr := [(x, .inr (10, [.ref nu, .int 0, .ref pl, .ref tp, .ref sd, .ref fi, .ref se, .ref enc, .ref dec, .ref wl, .ref wsp]))]) (nc' := 0) (ns' := 0) B cl_X10_140 w_im_X2_addWord w_se_X2_addWord (ev_X2_addWord E tp tpa (0 + 4) 6000 (by_w (fun _ => 0) 0 a1) a2 (by first | assumption | omega | decide) (by first | assumption | omega | decide)) rfl [1, 2] [0] rfl rfl (by decide) (by decide) (by decide) 0 rfl (fun q h => by cases h; rfl) rfl ⟨by decide, by decide⟩ rfl rfl (by decide) (by decide) rfl (Nat.le_of_ble_eq_true rfl) dX10_feed_40 (fun v w hq => ?_)
  obtain ⟨rfl, rfl⟩ := hq
  show G E X 6 [(x, .inr (10, [.ref nu, .int 0, .ref pl, .ref tp, .ref sd, .ref fi, .ref se, .ref enc, .ref dec, .ref wl, .ref wsp])), (tp, .inr (2, [.ref tpa, .int (nI ((0 + 4) + 4))])), (tpa, .inl (E.2.2.1 1, 6000, .inl (by_w (by_w (fun _ => 0) 0 a1) (0 + 4) a2)))] 0 0 [(5, .ref tp), (0, .ref x), (1, .int 0), (2, .int a1), (3, .int a2), (4, .int a3)] 43 []
  refine g_aload B dX10_feed_43 0 rfl ?_
  refine g_iload B dX10_feed_45 5 rfl ?_
  refine g_callV (st := []) (As := [.int a3]) (wr := [(x, .inr (10, [.ref nu, .int 0, .ref pl, .ref tp, .ref sd, .ref fi, .ref se, .ref enc, .ref dec, .ref wl, .ref wsp]))]) (nc' := 0) (ns' := 0) B cl_X10_140 w_im_X2_addWord w_se_X2_addWord (ev_X2_addWord E tp tpa ((0 + 4) + 4) 6000 (by_w (by_w (fun _ => 0) 0 a1) (0 + 4) a2) a3 (by first | assumption | omega | decide) (by first | assumption | omega | decide)) rfl [1, 2] [0] rfl rfl (by decide) (by decide) (by decide) 0 rfl (fun q h => by cases h; rfl) rfl ⟨by decide, by decide⟩ rfl rfl (by decide) (by decide) rfl (Nat.le_of_ble_eq_true rfl) dX10_feed_47 (fun v w hq => ?_)
  obtain ⟨rfl, rfl⟩ := hq
  show G E X 6 [(x, .inr (10, [.ref nu, .int 0, .ref pl, .ref tp, .ref sd, .ref fi, .ref se, .ref enc, .ref dec, .ref wl, .ref wsp])), (tp, .inr (2, [.ref tpa, .int (nI (((0 + 4) + 4) + 4))])), (tpa, .inl (E.2.2.1 1, 6000, .inl (by_w (by_w (by_w (fun _ => 0) 0 a1) (0 + 4) a2) ((0 + 4) + 4) a3)))] 0 0 [(5, .ref tp), (0, .ref x), (1, .int 0), (2, .int a1), (3, .int a2), (4, .int a3)] 50 []
  refine g_aload B dX10_feed_50 0 rfl ?_
  refine g_get B 1 1 fl_X10_124 rfl rfl dX10_feed_52 ?_
  exact g_iret B hr dX10_feed_55 (by decide) (by decide) (by decide)
abbrev MX10_end : g_M := (yX10_end, cX10_end, 4, (some .boolean))
theorem dX10_end_0 : decode cX10_end 0 = .ok (.aload_n 0, 1) := by decide +kernel
theorem dX10_end_1 : decode cX10_end 1 = .ok (.iload_n 1, 1) := by decide +kernel
theorem dX10_end_2 : decode cX10_end 2 = .ok (.invokevirtual 133, 3) := by decide +kernel
theorem dX10_end_5 : decode cX10_end 5 = .ok (.astore_n 3, 1) := by decide +kernel
theorem dX10_end_6 : decode cX10_end 6 = .ok (.aload_n 3, 1) := by decide +kernel
theorem dX10_end_7 : decode cX10_end 7 = .ok (.ifnull 15, 3) := by decide +kernel
theorem dX10_end_10 : decode cX10_end 10 = .ok (.aload_n 3, 1) := by decide +kernel
theorem dX10_end_11 : decode cX10_end 11 = .ok (.iload_n 2, 1) := by decide +kernel
theorem dX10_end_12 : decode cX10_end 12 = .ok (.invokevirtual 143, 3) := by decide +kernel
theorem w_ml_X10_143 : Cond.methodLink RX10 143 yX2_shorten ∈ g_tbl := g_tbl_in 716 (by decide +kernel) (by decide +kernel)
theorem w_cd_X2_shorten : g_cw MX2_shorten ∈ g_tbl := g_tbl_in 491 (by decide +kernel) (by decide +kernel)
theorem cl_X10_143 : CL RX10 143 1 MX2_shorten := ⟨w_ml_X10_143, w_cd_X2_shorten, w_ini_X2, by decide +kernel, by decide +kernel, by decide +kernel⟩
theorem w_im_X2_shorten : Cond.instanceMethod yX2_shorten ∈ g_tbl := g_tbl_in 489 (by decide +kernel) (by decide +kernel)
theorem w_se_X2_shorten : Cond.selects RX2 yX2_shorten yX2_shorten ∈ g_tbl := g_tbl_in 490 (by decide +kernel) (by decide +kernel)
theorem dX10_end_15 : decode cX10_end 15 = .ok (.ifCond .eq 7, 3) := by decide +kernel
theorem dX10_end_22 : decode cX10_end 22 = .ok (.iconst 0, 1) := by decide +kernel
theorem dX10_end_23 : decode cX10_end 23 = .ok (.ireturn, 1) := by decide +kernel
theorem dX10_end_18 : decode cX10_end 18 = .ok (.iconst 1, 1) := by decide +kernel
theorem dX10_end_19 : decode cX10_end 19 = .ok (.goto 4, 3) := by decide +kernel
set_option maxRecDepth 100000 in
set_option maxHeartbeats 4000000 in
theorem ev_X10_end_0 (E : g_E) (x : Nat) (nu : Nat) (pl : Nat) (tp : Nat) (sd : Nat) (fi : Nat) (se : Nat) (enc : Nat) (dec : Nat) (wl : Nat) (wsp : Nat) (tpa : Nat) (n : Int32)  : Ev E MX10_end 1 21 0 0 [.ref x, .int 0, .int n] [(x, .inr (10, [.ref nu, .int 0, .ref pl, .ref tp, .ref sd, .ref fi, .ref se, .ref enc, .ref dec, .ref wl, .ref wsp])), (tp, .inr (2, [.ref tpa, .int 0]))] (fun v_ w_ => v_ = some (.int (p1_cut n))) := by
  refine Ev.intro (by decide) (Nat.le_of_ble_eq_true rfl) ?_
  intro X B hr hI
  have B : Bd E X cX10_end RX10 4 1 21 0 0 := B
  have hr : Rt E X (some .boolean) 0 0 (fun v_ w_ => v_ = some (.int (p1_cut n))) := hr
  show G E X 4 [(x, .inr (10, [.ref nu, .int 0, .ref pl, .ref tp, .ref sd, .ref fi, .ref se, .ref enc, .ref dec, .ref wl, .ref wsp])), (tp, .inr (2, [.ref tpa, .int 0]))] 0 0 [(0, .ref x), (1, .int 0), (2, .int n)] 0 []
  refine g_aload_n B dX10_end_0 rfl 0 rfl ?_
  refine g_iload_n B dX10_end_1 rfl 1 rfl ?_
  refine g_callV (st := []) (As := [.int 0]) (wr := [(tp, .inr (2, [.ref tpa, .int 0]))]) (nc' := 0) (ns' := 0) B cl_X10_133 w_im_X10_fed w_se_X10_fed (ev_X10_fed_0 E x nu pl tp sd fi se enc dec wl wsp ) rfl [0] [1] rfl rfl (by decide) (by decide) (by decide) 0 rfl (fun q h => by cases h; rfl) rfl ⟨by decide, by decide⟩ rfl rfl (by decide) (by decide) rfl (Nat.le_of_ble_eq_true rfl) dX10_end_2 (fun v w hq => ?_)
  obtain ⟨rfl, rfl⟩ := hq
  show G E X 4 [(tp, .inr (2, [.ref tpa, .int 0])), (x, .inr (10, [.ref nu, .int 0, .ref pl, .ref tp, .ref sd, .ref fi, .ref se, .ref enc, .ref dec, .ref wl, .ref wsp]))] 0 0 [(0, .ref x), (1, .int 0), (2, .int n)] 5 [.ref tp]
  refine g_astore_n (lv' := [(3, .ref tp), (0, .ref x), (1, .int 0), (2, .int n)]) B dX10_end_5 rfl (by decide) rfl ?_
  refine g_aload_n B dX10_end_6 rfl 0 rfl ?_
  refine g_ifnull B dX10_end_7 ?_
  refine g_aload_n B dX10_end_10 rfl 0 rfl ?_
  refine g_iload_n B dX10_end_11 rfl 3 rfl ?_
  refine g_callV (st := []) (As := [.int n]) (wr := [(x, .inr (10, [.ref nu, .int 0, .ref pl, .ref tp, .ref sd, .ref fi, .ref se, .ref enc, .ref dec, .ref wl, .ref wsp]))]) (nc' := 0) (ns' := 0) B cl_X10_143 w_im_X2_shorten w_se_X2_shorten (ev_X2_shorten_p E tp tpa n ) rfl [0] [1] rfl rfl (by decide) (by decide) (by decide) 0 rfl (fun q h => by cases h; rfl) rfl ⟨by decide, by decide⟩ rfl rfl (by decide) (by decide) rfl (Nat.le_of_ble_eq_true rfl) dX10_end_12 (fun v w hq => ?_)
  obtain rfl := hq
  refine g_sub (ws' := [(x, .inr (10, [.ref nu, .int 0, .ref pl, .ref tp, .ref sd, .ref fi, .ref se, .ref enc, .ref dec, .ref wl, .ref wsp]))]) [0] (by decide) rfl ?_
  show G E X 4 [(x, .inr (10, [.ref nu, .int 0, .ref pl, .ref tp, .ref sd, .ref fi, .ref se, .ref enc, .ref dec, .ref wl, .ref wsp]))] 0 0 [(3, .ref tp), (0, .ref x), (1, .int 0), (2, .int n)] 15 [.int (p1_cut n)]
  refine g_if_eq (tgt := 22) B dX10_end_15 (by decide) (fun c15_145 => ?_) (fun c15_145 => ?_)
  · refine g_iconst (v := 0) B dX10_end_22 (by decide) ?_
    exact g_zret B hr (by decide) dX10_end_23 (by decide) (by decide) (by rw [c15_145])
  · refine g_iconst (v := 1) B dX10_end_18 (by decide) ?_
    refine g_goto (tgt := 23) B dX10_end_19 (by decide) ?_
    exact g_zret B hr (by decide) dX10_end_23 (by decide) (by decide) (by rw [p1_cut_1 c15_145])
abbrev MX10_harm : g_M := (yX10_harm, cX10_harm, 5, (some .boolean))
theorem dX10_harm_0 : decode cX10_harm 0 = .ok (.aload_n 0, 1) := by decide +kernel
theorem dX10_harm_1 : decode cX10_harm 1 = .ok (.iload_n 1, 1) := by decide +kernel
theorem dX10_harm_2 : decode cX10_harm 2 = .ok (.invokevirtual 133, 3) := by decide +kernel
theorem dX10_harm_5 : decode cX10_harm 5 = .ok (.astore 4, 2) := by decide +kernel
theorem dX10_harm_7 : decode cX10_harm 7 = .ok (.aload 4, 2) := by decide +kernel
theorem dX10_harm_9 : decode cX10_harm 9 = .ok (.ifnull 17, 3) := by decide +kernel
theorem dX10_harm_12 : decode cX10_harm 12 = .ok (.aload 4, 2) := by decide +kernel
theorem dX10_harm_14 : decode cX10_harm 14 = .ok (.iload_n 2, 1) := by decide +kernel
theorem dX10_harm_15 : decode cX10_harm 15 = .ok (.iload_n 3, 1) := by decide +kernel
theorem dX10_harm_16 : decode cX10_harm 16 = .ok (.invokevirtual 149, 3) := by decide +kernel
theorem w_ml_X10_149 : Cond.methodLink RX10 149 yX2_turn ∈ g_tbl := g_tbl_in 732 (by decide +kernel) (by decide +kernel)
theorem w_cd_X2_turn : g_cw MX2_turn ∈ g_tbl := g_tbl_in 735 (by decide +kernel) (by decide +kernel)
theorem cl_X10_149 : CL RX10 149 2 MX2_turn := ⟨w_ml_X10_149, w_cd_X2_turn, w_ini_X2, by decide +kernel, by decide +kernel, by decide +kernel⟩
theorem w_im_X2_turn : Cond.instanceMethod yX2_turn ∈ g_tbl := g_tbl_in 733 (by decide +kernel) (by decide +kernel)
theorem w_se_X2_turn : Cond.selects RX2 yX2_turn yX2_turn ∈ g_tbl := g_tbl_in 734 (by decide +kernel) (by decide +kernel)
theorem dX10_harm_19 : decode cX10_harm 19 = .ok (.ifCond .eq 7, 3) := by decide +kernel
theorem dX10_harm_26 : decode cX10_harm 26 = .ok (.iconst 0, 1) := by decide +kernel
theorem dX10_harm_27 : decode cX10_harm 27 = .ok (.ireturn, 1) := by decide +kernel
set_option maxRecDepth 100000 in
set_option maxHeartbeats 4000000 in
theorem ev_X10_harm_0 (E : g_E) (x : Nat) (nu : Nat) (pl : Nat) (tp : Nat) (sd : Nat) (fi : Nat) (se : Nat) (enc : Nat) (dec : Nat) (wl : Nat) (wsp : Nat) (tpa : Nat) (i : Int32) (b : Int32)  : Ev E MX10_harm 1 22 0 0 [.ref x, .int 0, .int i, .int b] [(x, .inr (10, [.ref nu, .int 0, .ref pl, .ref tp, .ref sd, .ref fi, .ref se, .ref enc, .ref dec, .ref wl, .ref wsp])), (tp, .inr (2, [.ref tpa, .int 0])), (tpa, .inl (E.2.2.1 1, 6000, .inl (fun _ => 0)))] (fun v_ w_ => v_ = some (.int 0)) := by
  refine Ev.intro (by decide) (Nat.le_of_ble_eq_true rfl) ?_
  intro X B hr hI
  have B : Bd E X cX10_harm RX10 5 1 22 0 0 := B
  have hr : Rt E X (some .boolean) 0 0 (fun v_ w_ => v_ = some (.int 0)) := hr
  show G E X 5 [(x, .inr (10, [.ref nu, .int 0, .ref pl, .ref tp, .ref sd, .ref fi, .ref se, .ref enc, .ref dec, .ref wl, .ref wsp])), (tp, .inr (2, [.ref tpa, .int 0])), (tpa, .inl (E.2.2.1 1, 6000, .inl (fun _ => 0)))] 0 0 [(0, .ref x), (1, .int 0), (2, .int i), (3, .int b)] 0 []
  refine g_aload_n B dX10_harm_0 rfl 0 rfl ?_
  refine g_iload_n B dX10_harm_1 rfl 1 rfl ?_
  refine g_callV (st := []) (As := [.int 0]) (wr := [(tp, .inr (2, [.ref tpa, .int 0])), (tpa, .inl (E.2.2.1 1, 6000, .inl (fun _ => 0)))]) (nc' := 0) (ns' := 0) B cl_X10_133 w_im_X10_fed w_se_X10_fed (ev_X10_fed_0 E x nu pl tp sd fi se enc dec wl wsp ) rfl [0] [1, 2] rfl rfl (by decide) (by decide) (by decide) 0 rfl (fun q h => by cases h; rfl) rfl ⟨by decide, by decide⟩ rfl rfl (by decide) (by decide) rfl (Nat.le_of_ble_eq_true rfl) dX10_harm_2 (fun v w hq => ?_)
  obtain ⟨rfl, rfl⟩ := hq
  show G E X 5 [(tp, .inr (2, [.ref tpa, .int 0])), (tpa, .inl (E.2.2.1 1, 6000, .inl (fun _ => 0))), (x, .inr (10, [.ref nu, .int 0, .ref pl, .ref tp, .ref sd, .ref fi, .ref se, .ref enc, .ref dec, .ref wl, .ref wsp]))] 0 0 [(0, .ref x), (1, .int 0), (2, .int i), (3, .int b)] 5 [.ref tp]
  refine g_astore (lv' := [(4, .ref tp), (0, .ref x), (1, .int 0), (2, .int i), (3, .int b)]) B dX10_harm_5 (by decide) rfl ?_
  refine g_aload B dX10_harm_7 0 rfl ?_
  refine g_ifnull B dX10_harm_9 ?_
  refine g_aload B dX10_harm_12 0 rfl ?_
  refine g_iload_n B dX10_harm_14 rfl 3 rfl ?_
  refine g_iload_n B dX10_harm_15 rfl 4 rfl ?_
  refine g_callV (st := []) (As := [.int i, .int b]) (wr := [(tpa, .inl (E.2.2.1 1, 6000, .inl (fun _ => 0))), (x, .inr (10, [.ref nu, .int 0, .ref pl, .ref tp, .ref sd, .ref fi, .ref se, .ref enc, .ref dec, .ref wl, .ref wsp]))]) (nc' := 0) (ns' := 0) B cl_X10_149 w_im_X2_turn w_se_X2_turn (ev_X2_turn_0 E tp tpa i b ) rfl [0] [1, 2] rfl rfl (by decide) (by decide) (by decide) 0 rfl (fun q h => by cases h; rfl) rfl ⟨by decide, by decide⟩ rfl rfl (by decide) (by decide) rfl (Nat.le_of_ble_eq_true rfl) dX10_harm_16 (fun v w hq => ?_)
  obtain ⟨rfl, rfl⟩ := hq
  show G E X 5 [(tpa, .inl (E.2.2.1 1, 6000, .inl (fun _ => 0))), (x, .inr (10, [.ref nu, .int 0, .ref pl, .ref tp, .ref sd, .ref fi, .ref se, .ref enc, .ref dec, .ref wl, .ref wsp])), (tp, .inr (2, [.ref tpa, .int 0]))] 0 0 [(4, .ref tp), (0, .ref x), (1, .int 0), (2, .int i), (3, .int b)] 19 [.int 0]
  refine g_if_eq (tgt := 26) B dX10_harm_19 (by decide) (fun c19 => ?_) (fun h => absurd (by decide) h)
  refine g_iconst (v := 0) B dX10_harm_26 (by decide) ?_
  exact g_zret B hr (by decide) dX10_harm_27 (by decide) (by decide) rfl
abbrev MX10_seal : g_M := (yX10_seal, cX10_seal, 3, (some .boolean))
theorem dX10_seal_0 : decode cX10_seal 0 = .ok (.aload_n 0, 1) := by decide +kernel
theorem dX10_seal_1 : decode cX10_seal 1 = .ok (.iload_n 1, 1) := by decide +kernel
theorem dX10_seal_2 : decode cX10_seal 2 = .ok (.invokevirtual 133, 3) := by decide +kernel
theorem dX10_seal_5 : decode cX10_seal 5 = .ok (.astore_n 2, 1) := by decide +kernel
theorem dX10_seal_6 : decode cX10_seal 6 = .ok (.aload_n 2, 1) := by decide +kernel
theorem dX10_seal_7 : decode cX10_seal 7 = .ok (.ifnull 11, 3) := by decide +kernel
theorem dX10_seal_10 : decode cX10_seal 10 = .ok (.aload_n 2, 1) := by decide +kernel
theorem dX10_seal_11 : decode cX10_seal 11 = .ok (.getfield 124, 3) := by decide +kernel
theorem dX10_seal_14 : decode cX10_seal 14 = .ok (.iconst 4, 1) := by decide +kernel
theorem dX10_seal_15 : decode cX10_seal 15 = .ok (.if_icmp .gt 5, 3) := by decide +kernel
theorem dX10_seal_18 : decode cX10_seal 18 = .ok (.iconst 0, 1) := by decide +kernel
theorem dX10_seal_19 : decode cX10_seal 19 = .ok (.ireturn, 1) := by decide +kernel
set_option maxRecDepth 100000 in
set_option maxHeartbeats 4000000 in
theorem ev_X10_seal_0 (E : g_E) (x : Nat) (nu : Nat) (pl : Nat) (tp : Nat) (sd : Nat) (fi : Nat) (se : Nat) (enc : Nat) (dec : Nat) (wl : Nat) (wsp : Nat) (tpa : Nat)  : Ev E MX10_seal 1 23 0 0 [.ref x, .int 0] [(x, .inr (10, [.ref nu, .int 0, .ref pl, .ref tp, .ref sd, .ref fi, .ref se, .ref enc, .ref dec, .ref wl, .ref wsp])), (tp, .inr (2, [.ref tpa, .int 0]))] (fun v_ w_ => v_ = some (.int 0)) := by
  refine Ev.intro (by decide) (Nat.le_of_ble_eq_true rfl) ?_
  intro X B hr hI
  have B : Bd E X cX10_seal RX10 3 1 23 0 0 := B
  have hr : Rt E X (some .boolean) 0 0 (fun v_ w_ => v_ = some (.int 0)) := hr
  show G E X 3 [(x, .inr (10, [.ref nu, .int 0, .ref pl, .ref tp, .ref sd, .ref fi, .ref se, .ref enc, .ref dec, .ref wl, .ref wsp])), (tp, .inr (2, [.ref tpa, .int 0]))] 0 0 [(0, .ref x), (1, .int 0)] 0 []
  refine g_aload_n B dX10_seal_0 rfl 0 rfl ?_
  refine g_iload_n B dX10_seal_1 rfl 1 rfl ?_
  refine g_callV (st := []) (As := [.int 0]) (wr := [(tp, .inr (2, [.ref tpa, .int 0]))]) (nc' := 0) (ns' := 0) B cl_X10_133 w_im_X10_fed w_se_X10_fed (ev_X10_fed_0 E x nu pl tp sd fi se enc dec wl wsp ) rfl [0] [1] rfl rfl (by decide) (by decide) (by decide) 0 rfl (fun q h => by cases h; rfl) rfl ⟨by decide, by decide⟩ rfl rfl (by decide) (by decide) rfl (Nat.le_of_ble_eq_true rfl) dX10_seal_2 (fun v w hq => ?_)
  obtain ⟨rfl, rfl⟩ := hq
  show G E X 3 [(tp, .inr (2, [.ref tpa, .int 0])), (x, .inr (10, [.ref nu, .int 0, .ref pl, .ref tp, .ref sd, .ref fi, .ref se, .ref enc, .ref dec, .ref wl, .ref wsp]))] 0 0 [(0, .ref x), (1, .int 0)] 5 [.ref tp]
  refine g_astore_n (lv' := [(2, .ref tp), (0, .ref x), (1, .int 0)]) B dX10_seal_5 rfl (by decide) rfl ?_
  refine g_aload_n B dX10_seal_6 rfl 0 rfl ?_
  refine g_ifnull B dX10_seal_7 ?_
  refine g_aload_n B dX10_seal_10 rfl 0 rfl ?_
  refine g_get B 0 1 fl_X10_124 rfl rfl dX10_seal_11 ?_
  refine g_iconst (v := 4) B dX10_seal_14 (by decide) ?_
  refine g_icmp_gt (tgt := 20) B dX10_seal_15 (by decide) (fun h => absurd h (by decide)) (fun c15 => ?_)
  refine g_iconst (v := 0) B dX10_seal_18 (by decide) ?_
  exact g_zret B hr (by decide) dX10_seal_19 (by decide) (by decide) rfl
set_option maxRecDepth 100000 in
set_option maxHeartbeats 4000000 in
theorem ev_X10_size_1 (E : g_E) (x : Nat) (nu : Nat) (pl : Nat) (tp : Nat) (sd : Nat) (fi : Nat) (se : Nat) (enc : Nat) (dec : Nat) (wl : Nat) (wsp : Nat) (sea : Nat)  : Ev E MX10_size 1 21 0 0 [.ref x, .int 1] [(x, .inr (10, [.ref nu, .int 0, .ref pl, .ref tp, .ref sd, .ref fi, .ref se, .ref enc, .ref dec, .ref wl, .ref wsp])), (se, .inr (2, [.ref sea, .int 0]))] (fun v_ w_ => v_ = some (.int 0)) := by
  refine Ev.intro (by decide) (Nat.le_of_ble_eq_true rfl) ?_
  intro X B hr hI
  have B : Bd E X cX10_size RX10 3 1 21 0 0 := B
  have hr : Rt E X (some .int) 0 0 (fun v_ w_ => v_ = some (.int 0)) := hr
  show G E X 3 [(x, .inr (10, [.ref nu, .int 0, .ref pl, .ref tp, .ref sd, .ref fi, .ref se, .ref enc, .ref dec, .ref wl, .ref wsp])), (se, .inr (2, [.ref sea, .int 0]))] 0 0 [(0, .ref x), (1, .int 1)] 0 []
  refine g_aload_n B dX10_size_0 rfl 0 rfl ?_
  refine g_iload_n B dX10_size_1 rfl 1 rfl ?_
  refine g_callV (st := []) (As := [.int 1]) (wr := [(se, .inr (2, [.ref sea, .int 0]))]) (nc' := 0) (ns' := 0) B cl_X10_125 w_im_X10_pressed w_se_X10_pressed (ev_X10_pressed_1 E x nu pl tp sd fi se enc dec wl wsp ) rfl [0] [1] rfl rfl (by decide) (by decide) (by decide) 0 rfl (fun q h => by cases h; rfl) rfl ⟨by decide, by decide⟩ rfl rfl (by decide) (by decide) rfl (Nat.le_of_ble_eq_true rfl) dX10_size_2 (fun v w hq => ?_)
  obtain ⟨rfl, rfl⟩ := hq
  show G E X 3 [(se, .inr (2, [.ref sea, .int 0])), (x, .inr (10, [.ref nu, .int 0, .ref pl, .ref tp, .ref sd, .ref fi, .ref se, .ref enc, .ref dec, .ref wl, .ref wsp]))] 0 0 [(0, .ref x), (1, .int 1)] 5 [.ref se]
  refine g_astore_n (lv' := [(2, .ref se), (0, .ref x), (1, .int 1)]) B dX10_size_5 rfl (by decide) rfl ?_
  refine g_aload_n B dX10_size_6 rfl 0 rfl ?_
  refine g_ifnonnull (tgt := 14) B dX10_size_7 (by decide) ?_
  refine g_aload_n B dX10_size_14 rfl 0 rfl ?_
  refine g_get B 0 1 fl_X10_124 rfl rfl dX10_size_15 ?_
  exact g_iret B hr dX10_size_18 (by decide) (by decide) rfl
set_option maxRecDepth 100000 in
set_option maxHeartbeats 4000000 in
theorem ev_X10_out_1 (E : g_E) (x : Nat) (nu : Nat) (pl : Nat) (tp : Nat) (sd : Nat) (fi : Nat) (se : Nat) (enc : Nat) (dec : Nat) (wl : Nat) (wsp : Nat) (sea : Nat) (i : Int32)  : Ev E MX10_out 1 21 0 0 [.ref x, .int 1, .int i] [(x, .inr (10, [.ref nu, .int 0, .ref pl, .ref tp, .ref sd, .ref fi, .ref se, .ref enc, .ref dec, .ref wl, .ref wsp])), (se, .inr (2, [.ref sea, .int 0]))] (fun v_ w_ => v_ = some (.int (-1))) := by
  refine Ev.intro (by decide) (Nat.le_of_ble_eq_true rfl) ?_
  intro X B hr hI
  have B : Bd E X cX10_out RX10 4 1 21 0 0 := B
  have hr : Rt E X (some .int) 0 0 (fun v_ w_ => v_ = some (.int (-1))) := hr
  show G E X 4 [(x, .inr (10, [.ref nu, .int 0, .ref pl, .ref tp, .ref sd, .ref fi, .ref se, .ref enc, .ref dec, .ref wl, .ref wsp])), (se, .inr (2, [.ref sea, .int 0]))] 0 0 [(0, .ref x), (1, .int 1), (2, .int i)] 0 []
  refine g_aload_n B dX10_out_0 rfl 0 rfl ?_
  refine g_iload_n B dX10_out_1 rfl 1 rfl ?_
  refine g_callV (st := []) (As := [.int 1]) (wr := [(se, .inr (2, [.ref sea, .int 0]))]) (nc' := 0) (ns' := 0) B cl_X10_125 w_im_X10_pressed w_se_X10_pressed (ev_X10_pressed_1 E x nu pl tp sd fi se enc dec wl wsp ) rfl [0] [1] rfl rfl (by decide) (by decide) (by decide) 0 rfl (fun q h => by cases h; rfl) rfl ⟨by decide, by decide⟩ rfl rfl (by decide) (by decide) rfl (Nat.le_of_ble_eq_true rfl) dX10_out_2 (fun v w hq => ?_)
  obtain ⟨rfl, rfl⟩ := hq
  show G E X 4 [(se, .inr (2, [.ref sea, .int 0])), (x, .inr (10, [.ref nu, .int 0, .ref pl, .ref tp, .ref sd, .ref fi, .ref se, .ref enc, .ref dec, .ref wl, .ref wsp]))] 0 0 [(0, .ref x), (1, .int 1), (2, .int i)] 5 [.ref se]
  refine g_astore_n (lv' := [(3, .ref se), (0, .ref x), (1, .int 1), (2, .int i)]) B dX10_out_5 rfl (by decide) rfl ?_
  refine g_aload_n B dX10_out_6 rfl 0 rfl ?_
  refine g_ifnonnull (tgt := 14) B dX10_out_7 (by decide) ?_
  refine g_aload_n B dX10_out_14 rfl 0 rfl ?_
  refine g_iload_n B dX10_out_15 rfl 3 rfl ?_
  refine g_callV (st := []) (As := [.int i]) (wr := [(x, .inr (10, [.ref nu, .int 0, .ref pl, .ref tp, .ref sd, .ref fi, .ref se, .ref enc, .ref dec, .ref wl, .ref wsp]))]) (nc' := 0) (ns' := 0) B cl_X10_129 w_im_X2_at w_se_X2_at (ev_X2_at_0 E se sea i ) rfl [0] [1] rfl rfl (by decide) (by decide) (by decide) 0 rfl (fun q h => by cases h; rfl) rfl ⟨by decide, by decide⟩ rfl rfl (by decide) (by decide) rfl (Nat.le_of_ble_eq_true rfl) dX10_out_16 (fun v w hq => ?_)
  obtain ⟨rfl, rfl⟩ := hq
  show G E X 4 [(x, .inr (10, [.ref nu, .int 0, .ref pl, .ref tp, .ref sd, .ref fi, .ref se, .ref enc, .ref dec, .ref wl, .ref wsp])), (se, .inr (2, [.ref sea, .int 0]))] 0 0 [(3, .ref se), (0, .ref x), (1, .int 1), (2, .int i)] 19 [.int (-1)]
  exact g_iret B hr dX10_out_19 (by decide) (by decide) rfl
set_option maxRecDepth 100000 in
set_option maxHeartbeats 4000000 in
theorem ev_X10_feed_1 (E : g_E) (x : Nat) (nu : Nat) (pl : Nat) (tp : Nat) (sd : Nat) (fi : Nat) (se : Nat) (enc : Nat) (dec : Nat) (wl : Nat) (wsp : Nat) (sda : Nat) (a1 : Int32) (a2 : Int32) (a3 : Int32)  : Ev E MX10_feed 2 43 0 0 [.ref x, .int 1, .int a1, .int a2, .int a3] [(x, .inr (10, [.ref nu, .int 0, .ref pl, .ref tp, .ref sd, .ref fi, .ref se, .ref enc, .ref dec, .ref wl, .ref wsp])), (sd, .inr (2, [.ref sda, .int 0])), (sda, .inl (E.2.2.1 1, 6000, .inl (fun _ => 0)))] (fun v_ w_ => v_ = some (.int 12)) := by
  refine Ev.intro (by decide) (Nat.le_of_ble_eq_true rfl) ?_
  intro X B hr hI
  have B : Bd E X cX10_feed RX10 6 2 43 0 0 := B
  have hr : Rt E X (some .int) 0 0 (fun v_ w_ => v_ = some (.int 12)) := hr
  show G E X 6 [(x, .inr (10, [.ref nu, .int 0, .ref pl, .ref tp, .ref sd, .ref fi, .ref se, .ref enc, .ref dec, .ref wl, .ref wsp])), (sd, .inr (2, [.ref sda, .int 0])), (sda, .inl (E.2.2.1 1, 6000, .inl (fun _ => 0)))] 0 0 [(0, .ref x), (1, .int 1), (2, .int a1), (3, .int a2), (4, .int a3)] 0 []
  refine g_aload_n B dX10_feed_0 rfl 0 rfl ?_
  refine g_iload_n B dX10_feed_1 rfl 1 rfl ?_
  refine g_callV (st := []) (As := [.int 1]) (wr := [(sd, .inr (2, [.ref sda, .int 0])), (sda, .inl (E.2.2.1 1, 6000, .inl (fun _ => 0)))]) (nc' := 0) (ns' := 0) B cl_X10_133 w_im_X10_fed w_se_X10_fed (ev_X10_fed_1 E x nu pl tp sd fi se enc dec wl wsp ) rfl [0] [1, 2] rfl rfl (by decide) (by decide) (by decide) 0 rfl (fun q h => by cases h; rfl) rfl ⟨by decide, by decide⟩ rfl rfl (by decide) (by decide) rfl (Nat.le_of_ble_eq_true rfl) dX10_feed_2 (fun v w hq => ?_)
  obtain ⟨rfl, rfl⟩ := hq
  show G E X 6 [(sd, .inr (2, [.ref sda, .int 0])), (sda, .inl (E.2.2.1 1, 6000, .inl (fun _ => 0))), (x, .inr (10, [.ref nu, .int 0, .ref pl, .ref tp, .ref sd, .ref fi, .ref se, .ref enc, .ref dec, .ref wl, .ref wsp]))] 0 0 [(0, .ref x), (1, .int 1), (2, .int a1), (3, .int a2), (4, .int a3)] 5 [.ref sd]
  refine g_astore (lv' := [(5, .ref sd), (0, .ref x), (1, .int 1), (2, .int a1), (3, .int a2), (4, .int a3)]) B dX10_feed_5 (by decide) rfl ?_
  refine g_aload B dX10_feed_7 0 rfl ?_
  refine g_ifnull B dX10_feed_9 ?_
  refine g_aload B dX10_feed_12 0 rfl ?_
  refine g_get B 0 1 fl_X10_124 rfl rfl dX10_feed_14 ?_
  refine g_bipush (v := 12) B dX10_feed_17 (by decide) ?_
  refine g_iadd B dX10_feed_19 ?_
  refine g_ri (x' := 12) (by decide) ?_
  refine g_aload B dX10_feed_20 0 rfl ?_
  refine g_get B 0 0 fl_X10_136 rfl rfl dX10_feed_22 ?_
  refine g_alen (v := nI 6000) B 1 (by decide) rfl rfl dX10_feed_25 ?_
  refine g_ri (x' := 6000) (by decide) ?_
  refine g_icmp_le (tgt := 31) B dX10_feed_26 (by decide) (fun c26 => ?_) (fun h => absurd (by decide) h)
  refine g_aload B dX10_feed_31 0 rfl ?_
  refine g_iload_n B dX10_feed_33 rfl 3 rfl ?_
  refine g_callV (st := []) (As := [.int a1]) (wr := [(x, .inr (10, [.ref nu, .int 0, .ref pl, .ref tp, .ref sd, .ref fi, .ref se, .ref enc, .ref dec, .ref wl, .ref wsp]))]) (nc' := 0) (ns' := 0) B cl_X10_140 w_im_X2_addWord w_se_X2_addWord (ev_X2_addWord E sd sda 0 6000 (fun _ => 0) a1 (by first | assumption | omega | decide) (by first | assumption | omega | decide)) rfl [0, 1] [2] rfl rfl (by decide) (by decide) (by decide) 0 rfl (fun q h => by cases h; rfl) rfl ⟨by decide, by decide⟩ rfl rfl (by decide) (by decide) rfl (Nat.le_of_ble_eq_true rfl) dX10_feed_34 (fun v w hq => ?_)
  obtain ⟨rfl, rfl⟩ := hq
  show G E X 6 [(x, .inr (10, [.ref nu, .int 0, .ref pl, .ref tp, .ref sd, .ref fi, .ref se, .ref enc, .ref dec, .ref wl, .ref wsp])), (sd, .inr (2, [.ref sda, .int (nI (0 + 4))])), (sda, .inl (E.2.2.1 1, 6000, .inl (by_w (fun _ => 0) 0 a1)))] 0 0 [(5, .ref sd), (0, .ref x), (1, .int 1), (2, .int a1), (3, .int a2), (4, .int a3)] 37 []
  refine g_aload B dX10_feed_37 0 rfl ?_
  refine g_iload_n B dX10_feed_39 rfl 4 rfl ?_
  refine g_callV (st := []) (As := [.int a2]) (wr := [(x, .inr (10, [.ref nu, .int 0, .ref pl, .ref tp, .ref sd, .ref fi, .ref se, .ref enc, .ref dec, .ref wl, .ref wsp]))]) (nc' := 0) (ns' := 0) B cl_X10_140 w_im_X2_addWord w_se_X2_addWord (ev_X2_addWord E sd sda (0 + 4) 6000 (by_w (fun _ => 0) 0 a1) a2 (by first | assumption | omega | decide) (by first | assumption | omega | decide)) rfl [1, 2] [0] rfl rfl (by decide) (by decide) (by decide) 0 rfl (fun q h => by cases h; rfl) rfl ⟨by decide, by decide⟩ rfl rfl (by decide) (by decide) rfl (Nat.le_of_ble_eq_true rfl) dX10_feed_40 (fun v w hq => ?_)
  obtain ⟨rfl, rfl⟩ := hq
  show G E X 6 [(x, .inr (10, [.ref nu, .int 0, .ref pl, .ref tp, .ref sd, .ref fi, .ref se, .ref enc, .ref dec, .ref wl, .ref wsp])), (sd, .inr (2, [.ref sda, .int (nI ((0 + 4) + 4))])), (sda, .inl (E.2.2.1 1, 6000, .inl (by_w (by_w (fun _ => 0) 0 a1) (0 + 4) a2)))] 0 0 [(5, .ref sd), (0, .ref x), (1, .int 1), (2, .int a1), (3, .int a2), (4, .int a3)] 43 []
  refine g_aload B dX10_feed_43 0 rfl ?_
  refine g_iload B dX10_feed_45 5 rfl ?_
  refine g_callV (st := []) (As := [.int a3]) (wr := [(x, .inr (10, [.ref nu, .int 0, .ref pl, .ref tp, .ref sd, .ref fi, .ref se, .ref enc, .ref dec, .ref wl, .ref wsp]))]) (nc' := 0) (ns' := 0) B cl_X10_140 w_im_X2_addWord w_se_X2_addWord (ev_X2_addWord E sd sda ((0 + 4) + 4) 6000 (by_w (by_w (fun _ => 0) 0 a1) (0 + 4) a2) a3 (by first | assumption | omega | decide) (by first | assumption | omega | decide)) rfl [1, 2] [0] rfl rfl (by decide) (by decide) (by decide) 0 rfl (fun q h => by cases h; rfl) rfl ⟨by decide, by decide⟩ rfl rfl (by decide) (by decide) rfl (Nat.le_of_ble_eq_true rfl) dX10_feed_47 (fun v w hq => ?_)
  obtain ⟨rfl, rfl⟩ := hq
  show G E X 6 [(x, .inr (10, [.ref nu, .int 0, .ref pl, .ref tp, .ref sd, .ref fi, .ref se, .ref enc, .ref dec, .ref wl, .ref wsp])), (sd, .inr (2, [.ref sda, .int (nI (((0 + 4) + 4) + 4))])), (sda, .inl (E.2.2.1 1, 6000, .inl (by_w (by_w (by_w (fun _ => 0) 0 a1) (0 + 4) a2) ((0 + 4) + 4) a3)))] 0 0 [(5, .ref sd), (0, .ref x), (1, .int 1), (2, .int a1), (3, .int a2), (4, .int a3)] 50 []
  refine g_aload B dX10_feed_50 0 rfl ?_
  refine g_get B 1 1 fl_X10_124 rfl rfl dX10_feed_52 ?_
  exact g_iret B hr dX10_feed_55 (by decide) (by decide) (by decide)
set_option maxRecDepth 100000 in
set_option maxHeartbeats 4000000 in
theorem ev_X10_end_1 (E : g_E) (x : Nat) (nu : Nat) (pl : Nat) (tp : Nat) (sd : Nat) (fi : Nat) (se : Nat) (enc : Nat) (dec : Nat) (wl : Nat) (wsp : Nat) (sda : Nat) (n : Int32)  : Ev E MX10_end 1 21 0 0 [.ref x, .int 1, .int n] [(x, .inr (10, [.ref nu, .int 0, .ref pl, .ref tp, .ref sd, .ref fi, .ref se, .ref enc, .ref dec, .ref wl, .ref wsp])), (sd, .inr (2, [.ref sda, .int 0]))] (fun v_ w_ => v_ = some (.int (p1_cut n))) := by
  refine Ev.intro (by decide) (Nat.le_of_ble_eq_true rfl) ?_
  intro X B hr hI
  have B : Bd E X cX10_end RX10 4 1 21 0 0 := B
  have hr : Rt E X (some .boolean) 0 0 (fun v_ w_ => v_ = some (.int (p1_cut n))) := hr
  show G E X 4 [(x, .inr (10, [.ref nu, .int 0, .ref pl, .ref tp, .ref sd, .ref fi, .ref se, .ref enc, .ref dec, .ref wl, .ref wsp])), (sd, .inr (2, [.ref sda, .int 0]))] 0 0 [(0, .ref x), (1, .int 1), (2, .int n)] 0 []
  refine g_aload_n B dX10_end_0 rfl 0 rfl ?_
  refine g_iload_n B dX10_end_1 rfl 1 rfl ?_
  refine g_callV (st := []) (As := [.int 1]) (wr := [(sd, .inr (2, [.ref sda, .int 0]))]) (nc' := 0) (ns' := 0) B cl_X10_133 w_im_X10_fed w_se_X10_fed (ev_X10_fed_1 E x nu pl tp sd fi se enc dec wl wsp ) rfl [0] [1] rfl rfl (by decide) (by decide) (by decide) 0 rfl (fun q h => by cases h; rfl) rfl ⟨by decide, by decide⟩ rfl rfl (by decide) (by decide) rfl (Nat.le_of_ble_eq_true rfl) dX10_end_2 (fun v w hq => ?_)
  obtain ⟨rfl, rfl⟩ := hq
  show G E X 4 [(sd, .inr (2, [.ref sda, .int 0])), (x, .inr (10, [.ref nu, .int 0, .ref pl, .ref tp, .ref sd, .ref fi, .ref se, .ref enc, .ref dec, .ref wl, .ref wsp]))] 0 0 [(0, .ref x), (1, .int 1), (2, .int n)] 5 [.ref sd]
  refine g_astore_n (lv' := [(3, .ref sd), (0, .ref x), (1, .int 1), (2, .int n)]) B dX10_end_5 rfl (by decide) rfl ?_
  refine g_aload_n B dX10_end_6 rfl 0 rfl ?_
  refine g_ifnull B dX10_end_7 ?_
  refine g_aload_n B dX10_end_10 rfl 0 rfl ?_
  refine g_iload_n B dX10_end_11 rfl 3 rfl ?_
  refine g_callV (st := []) (As := [.int n]) (wr := [(x, .inr (10, [.ref nu, .int 0, .ref pl, .ref tp, .ref sd, .ref fi, .ref se, .ref enc, .ref dec, .ref wl, .ref wsp]))]) (nc' := 0) (ns' := 0) B cl_X10_143 w_im_X2_shorten w_se_X2_shorten (ev_X2_shorten_p E sd sda n ) rfl [0] [1] rfl rfl (by decide) (by decide) (by decide) 0 rfl (fun q h => by cases h; rfl) rfl ⟨by decide, by decide⟩ rfl rfl (by decide) (by decide) rfl (Nat.le_of_ble_eq_true rfl) dX10_end_12 (fun v w hq => ?_)
  obtain rfl := hq
  refine g_sub (ws' := [(x, .inr (10, [.ref nu, .int 0, .ref pl, .ref tp, .ref sd, .ref fi, .ref se, .ref enc, .ref dec, .ref wl, .ref wsp]))]) [0] (by decide) rfl ?_
  show G E X 4 [(x, .inr (10, [.ref nu, .int 0, .ref pl, .ref tp, .ref sd, .ref fi, .ref se, .ref enc, .ref dec, .ref wl, .ref wsp]))] 0 0 [(3, .ref sd), (0, .ref x), (1, .int 1), (2, .int n)] 15 [.int (p1_cut n)]
  refine g_if_eq (tgt := 22) B dX10_end_15 (by decide) (fun c15_146 => ?_) (fun c15_146 => ?_)
  · refine g_iconst (v := 0) B dX10_end_22 (by decide) ?_
    exact g_zret B hr (by decide) dX10_end_23 (by decide) (by decide) (by rw [c15_146])
  · refine g_iconst (v := 1) B dX10_end_18 (by decide) ?_
    refine g_goto (tgt := 23) B dX10_end_19 (by decide) ?_
    exact g_zret B hr (by decide) dX10_end_23 (by decide) (by decide) (by rw [p1_cut_1 c15_146])
set_option maxRecDepth 100000 in
set_option maxHeartbeats 4000000 in
theorem ev_X10_harm_1 (E : g_E) (x : Nat) (nu : Nat) (pl : Nat) (tp : Nat) (sd : Nat) (fi : Nat) (se : Nat) (enc : Nat) (dec : Nat) (wl : Nat) (wsp : Nat) (sda : Nat) (i : Int32) (b : Int32)  : Ev E MX10_harm 1 22 0 0 [.ref x, .int 1, .int i, .int b] [(x, .inr (10, [.ref nu, .int 0, .ref pl, .ref tp, .ref sd, .ref fi, .ref se, .ref enc, .ref dec, .ref wl, .ref wsp])), (sd, .inr (2, [.ref sda, .int 0])), (sda, .inl (E.2.2.1 1, 6000, .inl (fun _ => 0)))] (fun v_ w_ => v_ = some (.int 0)) := by
  refine Ev.intro (by decide) (Nat.le_of_ble_eq_true rfl) ?_
  intro X B hr hI
  have B : Bd E X cX10_harm RX10 5 1 22 0 0 := B
  have hr : Rt E X (some .boolean) 0 0 (fun v_ w_ => v_ = some (.int 0)) := hr
  show G E X 5 [(x, .inr (10, [.ref nu, .int 0, .ref pl, .ref tp, .ref sd, .ref fi, .ref se, .ref enc, .ref dec, .ref wl, .ref wsp])), (sd, .inr (2, [.ref sda, .int 0])), (sda, .inl (E.2.2.1 1, 6000, .inl (fun _ => 0)))] 0 0 [(0, .ref x), (1, .int 1), (2, .int i), (3, .int b)] 0 []
  refine g_aload_n B dX10_harm_0 rfl 0 rfl ?_
  refine g_iload_n B dX10_harm_1 rfl 1 rfl ?_
  refine g_callV (st := []) (As := [.int 1]) (wr := [(sd, .inr (2, [.ref sda, .int 0])), (sda, .inl (E.2.2.1 1, 6000, .inl (fun _ => 0)))]) (nc' := 0) (ns' := 0) B cl_X10_133 w_im_X10_fed w_se_X10_fed (ev_X10_fed_1 E x nu pl tp sd fi se enc dec wl wsp ) rfl [0] [1, 2] rfl rfl (by decide) (by decide) (by decide) 0 rfl (fun q h => by cases h; rfl) rfl ⟨by decide, by decide⟩ rfl rfl (by decide) (by decide) rfl (Nat.le_of_ble_eq_true rfl) dX10_harm_2 (fun v w hq => ?_)
  obtain ⟨rfl, rfl⟩ := hq
  show G E X 5 [(sd, .inr (2, [.ref sda, .int 0])), (sda, .inl (E.2.2.1 1, 6000, .inl (fun _ => 0))), (x, .inr (10, [.ref nu, .int 0, .ref pl, .ref tp, .ref sd, .ref fi, .ref se, .ref enc, .ref dec, .ref wl, .ref wsp]))] 0 0 [(0, .ref x), (1, .int 1), (2, .int i), (3, .int b)] 5 [.ref sd]
  refine g_astore (lv' := [(4, .ref sd), (0, .ref x), (1, .int 1), (2, .int i), (3, .int b)]) B dX10_harm_5 (by decide) rfl ?_
  refine g_aload B dX10_harm_7 0 rfl ?_
  refine g_ifnull B dX10_harm_9 ?_
  refine g_aload B dX10_harm_12 0 rfl ?_
  refine g_iload_n B dX10_harm_14 rfl 3 rfl ?_
  refine g_iload_n B dX10_harm_15 rfl 4 rfl ?_
  refine g_callV (st := []) (As := [.int i, .int b]) (wr := [(sda, .inl (E.2.2.1 1, 6000, .inl (fun _ => 0))), (x, .inr (10, [.ref nu, .int 0, .ref pl, .ref tp, .ref sd, .ref fi, .ref se, .ref enc, .ref dec, .ref wl, .ref wsp]))]) (nc' := 0) (ns' := 0) B cl_X10_149 w_im_X2_turn w_se_X2_turn (ev_X2_turn_0 E sd sda i b ) rfl [0] [1, 2] rfl rfl (by decide) (by decide) (by decide) 0 rfl (fun q h => by cases h; rfl) rfl ⟨by decide, by decide⟩ rfl rfl (by decide) (by decide) rfl (Nat.le_of_ble_eq_true rfl) dX10_harm_16 (fun v w hq => ?_)
  obtain ⟨rfl, rfl⟩ := hq
  show G E X 5 [(sda, .inl (E.2.2.1 1, 6000, .inl (fun _ => 0))), (x, .inr (10, [.ref nu, .int 0, .ref pl, .ref tp, .ref sd, .ref fi, .ref se, .ref enc, .ref dec, .ref wl, .ref wsp])), (sd, .inr (2, [.ref sda, .int 0]))] 0 0 [(4, .ref sd), (0, .ref x), (1, .int 1), (2, .int i), (3, .int b)] 19 [.int 0]
  refine g_if_eq (tgt := 26) B dX10_harm_19 (by decide) (fun c19 => ?_) (fun h => absurd (by decide) h)
  refine g_iconst (v := 0) B dX10_harm_26 (by decide) ?_
  exact g_zret B hr (by decide) dX10_harm_27 (by decide) (by decide) rfl
set_option maxRecDepth 100000 in
set_option maxHeartbeats 4000000 in
theorem ev_X10_seal_1 (E : g_E) (x : Nat) (nu : Nat) (pl : Nat) (tp : Nat) (sd : Nat) (fi : Nat) (se : Nat) (enc : Nat) (dec : Nat) (wl : Nat) (wsp : Nat) (sda : Nat)  : Ev E MX10_seal 1 23 0 0 [.ref x, .int 1] [(x, .inr (10, [.ref nu, .int 0, .ref pl, .ref tp, .ref sd, .ref fi, .ref se, .ref enc, .ref dec, .ref wl, .ref wsp])), (sd, .inr (2, [.ref sda, .int 0]))] (fun v_ w_ => v_ = some (.int 0)) := by
  refine Ev.intro (by decide) (Nat.le_of_ble_eq_true rfl) ?_
  intro X B hr hI
  have B : Bd E X cX10_seal RX10 3 1 23 0 0 := B
  have hr : Rt E X (some .boolean) 0 0 (fun v_ w_ => v_ = some (.int 0)) := hr
  show G E X 3 [(x, .inr (10, [.ref nu, .int 0, .ref pl, .ref tp, .ref sd, .ref fi, .ref se, .ref enc, .ref dec, .ref wl, .ref wsp])), (sd, .inr (2, [.ref sda, .int 0]))] 0 0 [(0, .ref x), (1, .int 1)] 0 []
  refine g_aload_n B dX10_seal_0 rfl 0 rfl ?_
  refine g_iload_n B dX10_seal_1 rfl 1 rfl ?_
  refine g_callV (st := []) (As := [.int 1]) (wr := [(sd, .inr (2, [.ref sda, .int 0]))]) (nc' := 0) (ns' := 0) B cl_X10_133 w_im_X10_fed w_se_X10_fed (ev_X10_fed_1 E x nu pl tp sd fi se enc dec wl wsp ) rfl [0] [1] rfl rfl (by decide) (by decide) (by decide) 0 rfl (fun q h => by cases h; rfl) rfl ⟨by decide, by decide⟩ rfl rfl (by decide) (by decide) rfl (Nat.le_of_ble_eq_true rfl) dX10_seal_2 (fun v w hq => ?_)
  obtain ⟨rfl, rfl⟩ := hq
  show G E X 3 [(sd, .inr (2, [.ref sda, .int 0])), (x, .inr (10, [.ref nu, .int 0, .ref pl, .ref tp, .ref sd, .ref fi, .ref se, .ref enc, .ref dec, .ref wl, .ref wsp]))] 0 0 [(0, .ref x), (1, .int 1)] 5 [.ref sd]
  refine g_astore_n (lv' := [(2, .ref sd), (0, .ref x), (1, .int 1)]) B dX10_seal_5 rfl (by decide) rfl ?_
  refine g_aload_n B dX10_seal_6 rfl 0 rfl ?_
  refine g_ifnull B dX10_seal_7 ?_
  refine g_aload_n B dX10_seal_10 rfl 0 rfl ?_
  refine g_get B 0 1 fl_X10_124 rfl rfl dX10_seal_11 ?_
  refine g_iconst (v := 4) B dX10_seal_14 (by decide) ?_
  refine g_icmp_gt (tgt := 20) B dX10_seal_15 (by decide) (fun h => absurd h (by decide)) (fun c15 => ?_)
  refine g_iconst (v := 0) B dX10_seal_18 (by decide) ?_
  exact g_zret B hr (by decide) dX10_seal_19 (by decide) (by decide) rfl
theorem dX10_size_10 : decode cX10_size 10 = .ok (.iconst (-1), 1) := by decide +kernel
theorem dX10_size_11 : decode cX10_size 11 = .ok (.goto 7, 3) := by decide +kernel
set_option maxRecDepth 100000 in
set_option maxHeartbeats 4000000 in
theorem ev_X10_size_n (E : g_E) (x : Nat) (nu : Nat) (pl : Nat) (tp : Nat) (sd : Nat) (fi : Nat) (se : Nat) (enc : Nat) (dec : Nat) (wl : Nat) (wsp : Nat) (wh : Int32) (h0 : ¬ wh = 0) (h1 : ¬ wh = 1) : Ev E MX10_size 1 21 0 0 [.ref x, .int wh] [(x, .inr (10, [.ref nu, .int 0, .ref pl, .ref tp, .ref sd, .ref fi, .ref se, .ref enc, .ref dec, .ref wl, .ref wsp]))] (fun v_ w_ => v_ = some (.int (-1))) := by
  refine Ev.intro (by decide) (Nat.le_of_ble_eq_true rfl) ?_
  intro X B hr hI
  have B : Bd E X cX10_size RX10 3 1 21 0 0 := B
  have hr : Rt E X (some .int) 0 0 (fun v_ w_ => v_ = some (.int (-1))) := hr
  show G E X 3 [(x, .inr (10, [.ref nu, .int 0, .ref pl, .ref tp, .ref sd, .ref fi, .ref se, .ref enc, .ref dec, .ref wl, .ref wsp]))] 0 0 [(0, .ref x), (1, .int wh)] 0 []
  refine g_aload_n B dX10_size_0 rfl 0 rfl ?_
  refine g_iload_n B dX10_size_1 rfl 1 rfl ?_
  refine g_callV (st := []) (As := [.int wh]) (wr := []) (nc' := 0) (ns' := 0) B cl_X10_125 w_im_X10_pressed w_se_X10_pressed (ev_X10_pressed_n E x nu pl tp sd fi se enc dec wl wsp wh (by first | assumption | omega | decide) (by first | assumption | omega | decide)) rfl [0] [] rfl rfl (by decide) (by decide) (by decide) 0 rfl (fun q h => by cases h; rfl) rfl ⟨by decide, by decide⟩ rfl rfl (by decide) (by decide) rfl (Nat.le_of_ble_eq_true rfl) dX10_size_2 (fun v w hq => ?_)
  obtain ⟨rfl, rfl⟩ := hq
  show G E X 3 [(x, .inr (10, [.ref nu, .int 0, .ref pl, .ref tp, .ref sd, .ref fi, .ref se, .ref enc, .ref dec, .ref wl, .ref wsp]))] 0 0 [(0, .ref x), (1, .int wh)] 5 [.null]
  refine g_astore_nN (lv' := [(2, .null), (0, .ref x), (1, .int wh)]) B dX10_size_5 rfl (by decide) rfl ?_
  refine g_aload_nN B dX10_size_6 rfl 0 rfl ?_
  refine g_ifnonnullN B dX10_size_7 ?_
  refine g_iconst (v := (-1)) B dX10_size_10 (by decide) ?_
  refine g_goto (tgt := 18) B dX10_size_11 (by decide) ?_
  exact g_iret B hr dX10_size_18 (by decide) (by decide) rfl
theorem dX10_out_10 : decode cX10_out 10 = .ok (.iconst (-1), 1) := by decide +kernel
theorem dX10_out_11 : decode cX10_out 11 = .ok (.goto 8, 3) := by decide +kernel
set_option maxRecDepth 100000 in
set_option maxHeartbeats 4000000 in
theorem ev_X10_out_n (E : g_E) (x : Nat) (nu : Nat) (pl : Nat) (tp : Nat) (sd : Nat) (fi : Nat) (se : Nat) (enc : Nat) (dec : Nat) (wl : Nat) (wsp : Nat) (wh : Int32) (i : Int32) (h0 : ¬ wh = 0) (h1 : ¬ wh = 1) : Ev E MX10_out 1 21 0 0 [.ref x, .int wh, .int i] [(x, .inr (10, [.ref nu, .int 0, .ref pl, .ref tp, .ref sd, .ref fi, .ref se, .ref enc, .ref dec, .ref wl, .ref wsp]))] (fun v_ w_ => v_ = some (.int (-1))) := by
  refine Ev.intro (by decide) (Nat.le_of_ble_eq_true rfl) ?_
  intro X B hr hI
  have B : Bd E X cX10_out RX10 4 1 21 0 0 := B
  have hr : Rt E X (some .int) 0 0 (fun v_ w_ => v_ = some (.int (-1))) := hr
  show G E X 4 [(x, .inr (10, [.ref nu, .int 0, .ref pl, .ref tp, .ref sd, .ref fi, .ref se, .ref enc, .ref dec, .ref wl, .ref wsp]))] 0 0 [(0, .ref x), (1, .int wh), (2, .int i)] 0 []
  refine g_aload_n B dX10_out_0 rfl 0 rfl ?_
  refine g_iload_n B dX10_out_1 rfl 1 rfl ?_
  refine g_callV (st := []) (As := [.int wh]) (wr := []) (nc' := 0) (ns' := 0) B cl_X10_125 w_im_X10_pressed w_se_X10_pressed (ev_X10_pressed_n E x nu pl tp sd fi se enc dec wl wsp wh (by first | assumption | omega | decide) (by first | assumption | omega | decide)) rfl [0] [] rfl rfl (by decide) (by decide) (by decide) 0 rfl (fun q h => by cases h; rfl) rfl ⟨by decide, by decide⟩ rfl rfl (by decide) (by decide) rfl (Nat.le_of_ble_eq_true rfl) dX10_out_2 (fun v w hq => ?_)
  obtain ⟨rfl, rfl⟩ := hq
  show G E X 4 [(x, .inr (10, [.ref nu, .int 0, .ref pl, .ref tp, .ref sd, .ref fi, .ref se, .ref enc, .ref dec, .ref wl, .ref wsp]))] 0 0 [(0, .ref x), (1, .int wh), (2, .int i)] 5 [.null]
  refine g_astore_nN (lv' := [(3, .null), (0, .ref x), (1, .int wh), (2, .int i)]) B dX10_out_5 rfl (by decide) rfl ?_
  refine g_aload_nN B dX10_out_6 rfl 0 rfl ?_
  refine g_ifnonnullN B dX10_out_7 ?_
  refine g_iconst (v := (-1)) B dX10_out_10 (by decide) ?_
  refine g_goto (tgt := 19) B dX10_out_11 (by decide) ?_
  exact g_iret B hr dX10_out_19 (by decide) (by decide) rfl
theorem dX10_feed_29 : decode cX10_feed 29 = .ok (.iconst (-1), 1) := by decide +kernel
theorem dX10_feed_30 : decode cX10_feed 30 = .ok (.ireturn, 1) := by decide +kernel
set_option maxRecDepth 100000 in
set_option maxHeartbeats 4000000 in
theorem ev_X10_feed_n (E : g_E) (x : Nat) (nu : Nat) (pl : Nat) (tp : Nat) (sd : Nat) (fi : Nat) (se : Nat) (enc : Nat) (dec : Nat) (wl : Nat) (wsp : Nat) (wh : Int32) (a1 : Int32) (a2 : Int32) (a3 : Int32) (h0 : ¬ wh = 0) (h1 : ¬ wh = 1) : Ev E MX10_feed 2 43 0 0 [.ref x, .int wh, .int a1, .int a2, .int a3] [(x, .inr (10, [.ref nu, .int 0, .ref pl, .ref tp, .ref sd, .ref fi, .ref se, .ref enc, .ref dec, .ref wl, .ref wsp]))] (fun v_ w_ => v_ = some (.int (-1))) := by
  refine Ev.intro (by decide) (Nat.le_of_ble_eq_true rfl) ?_
  intro X B hr hI
  have B : Bd E X cX10_feed RX10 6 2 43 0 0 := B
  have hr : Rt E X (some .int) 0 0 (fun v_ w_ => v_ = some (.int (-1))) := hr
  show G E X 6 [(x, .inr (10, [.ref nu, .int 0, .ref pl, .ref tp, .ref sd, .ref fi, .ref se, .ref enc, .ref dec, .ref wl, .ref wsp]))] 0 0 [(0, .ref x), (1, .int wh), (2, .int a1), (3, .int a2), (4, .int a3)] 0 []
  refine g_aload_n B dX10_feed_0 rfl 0 rfl ?_
  refine g_iload_n B dX10_feed_1 rfl 1 rfl ?_
  refine g_callV (st := []) (As := [.int wh]) (wr := []) (nc' := 0) (ns' := 0) B cl_X10_133 w_im_X10_fed w_se_X10_fed (ev_X10_fed_n E x nu pl tp sd fi se enc dec wl wsp wh (by first | assumption | omega | decide) (by first | assumption | omega | decide)) rfl [0] [] rfl rfl (by decide) (by decide) (by decide) 0 rfl (fun q h => by cases h; rfl) rfl ⟨by decide, by decide⟩ rfl rfl (by decide) (by decide) rfl (Nat.le_of_ble_eq_true rfl) dX10_feed_2 (fun v w hq => ?_)
  obtain ⟨rfl, rfl⟩ := hq
  show G E X 6 [(x, .inr (10, [.ref nu, .int 0, .ref pl, .ref tp, .ref sd, .ref fi, .ref se, .ref enc, .ref dec, .ref wl, .ref wsp]))] 0 0 [(0, .ref x), (1, .int wh), (2, .int a1), (3, .int a2), (4, .int a3)] 5 [.null]
  refine g_astoreN (lv' := [(5, .null), (0, .ref x), (1, .int wh), (2, .int a1), (3, .int a2), (4, .int a3)]) B dX10_feed_5 (by decide) rfl ?_
  refine g_aloadN B dX10_feed_7 0 rfl ?_
  refine g_ifnullN (tgt := 29) B dX10_feed_9 (by decide) ?_
  refine g_iconst (v := (-1)) B dX10_feed_29 (by decide) ?_
  exact g_iret B hr dX10_feed_30 (by decide) (by decide) rfl
set_option maxRecDepth 100000 in
set_option maxHeartbeats 4000000 in
theorem ev_X10_end_n (E : g_E) (x : Nat) (nu : Nat) (pl : Nat) (tp : Nat) (sd : Nat) (fi : Nat) (se : Nat) (enc : Nat) (dec : Nat) (wl : Nat) (wsp : Nat) (wh : Int32) (n : Int32) (h0 : ¬ wh = 0) (h1 : ¬ wh = 1) : Ev E MX10_end 1 21 0 0 [.ref x, .int wh, .int n] [(x, .inr (10, [.ref nu, .int 0, .ref pl, .ref tp, .ref sd, .ref fi, .ref se, .ref enc, .ref dec, .ref wl, .ref wsp]))] (fun v_ w_ => v_ = some (.int 0)) := by
  refine Ev.intro (by decide) (Nat.le_of_ble_eq_true rfl) ?_
  intro X B hr hI
  have B : Bd E X cX10_end RX10 4 1 21 0 0 := B
  have hr : Rt E X (some .boolean) 0 0 (fun v_ w_ => v_ = some (.int 0)) := hr
  show G E X 4 [(x, .inr (10, [.ref nu, .int 0, .ref pl, .ref tp, .ref sd, .ref fi, .ref se, .ref enc, .ref dec, .ref wl, .ref wsp]))] 0 0 [(0, .ref x), (1, .int wh), (2, .int n)] 0 []
  refine g_aload_n B dX10_end_0 rfl 0 rfl ?_
  refine g_iload_n B dX10_end_1 rfl 1 rfl ?_
  refine g_callV (st := []) (As := [.int wh]) (wr := []) (nc' := 0) (ns' := 0) B cl_X10_133 w_im_X10_fed w_se_X10_fed (ev_X10_fed_n E x nu pl tp sd fi se enc dec wl wsp wh (by first | assumption | omega | decide) (by first | assumption | omega | decide)) rfl [0] [] rfl rfl (by decide) (by decide) (by decide) 0 rfl (fun q h => by cases h; rfl) rfl ⟨by decide, by decide⟩ rfl rfl (by decide) (by decide) rfl (Nat.le_of_ble_eq_true rfl) dX10_end_2 (fun v w hq => ?_)
  obtain ⟨rfl, rfl⟩ := hq
  show G E X 4 [(x, .inr (10, [.ref nu, .int 0, .ref pl, .ref tp, .ref sd, .ref fi, .ref se, .ref enc, .ref dec, .ref wl, .ref wsp]))] 0 0 [(0, .ref x), (1, .int wh), (2, .int n)] 5 [.null]
  refine g_astore_nN (lv' := [(3, .null), (0, .ref x), (1, .int wh), (2, .int n)]) B dX10_end_5 rfl (by decide) rfl ?_
  refine g_aload_nN B dX10_end_6 rfl 0 rfl ?_
  refine g_ifnullN (tgt := 22) B dX10_end_7 (by decide) ?_
  refine g_iconst (v := 0) B dX10_end_22 (by decide) ?_
  exact g_zret B hr (by decide) dX10_end_23 (by decide) (by decide) rfl
set_option maxRecDepth 100000 in
set_option maxHeartbeats 4000000 in
theorem ev_X10_harm_n (E : g_E) (x : Nat) (nu : Nat) (pl : Nat) (tp : Nat) (sd : Nat) (fi : Nat) (se : Nat) (enc : Nat) (dec : Nat) (wl : Nat) (wsp : Nat) (wh : Int32) (i : Int32) (b : Int32) (h0 : ¬ wh = 0) (h1 : ¬ wh = 1) : Ev E MX10_harm 1 22 0 0 [.ref x, .int wh, .int i, .int b] [(x, .inr (10, [.ref nu, .int 0, .ref pl, .ref tp, .ref sd, .ref fi, .ref se, .ref enc, .ref dec, .ref wl, .ref wsp]))] (fun v_ w_ => v_ = some (.int 0)) := by
  refine Ev.intro (by decide) (Nat.le_of_ble_eq_true rfl) ?_
  intro X B hr hI
  have B : Bd E X cX10_harm RX10 5 1 22 0 0 := B
  have hr : Rt E X (some .boolean) 0 0 (fun v_ w_ => v_ = some (.int 0)) := hr
  show G E X 5 [(x, .inr (10, [.ref nu, .int 0, .ref pl, .ref tp, .ref sd, .ref fi, .ref se, .ref enc, .ref dec, .ref wl, .ref wsp]))] 0 0 [(0, .ref x), (1, .int wh), (2, .int i), (3, .int b)] 0 []
  refine g_aload_n B dX10_harm_0 rfl 0 rfl ?_
  refine g_iload_n B dX10_harm_1 rfl 1 rfl ?_
  refine g_callV (st := []) (As := [.int wh]) (wr := []) (nc' := 0) (ns' := 0) B cl_X10_133 w_im_X10_fed w_se_X10_fed (ev_X10_fed_n E x nu pl tp sd fi se enc dec wl wsp wh (by first | assumption | omega | decide) (by first | assumption | omega | decide)) rfl [0] [] rfl rfl (by decide) (by decide) (by decide) 0 rfl (fun q h => by cases h; rfl) rfl ⟨by decide, by decide⟩ rfl rfl (by decide) (by decide) rfl (Nat.le_of_ble_eq_true rfl) dX10_harm_2 (fun v w hq => ?_)
  obtain ⟨rfl, rfl⟩ := hq
  show G E X 5 [(x, .inr (10, [.ref nu, .int 0, .ref pl, .ref tp, .ref sd, .ref fi, .ref se, .ref enc, .ref dec, .ref wl, .ref wsp]))] 0 0 [(0, .ref x), (1, .int wh), (2, .int i), (3, .int b)] 5 [.null]
  refine g_astoreN (lv' := [(4, .null), (0, .ref x), (1, .int wh), (2, .int i), (3, .int b)]) B dX10_harm_5 (by decide) rfl ?_
  refine g_aloadN B dX10_harm_7 0 rfl ?_
  refine g_ifnullN (tgt := 26) B dX10_harm_9 (by decide) ?_
  refine g_iconst (v := 0) B dX10_harm_26 (by decide) ?_
  exact g_zret B hr (by decide) dX10_harm_27 (by decide) (by decide) rfl
set_option maxRecDepth 100000 in
set_option maxHeartbeats 4000000 in
theorem ev_X10_seal_n (E : g_E) (x : Nat) (nu : Nat) (pl : Nat) (tp : Nat) (sd : Nat) (fi : Nat) (se : Nat) (enc : Nat) (dec : Nat) (wl : Nat) (wsp : Nat) (wh : Int32) (h0 : ¬ wh = 0) (h1 : ¬ wh = 1) : Ev E MX10_seal 1 23 0 0 [.ref x, .int wh] [(x, .inr (10, [.ref nu, .int 0, .ref pl, .ref tp, .ref sd, .ref fi, .ref se, .ref enc, .ref dec, .ref wl, .ref wsp]))] (fun v_ w_ => v_ = some (.int 0)) := by
  refine Ev.intro (by decide) (Nat.le_of_ble_eq_true rfl) ?_
  intro X B hr hI
  have B : Bd E X cX10_seal RX10 3 1 23 0 0 := B
  have hr : Rt E X (some .boolean) 0 0 (fun v_ w_ => v_ = some (.int 0)) := hr
  show G E X 3 [(x, .inr (10, [.ref nu, .int 0, .ref pl, .ref tp, .ref sd, .ref fi, .ref se, .ref enc, .ref dec, .ref wl, .ref wsp]))] 0 0 [(0, .ref x), (1, .int wh)] 0 []
  refine g_aload_n B dX10_seal_0 rfl 0 rfl ?_
  refine g_iload_n B dX10_seal_1 rfl 1 rfl ?_
  refine g_callV (st := []) (As := [.int wh]) (wr := []) (nc' := 0) (ns' := 0) B cl_X10_133 w_im_X10_fed w_se_X10_fed (ev_X10_fed_n E x nu pl tp sd fi se enc dec wl wsp wh (by first | assumption | omega | decide) (by first | assumption | omega | decide)) rfl [0] [] rfl rfl (by decide) (by decide) (by decide) 0 rfl (fun q h => by cases h; rfl) rfl ⟨by decide, by decide⟩ rfl rfl (by decide) (by decide) rfl (Nat.le_of_ble_eq_true rfl) dX10_seal_2 (fun v w hq => ?_)
  obtain ⟨rfl, rfl⟩ := hq
  show G E X 3 [(x, .inr (10, [.ref nu, .int 0, .ref pl, .ref tp, .ref sd, .ref fi, .ref se, .ref enc, .ref dec, .ref wl, .ref wsp]))] 0 0 [(0, .ref x), (1, .int wh)] 5 [.null]
  refine g_astore_nN (lv' := [(2, .null), (0, .ref x), (1, .int wh)]) B dX10_seal_5 rfl (by decide) rfl ?_
  refine g_aload_nN B dX10_seal_6 rfl 0 rfl ?_
  refine g_ifnullN (tgt := 18) B dX10_seal_7 (by decide) ?_
  refine g_iconst (v := 0) B dX10_seal_18 (by decide) ?_
  exact g_zret B hr (by decide) dX10_seal_19 (by decide) (by decide) rfl
abbrev MX10_take : g_M := (yX10_take, cX10_take, 4, (some .int))
theorem dX10_take_0 : decode cX10_take 0 = .ok (.aload_n 0, 1) := by decide +kernel
theorem dX10_take_1 : decode cX10_take 1 = .ok (.iload_n 1, 1) := by decide +kernel
theorem dX10_take_2 : decode cX10_take 2 = .ok (.invokevirtual 133, 3) := by decide +kernel
theorem dX10_take_5 : decode cX10_take 5 = .ok (.astore_n 2, 1) := by decide +kernel
theorem dX10_take_6 : decode cX10_take 6 = .ok (.aload_n 0, 1) := by decide +kernel
theorem dX10_take_7 : decode cX10_take 7 = .ok (.iload_n 1, 1) := by decide +kernel
theorem dX10_take_8 : decode cX10_take 8 = .ok (.invokevirtual 125, 3) := by decide +kernel
theorem dX10_take_11 : decode cX10_take 11 = .ok (.astore_n 3, 1) := by decide +kernel
theorem dX10_take_12 : decode cX10_take 12 = .ok (.aload_n 2, 1) := by decide +kernel
theorem dX10_take_13 : decode cX10_take 13 = .ok (.ifnull 15, 3) := by decide +kernel
theorem dX10_take_28 : decode cX10_take 28 = .ok (.iconst (-1), 1) := by decide +kernel
theorem dX10_take_29 : decode cX10_take 29 = .ok (.ireturn, 1) := by decide +kernel
set_option maxRecDepth 100000 in
set_option maxHeartbeats 4000000 in
theorem ev_X10_take_n (E : g_E) (x : Nat) (nu : Nat) (pl : Nat) (tp : Nat) (sd : Nat) (fi : Nat) (se : Nat) (enc : Nat) (dec : Nat) (wl : Nat) (wsp : Nat) (wh : Int32) (h0 : ¬ wh = 0) (h1 : ¬ wh = 1) : Ev E MX10_take 2 82 0 0 [.ref x, .int wh] [(x, .inr (10, [.ref nu, .int 0, .ref pl, .ref tp, .ref sd, .ref fi, .ref se, .ref enc, .ref dec, .ref wl, .ref wsp]))] (fun v_ w_ => v_ = some (.int (-1))) := by
  refine Ev.intro (by decide) (Nat.le_of_ble_eq_true rfl) ?_
  intro X B hr hI
  have B : Bd E X cX10_take RX10 4 2 82 0 0 := B
  have hr : Rt E X (some .int) 0 0 (fun v_ w_ => v_ = some (.int (-1))) := hr
  show G E X 4 [(x, .inr (10, [.ref nu, .int 0, .ref pl, .ref tp, .ref sd, .ref fi, .ref se, .ref enc, .ref dec, .ref wl, .ref wsp]))] 0 0 [(0, .ref x), (1, .int wh)] 0 []
  refine g_aload_n B dX10_take_0 rfl 0 rfl ?_
  refine g_iload_n B dX10_take_1 rfl 1 rfl ?_
  refine g_callV (st := []) (As := [.int wh]) (wr := []) (nc' := 0) (ns' := 0) B cl_X10_133 w_im_X10_fed w_se_X10_fed (ev_X10_fed_n E x nu pl tp sd fi se enc dec wl wsp wh (by first | assumption | omega | decide) (by first | assumption | omega | decide)) rfl [0] [] rfl rfl (by decide) (by decide) (by decide) 0 rfl (fun q h => by cases h; rfl) rfl ⟨by decide, by decide⟩ rfl rfl (by decide) (by decide) rfl (Nat.le_of_ble_eq_true rfl) dX10_take_2 (fun v w hq => ?_)
  obtain ⟨rfl, rfl⟩ := hq
  show G E X 4 [(x, .inr (10, [.ref nu, .int 0, .ref pl, .ref tp, .ref sd, .ref fi, .ref se, .ref enc, .ref dec, .ref wl, .ref wsp]))] 0 0 [(0, .ref x), (1, .int wh)] 5 [.null]
  refine g_astore_nN (lv' := [(2, .null), (0, .ref x), (1, .int wh)]) B dX10_take_5 rfl (by decide) rfl ?_
  refine g_aload_n B dX10_take_6 rfl 1 rfl ?_
  refine g_iload_n B dX10_take_7 rfl 2 rfl ?_
  refine g_callV (st := []) (As := [.int wh]) (wr := []) (nc' := 0) (ns' := 0) B cl_X10_125 w_im_X10_pressed w_se_X10_pressed (ev_X10_pressed_n E x nu pl tp sd fi se enc dec wl wsp wh (by first | assumption | omega | decide) (by first | assumption | omega | decide)) rfl [0] [] rfl rfl (by decide) (by decide) (by decide) 0 rfl (fun q h => by cases h; rfl) rfl ⟨by decide, by decide⟩ rfl rfl (by decide) (by decide) rfl (Nat.le_of_ble_eq_true rfl) dX10_take_8 (fun v w hq => ?_)
  obtain ⟨rfl, rfl⟩ := hq
  show G E X 4 [(x, .inr (10, [.ref nu, .int 0, .ref pl, .ref tp, .ref sd, .ref fi, .ref se, .ref enc, .ref dec, .ref wl, .ref wsp]))] 0 0 [(2, .null), (0, .ref x), (1, .int wh)] 11 [.null]
  refine g_astore_nN (lv' := [(3, .null), (2, .null), (0, .ref x), (1, .int wh)]) B dX10_take_11 rfl (by decide) rfl ?_
  refine g_aload_nN B dX10_take_12 rfl 1 rfl ?_
  refine g_ifnullN (tgt := 28) B dX10_take_13 (by decide) ?_
  refine g_iconst (v := (-1)) B dX10_take_28 (by decide) ?_
  exact g_iret B hr dX10_take_29 (by decide) (by decide) rfl
theorem dX10_take_16 : decode cX10_take 16 = .ok (.aload_n 3, 1) := by decide +kernel
theorem dX10_take_17 : decode cX10_take 17 = .ok (.ifnull 11, 3) := by decide +kernel
theorem dX10_take_20 : decode cX10_take 20 = .ok (.aload_n 2, 1) := by decide +kernel
theorem dX10_take_21 : decode cX10_take 21 = .ok (.aload_n 3, 1) := by decide +kernel
theorem dX10_take_22 : decode cX10_take 22 = .ok (.invokevirtual 146, 3) := by decide +kernel
theorem w_ml_X10_146 : Cond.methodLink RX10 146 yX2_copy ∈ g_tbl := g_tbl_in 721 (by decide +kernel) (by decide +kernel)
theorem w_cd_X2_copy : g_cw MX2_copy ∈ g_tbl := g_tbl_in 724 (by decide +kernel) (by decide +kernel)
theorem cl_X10_146 : CL RX10 146 1 MX2_copy := ⟨w_ml_X10_146, w_cd_X2_copy, w_ini_X2, by decide +kernel, by decide +kernel, by decide +kernel⟩
theorem w_im_X2_copy : Cond.instanceMethod yX2_copy ∈ g_tbl := g_tbl_in 722 (by decide +kernel) (by decide +kernel)
theorem w_se_X2_copy : Cond.selects RX2 yX2_copy yX2_copy ∈ g_tbl := g_tbl_in 723 (by decide +kernel) (by decide +kernel)
theorem dX10_take_25 : decode cX10_take 25 = .ok (.ifCond .ne 5, 3) := by decide +kernel
theorem dX10_take_30 : decode cX10_take 30 = .ok (.aload_n 2, 1) := by decide +kernel
theorem dX10_take_31 : decode cX10_take 31 = .ok (.getfield 124, 3) := by decide +kernel
theorem dX10_take_34 : decode cX10_take 34 = .ok (.ireturn, 1) := by decide +kernel
set_option maxRecDepth 100000 in
set_option maxHeartbeats 4000000 in
theorem ev_X10_take_0 (E : g_E) (x : Nat) (nu : Nat) (pl : Nat) (tp : Nat) (sd : Nat) (fi : Nat) (se : Nat) (enc : Nat) (dec : Nat) (wl : Nat) (wsp : Nat) (tpa : Nat) (fia : Nat)  : Ev E MX10_take 2 82 0 0 [.ref x, .int 0] [(x, .inr (10, [.ref nu, .int 0, .ref pl, .ref tp, .ref sd, .ref fi, .ref se, .ref enc, .ref dec, .ref wl, .ref wsp])), (tp, .inr (2, [.ref tpa, .int 0])), (tpa, .inl (E.2.2.1 1, 6000, .inl (fun _ => 0))), (fi, .inr (2, [.ref fia, .int 0])), (fia, .inl (E.2.2.1 1, 9600, .inl (fun _ => 0)))] (fun v_ w_ => v_ = some (.int 0)) := by
  refine Ev.intro (by decide) (Nat.le_of_ble_eq_true rfl) ?_
  intro X B hr hI
  have B : Bd E X cX10_take RX10 4 2 82 0 0 := B
  have hr : Rt E X (some .int) 0 0 (fun v_ w_ => v_ = some (.int 0)) := hr
  show G E X 4 [(x, .inr (10, [.ref nu, .int 0, .ref pl, .ref tp, .ref sd, .ref fi, .ref se, .ref enc, .ref dec, .ref wl, .ref wsp])), (tp, .inr (2, [.ref tpa, .int 0])), (tpa, .inl (E.2.2.1 1, 6000, .inl (fun _ => 0))), (fi, .inr (2, [.ref fia, .int 0])), (fia, .inl (E.2.2.1 1, 9600, .inl (fun _ => 0)))] 0 0 [(0, .ref x), (1, .int 0)] 0 []
  refine g_aload_n B dX10_take_0 rfl 0 rfl ?_
  refine g_iload_n B dX10_take_1 rfl 1 rfl ?_
  refine g_callV (st := []) (As := [.int 0]) (wr := [(tp, .inr (2, [.ref tpa, .int 0])), (tpa, .inl (E.2.2.1 1, 6000, .inl (fun _ => 0))), (fi, .inr (2, [.ref fia, .int 0])), (fia, .inl (E.2.2.1 1, 9600, .inl (fun _ => 0)))]) (nc' := 0) (ns' := 0) B cl_X10_133 w_im_X10_fed w_se_X10_fed (ev_X10_fed_0 E x nu pl tp sd fi se enc dec wl wsp ) rfl [0] [1, 2, 3, 4] rfl rfl (by decide) (by decide) (by decide) 0 rfl (fun q h => by cases h; rfl) rfl ⟨by decide, by decide⟩ rfl rfl (by decide) (by decide) rfl (Nat.le_of_ble_eq_true rfl) dX10_take_2 (fun v w hq => ?_)
  obtain ⟨rfl, rfl⟩ := hq
  show G E X 4 [(tp, .inr (2, [.ref tpa, .int 0])), (tpa, .inl (E.2.2.1 1, 6000, .inl (fun _ => 0))), (fi, .inr (2, [.ref fia, .int 0])), (fia, .inl (E.2.2.1 1, 9600, .inl (fun _ => 0))), (x, .inr (10, [.ref nu, .int 0, .ref pl, .ref tp, .ref sd, .ref fi, .ref se, .ref enc, .ref dec, .ref wl, .ref wsp]))] 0 0 [(0, .ref x), (1, .int 0)] 5 [.ref tp]
  refine g_astore_n (lv' := [(2, .ref tp), (0, .ref x), (1, .int 0)]) B dX10_take_5 rfl (by decide) rfl ?_
  refine g_aload_n B dX10_take_6 rfl 1 rfl ?_
  refine g_iload_n B dX10_take_7 rfl 2 rfl ?_
  refine g_callV (st := []) (As := [.int 0]) (wr := [(tp, .inr (2, [.ref tpa, .int 0])), (tpa, .inl (E.2.2.1 1, 6000, .inl (fun _ => 0))), (fi, .inr (2, [.ref fia, .int 0])), (fia, .inl (E.2.2.1 1, 9600, .inl (fun _ => 0)))]) (nc' := 0) (ns' := 0) B cl_X10_125 w_im_X10_pressed w_se_X10_pressed (ev_X10_pressed_0 E x nu pl tp sd fi se enc dec wl wsp ) rfl [4] [0, 1, 2, 3] rfl rfl (by decide) (by decide) (by decide) 0 rfl (fun q h => by cases h; rfl) rfl ⟨by decide, by decide⟩ rfl rfl (by decide) (by decide) rfl (Nat.le_of_ble_eq_true rfl) dX10_take_8 (fun v w hq => ?_)
  obtain ⟨rfl, rfl⟩ := hq
  show G E X 4 [(tp, .inr (2, [.ref tpa, .int 0])), (tpa, .inl (E.2.2.1 1, 6000, .inl (fun _ => 0))), (fi, .inr (2, [.ref fia, .int 0])), (fia, .inl (E.2.2.1 1, 9600, .inl (fun _ => 0))), (x, .inr (10, [.ref nu, .int 0, .ref pl, .ref tp, .ref sd, .ref fi, .ref se, .ref enc, .ref dec, .ref wl, .ref wsp]))] 0 0 [(2, .ref tp), (0, .ref x), (1, .int 0)] 11 [.ref fi]
  refine g_astore_n (lv' := [(3, .ref fi), (2, .ref tp), (0, .ref x), (1, .int 0)]) B dX10_take_11 rfl (by decide) rfl ?_
  refine g_aload_n B dX10_take_12 rfl 1 rfl ?_
  refine g_ifnull B dX10_take_13 ?_
  refine g_aload_n B dX10_take_16 rfl 0 rfl ?_
  refine g_ifnull B dX10_take_17 ?_
  refine g_aload_n B dX10_take_20 rfl 1 rfl ?_
  refine g_aload_n B dX10_take_21 rfl 0 rfl ?_
  refine g_callV (st := []) (As := [.ref fi]) (wr := [(x, .inr (10, [.ref nu, .int 0, .ref pl, .ref tp, .ref sd, .ref fi, .ref se, .ref enc, .ref dec, .ref wl, .ref wsp]))]) (nc' := 0) (ns' := 0) B cl_X10_146 w_im_X2_copy w_se_X2_copy (ev_X2_copy_9600 E tp tpa fi fia ) rfl [0, 1, 2, 3] [4] rfl rfl (by decide) (by decide) (by decide) 0 rfl (fun q h => by cases h; rfl) rfl ⟨by decide, by decide⟩ rfl rfl (by decide) (by decide) rfl (Nat.le_of_ble_eq_true rfl) dX10_take_22 (fun v w hq => ?_)
  obtain ⟨cf_147, rfl, rfl⟩ := hq
  show G E X 4 [(x, .inr (10, [.ref nu, .int 0, .ref pl, .ref tp, .ref sd, .ref fi, .ref se, .ref enc, .ref dec, .ref wl, .ref wsp])), (tp, .inr (2, [.ref tpa, .int 0])), (tpa, .inl (E.2.2.1 1, 6000, .inl cf_147)), (fi, .inr (2, [.ref fia, .int 0])), (fia, .inl (E.2.2.1 1, 9600, .inl (fun _ => 0)))] 0 0 [(3, .ref fi), (2, .ref tp), (0, .ref x), (1, .int 0)] 25 [.int 1]
  refine g_if_ne (tgt := 30) B dX10_take_25 (by decide) (fun c25 => ?_) (fun h => absurd h (by decide))
  refine g_aload_n B dX10_take_30 rfl 1 rfl ?_
  refine g_get B 1 1 fl_X10_124 rfl rfl dX10_take_31 ?_
  exact g_iret B hr dX10_take_34 (by decide) (by decide) rfl
set_option maxRecDepth 100000 in
set_option maxHeartbeats 4000000 in
theorem ev_X10_take_1 (E : g_E) (x : Nat) (nu : Nat) (pl : Nat) (tp : Nat) (sd : Nat) (fi : Nat) (se : Nat) (enc : Nat) (dec : Nat) (wl : Nat) (wsp : Nat) (sda : Nat) (sea : Nat)  : Ev E MX10_take 2 82 0 0 [.ref x, .int 1] [(x, .inr (10, [.ref nu, .int 0, .ref pl, .ref tp, .ref sd, .ref fi, .ref se, .ref enc, .ref dec, .ref wl, .ref wsp])), (sd, .inr (2, [.ref sda, .int 0])), (sda, .inl (E.2.2.1 1, 6000, .inl (fun _ => 0))), (se, .inr (2, [.ref sea, .int 0])), (sea, .inl (E.2.2.1 1, 2450, .inl (fun _ => 0)))] (fun v_ w_ => v_ = some (.int 0)) := by
  refine Ev.intro (by decide) (Nat.le_of_ble_eq_true rfl) ?_
  intro X B hr hI
  have B : Bd E X cX10_take RX10 4 2 82 0 0 := B
  have hr : Rt E X (some .int) 0 0 (fun v_ w_ => v_ = some (.int 0)) := hr
  show G E X 4 [(x, .inr (10, [.ref nu, .int 0, .ref pl, .ref tp, .ref sd, .ref fi, .ref se, .ref enc, .ref dec, .ref wl, .ref wsp])), (sd, .inr (2, [.ref sda, .int 0])), (sda, .inl (E.2.2.1 1, 6000, .inl (fun _ => 0))), (se, .inr (2, [.ref sea, .int 0])), (sea, .inl (E.2.2.1 1, 2450, .inl (fun _ => 0)))] 0 0 [(0, .ref x), (1, .int 1)] 0 []
  refine g_aload_n B dX10_take_0 rfl 0 rfl ?_
  refine g_iload_n B dX10_take_1 rfl 1 rfl ?_
  refine g_callV (st := []) (As := [.int 1]) (wr := [(sd, .inr (2, [.ref sda, .int 0])), (sda, .inl (E.2.2.1 1, 6000, .inl (fun _ => 0))), (se, .inr (2, [.ref sea, .int 0])), (sea, .inl (E.2.2.1 1, 2450, .inl (fun _ => 0)))]) (nc' := 0) (ns' := 0) B cl_X10_133 w_im_X10_fed w_se_X10_fed (ev_X10_fed_1 E x nu pl tp sd fi se enc dec wl wsp ) rfl [0] [1, 2, 3, 4] rfl rfl (by decide) (by decide) (by decide) 0 rfl (fun q h => by cases h; rfl) rfl ⟨by decide, by decide⟩ rfl rfl (by decide) (by decide) rfl (Nat.le_of_ble_eq_true rfl) dX10_take_2 (fun v w hq => ?_)
  obtain ⟨rfl, rfl⟩ := hq
  show G E X 4 [(sd, .inr (2, [.ref sda, .int 0])), (sda, .inl (E.2.2.1 1, 6000, .inl (fun _ => 0))), (se, .inr (2, [.ref sea, .int 0])), (sea, .inl (E.2.2.1 1, 2450, .inl (fun _ => 0))), (x, .inr (10, [.ref nu, .int 0, .ref pl, .ref tp, .ref sd, .ref fi, .ref se, .ref enc, .ref dec, .ref wl, .ref wsp]))] 0 0 [(0, .ref x), (1, .int 1)] 5 [.ref sd]
  refine g_astore_n (lv' := [(2, .ref sd), (0, .ref x), (1, .int 1)]) B dX10_take_5 rfl (by decide) rfl ?_
  refine g_aload_n B dX10_take_6 rfl 1 rfl ?_
  refine g_iload_n B dX10_take_7 rfl 2 rfl ?_
  refine g_callV (st := []) (As := [.int 1]) (wr := [(sd, .inr (2, [.ref sda, .int 0])), (sda, .inl (E.2.2.1 1, 6000, .inl (fun _ => 0))), (se, .inr (2, [.ref sea, .int 0])), (sea, .inl (E.2.2.1 1, 2450, .inl (fun _ => 0)))]) (nc' := 0) (ns' := 0) B cl_X10_125 w_im_X10_pressed w_se_X10_pressed (ev_X10_pressed_1 E x nu pl tp sd fi se enc dec wl wsp ) rfl [4] [0, 1, 2, 3] rfl rfl (by decide) (by decide) (by decide) 0 rfl (fun q h => by cases h; rfl) rfl ⟨by decide, by decide⟩ rfl rfl (by decide) (by decide) rfl (Nat.le_of_ble_eq_true rfl) dX10_take_8 (fun v w hq => ?_)
  obtain ⟨rfl, rfl⟩ := hq
  show G E X 4 [(sd, .inr (2, [.ref sda, .int 0])), (sda, .inl (E.2.2.1 1, 6000, .inl (fun _ => 0))), (se, .inr (2, [.ref sea, .int 0])), (sea, .inl (E.2.2.1 1, 2450, .inl (fun _ => 0))), (x, .inr (10, [.ref nu, .int 0, .ref pl, .ref tp, .ref sd, .ref fi, .ref se, .ref enc, .ref dec, .ref wl, .ref wsp]))] 0 0 [(2, .ref sd), (0, .ref x), (1, .int 1)] 11 [.ref se]
  refine g_astore_n (lv' := [(3, .ref se), (2, .ref sd), (0, .ref x), (1, .int 1)]) B dX10_take_11 rfl (by decide) rfl ?_
  refine g_aload_n B dX10_take_12 rfl 1 rfl ?_
  refine g_ifnull B dX10_take_13 ?_
  refine g_aload_n B dX10_take_16 rfl 0 rfl ?_
  refine g_ifnull B dX10_take_17 ?_
  refine g_aload_n B dX10_take_20 rfl 1 rfl ?_
  refine g_aload_n B dX10_take_21 rfl 0 rfl ?_
  refine g_callV (st := []) (As := [.ref se]) (wr := [(x, .inr (10, [.ref nu, .int 0, .ref pl, .ref tp, .ref sd, .ref fi, .ref se, .ref enc, .ref dec, .ref wl, .ref wsp]))]) (nc' := 0) (ns' := 0) B cl_X10_146 w_im_X2_copy w_se_X2_copy (ev_X2_copy_2450 E sd sda se sea ) rfl [0, 1, 2, 3] [4] rfl rfl (by decide) (by decide) (by decide) 0 rfl (fun q h => by cases h; rfl) rfl ⟨by decide, by decide⟩ rfl rfl (by decide) (by decide) rfl (Nat.le_of_ble_eq_true rfl) dX10_take_22 (fun v w hq => ?_)
  obtain ⟨cf_148, rfl, rfl⟩ := hq
  show G E X 4 [(x, .inr (10, [.ref nu, .int 0, .ref pl, .ref tp, .ref sd, .ref fi, .ref se, .ref enc, .ref dec, .ref wl, .ref wsp])), (sd, .inr (2, [.ref sda, .int 0])), (sda, .inl (E.2.2.1 1, 6000, .inl cf_148)), (se, .inr (2, [.ref sea, .int 0])), (sea, .inl (E.2.2.1 1, 2450, .inl (fun _ => 0)))] 0 0 [(3, .ref se), (2, .ref sd), (0, .ref x), (1, .int 1)] 25 [.int 1]
  refine g_if_ne (tgt := 30) B dX10_take_25 (by decide) (fun c25 => ?_) (fun h => absurd h (by decide))
  refine g_aload_n B dX10_take_30 rfl 1 rfl ?_
  refine g_get B 1 1 fl_X10_124 rfl rfl dX10_take_31 ?_
  exact g_iret B hr dX10_take_34 (by decide) (by decide) rfl
abbrev MX10_decode : g_M := (yX10_decode, cX10_decode, 2, (some .int))
theorem dX10_decode_0 : decode cX10_decode 0 = .ok (.aload_n 0, 1) := by decide +kernel
theorem dX10_decode_1 : decode cX10_decode 1 = .ok (.getfield 57, 3) := by decide +kernel
theorem dX10_decode_4 : decode cX10_decode 4 = .ok (.aload_n 0, 1) := by decide +kernel
theorem dX10_decode_5 : decode cX10_decode 5 = .ok (.getfield 68, 3) := by decide +kernel
theorem dX10_decode_8 : decode cX10_decode 8 = .ok (.invokevirtual 159, 3) := by decide +kernel
theorem w_ml_X10_159 : Cond.methodLink RX10 159 yX3_readFirst ∈ g_tbl := g_tbl_in 746 (by decide +kernel) (by decide +kernel)
theorem w_cd_X3_readFirst : g_cw MX3_readFirst ∈ g_tbl := g_tbl_in 749 (by decide +kernel) (by decide +kernel)
theorem cl_X10_159 : CL RX10 159 1 MX3_readFirst := ⟨w_ml_X10_159, w_cd_X3_readFirst, w_ini_X3, by decide +kernel, by decide +kernel, by decide +kernel⟩
theorem w_im_X3_readFirst : Cond.instanceMethod yX3_readFirst ∈ g_tbl := g_tbl_in 747 (by decide +kernel) (by decide +kernel)
theorem w_se_X3_readFirst : Cond.selects RX3 yX3_readFirst yX3_readFirst ∈ g_tbl := g_tbl_in 748 (by decide +kernel) (by decide +kernel)
theorem dX10_decode_11 : decode cX10_decode 11 = .ok (.istore_n 1, 1) := by decide +kernel
theorem dX10_decode_12 : decode cX10_decode 12 = .ok (.aload_n 0, 1) := by decide +kernel
theorem dX10_decode_13 : decode cX10_decode 13 = .ok (.getfield 29, 3) := by decide +kernel
theorem dX10_decode_16 : decode cX10_decode 16 = .ok (.iconst 0, 1) := by decide +kernel
theorem dX10_decode_17 : decode cX10_decode 17 = .ok (.invokevirtual 143, 3) := by decide +kernel
theorem dX10_decode_20 : decode cX10_decode 20 = .ok (.pop, 1) := by decide +kernel
theorem dX10_decode_21 : decode cX10_decode 21 = .ok (.iload_n 1, 1) := by decide +kernel
theorem dX10_decode_22 : decode cX10_decode 22 = .ok (.ifCond .eq 8, 3) := by decide +kernel
theorem dX10_decode_25 : decode cX10_decode 25 = .ok (.iload_n 1, 1) := by decide +kernel
theorem dX10_decode_26 : decode cX10_decode 26 = .ok (.ineg, 1) := by decide +kernel
theorem dX10_decode_27 : decode cX10_decode 27 = .ok (.goto 7, 3) := by decide +kernel
theorem dX10_decode_34 : decode cX10_decode 34 = .ok (.ireturn, 1) := by decide +kernel
set_option maxRecDepth 100000 in
set_option maxHeartbeats 4000000 in
theorem ev_X10_decode (E : g_E) (x : Nat) (nu : Nat) (pl : Nat) (tp : Nat) (sd : Nat) (fi : Nat) (se : Nat) (enc : Nat) (dec : Nat) (wl : Nat) (wsp : Nat) (dtb : Nat) (dsb : Nat) (sh : Nat) (tpa : Nat)  : Ev E MX10_decode 7 179 0 0 [.ref x] [(x, .inr (10, [.ref nu, .int 0, .ref pl, .ref tp, .ref sd, .ref fi, .ref se, .ref enc, .ref dec, .ref wl, .ref wsp])), (dec, .inr (3, [.ref tp, .ref sd, .ref dtb, .ref dsb, .ref sh])), (tp, .inr (2, [.ref tpa, .int 0]))] (fun v_ w_ => v_ = some (.int (-1))) := by
  refine Ev.intro (by decide) (Nat.le_of_ble_eq_true rfl) ?_
  intro X B hr hI
  have B : Bd E X cX10_decode RX10 2 7 179 0 0 := B
  have hr : Rt E X (some .int) 0 0 (fun v_ w_ => v_ = some (.int (-1))) := hr
  show G E X 2 [(x, .inr (10, [.ref nu, .int 0, .ref pl, .ref tp, .ref sd, .ref fi, .ref se, .ref enc, .ref dec, .ref wl, .ref wsp])), (dec, .inr (3, [.ref tp, .ref sd, .ref dtb, .ref dsb, .ref sh])), (tp, .inr (2, [.ref tpa, .int 0]))] 0 0 [(0, .ref x)] 0 []
  refine g_aload_n B dX10_decode_0 rfl 0 rfl ?_
  refine g_get B 0 8 fl_X10_57 rfl rfl dX10_decode_1 ?_
  refine g_aload_n B dX10_decode_4 rfl 0 rfl ?_
  refine g_get B 0 10 fl_X10_68 rfl rfl dX10_decode_5 ?_
  refine g_callV (st := []) (As := [.ref wsp]) (wr := [(x, .inr (10, [.ref nu, .int 0, .ref pl, .ref tp, .ref sd, .ref fi, .ref se, .ref enc, .ref dec, .ref wl, .ref wsp]))]) (nc' := 0) (ns' := 0) B cl_X10_159 w_im_X3_readFirst w_se_X3_readFirst (ev_X3_readFirst_0 E dec tp sd dtb dsb sh tpa wsp ) rfl [1, 2] [0] rfl rfl (by decide) (by decide) (by decide) 0 rfl (fun q h => by cases h; rfl) rfl ⟨by decide, by decide⟩ rfl rfl (by decide) (by decide) rfl (Nat.le_of_ble_eq_true rfl) dX10_decode_8 (fun v w hq => ?_)
  obtain ⟨rfl, rfl⟩ := hq
  show G E X 2 [(x, .inr (10, [.ref nu, .int 0, .ref pl, .ref tp, .ref sd, .ref fi, .ref se, .ref enc, .ref dec, .ref wl, .ref wsp])), (dec, .inr (3, [.ref tp, .ref sd, .ref dtb, .ref dsb, .ref sh])), (tp, .inr (2, [.ref tpa, .int 0]))] 0 0 [(0, .ref x)] 11 [.int 1]
  refine g_istore_n (lv' := [(1, .int 1), (0, .ref x)]) B dX10_decode_11 rfl (by decide) rfl ?_
  refine g_aload_n B dX10_decode_12 rfl 1 rfl ?_
  refine g_get B 0 3 fl_X10_29 rfl rfl dX10_decode_13 ?_
  refine g_iconst (v := 0) B dX10_decode_16 (by decide) ?_
  refine g_callV (st := []) (As := [.int 0]) (wr := [(x, .inr (10, [.ref nu, .int 0, .ref pl, .ref tp, .ref sd, .ref fi, .ref se, .ref enc, .ref dec, .ref wl, .ref wsp])), (dec, .inr (3, [.ref tp, .ref sd, .ref dtb, .ref dsb, .ref sh]))]) (nc' := 0) (ns' := 0) B cl_X10_143 w_im_X2_shorten w_se_X2_shorten (ev_X2_shorten_0 E tp tpa ) rfl [2] [0, 1] rfl rfl (by decide) (by decide) (by decide) 0 rfl (fun q h => by cases h; rfl) rfl ⟨by decide, by decide⟩ rfl rfl (by decide) (by decide) rfl (Nat.le_of_ble_eq_true rfl) dX10_decode_17 (fun v w hq => ?_)
  obtain ⟨rfl, rfl⟩ := hq
  show G E X 2 [(x, .inr (10, [.ref nu, .int 0, .ref pl, .ref tp, .ref sd, .ref fi, .ref se, .ref enc, .ref dec, .ref wl, .ref wsp])), (dec, .inr (3, [.ref tp, .ref sd, .ref dtb, .ref dsb, .ref sh])), (tp, .inr (2, [.ref tpa, .int 0]))] 0 0 [(1, .int 1), (0, .ref x)] 20 [.int 1]
  refine g_pop B dX10_decode_20 rfl ?_
  refine g_iload_n B dX10_decode_21 rfl 0 rfl ?_
  refine g_if_eq (tgt := 30) B dX10_decode_22 (by decide) (fun h => absurd h (by decide)) (fun c22 => ?_)
  refine g_iload_n B dX10_decode_25 rfl 0 rfl ?_
  refine g_ineg B dX10_decode_26 ?_
  refine g_goto (tgt := 34) B dX10_decode_27 (by decide) ?_
  exact g_iret B hr dX10_decode_34 (by decide) (by decide) rfl
abbrev MX10_decodeBoth : g_M := (yX10_decodeBoth, cX10_decodeBoth, 2, (some .int))
theorem dX10_decodeBoth_0 : decode cX10_decodeBoth 0 = .ok (.aload_n 0, 1) := by decide +kernel
theorem dX10_decodeBoth_1 : decode cX10_decodeBoth 1 = .ok (.getfield 57, 3) := by decide +kernel
theorem dX10_decodeBoth_4 : decode cX10_decodeBoth 4 = .ok (.aload_n 0, 1) := by decide +kernel
theorem dX10_decodeBoth_5 : decode cX10_decodeBoth 5 = .ok (.getfield 68, 3) := by decide +kernel
theorem dX10_decodeBoth_8 : decode cX10_decodeBoth 8 = .ok (.invokevirtual 159, 3) := by decide +kernel
theorem dX10_decodeBoth_11 : decode cX10_decodeBoth 11 = .ok (.istore_n 1, 1) := by decide +kernel
theorem dX10_decodeBoth_12 : decode cX10_decodeBoth 12 = .ok (.iload_n 1, 1) := by decide +kernel
theorem dX10_decodeBoth_13 : decode cX10_decodeBoth 13 = .ok (.ifCond .ne 15, 3) := by decide +kernel
theorem dX10_decodeBoth_28 : decode cX10_decodeBoth 28 = .ok (.aload_n 0, 1) := by decide +kernel
theorem dX10_decodeBoth_29 : decode cX10_decodeBoth 29 = .ok (.getfield 29, 3) := by decide +kernel
theorem dX10_decodeBoth_32 : decode cX10_decodeBoth 32 = .ok (.iconst 0, 1) := by decide +kernel
theorem dX10_decodeBoth_33 : decode cX10_decodeBoth 33 = .ok (.invokevirtual 143, 3) := by decide +kernel
theorem dX10_decodeBoth_36 : decode cX10_decodeBoth 36 = .ok (.pop, 1) := by decide +kernel
theorem dX10_decodeBoth_37 : decode cX10_decodeBoth 37 = .ok (.aload_n 0, 1) := by decide +kernel
theorem dX10_decodeBoth_38 : decode cX10_decodeBoth 38 = .ok (.getfield 33, 3) := by decide +kernel
theorem dX10_decodeBoth_41 : decode cX10_decodeBoth 41 = .ok (.iconst 0, 1) := by decide +kernel
theorem dX10_decodeBoth_42 : decode cX10_decodeBoth 42 = .ok (.invokevirtual 143, 3) := by decide +kernel
theorem dX10_decodeBoth_45 : decode cX10_decodeBoth 45 = .ok (.pop, 1) := by decide +kernel
theorem dX10_decodeBoth_46 : decode cX10_decodeBoth 46 = .ok (.iload_n 1, 1) := by decide +kernel
theorem dX10_decodeBoth_47 : decode cX10_decodeBoth 47 = .ok (.ifCond .eq 8, 3) := by decide +kernel
theorem dX10_decodeBoth_50 : decode cX10_decodeBoth 50 = .ok (.iload_n 1, 1) := by decide +kernel
theorem dX10_decodeBoth_51 : decode cX10_decodeBoth 51 = .ok (.ineg, 1) := by decide +kernel
theorem dX10_decodeBoth_52 : decode cX10_decodeBoth 52 = .ok (.goto 7, 3) := by decide +kernel
theorem dX10_decodeBoth_59 : decode cX10_decodeBoth 59 = .ok (.ireturn, 1) := by decide +kernel
set_option maxRecDepth 100000 in
set_option maxHeartbeats 4000000 in
theorem ev_X10_decodeBoth (E : g_E) (x : Nat) (nu : Nat) (pl : Nat) (tp : Nat) (sd : Nat) (fi : Nat) (se : Nat) (enc : Nat) (dec : Nat) (wl : Nat) (wsp : Nat) (dtb : Nat) (dsb : Nat) (sh : Nat) (tpa : Nat) (sda : Nat)  : Ev E MX10_decodeBoth 7 179 0 0 [.ref x] [(x, .inr (10, [.ref nu, .int 0, .ref pl, .ref tp, .ref sd, .ref fi, .ref se, .ref enc, .ref dec, .ref wl, .ref wsp])), (dec, .inr (3, [.ref tp, .ref sd, .ref dtb, .ref dsb, .ref sh])), (tp, .inr (2, [.ref tpa, .int 0])), (sd, .inr (2, [.ref sda, .int 0]))] (fun v_ w_ => v_ = some (.int (-1))) := by
  refine Ev.intro (by decide) (Nat.le_of_ble_eq_true rfl) ?_
  intro X B hr hI
  have B : Bd E X cX10_decodeBoth RX10 2 7 179 0 0 := B
  have hr : Rt E X (some .int) 0 0 (fun v_ w_ => v_ = some (.int (-1))) := hr
  show G E X 2 [(x, .inr (10, [.ref nu, .int 0, .ref pl, .ref tp, .ref sd, .ref fi, .ref se, .ref enc, .ref dec, .ref wl, .ref wsp])), (dec, .inr (3, [.ref tp, .ref sd, .ref dtb, .ref dsb, .ref sh])), (tp, .inr (2, [.ref tpa, .int 0])), (sd, .inr (2, [.ref sda, .int 0]))] 0 0 [(0, .ref x)] 0 []
  refine g_aload_n B dX10_decodeBoth_0 rfl 0 rfl ?_
  refine g_get B 0 8 fl_X10_57 rfl rfl dX10_decodeBoth_1 ?_
  refine g_aload_n B dX10_decodeBoth_4 rfl 0 rfl ?_
  refine g_get B 0 10 fl_X10_68 rfl rfl dX10_decodeBoth_5 ?_
  refine g_callV (st := []) (As := [.ref wsp]) (wr := [(x, .inr (10, [.ref nu, .int 0, .ref pl, .ref tp, .ref sd, .ref fi, .ref se, .ref enc, .ref dec, .ref wl, .ref wsp])), (sd, .inr (2, [.ref sda, .int 0]))]) (nc' := 0) (ns' := 0) B cl_X10_159 w_im_X3_readFirst w_se_X3_readFirst (ev_X3_readFirst_0 E dec tp sd dtb dsb sh tpa wsp ) rfl [1, 2] [0, 3] rfl rfl (by decide) (by decide) (by decide) 0 rfl (fun q h => by cases h; rfl) rfl ⟨by decide, by decide⟩ rfl rfl (by decide) (by decide) rfl (Nat.le_of_ble_eq_true rfl) dX10_decodeBoth_8 (fun v w hq => ?_)
  obtain ⟨rfl, rfl⟩ := hq
  show G E X 2 [(x, .inr (10, [.ref nu, .int 0, .ref pl, .ref tp, .ref sd, .ref fi, .ref se, .ref enc, .ref dec, .ref wl, .ref wsp])), (sd, .inr (2, [.ref sda, .int 0])), (dec, .inr (3, [.ref tp, .ref sd, .ref dtb, .ref dsb, .ref sh])), (tp, .inr (2, [.ref tpa, .int 0]))] 0 0 [(0, .ref x)] 11 [.int 1]
  refine g_istore_n (lv' := [(1, .int 1), (0, .ref x)]) B dX10_decodeBoth_11 rfl (by decide) rfl ?_
  refine g_iload_n B dX10_decodeBoth_12 rfl 0 rfl ?_
  refine g_if_ne (tgt := 28) B dX10_decodeBoth_13 (by decide) (fun c13 => ?_) (fun h => absurd h (by decide))
  refine g_aload_n B dX10_decodeBoth_28 rfl 1 rfl ?_
  refine g_get B 0 3 fl_X10_29 rfl rfl dX10_decodeBoth_29 ?_
  refine g_iconst (v := 0) B dX10_decodeBoth_32 (by decide) ?_
  refine g_callV (st := []) (As := [.int 0]) (wr := [(x, .inr (10, [.ref nu, .int 0, .ref pl, .ref tp, .ref sd, .ref fi, .ref se, .ref enc, .ref dec, .ref wl, .ref wsp])), (sd, .inr (2, [.ref sda, .int 0])), (dec, .inr (3, [.ref tp, .ref sd, .ref dtb, .ref dsb, .ref sh]))]) (nc' := 0) (ns' := 0) B cl_X10_143 w_im_X2_shorten w_se_X2_shorten (ev_X2_shorten_0 E tp tpa ) rfl [3] [0, 1, 2] rfl rfl (by decide) (by decide) (by decide) 0 rfl (fun q h => by cases h; rfl) rfl ⟨by decide, by decide⟩ rfl rfl (by decide) (by decide) rfl (Nat.le_of_ble_eq_true rfl) dX10_decodeBoth_33 (fun v w hq => ?_)
  obtain ⟨rfl, rfl⟩ := hq
  show G E X 2 [(x, .inr (10, [.ref nu, .int 0, .ref pl, .ref tp, .ref sd, .ref fi, .ref se, .ref enc, .ref dec, .ref wl, .ref wsp])), (sd, .inr (2, [.ref sda, .int 0])), (dec, .inr (3, [.ref tp, .ref sd, .ref dtb, .ref dsb, .ref sh])), (tp, .inr (2, [.ref tpa, .int 0]))] 0 0 [(1, .int 1), (0, .ref x)] 36 [.int 1]
  refine g_pop B dX10_decodeBoth_36 rfl ?_
  refine g_aload_n B dX10_decodeBoth_37 rfl 1 rfl ?_
  refine g_get B 0 4 fl_X10_33 rfl rfl dX10_decodeBoth_38 ?_
  refine g_iconst (v := 0) B dX10_decodeBoth_41 (by decide) ?_
  refine g_callV (st := []) (As := [.int 0]) (wr := [(x, .inr (10, [.ref nu, .int 0, .ref pl, .ref tp, .ref sd, .ref fi, .ref se, .ref enc, .ref dec, .ref wl, .ref wsp])), (dec, .inr (3, [.ref tp, .ref sd, .ref dtb, .ref dsb, .ref sh])), (tp, .inr (2, [.ref tpa, .int 0]))]) (nc' := 0) (ns' := 0) B cl_X10_143 w_im_X2_shorten w_se_X2_shorten (ev_X2_shorten_0 E sd sda ) rfl [1] [0, 2, 3] rfl rfl (by decide) (by decide) (by decide) 0 rfl (fun q h => by cases h; rfl) rfl ⟨by decide, by decide⟩ rfl rfl (by decide) (by decide) rfl (Nat.le_of_ble_eq_true rfl) dX10_decodeBoth_42 (fun v w hq => ?_)
  obtain ⟨rfl, rfl⟩ := hq
  show G E X 2 [(x, .inr (10, [.ref nu, .int 0, .ref pl, .ref tp, .ref sd, .ref fi, .ref se, .ref enc, .ref dec, .ref wl, .ref wsp])), (dec, .inr (3, [.ref tp, .ref sd, .ref dtb, .ref dsb, .ref sh])), (tp, .inr (2, [.ref tpa, .int 0])), (sd, .inr (2, [.ref sda, .int 0]))] 0 0 [(1, .int 1), (0, .ref x)] 45 [.int 1]
  refine g_pop B dX10_decodeBoth_45 rfl ?_
  refine g_iload_n B dX10_decodeBoth_46 rfl 0 rfl ?_
  refine g_if_eq (tgt := 55) B dX10_decodeBoth_47 (by decide) (fun h => absurd h (by decide)) (fun c47 => ?_)
  refine g_iload_n B dX10_decodeBoth_50 rfl 0 rfl ?_
  refine g_ineg B dX10_decodeBoth_51 ?_
  refine g_goto (tgt := 59) B dX10_decodeBoth_52 (by decide) ?_
  exact g_iret B hr dX10_decodeBoth_59 (by decide) (by decide) rfl
abbrev MX10_look : g_M := (yX10_look, cX10_look, 2, (some .int))
theorem dX10_look_0 : decode cX10_look 0 = .ok (.aload_n 0, 1) := by decide +kernel
theorem dX10_look_1 : decode cX10_look 1 = .ok (.getfield 64, 3) := by decide +kernel
theorem dX10_look_4 : decode cX10_look 4 = .ok (.iload_n 1, 1) := by decide +kernel
theorem dX10_look_5 : decode cX10_look 5 = .ok (.invokevirtual 169, 3) := by decide +kernel
theorem w_ml_X10_169 : Cond.methodLink RX10 169 yX9_tell ∈ g_tbl := g_tbl_in 854 (by decide +kernel) (by decide +kernel)
theorem w_cd_X9_tell : g_cw MX9_tell ∈ g_tbl := g_tbl_in 857 (by decide +kernel) (by decide +kernel)
theorem cl_X10_169 : CL RX10 169 1 MX9_tell := ⟨w_ml_X10_169, w_cd_X9_tell, w_ini_X9, by decide +kernel, by decide +kernel, by decide +kernel⟩
theorem w_im_X9_tell : Cond.instanceMethod yX9_tell ∈ g_tbl := g_tbl_in 855 (by decide +kernel) (by decide +kernel)
theorem w_se_X9_tell : Cond.selects RX9 yX9_tell yX9_tell ∈ g_tbl := g_tbl_in 856 (by decide +kernel) (by decide +kernel)
theorem dX10_look_8 : decode cX10_look 8 = .ok (.ireturn, 1) := by decide +kernel
set_option maxRecDepth 100000 in
set_option maxHeartbeats 4000000 in
theorem ev_X10_look (E : g_E) (x : Nat) (nu : Nat) (pl : Nat) (tp : Nat) (sd : Nat) (fi : Nat) (se : Nat) (enc : Nat) (dec : Nat) (wl : Nat) (wsp : Nat) (l_ps : Nat) (l_md : Nat) (l_p : Nat) (l_we : Nat) (l_inp : Nat) (l_ba : Nat) (l_gu : Nat) (l_te : Nat) (l_de : Nat) (wh : Int32)  : Ev E MX10_look 1 21 0 0 [.ref x, .int wh] [(x, .inr (10, [.ref nu, .int 0, .ref pl, .ref tp, .ref sd, .ref fi, .ref se, .ref enc, .ref dec, .ref wl, .ref wsp])), (wl, .inr (9, [.ref l_ps, .ref l_md, .int 0, .int 0, .int 0, .int 0, .int 0, .int 0, .int 0, .int 0, .int 0, .int 0])), (l_ps, .inr (6, [.ref l_p, .ref l_we, .ref l_inp, .ref l_ba, .ref l_gu, .int 0, .int 0, .int 0])), (l_p, .inr (7, [.ref l_te, .ref l_de, .int 0]))] (fun v_ w_ => v_ = some (.int (p1_look wh))) := by
  refine Ev.intro (by decide) (Nat.le_of_ble_eq_true rfl) ?_
  intro X B hr hI
  have B : Bd E X cX10_look RX10 2 1 21 0 0 := B
  have hr : Rt E X (some .int) 0 0 (fun v_ w_ => v_ = some (.int (p1_look wh))) := hr
  show G E X 2 [(x, .inr (10, [.ref nu, .int 0, .ref pl, .ref tp, .ref sd, .ref fi, .ref se, .ref enc, .ref dec, .ref wl, .ref wsp])), (wl, .inr (9, [.ref l_ps, .ref l_md, .int 0, .int 0, .int 0, .int 0, .int 0, .int 0, .int 0, .int 0, .int 0, .int 0])), (l_ps, .inr (6, [.ref l_p, .ref l_we, .ref l_inp, .ref l_ba, .ref l_gu, .int 0, .int 0, .int 0])), (l_p, .inr (7, [.ref l_te, .ref l_de, .int 0]))] 0 0 [(0, .ref x), (1, .int wh)] 0 []
  refine g_aload_n B dX10_look_0 rfl 0 rfl ?_
  refine g_get B 0 9 fl_X10_64 rfl rfl dX10_look_1 ?_
  refine g_iload_n B dX10_look_4 rfl 1 rfl ?_
  refine g_callV (st := []) (As := [.int wh]) (wr := [(x, .inr (10, [.ref nu, .int 0, .ref pl, .ref tp, .ref sd, .ref fi, .ref se, .ref enc, .ref dec, .ref wl, .ref wsp]))]) (nc' := 0) (ns' := 0) B cl_X10_169 w_im_X9_tell w_se_X9_tell (ev_X9_tell E wl l_ps l_md l_p l_we l_inp l_ba l_gu l_te l_de wh ) rfl [1, 2, 3] [0] rfl rfl (by decide) (by decide) (by decide) 0 rfl (fun q h => by cases h; rfl) rfl ⟨by decide, by decide⟩ rfl rfl (by decide) (by decide) rfl (Nat.le_of_ble_eq_true rfl) dX10_look_5 (fun v w hq => ?_)
  obtain rfl := hq
  refine g_sub (ws' := [(x, .inr (10, [.ref nu, .int 0, .ref pl, .ref tp, .ref sd, .ref fi, .ref se, .ref enc, .ref dec, .ref wl, .ref wsp]))]) [0] (by decide) rfl ?_
  show G E X 2 [(x, .inr (10, [.ref nu, .int 0, .ref pl, .ref tp, .ref sd, .ref fi, .ref se, .ref enc, .ref dec, .ref wl, .ref wsp]))] 0 0 [(0, .ref x), (1, .int wh)] 8 [.int (p1_look wh)]
  exact g_iret B hr dX10_look_8 (by decide) (by decide) rfl
abbrev MX10_weight : g_M := (yX10_weight, cX10_weight, 3, (some .int))
theorem dX10_weight_0 : decode cX10_weight 0 = .ok (.iload_n 2, 1) := by decide +kernel
theorem dX10_weight_1 : decode cX10_weight 1 = .ok (.ifCond .lt 35, 3) := by decide +kernel
theorem dX10_weight_36 : decode cX10_weight 36 = .ok (.iconst 0, 1) := by decide +kernel
theorem dX10_weight_37 : decode cX10_weight 37 = .ok (.ireturn, 1) := by decide +kernel
theorem dX10_weight_4 : decode cX10_weight 4 = .ok (.iload_n 2, 1) := by decide +kernel
theorem dX10_weight_5 : decode cX10_weight 5 = .ok (.aload_n 0, 1) := by decide +kernel
theorem dX10_weight_6 : decode cX10_weight 6 = .ok (.getfield 64, 3) := by decide +kernel
theorem dX10_weight_9 : decode cX10_weight 9 = .ok (.getfield 172, 3) := by decide +kernel
theorem w_fl_X10_172 : Cond.fieldLink RX10 172 (TX9 3).1 (TX9 3).2.1 (TX9 3).2.2.1 ∈ g_tbl := g_tbl_in 323 (by decide +kernel) (by decide +kernel)
theorem fl_X10_172 : FL RX10 172 9 3 := ⟨RX9, TX9, 12, rfl, by decide, inX_X9, w_fl_X10_172⟩
theorem dX10_weight_12 : decode cX10_weight 12 = .ok (.if_icmp .ge 24, 3) := by decide +kernel
set_option maxRecDepth 100000 in
set_option maxHeartbeats 4000000 in
theorem ev_X10_weight (E : g_E) (x : Nat) (nu : Nat) (pl : Nat) (tp : Nat) (sd : Nat) (fi : Nat) (se : Nat) (enc : Nat) (dec : Nat) (wl : Nat) (wsp : Nat) (l_ps : Nat) (l_md : Nat) (a1 : Int32) (a2 : Int32)  : Ev E MX10_weight 2 44 0 0 [.ref x, .int a1, .int a2] [(x, .inr (10, [.ref nu, .int 0, .ref pl, .ref tp, .ref sd, .ref fi, .ref se, .ref enc, .ref dec, .ref wl, .ref wsp])), (wl, .inr (9, [.ref l_ps, .ref l_md, .int 0, .int 0, .int 0, .int 0, .int 0, .int 0, .int 0, .int 0, .int 0, .int 0]))] (fun v_ w_ => v_ = some (.int 0)) := by
  refine Ev.intro (by decide) (Nat.le_of_ble_eq_true rfl) ?_
  intro X B hr hI
  have B : Bd E X cX10_weight RX10 3 2 44 0 0 := B
  have hr : Rt E X (some .int) 0 0 (fun v_ w_ => v_ = some (.int 0)) := hr
  show G E X 3 [(x, .inr (10, [.ref nu, .int 0, .ref pl, .ref tp, .ref sd, .ref fi, .ref se, .ref enc, .ref dec, .ref wl, .ref wsp])), (wl, .inr (9, [.ref l_ps, .ref l_md, .int 0, .int 0, .int 0, .int 0, .int 0, .int 0, .int 0, .int 0, .int 0, .int 0]))] 0 0 [(0, .ref x), (1, .int a1), (2, .int a2)] 0 []
  refine g_iload_n B dX10_weight_0 rfl 2 rfl ?_
  refine g_if_lt (tgt := 36) B dX10_weight_1 (by decide) (fun c1_149 => ?_) (fun c1_149 => ?_)
  · refine g_iconst (v := 0) B dX10_weight_36 (by decide) ?_
    exact g_iret B hr dX10_weight_37 (by decide) (by decide) rfl
  · refine g_iload_n B dX10_weight_4 rfl 2 rfl ?_
    refine g_aload_n B dX10_weight_5 rfl 0 rfl ?_
    refine g_get B 0 9 fl_X10_64 rfl rfl dX10_weight_6 ?_
    refine g_get B 1 3 fl_X10_172 rfl rfl dX10_weight_9 ?_
    refine g_icmp_ge (tgt := 36) B dX10_weight_12 (by decide) (fun c12 => ?_) (fun h => absurd (o_1 c1_149) h)
    refine g_iconst (v := 0) B dX10_weight_36 (by decide) ?_
    exact g_iret B hr dX10_weight_37 (by decide) (by decide) rfl
abbrev MX10_median : g_M := (yX10_median, cX10_median, 3, (some .long))
theorem dX10_median_0 : decode cX10_median 0 = .ok (.iload_n 1, 1) := by decide +kernel
theorem dX10_median_1 : decode cX10_median 1 = .ok (.ifCond .lt 23, 3) := by decide +kernel
theorem dX10_median_24 : decode cX10_median 24 = .ok (.lconst 0, 1) := by decide +kernel
theorem dX10_median_25 : decode cX10_median 25 = .ok (.lreturn, 1) := by decide +kernel
theorem dX10_median_4 : decode cX10_median 4 = .ok (.iload_n 1, 1) := by decide +kernel
theorem dX10_median_5 : decode cX10_median 5 = .ok (.aload_n 0, 1) := by decide +kernel
theorem dX10_median_6 : decode cX10_median 6 = .ok (.getfield 64, 3) := by decide +kernel
theorem dX10_median_9 : decode cX10_median 9 = .ok (.getfield 172, 3) := by decide +kernel
theorem dX10_median_12 : decode cX10_median 12 = .ok (.if_icmp .ge 12, 3) := by decide +kernel
set_option maxRecDepth 100000 in
set_option maxHeartbeats 4000000 in
theorem ev_X10_median (E : g_E) (x : Nat) (nu : Nat) (pl : Nat) (tp : Nat) (sd : Nat) (fi : Nat) (se : Nat) (enc : Nat) (dec : Nat) (wl : Nat) (wsp : Nat) (l_ps : Nat) (l_md : Nat) (a1 : Int32) (a2 : Int32)  : Ev E MX10_median 1 23 0 0 [.ref x, .int a1, .int a2] [(x, .inr (10, [.ref nu, .int 0, .ref pl, .ref tp, .ref sd, .ref fi, .ref se, .ref enc, .ref dec, .ref wl, .ref wsp])), (wl, .inr (9, [.ref l_ps, .ref l_md, .int 0, .int 0, .int 0, .int 0, .int 0, .int 0, .int 0, .int 0, .int 0, .int 0]))] (fun v_ w_ => v_ = some (.long 0)) := by
  refine Ev.intro (by decide) (Nat.le_of_ble_eq_true rfl) ?_
  intro X B hr hI
  have B : Bd E X cX10_median RX10 3 1 23 0 0 := B
  have hr : Rt E X (some .long) 0 0 (fun v_ w_ => v_ = some (.long 0)) := hr
  show G E X 3 [(x, .inr (10, [.ref nu, .int 0, .ref pl, .ref tp, .ref sd, .ref fi, .ref se, .ref enc, .ref dec, .ref wl, .ref wsp])), (wl, .inr (9, [.ref l_ps, .ref l_md, .int 0, .int 0, .int 0, .int 0, .int 0, .int 0, .int 0, .int 0, .int 0, .int 0]))] 0 0 [(0, .ref x), (1, .int a1), (2, .int a2)] 0 []
  refine g_iload_n B dX10_median_0 rfl 1 rfl ?_
  refine g_if_lt (tgt := 24) B dX10_median_1 (by decide) (fun c1_150 => ?_) (fun c1_150 => ?_)
  · refine g_lconst (v := 0) B dX10_median_24 (by decide) ?_
    exact g_lret B hr dX10_median_25 (by decide) (by decide) rfl
  · refine g_iload_n B dX10_median_4 rfl 1 rfl ?_
    refine g_aload_n B dX10_median_5 rfl 0 rfl ?_
    refine g_get B 0 9 fl_X10_64 rfl rfl dX10_median_6 ?_
    refine g_get B 1 3 fl_X10_172 rfl rfl dX10_median_9 ?_
    refine g_icmp_ge (tgt := 24) B dX10_median_12 (by decide) (fun c12 => ?_) (fun h => absurd (o_1 c1_150) h)
    refine g_lconst (v := 0) B dX10_median_24 (by decide) ?_
    exact g_lret B hr dX10_median_25 (by decide) (by decide) rfl
abbrev MX10_count : g_M := (yX10_count, cX10_count, 2, (some .int))
theorem dX10_count_0 : decode cX10_count 0 = .ok (.iload_n 1, 1) := by decide +kernel
theorem dX10_count_1 : decode cX10_count 1 = .ok (.tableswitch 60 0 3 #[31, 36, 44, 52], 31) := by decide +kernel
theorem dX10_count_32 : decode cX10_count 32 = .ok (.aload_n 0, 1) := by decide +kernel
theorem dX10_count_33 : decode cX10_count 33 = .ok (.getfield 13, 3) := by decide +kernel
theorem dX10_count_36 : decode cX10_count 36 = .ok (.ireturn, 1) := by decide +kernel
theorem dX10_count_37 : decode cX10_count 37 = .ok (.aload_n 0, 1) := by decide +kernel
theorem dX10_count_38 : decode cX10_count 38 = .ok (.getfield 20, 3) := by decide +kernel
theorem dX10_count_41 : decode cX10_count 41 = .ok (.getfield 75, 3) := by decide +kernel
theorem dX10_count_44 : decode cX10_count 44 = .ok (.ireturn, 1) := by decide +kernel
theorem dX10_count_45 : decode cX10_count 45 = .ok (.aload_n 0, 1) := by decide +kernel
theorem dX10_count_46 : decode cX10_count 46 = .ok (.getfield 29, 3) := by decide +kernel
theorem dX10_count_49 : decode cX10_count 49 = .ok (.getfield 124, 3) := by decide +kernel
theorem dX10_count_52 : decode cX10_count 52 = .ok (.ireturn, 1) := by decide +kernel
theorem dX10_count_53 : decode cX10_count 53 = .ok (.aload_n 0, 1) := by decide +kernel
theorem dX10_count_54 : decode cX10_count 54 = .ok (.getfield 33, 3) := by decide +kernel
theorem dX10_count_57 : decode cX10_count 57 = .ok (.getfield 124, 3) := by decide +kernel
theorem dX10_count_60 : decode cX10_count 60 = .ok (.ireturn, 1) := by decide +kernel
theorem dX10_count_61 : decode cX10_count 61 = .ok (.iconst (-1), 1) := by decide +kernel
theorem dX10_count_62 : decode cX10_count 62 = .ok (.ireturn, 1) := by decide +kernel
set_option maxRecDepth 100000 in
set_option maxHeartbeats 4000000 in
theorem ev_X10_count (E : g_E) (x : Nat) (nu : Nat) (pl : Nat) (tp : Nat) (sd : Nat) (fi : Nat) (se : Nat) (enc : Nat) (dec : Nat) (wl : Nat) (wsp : Nat) (plt : Nat) (pld : Nat) (tpa : Nat) (sda : Nat) (wh : Int32)  : Ev E MX10_count 0 0 0 0 [.ref x, .int wh] [(x, .inr (10, [.ref nu, .int 0, .ref pl, .ref tp, .ref sd, .ref fi, .ref se, .ref enc, .ref dec, .ref wl, .ref wsp])), (pl, .inr (7, [.ref plt, .ref pld, .int 0])), (tp, .inr (2, [.ref tpa, .int 0])), (sd, .inr (2, [.ref sda, .int 0]))] (fun v_ w_ => v_ = some (.int (p1_count wh))) := by
  refine Ev.intro (by decide) (Nat.le_of_ble_eq_true rfl) ?_
  intro X B hr hI
  have B : Bd E X cX10_count RX10 2 0 0 0 0 := B
  have hr : Rt E X (some .int) 0 0 (fun v_ w_ => v_ = some (.int (p1_count wh))) := hr
  show G E X 2 [(x, .inr (10, [.ref nu, .int 0, .ref pl, .ref tp, .ref sd, .ref fi, .ref se, .ref enc, .ref dec, .ref wl, .ref wsp])), (pl, .inr (7, [.ref plt, .ref pld, .int 0])), (tp, .inr (2, [.ref tpa, .int 0])), (sd, .inr (2, [.ref sda, .int 0]))] 0 0 [(0, .ref x), (1, .int wh)] 0 []
  refine g_iload_n B dX10_count_0 rfl 1 rfl ?_
  by_cases sw_151 : wh = 0
  · subst sw_151
    refine g_tableIn (off := 31) (tgt := 32) B dX10_count_1 (by decide) (by decide) (by decide) (by decide) ?_
    refine g_aload_n B dX10_count_32 rfl 0 rfl ?_
    refine g_get B 0 1 fl_X10_13 rfl rfl dX10_count_33 ?_
    exact g_iret B hr dX10_count_36 (by decide) (by decide) (by decide)
  by_cases sw_152 : wh = 1
  · subst sw_152
    refine g_tableIn (off := 36) (tgt := 37) B dX10_count_1 (by decide) (by decide) (by decide) (by decide) ?_
    refine g_aload_n B dX10_count_37 rfl 0 rfl ?_
    refine g_get B 0 2 fl_X10_20 rfl rfl dX10_count_38 ?_
    refine g_get B 1 2 fl_X10_75 rfl rfl dX10_count_41 ?_
    exact g_iret B hr dX10_count_44 (by decide) (by decide) (by decide)
  by_cases sw_153 : wh = 2
  · subst sw_153
    refine g_tableIn (off := 44) (tgt := 45) B dX10_count_1 (by decide) (by decide) (by decide) (by decide) ?_
    refine g_aload_n B dX10_count_45 rfl 0 rfl ?_
    refine g_get B 0 3 fl_X10_29 rfl rfl dX10_count_46 ?_
    refine g_get B 2 1 fl_X10_124 rfl rfl dX10_count_49 ?_
    exact g_iret B hr dX10_count_52 (by decide) (by decide) (by decide)
  by_cases sw_154 : wh = 3
  · subst sw_154
    refine g_tableIn (off := 52) (tgt := 53) B dX10_count_1 (by decide) (by decide) (by decide) (by decide) ?_
    refine g_aload_n B dX10_count_53 rfl 0 rfl ?_
    refine g_get B 0 4 fl_X10_33 rfl rfl dX10_count_54 ?_
    refine g_get B 3 1 fl_X10_124 rfl rfl dX10_count_57 ?_
    exact g_iret B hr dX10_count_60 (by decide) (by decide) (by decide)
  have so_155 : Int32.toInt wh < 0 ∨ 3 < Int32.toInt wh := by
    have nsw_151 := lv_neT (a := 0) sw_151 rfl
    have nsw_152 := lv_neT (a := 1) sw_152 rfl
    have nsw_153 := lv_neT (a := 2) sw_153 rfl
    have nsw_154 := lv_neT (a := 3) sw_154 rfl
    omega
  refine g_tableOut (tgt := 61) B dX10_count_1 so_155 (by decide) ?_
  refine g_iconst (v := (-1)) B dX10_count_61 (by decide) ?_
  exact g_iret B hr dX10_count_62 (by decide) (by decide) (by simp [p1_count, so_155])
