def p1_cut (n : Int32) : Int32 := if n < 0 then 0 else if n ≤ 0 then 1 else 0
def tI (t : Int32) : Int32 := if t < 1 then (if t = 17 then 1 else if t = 18 then 1 else if t = -1 then 1 else if t = -3 then 1 else 0) else if t ≤ 8 then 1 else if t = 17 then 1 else if t = 18 then 1 else if t = -1 then 1 else if t = -3 then 1 else 0
def p1_add (t d : Int32) : Int32 := if tI t = 0 then 0 else if d < 1 then 0 else if d ≤ 7 then 1 else 0
def p1_pass (t d : Int32) : Int32 := if p1_add t d = 0 then -1 else p1_add t d
def p1_look (w : Int32) : Int32 := if w.toInt < 0 ∨ 9 < w.toInt then -1 else 0
theorem p1_cut_1 {n : Int32} (h : ¬ p1_cut n = 0) : p1_cut n = 1 := by
  unfold p1_cut at h ⊢
  split at h
  · exact absurd rfl h
  · rename_i h1
    rw [if_neg h1]
    split at h
    · rename_i h2; rw [if_pos h2]
    · exact absurd rfl h
def p1_count (w : Int32) : Int32 := if w.toInt < 0 ∨ 3 < w.toInt then -1 else 0
abbrev MX10_say : g_M := (yX10_say, cX10_say, 6, (some .int))
theorem dX10_say_0 : decode cX10_say 0 = .ok (.aload_n 0, 1) := by decide +kernel
theorem dX10_say_1 : decode cX10_say 1 = .ok (.getfield 13, 3) := by decide +kernel
theorem dX10_say_4 : decode cX10_say 4 = .ok (.ifCond .lt 17, 3) := by decide +kernel
theorem dX10_say_7 : decode cX10_say 7 = .ok (.aload_n 0, 1) := by decide +kernel
theorem dX10_say_8 : decode cX10_say 8 = .ok (.getfield 13, 3) := by decide +kernel
theorem dX10_say_11 : decode cX10_say 11 = .ok (.iconst 5, 1) := by decide +kernel
theorem dX10_say_12 : decode cX10_say 12 = .ok (.iadd, 1) := by decide +kernel
theorem dX10_say_13 : decode cX10_say 13 = .ok (.aload_n 0, 1) := by decide +kernel
theorem dX10_say_14 : decode cX10_say 14 = .ok (.getfield 9, 3) := by decide +kernel
theorem dX10_say_17 : decode cX10_say 17 = .ok (.arraylength, 1) := by decide +kernel
theorem dX10_say_18 : decode cX10_say 18 = .ok (.if_icmp .le 5, 3) := by decide +kernel
theorem dX10_say_23 : decode cX10_say 23 = .ok (.aload_n 0, 1) := by decide +kernel
theorem dX10_say_24 : decode cX10_say 24 = .ok (.getfield 9, 3) := by decide +kernel
theorem dX10_say_27 : decode cX10_say 27 = .ok (.aload_n 0, 1) := by decide +kernel
theorem dX10_say_28 : decode cX10_say 28 = .ok (.getfield 13, 3) := by decide +kernel
theorem dX10_say_31 : decode cX10_say 31 = .ok (.iload_n 1, 1) := by decide +kernel
theorem dX10_say_32 : decode cX10_say 32 = .ok (.iastore, 1) := by decide +kernel
theorem dX10_say_33 : decode cX10_say 33 = .ok (.aload_n 0, 1) := by decide +kernel
theorem dX10_say_34 : decode cX10_say 34 = .ok (.getfield 9, 3) := by decide +kernel
theorem dX10_say_37 : decode cX10_say 37 = .ok (.aload_n 0, 1) := by decide +kernel
theorem dX10_say_38 : decode cX10_say 38 = .ok (.getfield 13, 3) := by decide +kernel
theorem dX10_say_41 : decode cX10_say 41 = .ok (.iconst 1, 1) := by decide +kernel
theorem dX10_say_42 : decode cX10_say 42 = .ok (.iadd, 1) := by decide +kernel
theorem dX10_say_43 : decode cX10_say 43 = .ok (.iload_n 2, 1) := by decide +kernel
theorem dX10_say_44 : decode cX10_say 44 = .ok (.iastore, 1) := by decide +kernel
theorem dX10_say_45 : decode cX10_say 45 = .ok (.aload_n 0, 1) := by decide +kernel
theorem dX10_say_46 : decode cX10_say 46 = .ok (.getfield 9, 3) := by decide +kernel
theorem dX10_say_49 : decode cX10_say 49 = .ok (.aload_n 0, 1) := by decide +kernel
theorem dX10_say_50 : decode cX10_say 50 = .ok (.getfield 13, 3) := by decide +kernel
theorem dX10_say_53 : decode cX10_say 53 = .ok (.iconst 2, 1) := by decide +kernel
theorem dX10_say_54 : decode cX10_say 54 = .ok (.iadd, 1) := by decide +kernel
theorem dX10_say_55 : decode cX10_say 55 = .ok (.iload_n 3, 1) := by decide +kernel
theorem dX10_say_56 : decode cX10_say 56 = .ok (.iastore, 1) := by decide +kernel
theorem dX10_say_57 : decode cX10_say 57 = .ok (.aload_n 0, 1) := by decide +kernel
theorem dX10_say_58 : decode cX10_say 58 = .ok (.getfield 9, 3) := by decide +kernel
theorem dX10_say_61 : decode cX10_say 61 = .ok (.aload_n 0, 1) := by decide +kernel
theorem dX10_say_62 : decode cX10_say 62 = .ok (.getfield 13, 3) := by decide +kernel
theorem dX10_say_65 : decode cX10_say 65 = .ok (.iconst 3, 1) := by decide +kernel
theorem dX10_say_66 : decode cX10_say 66 = .ok (.iadd, 1) := by decide +kernel
theorem dX10_say_67 : decode cX10_say 67 = .ok (.iload 4, 2) := by decide +kernel
theorem dX10_say_69 : decode cX10_say 69 = .ok (.iastore, 1) := by decide +kernel
theorem dX10_say_70 : decode cX10_say 70 = .ok (.aload_n 0, 1) := by decide +kernel
theorem dX10_say_71 : decode cX10_say 71 = .ok (.getfield 9, 3) := by decide +kernel
theorem dX10_say_74 : decode cX10_say 74 = .ok (.aload_n 0, 1) := by decide +kernel
theorem dX10_say_75 : decode cX10_say 75 = .ok (.getfield 13, 3) := by decide +kernel
theorem dX10_say_78 : decode cX10_say 78 = .ok (.iconst 4, 1) := by decide +kernel
theorem dX10_say_79 : decode cX10_say 79 = .ok (.iadd, 1) := by decide +kernel
theorem dX10_say_80 : decode cX10_say 80 = .ok (.iload 5, 2) := by decide +kernel
theorem dX10_say_82 : decode cX10_say 82 = .ok (.iastore, 1) := by decide +kernel
theorem dX10_say_83 : decode cX10_say 83 = .ok (.aload_n 0, 1) := by decide +kernel
theorem dX10_say_84 : decode cX10_say 84 = .ok (.dup, 1) := by decide +kernel
theorem dX10_say_85 : decode cX10_say 85 = .ok (.getfield 13, 3) := by decide +kernel
theorem dX10_say_88 : decode cX10_say 88 = .ok (.iconst 5, 1) := by decide +kernel
theorem dX10_say_89 : decode cX10_say 89 = .ok (.iadd, 1) := by decide +kernel
theorem dX10_say_90 : decode cX10_say 90 = .ok (.putfield 13, 3) := by decide +kernel
theorem dX10_say_93 : decode cX10_say 93 = .ok (.aload_n 0, 1) := by decide +kernel
theorem dX10_say_94 : decode cX10_say 94 = .ok (.getfield 13, 3) := by decide +kernel
theorem dX10_say_97 : decode cX10_say 97 = .ok (.ireturn, 1) := by decide +kernel
set_option maxRecDepth 100000 in
set_option maxHeartbeats 4000000 in
theorem ev_X10_say (E : g_E) (x : Nat) (nu : Nat) (pl : Nat) (tp : Nat) (sd : Nat) (fi : Nat) (se : Nat) (enc : Nat) (dec : Nat) (wl : Nat) (wsp : Nat) (a1 : Int32) (a2 : Int32) (a3 : Int32) (a4 : Int32) (a5 : Int32)  : Ev E MX10_say 0 0 0 0 [.ref x, .int a1, .int a2, .int a3, .int a4, .int a5] [(x, .inr (10, [.ref nu, .int 0, .ref pl, .ref tp, .ref sd, .ref fi, .ref se, .ref enc, .ref dec, .ref wl, .ref wsp])), (nu, .inl (E.2.2.1 0, 1200, .inl (fun _ => 0)))] (fun v_ w_ => v_ = some (.int 5)) := by
  refine Ev.intro (by decide) (Nat.le_of_ble_eq_true rfl) ?_
  intro X B hr hI
  have B : Bd E X cX10_say RX10 6 0 0 0 0 := B
  have hr : Rt E X (some .int) 0 0 (fun v_ w_ => v_ = some (.int 5)) := hr
  show G E X 6 [(x, .inr (10, [.ref nu, .int 0, .ref pl, .ref tp, .ref sd, .ref fi, .ref se, .ref enc, .ref dec, .ref wl, .ref wsp])), (nu, .inl (E.2.2.1 0, 1200, .inl (fun _ => 0)))] 0 0 [(0, .ref x), (1, .int a1), (2, .int a2), (3, .int a3), (4, .int a4), (5, .int a5)] 0 []
  refine g_aload_n B dX10_say_0 rfl 0 rfl ?_
  refine g_get B 0 1 fl_X10_13 rfl rfl dX10_say_1 ?_
  refine g_if_lt (tgt := 21) B dX10_say_4 (by decide) (fun h => absurd h (by decide)) (fun c4 => ?_)
  refine g_aload_n B dX10_say_7 rfl 0 rfl ?_
  refine g_get B 0 1 fl_X10_13 rfl rfl dX10_say_8 ?_
  refine g_iconst (v := 5) B dX10_say_11 (by decide) ?_
  refine g_iadd B dX10_say_12 ?_
  refine g_ri (x' := 5) (by decide) ?_
  refine g_aload_n B dX10_say_13 rfl 0 rfl ?_
  refine g_get B 0 0 fl_X10_9 rfl rfl dX10_say_14 ?_
  refine g_alen (v := nI 1200) B 1 (by decide) rfl rfl dX10_say_17 ?_
  refine g_ri (x' := 1200) (by decide) ?_
  refine g_icmp_le (tgt := 23) B dX10_say_18 (by decide) (fun c18 => ?_) (fun h => absurd (by decide) h)
  refine g_aload_n B dX10_say_23 rfl 0 rfl ?_
  refine g_get B 0 0 fl_X10_9 rfl rfl dX10_say_24 ?_
  refine g_aload_n B dX10_say_27 rfl 0 rfl ?_
  refine g_get B 0 1 fl_X10_13 rfl rfl dX10_say_28 ?_
  refine g_iload_n B dX10_say_31 rfl 1 rfl ?_
  refine g_iast (ws' := [(x, .inr (10, [.ref nu, .int 0, .ref pl, .ref tp, .ref sd, .ref fi, .ref se, .ref enc, .ref dec, .ref wl, .ref wsp])), (nu, .inl (E.2.2.1 0, 1200, .inl (upd (fun _ => 0) (Int32.toNatClampNeg 0) a1)))]) B 1 rfl (by unfold vp_in; decide) rfl dX10_say_32 ?_
  refine g_aload_n B dX10_say_33 rfl 0 rfl ?_
  refine g_get B 0 0 fl_X10_9 rfl rfl dX10_say_34 ?_
  refine g_aload_n B dX10_say_37 rfl 0 rfl ?_
  refine g_get B 0 1 fl_X10_13 rfl rfl dX10_say_38 ?_
  refine g_iconst (v := 1) B dX10_say_41 (by decide) ?_
  refine g_iadd B dX10_say_42 ?_
  refine g_ri (x' := 1) (by decide) ?_
  refine g_iload_n B dX10_say_43 rfl 2 rfl ?_
  refine g_iast (ws' := [(x, .inr (10, [.ref nu, .int 0, .ref pl, .ref tp, .ref sd, .ref fi, .ref se, .ref enc, .ref dec, .ref wl, .ref wsp])), (nu, .inl (E.2.2.1 0, 1200, .inl (upd (upd (fun _ => 0) (Int32.toNatClampNeg 0) a1) (Int32.toNatClampNeg 1) a2)))]) B 1 rfl (by unfold vp_in; decide) rfl dX10_say_44 ?_
  refine g_aload_n B dX10_say_45 rfl 0 rfl ?_
  refine g_get B 0 0 fl_X10_9 rfl rfl dX10_say_46 ?_
  refine g_aload_n B dX10_say_49 rfl 0 rfl ?_
  refine g_get B 0 1 fl_X10_13 rfl rfl dX10_say_50 ?_
  refine g_iconst (v := 2) B dX10_say_53 (by decide) ?_
  refine g_iadd B dX10_say_54 ?_
  refine g_ri (x' := 2) (by decide) ?_
  refine g_iload_n B dX10_say_55 rfl 3 rfl ?_
  refine g_iast (ws' := [(x, .inr (10, [.ref nu, .int 0, .ref pl, .ref tp, .ref sd, .ref fi, .ref se, .ref enc, .ref dec, .ref wl, .ref wsp])), (nu, .inl (E.2.2.1 0, 1200, .inl (upd (upd (upd (fun _ => 0) (Int32.toNatClampNeg 0) a1) (Int32.toNatClampNeg 1) a2) (Int32.toNatClampNeg 2) a3)))]) B 1 rfl (by unfold vp_in; decide) rfl dX10_say_56 ?_
  refine g_aload_n B dX10_say_57 rfl 0 rfl ?_
  refine g_get B 0 0 fl_X10_9 rfl rfl dX10_say_58 ?_
  refine g_aload_n B dX10_say_61 rfl 0 rfl ?_
  refine g_get B 0 1 fl_X10_13 rfl rfl dX10_say_62 ?_
  refine g_iconst (v := 3) B dX10_say_65 (by decide) ?_
  refine g_iadd B dX10_say_66 ?_
  refine g_ri (x' := 3) (by decide) ?_
  refine g_iload B dX10_say_67 4 rfl ?_
  refine g_iast (ws' := [(x, .inr (10, [.ref nu, .int 0, .ref pl, .ref tp, .ref sd, .ref fi, .ref se, .ref enc, .ref dec, .ref wl, .ref wsp])), (nu, .inl (E.2.2.1 0, 1200, .inl (upd (upd (upd (upd (fun _ => 0) (Int32.toNatClampNeg 0) a1) (Int32.toNatClampNeg 1) a2) (Int32.toNatClampNeg 2) a3) (Int32.toNatClampNeg 3) a4)))]) B 1 rfl (by unfold vp_in; decide) rfl dX10_say_69 ?_
  refine g_aload_n B dX10_say_70 rfl 0 rfl ?_
  refine g_get B 0 0 fl_X10_9 rfl rfl dX10_say_71 ?_
  refine g_aload_n B dX10_say_74 rfl 0 rfl ?_
  refine g_get B 0 1 fl_X10_13 rfl rfl dX10_say_75 ?_
  refine g_iconst (v := 4) B dX10_say_78 (by decide) ?_
  refine g_iadd B dX10_say_79 ?_
  refine g_ri (x' := 4) (by decide) ?_
  refine g_iload B dX10_say_80 5 rfl ?_
  refine g_iast (ws' := [(x, .inr (10, [.ref nu, .int 0, .ref pl, .ref tp, .ref sd, .ref fi, .ref se, .ref enc, .ref dec, .ref wl, .ref wsp])), (nu, .inl (E.2.2.1 0, 1200, .inl (upd (upd (upd (upd (upd (fun _ => 0) (Int32.toNatClampNeg 0) a1) (Int32.toNatClampNeg 1) a2) (Int32.toNatClampNeg 2) a3) (Int32.toNatClampNeg 3) a4) (Int32.toNatClampNeg 4) a5)))]) B 1 rfl (by unfold vp_in; decide) rfl dX10_say_82 ?_
  refine g_aload_n B dX10_say_83 rfl 0 rfl ?_
  refine g_dup B dX10_say_84 rfl ?_
  refine g_get B 0 1 fl_X10_13 rfl rfl dX10_say_85 ?_
  refine g_iconst (v := 5) B dX10_say_88 (by decide) ?_
  refine g_iadd B dX10_say_89 ?_
  refine g_ri (x' := 5) (by decide) ?_
  refine g_put (ws' := [(x, .inr (10, [.ref nu, .int 5, .ref pl, .ref tp, .ref sd, .ref fi, .ref se, .ref enc, .ref dec, .ref wl, .ref wsp])), (nu, .inl (E.2.2.1 0, 1200, .inl (upd (upd (upd (upd (upd (fun _ => 0) (Int32.toNatClampNeg 0) a1) (Int32.toNatClampNeg 1) a2) (Int32.toNatClampNeg 2) a3) (Int32.toNatClampNeg 3) a4) (Int32.toNatClampNeg 4) a5)))]) B 0 1 fl_X10_13 pf_X10_1 rfl (Nat.le_of_ble_eq_true rfl) rfl rfl rfl dX10_say_90 ?_
  refine g_aload_n B dX10_say_93 rfl 0 rfl ?_
  refine g_get B 0 1 fl_X10_13 rfl rfl dX10_say_94 ?_
  exact g_iret B hr dX10_say_97 (by decide) (by decide) rfl
abbrev MX10_cut : g_M := (yX10_cut, cX10_cut, 2, (some .boolean))
theorem dX10_cut_0 : decode cX10_cut 0 = .ok (.iload_n 1, 1) := by decide +kernel
theorem dX10_cut_1 : decode cX10_cut 1 = .ok (.ifCond .lt 11, 3) := by decide +kernel
theorem dX10_cut_12 : decode cX10_cut 12 = .ok (.iconst 0, 1) := by decide +kernel
theorem dX10_cut_13 : decode cX10_cut 13 = .ok (.ireturn, 1) := by decide +kernel
theorem dX10_cut_4 : decode cX10_cut 4 = .ok (.iload_n 1, 1) := by decide +kernel
theorem dX10_cut_5 : decode cX10_cut 5 = .ok (.aload_n 0, 1) := by decide +kernel
theorem dX10_cut_6 : decode cX10_cut 6 = .ok (.getfield 13, 3) := by decide +kernel
theorem dX10_cut_9 : decode cX10_cut 9 = .ok (.if_icmp .le 5, 3) := by decide +kernel
theorem dX10_cut_14 : decode cX10_cut 14 = .ok (.aload_n 0, 1) := by decide +kernel
theorem dX10_cut_15 : decode cX10_cut 15 = .ok (.iload_n 1, 1) := by decide +kernel
theorem dX10_cut_16 : decode cX10_cut 16 = .ok (.putfield 13, 3) := by decide +kernel
theorem dX10_cut_19 : decode cX10_cut 19 = .ok (.iconst 1, 1) := by decide +kernel
theorem dX10_cut_20 : decode cX10_cut 20 = .ok (.ireturn, 1) := by decide +kernel
set_option maxRecDepth 100000 in
set_option maxHeartbeats 4000000 in
theorem ev_X10_cut (E : g_E) (x : Nat) (nu : Nat) (pl : Nat) (tp : Nat) (sd : Nat) (fi : Nat) (se : Nat) (enc : Nat) (dec : Nat) (wl : Nat) (wsp : Nat) (n : Int32)  : Ev E MX10_cut 0 0 0 0 [.ref x, .int n] [(x, .inr (10, [.ref nu, .int 0, .ref pl, .ref tp, .ref sd, .ref fi, .ref se, .ref enc, .ref dec, .ref wl, .ref wsp]))] (fun v_ w_ => v_ = some (.int (p1_cut n))) := by
  refine Ev.intro (by decide) (Nat.le_of_ble_eq_true rfl) ?_
  intro X B hr hI
  have B : Bd E X cX10_cut RX10 2 0 0 0 0 := B
  have hr : Rt E X (some .boolean) 0 0 (fun v_ w_ => v_ = some (.int (p1_cut n))) := hr
  show G E X 2 [(x, .inr (10, [.ref nu, .int 0, .ref pl, .ref tp, .ref sd, .ref fi, .ref se, .ref enc, .ref dec, .ref wl, .ref wsp]))] 0 0 [(0, .ref x), (1, .int n)] 0 []
  refine g_iload_n B dX10_cut_0 rfl 1 rfl ?_
  refine g_if_lt (tgt := 12) B dX10_cut_1 (by decide) (fun c1_106 => ?_) (fun c1_106 => ?_)
  · refine g_iconst (v := 0) B dX10_cut_12 (by decide) ?_
    exact g_zret B hr (by decide) dX10_cut_13 (by decide) (by decide) (by simp [p1_cut, c1_106])
  · refine g_iload_n B dX10_cut_4 rfl 1 rfl ?_
    refine g_aload_n B dX10_cut_5 rfl 0 rfl ?_
    refine g_get B 0 1 fl_X10_13 rfl rfl dX10_cut_6 ?_
    refine g_icmp_le (tgt := 14) B dX10_cut_9 (by decide) (fun c9_107 => ?_) (fun c9_107 => ?_)
    · refine g_aload_n B dX10_cut_14 rfl 0 rfl ?_
      refine g_iload_n B dX10_cut_15 rfl 1 rfl ?_
      refine g_put (ws' := [(x, .inr (10, [.ref nu, .int n, .ref pl, .ref tp, .ref sd, .ref fi, .ref se, .ref enc, .ref dec, .ref wl, .ref wsp]))]) B 0 1 fl_X10_13 pf_X10_1 rfl (Nat.le_of_ble_eq_true rfl) rfl rfl rfl dX10_cut_16 ?_
      refine g_iconst (v := 1) B dX10_cut_19 (by decide) ?_
      exact g_zret B hr (by decide) dX10_cut_20 (by decide) (by decide) (by simp [p1_cut, c1_106, c9_107])
    · refine g_iconst (v := 0) B dX10_cut_12 (by decide) ?_
      exact g_zret B hr (by decide) dX10_cut_13 (by decide) (by decide) (by simp [p1_cut, c1_106, c9_107])
abbrev MX10_row : g_M := (yX10_row, cX10_row, 2, (some .int))
theorem dX10_row_0 : decode cX10_row 0 = .ok (.iload_n 1, 1) := by decide +kernel
theorem dX10_row_1 : decode cX10_row 1 = .ok (.ifCond .lt 29, 3) := by decide +kernel
theorem dX10_row_30 : decode cX10_row 30 = .ok (.iconst 0, 1) := by decide +kernel
theorem dX10_row_31 : decode cX10_row 31 = .ok (.ireturn, 1) := by decide +kernel
theorem dX10_row_4 : decode cX10_row 4 = .ok (.iload_n 1, 1) := by decide +kernel
theorem dX10_row_5 : decode cX10_row 5 = .ok (.aload_n 0, 1) := by decide +kernel
theorem dX10_row_6 : decode cX10_row 6 = .ok (.getfield 13, 3) := by decide +kernel
theorem dX10_row_9 : decode cX10_row 9 = .ok (.if_icmp .ge 21, 3) := by decide +kernel
set_option maxRecDepth 100000 in
set_option maxHeartbeats 4000000 in
theorem ev_X10_row (E : g_E) (x : Nat) (nu : Nat) (pl : Nat) (tp : Nat) (sd : Nat) (fi : Nat) (se : Nat) (enc : Nat) (dec : Nat) (wl : Nat) (wsp : Nat) (i : Int32)  : Ev E MX10_row 0 0 0 0 [.ref x, .int i] [(x, .inr (10, [.ref nu, .int 0, .ref pl, .ref tp, .ref sd, .ref fi, .ref se, .ref enc, .ref dec, .ref wl, .ref wsp])), (nu, .inl (E.2.2.1 0, 1200, .inl (fun _ => 0)))] (fun v_ w_ => v_ = some (.int 0)) := by
  refine Ev.intro (by decide) (Nat.le_of_ble_eq_true rfl) ?_
  intro X B hr hI
  have B : Bd E X cX10_row RX10 2 0 0 0 0 := B
  have hr : Rt E X (some .int) 0 0 (fun v_ w_ => v_ = some (.int 0)) := hr
  show G E X 2 [(x, .inr (10, [.ref nu, .int 0, .ref pl, .ref tp, .ref sd, .ref fi, .ref se, .ref enc, .ref dec, .ref wl, .ref wsp])), (nu, .inl (E.2.2.1 0, 1200, .inl (fun _ => 0)))] 0 0 [(0, .ref x), (1, .int i)] 0 []
  refine g_iload_n B dX10_row_0 rfl 1 rfl ?_
  refine g_if_lt (tgt := 30) B dX10_row_1 (by decide) (fun c1_108 => ?_) (fun c1_108 => ?_)
  · refine g_iconst (v := 0) B dX10_row_30 (by decide) ?_
    exact g_iret B hr dX10_row_31 (by decide) (by decide) rfl
  · refine g_iload_n B dX10_row_4 rfl 1 rfl ?_
    refine g_aload_n B dX10_row_5 rfl 0 rfl ?_
    refine g_get B 0 1 fl_X10_13 rfl rfl dX10_row_6 ?_
    refine g_icmp_ge (tgt := 30) B dX10_row_9 (by decide) (fun c9 => ?_) (fun h => absurd (o_1 c1_108) h)
    refine g_iconst (v := 0) B dX10_row_30 (by decide) ?_
    exact g_iret B hr dX10_row_31 (by decide) (by decide) rfl
abbrev MX10_rows : g_M := (yX10_rows, cX10_rows, 1, (some .int))
theorem dX10_rows_0 : decode cX10_rows 0 = .ok (.aload_n 0, 1) := by decide +kernel
theorem dX10_rows_1 : decode cX10_rows 1 = .ok (.getfield 13, 3) := by decide +kernel
theorem dX10_rows_4 : decode cX10_rows 4 = .ok (.ireturn, 1) := by decide +kernel
set_option maxRecDepth 100000 in
set_option maxHeartbeats 4000000 in
theorem ev_X10_rows (E : g_E) (x : Nat) (nu : Nat) (pl : Nat) (tp : Nat) (sd : Nat) (fi : Nat) (se : Nat) (enc : Nat) (dec : Nat) (wl : Nat) (wsp : Nat)  : Ev E MX10_rows 0 0 0 0 [.ref x] [(x, .inr (10, [.ref nu, .int 0, .ref pl, .ref tp, .ref sd, .ref fi, .ref se, .ref enc, .ref dec, .ref wl, .ref wsp]))] (fun v_ w_ => v_ = some (.int 0)) := by
  refine Ev.intro (by decide) (Nat.le_of_ble_eq_true rfl) ?_
  intro X B hr hI
  have B : Bd E X cX10_rows RX10 1 0 0 0 0 := B
  have hr : Rt E X (some .int) 0 0 (fun v_ w_ => v_ = some (.int 0)) := hr
  show G E X 1 [(x, .inr (10, [.ref nu, .int 0, .ref pl, .ref tp, .ref sd, .ref fi, .ref se, .ref enc, .ref dec, .ref wl, .ref wsp]))] 0 0 [(0, .ref x)] 0 []
  refine g_aload_n B dX10_rows_0 rfl 0 rfl ?_
  refine g_get B 0 1 fl_X10_13 rfl rfl dX10_rows_1 ?_
  exact g_iret B hr dX10_rows_4 (by decide) (by decide) rfl
abbrev MX7_isTerm : g_M := (yX7_isTerm, cX7_isTerm, 1, (some .boolean))
theorem dX7_isTerm_0 : decode cX7_isTerm 0 = .ok (.iload_n 0, 1) := by decide +kernel
theorem dX7_isTerm_1 : decode cX7_isTerm 1 = .ok (.iconst 1, 1) := by decide +kernel
theorem dX7_isTerm_2 : decode cX7_isTerm 2 = .ok (.if_icmp .lt 9, 3) := by decide +kernel
theorem dX7_isTerm_11 : decode cX7_isTerm 11 = .ok (.iload_n 0, 1) := by decide +kernel
theorem dX7_isTerm_12 : decode cX7_isTerm 12 = .ok (.bipush 17, 2) := by decide +kernel
theorem dX7_isTerm_14 : decode cX7_isTerm 14 = .ok (.if_icmp .eq 20, 3) := by decide +kernel
theorem dX7_isTerm_34 : decode cX7_isTerm 34 = .ok (.iconst 1, 1) := by decide +kernel
theorem dX7_isTerm_35 : decode cX7_isTerm 35 = .ok (.goto 4, 3) := by decide +kernel
theorem dX7_isTerm_39 : decode cX7_isTerm 39 = .ok (.ireturn, 1) := by decide +kernel
theorem dX7_isTerm_17 : decode cX7_isTerm 17 = .ok (.iload_n 0, 1) := by decide +kernel
theorem dX7_isTerm_18 : decode cX7_isTerm 18 = .ok (.bipush 18, 2) := by decide +kernel
theorem dX7_isTerm_20 : decode cX7_isTerm 20 = .ok (.if_icmp .eq 14, 3) := by decide +kernel
theorem dX7_isTerm_23 : decode cX7_isTerm 23 = .ok (.iload_n 0, 1) := by decide +kernel
theorem dX7_isTerm_24 : decode cX7_isTerm 24 = .ok (.iconst (-1), 1) := by decide +kernel
theorem dX7_isTerm_25 : decode cX7_isTerm 25 = .ok (.if_icmp .eq 9, 3) := by decide +kernel
theorem dX7_isTerm_28 : decode cX7_isTerm 28 = .ok (.iload_n 0, 1) := by decide +kernel
theorem dX7_isTerm_29 : decode cX7_isTerm 29 = .ok (.bipush (-3), 2) := by decide +kernel
theorem dX7_isTerm_31 : decode cX7_isTerm 31 = .ok (.if_icmp .ne 7, 3) := by decide +kernel
theorem dX7_isTerm_38 : decode cX7_isTerm 38 = .ok (.iconst 0, 1) := by decide +kernel
theorem dX7_isTerm_5 : decode cX7_isTerm 5 = .ok (.iload_n 0, 1) := by decide +kernel
theorem dX7_isTerm_6 : decode cX7_isTerm 6 = .ok (.bipush 8, 2) := by decide +kernel
theorem dX7_isTerm_8 : decode cX7_isTerm 8 = .ok (.if_icmp .le 26, 3) := by decide +kernel
set_option maxRecDepth 100000 in
set_option maxHeartbeats 4000000 in
theorem ev_X7_isTerm (E : g_E) (t : Int32)  : Ev E MX7_isTerm 0 0 0 0 [.int t] [] (fun v_ w_ => v_ = some (.int (tI t)) ∧ w_ = []) := by
  refine Ev.intro (by decide) (Nat.le_of_ble_eq_true rfl) ?_
  intro X B hr hI
  have B : Bd E X cX7_isTerm RX7 1 0 0 0 0 := B
  have hr : Rt E X (some .boolean) 0 0 (fun v_ w_ => v_ = some (.int (tI t)) ∧ w_ = []) := hr
  show G E X 1 [] 0 0 [(0, .int t)] 0 []
  refine g_iload_n B dX7_isTerm_0 rfl 0 rfl ?_
  refine g_iconst (v := 1) B dX7_isTerm_1 (by decide) ?_
  refine g_icmp_lt (tgt := 11) B dX7_isTerm_2 (by decide) (fun c2_109 => ?_) (fun c2_109 => ?_)
  · refine g_iload_n B dX7_isTerm_11 rfl 0 rfl ?_
    refine g_bipush (v := 17) B dX7_isTerm_12 (by decide) ?_
    refine g_icmp_eq (tgt := 34) B dX7_isTerm_14 (by decide) (fun c14_110 => ?_) (fun c14_110 => ?_)
    · refine g_iconst (v := 1) B dX7_isTerm_34 (by decide) ?_
      refine g_goto (tgt := 39) B dX7_isTerm_35 (by decide) ?_
      exact g_zret B hr (by decide) dX7_isTerm_39 (by decide) (by decide) ⟨by simp [tI, c2_109, c14_110], rfl⟩
    · refine g_iload_n B dX7_isTerm_17 rfl 0 rfl ?_
      refine g_bipush (v := 18) B dX7_isTerm_18 (by decide) ?_
      refine g_icmp_eq (tgt := 34) B dX7_isTerm_20 (by decide) (fun c20_111 => ?_) (fun c20_111 => ?_)
      · refine g_iconst (v := 1) B dX7_isTerm_34 (by decide) ?_
        refine g_goto (tgt := 39) B dX7_isTerm_35 (by decide) ?_
        exact g_zret B hr (by decide) dX7_isTerm_39 (by decide) (by decide) ⟨by simp [tI, c2_109, c14_110, c20_111], rfl⟩
      · refine g_iload_n B dX7_isTerm_23 rfl 0 rfl ?_
        refine g_iconst (v := (-1)) B dX7_isTerm_24 (by decide) ?_
        refine g_icmp_eq (tgt := 34) B dX7_isTerm_25 (by decide) (fun c25_112 => ?_) (fun c25_112 => ?_)
        · refine g_iconst (v := 1) B dX7_isTerm_34 (by decide) ?_
          refine g_goto (tgt := 39) B dX7_isTerm_35 (by decide) ?_
          exact g_zret B hr (by decide) dX7_isTerm_39 (by decide) (by decide) ⟨by simp [tI, c2_109, c14_110, c20_111, c25_112], rfl⟩
        · refine g_iload_n B dX7_isTerm_28 rfl 0 rfl ?_
          refine g_bipush (v := (-3)) B dX7_isTerm_29 (by decide) ?_
          refine g_icmp_ne (tgt := 38) B dX7_isTerm_31 (by decide) (fun c31_113 => ?_) (fun c31_113 => ?_)
          · refine g_iconst (v := 0) B dX7_isTerm_38 (by decide) ?_
            exact g_zret B hr (by decide) dX7_isTerm_39 (by decide) (by decide) ⟨by simp [tI, c2_109, c14_110, c20_111, c25_112, c31_113], rfl⟩
          · refine g_iconst (v := 1) B dX7_isTerm_34 (by decide) ?_
            refine g_goto (tgt := 39) B dX7_isTerm_35 (by decide) ?_
            exact g_zret B hr (by decide) dX7_isTerm_39 (by decide) (by decide) ⟨by simp [tI, c2_109, c14_110, c20_111, c25_112, c31_113], rfl⟩
  · refine g_iload_n B dX7_isTerm_5 rfl 0 rfl ?_
    refine g_bipush (v := 8) B dX7_isTerm_6 (by decide) ?_
    refine g_icmp_le (tgt := 34) B dX7_isTerm_8 (by decide) (fun c8_114 => ?_) (fun c8_114 => ?_)
    · refine g_iconst (v := 1) B dX7_isTerm_34 (by decide) ?_
      refine g_goto (tgt := 39) B dX7_isTerm_35 (by decide) ?_
      exact g_zret B hr (by decide) dX7_isTerm_39 (by decide) (by decide) ⟨by simp [tI, c2_109, c8_114], rfl⟩
    · refine g_iload_n B dX7_isTerm_11 rfl 0 rfl ?_
      refine g_bipush (v := 17) B dX7_isTerm_12 (by decide) ?_
      refine g_icmp_eq (tgt := 34) B dX7_isTerm_14 (by decide) (fun c14_115 => ?_) (fun c14_115 => ?_)
      · refine g_iconst (v := 1) B dX7_isTerm_34 (by decide) ?_
        refine g_goto (tgt := 39) B dX7_isTerm_35 (by decide) ?_
        exact g_zret B hr (by decide) dX7_isTerm_39 (by decide) (by decide) ⟨by simp [tI, c2_109, c8_114, c14_115], rfl⟩
      · refine g_iload_n B dX7_isTerm_17 rfl 0 rfl ?_
        refine g_bipush (v := 18) B dX7_isTerm_18 (by decide) ?_
        refine g_icmp_eq (tgt := 34) B dX7_isTerm_20 (by decide) (fun c20_116 => ?_) (fun c20_116 => ?_)
        · refine g_iconst (v := 1) B dX7_isTerm_34 (by decide) ?_
          refine g_goto (tgt := 39) B dX7_isTerm_35 (by decide) ?_
          exact g_zret B hr (by decide) dX7_isTerm_39 (by decide) (by decide) ⟨by simp [tI, c2_109, c8_114, c14_115, c20_116], rfl⟩
        · refine g_iload_n B dX7_isTerm_23 rfl 0 rfl ?_
          refine g_iconst (v := (-1)) B dX7_isTerm_24 (by decide) ?_
          refine g_icmp_eq (tgt := 34) B dX7_isTerm_25 (by decide) (fun c25_117 => ?_) (fun c25_117 => ?_)
          · refine g_iconst (v := 1) B dX7_isTerm_34 (by decide) ?_
            refine g_goto (tgt := 39) B dX7_isTerm_35 (by decide) ?_
            exact g_zret B hr (by decide) dX7_isTerm_39 (by decide) (by decide) ⟨by simp [tI, c2_109, c8_114, c14_115, c20_116, c25_117], rfl⟩
          · refine g_iload_n B dX7_isTerm_28 rfl 0 rfl ?_
            refine g_bipush (v := (-3)) B dX7_isTerm_29 (by decide) ?_
            refine g_icmp_ne (tgt := 38) B dX7_isTerm_31 (by decide) (fun c31_118 => ?_) (fun c31_118 => ?_)
            · refine g_iconst (v := 0) B dX7_isTerm_38 (by decide) ?_
              exact g_zret B hr (by decide) dX7_isTerm_39 (by decide) (by decide) ⟨by simp [tI, c2_109, c8_114, c14_115, c20_116, c25_117, c31_118], rfl⟩
            · refine g_iconst (v := 1) B dX7_isTerm_34 (by decide) ?_
              refine g_goto (tgt := 39) B dX7_isTerm_35 (by decide) ?_
              exact g_zret B hr (by decide) dX7_isTerm_39 (by decide) (by decide) ⟨by simp [tI, c2_109, c8_114, c14_115, c20_116, c25_117, c31_118], rfl⟩
abbrev MX7_add : g_M := (yX7_add, cX7_add, 3, (some .boolean))
theorem dX7_add_0 : decode cX7_add 0 = .ok (.aload_n 0, 1) := by decide +kernel
theorem dX7_add_1 : decode cX7_add 1 = .ok (.getfield 18, 3) := by decide +kernel
theorem dX7_add_4 : decode cX7_add 4 = .ok (.ifCond .lt 30, 3) := by decide +kernel
theorem dX7_add_7 : decode cX7_add 7 = .ok (.aload_n 0, 1) := by decide +kernel
theorem dX7_add_8 : decode cX7_add 8 = .ok (.getfield 18, 3) := by decide +kernel
theorem dX7_add_11 : decode cX7_add 11 = .ok (.bipush 8, 2) := by decide +kernel
theorem dX7_add_13 : decode cX7_add 13 = .ok (.if_icmp .ge 21, 3) := by decide +kernel
theorem dX7_add_16 : decode cX7_add 16 = .ok (.iload_n 1, 1) := by decide +kernel
theorem dX7_add_17 : decode cX7_add 17 = .ok (.invokestatic 22, 3) := by decide +kernel
theorem w_ml_X7_22 : Cond.methodLink RX7 22 yX7_isTerm ∈ g_tbl := g_tbl_in 424 (by decide +kernel) (by decide +kernel)
theorem w_cd_X7_isTerm : g_cw MX7_isTerm ∈ g_tbl := g_tbl_in 426 (by decide +kernel) (by decide +kernel)
theorem cl_X7_22 : CL RX7 22 1 MX7_isTerm := ⟨w_ml_X7_22, w_cd_X7_isTerm, w_ini_X7, by decide +kernel, by decide +kernel, by decide +kernel⟩
theorem w_sm_X7_isTerm : Cond.static yX7_isTerm ∈ g_tbl := g_tbl_in 425 (by decide +kernel) (by decide +kernel)
theorem dX7_add_20 : decode cX7_add 20 = .ok (.ifCond .eq 14, 3) := by decide +kernel
theorem dX7_add_34 : decode cX7_add 34 = .ok (.iconst 0, 1) := by decide +kernel
theorem dX7_add_35 : decode cX7_add 35 = .ok (.ireturn, 1) := by decide +kernel
theorem dX7_add_23 : decode cX7_add 23 = .ok (.iload_n 2, 1) := by decide +kernel
theorem dX7_add_24 : decode cX7_add 24 = .ok (.iconst 1, 1) := by decide +kernel
theorem dX7_add_25 : decode cX7_add 25 = .ok (.if_icmp .lt 9, 3) := by decide +kernel
theorem dX7_add_28 : decode cX7_add 28 = .ok (.iload_n 2, 1) := by decide +kernel
theorem dX7_add_29 : decode cX7_add 29 = .ok (.bipush 7, 2) := by decide +kernel
theorem dX7_add_31 : decode cX7_add 31 = .ok (.if_icmp .le 5, 3) := by decide +kernel
theorem dX7_add_36 : decode cX7_add 36 = .ok (.aload_n 0, 1) := by decide +kernel
theorem dX7_add_37 : decode cX7_add 37 = .ok (.getfield 9, 3) := by decide +kernel
theorem dX7_add_40 : decode cX7_add 40 = .ok (.aload_n 0, 1) := by decide +kernel
theorem dX7_add_41 : decode cX7_add 41 = .ok (.getfield 18, 3) := by decide +kernel
theorem dX7_add_44 : decode cX7_add 44 = .ok (.iload_n 1, 1) := by decide +kernel
theorem dX7_add_45 : decode cX7_add 45 = .ok (.iastore, 1) := by decide +kernel
theorem dX7_add_46 : decode cX7_add 46 = .ok (.aload_n 0, 1) := by decide +kernel
theorem dX7_add_47 : decode cX7_add 47 = .ok (.getfield 15, 3) := by decide +kernel
theorem dX7_add_50 : decode cX7_add 50 = .ok (.aload_n 0, 1) := by decide +kernel
theorem dX7_add_51 : decode cX7_add 51 = .ok (.getfield 18, 3) := by decide +kernel
theorem dX7_add_54 : decode cX7_add 54 = .ok (.iload_n 2, 1) := by decide +kernel
theorem dX7_add_55 : decode cX7_add 55 = .ok (.iastore, 1) := by decide +kernel
theorem dX7_add_56 : decode cX7_add 56 = .ok (.aload_n 0, 1) := by decide +kernel
theorem dX7_add_57 : decode cX7_add 57 = .ok (.dup, 1) := by decide +kernel
theorem dX7_add_58 : decode cX7_add 58 = .ok (.getfield 18, 3) := by decide +kernel
theorem dX7_add_61 : decode cX7_add 61 = .ok (.iconst 1, 1) := by decide +kernel
theorem dX7_add_62 : decode cX7_add 62 = .ok (.iadd, 1) := by decide +kernel
theorem dX7_add_63 : decode cX7_add 63 = .ok (.putfield 18, 3) := by decide +kernel
theorem dX7_add_66 : decode cX7_add 66 = .ok (.iconst 1, 1) := by decide +kernel
theorem dX7_add_67 : decode cX7_add 67 = .ok (.ireturn, 1) := by decide +kernel
set_option maxRecDepth 100000 in
set_option maxHeartbeats 4000000 in
theorem ev_X7_add (E : g_E) (p : Nat) (te : Nat) (de : Nat) (t : Int32) (d : Int32)  : Ev E MX7_add 1 20 0 0 [.ref p, .int t, .int d] [(p, .inr (7, [.ref te, .ref de, .int 0])), (te, .inl (E.2.2.1 0, 8, .inl (fun _ => 0))), (de, .inl (E.2.2.1 0, 8, .inl (fun _ => 0)))] (fun v_ w_ => ∃ tf : Nat → Int32, ∃ df : Nat → Int32, v_ = some (.int (p1_add t d)) ∧ w_ = [(p, .inr (7, [.ref te, .ref de, .int (p1_add t d)])), (te, .inl (E.2.2.1 0, 8, .inl tf)), (de, .inl (E.2.2.1 0, 8, .inl df))]) := by
  refine Ev.intro (by decide) (Nat.le_of_ble_eq_true rfl) ?_
  intro X B hr hI
  have B : Bd E X cX7_add RX7 3 1 20 0 0 := B
  have hr : Rt E X (some .boolean) 0 0 (fun v_ w_ => ∃ tf : Nat → Int32, ∃ df : Nat → Int32, v_ = some (.int (p1_add t d)) ∧ w_ = [(p, .inr (7, [.ref te, .ref de, .int (p1_add t d)])), (te, .inl (E.2.2.1 0, 8, .inl tf)), (de, .inl (E.2.2.1 0, 8, .inl df))]) := hr
  show G E X 3 [(p, .inr (7, [.ref te, .ref de, .int 0])), (te, .inl (E.2.2.1 0, 8, .inl (fun _ => 0))), (de, .inl (E.2.2.1 0, 8, .inl (fun _ => 0)))] 0 0 [(0, .ref p), (1, .int t), (2, .int d)] 0 []
  refine g_aload_n B dX7_add_0 rfl 0 rfl ?_
  refine g_get B 0 2 fl_X7_18 rfl rfl dX7_add_1 ?_
  refine g_if_lt (tgt := 34) B dX7_add_4 (by decide) (fun h => absurd h (by decide)) (fun c4 => ?_)
  refine g_aload_n B dX7_add_7 rfl 0 rfl ?_
  refine g_get B 0 2 fl_X7_18 rfl rfl dX7_add_8 ?_
  refine g_bipush (v := 8) B dX7_add_11 (by decide) ?_
  refine g_icmp_ge (tgt := 34) B dX7_add_13 (by decide) (fun h => absurd h (by decide)) (fun c13 => ?_)
  refine g_iload_n B dX7_add_16 rfl 1 rfl ?_
  refine g_callS (st := []) (As := [.int t]) (wr := [(p, .inr (7, [.ref te, .ref de, .int 0])), (te, .inl (E.2.2.1 0, 8, .inl (fun _ => 0))), (de, .inl (E.2.2.1 0, 8, .inl (fun _ => 0)))]) (nc' := 0) (ns' := 0) B cl_X7_22 w_sm_X7_isTerm (ev_X7_isTerm E t ) rfl [] [0, 1, 2] rfl rfl (by decide) (by decide) (by decide) ⟨by decide, by decide⟩ rfl rfl (by decide) (by decide) rfl (Nat.le_of_ble_eq_true rfl) dX7_add_17 (fun v w hq => ?_)
  obtain ⟨rfl, rfl⟩ := hq
  show G E X 3 [(p, .inr (7, [.ref te, .ref de, .int 0])), (te, .inl (E.2.2.1 0, 8, .inl (fun _ => 0))), (de, .inl (E.2.2.1 0, 8, .inl (fun _ => 0)))] 0 0 [(0, .ref p), (1, .int t), (2, .int d)] 20 [.int (tI t)]
  refine g_if_eq (tgt := 34) B dX7_add_20 (by decide) (fun c20_119 => ?_) (fun c20_119 => ?_)
  · refine g_iconst (v := 0) B dX7_add_34 (by decide) ?_
    exact g_zret B hr (by decide) dX7_add_35 (by decide) (by decide) ⟨(fun _ => 0), (fun _ => 0), by simp [p1_add, c20_119], by simp [p1_add, c20_119]⟩
  · refine g_iload_n B dX7_add_23 rfl 2 rfl ?_
    refine g_iconst (v := 1) B dX7_add_24 (by decide) ?_
    refine g_icmp_lt (tgt := 34) B dX7_add_25 (by decide) (fun c25_120 => ?_) (fun c25_120 => ?_)
    · refine g_iconst (v := 0) B dX7_add_34 (by decide) ?_
      exact g_zret B hr (by decide) dX7_add_35 (by decide) (by decide) ⟨(fun _ => 0), (fun _ => 0), by simp [p1_add, c20_119, c25_120], by simp [p1_add, c20_119, c25_120]⟩
    · refine g_iload_n B dX7_add_28 rfl 2 rfl ?_
      refine g_bipush (v := 7) B dX7_add_29 (by decide) ?_
      refine g_icmp_le (tgt := 36) B dX7_add_31 (by decide) (fun c31_121 => ?_) (fun c31_121 => ?_)
      · refine g_aload_n B dX7_add_36 rfl 0 rfl ?_
        refine g_get B 0 0 fl_X7_9 rfl rfl dX7_add_37 ?_
        refine g_aload_n B dX7_add_40 rfl 0 rfl ?_
        refine g_get B 0 2 fl_X7_18 rfl rfl dX7_add_41 ?_
        refine g_iload_n B dX7_add_44 rfl 1 rfl ?_
        refine g_iast (ws' := [(p, .inr (7, [.ref te, .ref de, .int 0])), (te, .inl (E.2.2.1 0, 8, .inl (upd (fun _ => 0) (Int32.toNatClampNeg 0) t))), (de, .inl (E.2.2.1 0, 8, .inl (fun _ => 0)))]) B 1 rfl (by unfold vp_in; decide) rfl dX7_add_45 ?_
        refine g_aload_n B dX7_add_46 rfl 0 rfl ?_
        refine g_get B 0 1 fl_X7_15 rfl rfl dX7_add_47 ?_
        refine g_aload_n B dX7_add_50 rfl 0 rfl ?_
        refine g_get B 0 2 fl_X7_18 rfl rfl dX7_add_51 ?_
        refine g_iload_n B dX7_add_54 rfl 2 rfl ?_
        refine g_iast (ws' := [(p, .inr (7, [.ref te, .ref de, .int 0])), (te, .inl (E.2.2.1 0, 8, .inl (upd (fun _ => 0) (Int32.toNatClampNeg 0) t))), (de, .inl (E.2.2.1 0, 8, .inl (upd (fun _ => 0) (Int32.toNatClampNeg 0) d)))]) B 2 rfl (by unfold vp_in; decide) rfl dX7_add_55 ?_
        refine g_aload_n B dX7_add_56 rfl 0 rfl ?_
        refine g_dup B dX7_add_57 rfl ?_
        refine g_get B 0 2 fl_X7_18 rfl rfl dX7_add_58 ?_
        refine g_iconst (v := 1) B dX7_add_61 (by decide) ?_
        refine g_iadd B dX7_add_62 ?_
        refine g_ri (x' := 1) (by decide) ?_
        refine g_put (ws' := [(p, .inr (7, [.ref te, .ref de, .int 1])), (te, .inl (E.2.2.1 0, 8, .inl (upd (fun _ => 0) (Int32.toNatClampNeg 0) t))), (de, .inl (E.2.2.1 0, 8, .inl (upd (fun _ => 0) (Int32.toNatClampNeg 0) d)))]) B 0 2 fl_X7_18 pf_X7_2 rfl (Nat.le_of_ble_eq_true rfl) rfl rfl rfl dX7_add_63 ?_
        refine g_iconst (v := 1) B dX7_add_66 (by decide) ?_
        exact g_zret B hr (by decide) dX7_add_67 (by decide) (by decide) ⟨(upd (fun _ => 0) (Int32.toNatClampNeg 0) t), (upd (fun _ => 0) (Int32.toNatClampNeg 0) d), by simp [p1_add, c20_119, c25_120, c31_121], by simp [p1_add, c20_119, c25_120, c31_121]⟩
      · refine g_iconst (v := 0) B dX7_add_34 (by decide) ?_
        exact g_zret B hr (by decide) dX7_add_35 (by decide) (by decide) ⟨(fun _ => 0), (fun _ => 0), by simp [p1_add, c20_119, c25_120, c31_121], by simp [p1_add, c20_119, c25_120, c31_121]⟩
abbrev MX7_clear : g_M := (yX7_clear, cX7_clear, 1, none)
theorem dX7_clear_0 : decode cX7_clear 0 = .ok (.aload_n 0, 1) := by decide +kernel
theorem dX7_clear_1 : decode cX7_clear 1 = .ok (.iconst 0, 1) := by decide +kernel
theorem dX7_clear_2 : decode cX7_clear 2 = .ok (.putfield 18, 3) := by decide +kernel
theorem dX7_clear_5 : decode cX7_clear 5 = .ok (.return_, 1) := by decide +kernel
set_option maxRecDepth 100000 in
set_option maxHeartbeats 4000000 in
theorem ev_X7_clear (E : g_E) (p : Nat) (te : Nat) (de : Nat)  : Ev E MX7_clear 0 0 0 0 [.ref p] [(p, .inr (7, [.ref te, .ref de, .int 0]))] (fun v_ w_ => v_ = none ∧ w_ = [(p, .inr (7, [.ref te, .ref de, .int 0]))]) := by
  refine Ev.intro (by decide) (Nat.le_of_ble_eq_true rfl) ?_
  intro X B hr hI
  have B : Bd E X cX7_clear RX7 1 0 0 0 0 := B
  have hr : Rt E X none 0 0 (fun v_ w_ => v_ = none ∧ w_ = [(p, .inr (7, [.ref te, .ref de, .int 0]))]) := hr
  show G E X 1 [(p, .inr (7, [.ref te, .ref de, .int 0]))] 0 0 [(0, .ref p)] 0 []
  refine g_aload_n B dX7_clear_0 rfl 0 rfl ?_
  refine g_iconst (v := 0) B dX7_clear_1 (by decide) ?_
  refine g_put (ws' := [(p, .inr (7, [.ref te, .ref de, .int 0]))]) B 0 2 fl_X7_18 pf_X7_2 rfl (Nat.le_of_ble_eq_true rfl) rfl rfl rfl dX7_clear_2 ?_
  exact g_vret B hr dX7_clear_5 (by decide) (by decide) ⟨rfl, rfl⟩
abbrev MX10_pass : g_M := (yX10_pass, cX10_pass, 3, (some .int))
theorem dX10_pass_0 : decode cX10_pass 0 = .ok (.aload_n 0, 1) := by decide +kernel
theorem dX10_pass_1 : decode cX10_pass 1 = .ok (.getfield 20, 3) := by decide +kernel
theorem dX10_pass_4 : decode cX10_pass 4 = .ok (.iload_n 1, 1) := by decide +kernel
theorem dX10_pass_5 : decode cX10_pass 5 = .ok (.iload_n 2, 1) := by decide +kernel
theorem dX10_pass_6 : decode cX10_pass 6 = .ok (.invokevirtual 71, 3) := by decide +kernel
theorem w_ml_X10_71 : Cond.methodLink RX10 71 yX7_add ∈ g_tbl := g_tbl_in 420 (by decide +kernel) (by decide +kernel)
theorem w_cd_X7_add : g_cw MX7_add ∈ g_tbl := g_tbl_in 423 (by decide +kernel) (by decide +kernel)
theorem cl_X10_71 : CL RX10 71 2 MX7_add := ⟨w_ml_X10_71, w_cd_X7_add, w_ini_X7, by decide +kernel, by decide +kernel, by decide +kernel⟩
theorem w_im_X7_add : Cond.instanceMethod yX7_add ∈ g_tbl := g_tbl_in 421 (by decide +kernel) (by decide +kernel)
theorem w_se_X7_add : Cond.selects RX7 yX7_add yX7_add ∈ g_tbl := g_tbl_in 422 (by decide +kernel) (by decide +kernel)
theorem dX10_pass_9 : decode cX10_pass 9 = .ok (.ifCond .eq 13, 3) := by decide +kernel
theorem dX10_pass_22 : decode cX10_pass 22 = .ok (.iconst (-1), 1) := by decide +kernel
theorem dX10_pass_23 : decode cX10_pass 23 = .ok (.ireturn, 1) := by decide +kernel
theorem dX10_pass_12 : decode cX10_pass 12 = .ok (.aload_n 0, 1) := by decide +kernel
theorem dX10_pass_13 : decode cX10_pass 13 = .ok (.getfield 20, 3) := by decide +kernel
theorem dX10_pass_16 : decode cX10_pass 16 = .ok (.getfield 75, 3) := by decide +kernel
theorem w_fl_X10_75 : Cond.fieldLink RX10 75 (TX7 2).1 (TX7 2).2.1 (TX7 2).2.2.1 ∈ g_tbl := g_tbl_in 108 (by decide +kernel) (by decide +kernel)
theorem fl_X10_75 : FL RX10 75 7 2 := ⟨RX7, TX7, 3, rfl, by decide, inX_X7, w_fl_X10_75⟩
theorem dX10_pass_19 : decode cX10_pass 19 = .ok (.goto 4, 3) := by decide +kernel
set_option maxRecDepth 100000 in
set_option maxHeartbeats 4000000 in
theorem ev_X10_pass (E : g_E) (x : Nat) (nu : Nat) (pl : Nat) (tp : Nat) (sd : Nat) (fi : Nat) (se : Nat) (enc : Nat) (dec : Nat) (wl : Nat) (wsp : Nat) (plt : Nat) (pld : Nat) (t : Int32) (d : Int32)  : Ev E MX10_pass 2 42 0 0 [.ref x, .int t, .int d] [(x, .inr (10, [.ref nu, .int 0, .ref pl, .ref tp, .ref sd, .ref fi, .ref se, .ref enc, .ref dec, .ref wl, .ref wsp])), (pl, .inr (7, [.ref plt, .ref pld, .int 0])), (plt, .inl (E.2.2.1 0, 8, .inl (fun _ => 0))), (pld, .inl (E.2.2.1 0, 8, .inl (fun _ => 0)))] (fun v_ w_ => v_ = some (.int (p1_pass t d))) := by
  refine Ev.intro (by decide) (Nat.le_of_ble_eq_true rfl) ?_
  intro X B hr hI
  have B : Bd E X cX10_pass RX10 3 2 42 0 0 := B
  have hr : Rt E X (some .int) 0 0 (fun v_ w_ => v_ = some (.int (p1_pass t d))) := hr
  show G E X 3 [(x, .inr (10, [.ref nu, .int 0, .ref pl, .ref tp, .ref sd, .ref fi, .ref se, .ref enc, .ref dec, .ref wl, .ref wsp])), (pl, .inr (7, [.ref plt, .ref pld, .int 0])), (plt, .inl (E.2.2.1 0, 8, .inl (fun _ => 0))), (pld, .inl (E.2.2.1 0, 8, .inl (fun _ => 0)))] 0 0 [(0, .ref x), (1, .int t), (2, .int d)] 0 []
  refine g_aload_n B dX10_pass_0 rfl 0 rfl ?_
  refine g_get B 0 2 fl_X10_20 rfl rfl dX10_pass_1 ?_
  refine g_iload_n B dX10_pass_4 rfl 1 rfl ?_
  refine g_iload_n B dX10_pass_5 rfl 2 rfl ?_
  refine g_callV (st := []) (As := [.int t, .int d]) (wr := [(x, .inr (10, [.ref nu, .int 0, .ref pl, .ref tp, .ref sd, .ref fi, .ref se, .ref enc, .ref dec, .ref wl, .ref wsp]))]) (nc' := 0) (ns' := 0) B cl_X10_71 w_im_X7_add w_se_X7_add (ev_X7_add E pl plt pld t d ) rfl [1, 2, 3] [0] rfl rfl (by decide) (by decide) (by decide) 0 rfl (fun q h => by cases h; rfl) rfl ⟨by decide, by decide⟩ rfl rfl (by decide) (by decide) rfl (Nat.le_of_ble_eq_true rfl) dX10_pass_6 (fun v w hq => ?_)
  obtain ⟨tf_122, df_123, rfl, rfl⟩ := hq
  show G E X 3 [(x, .inr (10, [.ref nu, .int 0, .ref pl, .ref tp, .ref sd, .ref fi, .ref se, .ref enc, .ref dec, .ref wl, .ref wsp])), (pl, .inr (7, [.ref plt, .ref pld, .int (p1_add t d)])), (plt, .inl (E.2.2.1 0, 8, .inl tf_122)), (pld, .inl (E.2.2.1 0, 8, .inl df_123))] 0 0 [(0, .ref x), (1, .int t), (2, .int d)] 9 [.int (p1_add t d)]
  refine g_if_eq (tgt := 22) B dX10_pass_9 (by decide) (fun c9_124 => ?_) (fun c9_124 => ?_)
  · refine g_iconst (v := (-1)) B dX10_pass_22 (by decide) ?_
    exact g_iret B hr dX10_pass_23 (by decide) (by decide) (by simp [p1_pass, c9_124])
  · refine g_aload_n B dX10_pass_12 rfl 0 rfl ?_
    refine g_get B 0 2 fl_X10_20 rfl rfl dX10_pass_13 ?_
    refine g_get B 1 2 fl_X10_75 rfl rfl dX10_pass_16 ?_
    refine g_goto (tgt := 23) B dX10_pass_19 (by decide) ?_
    exact g_iret B hr dX10_pass_23 (by decide) (by decide) (by simp [p1_pass, c9_124])
abbrev MX10_unpass : g_M := (yX10_unpass, cX10_unpass, 2, (some .int))
theorem dX10_unpass_0 : decode cX10_unpass 0 = .ok (.aload_n 0, 1) := by decide +kernel
theorem dX10_unpass_1 : decode cX10_unpass 1 = .ok (.getfield 20, 3) := by decide +kernel
theorem dX10_unpass_4 : decode cX10_unpass 4 = .ok (.getfield 75, 3) := by decide +kernel
theorem dX10_unpass_7 : decode cX10_unpass 7 = .ok (.istore_n 1, 1) := by decide +kernel
theorem dX10_unpass_8 : decode cX10_unpass 8 = .ok (.aload_n 0, 1) := by decide +kernel
theorem dX10_unpass_9 : decode cX10_unpass 9 = .ok (.getfield 20, 3) := by decide +kernel
theorem dX10_unpass_12 : decode cX10_unpass 12 = .ok (.invokevirtual 78, 3) := by decide +kernel
theorem w_ml_X10_78 : Cond.methodLink RX10 78 yX7_clear ∈ g_tbl := g_tbl_in 431 (by decide +kernel) (by decide +kernel)
theorem w_cd_X7_clear : g_cw MX7_clear ∈ g_tbl := g_tbl_in 434 (by decide +kernel) (by decide +kernel)
theorem cl_X10_78 : CL RX10 78 0 MX7_clear := ⟨w_ml_X10_78, w_cd_X7_clear, w_ini_X7, by decide +kernel, by decide +kernel, by decide +kernel⟩
theorem w_im_X7_clear : Cond.instanceMethod yX7_clear ∈ g_tbl := g_tbl_in 432 (by decide +kernel) (by decide +kernel)
theorem w_se_X7_clear : Cond.selects RX7 yX7_clear yX7_clear ∈ g_tbl := g_tbl_in 433 (by decide +kernel) (by decide +kernel)
theorem dX10_unpass_15 : decode cX10_unpass 15 = .ok (.iload_n 1, 1) := by decide +kernel
theorem dX10_unpass_16 : decode cX10_unpass 16 = .ok (.ireturn, 1) := by decide +kernel
set_option maxRecDepth 100000 in
set_option maxHeartbeats 4000000 in
theorem ev_X10_unpass (E : g_E) (x : Nat) (nu : Nat) (pl : Nat) (tp : Nat) (sd : Nat) (fi : Nat) (se : Nat) (enc : Nat) (dec : Nat) (wl : Nat) (wsp : Nat) (plt : Nat) (pld : Nat)  : Ev E MX10_unpass 1 20 0 0 [.ref x] [(x, .inr (10, [.ref nu, .int 0, .ref pl, .ref tp, .ref sd, .ref fi, .ref se, .ref enc, .ref dec, .ref wl, .ref wsp])), (pl, .inr (7, [.ref plt, .ref pld, .int 0]))] (fun v_ w_ => v_ = some (.int 0)) := by
  refine Ev.intro (by decide) (Nat.le_of_ble_eq_true rfl) ?_
  intro X B hr hI
  have B : Bd E X cX10_unpass RX10 2 1 20 0 0 := B
  have hr : Rt E X (some .int) 0 0 (fun v_ w_ => v_ = some (.int 0)) := hr
  show G E X 2 [(x, .inr (10, [.ref nu, .int 0, .ref pl, .ref tp, .ref sd, .ref fi, .ref se, .ref enc, .ref dec, .ref wl, .ref wsp])), (pl, .inr (7, [.ref plt, .ref pld, .int 0]))] 0 0 [(0, .ref x)] 0 []
  refine g_aload_n B dX10_unpass_0 rfl 0 rfl ?_
  refine g_get B 0 2 fl_X10_20 rfl rfl dX10_unpass_1 ?_
  refine g_get B 1 2 fl_X10_75 rfl rfl dX10_unpass_4 ?_
  refine g_istore_n (lv' := [(1, .int 0), (0, .ref x)]) B dX10_unpass_7 rfl (by decide) rfl ?_
  refine g_aload_n B dX10_unpass_8 rfl 1 rfl ?_
  refine g_get B 0 2 fl_X10_20 rfl rfl dX10_unpass_9 ?_
  refine g_callV (st := []) (As := []) (wr := [(x, .inr (10, [.ref nu, .int 0, .ref pl, .ref tp, .ref sd, .ref fi, .ref se, .ref enc, .ref dec, .ref wl, .ref wsp]))]) (nc' := 0) (ns' := 0) B cl_X10_78 w_im_X7_clear w_se_X7_clear (ev_X7_clear E pl plt pld ) rfl [1] [0] rfl rfl (by decide) (by decide) (by decide) 0 rfl (fun q h => by cases h; rfl) rfl ⟨by decide, by decide⟩ rfl rfl (by decide) (by decide) rfl (Nat.le_of_ble_eq_true rfl) dX10_unpass_12 (fun v w hq => ?_)
  obtain ⟨rfl, rfl⟩ := hq
  show G E X 2 [(x, .inr (10, [.ref nu, .int 0, .ref pl, .ref tp, .ref sd, .ref fi, .ref se, .ref enc, .ref dec, .ref wl, .ref wsp])), (pl, .inr (7, [.ref plt, .ref pld, .int 0]))] 0 0 [(1, .int 0), (0, .ref x)] 15 []
  refine g_iload_n B dX10_unpass_15 rfl 0 rfl ?_
  exact g_iret B hr dX10_unpass_16 (by decide) (by decide) rfl
abbrev MX10_isSound : g_M := (yX10_isSound, cX10_isSound, 4, (some .boolean))
theorem dX10_isSound_0 : decode cX10_isSound 0 = .ok (.iload_n 1, 1) := by decide +kernel
theorem dX10_isSound_1 : decode cX10_isSound 1 = .ok (.iconst 2, 1) := by decide +kernel
theorem dX10_isSound_2 : decode cX10_isSound 2 = .ok (.if_icmp .ne 12, 3) := by decide +kernel
theorem dX10_isSound_14 : decode cX10_isSound 14 = .ok (.aload_n 0, 1) := by decide +kernel
theorem dX10_isSound_15 : decode cX10_isSound 15 = .ok (.getfield 13, 3) := by decide +kernel
theorem dX10_isSound_18 : decode cX10_isSound 18 = .ok (.istore_n 2, 1) := by decide +kernel
theorem dX10_isSound_19 : decode cX10_isSound 19 = .ok (.iload_n 2, 1) := by decide +kernel
theorem dX10_isSound_20 : decode cX10_isSound 20 = .ok (.iconst 1, 1) := by decide +kernel
theorem dX10_isSound_21 : decode cX10_isSound 21 = .ok (.if_icmp .lt 20, 3) := by decide +kernel
theorem dX10_isSound_41 : decode cX10_isSound 41 = .ok (.iconst 0, 1) := by decide +kernel
theorem dX10_isSound_42 : decode cX10_isSound 42 = .ok (.ireturn, 1) := by decide +kernel
theorem dX10_isSound_5 : decode cX10_isSound 5 = .ok (.aload_n 0, 1) := by decide +kernel
theorem dX10_isSound_6 : decode cX10_isSound 6 = .ok (.getfield 13, 3) := by decide +kernel
theorem dX10_isSound_9 : decode cX10_isSound 9 = .ok (.iconst 2, 1) := by decide +kernel
theorem dX10_isSound_10 : decode cX10_isSound 10 = .ok (.idiv, 1) := by decide +kernel
theorem dX10_isSound_11 : decode cX10_isSound 11 = .ok (.goto 7, 3) := by decide +kernel
set_option maxRecDepth 100000 in
set_option maxHeartbeats 4000000 in
theorem ev_X10_isSound (E : g_E) (x : Nat) (nu : Nat) (pl : Nat) (tp : Nat) (sd : Nat) (fi : Nat) (se : Nat) (enc : Nat) (dec : Nat) (wl : Nat) (wsp : Nat) (ch : Int32)  : Ev E MX10_isSound 0 0 0 0 [.ref x, .int ch] [(x, .inr (10, [.ref nu, .int 0, .ref pl, .ref tp, .ref sd, .ref fi, .ref se, .ref enc, .ref dec, .ref wl, .ref wsp]))] (fun v_ w_ => v_ = some (.int 0)) := by
  refine Ev.intro (by decide) (Nat.le_of_ble_eq_true rfl) ?_
  intro X B hr hI
  have B : Bd E X cX10_isSound RX10 4 0 0 0 0 := B
  have hr : Rt E X (some .boolean) 0 0 (fun v_ w_ => v_ = some (.int 0)) := hr
  show G E X 4 [(x, .inr (10, [.ref nu, .int 0, .ref pl, .ref tp, .ref sd, .ref fi, .ref se, .ref enc, .ref dec, .ref wl, .ref wsp]))] 0 0 [(0, .ref x), (1, .int ch)] 0 []
  refine g_iload_n B dX10_isSound_0 rfl 1 rfl ?_
  refine g_iconst (v := 2) B dX10_isSound_1 (by decide) ?_
  refine g_icmp_ne (tgt := 14) B dX10_isSound_2 (by decide) (fun c2_125 => ?_) (fun c2_125 => ?_)
  · refine g_aload_n B dX10_isSound_14 rfl 0 rfl ?_
    refine g_get B 0 1 fl_X10_13 rfl rfl dX10_isSound_15 ?_
    refine g_istore_n (lv' := [(2, .int 0), (0, .ref x), (1, .int ch)]) B dX10_isSound_18 rfl (by decide) rfl ?_
    refine g_iload_n B dX10_isSound_19 rfl 0 rfl ?_
    refine g_iconst (v := 1) B dX10_isSound_20 (by decide) ?_
    refine g_icmp_lt (tgt := 41) B dX10_isSound_21 (by decide) (fun c21 => ?_) (fun h => absurd (by decide) h)
    refine g_iconst (v := 0) B dX10_isSound_41 (by decide) ?_
    exact g_zret B hr (by decide) dX10_isSound_42 (by decide) (by decide) rfl
  · refine g_aload_n B dX10_isSound_5 rfl 0 rfl ?_
    refine g_get B 0 1 fl_X10_13 rfl rfl dX10_isSound_6 ?_
    refine g_iconst (v := 2) B dX10_isSound_9 (by decide) ?_
    refine g_idiv B dX10_isSound_10 (by decide) ?_
    refine g_ri (x' := 0) (by decide) ?_
    refine g_goto (tgt := 18) B dX10_isSound_11 (by decide) ?_
    refine g_istore_n (lv' := [(2, .int 0), (0, .ref x), (1, .int ch)]) B dX10_isSound_18 rfl (by decide) rfl ?_
    refine g_iload_n B dX10_isSound_19 rfl 0 rfl ?_
    refine g_iconst (v := 1) B dX10_isSound_20 (by decide) ?_
    refine g_icmp_lt (tgt := 41) B dX10_isSound_21 (by decide) (fun c21 => ?_) (fun h => absurd (by decide) h)
    refine g_iconst (v := 0) B dX10_isSound_41 (by decide) ?_
    exact g_zret B hr (by decide) dX10_isSound_42 (by decide) (by decide) rfl
abbrev MX10_encode : g_M := (yX10_encode, cX10_encode, 6, (some .int))
theorem dX10_encode_0 : decode cX10_encode 0 = .ok (.iload_n 1, 1) := by decide +kernel
theorem dX10_encode_1 : decode cX10_encode 1 = .ok (.iconst 1, 1) := by decide +kernel
theorem dX10_encode_2 : decode cX10_encode 2 = .ok (.if_icmp .lt 26, 3) := by decide +kernel
theorem dX10_encode_28 : decode cX10_encode 28 = .ok (.iconst (-1), 1) := by decide +kernel
theorem dX10_encode_29 : decode cX10_encode 29 = .ok (.ireturn, 1) := by decide +kernel
theorem dX10_encode_5 : decode cX10_encode 5 = .ok (.iload_n 1, 1) := by decide +kernel
theorem dX10_encode_6 : decode cX10_encode 6 = .ok (.iconst 2, 1) := by decide +kernel
theorem dX10_encode_7 : decode cX10_encode 7 = .ok (.if_icmp .gt 21, 3) := by decide +kernel
theorem dX10_encode_10 : decode cX10_encode 10 = .ok (.iload_n 3, 1) := by decide +kernel
theorem dX10_encode_11 : decode cX10_encode 11 = .ok (.ifCond .lt 17, 3) := by decide +kernel
theorem dX10_encode_14 : decode cX10_encode 14 = .ok (.iload_n 3, 1) := by decide +kernel
theorem dX10_encode_15 : decode cX10_encode 15 = .ok (.ldc 81, 2) := by decide +kernel
theorem w_k_X10_81 : Cond.constant RX10 81 65535 ∈ g_tbl := g_tbl_in 439 (by decide +kernel) (by decide +kernel)
theorem dX10_encode_17 : decode cX10_encode 17 = .ok (.if_icmp .gt 11, 3) := by decide +kernel
theorem dX10_encode_20 : decode cX10_encode 20 = .ok (.aload_n 0, 1) := by decide +kernel
theorem dX10_encode_21 : decode cX10_encode 21 = .ok (.iload_n 1, 1) := by decide +kernel
theorem dX10_encode_22 : decode cX10_encode 22 = .ok (.invokevirtual 82, 3) := by decide +kernel
theorem w_ml_X10_82 : Cond.methodLink RX10 82 yX10_isSound ∈ g_tbl := g_tbl_in 440 (by decide +kernel) (by decide +kernel)
theorem w_cd_X10_isSound : g_cw MX10_isSound ∈ g_tbl := g_tbl_in 443 (by decide +kernel) (by decide +kernel)
theorem w_ini_X10 : Cond.initialized RX10 ∈ g_tbl := g_tbl_in 68 (by decide +kernel) (by decide +kernel)
theorem cl_X10_82 : CL RX10 82 1 MX10_isSound := ⟨w_ml_X10_82, w_cd_X10_isSound, w_ini_X10, by decide +kernel, by decide +kernel, by decide +kernel⟩
theorem w_im_X10_isSound : Cond.instanceMethod yX10_isSound ∈ g_tbl := g_tbl_in 442 (by decide +kernel) (by decide +kernel)
theorem w_se_X10_isSound : Cond.selects RX10 yX10_isSound yX10_isSound ∈ g_tbl := g_tbl_in 0 (by decide +kernel) (by decide +kernel)
theorem dX10_encode_25 : decode cX10_encode 25 = .ok (.ifCond .ne 5, 3) := by decide +kernel
set_option maxRecDepth 100000 in
set_option maxHeartbeats 4000000 in
theorem ev_X10_encode (E : g_E) (x : Nat) (nu : Nat) (pl : Nat) (tp : Nat) (sd : Nat) (fi : Nat) (se : Nat) (enc : Nat) (dec : Nat) (wl : Nat) (wsp : Nat) (ch : Int32) (jo : Int32) (er : Int32)  : Ev E MX10_encode 6 156 0 0 [.ref x, .int ch, .int jo, .int er] [(x, .inr (10, [.ref nu, .int 0, .ref pl, .ref tp, .ref sd, .ref fi, .ref se, .ref enc, .ref dec, .ref wl, .ref wsp]))] (fun v_ w_ => v_ = some (.int (-1))) := by
  refine Ev.intro (by decide) (Nat.le_of_ble_eq_true rfl) ?_
  intro X B hr hI
  have B : Bd E X cX10_encode RX10 6 6 156 0 0 := B
  have hr : Rt E X (some .int) 0 0 (fun v_ w_ => v_ = some (.int (-1))) := hr
  show G E X 6 [(x, .inr (10, [.ref nu, .int 0, .ref pl, .ref tp, .ref sd, .ref fi, .ref se, .ref enc, .ref dec, .ref wl, .ref wsp]))] 0 0 [(0, .ref x), (1, .int ch), (2, .int jo), (3, .int er)] 0 []
  refine g_iload_n B dX10_encode_0 rfl 1 rfl ?_
  refine g_iconst (v := 1) B dX10_encode_1 (by decide) ?_
  refine g_icmp_lt (tgt := 28) B dX10_encode_2 (by decide) (fun c2_126 => ?_) (fun c2_126 => ?_)
  · refine g_iconst (v := (-1)) B dX10_encode_28 (by decide) ?_
    exact g_iret B hr dX10_encode_29 (by decide) (by decide) rfl
  · refine g_iload_n B dX10_encode_5 rfl 1 rfl ?_
    refine g_iconst (v := 2) B dX10_encode_6 (by decide) ?_
    refine g_icmp_gt (tgt := 28) B dX10_encode_7 (by decide) (fun c7_127 => ?_) (fun c7_127 => ?_)
    · refine g_iconst (v := (-1)) B dX10_encode_28 (by decide) ?_
      exact g_iret B hr dX10_encode_29 (by decide) (by decide) rfl
    · refine g_iload_n B dX10_encode_10 rfl 3 rfl ?_
      refine g_if_lt (tgt := 28) B dX10_encode_11 (by decide) (fun c11_128 => ?_) (fun c11_128 => ?_)
      · refine g_iconst (v := (-1)) B dX10_encode_28 (by decide) ?_
        exact g_iret B hr dX10_encode_29 (by decide) (by decide) rfl
      · refine g_iload_n B dX10_encode_14 rfl 3 rfl ?_
        refine g_ldc (v := 65535) B w_k_X10_81 dX10_encode_15 ?_
        refine g_icmp_gt (tgt := 28) B dX10_encode_17 (by decide) (fun c17_129 => ?_) (fun c17_129 => ?_)
        · refine g_iconst (v := (-1)) B dX10_encode_28 (by decide) ?_
          exact g_iret B hr dX10_encode_29 (by decide) (by decide) rfl
        · refine g_aload_n B dX10_encode_20 rfl 0 rfl ?_
          refine g_iload_n B dX10_encode_21 rfl 1 rfl ?_
          refine g_callV (st := []) (As := [.int ch]) (wr := []) (nc' := 0) (ns' := 0) B cl_X10_82 w_im_X10_isSound w_se_X10_isSound (ev_X10_isSound E x nu pl tp sd fi se enc dec wl wsp ch ) rfl [0] [] rfl rfl (by decide) (by decide) (by decide) 0 rfl (fun q h => by cases h; rfl) rfl ⟨by decide, by decide⟩ rfl rfl (by decide) (by decide) rfl (Nat.le_of_ble_eq_true rfl) dX10_encode_22 (fun v w hq => ?_)
          obtain rfl := hq
          refine g_sub (ws' := []) [] (by decide) rfl ?_
          show G E X 6 [] 0 0 [(0, .ref x), (1, .int ch), (2, .int jo), (3, .int er)] 25 [.int 0]
          refine g_if_ne (tgt := 30) B dX10_encode_25 (by decide) (fun h => absurd (by decide) h) (fun c25 => ?_)
          refine g_iconst (v := (-1)) B dX10_encode_28 (by decide) ?_
          exact g_iret B hr dX10_encode_29 (by decide) (by decide) rfl
abbrev MX10_fed : g_M := (yX10_fed, cX10_fed, 2, (some (.object "SoundPress$Bytes")))
theorem dX10_fed_0 : decode cX10_fed 0 = .ok (.iload_n 1, 1) := by decide +kernel
theorem dX10_fed_1 : decode cX10_fed 1 = .ok (.ifCond .ne 10, 3) := by decide +kernel
theorem dX10_fed_4 : decode cX10_fed 4 = .ok (.aload_n 0, 1) := by decide +kernel
theorem dX10_fed_5 : decode cX10_fed 5 = .ok (.getfield 29, 3) := by decide +kernel
theorem dX10_fed_8 : decode cX10_fed 8 = .ok (.goto 16, 3) := by decide +kernel
theorem dX10_fed_24 : decode cX10_fed 24 = .ok (.areturn, 1) := by decide +kernel
set_option maxRecDepth 100000 in
set_option maxHeartbeats 4000000 in
theorem ev_X10_fed_0 (E : g_E) (x : Nat) (nu : Nat) (pl : Nat) (tp : Nat) (sd : Nat) (fi : Nat) (se : Nat) (enc : Nat) (dec : Nat) (wl : Nat) (wsp : Nat)  : Ev E MX10_fed 0 0 0 0 [.ref x, .int 0] [(x, .inr (10, [.ref nu, .int 0, .ref pl, .ref tp, .ref sd, .ref fi, .ref se, .ref enc, .ref dec, .ref wl, .ref wsp]))] (fun v_ w_ => v_ = some (.ref tp) ∧ w_ = [(x, .inr (10, [.ref nu, .int 0, .ref pl, .ref tp, .ref sd, .ref fi, .ref se, .ref enc, .ref dec, .ref wl, .ref wsp]))]) := by
  refine Ev.intro (by decide) (Nat.le_of_ble_eq_true rfl) ?_
  intro X B hr hI
  have B : Bd E X cX10_fed RX10 2 0 0 0 0 := B
  have hr : Rt E X (some (.object "SoundPress$Bytes")) 0 0 (fun v_ w_ => v_ = some (.ref tp) ∧ w_ = [(x, .inr (10, [.ref nu, .int 0, .ref pl, .ref tp, .ref sd, .ref fi, .ref se, .ref enc, .ref dec, .ref wl, .ref wsp]))]) := hr
  show G E X 2 [(x, .inr (10, [.ref nu, .int 0, .ref pl, .ref tp, .ref sd, .ref fi, .ref se, .ref enc, .ref dec, .ref wl, .ref wsp]))] 0 0 [(0, .ref x), (1, .int 0)] 0 []
  refine g_iload_n B dX10_fed_0 rfl 1 rfl ?_
  refine g_if_ne (tgt := 11) B dX10_fed_1 (by decide) (fun h => absurd (by decide) h) (fun c1 => ?_)
  refine g_aload_n B dX10_fed_4 rfl 0 rfl ?_
  refine g_get B 0 3 fl_X10_29 rfl rfl dX10_fed_5 ?_
  refine g_goto (tgt := 24) B dX10_fed_8 (by decide) ?_
  exact g_aret B hr (Or.inr ⟨_, rfl⟩) dX10_fed_24 (by decide) (by decide) ⟨rfl, rfl⟩
abbrev MX10_pressed : g_M := (yX10_pressed, cX10_pressed, 2, (some (.object "SoundPress$Bytes")))
theorem dX10_pressed_0 : decode cX10_pressed 0 = .ok (.iload_n 1, 1) := by decide +kernel
theorem dX10_pressed_1 : decode cX10_pressed 1 = .ok (.ifCond .ne 10, 3) := by decide +kernel
theorem dX10_pressed_4 : decode cX10_pressed 4 = .ok (.aload_n 0, 1) := by decide +kernel
theorem dX10_pressed_5 : decode cX10_pressed 5 = .ok (.getfield 36, 3) := by decide +kernel
theorem dX10_pressed_8 : decode cX10_pressed 8 = .ok (.goto 16, 3) := by decide +kernel
theorem dX10_pressed_24 : decode cX10_pressed 24 = .ok (.areturn, 1) := by decide +kernel
set_option maxRecDepth 100000 in
set_option maxHeartbeats 4000000 in
theorem ev_X10_pressed_0 (E : g_E) (x : Nat) (nu : Nat) (pl : Nat) (tp : Nat) (sd : Nat) (fi : Nat) (se : Nat) (enc : Nat) (dec : Nat) (wl : Nat) (wsp : Nat)  : Ev E MX10_pressed 0 0 0 0 [.ref x, .int 0] [(x, .inr (10, [.ref nu, .int 0, .ref pl, .ref tp, .ref sd, .ref fi, .ref se, .ref enc, .ref dec, .ref wl, .ref wsp]))] (fun v_ w_ => v_ = some (.ref fi) ∧ w_ = [(x, .inr (10, [.ref nu, .int 0, .ref pl, .ref tp, .ref sd, .ref fi, .ref se, .ref enc, .ref dec, .ref wl, .ref wsp]))]) := by
  refine Ev.intro (by decide) (Nat.le_of_ble_eq_true rfl) ?_
  intro X B hr hI
  have B : Bd E X cX10_pressed RX10 2 0 0 0 0 := B
  have hr : Rt E X (some (.object "SoundPress$Bytes")) 0 0 (fun v_ w_ => v_ = some (.ref fi) ∧ w_ = [(x, .inr (10, [.ref nu, .int 0, .ref pl, .ref tp, .ref sd, .ref fi, .ref se, .ref enc, .ref dec, .ref wl, .ref wsp]))]) := hr
  show G E X 2 [(x, .inr (10, [.ref nu, .int 0, .ref pl, .ref tp, .ref sd, .ref fi, .ref se, .ref enc, .ref dec, .ref wl, .ref wsp]))] 0 0 [(0, .ref x), (1, .int 0)] 0 []
  refine g_iload_n B dX10_pressed_0 rfl 1 rfl ?_
  refine g_if_ne (tgt := 11) B dX10_pressed_1 (by decide) (fun h => absurd (by decide) h) (fun c1 => ?_)
  refine g_aload_n B dX10_pressed_4 rfl 0 rfl ?_
  refine g_get B 0 5 fl_X10_36 rfl rfl dX10_pressed_5 ?_
  refine g_goto (tgt := 24) B dX10_pressed_8 (by decide) ?_
  exact g_aret B hr (Or.inr ⟨_, rfl⟩) dX10_pressed_24 (by decide) (by decide) ⟨rfl, rfl⟩
theorem dX10_fed_11 : decode cX10_fed 11 = .ok (.iload_n 1, 1) := by decide +kernel
theorem dX10_fed_12 : decode cX10_fed 12 = .ok (.iconst 1, 1) := by decide +kernel
theorem dX10_fed_13 : decode cX10_fed 13 = .ok (.if_icmp .ne 10, 3) := by decide +kernel
theorem dX10_fed_16 : decode cX10_fed 16 = .ok (.aload_n 0, 1) := by decide +kernel
theorem dX10_fed_17 : decode cX10_fed 17 = .ok (.getfield 33, 3) := by decide +kernel
theorem dX10_fed_20 : decode cX10_fed 20 = .ok (.goto 4, 3) := by decide +kernel
set_option maxRecDepth 100000 in
set_option maxHeartbeats 4000000 in
theorem ev_X10_fed_1 (E : g_E) (x : Nat) (nu : Nat) (pl : Nat) (tp : Nat) (sd : Nat) (fi : Nat) (se : Nat) (enc : Nat) (dec : Nat) (wl : Nat) (wsp : Nat)  : Ev E MX10_fed 0 0 0 0 [.ref x, .int 1] [(x, .inr (10, [.ref nu, .int 0, .ref pl, .ref tp, .ref sd, .ref fi, .ref se, .ref enc, .ref dec, .ref wl, .ref wsp]))] (fun v_ w_ => v_ = some (.ref sd) ∧ w_ = [(x, .inr (10, [.ref nu, .int 0, .ref pl, .ref tp, .ref sd, .ref fi, .ref se, .ref enc, .ref dec, .ref wl, .ref wsp]))]) := by
  refine Ev.intro (by decide) (Nat.le_of_ble_eq_true rfl) ?_
  intro X B hr hI
  have B : Bd E X cX10_fed RX10 2 0 0 0 0 := B
  have hr : Rt E X (some (.object "SoundPress$Bytes")) 0 0 (fun v_ w_ => v_ = some (.ref sd) ∧ w_ = [(x, .inr (10, [.ref nu, .int 0, .ref pl, .ref tp, .ref sd, .ref fi, .ref se, .ref enc, .ref dec, .ref wl, .ref wsp]))]) := hr
  show G E X 2 [(x, .inr (10, [.ref nu, .int 0, .ref pl, .ref tp, .ref sd, .ref fi, .ref se, .ref enc, .ref dec, .ref wl, .ref wsp]))] 0 0 [(0, .ref x), (1, .int 1)] 0 []
  refine g_iload_n B dX10_fed_0 rfl 1 rfl ?_
  refine g_if_ne (tgt := 11) B dX10_fed_1 (by decide) (fun c1 => ?_) (fun h => absurd h (by decide))
  refine g_iload_n B dX10_fed_11 rfl 1 rfl ?_
  refine g_iconst (v := 1) B dX10_fed_12 (by decide) ?_
  refine g_icmp_ne (tgt := 23) B dX10_fed_13 (by decide) (fun h => absurd (by decide) h) (fun c13 => ?_)
  refine g_aload_n B dX10_fed_16 rfl 0 rfl ?_
  refine g_get B 0 4 fl_X10_33 rfl rfl dX10_fed_17 ?_
  refine g_goto (tgt := 24) B dX10_fed_20 (by decide) ?_
  exact g_aret B hr (Or.inr ⟨_, rfl⟩) dX10_fed_24 (by decide) (by decide) ⟨rfl, rfl⟩
theorem dX10_pressed_11 : decode cX10_pressed 11 = .ok (.iload_n 1, 1) := by decide +kernel
theorem dX10_pressed_12 : decode cX10_pressed 12 = .ok (.iconst 1, 1) := by decide +kernel
theorem dX10_pressed_13 : decode cX10_pressed 13 = .ok (.if_icmp .ne 10, 3) := by decide +kernel
theorem dX10_pressed_16 : decode cX10_pressed 16 = .ok (.aload_n 0, 1) := by decide +kernel
theorem dX10_pressed_17 : decode cX10_pressed 17 = .ok (.getfield 39, 3) := by decide +kernel
theorem dX10_pressed_20 : decode cX10_pressed 20 = .ok (.goto 4, 3) := by decide +kernel
set_option maxRecDepth 100000 in
set_option maxHeartbeats 4000000 in
theorem ev_X10_pressed_1 (E : g_E) (x : Nat) (nu : Nat) (pl : Nat) (tp : Nat) (sd : Nat) (fi : Nat) (se : Nat) (enc : Nat) (dec : Nat) (wl : Nat) (wsp : Nat)  : Ev E MX10_pressed 0 0 0 0 [.ref x, .int 1] [(x, .inr (10, [.ref nu, .int 0, .ref pl, .ref tp, .ref sd, .ref fi, .ref se, .ref enc, .ref dec, .ref wl, .ref wsp]))] (fun v_ w_ => v_ = some (.ref se) ∧ w_ = [(x, .inr (10, [.ref nu, .int 0, .ref pl, .ref tp, .ref sd, .ref fi, .ref se, .ref enc, .ref dec, .ref wl, .ref wsp]))]) := by
  refine Ev.intro (by decide) (Nat.le_of_ble_eq_true rfl) ?_
  intro X B hr hI
  have B : Bd E X cX10_pressed RX10 2 0 0 0 0 := B
  have hr : Rt E X (some (.object "SoundPress$Bytes")) 0 0 (fun v_ w_ => v_ = some (.ref se) ∧ w_ = [(x, .inr (10, [.ref nu, .int 0, .ref pl, .ref tp, .ref sd, .ref fi, .ref se, .ref enc, .ref dec, .ref wl, .ref wsp]))]) := hr
  show G E X 2 [(x, .inr (10, [.ref nu, .int 0, .ref pl, .ref tp, .ref sd, .ref fi, .ref se, .ref enc, .ref dec, .ref wl, .ref wsp]))] 0 0 [(0, .ref x), (1, .int 1)] 0 []
  refine g_iload_n B dX10_pressed_0 rfl 1 rfl ?_
  refine g_if_ne (tgt := 11) B dX10_pressed_1 (by decide) (fun c1 => ?_) (fun h => absurd h (by decide))
  refine g_iload_n B dX10_pressed_11 rfl 1 rfl ?_
  refine g_iconst (v := 1) B dX10_pressed_12 (by decide) ?_
  refine g_icmp_ne (tgt := 23) B dX10_pressed_13 (by decide) (fun h => absurd (by decide) h) (fun c13 => ?_)
  refine g_aload_n B dX10_pressed_16 rfl 0 rfl ?_
  refine g_get B 0 6 fl_X10_39 rfl rfl dX10_pressed_17 ?_
  refine g_goto (tgt := 24) B dX10_pressed_20 (by decide) ?_
  exact g_aret B hr (Or.inr ⟨_, rfl⟩) dX10_pressed_24 (by decide) (by decide) ⟨rfl, rfl⟩
theorem dX10_fed_23 : decode cX10_fed 23 = .ok (.aconst_null, 1) := by decide +kernel
set_option maxRecDepth 100000 in
set_option maxHeartbeats 4000000 in
theorem ev_X10_fed_n (E : g_E) (x : Nat) (nu : Nat) (pl : Nat) (tp : Nat) (sd : Nat) (fi : Nat) (se : Nat) (enc : Nat) (dec : Nat) (wl : Nat) (wsp : Nat) (wh : Int32) (h0 : ¬ wh = 0) (h1 : ¬ wh = 1) : Ev E MX10_fed 0 0 0 0 [.ref x, .int wh] [(x, .inr (10, [.ref nu, .int 0, .ref pl, .ref tp, .ref sd, .ref fi, .ref se, .ref enc, .ref dec, .ref wl, .ref wsp]))] (fun v_ w_ => v_ = some .null ∧ w_ = [(x, .inr (10, [.ref nu, .int 0, .ref pl, .ref tp, .ref sd, .ref fi, .ref se, .ref enc, .ref dec, .ref wl, .ref wsp]))]) := by
  refine Ev.intro (by decide) (Nat.le_of_ble_eq_true rfl) ?_
  intro X B hr hI
  have B : Bd E X cX10_fed RX10 2 0 0 0 0 := B
  have hr : Rt E X (some (.object "SoundPress$Bytes")) 0 0 (fun v_ w_ => v_ = some .null ∧ w_ = [(x, .inr (10, [.ref nu, .int 0, .ref pl, .ref tp, .ref sd, .ref fi, .ref se, .ref enc, .ref dec, .ref wl, .ref wsp]))]) := hr
  show G E X 2 [(x, .inr (10, [.ref nu, .int 0, .ref pl, .ref tp, .ref sd, .ref fi, .ref se, .ref enc, .ref dec, .ref wl, .ref wsp]))] 0 0 [(0, .ref x), (1, .int wh)] 0 []
  refine g_iload_n B dX10_fed_0 rfl 1 rfl ?_
  refine g_if_ne (tgt := 11) B dX10_fed_1 (by decide) (fun c1 => ?_) (fun h => absurd h h0)
  refine g_iload_n B dX10_fed_11 rfl 1 rfl ?_
  refine g_iconst (v := 1) B dX10_fed_12 (by decide) ?_
  refine g_icmp_ne (tgt := 23) B dX10_fed_13 (by decide) (fun c13 => ?_) (fun h => absurd h h1)
  refine g_null B dX10_fed_23 ?_
  exact g_aret B hr (Or.inl rfl) dX10_fed_24 (by decide) (by decide) ⟨rfl, rfl⟩
theorem dX10_pressed_23 : decode cX10_pressed 23 = .ok (.aconst_null, 1) := by decide +kernel
set_option maxRecDepth 100000 in
set_option maxHeartbeats 4000000 in
theorem ev_X10_pressed_n (E : g_E) (x : Nat) (nu : Nat) (pl : Nat) (tp : Nat) (sd : Nat) (fi : Nat) (se : Nat) (enc : Nat) (dec : Nat) (wl : Nat) (wsp : Nat) (wh : Int32) (h0 : ¬ wh = 0) (h1 : ¬ wh = 1) : Ev E MX10_pressed 0 0 0 0 [.ref x, .int wh] [(x, .inr (10, [.ref nu, .int 0, .ref pl, .ref tp, .ref sd, .ref fi, .ref se, .ref enc, .ref dec, .ref wl, .ref wsp]))] (fun v_ w_ => v_ = some .null ∧ w_ = [(x, .inr (10, [.ref nu, .int 0, .ref pl, .ref tp, .ref sd, .ref fi, .ref se, .ref enc, .ref dec, .ref wl, .ref wsp]))]) := by
  refine Ev.intro (by decide) (Nat.le_of_ble_eq_true rfl) ?_
  intro X B hr hI
  have B : Bd E X cX10_pressed RX10 2 0 0 0 0 := B
  have hr : Rt E X (some (.object "SoundPress$Bytes")) 0 0 (fun v_ w_ => v_ = some .null ∧ w_ = [(x, .inr (10, [.ref nu, .int 0, .ref pl, .ref tp, .ref sd, .ref fi, .ref se, .ref enc, .ref dec, .ref wl, .ref wsp]))]) := hr
  show G E X 2 [(x, .inr (10, [.ref nu, .int 0, .ref pl, .ref tp, .ref sd, .ref fi, .ref se, .ref enc, .ref dec, .ref wl, .ref wsp]))] 0 0 [(0, .ref x), (1, .int wh)] 0 []
  refine g_iload_n B dX10_pressed_0 rfl 1 rfl ?_
  refine g_if_ne (tgt := 11) B dX10_pressed_1 (by decide) (fun c1 => ?_) (fun h => absurd h h0)
  refine g_iload_n B dX10_pressed_11 rfl 1 rfl ?_
  refine g_iconst (v := 1) B dX10_pressed_12 (by decide) ?_
  refine g_icmp_ne (tgt := 23) B dX10_pressed_13 (by decide) (fun c13 => ?_) (fun h => absurd h h1)
  refine g_null B dX10_pressed_23 ?_
  exact g_aret B hr (Or.inl rfl) dX10_pressed_24 (by decide) (by decide) ⟨rfl, rfl⟩
abbrev MX2_at : g_M := (yX2_at, cX2_at, 2, (some .int))
theorem dX2_at_0 : decode cX2_at 0 = .ok (.iload_n 1, 1) := by decide +kernel
theorem dX2_at_1 : decode cX2_at 1 = .ok (.ifCond .lt 33, 3) := by decide +kernel
theorem dX2_at_34 : decode cX2_at 34 = .ok (.iconst (-1), 1) := by decide +kernel
theorem dX2_at_35 : decode cX2_at 35 = .ok (.ireturn, 1) := by decide +kernel
theorem dX2_at_4 : decode cX2_at 4 = .ok (.iload_n 1, 1) := by decide +kernel
theorem dX2_at_5 : decode cX2_at 5 = .ok (.aload_n 0, 1) := by decide +kernel
theorem dX2_at_6 : decode cX2_at 6 = .ok (.getfield 21, 3) := by decide +kernel
theorem dX2_at_9 : decode cX2_at 9 = .ok (.if_icmp .ge 25, 3) := by decide +kernel
set_option maxRecDepth 100000 in
set_option maxHeartbeats 4000000 in
theorem ev_X2_at_0 (E : g_E) (t : Nat) (a : Nat) (i : Int32)  : Ev E MX2_at 0 0 0 0 [.ref t, .int i] [(t, .inr (2, [.ref a, .int 0]))] (fun v_ w_ => v_ = some (.int (-1)) ∧ w_ = [(t, .inr (2, [.ref a, .int 0]))]) := by
  refine Ev.intro (by decide) (Nat.le_of_ble_eq_true rfl) ?_
  intro X B hr hI
  have B : Bd E X cX2_at RX2 2 0 0 0 0 := B
  have hr : Rt E X (some .int) 0 0 (fun v_ w_ => v_ = some (.int (-1)) ∧ w_ = [(t, .inr (2, [.ref a, .int 0]))]) := hr
  show G E X 2 [(t, .inr (2, [.ref a, .int 0]))] 0 0 [(0, .ref t), (1, .int i)] 0 []
  refine g_iload_n B dX2_at_0 rfl 1 rfl ?_
  refine g_if_lt (tgt := 34) B dX2_at_1 (by decide) (fun c1_130 => ?_) (fun c1_130 => ?_)
  · refine g_iconst (v := (-1)) B dX2_at_34 (by decide) ?_
    exact g_iret B hr dX2_at_35 (by decide) (by decide) ⟨rfl, rfl⟩
  · refine g_iload_n B dX2_at_4 rfl 1 rfl ?_
    refine g_aload_n B dX2_at_5 rfl 0 rfl ?_
    refine g_get B 0 1 fl_X2_21 rfl rfl dX2_at_6 ?_
    refine g_icmp_ge (tgt := 34) B dX2_at_9 (by decide) (fun c9 => ?_) (fun h => absurd (o_1 c1_130) h)
    refine g_iconst (v := (-1)) B dX2_at_34 (by decide) ?_
    exact g_iret B hr dX2_at_35 (by decide) (by decide) ⟨rfl, rfl⟩
theorem nI_pos0 {k : Nat} (h : k < 2147483648) : ¬ nI k < 0 := nI_pos h
abbrev MX2_add : g_M := (yX2_add, cX2_add, 2, none)
theorem dX2_add_0 : decode cX2_add 0 = .ok (.aload_n 0, 1) := by decide +kernel
theorem dX2_add_1 : decode cX2_add 1 = .ok (.getfield 21, 3) := by decide +kernel
theorem dX2_add_4 : decode cX2_add 4 = .ok (.ifCond .lt 36, 3) := by decide +kernel
theorem dX2_add_7 : decode cX2_add 7 = .ok (.aload_n 0, 1) := by decide +kernel
theorem dX2_add_8 : decode cX2_add 8 = .ok (.getfield 21, 3) := by decide +kernel
theorem dX2_add_11 : decode cX2_add 11 = .ok (.aload_n 0, 1) := by decide +kernel
theorem dX2_add_12 : decode cX2_add 12 = .ok (.getfield 15, 3) := by decide +kernel
theorem dX2_add_15 : decode cX2_add 15 = .ok (.arraylength, 1) := by decide +kernel
theorem dX2_add_16 : decode cX2_add 16 = .ok (.if_icmp .ge 24, 3) := by decide +kernel
theorem dX2_add_19 : decode cX2_add 19 = .ok (.aload_n 0, 1) := by decide +kernel
theorem dX2_add_20 : decode cX2_add 20 = .ok (.getfield 15, 3) := by decide +kernel
theorem dX2_add_23 : decode cX2_add 23 = .ok (.aload_n 0, 1) := by decide +kernel
theorem dX2_add_24 : decode cX2_add 24 = .ok (.getfield 21, 3) := by decide +kernel
theorem dX2_add_27 : decode cX2_add 27 = .ok (.iload_n 1, 1) := by decide +kernel
theorem dX2_add_28 : decode cX2_add 28 = .ok (.i2b, 1) := by decide +kernel
theorem dX2_add_29 : decode cX2_add 29 = .ok (.bastore, 1) := by decide +kernel
theorem dX2_add_30 : decode cX2_add 30 = .ok (.aload_n 0, 1) := by decide +kernel
theorem dX2_add_31 : decode cX2_add 31 = .ok (.dup, 1) := by decide +kernel
theorem dX2_add_32 : decode cX2_add 32 = .ok (.getfield 21, 3) := by decide +kernel
theorem dX2_add_35 : decode cX2_add 35 = .ok (.iconst 1, 1) := by decide +kernel
theorem dX2_add_36 : decode cX2_add 36 = .ok (.iadd, 1) := by decide +kernel
theorem dX2_add_37 : decode cX2_add 37 = .ok (.putfield 21, 3) := by decide +kernel
theorem dX2_add_40 : decode cX2_add 40 = .ok (.return_, 1) := by decide +kernel
set_option maxRecDepth 100000 in
set_option maxHeartbeats 4000000 in
theorem ev_X2_add (E : g_E) (t : Nat) (a : Nat) (k : Nat) (n : Nat) (f : Nat → Int32) (b : Int32) (hk : k < n) (hn : n < 2147483648) : Ev E MX2_add 0 0 0 0 [.ref t, .int b] [(t, .inr (2, [.ref a, .int (nI k)])), (a, .inl (E.2.2.1 1, n, .inl f))] (fun v_ w_ => v_ = none ∧ w_ = [(t, .inr (2, [.ref a, .int (nI (k + 1))])), (a, .inl (E.2.2.1 1, n, .inl (upd f k (vp_nar .byte (Int8.toInt32 (Int32.toInt8 b))))))]) := by
  refine Ev.intro (by decide) (Nat.le_of_ble_eq_true rfl) ?_
  intro X B hr hI
  have B : Bd E X cX2_add RX2 2 0 0 0 0 := B
  have hr : Rt E X none 0 0 (fun v_ w_ => v_ = none ∧ w_ = [(t, .inr (2, [.ref a, .int (nI (k + 1))])), (a, .inl (E.2.2.1 1, n, .inl (upd f k (vp_nar .byte (Int8.toInt32 (Int32.toInt8 b))))))]) := hr
  show G E X 2 [(t, .inr (2, [.ref a, .int (nI k)])), (a, .inl (E.2.2.1 1, n, .inl f))] 0 0 [(0, .ref t), (1, .int b)] 0 []
  refine g_aload_n B dX2_add_0 rfl 0 rfl ?_
  refine g_get B 0 1 fl_X2_21 rfl rfl dX2_add_1 ?_
  refine g_if_lt (tgt := 40) B dX2_add_4 (by decide) (fun h => absurd h (nI_pos (by omega))) (fun c4 => ?_)
  refine g_aload_n B dX2_add_7 rfl 0 rfl ?_
  refine g_get B 0 1 fl_X2_21 rfl rfl dX2_add_8 ?_
  refine g_aload_n B dX2_add_11 rfl 0 rfl ?_
  refine g_get B 0 0 fl_X2_15 rfl rfl dX2_add_12 ?_
  refine g_alen (v := nI n) B 1 (by decide) rfl rfl dX2_add_15 ?_
  refine g_icmp_ge (tgt := 40) B dX2_add_16 (by decide) (fun h => absurd h (nI_ge hk (by omega))) (fun c16 => ?_)
  refine g_aload_n B dX2_add_19 rfl 0 rfl ?_
  refine g_get B 0 0 fl_X2_15 rfl rfl dX2_add_20 ?_
  refine g_aload_n B dX2_add_23 rfl 0 rfl ?_
  refine g_get B 0 1 fl_X2_21 rfl rfl dX2_add_24 ?_
  refine g_iload_n B dX2_add_27 rfl 1 rfl ?_
  refine g_i2b B dX2_add_28 ?_
  refine g_bast (ws' := [(t, .inr (2, [.ref a, .int (nI k)])), (a, .inl (E.2.2.1 1, n, .inl (upd f k (vp_nar .byte (Int8.toInt32 (Int32.toInt8 b))))))]) B 1 rfl (vp_in_nI hk hn) (by rw [nI_clamp (by omega)]; rfl) dX2_add_29 ?_
  refine g_aload_n B dX2_add_30 rfl 0 rfl ?_
  refine g_dup B dX2_add_31 rfl ?_
  refine g_get B 0 1 fl_X2_21 rfl rfl dX2_add_32 ?_
  refine g_iconst (v := 1) B dX2_add_35 (by decide) ?_
  refine g_iadd B dX2_add_36 ?_
  refine g_ri (x' := nI (k + 1)) (nI_1 k) ?_
  refine g_put (ws' := [(t, .inr (2, [.ref a, .int (nI (k + 1))])), (a, .inl (E.2.2.1 1, n, .inl (upd f k (vp_nar .byte (Int8.toInt32 (Int32.toInt8 b))))))]) B 0 1 fl_X2_21 pf_X2_1 rfl (Nat.le_of_ble_eq_true rfl) rfl rfl rfl dX2_add_37 ?_
  exact g_vret B hr dX2_add_40 (by decide) (by decide) ⟨rfl, rfl⟩
def by_w (f : Nat → Int32) (k : Nat) (w : Int32) : Nat → Int32 := upd (upd (upd (upd f k (vp_nar .byte (Int8.toInt32 (Int32.toInt8 (w >>> (24 &&& 31)))))) (k + 1) (vp_nar .byte (Int8.toInt32 (Int32.toInt8 (w >>> (16 &&& 31)))))) (k + 2) (vp_nar .byte (Int8.toInt32 (Int32.toInt8 (w >>> (8 &&& 31)))))) (k + 3) (vp_nar .byte (Int8.toInt32 (Int32.toInt8 (w >>> (0 &&& 31)))))
abbrev MX2_addWord : g_M := (yX2_addWord, cX2_addWord, 3, none)
theorem dX2_addWord_0 : decode cX2_addWord 0 = .ok (.bipush 24, 2) := by decide +kernel
theorem dX2_addWord_2 : decode cX2_addWord 2 = .ok (.istore_n 2, 1) := by decide +kernel
theorem dX2_addWord_3 : decode cX2_addWord 3 = .ok (.iload_n 2, 1) := by decide +kernel
theorem dX2_addWord_4 : decode cX2_addWord 4 = .ok (.ifCond .lt 16, 3) := by decide +kernel
theorem dX2_addWord_7 : decode cX2_addWord 7 = .ok (.aload_n 0, 1) := by decide +kernel
theorem dX2_addWord_8 : decode cX2_addWord 8 = .ok (.iload_n 1, 1) := by decide +kernel
theorem dX2_addWord_9 : decode cX2_addWord 9 = .ok (.iload_n 2, 1) := by decide +kernel
theorem dX2_addWord_10 : decode cX2_addWord 10 = .ok (.ishr, 1) := by decide +kernel
theorem dX2_addWord_11 : decode cX2_addWord 11 = .ok (.invokevirtual 25, 3) := by decide +kernel
theorem w_ml_X2_25 : Cond.methodLink RX2 25 yX2_add ∈ g_tbl := g_tbl_in 500 (by decide +kernel) (by decide +kernel)
theorem w_cd_X2_add : g_cw MX2_add ∈ g_tbl := g_tbl_in 495 (by decide +kernel) (by decide +kernel)
theorem cl_X2_25 : CL RX2 25 1 MX2_add := ⟨w_ml_X2_25, w_cd_X2_add, w_ini_X2, by decide +kernel, by decide +kernel, by decide +kernel⟩
theorem w_im_X2_add : Cond.instanceMethod yX2_add ∈ g_tbl := g_tbl_in 493 (by decide +kernel) (by decide +kernel)
theorem w_se_X2_add : Cond.selects RX2 yX2_add yX2_add ∈ g_tbl := g_tbl_in 494 (by decide +kernel) (by decide +kernel)
theorem dX2_addWord_14 : decode cX2_addWord 14 = .ok (.iinc 2 (-8), 3) := by decide +kernel
theorem dX2_addWord_17 : decode cX2_addWord 17 = .ok (.goto (-14), 3) := by decide +kernel
theorem dX2_addWord_20 : decode cX2_addWord 20 = .ok (.return_, 1) := by decide +kernel
set_option maxRecDepth 100000 in
set_option maxHeartbeats 4000000 in
theorem ev_X2_addWord (E : g_E) (t : Nat) (a : Nat) (k : Nat) (n : Nat) (f : Nat → Int32) (w : Int32) (hk : k + 4 ≤ n) (hn : n < 2147483648) : Ev E MX2_addWord 1 21 0 0 [.ref t, .int w] [(t, .inr (2, [.ref a, .int (nI k)])), (a, .inl (E.2.2.1 1, n, .inl f))] (fun v_ w_ => v_ = none ∧ w_ = [(t, .inr (2, [.ref a, .int (nI (k + 4))])), (a, .inl (E.2.2.1 1, n, .inl (by_w f k w)))]) := by
  refine Ev.intro (by decide) (Nat.le_of_ble_eq_true rfl) ?_
  intro X B hr hI
  have B : Bd E X cX2_addWord RX2 3 1 21 0 0 := B
  have hr : Rt E X none 0 0 (fun v_ w_ => v_ = none ∧ w_ = [(t, .inr (2, [.ref a, .int (nI (k + 4))])), (a, .inl (E.2.2.1 1, n, .inl (by_w f k w)))]) := hr
  show G E X 3 [(t, .inr (2, [.ref a, .int (nI k)])), (a, .inl (E.2.2.1 1, n, .inl f))] 0 0 [(0, .ref t), (1, .int w)] 0 []
  refine g_bipush (v := 24) B dX2_addWord_0 (by decide) ?_
  refine g_istore_n (lv' := [(2, .int 24), (0, .ref t), (1, .int w)]) B dX2_addWord_2 rfl (by decide) rfl ?_
  refine g_iload_n B dX2_addWord_3 rfl 0 rfl ?_
  refine g_if_lt (tgt := 20) B dX2_addWord_4 (by decide) (fun h => absurd h (by decide)) (fun c4 => ?_)
  refine g_aload_n B dX2_addWord_7 rfl 1 rfl ?_
  refine g_iload_n B dX2_addWord_8 rfl 2 rfl ?_
  refine g_iload_n B dX2_addWord_9 rfl 0 rfl ?_
  refine g_ishr B dX2_addWord_10 ?_
  refine g_callV (st := []) (As := [.int (w >>> (24 &&& 31))]) (wr := []) (nc' := 0) (ns' := 0) B cl_X2_25 w_im_X2_add w_se_X2_add (ev_X2_add E t a k n f (w >>> (24 &&& 31)) (by first | assumption | omega | decide) (by first | assumption | omega | decide)) rfl [0, 1] [] rfl rfl (by decide) (by decide) (by decide) 0 rfl (fun q h => by cases h; rfl) rfl ⟨by decide, by decide⟩ rfl rfl (by decide) (by decide) rfl (Nat.le_of_ble_eq_true rfl) dX2_addWord_11 (fun v w hq => ?_)
  obtain ⟨rfl, rfl⟩ := hq
  show G E X 3 [(t, .inr (2, [.ref a, .int (nI (k + 1))])), (a, .inl (E.2.2.1 1, n, .inl (upd f k (vp_nar .byte (Int8.toInt32 (Int32.toInt8 (w >>> (24 &&& 31))))))))] 0 0 [(2, .int 24), (0, .ref t), (1, .int w)] 14 []
  refine g_iinc (v := 16) (lv' := [(2, .int 16), (0, .ref t), (1, .int w)]) B dX2_addWord_14 0 rfl (by decide) (by decide) rfl ?_
  refine g_goto (tgt := 3) B dX2_addWord_17 (by decide) ?_
  refine g_iload_n B dX2_addWord_3 rfl 0 rfl ?_
  refine g_if_lt (tgt := 20) B dX2_addWord_4 (by decide) (fun h => absurd h (by decide)) (fun c4 => ?_)
  refine g_aload_n B dX2_addWord_7 rfl 1 rfl ?_
  refine g_iload_n B dX2_addWord_8 rfl 2 rfl ?_
  refine g_iload_n B dX2_addWord_9 rfl 0 rfl ?_
  refine g_ishr B dX2_addWord_10 ?_
  refine g_callV (st := []) (As := [.int (w >>> (16 &&& 31))]) (wr := []) (nc' := 0) (ns' := 0) B cl_X2_25 w_im_X2_add w_se_X2_add (ev_X2_add E t a (k + 1) n (upd f k (vp_nar .byte (Int8.toInt32 (Int32.toInt8 (w >>> (24 &&& 31)))))) (w >>> (16 &&& 31)) (by first | assumption | omega | decide) (by first | assumption | omega | decide)) rfl [0, 1] [] rfl rfl (by decide) (by decide) (by decide) 0 rfl (fun q h => by cases h; rfl) rfl ⟨by decide, by decide⟩ rfl rfl (by decide) (by decide) rfl (Nat.le_of_ble_eq_true rfl) dX2_addWord_11 (fun v w hq => ?_)
  obtain ⟨rfl, rfl⟩ := hq
  show G E X 3 [(t, .inr (2, [.ref a, .int (nI ((k + 1) + 1))])), (a, .inl (E.2.2.1 1, n, .inl (upd (upd f k (vp_nar .byte (Int8.toInt32 (Int32.toInt8 (w >>> (24 &&& 31)))))) (k + 1) (vp_nar .byte (Int8.toInt32 (Int32.toInt8 (w >>> (16 &&& 31))))))))] 0 0 [(2, .int 16), (0, .ref t), (1, .int w)] 14 []
  refine g_iinc (v := 8) (lv' := [(2, .int 8), (0, .ref t), (1, .int w)]) B dX2_addWord_14 0 rfl (by decide) (by decide) rfl ?_
  refine g_goto (tgt := 3) B dX2_addWord_17 (by decide) ?_
  refine g_iload_n B dX2_addWord_3 rfl 0 rfl ?_
  refine g_if_lt (tgt := 20) B dX2_addWord_4 (by decide) (fun h => absurd h (by decide)) (fun c4 => ?_)
  refine g_aload_n B dX2_addWord_7 rfl 1 rfl ?_
  refine g_iload_n B dX2_addWord_8 rfl 2 rfl ?_
  refine g_iload_n B dX2_addWord_9 rfl 0 rfl ?_
  refine g_ishr B dX2_addWord_10 ?_
  refine g_callV (st := []) (As := [.int (w >>> (8 &&& 31))]) (wr := []) (nc' := 0) (ns' := 0) B cl_X2_25 w_im_X2_add w_se_X2_add (ev_X2_add E t a ((k + 1) + 1) n (upd (upd f k (vp_nar .byte (Int8.toInt32 (Int32.toInt8 (w >>> (24 &&& 31)))))) (k + 1) (vp_nar .byte (Int8.toInt32 (Int32.toInt8 (w >>> (16 &&& 31)))))) (w >>> (8 &&& 31)) (by first | assumption | omega | decide) (by first | assumption | omega | decide)) rfl [0, 1] [] rfl rfl (by decide) (by decide) (by decide) 0 rfl (fun q h => by cases h; rfl) rfl ⟨by decide, by decide⟩ rfl rfl (by decide) (by decide) rfl (Nat.le_of_ble_eq_true rfl) dX2_addWord_11 (fun v w hq => ?_)
  obtain ⟨rfl, rfl⟩ := hq
  show G E X 3 [(t, .inr (2, [.ref a, .int (nI (((k + 1) + 1) + 1))])), (a, .inl (E.2.2.1 1, n, .inl (upd (upd (upd f k (vp_nar .byte (Int8.toInt32 (Int32.toInt8 (w >>> (24 &&& 31)))))) (k + 1) (vp_nar .byte (Int8.toInt32 (Int32.toInt8 (w >>> (16 &&& 31)))))) ((k + 1) + 1) (vp_nar .byte (Int8.toInt32 (Int32.toInt8 (w >>> (8 &&& 31))))))))] 0 0 [(2, .int 8), (0, .ref t), (1, .int w)] 14 []
  refine g_iinc (v := 0) (lv' := [(2, .int 0), (0, .ref t), (1, .int w)]) B dX2_addWord_14 0 rfl (by decide) (by decide) rfl ?_
  refine g_goto (tgt := 3) B dX2_addWord_17 (by decide) ?_
  refine g_iload_n B dX2_addWord_3 rfl 0 rfl ?_
  refine g_if_lt (tgt := 20) B dX2_addWord_4 (by decide) (fun h => absurd h (by decide)) (fun c4 => ?_)
  refine g_aload_n B dX2_addWord_7 rfl 1 rfl ?_
  refine g_iload_n B dX2_addWord_8 rfl 2 rfl ?_
  refine g_iload_n B dX2_addWord_9 rfl 0 rfl ?_
  refine g_ishr B dX2_addWord_10 ?_
  refine g_callV (st := []) (As := [.int (w >>> (0 &&& 31))]) (wr := []) (nc' := 0) (ns' := 0) B cl_X2_25 w_im_X2_add w_se_X2_add (ev_X2_add E t a (((k + 1) + 1) + 1) n (upd (upd (upd f k (vp_nar .byte (Int8.toInt32 (Int32.toInt8 (w >>> (24 &&& 31)))))) (k + 1) (vp_nar .byte (Int8.toInt32 (Int32.toInt8 (w >>> (16 &&& 31)))))) ((k + 1) + 1) (vp_nar .byte (Int8.toInt32 (Int32.toInt8 (w >>> (8 &&& 31)))))) (w >>> (0 &&& 31)) (by first | assumption | omega | decide) (by first | assumption | omega | decide)) rfl [0, 1] [] rfl rfl (by decide) (by decide) (by decide) 0 rfl (fun q h => by cases h; rfl) rfl ⟨by decide, by decide⟩ rfl rfl (by decide) (by decide) rfl (Nat.le_of_ble_eq_true rfl) dX2_addWord_11 (fun v w hq => ?_)
  obtain ⟨rfl, rfl⟩ := hq
  show G E X 3 [(t, .inr (2, [.ref a, .int (nI ((((k + 1) + 1) + 1) + 1))])), (a, .inl (E.2.2.1 1, n, .inl (upd (upd (upd (upd f k (vp_nar .byte (Int8.toInt32 (Int32.toInt8 (w >>> (24 &&& 31)))))) (k + 1) (vp_nar .byte (Int8.toInt32 (Int32.toInt8 (w >>> (16 &&& 31)))))) ((k + 1) + 1) (vp_nar .byte (Int8.toInt32 (Int32.toInt8 (w >>> (8 &&& 31)))))) (((k + 1) + 1) + 1) (vp_nar .byte (Int8.toInt32 (Int32.toInt8 (w >>> (0 &&& 31))))))))] 0 0 [(2, .int 0), (0, .ref t), (1, .int w)] 14 []
  refine g_iinc (v := (-8)) (lv' := [(2, .int (-8)), (0, .ref t), (1, .int w)]) B dX2_addWord_14 0 rfl (by decide) (by decide) rfl ?_
  refine g_goto (tgt := 3) B dX2_addWord_17 (by decide) ?_
  refine g_iload_n B dX2_addWord_3 rfl 0 rfl ?_
  refine g_if_lt (tgt := 20) B dX2_addWord_4 (by decide) (fun c4 => ?_) (fun h => absurd (by decide) h)
  exact g_vret B hr dX2_addWord_20 (by decide) (by decide) ⟨rfl, rfl⟩
abbrev MX2_shorten : g_M := (yX2_shorten, cX2_shorten, 2, (some .boolean))
theorem dX2_shorten_0 : decode cX2_shorten 0 = .ok (.iload_n 1, 1) := by decide +kernel
theorem dX2_shorten_1 : decode cX2_shorten 1 = .ok (.ifCond .lt 11, 3) := by decide +kernel
theorem dX2_shorten_12 : decode cX2_shorten 12 = .ok (.iconst 0, 1) := by decide +kernel
theorem dX2_shorten_13 : decode cX2_shorten 13 = .ok (.ireturn, 1) := by decide +kernel
theorem dX2_shorten_4 : decode cX2_shorten 4 = .ok (.iload_n 1, 1) := by decide +kernel
theorem dX2_shorten_5 : decode cX2_shorten 5 = .ok (.aload_n 0, 1) := by decide +kernel
theorem dX2_shorten_6 : decode cX2_shorten 6 = .ok (.getfield 21, 3) := by decide +kernel
theorem dX2_shorten_9 : decode cX2_shorten 9 = .ok (.if_icmp .le 5, 3) := by decide +kernel
theorem dX2_shorten_14 : decode cX2_shorten 14 = .ok (.aload_n 0, 1) := by decide +kernel
theorem dX2_shorten_15 : decode cX2_shorten 15 = .ok (.iload_n 1, 1) := by decide +kernel
theorem dX2_shorten_16 : decode cX2_shorten 16 = .ok (.putfield 21, 3) := by decide +kernel
theorem dX2_shorten_19 : decode cX2_shorten 19 = .ok (.iconst 1, 1) := by decide +kernel
theorem dX2_shorten_20 : decode cX2_shorten 20 = .ok (.ireturn, 1) := by decide +kernel
set_option maxRecDepth 100000 in
set_option maxHeartbeats 4000000 in
theorem ev_X2_shorten_p (E : g_E) (t : Nat) (a : Nat) (n : Int32)  : Ev E MX2_shorten 0 0 0 0 [.ref t, .int n] [(t, .inr (2, [.ref a, .int 0]))] (fun v_ w_ => v_ = some (.int (p1_cut n))) := by
  refine Ev.intro (by decide) (Nat.le_of_ble_eq_true rfl) ?_
  intro X B hr hI
  have B : Bd E X cX2_shorten RX2 2 0 0 0 0 := B
  have hr : Rt E X (some .boolean) 0 0 (fun v_ w_ => v_ = some (.int (p1_cut n))) := hr
  show G E X 2 [(t, .inr (2, [.ref a, .int 0]))] 0 0 [(0, .ref t), (1, .int n)] 0 []
  refine g_iload_n B dX2_shorten_0 rfl 1 rfl ?_
  refine g_if_lt (tgt := 12) B dX2_shorten_1 (by decide) (fun c1_131 => ?_) (fun c1_131 => ?_)
  · refine g_iconst (v := 0) B dX2_shorten_12 (by decide) ?_
    exact g_zret B hr (by decide) dX2_shorten_13 (by decide) (by decide) (by simp [p1_cut, c1_131])
  · refine g_iload_n B dX2_shorten_4 rfl 1 rfl ?_
    refine g_aload_n B dX2_shorten_5 rfl 0 rfl ?_
    refine g_get B 0 1 fl_X2_21 rfl rfl dX2_shorten_6 ?_
    refine g_icmp_le (tgt := 14) B dX2_shorten_9 (by decide) (fun c9_132 => ?_) (fun c9_132 => ?_)
    · refine g_aload_n B dX2_shorten_14 rfl 0 rfl ?_
      refine g_iload_n B dX2_shorten_15 rfl 1 rfl ?_
      refine g_put (ws' := [(t, .inr (2, [.ref a, .int n]))]) B 0 1 fl_X2_21 pf_X2_1 rfl (Nat.le_of_ble_eq_true rfl) rfl rfl rfl dX2_shorten_16 ?_
      refine g_iconst (v := 1) B dX2_shorten_19 (by decide) ?_
      exact g_zret B hr (by decide) dX2_shorten_20 (by decide) (by decide) (by simp [p1_cut, c1_131, c9_132])
    · refine g_iconst (v := 0) B dX2_shorten_12 (by decide) ?_
      exact g_zret B hr (by decide) dX2_shorten_13 (by decide) (by decide) (by simp [p1_cut, c1_131, c9_132])
set_option maxRecDepth 100000 in
set_option maxHeartbeats 4000000 in
theorem ev_X2_shorten_0 (E : g_E) (t : Nat) (a : Nat)  : Ev E MX2_shorten 0 0 0 0 [.ref t, .int 0] [(t, .inr (2, [.ref a, .int 0]))] (fun v_ w_ => v_ = some (.int 1) ∧ w_ = [(t, .inr (2, [.ref a, .int 0]))]) := by
  refine Ev.intro (by decide) (Nat.le_of_ble_eq_true rfl) ?_
  intro X B hr hI
  have B : Bd E X cX2_shorten RX2 2 0 0 0 0 := B
  have hr : Rt E X (some .boolean) 0 0 (fun v_ w_ => v_ = some (.int 1) ∧ w_ = [(t, .inr (2, [.ref a, .int 0]))]) := hr
  show G E X 2 [(t, .inr (2, [.ref a, .int 0]))] 0 0 [(0, .ref t), (1, .int 0)] 0 []
  refine g_iload_n B dX2_shorten_0 rfl 1 rfl ?_
  refine g_if_lt (tgt := 12) B dX2_shorten_1 (by decide) (fun h => absurd h (by decide)) (fun c1 => ?_)
  refine g_iload_n B dX2_shorten_4 rfl 1 rfl ?_
  refine g_aload_n B dX2_shorten_5 rfl 0 rfl ?_
  refine g_get B 0 1 fl_X2_21 rfl rfl dX2_shorten_6 ?_
  refine g_icmp_le (tgt := 14) B dX2_shorten_9 (by decide) (fun c9 => ?_) (fun h => absurd (by decide) h)
  refine g_aload_n B dX2_shorten_14 rfl 0 rfl ?_
  refine g_iload_n B dX2_shorten_15 rfl 1 rfl ?_
  refine g_put (ws' := [(t, .inr (2, [.ref a, .int 0]))]) B 0 1 fl_X2_21 pf_X2_1 rfl (Nat.le_of_ble_eq_true rfl) rfl rfl rfl dX2_shorten_16 ?_
  refine g_iconst (v := 1) B dX2_shorten_19 (by decide) ?_
  exact g_zret B hr (by decide) dX2_shorten_20 (by decide) (by decide) ⟨rfl, rfl⟩
abbrev MX2_turn : g_M := (yX2_turn, cX2_turn, 3, (some .boolean))
theorem dX2_turn_0 : decode cX2_turn 0 = .ok (.iload_n 1, 1) := by decide +kernel
theorem dX2_turn_1 : decode cX2_turn 1 = .ok (.ifCond .lt 20, 3) := by decide +kernel
theorem dX2_turn_21 : decode cX2_turn 21 = .ok (.iconst 0, 1) := by decide +kernel
theorem dX2_turn_22 : decode cX2_turn 22 = .ok (.ireturn, 1) := by decide +kernel
theorem dX2_turn_4 : decode cX2_turn 4 = .ok (.iload_n 1, 1) := by decide +kernel
theorem dX2_turn_5 : decode cX2_turn 5 = .ok (.aload_n 0, 1) := by decide +kernel
theorem dX2_turn_6 : decode cX2_turn 6 = .ok (.getfield 21, 3) := by decide +kernel
theorem dX2_turn_9 : decode cX2_turn 9 = .ok (.if_icmp .ge 12, 3) := by decide +kernel
set_option maxRecDepth 100000 in
set_option maxHeartbeats 4000000 in
theorem ev_X2_turn_0 (E : g_E) (t : Nat) (a : Nat) (i : Int32) (b : Int32)  : Ev E MX2_turn 0 0 0 0 [.ref t, .int i, .int b] [(t, .inr (2, [.ref a, .int 0]))] (fun v_ w_ => v_ = some (.int 0) ∧ w_ = [(t, .inr (2, [.ref a, .int 0]))]) := by
  refine Ev.intro (by decide) (Nat.le_of_ble_eq_true rfl) ?_
  intro X B hr hI
  have B : Bd E X cX2_turn RX2 3 0 0 0 0 := B
  have hr : Rt E X (some .boolean) 0 0 (fun v_ w_ => v_ = some (.int 0) ∧ w_ = [(t, .inr (2, [.ref a, .int 0]))]) := hr
  show G E X 3 [(t, .inr (2, [.ref a, .int 0]))] 0 0 [(0, .ref t), (1, .int i), (2, .int b)] 0 []
  refine g_iload_n B dX2_turn_0 rfl 1 rfl ?_
  refine g_if_lt (tgt := 21) B dX2_turn_1 (by decide) (fun c1_133 => ?_) (fun c1_133 => ?_)
  · refine g_iconst (v := 0) B dX2_turn_21 (by decide) ?_
    exact g_zret B hr (by decide) dX2_turn_22 (by decide) (by decide) ⟨rfl, rfl⟩
  · refine g_iload_n B dX2_turn_4 rfl 1 rfl ?_
    refine g_aload_n B dX2_turn_5 rfl 0 rfl ?_
    refine g_get B 0 1 fl_X2_21 rfl rfl dX2_turn_6 ?_
    refine g_icmp_ge (tgt := 21) B dX2_turn_9 (by decide) (fun c9 => ?_) (fun h => absurd (o_1 c1_133) h)
    refine g_iconst (v := 0) B dX2_turn_21 (by decide) ?_
    exact g_zret B hr (by decide) dX2_turn_22 (by decide) (by decide) ⟨rfl, rfl⟩
abbrev MX2_copy : g_M := (yX2_copy, cX2_copy, 3, (some .boolean))
theorem dX2_copy_0 : decode cX2_copy 0 = .ok (.aload_n 1, 1) := by decide +kernel
theorem dX2_copy_1 : decode cX2_copy 1 = .ok (.getfield 21, 3) := by decide +kernel
theorem dX2_copy_4 : decode cX2_copy 4 = .ok (.istore_n 2, 1) := by decide +kernel
theorem dX2_copy_5 : decode cX2_copy 5 = .ok (.iload_n 2, 1) := by decide +kernel
theorem dX2_copy_6 : decode cX2_copy 6 = .ok (.ifCond .lt 21, 3) := by decide +kernel
theorem dX2_copy_9 : decode cX2_copy 9 = .ok (.iload_n 2, 1) := by decide +kernel
theorem dX2_copy_10 : decode cX2_copy 10 = .ok (.aload_n 0, 1) := by decide +kernel
theorem dX2_copy_11 : decode cX2_copy 11 = .ok (.getfield 15, 3) := by decide +kernel
theorem dX2_copy_14 : decode cX2_copy 14 = .ok (.arraylength, 1) := by decide +kernel
theorem dX2_copy_15 : decode cX2_copy 15 = .ok (.if_icmp .gt 12, 3) := by decide +kernel
theorem dX2_copy_18 : decode cX2_copy 18 = .ok (.iload_n 2, 1) := by decide +kernel
theorem dX2_copy_19 : decode cX2_copy 19 = .ok (.aload_n 1, 1) := by decide +kernel
theorem dX2_copy_20 : decode cX2_copy 20 = .ok (.getfield 15, 3) := by decide +kernel
theorem dX2_copy_23 : decode cX2_copy 23 = .ok (.arraylength, 1) := by decide +kernel
theorem dX2_copy_24 : decode cX2_copy 24 = .ok (.if_icmp .le 5, 3) := by decide +kernel
theorem dX2_copy_29 : decode cX2_copy 29 = .ok (.aload_n 1, 1) := by decide +kernel
theorem dX2_copy_30 : decode cX2_copy 30 = .ok (.getfield 15, 3) := by decide +kernel
theorem dX2_copy_33 : decode cX2_copy 33 = .ok (.iconst 0, 1) := by decide +kernel
theorem dX2_copy_34 : decode cX2_copy 34 = .ok (.aload_n 0, 1) := by decide +kernel
theorem dX2_copy_35 : decode cX2_copy 35 = .ok (.getfield 15, 3) := by decide +kernel
theorem dX2_copy_38 : decode cX2_copy 38 = .ok (.iconst 0, 1) := by decide +kernel
theorem dX2_copy_39 : decode cX2_copy 39 = .ok (.iload_n 2, 1) := by decide +kernel
theorem dX2_copy_40 : decode cX2_copy 40 = .ok (.invokestatic 33, 3) := by decide +kernel
theorem w_mla_X2_33 : Cond.methodLink RX2 33 arraycopyName ∈ g_tbl := g_tbl_in 725 (by decide +kernel) (by decide +kernel)
theorem w_nat_ac : Cond.native arraycopyName ∈ g_tbl := g_tbl_in 727 (by decide +kernel) (by decide +kernel)
theorem w_sm_ac : Cond.static arraycopyName ∈ g_tbl := g_tbl_in 726 (by decide +kernel) (by decide +kernel)
theorem w_ini_Sys : Cond.initialized "java/lang/System" ∈ g_tbl := g_tbl_in 84 (by decide +kernel) (by decide +kernel)
theorem dX2_copy_43 : decode cX2_copy 43 = .ok (.aload_n 0, 1) := by decide +kernel
theorem dX2_copy_44 : decode cX2_copy 44 = .ok (.iload_n 2, 1) := by decide +kernel
theorem dX2_copy_45 : decode cX2_copy 45 = .ok (.putfield 21, 3) := by decide +kernel
theorem dX2_copy_48 : decode cX2_copy 48 = .ok (.iconst 1, 1) := by decide +kernel
theorem dX2_copy_49 : decode cX2_copy 49 = .ok (.ireturn, 1) := by decide +kernel
set_option maxRecDepth 100000 in
set_option maxHeartbeats 4000000 in
theorem ev_X2_copy_9600 (E : g_E) (t : Nat) (a : Nat) (u : Nat) (c : Nat)  : Ev E MX2_copy 1 60 0 0 [.ref t, .ref u] [(t, .inr (2, [.ref a, .int 0])), (a, .inl (E.2.2.1 1, 6000, .inl (fun _ => 0))), (u, .inr (2, [.ref c, .int 0])), (c, .inl (E.2.2.1 1, 9600, .inl (fun _ => 0)))] (fun v_ w_ => ∃ cf : Nat → Int32, v_ = some (.int 1) ∧ w_ = [(t, .inr (2, [.ref a, .int 0])), (a, .inl (E.2.2.1 1, 6000, .inl cf)), (u, .inr (2, [.ref c, .int 0])), (c, .inl (E.2.2.1 1, 9600, .inl (fun _ => 0)))]) := by
  refine Ev.intro (by decide) (Nat.le_of_ble_eq_true rfl) ?_
  intro X B hr hI
  have B : Bd E X cX2_copy RX2 3 1 60 0 0 := B
  have hr : Rt E X (some .boolean) 0 0 (fun v_ w_ => ∃ cf : Nat → Int32, v_ = some (.int 1) ∧ w_ = [(t, .inr (2, [.ref a, .int 0])), (a, .inl (E.2.2.1 1, 6000, .inl cf)), (u, .inr (2, [.ref c, .int 0])), (c, .inl (E.2.2.1 1, 9600, .inl (fun _ => 0)))]) := hr
  show G E X 3 [(t, .inr (2, [.ref a, .int 0])), (a, .inl (E.2.2.1 1, 6000, .inl (fun _ => 0))), (u, .inr (2, [.ref c, .int 0])), (c, .inl (E.2.2.1 1, 9600, .inl (fun _ => 0)))] 0 0 [(0, .ref t), (1, .ref u)] 0 []
  refine g_aload_n B dX2_copy_0 rfl 1 rfl ?_
  refine g_get B 2 1 fl_X2_21 rfl rfl dX2_copy_1 ?_
  refine g_istore_n (lv' := [(2, .int 0), (0, .ref t), (1, .ref u)]) B dX2_copy_4 rfl (by decide) rfl ?_
  refine g_iload_n B dX2_copy_5 rfl 0 rfl ?_
  refine g_if_lt (tgt := 27) B dX2_copy_6 (by decide) (fun h => absurd h (by decide)) (fun c6 => ?_)
  refine g_iload_n B dX2_copy_9 rfl 0 rfl ?_
  refine g_aload_n B dX2_copy_10 rfl 1 rfl ?_
  refine g_get B 0 0 fl_X2_15 rfl rfl dX2_copy_11 ?_
  refine g_alen (v := nI 6000) B 1 (by decide) rfl rfl dX2_copy_14 ?_
  refine g_ri (x' := 6000) (by decide) ?_
  refine g_icmp_gt (tgt := 27) B dX2_copy_15 (by decide) (fun h => absurd h (by decide)) (fun c15 => ?_)
  refine g_iload_n B dX2_copy_18 rfl 0 rfl ?_
  refine g_aload_n B dX2_copy_19 rfl 2 rfl ?_
  refine g_get B 2 0 fl_X2_15 rfl rfl dX2_copy_20 ?_
  refine g_alen (v := nI 9600) B 3 (by decide) rfl rfl dX2_copy_23 ?_
  refine g_ri (x' := 9600) (by decide) ?_
  refine g_icmp_le (tgt := 29) B dX2_copy_24 (by decide) (fun c24 => ?_) (fun h => absurd (by decide) h)
  refine g_aload_n B dX2_copy_29 rfl 2 rfl ?_
  refine g_get B 2 0 fl_X2_15 rfl rfl dX2_copy_30 ?_
  refine g_iconst (v := 0) B dX2_copy_33 (by decide) ?_
  refine g_aload_n B dX2_copy_34 rfl 1 rfl ?_
  refine g_get B 0 0 fl_X2_15 rfl rfl dX2_copy_35 ?_
  refine g_iconst (v := 0) B dX2_copy_38 (by decide) ?_
  refine g_iload_n B dX2_copy_39 rfl 0 rfl ?_
  refine g_copyb (ws' := [(t, .inr (2, [.ref a, .int 0])), (a, .inl (E.2.2.1 1, 6000, .inl (va_cpy (fun _ => 0) (fun _ => 0) (Int32.toNatClampNeg 0) (Int32.toNatClampNeg 0) (Int32.toNatClampNeg 0)))), (u, .inr (2, [.ref c, .int 0])), (c, .inl (E.2.2.1 1, 9600, .inl (fun _ => 0)))]) B w_mla_X2_33 w_nat_ac w_sm_ac w_ini_Sys 3 1 rfl rfl (by decide) (by decide) (by decide) (by decide) (by decide) (fun i h => absurd h (Nat.not_lt_zero i)) (by decide) (Nat.le_of_ble_eq_true rfl) rfl dX2_copy_40 ?_
  refine g_aload_n B dX2_copy_43 rfl 1 rfl ?_
  refine g_iload_n B dX2_copy_44 rfl 0 rfl ?_
  refine g_put (ws' := [(t, .inr (2, [.ref a, .int 0])), (a, .inl (E.2.2.1 1, 6000, .inl (va_cpy (fun _ => 0) (fun _ => 0) (Int32.toNatClampNeg 0) (Int32.toNatClampNeg 0) (Int32.toNatClampNeg 0)))), (u, .inr (2, [.ref c, .int 0])), (c, .inl (E.2.2.1 1, 9600, .inl (fun _ => 0)))]) B 0 1 fl_X2_21 pf_X2_1 rfl (Nat.le_of_ble_eq_true rfl) rfl rfl rfl dX2_copy_45 ?_
  refine g_iconst (v := 1) B dX2_copy_48 (by decide) ?_
  exact g_zret B hr (by decide) dX2_copy_49 (by decide) (by decide) ⟨(va_cpy (fun _ => 0) (fun _ => 0) (Int32.toNatClampNeg 0) (Int32.toNatClampNeg 0) (Int32.toNatClampNeg 0)), rfl, rfl⟩
set_option maxRecDepth 100000 in
set_option maxHeartbeats 4000000 in
theorem ev_X2_copy_2450 (E : g_E) (t : Nat) (a : Nat) (u : Nat) (c : Nat)  : Ev E MX2_copy 1 60 0 0 [.ref t, .ref u] [(t, .inr (2, [.ref a, .int 0])), (a, .inl (E.2.2.1 1, 6000, .inl (fun _ => 0))), (u, .inr (2, [.ref c, .int 0])), (c, .inl (E.2.2.1 1, 2450, .inl (fun _ => 0)))] (fun v_ w_ => ∃ cf : Nat → Int32, v_ = some (.int 1) ∧ w_ = [(t, .inr (2, [.ref a, .int 0])), (a, .inl (E.2.2.1 1, 6000, .inl cf)), (u, .inr (2, [.ref c, .int 0])), (c, .inl (E.2.2.1 1, 2450, .inl (fun _ => 0)))]) := by
  refine Ev.intro (by decide) (Nat.le_of_ble_eq_true rfl) ?_
  intro X B hr hI
  have B : Bd E X cX2_copy RX2 3 1 60 0 0 := B
  have hr : Rt E X (some .boolean) 0 0 (fun v_ w_ => ∃ cf : Nat → Int32, v_ = some (.int 1) ∧ w_ = [(t, .inr (2, [.ref a, .int 0])), (a, .inl (E.2.2.1 1, 6000, .inl cf)), (u, .inr (2, [.ref c, .int 0])), (c, .inl (E.2.2.1 1, 2450, .inl (fun _ => 0)))]) := hr
  show G E X 3 [(t, .inr (2, [.ref a, .int 0])), (a, .inl (E.2.2.1 1, 6000, .inl (fun _ => 0))), (u, .inr (2, [.ref c, .int 0])), (c, .inl (E.2.2.1 1, 2450, .inl (fun _ => 0)))] 0 0 [(0, .ref t), (1, .ref u)] 0 []
  refine g_aload_n B dX2_copy_0 rfl 1 rfl ?_
  refine g_get B 2 1 fl_X2_21 rfl rfl dX2_copy_1 ?_
  refine g_istore_n (lv' := [(2, .int 0), (0, .ref t), (1, .ref u)]) B dX2_copy_4 rfl (by decide) rfl ?_
  refine g_iload_n B dX2_copy_5 rfl 0 rfl ?_
  refine g_if_lt (tgt := 27) B dX2_copy_6 (by decide) (fun h => absurd h (by decide)) (fun c6 => ?_)
  refine g_iload_n B dX2_copy_9 rfl 0 rfl ?_
  refine g_aload_n B dX2_copy_10 rfl 1 rfl ?_
  refine g_get B 0 0 fl_X2_15 rfl rfl dX2_copy_11 ?_
  refine g_alen (v := nI 6000) B 1 (by decide) rfl rfl dX2_copy_14 ?_
  refine g_ri (x' := 6000) (by decide) ?_
  refine g_icmp_gt (tgt := 27) B dX2_copy_15 (by decide) (fun h => absurd h (by decide)) (fun c15 => ?_)
  refine g_iload_n B dX2_copy_18 rfl 0 rfl ?_
  refine g_aload_n B dX2_copy_19 rfl 2 rfl ?_
  refine g_get B 2 0 fl_X2_15 rfl rfl dX2_copy_20 ?_
  refine g_alen (v := nI 2450) B 3 (by decide) rfl rfl dX2_copy_23 ?_
  refine g_ri (x' := 2450) (by decide) ?_
  refine g_icmp_le (tgt := 29) B dX2_copy_24 (by decide) (fun c24 => ?_) (fun h => absurd (by decide) h)
  refine g_aload_n B dX2_copy_29 rfl 2 rfl ?_
  refine g_get B 2 0 fl_X2_15 rfl rfl dX2_copy_30 ?_
  refine g_iconst (v := 0) B dX2_copy_33 (by decide) ?_
  refine g_aload_n B dX2_copy_34 rfl 1 rfl ?_
  refine g_get B 0 0 fl_X2_15 rfl rfl dX2_copy_35 ?_
  refine g_iconst (v := 0) B dX2_copy_38 (by decide) ?_
  refine g_iload_n B dX2_copy_39 rfl 0 rfl ?_
  refine g_copyb (ws' := [(t, .inr (2, [.ref a, .int 0])), (a, .inl (E.2.2.1 1, 6000, .inl (va_cpy (fun _ => 0) (fun _ => 0) (Int32.toNatClampNeg 0) (Int32.toNatClampNeg 0) (Int32.toNatClampNeg 0)))), (u, .inr (2, [.ref c, .int 0])), (c, .inl (E.2.2.1 1, 2450, .inl (fun _ => 0)))]) B w_mla_X2_33 w_nat_ac w_sm_ac w_ini_Sys 3 1 rfl rfl (by decide) (by decide) (by decide) (by decide) (by decide) (fun i h => absurd h (Nat.not_lt_zero i)) (by decide) (Nat.le_of_ble_eq_true rfl) rfl dX2_copy_40 ?_
  refine g_aload_n B dX2_copy_43 rfl 1 rfl ?_
  refine g_iload_n B dX2_copy_44 rfl 0 rfl ?_
  refine g_put (ws' := [(t, .inr (2, [.ref a, .int 0])), (a, .inl (E.2.2.1 1, 6000, .inl (va_cpy (fun _ => 0) (fun _ => 0) (Int32.toNatClampNeg 0) (Int32.toNatClampNeg 0) (Int32.toNatClampNeg 0)))), (u, .inr (2, [.ref c, .int 0])), (c, .inl (E.2.2.1 1, 2450, .inl (fun _ => 0)))]) B 0 1 fl_X2_21 pf_X2_1 rfl (Nat.le_of_ble_eq_true rfl) rfl rfl rfl dX2_copy_45 ?_
  refine g_iconst (v := 1) B dX2_copy_48 (by decide) ?_
  exact g_zret B hr (by decide) dX2_copy_49 (by decide) (by decide) ⟨(va_cpy (fun _ => 0) (fun _ => 0) (Int32.toNatClampNeg 0) (Int32.toNatClampNeg 0) (Int32.toNatClampNeg 0)), rfl, rfl⟩
abbrev MX9_tell : g_M := (yX9_tell, cX9_tell, 2, (some .int))
theorem dX9_tell_0 : decode cX9_tell 0 = .ok (.iload_n 1, 1) := by decide +kernel
theorem dX9_tell_1 : decode cX9_tell 1 = .ok (.tableswitch 111 0 9 #[55, 60, 65, 70, 75, 86, 91, 96, 101, 106], 55) := by decide +kernel
theorem dX9_tell_56 : decode cX9_tell 56 = .ok (.aload_n 0, 1) := by decide +kernel
theorem dX9_tell_57 : decode cX9_tell 57 = .ok (.getfield 38, 3) := by decide +kernel
theorem w_fl_X9_38 : Cond.fieldLink RX9 38 (TX9 2).1 (TX9 2).2.1 (TX9 2).2.2.1 ∈ g_tbl := g_tbl_in 317 (by decide +kernel) (by decide +kernel)
theorem fl_X9_38 : FL RX9 38 9 2 := ⟨RX9, TX9, 12, rfl, by decide, inX_X9, w_fl_X9_38⟩
theorem dX9_tell_60 : decode cX9_tell 60 = .ok (.ireturn, 1) := by decide +kernel
theorem dX9_tell_61 : decode cX9_tell 61 = .ok (.aload_n 0, 1) := by decide +kernel
theorem dX9_tell_62 : decode cX9_tell 62 = .ok (.getfield 32, 3) := by decide +kernel
theorem w_fl_X9_32 : Cond.fieldLink RX9 32 (TX9 4).1 (TX9 4).2.1 (TX9 4).2.2.1 ∈ g_tbl := g_tbl_in 324 (by decide +kernel) (by decide +kernel)
theorem fl_X9_32 : FL RX9 32 9 4 := ⟨RX9, TX9, 12, rfl, by decide, inX_X9, w_fl_X9_32⟩
theorem dX9_tell_65 : decode cX9_tell 65 = .ok (.ireturn, 1) := by decide +kernel
theorem dX9_tell_66 : decode cX9_tell 66 = .ok (.aload_n 0, 1) := by decide +kernel
theorem dX9_tell_67 : decode cX9_tell 67 = .ok (.getfield 25, 3) := by decide +kernel
theorem w_fl_X9_25 : Cond.fieldLink RX9 25 (TX9 5).1 (TX9 5).2.1 (TX9 5).2.2.1 ∈ g_tbl := g_tbl_in 328 (by decide +kernel) (by decide +kernel)
theorem fl_X9_25 : FL RX9 25 9 5 := ⟨RX9, TX9, 12, rfl, by decide, inX_X9, w_fl_X9_25⟩
theorem dX9_tell_70 : decode cX9_tell 70 = .ok (.ireturn, 1) := by decide +kernel
theorem dX9_tell_71 : decode cX9_tell 71 = .ok (.aload_n 0, 1) := by decide +kernel
theorem dX9_tell_72 : decode cX9_tell 72 = .ok (.getfield 29, 3) := by decide +kernel
theorem w_fl_X9_29 : Cond.fieldLink RX9 29 (TX9 6).1 (TX9 6).2.1 (TX9 6).2.2.1 ∈ g_tbl := g_tbl_in 331 (by decide +kernel) (by decide +kernel)
theorem fl_X9_29 : FL RX9 29 9 6 := ⟨RX9, TX9, 12, rfl, by decide, inX_X9, w_fl_X9_29⟩
theorem dX9_tell_75 : decode cX9_tell 75 = .ok (.ireturn, 1) := by decide +kernel
theorem dX9_tell_76 : decode cX9_tell 76 = .ok (.aload_n 0, 1) := by decide +kernel
theorem dX9_tell_77 : decode cX9_tell 77 = .ok (.getfield 12, 3) := by decide +kernel
theorem dX9_tell_80 : decode cX9_tell 80 = .ok (.getfield 84, 3) := by decide +kernel
theorem w_fl_X9_84 : Cond.fieldLink RX9 84 (TX6 0).1 (TX6 0).2.1 (TX6 0).2.2.1 ∈ g_tbl := g_tbl_in 263 (by decide +kernel) (by decide +kernel)
theorem fl_X9_84 : FL RX9 84 6 0 := ⟨RX6, TX6, 8, rfl, by decide, inX_X6, w_fl_X9_84⟩
theorem dX9_tell_83 : decode cX9_tell 83 = .ok (.getfield 88, 3) := by decide +kernel
theorem w_fl_X9_88 : Cond.fieldLink RX9 88 (TX7 2).1 (TX7 2).2.1 (TX7 2).2.2.1 ∈ g_tbl := g_tbl_in 109 (by decide +kernel) (by decide +kernel)
theorem fl_X9_88 : FL RX9 88 7 2 := ⟨RX7, TX7, 3, rfl, by decide, inX_X7, w_fl_X9_88⟩
theorem dX9_tell_86 : decode cX9_tell 86 = .ok (.ireturn, 1) := by decide +kernel
theorem dX9_tell_87 : decode cX9_tell 87 = .ok (.aload_n 0, 1) := by decide +kernel
theorem dX9_tell_88 : decode cX9_tell 88 = .ok (.getfield 35, 3) := by decide +kernel
theorem w_fl_X9_35 : Cond.fieldLink RX9 35 (TX9 7).1 (TX9 7).2.1 (TX9 7).2.2.1 ∈ g_tbl := g_tbl_in 335 (by decide +kernel) (by decide +kernel)
theorem fl_X9_35 : FL RX9 35 9 7 := ⟨RX9, TX9, 12, rfl, by decide, inX_X9, w_fl_X9_35⟩
theorem dX9_tell_91 : decode cX9_tell 91 = .ok (.ireturn, 1) := by decide +kernel
theorem dX9_tell_92 : decode cX9_tell 92 = .ok (.aload_n 0, 1) := by decide +kernel
theorem dX9_tell_93 : decode cX9_tell 93 = .ok (.getfield 44, 3) := by decide +kernel
theorem w_fl_X9_44 : Cond.fieldLink RX9 44 (TX9 8).1 (TX9 8).2.1 (TX9 8).2.2.1 ∈ g_tbl := g_tbl_in 337 (by decide +kernel) (by decide +kernel)
theorem fl_X9_44 : FL RX9 44 9 8 := ⟨RX9, TX9, 12, rfl, by decide, inX_X9, w_fl_X9_44⟩
theorem dX9_tell_96 : decode cX9_tell 96 = .ok (.ireturn, 1) := by decide +kernel
theorem dX9_tell_97 : decode cX9_tell 97 = .ok (.aload_n 0, 1) := by decide +kernel
theorem dX9_tell_98 : decode cX9_tell 98 = .ok (.getfield 47, 3) := by decide +kernel
theorem w_fl_X9_47 : Cond.fieldLink RX9 47 (TX9 9).1 (TX9 9).2.1 (TX9 9).2.2.1 ∈ g_tbl := g_tbl_in 338 (by decide +kernel) (by decide +kernel)
theorem fl_X9_47 : FL RX9 47 9 9 := ⟨RX9, TX9, 12, rfl, by decide, inX_X9, w_fl_X9_47⟩
theorem dX9_tell_101 : decode cX9_tell 101 = .ok (.ireturn, 1) := by decide +kernel
theorem dX9_tell_102 : decode cX9_tell 102 = .ok (.aload_n 0, 1) := by decide +kernel
theorem dX9_tell_103 : decode cX9_tell 103 = .ok (.getfield 50, 3) := by decide +kernel
theorem w_fl_X9_50 : Cond.fieldLink RX9 50 (TX9 10).1 (TX9 10).2.1 (TX9 10).2.2.1 ∈ g_tbl := g_tbl_in 339 (by decide +kernel) (by decide +kernel)
theorem fl_X9_50 : FL RX9 50 9 10 := ⟨RX9, TX9, 12, rfl, by decide, inX_X9, w_fl_X9_50⟩
theorem dX9_tell_106 : decode cX9_tell 106 = .ok (.ireturn, 1) := by decide +kernel
theorem dX9_tell_107 : decode cX9_tell 107 = .ok (.aload_n 0, 1) := by decide +kernel
theorem dX9_tell_108 : decode cX9_tell 108 = .ok (.getfield 53, 3) := by decide +kernel
theorem w_fl_X9_53 : Cond.fieldLink RX9 53 (TX9 11).1 (TX9 11).2.1 (TX9 11).2.2.1 ∈ g_tbl := g_tbl_in 340 (by decide +kernel) (by decide +kernel)
theorem fl_X9_53 : FL RX9 53 9 11 := ⟨RX9, TX9, 12, rfl, by decide, inX_X9, w_fl_X9_53⟩
theorem dX9_tell_111 : decode cX9_tell 111 = .ok (.ireturn, 1) := by decide +kernel
theorem dX9_tell_112 : decode cX9_tell 112 = .ok (.iconst (-1), 1) := by decide +kernel
theorem dX9_tell_113 : decode cX9_tell 113 = .ok (.ireturn, 1) := by decide +kernel
set_option maxRecDepth 100000 in
set_option maxHeartbeats 4000000 in
theorem ev_X9_tell (E : g_E) (w : Nat) (ps : Nat) (md : Nat) (p : Nat) (we : Nat) (inp : Nat) (ba : Nat) (gu : Nat) (te : Nat) (de : Nat) (wh : Int32)  : Ev E MX9_tell 0 0 0 0 [.ref w, .int wh] [(w, .inr (9, [.ref ps, .ref md, .int 0, .int 0, .int 0, .int 0, .int 0, .int 0, .int 0, .int 0, .int 0, .int 0])), (ps, .inr (6, [.ref p, .ref we, .ref inp, .ref ba, .ref gu, .int 0, .int 0, .int 0])), (p, .inr (7, [.ref te, .ref de, .int 0]))] (fun v_ w_ => v_ = some (.int (p1_look wh))) := by
  refine Ev.intro (by decide) (Nat.le_of_ble_eq_true rfl) ?_
  intro X B hr hI
  have B : Bd E X cX9_tell RX9 2 0 0 0 0 := B
  have hr : Rt E X (some .int) 0 0 (fun v_ w_ => v_ = some (.int (p1_look wh))) := hr
  show G E X 2 [(w, .inr (9, [.ref ps, .ref md, .int 0, .int 0, .int 0, .int 0, .int 0, .int 0, .int 0, .int 0, .int 0, .int 0])), (ps, .inr (6, [.ref p, .ref we, .ref inp, .ref ba, .ref gu, .int 0, .int 0, .int 0])), (p, .inr (7, [.ref te, .ref de, .int 0]))] 0 0 [(0, .ref w), (1, .int wh)] 0 []
  refine g_iload_n B dX9_tell_0 rfl 1 rfl ?_
  by_cases sw_134 : wh = 0
  · subst sw_134
    refine g_tableIn (off := 55) (tgt := 56) B dX9_tell_1 (by decide) (by decide) (by decide) (by decide) ?_
    refine g_aload_n B dX9_tell_56 rfl 0 rfl ?_
    refine g_get B 0 2 fl_X9_38 rfl rfl dX9_tell_57 ?_
    exact g_iret B hr dX9_tell_60 (by decide) (by decide) (by decide)
  by_cases sw_135 : wh = 1
  · subst sw_135
    refine g_tableIn (off := 60) (tgt := 61) B dX9_tell_1 (by decide) (by decide) (by decide) (by decide) ?_
    refine g_aload_n B dX9_tell_61 rfl 0 rfl ?_
    refine g_get B 0 4 fl_X9_32 rfl rfl dX9_tell_62 ?_
    exact g_iret B hr dX9_tell_65 (by decide) (by decide) (by decide)
  by_cases sw_136 : wh = 2
  · subst sw_136
    refine g_tableIn (off := 65) (tgt := 66) B dX9_tell_1 (by decide) (by decide) (by decide) (by decide) ?_
    refine g_aload_n B dX9_tell_66 rfl 0 rfl ?_
    refine g_get B 0 5 fl_X9_25 rfl rfl dX9_tell_67 ?_
    exact g_iret B hr dX9_tell_70 (by decide) (by decide) (by decide)
  by_cases sw_137 : wh = 3
  · subst sw_137
    refine g_tableIn (off := 70) (tgt := 71) B dX9_tell_1 (by decide) (by decide) (by decide) (by decide) ?_
    refine g_aload_n B dX9_tell_71 rfl 0 rfl ?_
    refine g_get B 0 6 fl_X9_29 rfl rfl dX9_tell_72 ?_
    exact g_iret B hr dX9_tell_75 (by decide) (by decide) (by decide)
  by_cases sw_138 : wh = 4
  · subst sw_138
    refine g_tableIn (off := 75) (tgt := 76) B dX9_tell_1 (by decide) (by decide) (by decide) (by decide) ?_
    refine g_aload_n B dX9_tell_76 rfl 0 rfl ?_
    refine g_get B 0 0 fl_X9_12 rfl rfl dX9_tell_77 ?_
    refine g_get B 1 0 fl_X9_84 rfl rfl dX9_tell_80 ?_
    refine g_get B 2 2 fl_X9_88 rfl rfl dX9_tell_83 ?_
    exact g_iret B hr dX9_tell_86 (by decide) (by decide) (by decide)
  by_cases sw_139 : wh = 5
  · subst sw_139
    refine g_tableIn (off := 86) (tgt := 87) B dX9_tell_1 (by decide) (by decide) (by decide) (by decide) ?_
    refine g_aload_n B dX9_tell_87 rfl 0 rfl ?_
    refine g_get B 0 7 fl_X9_35 rfl rfl dX9_tell_88 ?_
    exact g_iret B hr dX9_tell_91 (by decide) (by decide) (by decide)
  by_cases sw_140 : wh = 6
  · subst sw_140
    refine g_tableIn (off := 91) (tgt := 92) B dX9_tell_1 (by decide) (by decide) (by decide) (by decide) ?_
    refine g_aload_n B dX9_tell_92 rfl 0 rfl ?_
    refine g_get B 0 8 fl_X9_44 rfl rfl dX9_tell_93 ?_
    exact g_iret B hr dX9_tell_96 (by decide) (by decide) (by decide)
  by_cases sw_141 : wh = 7
  · subst sw_141
    refine g_tableIn (off := 96) (tgt := 97) B dX9_tell_1 (by decide) (by decide) (by decide) (by decide) ?_
    refine g_aload_n B dX9_tell_97 rfl 0 rfl ?_
    refine g_get B 0 9 fl_X9_47 rfl rfl dX9_tell_98 ?_
    exact g_iret B hr dX9_tell_101 (by decide) (by decide) (by decide)
  by_cases sw_142 : wh = 8
  · subst sw_142
    refine g_tableIn (off := 101) (tgt := 102) B dX9_tell_1 (by decide) (by decide) (by decide) (by decide) ?_
    refine g_aload_n B dX9_tell_102 rfl 0 rfl ?_
    refine g_get B 0 10 fl_X9_50 rfl rfl dX9_tell_103 ?_
    exact g_iret B hr dX9_tell_106 (by decide) (by decide) (by decide)
  by_cases sw_143 : wh = 9
  · subst sw_143
    refine g_tableIn (off := 106) (tgt := 107) B dX9_tell_1 (by decide) (by decide) (by decide) (by decide) ?_
    refine g_aload_n B dX9_tell_107 rfl 0 rfl ?_
    refine g_get B 0 11 fl_X9_53 rfl rfl dX9_tell_108 ?_
    exact g_iret B hr dX9_tell_111 (by decide) (by decide) (by decide)
  have so_144 : Int32.toInt wh < 0 ∨ 9 < Int32.toInt wh := by
    have nsw_134 := lv_neT (a := 0) sw_134 rfl
    have nsw_135 := lv_neT (a := 1) sw_135 rfl
    have nsw_136 := lv_neT (a := 2) sw_136 rfl
    have nsw_137 := lv_neT (a := 3) sw_137 rfl
    have nsw_138 := lv_neT (a := 4) sw_138 rfl
    have nsw_139 := lv_neT (a := 5) sw_139 rfl
    have nsw_140 := lv_neT (a := 6) sw_140 rfl
    have nsw_141 := lv_neT (a := 7) sw_141 rfl
    have nsw_142 := lv_neT (a := 8) sw_142 rfl
    have nsw_143 := lv_neT (a := 9) sw_143 rfl
    omega
  refine g_tableOut (tgt := 112) B dX9_tell_1 so_144 (by decide) ?_
  refine g_iconst (v := (-1)) B dX9_tell_112 (by decide) ?_
  exact g_iret B hr dX9_tell_113 (by decide) (by decide) (by simp [p1_look, so_144])
abbrev MX3_readFirst : g_M := (yX3_readFirst, cX3_readFirst, 4, (some .int))
theorem dX3_readFirst_0 : decode cX3_readFirst 0 = .ok (.aload_n 0, 1) := by decide +kernel
theorem dX3_readFirst_1 : decode cX3_readFirst 1 = .ok (.getfield 9, 3) := by decide +kernel
theorem dX3_readFirst_4 : decode cX3_readFirst 4 = .ok (.getfield 34, 3) := by decide +kernel
theorem w_fl_X3_34 : Cond.fieldLink RX3 34 (TX2 1).1 (TX2 1).2.1 (TX2 1).2.2.1 ∈ g_tbl := g_tbl_in 131 (by decide +kernel) (by decide +kernel)
theorem fl_X3_34 : FL RX3 34 2 1 := ⟨RX2, TX2, 2, rfl, by decide, inX_X2, w_fl_X3_34⟩
theorem dX3_readFirst_7 : decode cX3_readFirst 7 = .ok (.iconst 4, 1) := by decide +kernel
theorem dX3_readFirst_8 : decode cX3_readFirst 8 = .ok (.isub, 1) := by decide +kernel
theorem dX3_readFirst_9 : decode cX3_readFirst 9 = .ok (.istore_n 2, 1) := by decide +kernel
theorem dX3_readFirst_10 : decode cX3_readFirst 10 = .ok (.iload_n 2, 1) := by decide +kernel
theorem dX3_readFirst_11 : decode cX3_readFirst 11 = .ok (.bipush 6, 2) := by decide +kernel
theorem dX3_readFirst_13 : decode cX3_readFirst 13 = .ok (.if_icmp .ge 5, 3) := by decide +kernel
theorem dX3_readFirst_16 : decode cX3_readFirst 16 = .ok (.iconst 1, 1) := by decide +kernel
theorem dX3_readFirst_17 : decode cX3_readFirst 17 = .ok (.ireturn, 1) := by decide +kernel
set_option maxRecDepth 100000 in
set_option maxHeartbeats 4000000 in
theorem ev_X3_readFirst_0 (E : g_E) (e : Nat) (t1 : Nat) (t2 : Nat) (b1 : Nat) (b2 : Nat) (sh : Nat) (a : Nat) (w : Nat)  : Ev E MX3_readFirst 6 156 0 0 [.ref e, .ref w] [(e, .inr (3, [.ref t1, .ref t2, .ref b1, .ref b2, .ref sh])), (t1, .inr (2, [.ref a, .int 0]))] (fun v_ w_ => v_ = some (.int 1) ∧ w_ = [(e, .inr (3, [.ref t1, .ref t2, .ref b1, .ref b2, .ref sh])), (t1, .inr (2, [.ref a, .int 0]))]) := by
  refine Ev.intro (by decide) (Nat.le_of_ble_eq_true rfl) ?_
  intro X B hr hI
  have B : Bd E X cX3_readFirst RX3 4 6 156 0 0 := B
  have hr : Rt E X (some .int) 0 0 (fun v_ w_ => v_ = some (.int 1) ∧ w_ = [(e, .inr (3, [.ref t1, .ref t2, .ref b1, .ref b2, .ref sh])), (t1, .inr (2, [.ref a, .int 0]))]) := hr
  show G E X 4 [(e, .inr (3, [.ref t1, .ref t2, .ref b1, .ref b2, .ref sh])), (t1, .inr (2, [.ref a, .int 0]))] 0 0 [(0, .ref e), (1, .ref w)] 0 []
  refine g_aload_n B dX3_readFirst_0 rfl 0 rfl ?_
  refine g_get B 0 0 fl_X3_9 rfl rfl dX3_readFirst_1 ?_
  refine g_get B 1 1 fl_X3_34 rfl rfl dX3_readFirst_4 ?_
  refine g_iconst (v := 4) B dX3_readFirst_7 (by decide) ?_
  refine g_isub B dX3_readFirst_8 ?_
  refine g_ri (x' := (-4)) (by decide) ?_
  refine g_istore_n (lv' := [(2, .int (-4)), (0, .ref e), (1, .ref w)]) B dX3_readFirst_9 rfl (by decide) rfl ?_
  refine g_iload_n B dX3_readFirst_10 rfl 0 rfl ?_
  refine g_bipush (v := 6) B dX3_readFirst_11 (by decide) ?_
  refine g_icmp_ge (tgt := 18) B dX3_readFirst_13 (by decide) (fun h => absurd h (by decide)) (fun c13 => ?_)
  refine g_iconst (v := 1) B dX3_readFirst_16 (by decide) ?_
  exact g_iret B hr dX3_readFirst_17 (by decide) (by decide) ⟨rfl, rfl⟩
