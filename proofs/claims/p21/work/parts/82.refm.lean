abbrev MX11_say : g_M := (yX11_say, cX11_say, 7, (some .int))
theorem dX11_say_0 : decode cX11_say 0 = .ok (.aload_n 0, 1) := by decide +kernel
theorem dX11_say_1 : decode cX11_say 1 = .ok (.getfield 178, 3) := by decide +kernel
theorem dX11_say_4 : decode cX11_say 4 = .ok (.iconst 5, 1) := by decide +kernel
theorem dX11_say_5 : decode cX11_say 5 = .ok (.iadd, 1) := by decide +kernel
theorem dX11_say_6 : decode cX11_say 6 = .ok (.sipush 1200, 3) := by decide +kernel
theorem dX11_say_9 : decode cX11_say 9 = .ok (.if_icmp .le 5, 3) := by decide +kernel
theorem dX11_say_14 : decode cX11_say 14 = .ok (.aload_n 0, 1) := by decide +kernel
theorem dX11_say_15 : decode cX11_say 15 = .ok (.getfield 99, 3) := by decide +kernel
theorem dX11_say_18 : decode cX11_say 18 = .ok (.iconst 0, 1) := by decide +kernel
theorem dX11_say_19 : decode cX11_say 19 = .ok (.iload_n 1, 1) := by decide +kernel
theorem dX11_say_20 : decode cX11_say 20 = .ok (.iastore, 1) := by decide +kernel
theorem dX11_say_21 : decode cX11_say 21 = .ok (.aload_n 0, 1) := by decide +kernel
theorem dX11_say_22 : decode cX11_say 22 = .ok (.getfield 99, 3) := by decide +kernel
theorem dX11_say_25 : decode cX11_say 25 = .ok (.iconst 1, 1) := by decide +kernel
theorem dX11_say_26 : decode cX11_say 26 = .ok (.iload_n 2, 1) := by decide +kernel
theorem dX11_say_27 : decode cX11_say 27 = .ok (.iastore, 1) := by decide +kernel
theorem dX11_say_28 : decode cX11_say 28 = .ok (.aload_n 0, 1) := by decide +kernel
theorem dX11_say_29 : decode cX11_say 29 = .ok (.getfield 99, 3) := by decide +kernel
theorem dX11_say_32 : decode cX11_say 32 = .ok (.iconst 2, 1) := by decide +kernel
theorem dX11_say_33 : decode cX11_say 33 = .ok (.iload_n 3, 1) := by decide +kernel
theorem dX11_say_34 : decode cX11_say 34 = .ok (.iastore, 1) := by decide +kernel
theorem dX11_say_35 : decode cX11_say 35 = .ok (.aload_n 0, 1) := by decide +kernel
theorem dX11_say_36 : decode cX11_say 36 = .ok (.getfield 99, 3) := by decide +kernel
theorem dX11_say_39 : decode cX11_say 39 = .ok (.iconst 3, 1) := by decide +kernel
theorem dX11_say_40 : decode cX11_say 40 = .ok (.iload 4, 2) := by decide +kernel
theorem dX11_say_42 : decode cX11_say 42 = .ok (.iastore, 1) := by decide +kernel
theorem dX11_say_43 : decode cX11_say 43 = .ok (.aload_n 0, 1) := by decide +kernel
theorem dX11_say_44 : decode cX11_say 44 = .ok (.getfield 99, 3) := by decide +kernel
theorem dX11_say_47 : decode cX11_say 47 = .ok (.iconst 4, 1) := by decide +kernel
theorem dX11_say_48 : decode cX11_say 48 = .ok (.iload 5, 2) := by decide +kernel
theorem dX11_say_50 : decode cX11_say 50 = .ok (.iastore, 1) := by decide +kernel
theorem dX11_say_51 : decode cX11_say 51 = .ok (.iconst 0, 1) := by decide +kernel
theorem dX11_say_52 : decode cX11_say 52 = .ok (.istore 6, 2) := by decide +kernel
theorem dX11_say_54 : decode cX11_say 54 = .ok (.iload 6, 2) := by decide +kernel
theorem dX11_say_56 : decode cX11_say 56 = .ok (.iconst 5, 1) := by decide +kernel
theorem dX11_say_57 : decode cX11_say 57 = .ok (.if_icmp .ge 28, 3) := by decide +kernel
theorem dX11_say_60 : decode cX11_say 60 = .ok (.aload_n 0, 1) := by decide +kernel
theorem dX11_say_61 : decode cX11_say 61 = .ok (.getfield 9, 3) := by decide +kernel
theorem dX11_say_64 : decode cX11_say 64 = .ok (.aload_n 0, 1) := by decide +kernel
theorem dX11_say_65 : decode cX11_say 65 = .ok (.getfield 178, 3) := by decide +kernel
theorem dX11_say_68 : decode cX11_say 68 = .ok (.iload 6, 2) := by decide +kernel
theorem dX11_say_70 : decode cX11_say 70 = .ok (.iadd, 1) := by decide +kernel
theorem dX11_say_71 : decode cX11_say 71 = .ok (.aload_n 0, 1) := by decide +kernel
theorem dX11_say_72 : decode cX11_say 72 = .ok (.getfield 99, 3) := by decide +kernel
theorem dX11_say_75 : decode cX11_say 75 = .ok (.iload 6, 2) := by decide +kernel
theorem dX11_say_77 : decode cX11_say 77 = .ok (.iaload, 1) := by decide +kernel
theorem dX11_say_78 : decode cX11_say 78 = .ok (.iastore, 1) := by decide +kernel
theorem dX11_say_79 : decode cX11_say 79 = .ok (.iinc 6 1, 3) := by decide +kernel
theorem dX11_say_82 : decode cX11_say 82 = .ok (.goto (-28), 3) := by decide +kernel
theorem dX11_say_85 : decode cX11_say 85 = .ok (.aload_n 0, 1) := by decide +kernel
theorem dX11_say_86 : decode cX11_say 86 = .ok (.dup, 1) := by decide +kernel
theorem dX11_say_87 : decode cX11_say 87 = .ok (.getfield 178, 3) := by decide +kernel
theorem dX11_say_90 : decode cX11_say 90 = .ok (.iconst 5, 1) := by decide +kernel
theorem dX11_say_91 : decode cX11_say 91 = .ok (.iadd, 1) := by decide +kernel
theorem dX11_say_92 : decode cX11_say 92 = .ok (.putfield 178, 3) := by decide +kernel
theorem dX11_say_95 : decode cX11_say 95 = .ok (.aload_n 0, 1) := by decide +kernel
theorem dX11_say_96 : decode cX11_say 96 = .ok (.getfield 178, 3) := by decide +kernel
theorem dX11_say_99 : decode cX11_say 99 = .ok (.ireturn, 1) := by decide +kernel
theorem dX11_say_12 : decode cX11_say 12 = .ok (.iconst (-1), 1) := by decide +kernel
theorem dX11_say_13 : decode cX11_say 13 = .ok (.ireturn, 1) := by decide +kernel
set_option maxRecDepth 100000 in
def fn_wr_X11_say (m_1 : Nat) (r0_f : Nat → Int32) (r49_f : Nat → Int32) (a1 : Int32) (a2 : Int32) (a3 : Int32) (a4 : Int32) (a5 : Int32) (β : Type) (k_ : Nat → (Nat → Int32) → (Nat → Int32) → Int32 → β) : β := (if (m_1 + 5) ≤ 1200 then (k_ (m_1 + 5) (upd (upd (upd (upd (upd r0_f (m_1 + 0) ((upd (upd (upd (upd (upd r49_f 0 a1) 1 a2) 2 a3) 3 a4) 4 a5) 0)) (m_1 + 1) ((upd (upd (upd (upd (upd r49_f 0 a1) 1 a2) 2 a3) 3 a4) 4 a5) 1)) (m_1 + 2) ((upd (upd (upd (upd (upd r49_f 0 a1) 1 a2) 2 a3) 3 a4) 4 a5) 2)) (m_1 + 3) ((upd (upd (upd (upd (upd r49_f 0 a1) 1 a2) 2 a3) 3 a4) 4 a5) 3)) (m_1 + 4) a5) (upd (upd (upd (upd (upd r49_f 0 a1) 1 a2) 2 a3) 3 a4) 4 a5) (nI (m_1 + 5))) else (k_ m_1 r0_f r49_f (-1)))
set_option maxRecDepth 100000 in
theorem fn_wr_X11_say_s {m_1 : Nat} {r0_f : Nat → Int32} {r49_f : Nat → Int32} {a1 : Int32} {a2 : Int32} {a3 : Int32} {a4 : Int32} {a5 : Int32} {β : Type} {k_ : Nat → (Nat → Int32) → (Nat → Int32) → Int32 → β} : fn_wr_X11_say m_1 r0_f r49_f a1 a2 a3 a4 a5 β k_ = (if (m_1 + 5) ≤ 1200 then (k_ (m_1 + 5) (upd (upd (upd (upd (upd r0_f (m_1 + 0) ((upd (upd (upd (upd (upd r49_f 0 a1) 1 a2) 2 a3) 3 a4) 4 a5) 0)) (m_1 + 1) ((upd (upd (upd (upd (upd r49_f 0 a1) 1 a2) 2 a3) 3 a4) 4 a5) 1)) (m_1 + 2) ((upd (upd (upd (upd (upd r49_f 0 a1) 1 a2) 2 a3) 3 a4) 4 a5) 2)) (m_1 + 3) ((upd (upd (upd (upd (upd r49_f 0 a1) 1 a2) 2 a3) 3 a4) 4 a5) 3)) (m_1 + 4) a5) (upd (upd (upd (upd (upd r49_f 0 a1) 1 a2) 2 a3) 3 a4) 4 a5) (nI (m_1 + 5))) else (k_ m_1 r0_f r49_f (-1))) := rfl
set_option maxRecDepth 100000 in
set_option maxHeartbeats 4000000 in
theorem wr_X11_say (E : g_E) (m : Nat) (r : Nat → Nat) (m_1 : Nat) (m_4 : Nat) (m_9 : Nat) (m_10 : Nat) (m_14 : Nat) (m_15 : Nat) (m_25 : Int32) (m_26 : Int32) (m_27 : Int64) (m_28 : Nat) (m_29 : Nat) (m_31 : Nat) (m_32 : Nat) (m_33 : Nat) (m_35 : Nat) (m_36 : Nat) (m_37 : Int32) (m_38 : Nat) (m_39 : Int32) (m_40 : Int32) (m_42 : Nat) (r0_f : Nat → Int32) (r49_f : Nat → Int32) (a1 : Int32) (a2 : Int32) (a3 : Int32) (a4 : Int32) (a5 : Int32) (hb0 : m_1 ≤ 1200) : Ev E MX11_say 0 0 0 0 [.ref m, .int a1, .int a2, .int a3, .int a4, .int a5] [(m, .inr (11, mkF r m_1 m_4 m_9 m_10 m_14 m_15 m_25 m_26 m_27 m_28 m_29 m_31 m_32 m_33 m_35 m_36 m_37 m_38 m_39 m_40 m_42)), ((r 0), .inl (E.2.2.1 0, 1200, .inl r0_f)), ((r 49), .inl (E.2.2.1 0, 5, .inl r49_f))] (fun v_ w_ => ∃ zm_1 : Nat, ∃ zr0_f : Nat → Int32, ∃ zr49_f : Nat → Int32, ∃ zr : Int32, (zm_1 ≤ 1200) ∧ (∀ (β : Type) (k_ : Nat → (Nat → Int32) → (Nat → Int32) → Int32 → β), fn_wr_X11_say m_1 r0_f r49_f a1 a2 a3 a4 a5 β k_ = k_ zm_1 zr0_f zr49_f zr) ∧ v_ = some (.int zr) ∧ w_ = [(m, .inr (11, mkF r zm_1 m_4 m_9 m_10 m_14 m_15 m_25 m_26 m_27 m_28 m_29 m_31 m_32 m_33 m_35 m_36 m_37 m_38 m_39 m_40 m_42)), ((r 0), .inl (E.2.2.1 0, 1200, .inl zr0_f)), ((r 49), .inl (E.2.2.1 0, 5, .inl zr49_f))]) := by
  refine Ev.intro (by decide) (Nat.le_of_ble_eq_true rfl) ?_
  intro X B hr hI
  have B : Bd E X cX11_say RX11 7 0 0 0 0 := B
  have hr : Rt E X (some .int) 0 0 (fun v_ w_ => ∃ zm_1 : Nat, ∃ zr0_f : Nat → Int32, ∃ zr49_f : Nat → Int32, ∃ zr : Int32, (zm_1 ≤ 1200) ∧ (∀ (β : Type) (k_ : Nat → (Nat → Int32) → (Nat → Int32) → Int32 → β), fn_wr_X11_say m_1 r0_f r49_f a1 a2 a3 a4 a5 β k_ = k_ zm_1 zr0_f zr49_f zr) ∧ v_ = some (.int zr) ∧ w_ = [(m, .inr (11, mkF r zm_1 m_4 m_9 m_10 m_14 m_15 m_25 m_26 m_27 m_28 m_29 m_31 m_32 m_33 m_35 m_36 m_37 m_38 m_39 m_40 m_42)), ((r 0), .inl (E.2.2.1 0, 1200, .inl zr0_f)), ((r 49), .inl (E.2.2.1 0, 5, .inl zr49_f))]) := hr
  have e_ := fun (β : Type) (k_ : Nat → (Nat → Int32) → (Nat → Int32) → Int32 → β) => fn_wr_X11_say_s (β := β) (k_ := k_) (m_1 := m_1) (r0_f := r0_f) (r49_f := r49_f) (a1 := a1) (a2 := a2) (a3 := a3) (a4 := a4) (a5 := a5)
  show G E X 7 [(m, .inr (11, mkF r m_1 m_4 m_9 m_10 m_14 m_15 m_25 m_26 m_27 m_28 m_29 m_31 m_32 m_33 m_35 m_36 m_37 m_38 m_39 m_40 m_42)), ((r 0), .inl (E.2.2.1 0, 1200, .inl r0_f)), ((r 49), .inl (E.2.2.1 0, 5, .inl r49_f))] 0 0 [(0, .ref m), (1, .int a1), (2, .int a2), (3, .int a3), (4, .int a4), (5, .int a5)] 0 []
  refine g_aload_n B dX11_say_0 rfl 0 rfl ?_
  refine g_get B 0 1 fl_X11_178 rfl mf_1 dX11_say_1 ?_
  refine g_iconst (v := 5) B dX11_say_4 (by decide) ?_
  refine g_iadd B dX11_say_5 ?_
  refine g_ri (x' := nI (m_1 + 5)) (nI_add m_1 5) ?_
  refine g_sipush (v := 1200) B dX11_say_6 (by decide) ?_
  refine g_icmp_le (tgt := 14) B dX11_say_9 (by decide) (fun c9_3905 => ?_) (fun c9_3905 => ?_)
  · have hn_3906 : (m_1 + 5) ≤ 1200 := (nI_leI (a := (m_1 + 5)) (b := 1200) (by omega) (by omega)).mp c9_3905
    replace e_ := fun β k_ => (e_ β k_).trans (if_pos hn_3906)
    refine g_aload_n B dX11_say_14 rfl 0 rfl ?_
    refine g_get B 0 49 fl_X11_99 rfl mf_49 dX11_say_15 ?_
    refine g_iconst (v := 0) B dX11_say_18 (by decide) ?_
    refine g_iload_n B dX11_say_19 rfl 1 rfl ?_
    refine g_iast (ws' := [(m, .inr (11, mkF r m_1 m_4 m_9 m_10 m_14 m_15 m_25 m_26 m_27 m_28 m_29 m_31 m_32 m_33 m_35 m_36 m_37 m_38 m_39 m_40 m_42)), ((r 0), .inl (E.2.2.1 0, 1200, .inl r0_f)), ((r 49), .inl (E.2.2.1 0, 5, .inl (upd r49_f 0 a1)))]) B 2 rfl (by unfold vp_in; decide) (by rw [show Int32.toNatClampNeg 0 = 0 from by decide]; rfl) dX11_say_20 ?_
    refine g_aload_n B dX11_say_21 rfl 0 rfl ?_
    refine g_get B 0 49 fl_X11_99 rfl mf_49 dX11_say_22 ?_
    refine g_iconst (v := 1) B dX11_say_25 (by decide) ?_
    refine g_iload_n B dX11_say_26 rfl 2 rfl ?_
    refine g_iast (ws' := [(m, .inr (11, mkF r m_1 m_4 m_9 m_10 m_14 m_15 m_25 m_26 m_27 m_28 m_29 m_31 m_32 m_33 m_35 m_36 m_37 m_38 m_39 m_40 m_42)), ((r 0), .inl (E.2.2.1 0, 1200, .inl r0_f)), ((r 49), .inl (E.2.2.1 0, 5, .inl (upd (upd r49_f 0 a1) 1 a2)))]) B 2 rfl (by unfold vp_in; decide) (by rw [show Int32.toNatClampNeg 1 = 1 from by decide]; rfl) dX11_say_27 ?_
    refine g_aload_n B dX11_say_28 rfl 0 rfl ?_
    refine g_get B 0 49 fl_X11_99 rfl mf_49 dX11_say_29 ?_
    refine g_iconst (v := 2) B dX11_say_32 (by decide) ?_
    refine g_iload_n B dX11_say_33 rfl 3 rfl ?_
    refine g_iast (ws' := [(m, .inr (11, mkF r m_1 m_4 m_9 m_10 m_14 m_15 m_25 m_26 m_27 m_28 m_29 m_31 m_32 m_33 m_35 m_36 m_37 m_38 m_39 m_40 m_42)), ((r 0), .inl (E.2.2.1 0, 1200, .inl r0_f)), ((r 49), .inl (E.2.2.1 0, 5, .inl (upd (upd (upd r49_f 0 a1) 1 a2) 2 a3)))]) B 2 rfl (by unfold vp_in; decide) (by rw [show Int32.toNatClampNeg 2 = 2 from by decide]; rfl) dX11_say_34 ?_
    refine g_aload_n B dX11_say_35 rfl 0 rfl ?_
    refine g_get B 0 49 fl_X11_99 rfl mf_49 dX11_say_36 ?_
    refine g_iconst (v := 3) B dX11_say_39 (by decide) ?_
    refine g_iload B dX11_say_40 4 rfl ?_
    refine g_iast (ws' := [(m, .inr (11, mkF r m_1 m_4 m_9 m_10 m_14 m_15 m_25 m_26 m_27 m_28 m_29 m_31 m_32 m_33 m_35 m_36 m_37 m_38 m_39 m_40 m_42)), ((r 0), .inl (E.2.2.1 0, 1200, .inl r0_f)), ((r 49), .inl (E.2.2.1 0, 5, .inl (upd (upd (upd (upd r49_f 0 a1) 1 a2) 2 a3) 3 a4)))]) B 2 rfl (by unfold vp_in; decide) (by rw [show Int32.toNatClampNeg 3 = 3 from by decide]; rfl) dX11_say_42 ?_
    refine g_aload_n B dX11_say_43 rfl 0 rfl ?_
    refine g_get B 0 49 fl_X11_99 rfl mf_49 dX11_say_44 ?_
    refine g_iconst (v := 4) B dX11_say_47 (by decide) ?_
    refine g_iload B dX11_say_48 5 rfl ?_
    refine g_iast (ws' := [(m, .inr (11, mkF r m_1 m_4 m_9 m_10 m_14 m_15 m_25 m_26 m_27 m_28 m_29 m_31 m_32 m_33 m_35 m_36 m_37 m_38 m_39 m_40 m_42)), ((r 0), .inl (E.2.2.1 0, 1200, .inl r0_f)), ((r 49), .inl (E.2.2.1 0, 5, .inl (upd (upd (upd (upd (upd r49_f 0 a1) 1 a2) 2 a3) 3 a4) 4 a5)))]) B 2 rfl (by unfold vp_in; decide) (by rw [show Int32.toNatClampNeg 4 = 4 from by decide]; rfl) dX11_say_50 ?_
    refine g_iconst (v := 0) B dX11_say_51 (by decide) ?_
    refine g_istore (lv' := [(6, .int 0), (0, .ref m), (1, .int a1), (2, .int a2), (3, .int a3), (4, .int a4), (5, .int a5)]) B dX11_say_52 (by decide) rfl ?_
    refine g_iload B dX11_say_54 0 rfl ?_
    refine g_iconst (v := 5) B dX11_say_56 (by decide) ?_
    refine g_icmp_ge (tgt := 85) B dX11_say_57 (by decide) (fun h => absurd h (by decide)) (fun c57 => ?_)
    refine g_aload_n B dX11_say_60 rfl 1 rfl ?_
    refine g_get B 0 0 fl_X11_9 rfl mf_0 dX11_say_61 ?_
    refine g_aload_n B dX11_say_64 rfl 1 rfl ?_
    refine g_get B 0 1 fl_X11_178 rfl mf_1 dX11_say_65 ?_
    refine g_iload B dX11_say_68 0 rfl ?_
    refine g_iadd B dX11_say_70 ?_
    refine g_ri (x' := nI (m_1 + 0)) (nI_add m_1 0) ?_
    refine g_aload_n B dX11_say_71 rfl 1 rfl ?_
    refine g_get B 0 49 fl_X11_99 rfl mf_49 dX11_say_72 ?_
    refine g_iload B dX11_say_75 0 rfl ?_
    refine g_iald B 2 rfl (by unfold vp_in; decide) dX11_say_77 ?_
    refine g_ri (x' := ((upd (upd (upd (upd (upd r49_f 0 a1) 1 a2) 2 a3) 3 a4) 4 a5) 0)) (congrArg (upd (upd (upd (upd (upd r49_f 0 a1) 1 a2) 2 a3) 3 a4) 4 a5) (by decide)) ?_
    refine g_iast (ws' := [(m, .inr (11, mkF r m_1 m_4 m_9 m_10 m_14 m_15 m_25 m_26 m_27 m_28 m_29 m_31 m_32 m_33 m_35 m_36 m_37 m_38 m_39 m_40 m_42)), ((r 0), .inl (E.2.2.1 0, 1200, .inl (upd r0_f (m_1 + 0) ((upd (upd (upd (upd (upd r49_f 0 a1) 1 a2) 2 a3) 3 a4) 4 a5) 0)))), ((r 49), .inl (E.2.2.1 0, 5, .inl (upd (upd (upd (upd (upd r49_f 0 a1) 1 a2) 2 a3) 3 a4) 4 a5)))]) B 1 rfl (vp_in_nI (by omega) (by omega)) (by rw [nI_clamp (n := (m_1 + 0)) (by omega)]; rfl) dX11_say_78 ?_
    refine g_iinc (v := 1) (lv' := [(6, .int 1), (0, .ref m), (1, .int a1), (2, .int a2), (3, .int a3), (4, .int a4), (5, .int a5)]) B dX11_say_79 0 rfl (by decide) (by decide) rfl ?_
    refine g_goto (tgt := 54) B dX11_say_82 (by decide) ?_
    refine g_iload B dX11_say_54 0 rfl ?_
    refine g_iconst (v := 5) B dX11_say_56 (by decide) ?_
    refine g_icmp_ge (tgt := 85) B dX11_say_57 (by decide) (fun h => absurd h (by decide)) (fun c57 => ?_)
    refine g_aload_n B dX11_say_60 rfl 1 rfl ?_
    refine g_get B 0 0 fl_X11_9 rfl mf_0 dX11_say_61 ?_
    refine g_aload_n B dX11_say_64 rfl 1 rfl ?_
    refine g_get B 0 1 fl_X11_178 rfl mf_1 dX11_say_65 ?_
    refine g_iload B dX11_say_68 0 rfl ?_
    refine g_iadd B dX11_say_70 ?_
    refine g_ri (x' := nI (m_1 + 1)) (nI_add m_1 1) ?_
    refine g_aload_n B dX11_say_71 rfl 1 rfl ?_
    refine g_get B 0 49 fl_X11_99 rfl mf_49 dX11_say_72 ?_
    refine g_iload B dX11_say_75 0 rfl ?_
    refine g_iald B 2 rfl (by unfold vp_in; decide) dX11_say_77 ?_
    refine g_ri (x' := ((upd (upd (upd (upd (upd r49_f 0 a1) 1 a2) 2 a3) 3 a4) 4 a5) 1)) (congrArg (upd (upd (upd (upd (upd r49_f 0 a1) 1 a2) 2 a3) 3 a4) 4 a5) (by decide)) ?_
    refine g_iast (ws' := [(m, .inr (11, mkF r m_1 m_4 m_9 m_10 m_14 m_15 m_25 m_26 m_27 m_28 m_29 m_31 m_32 m_33 m_35 m_36 m_37 m_38 m_39 m_40 m_42)), ((r 0), .inl (E.2.2.1 0, 1200, .inl (upd (upd r0_f (m_1 + 0) ((upd (upd (upd (upd (upd r49_f 0 a1) 1 a2) 2 a3) 3 a4) 4 a5) 0)) (m_1 + 1) ((upd (upd (upd (upd (upd r49_f 0 a1) 1 a2) 2 a3) 3 a4) 4 a5) 1)))), ((r 49), .inl (E.2.2.1 0, 5, .inl (upd (upd (upd (upd (upd r49_f 0 a1) 1 a2) 2 a3) 3 a4) 4 a5)))]) B 1 rfl (vp_in_nI (by omega) (by omega)) (by rw [nI_clamp (n := (m_1 + 1)) (by omega)]; rfl) dX11_say_78 ?_
    refine g_iinc (v := 2) (lv' := [(6, .int 2), (0, .ref m), (1, .int a1), (2, .int a2), (3, .int a3), (4, .int a4), (5, .int a5)]) B dX11_say_79 0 rfl (by decide) (by decide) rfl ?_
    refine g_goto (tgt := 54) B dX11_say_82 (by decide) ?_
    refine g_iload B dX11_say_54 0 rfl ?_
    refine g_iconst (v := 5) B dX11_say_56 (by decide) ?_
    refine g_icmp_ge (tgt := 85) B dX11_say_57 (by decide) (fun h => absurd h (by decide)) (fun c57 => ?_)
    refine g_aload_n B dX11_say_60 rfl 1 rfl ?_
    refine g_get B 0 0 fl_X11_9 rfl mf_0 dX11_say_61 ?_
    refine g_aload_n B dX11_say_64 rfl 1 rfl ?_
    refine g_get B 0 1 fl_X11_178 rfl mf_1 dX11_say_65 ?_
    refine g_iload B dX11_say_68 0 rfl ?_
    refine g_iadd B dX11_say_70 ?_
    refine g_ri (x' := nI (m_1 + 2)) (nI_add m_1 2) ?_
    refine g_aload_n B dX11_say_71 rfl 1 rfl ?_
    refine g_get B 0 49 fl_X11_99 rfl mf_49 dX11_say_72 ?_
    refine g_iload B dX11_say_75 0 rfl ?_
    refine g_iald B 2 rfl (by unfold vp_in; decide) dX11_say_77 ?_
    refine g_ri (x' := ((upd (upd (upd (upd (upd r49_f 0 a1) 1 a2) 2 a3) 3 a4) 4 a5) 2)) (congrArg (upd (upd (upd (upd (upd r49_f 0 a1) 1 a2) 2 a3) 3 a4) 4 a5) (by decide)) ?_
    refine g_iast (ws' := [(m, .inr (11, mkF r m_1 m_4 m_9 m_10 m_14 m_15 m_25 m_26 m_27 m_28 m_29 m_31 m_32 m_33 m_35 m_36 m_37 m_38 m_39 m_40 m_42)), ((r 0), .inl (E.2.2.1 0, 1200, .inl (upd (upd (upd r0_f (m_1 + 0) ((upd (upd (upd (upd (upd r49_f 0 a1) 1 a2) 2 a3) 3 a4) 4 a5) 0)) (m_1 + 1) ((upd (upd (upd (upd (upd r49_f 0 a1) 1 a2) 2 a3) 3 a4) 4 a5) 1)) (m_1 + 2) ((upd (upd (upd (upd (upd r49_f 0 a1) 1 a2) 2 a3) 3 a4) 4 a5) 2)))), ((r 49), .inl (E.2.2.1 0, 5, .inl (upd (upd (upd (upd (upd r49_f 0 a1) 1 a2) 2 a3) 3 a4) 4 a5)))]) B 1 rfl (vp_in_nI (by omega) (by omega)) (by rw [nI_clamp (n := (m_1 + 2)) (by omega)]; rfl) dX11_say_78 ?_
    refine g_iinc (v := 3) (lv' := [(6, .int 3), (0, .ref m), (1, .int a1), (2, .int a2), (3, .int a3), (4, .int a4), (5, .int a5)]) B dX11_say_79 0 rfl (by decide) (by decide) rfl ?_
    refine g_goto (tgt := 54) B dX11_say_82 (by decide) ?_
    refine g_iload B dX11_say_54 0 rfl ?_
    refine g_iconst (v := 5) B dX11_say_56 (by decide) ?_
    refine g_icmp_ge (tgt := 85) B dX11_say_57 (by decide) (fun h => absurd h (by decide)) (fun c57 => ?_)
    refine g_aload_n B dX11_say_60 rfl 1 rfl ?_
    refine g_get B 0 0 fl_X11_9 rfl mf_0 dX11_say_61 ?_
    refine g_aload_n B dX11_say_64 rfl 1 rfl ?_
    refine g_get B 0 1 fl_X11_178 rfl mf_1 dX11_say_65 ?_
    refine g_iload B dX11_say_68 0 rfl ?_
    refine g_iadd B dX11_say_70 ?_
    refine g_ri (x' := nI (m_1 + 3)) (nI_add m_1 3) ?_
    refine g_aload_n B dX11_say_71 rfl 1 rfl ?_
    refine g_get B 0 49 fl_X11_99 rfl mf_49 dX11_say_72 ?_
    refine g_iload B dX11_say_75 0 rfl ?_
    refine g_iald B 2 rfl (by unfold vp_in; decide) dX11_say_77 ?_
    refine g_ri (x' := ((upd (upd (upd (upd (upd r49_f 0 a1) 1 a2) 2 a3) 3 a4) 4 a5) 3)) (congrArg (upd (upd (upd (upd (upd r49_f 0 a1) 1 a2) 2 a3) 3 a4) 4 a5) (by decide)) ?_
    refine g_iast (ws' := [(m, .inr (11, mkF r m_1 m_4 m_9 m_10 m_14 m_15 m_25 m_26 m_27 m_28 m_29 m_31 m_32 m_33 m_35 m_36 m_37 m_38 m_39 m_40 m_42)), ((r 0), .inl (E.2.2.1 0, 1200, .inl (upd (upd (upd (upd r0_f (m_1 + 0) ((upd (upd (upd (upd (upd r49_f 0 a1) 1 a2) 2 a3) 3 a4) 4 a5) 0)) (m_1 + 1) ((upd (upd (upd (upd (upd r49_f 0 a1) 1 a2) 2 a3) 3 a4) 4 a5) 1)) (m_1 + 2) ((upd (upd (upd (upd (upd r49_f 0 a1) 1 a2) 2 a3) 3 a4) 4 a5) 2)) (m_1 + 3) ((upd (upd (upd (upd (upd r49_f 0 a1) 1 a2) 2 a3) 3 a4) 4 a5) 3)))), ((r 49), .inl (E.2.2.1 0, 5, .inl (upd (upd (upd (upd (upd r49_f 0 a1) 1 a2) 2 a3) 3 a4) 4 a5)))]) B 1 rfl (vp_in_nI (by omega) (by omega)) (by rw [nI_clamp (n := (m_1 + 3)) (by omega)]; rfl) dX11_say_78 ?_
    refine g_iinc (v := 4) (lv' := [(6, .int 4), (0, .ref m), (1, .int a1), (2, .int a2), (3, .int a3), (4, .int a4), (5, .int a5)]) B dX11_say_79 0 rfl (by decide) (by decide) rfl ?_
    refine g_goto (tgt := 54) B dX11_say_82 (by decide) ?_
    refine g_iload B dX11_say_54 0 rfl ?_
    refine g_iconst (v := 5) B dX11_say_56 (by decide) ?_
    refine g_icmp_ge (tgt := 85) B dX11_say_57 (by decide) (fun h => absurd h (by decide)) (fun c57 => ?_)
    refine g_aload_n B dX11_say_60 rfl 1 rfl ?_
    refine g_get B 0 0 fl_X11_9 rfl mf_0 dX11_say_61 ?_
    refine g_aload_n B dX11_say_64 rfl 1 rfl ?_
    refine g_get B 0 1 fl_X11_178 rfl mf_1 dX11_say_65 ?_
    refine g_iload B dX11_say_68 0 rfl ?_
    refine g_iadd B dX11_say_70 ?_
    refine g_ri (x' := nI (m_1 + 4)) (nI_add m_1 4) ?_
    refine g_aload_n B dX11_say_71 rfl 1 rfl ?_
    refine g_get B 0 49 fl_X11_99 rfl mf_49 dX11_say_72 ?_
    refine g_iload B dX11_say_75 0 rfl ?_
    refine g_iald B 2 rfl (by unfold vp_in; decide) dX11_say_77 ?_
    refine g_ri (x' := a5) (by rw [show Int32.toNatClampNeg 4 = 4 from by decide]; exact pk_us) ?_
    refine g_iast (ws' := [(m, .inr (11, mkF r m_1 m_4 m_9 m_10 m_14 m_15 m_25 m_26 m_27 m_28 m_29 m_31 m_32 m_33 m_35 m_36 m_37 m_38 m_39 m_40 m_42)), ((r 0), .inl (E.2.2.1 0, 1200, .inl (upd (upd (upd (upd (upd r0_f (m_1 + 0) ((upd (upd (upd (upd (upd r49_f 0 a1) 1 a2) 2 a3) 3 a4) 4 a5) 0)) (m_1 + 1) ((upd (upd (upd (upd (upd r49_f 0 a1) 1 a2) 2 a3) 3 a4) 4 a5) 1)) (m_1 + 2) ((upd (upd (upd (upd (upd r49_f 0 a1) 1 a2) 2 a3) 3 a4) 4 a5) 2)) (m_1 + 3) ((upd (upd (upd (upd (upd r49_f 0 a1) 1 a2) 2 a3) 3 a4) 4 a5) 3)) (m_1 + 4) a5))), ((r 49), .inl (E.2.2.1 0, 5, .inl (upd (upd (upd (upd (upd r49_f 0 a1) 1 a2) 2 a3) 3 a4) 4 a5)))]) B 1 rfl (vp_in_nI (by omega) (by omega)) (by rw [nI_clamp (n := (m_1 + 4)) (by omega)]; rfl) dX11_say_78 ?_
    refine g_iinc (v := 5) (lv' := [(6, .int 5), (0, .ref m), (1, .int a1), (2, .int a2), (3, .int a3), (4, .int a4), (5, .int a5)]) B dX11_say_79 0 rfl (by decide) (by decide) rfl ?_
    refine g_goto (tgt := 54) B dX11_say_82 (by decide) ?_
    refine g_iload B dX11_say_54 0 rfl ?_
    refine g_iconst (v := 5) B dX11_say_56 (by decide) ?_
    refine g_icmp_ge (tgt := 85) B dX11_say_57 (by decide) (fun c57 => ?_) (fun h => absurd (by decide) h)
    refine g_aload_n B dX11_say_85 rfl 1 rfl ?_
    refine g_dup B dX11_say_86 rfl ?_
    refine g_get B 0 1 fl_X11_178 rfl mf_1 dX11_say_87 ?_
    refine g_iconst (v := 5) B dX11_say_90 (by decide) ?_
    refine g_iadd B dX11_say_91 ?_
    refine g_ri (x' := nI (m_1 + 5)) (nI_add m_1 5) ?_
    refine g_putM (ws' := [(m, .inr (11, mkF r (m_1 + 5) m_4 m_9 m_10 m_14 m_15 m_25 m_26 m_27 m_28 m_29 m_31 m_32 m_33 m_35 m_36 m_37 m_38 m_39 m_40 m_42)), ((r 0), .inl (E.2.2.1 0, 1200, .inl (upd (upd (upd (upd (upd r0_f (m_1 + 0) ((upd (upd (upd (upd (upd r49_f 0 a1) 1 a2) 2 a3) 3 a4) 4 a5) 0)) (m_1 + 1) ((upd (upd (upd (upd (upd r49_f 0 a1) 1 a2) 2 a3) 3 a4) 4 a5) 1)) (m_1 + 2) ((upd (upd (upd (upd (upd r49_f 0 a1) 1 a2) 2 a3) 3 a4) 4 a5) 2)) (m_1 + 3) ((upd (upd (upd (upd (upd r49_f 0 a1) 1 a2) 2 a3) 3 a4) 4 a5) 3)) (m_1 + 4) a5))), ((r 49), .inl (E.2.2.1 0, 5, .inl (upd (upd (upd (upd (upd r49_f 0 a1) 1 a2) 2 a3) 3 a4) 4 a5)))]) (fs' := mkF r (m_1 + 5) m_4 m_9 m_10 m_14 m_15 m_25 m_26 m_27 m_28 m_29 m_31 m_32 m_33 m_35 m_36 m_37 m_38 m_39 m_40 m_42) B 0 1 fl_X11_178 pf_X11_1 rfl (mlt (by decide)) rfl rfl (ms_1 rfl) rfl dX11_say_92 ?_
    refine g_aload_n B dX11_say_95 rfl 1 rfl ?_
    refine g_get B 0 1 fl_X11_178 rfl mf_1 dX11_say_96 ?_
    exact g_iret B hr dX11_say_99 (by decide) (by decide) ⟨(m_1 + 5), (upd (upd (upd (upd (upd r0_f (m_1 + 0) ((upd (upd (upd (upd (upd r49_f 0 a1) 1 a2) 2 a3) 3 a4) 4 a5) 0)) (m_1 + 1) ((upd (upd (upd (upd (upd r49_f 0 a1) 1 a2) 2 a3) 3 a4) 4 a5) 1)) (m_1 + 2) ((upd (upd (upd (upd (upd r49_f 0 a1) 1 a2) 2 a3) 3 a4) 4 a5) 2)) (m_1 + 3) ((upd (upd (upd (upd (upd r49_f 0 a1) 1 a2) 2 a3) 3 a4) 4 a5) 3)) (m_1 + 4) a5), (upd (upd (upd (upd (upd r49_f 0 a1) 1 a2) 2 a3) 3 a4) 4 a5), (nI (m_1 + 5)), (by first | assumption | omega | decide | exact hCF _ (by omega)), e_, rfl, rfl⟩
  · have hn_3907 : 1200 < (m_1 + 5) := Nat.not_le.mp (fun q => c9_3905 ((nI_leI (a := (m_1 + 5)) (b := 1200) (by omega) (by omega)).mpr q))
    replace e_ := fun β k_ => (e_ β k_).trans (if_neg (Nat.not_le.mpr hn_3907))
    refine g_iconst (v := (-1)) B dX11_say_12 (by decide) ?_
    exact g_iret B hr dX11_say_13 (by decide) (by decide) ⟨m_1, r0_f, r49_f, (-1), (by first | assumption | omega | decide | exact hCF _ (by omega)), e_, rfl, rfl⟩
abbrev MX11_cut : g_M := (yX11_cut, cX11_cut, 2, (some .boolean))
theorem dX11_cut_0 : decode cX11_cut 0 = .ok (.iload_n 1, 1) := by decide +kernel
theorem dX11_cut_1 : decode cX11_cut 1 = .ok (.ifCond .lt 11, 3) := by decide +kernel
theorem dX11_cut_12 : decode cX11_cut 12 = .ok (.iconst 0, 1) := by decide +kernel
theorem dX11_cut_13 : decode cX11_cut 13 = .ok (.ireturn, 1) := by decide +kernel
theorem dX11_cut_4 : decode cX11_cut 4 = .ok (.iload_n 1, 1) := by decide +kernel
theorem dX11_cut_5 : decode cX11_cut 5 = .ok (.aload_n 0, 1) := by decide +kernel
theorem dX11_cut_6 : decode cX11_cut 6 = .ok (.getfield 178, 3) := by decide +kernel
theorem dX11_cut_9 : decode cX11_cut 9 = .ok (.if_icmp .le 5, 3) := by decide +kernel
theorem dX11_cut_14 : decode cX11_cut 14 = .ok (.aload_n 0, 1) := by decide +kernel
theorem dX11_cut_15 : decode cX11_cut 15 = .ok (.iload_n 1, 1) := by decide +kernel
theorem dX11_cut_16 : decode cX11_cut 16 = .ok (.putfield 178, 3) := by decide +kernel
theorem dX11_cut_19 : decode cX11_cut 19 = .ok (.iconst 1, 1) := by decide +kernel
theorem dX11_cut_20 : decode cX11_cut 20 = .ok (.ireturn, 1) := by decide +kernel
set_option maxRecDepth 100000 in
def fn_wr_X11_cut (m_1 : Nat) (n : Int32) (β : Type) (k_ : Nat → Int32 → β) : β := (if n < 0 then (k_ m_1 0) else (if n ≤ nI m_1 then (fnL (Int32.toNatClampNeg n) (fun j_3910 => (k_ j_3910 1))) else (k_ m_1 0)))
set_option maxRecDepth 100000 in
theorem fn_wr_X11_cut_s {m_1 : Nat} {n : Int32} {β : Type} {k_ : Nat → Int32 → β} : fn_wr_X11_cut m_1 n β k_ = (if n < 0 then (k_ m_1 0) else (if n ≤ nI m_1 then (fnL (Int32.toNatClampNeg n) (fun j_3910 => (k_ j_3910 1))) else (k_ m_1 0))) := rfl
set_option maxRecDepth 100000 in
set_option maxHeartbeats 4000000 in
theorem wr_X11_cut (E : g_E) (m : Nat) (r : Nat → Nat) (m_1 : Nat) (m_4 : Nat) (m_9 : Nat) (m_10 : Nat) (m_14 : Nat) (m_15 : Nat) (m_25 : Int32) (m_26 : Int32) (m_27 : Int64) (m_28 : Nat) (m_29 : Nat) (m_31 : Nat) (m_32 : Nat) (m_33 : Nat) (m_35 : Nat) (m_36 : Nat) (m_37 : Int32) (m_38 : Nat) (m_39 : Int32) (m_40 : Int32) (m_42 : Nat) (n : Int32) (hb0 : m_1 ≤ 1200) : Ev E MX11_cut 0 0 0 0 [.ref m, .int n] [(m, .inr (11, mkF r m_1 m_4 m_9 m_10 m_14 m_15 m_25 m_26 m_27 m_28 m_29 m_31 m_32 m_33 m_35 m_36 m_37 m_38 m_39 m_40 m_42))] (fun v_ w_ => ∃ zm_1 : Nat, ∃ zr : Int32, (zm_1 ≤ 1200) ∧ (zr = 0 ∨ zr = 1) ∧ (∀ (β : Type) (k_ : Nat → Int32 → β), fn_wr_X11_cut m_1 n β k_ = k_ zm_1 zr) ∧ v_ = some (.int zr) ∧ w_ = [(m, .inr (11, mkF r zm_1 m_4 m_9 m_10 m_14 m_15 m_25 m_26 m_27 m_28 m_29 m_31 m_32 m_33 m_35 m_36 m_37 m_38 m_39 m_40 m_42))]) := by
  refine Ev.intro (by decide) (Nat.le_of_ble_eq_true rfl) ?_
  intro X B hr hI
  have B : Bd E X cX11_cut RX11 2 0 0 0 0 := B
  have hr : Rt E X (some .boolean) 0 0 (fun v_ w_ => ∃ zm_1 : Nat, ∃ zr : Int32, (zm_1 ≤ 1200) ∧ (zr = 0 ∨ zr = 1) ∧ (∀ (β : Type) (k_ : Nat → Int32 → β), fn_wr_X11_cut m_1 n β k_ = k_ zm_1 zr) ∧ v_ = some (.int zr) ∧ w_ = [(m, .inr (11, mkF r zm_1 m_4 m_9 m_10 m_14 m_15 m_25 m_26 m_27 m_28 m_29 m_31 m_32 m_33 m_35 m_36 m_37 m_38 m_39 m_40 m_42))]) := hr
  have e_ := fun (β : Type) (k_ : Nat → Int32 → β) => fn_wr_X11_cut_s (β := β) (k_ := k_) (m_1 := m_1) (n := n)
  show G E X 2 [(m, .inr (11, mkF r m_1 m_4 m_9 m_10 m_14 m_15 m_25 m_26 m_27 m_28 m_29 m_31 m_32 m_33 m_35 m_36 m_37 m_38 m_39 m_40 m_42))] 0 0 [(0, .ref m), (1, .int n)] 0 []
  refine g_iload_n B dX11_cut_0 rfl 1 rfl ?_
  refine g_if_lt (tgt := 12) B dX11_cut_1 (by decide) (fun c1_3908 => ?_) (fun c1_3908 => ?_)
  · replace e_ := fun β k_ => (e_ β k_).trans (if_pos c1_3908)
    refine g_iconst (v := 0) B dX11_cut_12 (by decide) ?_
    exact g_zret B hr (by decide) dX11_cut_13 (by decide) (by decide) ⟨m_1, 0, (by first | assumption | omega | decide | exact hCF _ (by omega)), (by first | assumption | omega | decide | exact hCF _ (by omega)), e_, rfl, rfl⟩
  · replace e_ := fun β k_ => (e_ β k_).trans (if_neg c1_3908)
    refine g_iload_n B dX11_cut_4 rfl 1 rfl ?_
    refine g_aload_n B dX11_cut_5 rfl 0 rfl ?_
    refine g_get B 0 1 fl_X11_178 rfl mf_1 dX11_cut_6 ?_
    refine g_icmp_le (tgt := 14) B dX11_cut_9 (by decide) (fun c9_3909 => ?_) (fun c9_3909 => ?_)
    · replace e_ := fun β k_ => (e_ β k_).trans (if_pos c9_3909)
      obtain ⟨j_3910, hj_3910, rfl⟩ := ix_le (n := m_1) (by omega) c1_3908 c9_3909
      replace e_ := fun β k_ => (e_ β k_).trans (fnL_eq (x := j_3910) (nI_clamp (by omega)) _)
      refine g_aload_n B dX11_cut_14 rfl 0 rfl ?_
      refine g_iload_n B dX11_cut_15 rfl 1 rfl ?_
      refine g_putM (ws' := [(m, .inr (11, mkF r j_3910 m_4 m_9 m_10 m_14 m_15 m_25 m_26 m_27 m_28 m_29 m_31 m_32 m_33 m_35 m_36 m_37 m_38 m_39 m_40 m_42))]) (fs' := mkF r j_3910 m_4 m_9 m_10 m_14 m_15 m_25 m_26 m_27 m_28 m_29 m_31 m_32 m_33 m_35 m_36 m_37 m_38 m_39 m_40 m_42) B 0 1 fl_X11_178 pf_X11_1 rfl (mlt (by decide)) rfl rfl (ms_1 rfl) rfl dX11_cut_16 ?_
      refine g_iconst (v := 1) B dX11_cut_19 (by decide) ?_
      exact g_zret B hr (by decide) dX11_cut_20 (by decide) (by decide) ⟨j_3910, 1, (by first | assumption | omega | decide | exact hCF _ (by omega)), (by first | assumption | omega | decide | exact hCF _ (by omega)), e_, rfl, rfl⟩
    · replace e_ := fun β k_ => (e_ β k_).trans (if_neg c9_3909)
      refine g_iconst (v := 0) B dX11_cut_12 (by decide) ?_
      exact g_zret B hr (by decide) dX11_cut_13 (by decide) (by decide) ⟨m_1, 0, (by first | assumption | omega | decide | exact hCF _ (by omega)), (by first | assumption | omega | decide | exact hCF _ (by omega)), e_, rfl, rfl⟩
abbrev MX11_row : g_M := (yX11_row, cX11_row, 2, (some .int))
theorem dX11_row_0 : decode cX11_row 0 = .ok (.iload_n 1, 1) := by decide +kernel
theorem dX11_row_1 : decode cX11_row 1 = .ok (.ifCond .lt 11, 3) := by decide +kernel
theorem dX11_row_12 : decode cX11_row 12 = .ok (.iconst 0, 1) := by decide +kernel
theorem dX11_row_13 : decode cX11_row 13 = .ok (.goto 9, 3) := by decide +kernel
theorem dX11_row_22 : decode cX11_row 22 = .ok (.ireturn, 1) := by decide +kernel
theorem dX11_row_4 : decode cX11_row 4 = .ok (.iload_n 1, 1) := by decide +kernel
theorem dX11_row_5 : decode cX11_row 5 = .ok (.aload_n 0, 1) := by decide +kernel
theorem dX11_row_6 : decode cX11_row 6 = .ok (.getfield 178, 3) := by decide +kernel
theorem dX11_row_9 : decode cX11_row 9 = .ok (.if_icmp .lt 7, 3) := by decide +kernel
theorem dX11_row_16 : decode cX11_row 16 = .ok (.aload_n 0, 1) := by decide +kernel
theorem dX11_row_17 : decode cX11_row 17 = .ok (.getfield 9, 3) := by decide +kernel
theorem dX11_row_20 : decode cX11_row 20 = .ok (.iload_n 1, 1) := by decide +kernel
theorem dX11_row_21 : decode cX11_row 21 = .ok (.iaload, 1) := by decide +kernel
set_option maxRecDepth 100000 in
def fn_wr_X11_row (m_1 : Nat) (r0_f : Nat → Int32) (i : Int32) (β : Type) (k_ : Int32 → β) : β := (if i < 0 then (k_ 0) else (if i < nI m_1 then (fnL (Int32.toNatClampNeg i) (fun j_3913 => (k_ (r0_f j_3913)))) else (k_ 0)))
set_option maxRecDepth 100000 in
theorem fn_wr_X11_row_s {m_1 : Nat} {r0_f : Nat → Int32} {i : Int32} {β : Type} {k_ : Int32 → β} : fn_wr_X11_row m_1 r0_f i β k_ = (if i < 0 then (k_ 0) else (if i < nI m_1 then (fnL (Int32.toNatClampNeg i) (fun j_3913 => (k_ (r0_f j_3913)))) else (k_ 0))) := rfl
set_option maxRecDepth 100000 in
set_option maxHeartbeats 4000000 in
theorem wr_X11_row (E : g_E) (m : Nat) (r : Nat → Nat) (m_1 : Nat) (m_4 : Nat) (m_9 : Nat) (m_10 : Nat) (m_14 : Nat) (m_15 : Nat) (m_25 : Int32) (m_26 : Int32) (m_27 : Int64) (m_28 : Nat) (m_29 : Nat) (m_31 : Nat) (m_32 : Nat) (m_33 : Nat) (m_35 : Nat) (m_36 : Nat) (m_37 : Int32) (m_38 : Nat) (m_39 : Int32) (m_40 : Int32) (m_42 : Nat) (r0_f : Nat → Int32) (i : Int32) (hb0 : m_1 ≤ 1200) : Ev E MX11_row 0 0 0 0 [.ref m, .int i] [(m, .inr (11, mkF r m_1 m_4 m_9 m_10 m_14 m_15 m_25 m_26 m_27 m_28 m_29 m_31 m_32 m_33 m_35 m_36 m_37 m_38 m_39 m_40 m_42)), ((r 0), .inl (E.2.2.1 0, 1200, .inl r0_f))] (fun v_ w_ => ∃ zr : Int32, (∀ (β : Type) (k_ : Int32 → β), fn_wr_X11_row m_1 r0_f i β k_ = k_ zr) ∧ v_ = some (.int zr) ∧ w_ = [(m, .inr (11, mkF r m_1 m_4 m_9 m_10 m_14 m_15 m_25 m_26 m_27 m_28 m_29 m_31 m_32 m_33 m_35 m_36 m_37 m_38 m_39 m_40 m_42)), ((r 0), .inl (E.2.2.1 0, 1200, .inl r0_f))]) := by
  refine Ev.intro (by decide) (Nat.le_of_ble_eq_true rfl) ?_
  intro X B hr hI
  have B : Bd E X cX11_row RX11 2 0 0 0 0 := B
  have hr : Rt E X (some .int) 0 0 (fun v_ w_ => ∃ zr : Int32, (∀ (β : Type) (k_ : Int32 → β), fn_wr_X11_row m_1 r0_f i β k_ = k_ zr) ∧ v_ = some (.int zr) ∧ w_ = [(m, .inr (11, mkF r m_1 m_4 m_9 m_10 m_14 m_15 m_25 m_26 m_27 m_28 m_29 m_31 m_32 m_33 m_35 m_36 m_37 m_38 m_39 m_40 m_42)), ((r 0), .inl (E.2.2.1 0, 1200, .inl r0_f))]) := hr
  have e_ := fun (β : Type) (k_ : Int32 → β) => fn_wr_X11_row_s (β := β) (k_ := k_) (m_1 := m_1) (r0_f := r0_f) (i := i)
  show G E X 2 [(m, .inr (11, mkF r m_1 m_4 m_9 m_10 m_14 m_15 m_25 m_26 m_27 m_28 m_29 m_31 m_32 m_33 m_35 m_36 m_37 m_38 m_39 m_40 m_42)), ((r 0), .inl (E.2.2.1 0, 1200, .inl r0_f))] 0 0 [(0, .ref m), (1, .int i)] 0 []
  refine g_iload_n B dX11_row_0 rfl 1 rfl ?_
  refine g_if_lt (tgt := 12) B dX11_row_1 (by decide) (fun c1_3911 => ?_) (fun c1_3911 => ?_)
  · replace e_ := fun β k_ => (e_ β k_).trans (if_pos c1_3911)
    refine g_iconst (v := 0) B dX11_row_12 (by decide) ?_
    refine g_goto (tgt := 22) B dX11_row_13 (by decide) ?_
    exact g_iret B hr dX11_row_22 (by decide) (by decide) ⟨0, e_, rfl, rfl⟩
  · replace e_ := fun β k_ => (e_ β k_).trans (if_neg c1_3911)
    refine g_iload_n B dX11_row_4 rfl 1 rfl ?_
    refine g_aload_n B dX11_row_5 rfl 0 rfl ?_
    refine g_get B 0 1 fl_X11_178 rfl mf_1 dX11_row_6 ?_
    refine g_icmp_lt (tgt := 16) B dX11_row_9 (by decide) (fun c9_3912 => ?_) (fun c9_3912 => ?_)
    · replace e_ := fun β k_ => (e_ β k_).trans (if_pos c9_3912)
      obtain ⟨j_3913, hj_3913, rfl⟩ := ix_lt (n := m_1) (by omega) c1_3911 c9_3912
      replace e_ := fun β k_ => (e_ β k_).trans (fnL_eq (x := j_3913) (nI_clamp (by omega)) _)
      refine g_aload_n B dX11_row_16 rfl 0 rfl ?_
      refine g_get B 0 0 fl_X11_9 rfl mf_0 dX11_row_17 ?_
      refine g_iload_n B dX11_row_20 rfl 1 rfl ?_
      refine g_iald B 1 rfl (vp_in_nI (by omega) (by omega)) dX11_row_21 ?_
      refine g_ri (x' := (r0_f j_3913)) (congrArg r0_f (nI_clamp (n := j_3913) (by omega))) ?_
      exact g_iret B hr dX11_row_22 (by decide) (by decide) ⟨(r0_f j_3913), e_, rfl, rfl⟩
    · replace e_ := fun β k_ => (e_ β k_).trans (if_neg c9_3912)
      refine g_iconst (v := 0) B dX11_row_12 (by decide) ?_
      refine g_goto (tgt := 22) B dX11_row_13 (by decide) ?_
      exact g_iret B hr dX11_row_22 (by decide) (by decide) ⟨0, e_, rfl, rfl⟩
abbrev MX11_rows : g_M := (yX11_rows, cX11_rows, 1, (some .int))
theorem dX11_rows_0 : decode cX11_rows 0 = .ok (.aload_n 0, 1) := by decide +kernel
theorem dX11_rows_1 : decode cX11_rows 1 = .ok (.getfield 178, 3) := by decide +kernel
theorem dX11_rows_4 : decode cX11_rows 4 = .ok (.ireturn, 1) := by decide +kernel
set_option maxRecDepth 100000 in
def fn_wr_X11_rows (m_1 : Nat) (β : Type) (k_ : Int32 → β) : β := (k_ (nI m_1))
set_option maxRecDepth 100000 in
theorem fn_wr_X11_rows_s {m_1 : Nat} {β : Type} {k_ : Int32 → β} : fn_wr_X11_rows m_1 β k_ = (k_ (nI m_1)) := rfl
set_option maxRecDepth 100000 in
set_option maxHeartbeats 4000000 in
theorem wr_X11_rows (E : g_E) (m : Nat) (r : Nat → Nat) (m_1 : Nat) (m_4 : Nat) (m_9 : Nat) (m_10 : Nat) (m_14 : Nat) (m_15 : Nat) (m_25 : Int32) (m_26 : Int32) (m_27 : Int64) (m_28 : Nat) (m_29 : Nat) (m_31 : Nat) (m_32 : Nat) (m_33 : Nat) (m_35 : Nat) (m_36 : Nat) (m_37 : Int32) (m_38 : Nat) (m_39 : Int32) (m_40 : Int32) (m_42 : Nat)  : Ev E MX11_rows 0 0 0 0 [.ref m] [(m, .inr (11, mkF r m_1 m_4 m_9 m_10 m_14 m_15 m_25 m_26 m_27 m_28 m_29 m_31 m_32 m_33 m_35 m_36 m_37 m_38 m_39 m_40 m_42))] (fun v_ w_ => ∃ zr : Int32, (∀ (β : Type) (k_ : Int32 → β), fn_wr_X11_rows m_1 β k_ = k_ zr) ∧ v_ = some (.int zr) ∧ w_ = [(m, .inr (11, mkF r m_1 m_4 m_9 m_10 m_14 m_15 m_25 m_26 m_27 m_28 m_29 m_31 m_32 m_33 m_35 m_36 m_37 m_38 m_39 m_40 m_42))]) := by
  refine Ev.intro (by decide) (Nat.le_of_ble_eq_true rfl) ?_
  intro X B hr hI
  have B : Bd E X cX11_rows RX11 1 0 0 0 0 := B
  have hr : Rt E X (some .int) 0 0 (fun v_ w_ => ∃ zr : Int32, (∀ (β : Type) (k_ : Int32 → β), fn_wr_X11_rows m_1 β k_ = k_ zr) ∧ v_ = some (.int zr) ∧ w_ = [(m, .inr (11, mkF r m_1 m_4 m_9 m_10 m_14 m_15 m_25 m_26 m_27 m_28 m_29 m_31 m_32 m_33 m_35 m_36 m_37 m_38 m_39 m_40 m_42))]) := hr
  have e_ := fun (β : Type) (k_ : Int32 → β) => fn_wr_X11_rows_s (β := β) (k_ := k_) (m_1 := m_1)
  show G E X 1 [(m, .inr (11, mkF r m_1 m_4 m_9 m_10 m_14 m_15 m_25 m_26 m_27 m_28 m_29 m_31 m_32 m_33 m_35 m_36 m_37 m_38 m_39 m_40 m_42))] 0 0 [(0, .ref m)] 0 []
  refine g_aload_n B dX11_rows_0 rfl 0 rfl ?_
  refine g_get B 0 1 fl_X11_178 rfl mf_1 dX11_rows_1 ?_
  exact g_iret B hr dX11_rows_4 (by decide) (by decide) ⟨(nI m_1), e_, rfl, rfl⟩
def tI (t : Int32) : Int32 := if t < 1 then (if t = 17 then 1 else if t = 18 then 1 else if t = -1 then 1 else if t = -3 then 1 else 0) else if t ≤ 8 then 1 else if t = 17 then 1 else if t = 18 then 1 else if t = -1 then 1 else if t = -3 then 1 else 0
def psOk (k : Nat) (t d : Int32) : Prop := ¬ k = 8 ∧ ¬ tI t = 0 ∧ ¬ d < 1 ∧ d ≤ 7
set_option maxRecDepth 100000 in
set_option maxHeartbeats 4000000 in
theorem wr_X11_isTerm (E : g_E) (t : Int32)  : Ev E MX11_isTerm 0 0 0 0 [.int t] [] (fun v_ w_ => v_ = some (.int (tI t)) ∧ w_ = []) := by
  refine Ev.intro (by decide) (Nat.le_of_ble_eq_true rfl) ?_
  intro X B hr hI
  have B : Bd E X cX11_isTerm RX11 1 0 0 0 0 := B
  have hr : Rt E X (some .boolean) 0 0 (fun v_ w_ => v_ = some (.int (tI t)) ∧ w_ = []) := hr
  show G E X 1 [] 0 0 [(0, .int t)] 0 []
  refine g_iload_n B dX11_isTerm_0 rfl 0 rfl ?_
  refine g_iconst (v := 1) B dX11_isTerm_1 (by decide) ?_
  refine g_icmp_lt (tgt := 11) B dX11_isTerm_2 (by decide) (fun c2_3914 => ?_) (fun c2_3914 => ?_)
  · refine g_iload_n B dX11_isTerm_11 rfl 0 rfl ?_
    refine g_bipush (v := 17) B dX11_isTerm_12 (by decide) ?_
    refine g_icmp_eq (tgt := 34) B dX11_isTerm_14 (by decide) (fun c14_3915 => ?_) (fun c14_3915 => ?_)
    · refine g_iconst (v := 1) B dX11_isTerm_34 (by decide) ?_
      refine g_goto (tgt := 39) B dX11_isTerm_35 (by decide) ?_
      exact g_zret B hr (by decide) dX11_isTerm_39 (by decide) (by decide) ⟨by simp [tI, c2_3914, c14_3915], rfl⟩
    · refine g_iload_n B dX11_isTerm_17 rfl 0 rfl ?_
      refine g_bipush (v := 18) B dX11_isTerm_18 (by decide) ?_
      refine g_icmp_eq (tgt := 34) B dX11_isTerm_20 (by decide) (fun c20_3916 => ?_) (fun c20_3916 => ?_)
      · refine g_iconst (v := 1) B dX11_isTerm_34 (by decide) ?_
        refine g_goto (tgt := 39) B dX11_isTerm_35 (by decide) ?_
        exact g_zret B hr (by decide) dX11_isTerm_39 (by decide) (by decide) ⟨by simp [tI, c2_3914, c14_3915, c20_3916], rfl⟩
      · refine g_iload_n B dX11_isTerm_23 rfl 0 rfl ?_
        refine g_iconst (v := (-1)) B dX11_isTerm_24 (by decide) ?_
        refine g_icmp_eq (tgt := 34) B dX11_isTerm_25 (by decide) (fun c25_3917 => ?_) (fun c25_3917 => ?_)
        · refine g_iconst (v := 1) B dX11_isTerm_34 (by decide) ?_
          refine g_goto (tgt := 39) B dX11_isTerm_35 (by decide) ?_
          exact g_zret B hr (by decide) dX11_isTerm_39 (by decide) (by decide) ⟨by simp [tI, c2_3914, c14_3915, c20_3916, c25_3917], rfl⟩
        · refine g_iload_n B dX11_isTerm_28 rfl 0 rfl ?_
          refine g_bipush (v := (-3)) B dX11_isTerm_29 (by decide) ?_
          refine g_icmp_ne (tgt := 38) B dX11_isTerm_31 (by decide) (fun c31_3918 => ?_) (fun c31_3918 => ?_)
          · refine g_iconst (v := 0) B dX11_isTerm_38 (by decide) ?_
            exact g_zret B hr (by decide) dX11_isTerm_39 (by decide) (by decide) ⟨by simp [tI, c2_3914, c14_3915, c20_3916, c25_3917, c31_3918], rfl⟩
          · refine g_iconst (v := 1) B dX11_isTerm_34 (by decide) ?_
            refine g_goto (tgt := 39) B dX11_isTerm_35 (by decide) ?_
            exact g_zret B hr (by decide) dX11_isTerm_39 (by decide) (by decide) ⟨by simp [tI, c2_3914, c14_3915, c20_3916, c25_3917, c31_3918], rfl⟩
  · refine g_iload_n B dX11_isTerm_5 rfl 0 rfl ?_
    refine g_bipush (v := 8) B dX11_isTerm_6 (by decide) ?_
    refine g_icmp_le (tgt := 34) B dX11_isTerm_8 (by decide) (fun c8_3919 => ?_) (fun c8_3919 => ?_)
    · refine g_iconst (v := 1) B dX11_isTerm_34 (by decide) ?_
      refine g_goto (tgt := 39) B dX11_isTerm_35 (by decide) ?_
      exact g_zret B hr (by decide) dX11_isTerm_39 (by decide) (by decide) ⟨by simp [tI, c2_3914, c8_3919], rfl⟩
    · refine g_iload_n B dX11_isTerm_11 rfl 0 rfl ?_
      refine g_bipush (v := 17) B dX11_isTerm_12 (by decide) ?_
      refine g_icmp_eq (tgt := 34) B dX11_isTerm_14 (by decide) (fun c14_3920 => ?_) (fun c14_3920 => ?_)
      · refine g_iconst (v := 1) B dX11_isTerm_34 (by decide) ?_
        refine g_goto (tgt := 39) B dX11_isTerm_35 (by decide) ?_
        exact g_zret B hr (by decide) dX11_isTerm_39 (by decide) (by decide) ⟨by simp [tI, c2_3914, c8_3919, c14_3920], rfl⟩
      · refine g_iload_n B dX11_isTerm_17 rfl 0 rfl ?_
        refine g_bipush (v := 18) B dX11_isTerm_18 (by decide) ?_
        refine g_icmp_eq (tgt := 34) B dX11_isTerm_20 (by decide) (fun c20_3921 => ?_) (fun c20_3921 => ?_)
        · refine g_iconst (v := 1) B dX11_isTerm_34 (by decide) ?_
          refine g_goto (tgt := 39) B dX11_isTerm_35 (by decide) ?_
          exact g_zret B hr (by decide) dX11_isTerm_39 (by decide) (by decide) ⟨by simp [tI, c2_3914, c8_3919, c14_3920, c20_3921], rfl⟩
        · refine g_iload_n B dX11_isTerm_23 rfl 0 rfl ?_
          refine g_iconst (v := (-1)) B dX11_isTerm_24 (by decide) ?_
          refine g_icmp_eq (tgt := 34) B dX11_isTerm_25 (by decide) (fun c25_3922 => ?_) (fun c25_3922 => ?_)
          · refine g_iconst (v := 1) B dX11_isTerm_34 (by decide) ?_
            refine g_goto (tgt := 39) B dX11_isTerm_35 (by decide) ?_
            exact g_zret B hr (by decide) dX11_isTerm_39 (by decide) (by decide) ⟨by simp [tI, c2_3914, c8_3919, c14_3920, c20_3921, c25_3922], rfl⟩
          · refine g_iload_n B dX11_isTerm_28 rfl 0 rfl ?_
            refine g_bipush (v := (-3)) B dX11_isTerm_29 (by decide) ?_
            refine g_icmp_ne (tgt := 38) B dX11_isTerm_31 (by decide) (fun c31_3923 => ?_) (fun c31_3923 => ?_)
            · refine g_iconst (v := 0) B dX11_isTerm_38 (by decide) ?_
              exact g_zret B hr (by decide) dX11_isTerm_39 (by decide) (by decide) ⟨by simp [tI, c2_3914, c8_3919, c14_3920, c20_3921, c25_3922, c31_3923], rfl⟩
            · refine g_iconst (v := 1) B dX11_isTerm_34 (by decide) ?_
              refine g_goto (tgt := 39) B dX11_isTerm_35 (by decide) ?_
              exact g_zret B hr (by decide) dX11_isTerm_39 (by decide) (by decide) ⟨by simp [tI, c2_3914, c8_3919, c14_3920, c20_3921, c25_3922, c31_3923], rfl⟩
abbrev MX11_pass : g_M := (yX11_pass, cX11_pass, 3, (some .int))
theorem dX11_pass_0 : decode cX11_pass 0 = .ok (.aload_n 0, 1) := by decide +kernel
theorem dX11_pass_1 : decode cX11_pass 1 = .ok (.getfield 271, 3) := by decide +kernel
theorem dX11_pass_4 : decode cX11_pass 4 = .ok (.bipush 8, 2) := by decide +kernel
theorem dX11_pass_6 : decode cX11_pass 6 = .ok (.if_icmp .eq 21, 3) := by decide +kernel
theorem dX11_pass_27 : decode cX11_pass 27 = .ok (.iconst (-1), 1) := by decide +kernel
theorem dX11_pass_28 : decode cX11_pass 28 = .ok (.ireturn, 1) := by decide +kernel
theorem dX11_pass_9 : decode cX11_pass 9 = .ok (.iload_n 1, 1) := by decide +kernel
theorem dX11_pass_10 : decode cX11_pass 10 = .ok (.invokestatic 324, 3) := by decide +kernel
theorem dX11_pass_13 : decode cX11_pass 13 = .ok (.ifCond .eq 14, 3) := by decide +kernel
theorem dX11_pass_16 : decode cX11_pass 16 = .ok (.iload_n 2, 1) := by decide +kernel
theorem dX11_pass_17 : decode cX11_pass 17 = .ok (.iconst 1, 1) := by decide +kernel
theorem dX11_pass_18 : decode cX11_pass 18 = .ok (.if_icmp .lt 9, 3) := by decide +kernel
theorem dX11_pass_21 : decode cX11_pass 21 = .ok (.iload_n 2, 1) := by decide +kernel
theorem dX11_pass_22 : decode cX11_pass 22 = .ok (.bipush 7, 2) := by decide +kernel
theorem dX11_pass_24 : decode cX11_pass 24 = .ok (.if_icmp .le 5, 3) := by decide +kernel
theorem dX11_pass_29 : decode cX11_pass 29 = .ok (.aload_n 0, 1) := by decide +kernel
theorem dX11_pass_30 : decode cX11_pass 30 = .ok (.getfield 13, 3) := by decide +kernel
theorem dX11_pass_33 : decode cX11_pass 33 = .ok (.aload_n 0, 1) := by decide +kernel
theorem dX11_pass_34 : decode cX11_pass 34 = .ok (.getfield 271, 3) := by decide +kernel
theorem dX11_pass_37 : decode cX11_pass 37 = .ok (.iload_n 1, 1) := by decide +kernel
theorem dX11_pass_38 : decode cX11_pass 38 = .ok (.iastore, 1) := by decide +kernel
theorem dX11_pass_39 : decode cX11_pass 39 = .ok (.aload_n 0, 1) := by decide +kernel
theorem dX11_pass_40 : decode cX11_pass 40 = .ok (.getfield 16, 3) := by decide +kernel
theorem dX11_pass_43 : decode cX11_pass 43 = .ok (.aload_n 0, 1) := by decide +kernel
theorem dX11_pass_44 : decode cX11_pass 44 = .ok (.getfield 271, 3) := by decide +kernel
theorem dX11_pass_47 : decode cX11_pass 47 = .ok (.iload_n 2, 1) := by decide +kernel
theorem dX11_pass_48 : decode cX11_pass 48 = .ok (.iastore, 1) := by decide +kernel
theorem dX11_pass_49 : decode cX11_pass 49 = .ok (.aload_n 0, 1) := by decide +kernel
theorem dX11_pass_50 : decode cX11_pass 50 = .ok (.dup, 1) := by decide +kernel
theorem dX11_pass_51 : decode cX11_pass 51 = .ok (.getfield 271, 3) := by decide +kernel
theorem dX11_pass_54 : decode cX11_pass 54 = .ok (.iconst 1, 1) := by decide +kernel
theorem dX11_pass_55 : decode cX11_pass 55 = .ok (.iadd, 1) := by decide +kernel
theorem dX11_pass_56 : decode cX11_pass 56 = .ok (.putfield 271, 3) := by decide +kernel
theorem pf_X11_4 : PF 11 4 .int false := fun C T N h => by cases h; exact ⟨⟨tyX11, tyX11_ok⟩, nmX11, by decide +kernel, rfl, rfl⟩
theorem dX11_pass_59 : decode cX11_pass 59 = .ok (.aload_n 0, 1) := by decide +kernel
theorem dX11_pass_60 : decode cX11_pass 60 = .ok (.getfield 271, 3) := by decide +kernel
theorem dX11_pass_63 : decode cX11_pass 63 = .ok (.ireturn, 1) := by decide +kernel
set_option maxRecDepth 100000 in
def fn_wr_X11_pass (m_4 : Nat) (r2_f : Nat → Int32) (r3_f : Nat → Int32) (t : Int32) (d : Int32) (β : Type) (k_ : Nat → (Nat → Int32) → (Nat → Int32) → Int32 → β) : β := (if m_4 = 8 then (k_ m_4 r2_f r3_f (-1)) else (if tI t = 0 then (k_ m_4 r2_f r3_f (-1)) else (if d < 1 then (k_ m_4 r2_f r3_f (-1)) else (if d ≤ 7 then (k_ (m_4 + 1) (upd r2_f m_4 t) (upd r3_f m_4 d) (nI (m_4 + 1))) else (k_ m_4 r2_f r3_f (-1))))))
set_option maxRecDepth 100000 in
theorem fn_wr_X11_pass_s {m_4 : Nat} {r2_f : Nat → Int32} {r3_f : Nat → Int32} {t : Int32} {d : Int32} {β : Type} {k_ : Nat → (Nat → Int32) → (Nat → Int32) → Int32 → β} : fn_wr_X11_pass m_4 r2_f r3_f t d β k_ = (if m_4 = 8 then (k_ m_4 r2_f r3_f (-1)) else (if tI t = 0 then (k_ m_4 r2_f r3_f (-1)) else (if d < 1 then (k_ m_4 r2_f r3_f (-1)) else (if d ≤ 7 then (k_ (m_4 + 1) (upd r2_f m_4 t) (upd r3_f m_4 d) (nI (m_4 + 1))) else (k_ m_4 r2_f r3_f (-1)))))) := rfl
set_option maxRecDepth 100000 in
set_option maxHeartbeats 4000000 in
theorem wr_X11_pass (E : g_E) (m : Nat) (r : Nat → Nat) (m_1 : Nat) (m_4 : Nat) (m_9 : Nat) (m_10 : Nat) (m_14 : Nat) (m_15 : Nat) (m_25 : Int32) (m_26 : Int32) (m_27 : Int64) (m_28 : Nat) (m_29 : Nat) (m_31 : Nat) (m_32 : Nat) (m_33 : Nat) (m_35 : Nat) (m_36 : Nat) (m_37 : Int32) (m_38 : Nat) (m_39 : Int32) (m_40 : Int32) (m_42 : Nat) (r2_f : Nat → Int32) (r3_f : Nat → Int32) (t : Int32) (d : Int32) (hb0 : m_4 ≤ 8) : Ev E MX11_pass 1 20 0 0 [.ref m, .int t, .int d] [(m, .inr (11, mkF r m_1 m_4 m_9 m_10 m_14 m_15 m_25 m_26 m_27 m_28 m_29 m_31 m_32 m_33 m_35 m_36 m_37 m_38 m_39 m_40 m_42)), ((r 2), .inl (E.2.2.1 0, 8, .inl r2_f)), ((r 3), .inl (E.2.2.1 0, 8, .inl r3_f))] (fun v_ w_ => ∃ zm_4 : Nat, ∃ zr2_f : Nat → Int32, ∃ zr3_f : Nat → Int32, ∃ zr : Int32, (zm_4 ≤ 8) ∧ ((psOk m_4 t d ∧ zr = nI (m_4 + 1) ∧ zm_4 = m_4 + 1) ∨ (¬ psOk m_4 t d ∧ zr = -1 ∧ zm_4 = m_4)) ∧ (∀ (β : Type) (k_ : Nat → (Nat → Int32) → (Nat → Int32) → Int32 → β), fn_wr_X11_pass m_4 r2_f r3_f t d β k_ = k_ zm_4 zr2_f zr3_f zr) ∧ v_ = some (.int zr) ∧ w_ = [(m, .inr (11, mkF r m_1 zm_4 m_9 m_10 m_14 m_15 m_25 m_26 m_27 m_28 m_29 m_31 m_32 m_33 m_35 m_36 m_37 m_38 m_39 m_40 m_42)), ((r 2), .inl (E.2.2.1 0, 8, .inl zr2_f)), ((r 3), .inl (E.2.2.1 0, 8, .inl zr3_f))]) := by
  refine Ev.intro (by decide) (Nat.le_of_ble_eq_true rfl) ?_
  intro X B hr hI
  have B : Bd E X cX11_pass RX11 3 1 20 0 0 := B
  have hr : Rt E X (some .int) 0 0 (fun v_ w_ => ∃ zm_4 : Nat, ∃ zr2_f : Nat → Int32, ∃ zr3_f : Nat → Int32, ∃ zr : Int32, (zm_4 ≤ 8) ∧ ((psOk m_4 t d ∧ zr = nI (m_4 + 1) ∧ zm_4 = m_4 + 1) ∨ (¬ psOk m_4 t d ∧ zr = -1 ∧ zm_4 = m_4)) ∧ (∀ (β : Type) (k_ : Nat → (Nat → Int32) → (Nat → Int32) → Int32 → β), fn_wr_X11_pass m_4 r2_f r3_f t d β k_ = k_ zm_4 zr2_f zr3_f zr) ∧ v_ = some (.int zr) ∧ w_ = [(m, .inr (11, mkF r m_1 zm_4 m_9 m_10 m_14 m_15 m_25 m_26 m_27 m_28 m_29 m_31 m_32 m_33 m_35 m_36 m_37 m_38 m_39 m_40 m_42)), ((r 2), .inl (E.2.2.1 0, 8, .inl zr2_f)), ((r 3), .inl (E.2.2.1 0, 8, .inl zr3_f))]) := hr
  have e_ := fun (β : Type) (k_ : Nat → (Nat → Int32) → (Nat → Int32) → Int32 → β) => fn_wr_X11_pass_s (β := β) (k_ := k_) (m_4 := m_4) (r2_f := r2_f) (r3_f := r3_f) (t := t) (d := d)
  show G E X 3 [(m, .inr (11, mkF r m_1 m_4 m_9 m_10 m_14 m_15 m_25 m_26 m_27 m_28 m_29 m_31 m_32 m_33 m_35 m_36 m_37 m_38 m_39 m_40 m_42)), ((r 2), .inl (E.2.2.1 0, 8, .inl r2_f)), ((r 3), .inl (E.2.2.1 0, 8, .inl r3_f))] 0 0 [(0, .ref m), (1, .int t), (2, .int d)] 0 []
  refine g_aload_n B dX11_pass_0 rfl 0 rfl ?_
  refine g_get B 0 4 fl_X11_271 rfl mf_4 dX11_pass_1 ?_
  refine g_bipush (v := 8) B dX11_pass_4 (by decide) ?_
  refine g_icmp_eq (tgt := 27) B dX11_pass_6 (by decide) (fun c6_3924 => ?_) (fun c6_3924 => ?_)
  · have hn_3925 : m_4 = 8 := (nI_eq (a := m_4) (b := 8) (by omega) (by omega)).mp c6_3924
    replace e_ := fun β k_ => (e_ β k_).trans (if_pos hn_3925)
    refine g_iconst (v := (-1)) B dX11_pass_27 (by decide) ?_
    exact g_iret B hr dX11_pass_28 (by decide) (by decide) ⟨m_4, r2_f, r3_f, (-1), (by first | assumption | omega | decide | exact hCF _ (by omega)), (Or.inr ⟨by unfold psOk; intro q; simp_all, rfl, rfl⟩), e_, rfl, rfl⟩
  · have hn_3926 : ¬ m_4 = 8 := fun q => c6_3924 ((nI_eq (a := m_4) (b := 8) (by omega) (by omega)).mpr q)
    replace e_ := fun β k_ => (e_ β k_).trans (if_neg hn_3926)
    refine g_iload_n B dX11_pass_9 rfl 1 rfl ?_
    refine g_callS (st := []) (As := [.int t]) (wr := [(m, .inr (11, mkF r m_1 m_4 m_9 m_10 m_14 m_15 m_25 m_26 m_27 m_28 m_29 m_31 m_32 m_33 m_35 m_36 m_37 m_38 m_39 m_40 m_42)), ((r 2), .inl (E.2.2.1 0, 8, .inl r2_f)), ((r 3), .inl (E.2.2.1 0, 8, .inl r3_f))]) (nc' := 0) (ns' := 0) B cl_X11_324 w_sm_X11_isTerm (wr_X11_isTerm E t ) rfl [] [0, 1, 2] rfl rfl (by decide) (by decide) (by decide) ⟨by decide, by decide⟩ rfl rfl (by decide) (by decide) rfl (Nat.le_of_ble_eq_true rfl) dX11_pass_10 (fun v w hq => ?_)
    obtain ⟨rfl, rfl⟩ := hq
    show G E X 3 [(m, .inr (11, mkF r m_1 m_4 m_9 m_10 m_14 m_15 m_25 m_26 m_27 m_28 m_29 m_31 m_32 m_33 m_35 m_36 m_37 m_38 m_39 m_40 m_42)), ((r 2), .inl (E.2.2.1 0, 8, .inl r2_f)), ((r 3), .inl (E.2.2.1 0, 8, .inl r3_f))] 0 0 [(0, .ref m), (1, .int t), (2, .int d)] 13 [.int (tI t)]
    refine g_if_eq (tgt := 27) B dX11_pass_13 (by decide) (fun c13_3928 => ?_) (fun c13_3928 => ?_)
    · replace e_ := fun β k_ => (e_ β k_).trans (if_pos c13_3928)
      refine g_iconst (v := (-1)) B dX11_pass_27 (by decide) ?_
      exact g_iret B hr dX11_pass_28 (by decide) (by decide) ⟨m_4, r2_f, r3_f, (-1), (by first | assumption | omega | decide | exact hCF _ (by omega)), (Or.inr ⟨by unfold psOk; intro q; simp_all, rfl, rfl⟩), e_, rfl, rfl⟩
    · replace e_ := fun β k_ => (e_ β k_).trans (if_neg c13_3928)
      refine g_iload_n B dX11_pass_16 rfl 2 rfl ?_
      refine g_iconst (v := 1) B dX11_pass_17 (by decide) ?_
      refine g_icmp_lt (tgt := 27) B dX11_pass_18 (by decide) (fun c18_3929 => ?_) (fun c18_3929 => ?_)
      · replace e_ := fun β k_ => (e_ β k_).trans (if_pos c18_3929)
        refine g_iconst (v := (-1)) B dX11_pass_27 (by decide) ?_
        exact g_iret B hr dX11_pass_28 (by decide) (by decide) ⟨m_4, r2_f, r3_f, (-1), (by first | assumption | omega | decide | exact hCF _ (by omega)), (Or.inr ⟨by unfold psOk; intro q; simp_all, rfl, rfl⟩), e_, rfl, rfl⟩
      · replace e_ := fun β k_ => (e_ β k_).trans (if_neg c18_3929)
        refine g_iload_n B dX11_pass_21 rfl 2 rfl ?_
        refine g_bipush (v := 7) B dX11_pass_22 (by decide) ?_
        refine g_icmp_le (tgt := 29) B dX11_pass_24 (by decide) (fun c24_3930 => ?_) (fun c24_3930 => ?_)
        · replace e_ := fun β k_ => (e_ β k_).trans (if_pos c24_3930)
          refine g_aload_n B dX11_pass_29 rfl 0 rfl ?_
          refine g_get B 0 2 fl_X11_13 rfl mf_2 dX11_pass_30 ?_
          refine g_aload_n B dX11_pass_33 rfl 0 rfl ?_
          refine g_get B 0 4 fl_X11_271 rfl mf_4 dX11_pass_34 ?_
          refine g_iload_n B dX11_pass_37 rfl 1 rfl ?_
          refine g_iast (ws' := [(m, .inr (11, mkF r m_1 m_4 m_9 m_10 m_14 m_15 m_25 m_26 m_27 m_28 m_29 m_31 m_32 m_33 m_35 m_36 m_37 m_38 m_39 m_40 m_42)), ((r 2), .inl (E.2.2.1 0, 8, .inl (upd r2_f m_4 t))), ((r 3), .inl (E.2.2.1 0, 8, .inl r3_f))]) B 1 rfl (vp_in_nI (by omega) (by omega)) (by rw [nI_clamp (n := m_4) (by omega)]; rfl) dX11_pass_38 ?_
          refine g_aload_n B dX11_pass_39 rfl 0 rfl ?_
          refine g_get B 0 3 fl_X11_16 rfl mf_3 dX11_pass_40 ?_
          refine g_aload_n B dX11_pass_43 rfl 0 rfl ?_
          refine g_get B 0 4 fl_X11_271 rfl mf_4 dX11_pass_44 ?_
          refine g_iload_n B dX11_pass_47 rfl 2 rfl ?_
          refine g_iast (ws' := [(m, .inr (11, mkF r m_1 m_4 m_9 m_10 m_14 m_15 m_25 m_26 m_27 m_28 m_29 m_31 m_32 m_33 m_35 m_36 m_37 m_38 m_39 m_40 m_42)), ((r 2), .inl (E.2.2.1 0, 8, .inl (upd r2_f m_4 t))), ((r 3), .inl (E.2.2.1 0, 8, .inl (upd r3_f m_4 d)))]) B 2 rfl (vp_in_nI (by omega) (by omega)) (by rw [nI_clamp (n := m_4) (by omega)]; rfl) dX11_pass_48 ?_
          refine g_aload_n B dX11_pass_49 rfl 0 rfl ?_
          refine g_dup B dX11_pass_50 rfl ?_
          refine g_get B 0 4 fl_X11_271 rfl mf_4 dX11_pass_51 ?_
          refine g_iconst (v := 1) B dX11_pass_54 (by decide) ?_
          refine g_iadd B dX11_pass_55 ?_
          refine g_ri (x' := nI (m_4 + 1)) (nI_add m_4 1) ?_
          refine g_putM (ws' := [(m, .inr (11, mkF r m_1 (m_4 + 1) m_9 m_10 m_14 m_15 m_25 m_26 m_27 m_28 m_29 m_31 m_32 m_33 m_35 m_36 m_37 m_38 m_39 m_40 m_42)), ((r 2), .inl (E.2.2.1 0, 8, .inl (upd r2_f m_4 t))), ((r 3), .inl (E.2.2.1 0, 8, .inl (upd r3_f m_4 d)))]) (fs' := mkF r m_1 (m_4 + 1) m_9 m_10 m_14 m_15 m_25 m_26 m_27 m_28 m_29 m_31 m_32 m_33 m_35 m_36 m_37 m_38 m_39 m_40 m_42) B 0 4 fl_X11_271 pf_X11_4 rfl (mlt (by decide)) rfl rfl (ms_4 rfl) rfl dX11_pass_56 ?_
          refine g_aload_n B dX11_pass_59 rfl 0 rfl ?_
          refine g_get B 0 4 fl_X11_271 rfl mf_4 dX11_pass_60 ?_
          exact g_iret B hr dX11_pass_63 (by decide) (by decide) ⟨(m_4 + 1), (upd r2_f m_4 t), (upd r3_f m_4 d), (nI (m_4 + 1)), (by first | assumption | omega | decide | exact hCF _ (by omega)), (Or.inl ⟨⟨by omega, by assumption, by assumption, by assumption⟩, rfl, rfl⟩), e_, rfl, rfl⟩
        · replace e_ := fun β k_ => (e_ β k_).trans (if_neg c24_3930)
          refine g_iconst (v := (-1)) B dX11_pass_27 (by decide) ?_
          exact g_iret B hr dX11_pass_28 (by decide) (by decide) ⟨m_4, r2_f, r3_f, (-1), (by first | assumption | omega | decide | exact hCF _ (by omega)), (Or.inr ⟨by unfold psOk; intro q; simp_all, rfl, rfl⟩), e_, rfl, rfl⟩
abbrev MX11_unpass : g_M := (yX11_unpass, cX11_unpass, 2, (some .int))
theorem dX11_unpass_0 : decode cX11_unpass 0 = .ok (.aload_n 0, 1) := by decide +kernel
theorem dX11_unpass_1 : decode cX11_unpass 1 = .ok (.getfield 271, 3) := by decide +kernel
theorem dX11_unpass_4 : decode cX11_unpass 4 = .ok (.istore_n 1, 1) := by decide +kernel
theorem dX11_unpass_5 : decode cX11_unpass 5 = .ok (.aload_n 0, 1) := by decide +kernel
theorem dX11_unpass_6 : decode cX11_unpass 6 = .ok (.iconst 0, 1) := by decide +kernel
theorem dX11_unpass_7 : decode cX11_unpass 7 = .ok (.putfield 271, 3) := by decide +kernel
theorem dX11_unpass_10 : decode cX11_unpass 10 = .ok (.iload_n 1, 1) := by decide +kernel
theorem dX11_unpass_11 : decode cX11_unpass 11 = .ok (.ireturn, 1) := by decide +kernel
set_option maxRecDepth 100000 in
set_option maxHeartbeats 4000000 in
theorem wr_X11_unpass (E : g_E) (m : Nat) (r : Nat → Nat) (m_1 : Nat) (m_4 : Nat) (m_9 : Nat) (m_10 : Nat) (m_14 : Nat) (m_15 : Nat) (m_25 : Int32) (m_26 : Int32) (m_27 : Int64) (m_28 : Nat) (m_29 : Nat) (m_31 : Nat) (m_32 : Nat) (m_33 : Nat) (m_35 : Nat) (m_36 : Nat) (m_37 : Int32) (m_38 : Nat) (m_39 : Int32) (m_40 : Int32) (m_42 : Nat) (hb0 : m_4 ≤ 8) : Ev E MX11_unpass 0 0 0 0 [.ref m] [(m, .inr (11, mkF r m_1 m_4 m_9 m_10 m_14 m_15 m_25 m_26 m_27 m_28 m_29 m_31 m_32 m_33 m_35 m_36 m_37 m_38 m_39 m_40 m_42))] (fun v_ w_ => v_ = some (.int (nI m_4)) ∧ w_ = [(m, .inr (11, mkF r m_1 0 m_9 m_10 m_14 m_15 m_25 m_26 m_27 m_28 m_29 m_31 m_32 m_33 m_35 m_36 m_37 m_38 m_39 m_40 m_42))]) := by
  refine Ev.intro (by decide) (Nat.le_of_ble_eq_true rfl) ?_
  intro X B hr hI
  have B : Bd E X cX11_unpass RX11 2 0 0 0 0 := B
  have hr : Rt E X (some .int) 0 0 (fun v_ w_ => v_ = some (.int (nI m_4)) ∧ w_ = [(m, .inr (11, mkF r m_1 0 m_9 m_10 m_14 m_15 m_25 m_26 m_27 m_28 m_29 m_31 m_32 m_33 m_35 m_36 m_37 m_38 m_39 m_40 m_42))]) := hr
  show G E X 2 [(m, .inr (11, mkF r m_1 m_4 m_9 m_10 m_14 m_15 m_25 m_26 m_27 m_28 m_29 m_31 m_32 m_33 m_35 m_36 m_37 m_38 m_39 m_40 m_42))] 0 0 [(0, .ref m)] 0 []
  refine g_aload_n B dX11_unpass_0 rfl 0 rfl ?_
  refine g_get B 0 4 fl_X11_271 rfl mf_4 dX11_unpass_1 ?_
  refine g_istore_n (lv' := [(1, .int (nI m_4)), (0, .ref m)]) B dX11_unpass_4 rfl (by decide) rfl ?_
  refine g_aload_n B dX11_unpass_5 rfl 1 rfl ?_
  refine g_iconst (v := 0) B dX11_unpass_6 (by decide) ?_
  refine g_putM (ws' := [(m, .inr (11, mkF r m_1 0 m_9 m_10 m_14 m_15 m_25 m_26 m_27 m_28 m_29 m_31 m_32 m_33 m_35 m_36 m_37 m_38 m_39 m_40 m_42))]) (fs' := mkF r m_1 0 m_9 m_10 m_14 m_15 m_25 m_26 m_27 m_28 m_29 m_31 m_32 m_33 m_35 m_36 m_37 m_38 m_39 m_40 m_42) B 0 4 fl_X11_271 pf_X11_4 rfl (mlt (by decide)) rfl rfl (ms_4 (by decide)) rfl dX11_unpass_7 ?_
  refine g_iload_n B dX11_unpass_10 rfl 0 rfl ?_
  exact g_iret B hr dX11_unpass_11 (by decide) (by decide) ⟨rfl, rfl⟩
abbrev MX11_noWhich : g_M := (yX11_noWhich, cX11_noWhich, 1, (some .boolean))
theorem dX11_noWhich_0 : decode cX11_noWhich 0 = .ok (.iload_n 0, 1) := by decide +kernel
theorem dX11_noWhich_1 : decode cX11_noWhich 1 = .ok (.ifCond .eq 12, 3) := by decide +kernel
theorem dX11_noWhich_13 : decode cX11_noWhich 13 = .ok (.iconst 0, 1) := by decide +kernel
theorem dX11_noWhich_14 : decode cX11_noWhich 14 = .ok (.ireturn, 1) := by decide +kernel
set_option maxRecDepth 100000 in
set_option maxHeartbeats 4000000 in
theorem wr_X11_noWhich_0 (E : g_E)   : Ev E MX11_noWhich 0 0 0 0 [.int 0] [] (fun v_ w_ => v_ = some (.int 0) ∧ w_ = []) := by
  refine Ev.intro (by decide) (Nat.le_of_ble_eq_true rfl) ?_
  intro X B hr hI
  have B : Bd E X cX11_noWhich RX11 1 0 0 0 0 := B
  have hr : Rt E X (some .boolean) 0 0 (fun v_ w_ => v_ = some (.int 0) ∧ w_ = []) := hr
  show G E X 1 [] 0 0 [(0, .int 0)] 0 []
  refine g_iload_n B dX11_noWhich_0 rfl 0 rfl ?_
  refine g_if_eq (tgt := 13) B dX11_noWhich_1 (by decide) (fun c1 => ?_) (fun h => absurd (by decide) h)
  refine g_iconst (v := 0) B dX11_noWhich_13 (by decide) ?_
  exact g_zret B hr (by decide) dX11_noWhich_14 (by decide) (by decide) ⟨rfl, rfl⟩
theorem dX11_noWhich_4 : decode cX11_noWhich 4 = .ok (.iload_n 0, 1) := by decide +kernel
theorem dX11_noWhich_5 : decode cX11_noWhich 5 = .ok (.iconst 1, 1) := by decide +kernel
theorem dX11_noWhich_6 : decode cX11_noWhich 6 = .ok (.if_icmp .eq 7, 3) := by decide +kernel
set_option maxRecDepth 100000 in
set_option maxHeartbeats 4000000 in
theorem wr_X11_noWhich_1 (E : g_E)   : Ev E MX11_noWhich 0 0 0 0 [.int 1] [] (fun v_ w_ => v_ = some (.int 0) ∧ w_ = []) := by
  refine Ev.intro (by decide) (Nat.le_of_ble_eq_true rfl) ?_
  intro X B hr hI
  have B : Bd E X cX11_noWhich RX11 1 0 0 0 0 := B
  have hr : Rt E X (some .boolean) 0 0 (fun v_ w_ => v_ = some (.int 0) ∧ w_ = []) := hr
  show G E X 1 [] 0 0 [(0, .int 1)] 0 []
  refine g_iload_n B dX11_noWhich_0 rfl 0 rfl ?_
  refine g_if_eq (tgt := 13) B dX11_noWhich_1 (by decide) (fun h => absurd h (by decide)) (fun c1 => ?_)
  refine g_iload_n B dX11_noWhich_4 rfl 0 rfl ?_
  refine g_iconst (v := 1) B dX11_noWhich_5 (by decide) ?_
  refine g_icmp_eq (tgt := 13) B dX11_noWhich_6 (by decide) (fun c6 => ?_) (fun h => absurd (by decide) h)
  refine g_iconst (v := 0) B dX11_noWhich_13 (by decide) ?_
  exact g_zret B hr (by decide) dX11_noWhich_14 (by decide) (by decide) ⟨rfl, rfl⟩
theorem dX11_noWhich_9 : decode cX11_noWhich 9 = .ok (.iconst 1, 1) := by decide +kernel
theorem dX11_noWhich_10 : decode cX11_noWhich 10 = .ok (.goto 4, 3) := by decide +kernel
set_option maxRecDepth 100000 in
set_option maxHeartbeats 4000000 in
theorem wr_X11_noWhich_n (E : g_E) (wh : Int32) (h0 : ¬ wh = 0) (h1 : ¬ wh = 1) : Ev E MX11_noWhich 0 0 0 0 [.int wh] [] (fun v_ w_ => v_ = some (.int 1) ∧ w_ = []) := by
  refine Ev.intro (by decide) (Nat.le_of_ble_eq_true rfl) ?_
  intro X B hr hI
  have B : Bd E X cX11_noWhich RX11 1 0 0 0 0 := B
  have hr : Rt E X (some .boolean) 0 0 (fun v_ w_ => v_ = some (.int 1) ∧ w_ = []) := hr
  show G E X 1 [] 0 0 [(0, .int wh)] 0 []
  refine g_iload_n B dX11_noWhich_0 rfl 0 rfl ?_
  refine g_if_eq (tgt := 13) B dX11_noWhich_1 (by decide) (fun h => absurd h h0) (fun c1 => ?_)
  refine g_iload_n B dX11_noWhich_4 rfl 0 rfl ?_
  refine g_iconst (v := 1) B dX11_noWhich_5 (by decide) ?_
  refine g_icmp_eq (tgt := 13) B dX11_noWhich_6 (by decide) (fun h => absurd h h1) (fun c6 => ?_)
  refine g_iconst (v := 1) B dX11_noWhich_9 (by decide) ?_
  refine g_goto (tgt := 14) B dX11_noWhich_10 (by decide) ?_
  exact g_zret B hr (by decide) dX11_noWhich_14 (by decide) (by decide) ⟨rfl, rfl⟩
abbrev MX11_size : g_M := (yX11_size, cX11_size, 2, (some .int))
theorem dX11_size_0 : decode cX11_size 0 = .ok (.iload_n 1, 1) := by decide +kernel
theorem dX11_size_1 : decode cX11_size 1 = .ok (.ifCond .ne 10, 3) := by decide +kernel
theorem dX11_size_11 : decode cX11_size 11 = .ok (.iload_n 1, 1) := by decide +kernel
theorem dX11_size_12 : decode cX11_size 12 = .ok (.iconst 1, 1) := by decide +kernel
theorem dX11_size_13 : decode cX11_size 13 = .ok (.if_icmp .ne 10, 3) := by decide +kernel
theorem dX11_size_23 : decode cX11_size 23 = .ok (.iconst (-1), 1) := by decide +kernel
theorem dX11_size_24 : decode cX11_size 24 = .ok (.ireturn, 1) := by decide +kernel
set_option maxRecDepth 100000 in
set_option maxHeartbeats 4000000 in
theorem wr_X11_size_n (E : g_E) (m : Nat) (r : Nat → Nat) (m_1 : Nat) (m_4 : Nat) (m_9 : Nat) (m_10 : Nat) (m_14 : Nat) (m_15 : Nat) (m_25 : Int32) (m_26 : Int32) (m_27 : Int64) (m_28 : Nat) (m_29 : Nat) (m_31 : Nat) (m_32 : Nat) (m_33 : Nat) (m_35 : Nat) (m_36 : Nat) (m_37 : Int32) (m_38 : Nat) (m_39 : Int32) (m_40 : Int32) (m_42 : Nat) (wh : Int32) (h0 : ¬ wh = 0) (h1 : ¬ wh = 1) : Ev E MX11_size 0 0 0 0 [.ref m, .int wh] [(m, .inr (11, mkF r m_1 m_4 m_9 m_10 m_14 m_15 m_25 m_26 m_27 m_28 m_29 m_31 m_32 m_33 m_35 m_36 m_37 m_38 m_39 m_40 m_42))] (fun v_ w_ => v_ = some (.int (-1)) ∧ w_ = [(m, .inr (11, mkF r m_1 m_4 m_9 m_10 m_14 m_15 m_25 m_26 m_27 m_28 m_29 m_31 m_32 m_33 m_35 m_36 m_37 m_38 m_39 m_40 m_42))]) := by
  refine Ev.intro (by decide) (Nat.le_of_ble_eq_true rfl) ?_
  intro X B hr hI
  have B : Bd E X cX11_size RX11 2 0 0 0 0 := B
  have hr : Rt E X (some .int) 0 0 (fun v_ w_ => v_ = some (.int (-1)) ∧ w_ = [(m, .inr (11, mkF r m_1 m_4 m_9 m_10 m_14 m_15 m_25 m_26 m_27 m_28 m_29 m_31 m_32 m_33 m_35 m_36 m_37 m_38 m_39 m_40 m_42))]) := hr
  show G E X 2 [(m, .inr (11, mkF r m_1 m_4 m_9 m_10 m_14 m_15 m_25 m_26 m_27 m_28 m_29 m_31 m_32 m_33 m_35 m_36 m_37 m_38 m_39 m_40 m_42))] 0 0 [(0, .ref m), (1, .int wh)] 0 []
  refine g_iload_n B dX11_size_0 rfl 1 rfl ?_
  refine g_if_ne (tgt := 11) B dX11_size_1 (by decide) (fun c1 => ?_) (fun h => absurd h h0)
  refine g_iload_n B dX11_size_11 rfl 1 rfl ?_
  refine g_iconst (v := 1) B dX11_size_12 (by decide) ?_
  refine g_icmp_ne (tgt := 23) B dX11_size_13 (by decide) (fun c13 => ?_) (fun h => absurd h h1)
  refine g_iconst (v := (-1)) B dX11_size_23 (by decide) ?_
  exact g_iret B hr dX11_size_24 (by decide) (by decide) ⟨rfl, rfl⟩
theorem dX11_size_4 : decode cX11_size 4 = .ok (.aload_n 0, 1) := by decide +kernel
theorem dX11_size_5 : decode cX11_size 5 = .ok (.getfield 295, 3) := by decide +kernel
theorem dX11_size_8 : decode cX11_size 8 = .ok (.goto 16, 3) := by decide +kernel
set_option maxRecDepth 100000 in
set_option maxHeartbeats 4000000 in
theorem wr_X11_size_0 (E : g_E) (m : Nat) (r : Nat → Nat) (m_1 : Nat) (m_4 : Nat) (m_9 : Nat) (m_10 : Nat) (m_14 : Nat) (m_15 : Nat) (m_25 : Int32) (m_26 : Int32) (m_27 : Int64) (m_28 : Nat) (m_29 : Nat) (m_31 : Nat) (m_32 : Nat) (m_33 : Nat) (m_35 : Nat) (m_36 : Nat) (m_37 : Int32) (m_38 : Nat) (m_39 : Int32) (m_40 : Int32) (m_42 : Nat)  : Ev E MX11_size 0 0 0 0 [.ref m, .int 0] [(m, .inr (11, mkF r m_1 m_4 m_9 m_10 m_14 m_15 m_25 m_26 m_27 m_28 m_29 m_31 m_32 m_33 m_35 m_36 m_37 m_38 m_39 m_40 m_42))] (fun v_ w_ => v_ = some (.int (nI m_9)) ∧ w_ = [(m, .inr (11, mkF r m_1 m_4 m_9 m_10 m_14 m_15 m_25 m_26 m_27 m_28 m_29 m_31 m_32 m_33 m_35 m_36 m_37 m_38 m_39 m_40 m_42))]) := by
  refine Ev.intro (by decide) (Nat.le_of_ble_eq_true rfl) ?_
  intro X B hr hI
  have B : Bd E X cX11_size RX11 2 0 0 0 0 := B
  have hr : Rt E X (some .int) 0 0 (fun v_ w_ => v_ = some (.int (nI m_9)) ∧ w_ = [(m, .inr (11, mkF r m_1 m_4 m_9 m_10 m_14 m_15 m_25 m_26 m_27 m_28 m_29 m_31 m_32 m_33 m_35 m_36 m_37 m_38 m_39 m_40 m_42))]) := hr
  show G E X 2 [(m, .inr (11, mkF r m_1 m_4 m_9 m_10 m_14 m_15 m_25 m_26 m_27 m_28 m_29 m_31 m_32 m_33 m_35 m_36 m_37 m_38 m_39 m_40 m_42))] 0 0 [(0, .ref m), (1, .int 0)] 0 []
  refine g_iload_n B dX11_size_0 rfl 1 rfl ?_
  refine g_if_ne (tgt := 11) B dX11_size_1 (by decide) (fun h => absurd (by decide) h) (fun c1 => ?_)
  refine g_aload_n B dX11_size_4 rfl 0 rfl ?_
  refine g_get B 0 9 fl_X11_295 rfl mf_9 dX11_size_5 ?_
  refine g_goto (tgt := 24) B dX11_size_8 (by decide) ?_
  exact g_iret B hr dX11_size_24 (by decide) (by decide) ⟨rfl, rfl⟩
theorem dX11_size_16 : decode cX11_size 16 = .ok (.aload_n 0, 1) := by decide +kernel
theorem dX11_size_17 : decode cX11_size 17 = .ok (.getfield 298, 3) := by decide +kernel
theorem dX11_size_20 : decode cX11_size 20 = .ok (.goto 4, 3) := by decide +kernel
set_option maxRecDepth 100000 in
set_option maxHeartbeats 4000000 in
theorem wr_X11_size_1 (E : g_E) (m : Nat) (r : Nat → Nat) (m_1 : Nat) (m_4 : Nat) (m_9 : Nat) (m_10 : Nat) (m_14 : Nat) (m_15 : Nat) (m_25 : Int32) (m_26 : Int32) (m_27 : Int64) (m_28 : Nat) (m_29 : Nat) (m_31 : Nat) (m_32 : Nat) (m_33 : Nat) (m_35 : Nat) (m_36 : Nat) (m_37 : Int32) (m_38 : Nat) (m_39 : Int32) (m_40 : Int32) (m_42 : Nat)  : Ev E MX11_size 0 0 0 0 [.ref m, .int 1] [(m, .inr (11, mkF r m_1 m_4 m_9 m_10 m_14 m_15 m_25 m_26 m_27 m_28 m_29 m_31 m_32 m_33 m_35 m_36 m_37 m_38 m_39 m_40 m_42))] (fun v_ w_ => v_ = some (.int (nI m_10)) ∧ w_ = [(m, .inr (11, mkF r m_1 m_4 m_9 m_10 m_14 m_15 m_25 m_26 m_27 m_28 m_29 m_31 m_32 m_33 m_35 m_36 m_37 m_38 m_39 m_40 m_42))]) := by
  refine Ev.intro (by decide) (Nat.le_of_ble_eq_true rfl) ?_
  intro X B hr hI
  have B : Bd E X cX11_size RX11 2 0 0 0 0 := B
  have hr : Rt E X (some .int) 0 0 (fun v_ w_ => v_ = some (.int (nI m_10)) ∧ w_ = [(m, .inr (11, mkF r m_1 m_4 m_9 m_10 m_14 m_15 m_25 m_26 m_27 m_28 m_29 m_31 m_32 m_33 m_35 m_36 m_37 m_38 m_39 m_40 m_42))]) := hr
  show G E X 2 [(m, .inr (11, mkF r m_1 m_4 m_9 m_10 m_14 m_15 m_25 m_26 m_27 m_28 m_29 m_31 m_32 m_33 m_35 m_36 m_37 m_38 m_39 m_40 m_42))] 0 0 [(0, .ref m), (1, .int 1)] 0 []
  refine g_iload_n B dX11_size_0 rfl 1 rfl ?_
  refine g_if_ne (tgt := 11) B dX11_size_1 (by decide) (fun c1 => ?_) (fun h => absurd h (by decide))
  refine g_iload_n B dX11_size_11 rfl 1 rfl ?_
  refine g_iconst (v := 1) B dX11_size_12 (by decide) ?_
  refine g_icmp_ne (tgt := 23) B dX11_size_13 (by decide) (fun h => absurd (by decide) h) (fun c13 => ?_)
  refine g_aload_n B dX11_size_16 rfl 0 rfl ?_
  refine g_get B 0 10 fl_X11_298 rfl mf_10 dX11_size_17 ?_
  refine g_goto (tgt := 24) B dX11_size_20 (by decide) ?_
  exact g_iret B hr dX11_size_24 (by decide) (by decide) ⟨rfl, rfl⟩
abbrev MX11_out : g_M := (yX11_out, cX11_out, 3, (some .int))
theorem dX11_out_0 : decode cX11_out 0 = .ok (.iload_n 1, 1) := by decide +kernel
theorem dX11_out_1 : decode cX11_out 1 = .ok (.invokestatic 361, 3) := by decide +kernel
theorem w_ml_X11_361 : Cond.methodLink RX11 361 yX11_noWhich ∈ g_tbl := g_tbl_in 1281 (by decide +kernel) (by decide +kernel)
theorem w_cd_X11_noWhich : g_cw MX11_noWhich ∈ g_tbl := g_tbl_in 1283 (by decide +kernel) (by decide +kernel)
theorem cl_X11_361 : CL RX11 361 1 MX11_noWhich := ⟨w_ml_X11_361, w_cd_X11_noWhich, w_ini_X11, by decide +kernel, by decide +kernel, by decide +kernel⟩
theorem w_sm_X11_noWhich : Cond.static yX11_noWhich ∈ g_tbl := g_tbl_in 1282 (by decide +kernel) (by decide +kernel)
theorem dX11_out_4 : decode cX11_out 4 = .ok (.ifCond .ne 16, 3) := by decide +kernel
theorem dX11_out_20 : decode cX11_out 20 = .ok (.iconst (-1), 1) := by decide +kernel
theorem dX11_out_21 : decode cX11_out 21 = .ok (.ireturn, 1) := by decide +kernel
set_option maxRecDepth 100000 in
set_option maxHeartbeats 4000000 in
theorem wr_X11_out_n (E : g_E) (m : Nat) (r : Nat → Nat) (m_1 : Nat) (m_4 : Nat) (m_9 : Nat) (m_10 : Nat) (m_14 : Nat) (m_15 : Nat) (m_25 : Int32) (m_26 : Int32) (m_27 : Int64) (m_28 : Nat) (m_29 : Nat) (m_31 : Nat) (m_32 : Nat) (m_33 : Nat) (m_35 : Nat) (m_36 : Nat) (m_37 : Int32) (m_38 : Nat) (m_39 : Int32) (m_40 : Int32) (m_42 : Nat) (wh : Int32) (i : Int32) (h0 : ¬ wh = 0) (h1 : ¬ wh = 1) : Ev E MX11_out 1 21 0 0 [.ref m, .int wh, .int i] [(m, .inr (11, mkF r m_1 m_4 m_9 m_10 m_14 m_15 m_25 m_26 m_27 m_28 m_29 m_31 m_32 m_33 m_35 m_36 m_37 m_38 m_39 m_40 m_42))] (fun v_ w_ => v_ = some (.int (-1)) ∧ w_ = [(m, .inr (11, mkF r m_1 m_4 m_9 m_10 m_14 m_15 m_25 m_26 m_27 m_28 m_29 m_31 m_32 m_33 m_35 m_36 m_37 m_38 m_39 m_40 m_42))]) := by
  refine Ev.intro (by decide) (Nat.le_of_ble_eq_true rfl) ?_
  intro X B hr hI
  have B : Bd E X cX11_out RX11 3 1 21 0 0 := B
  have hr : Rt E X (some .int) 0 0 (fun v_ w_ => v_ = some (.int (-1)) ∧ w_ = [(m, .inr (11, mkF r m_1 m_4 m_9 m_10 m_14 m_15 m_25 m_26 m_27 m_28 m_29 m_31 m_32 m_33 m_35 m_36 m_37 m_38 m_39 m_40 m_42))]) := hr
  show G E X 3 [(m, .inr (11, mkF r m_1 m_4 m_9 m_10 m_14 m_15 m_25 m_26 m_27 m_28 m_29 m_31 m_32 m_33 m_35 m_36 m_37 m_38 m_39 m_40 m_42))] 0 0 [(0, .ref m), (1, .int wh), (2, .int i)] 0 []
  refine g_iload_n B dX11_out_0 rfl 1 rfl ?_
  refine g_callS (st := []) (As := [.int wh]) (wr := [(m, .inr (11, mkF r m_1 m_4 m_9 m_10 m_14 m_15 m_25 m_26 m_27 m_28 m_29 m_31 m_32 m_33 m_35 m_36 m_37 m_38 m_39 m_40 m_42))]) (nc' := 0) (ns' := 0) B cl_X11_361 w_sm_X11_noWhich (wr_X11_noWhich_n E wh (by first | assumption | omega | decide | exact hCF _ (by omega)) (by first | assumption | omega | decide | exact hCF _ (by omega))) rfl [] [0] rfl rfl (by decide) (by decide) (by decide) ⟨by decide, by decide⟩ rfl rfl (by decide) (by decide) rfl (Nat.le_of_ble_eq_true rfl) dX11_out_1 (fun v w hq => ?_)
  obtain ⟨rfl, rfl⟩ := hq
  show G E X 3 [(m, .inr (11, mkF r m_1 m_4 m_9 m_10 m_14 m_15 m_25 m_26 m_27 m_28 m_29 m_31 m_32 m_33 m_35 m_36 m_37 m_38 m_39 m_40 m_42))] 0 0 [(0, .ref m), (1, .int wh), (2, .int i)] 4 [.int 1]
  refine g_if_ne (tgt := 20) B dX11_out_4 (by decide) (fun c4 => ?_) (fun h => absurd h (by decide))
  refine g_iconst (v := (-1)) B dX11_out_20 (by decide) ?_
  exact g_iret B hr dX11_out_21 (by decide) (by decide) ⟨rfl, rfl⟩
abbrev MX11_feed : g_M := (yX11_feed, cX11_feed, 6, (some .int))
theorem dX11_feed_0 : decode cX11_feed 0 = .ok (.iload_n 1, 1) := by decide +kernel
theorem dX11_feed_1 : decode cX11_feed 1 = .ok (.invokestatic 361, 3) := by decide +kernel
theorem dX11_feed_4 : decode cX11_feed 4 = .ok (.ifCond .ne 18, 3) := by decide +kernel
theorem dX11_feed_22 : decode cX11_feed 22 = .ok (.iconst (-1), 1) := by decide +kernel
theorem dX11_feed_23 : decode cX11_feed 23 = .ok (.ireturn, 1) := by decide +kernel
set_option maxRecDepth 100000 in
set_option maxHeartbeats 4000000 in
theorem wr_X11_feed_n (E : g_E) (m : Nat) (r : Nat → Nat) (m_1 : Nat) (m_4 : Nat) (m_9 : Nat) (m_10 : Nat) (m_14 : Nat) (m_15 : Nat) (m_25 : Int32) (m_26 : Int32) (m_27 : Int64) (m_28 : Nat) (m_29 : Nat) (m_31 : Nat) (m_32 : Nat) (m_33 : Nat) (m_35 : Nat) (m_36 : Nat) (m_37 : Int32) (m_38 : Nat) (m_39 : Int32) (m_40 : Int32) (m_42 : Nat) (wh : Int32) (a1 : Int32) (a2 : Int32) (a3 : Int32) (h0 : ¬ wh = 0) (h1 : ¬ wh = 1) : Ev E MX11_feed 1 23 0 0 [.ref m, .int wh, .int a1, .int a2, .int a3] [(m, .inr (11, mkF r m_1 m_4 m_9 m_10 m_14 m_15 m_25 m_26 m_27 m_28 m_29 m_31 m_32 m_33 m_35 m_36 m_37 m_38 m_39 m_40 m_42))] (fun v_ w_ => v_ = some (.int (-1)) ∧ w_ = [(m, .inr (11, mkF r m_1 m_4 m_9 m_10 m_14 m_15 m_25 m_26 m_27 m_28 m_29 m_31 m_32 m_33 m_35 m_36 m_37 m_38 m_39 m_40 m_42))]) := by
  refine Ev.intro (by decide) (Nat.le_of_ble_eq_true rfl) ?_
  intro X B hr hI
  have B : Bd E X cX11_feed RX11 6 1 23 0 0 := B
  have hr : Rt E X (some .int) 0 0 (fun v_ w_ => v_ = some (.int (-1)) ∧ w_ = [(m, .inr (11, mkF r m_1 m_4 m_9 m_10 m_14 m_15 m_25 m_26 m_27 m_28 m_29 m_31 m_32 m_33 m_35 m_36 m_37 m_38 m_39 m_40 m_42))]) := hr
  show G E X 6 [(m, .inr (11, mkF r m_1 m_4 m_9 m_10 m_14 m_15 m_25 m_26 m_27 m_28 m_29 m_31 m_32 m_33 m_35 m_36 m_37 m_38 m_39 m_40 m_42))] 0 0 [(0, .ref m), (1, .int wh), (2, .int a1), (3, .int a2), (4, .int a3)] 0 []
  refine g_iload_n B dX11_feed_0 rfl 1 rfl ?_
  refine g_callS (st := []) (As := [.int wh]) (wr := [(m, .inr (11, mkF r m_1 m_4 m_9 m_10 m_14 m_15 m_25 m_26 m_27 m_28 m_29 m_31 m_32 m_33 m_35 m_36 m_37 m_38 m_39 m_40 m_42))]) (nc' := 0) (ns' := 0) B cl_X11_361 w_sm_X11_noWhich (wr_X11_noWhich_n E wh (by first | assumption | omega | decide | exact hCF _ (by omega)) (by first | assumption | omega | decide | exact hCF _ (by omega))) rfl [] [0] rfl rfl (by decide) (by decide) (by decide) ⟨by decide, by decide⟩ rfl rfl (by decide) (by decide) rfl (Nat.le_of_ble_eq_true rfl) dX11_feed_1 (fun v w hq => ?_)
  obtain ⟨rfl, rfl⟩ := hq
  show G E X 6 [(m, .inr (11, mkF r m_1 m_4 m_9 m_10 m_14 m_15 m_25 m_26 m_27 m_28 m_29 m_31 m_32 m_33 m_35 m_36 m_37 m_38 m_39 m_40 m_42))] 0 0 [(0, .ref m), (1, .int wh), (2, .int a1), (3, .int a2), (4, .int a3)] 4 [.int 1]
  refine g_if_ne (tgt := 22) B dX11_feed_4 (by decide) (fun c4 => ?_) (fun h => absurd h (by decide))
  refine g_iconst (v := (-1)) B dX11_feed_22 (by decide) ?_
  exact g_iret B hr dX11_feed_23 (by decide) (by decide) ⟨rfl, rfl⟩
abbrev MX11_take : g_M := (yX11_take, cX11_take, 3, (some .int))
theorem dX11_take_0 : decode cX11_take 0 = .ok (.iload_n 1, 1) := by decide +kernel
theorem dX11_take_1 : decode cX11_take 1 = .ok (.invokestatic 361, 3) := by decide +kernel
theorem dX11_take_4 : decode cX11_take 4 = .ok (.ifCond .ne 14, 3) := by decide +kernel
theorem dX11_take_18 : decode cX11_take 18 = .ok (.iconst (-1), 1) := by decide +kernel
theorem dX11_take_19 : decode cX11_take 19 = .ok (.ireturn, 1) := by decide +kernel
set_option maxRecDepth 100000 in
set_option maxHeartbeats 4000000 in
theorem wr_X11_take_n (E : g_E) (m : Nat) (r : Nat → Nat) (m_1 : Nat) (m_4 : Nat) (m_9 : Nat) (m_10 : Nat) (m_14 : Nat) (m_15 : Nat) (m_25 : Int32) (m_26 : Int32) (m_27 : Int64) (m_28 : Nat) (m_29 : Nat) (m_31 : Nat) (m_32 : Nat) (m_33 : Nat) (m_35 : Nat) (m_36 : Nat) (m_37 : Int32) (m_38 : Nat) (m_39 : Int32) (m_40 : Int32) (m_42 : Nat) (wh : Int32) (h0 : ¬ wh = 0) (h1 : ¬ wh = 1) : Ev E MX11_take 1 21 0 0 [.ref m, .int wh] [(m, .inr (11, mkF r m_1 m_4 m_9 m_10 m_14 m_15 m_25 m_26 m_27 m_28 m_29 m_31 m_32 m_33 m_35 m_36 m_37 m_38 m_39 m_40 m_42))] (fun v_ w_ => v_ = some (.int (-1)) ∧ w_ = [(m, .inr (11, mkF r m_1 m_4 m_9 m_10 m_14 m_15 m_25 m_26 m_27 m_28 m_29 m_31 m_32 m_33 m_35 m_36 m_37 m_38 m_39 m_40 m_42))]) := by
  refine Ev.intro (by decide) (Nat.le_of_ble_eq_true rfl) ?_
  intro X B hr hI
  have B : Bd E X cX11_take RX11 3 1 21 0 0 := B
  have hr : Rt E X (some .int) 0 0 (fun v_ w_ => v_ = some (.int (-1)) ∧ w_ = [(m, .inr (11, mkF r m_1 m_4 m_9 m_10 m_14 m_15 m_25 m_26 m_27 m_28 m_29 m_31 m_32 m_33 m_35 m_36 m_37 m_38 m_39 m_40 m_42))]) := hr
  show G E X 3 [(m, .inr (11, mkF r m_1 m_4 m_9 m_10 m_14 m_15 m_25 m_26 m_27 m_28 m_29 m_31 m_32 m_33 m_35 m_36 m_37 m_38 m_39 m_40 m_42))] 0 0 [(0, .ref m), (1, .int wh)] 0 []
  refine g_iload_n B dX11_take_0 rfl 1 rfl ?_
  refine g_callS (st := []) (As := [.int wh]) (wr := [(m, .inr (11, mkF r m_1 m_4 m_9 m_10 m_14 m_15 m_25 m_26 m_27 m_28 m_29 m_31 m_32 m_33 m_35 m_36 m_37 m_38 m_39 m_40 m_42))]) (nc' := 0) (ns' := 0) B cl_X11_361 w_sm_X11_noWhich (wr_X11_noWhich_n E wh (by first | assumption | omega | decide | exact hCF _ (by omega)) (by first | assumption | omega | decide | exact hCF _ (by omega))) rfl [] [0] rfl rfl (by decide) (by decide) (by decide) ⟨by decide, by decide⟩ rfl rfl (by decide) (by decide) rfl (Nat.le_of_ble_eq_true rfl) dX11_take_1 (fun v w hq => ?_)
  obtain ⟨rfl, rfl⟩ := hq
  show G E X 3 [(m, .inr (11, mkF r m_1 m_4 m_9 m_10 m_14 m_15 m_25 m_26 m_27 m_28 m_29 m_31 m_32 m_33 m_35 m_36 m_37 m_38 m_39 m_40 m_42))] 0 0 [(0, .ref m), (1, .int wh)] 4 [.int 1]
  refine g_if_ne (tgt := 18) B dX11_take_4 (by decide) (fun c4 => ?_) (fun h => absurd h (by decide))
  refine g_iconst (v := (-1)) B dX11_take_18 (by decide) ?_
  exact g_iret B hr dX11_take_19 (by decide) (by decide) ⟨rfl, rfl⟩
abbrev MX11_end : g_M := (yX11_end, cX11_end, 3, (some .boolean))
theorem dX11_end_0 : decode cX11_end 0 = .ok (.iload_n 1, 1) := by decide +kernel
theorem dX11_end_1 : decode cX11_end 1 = .ok (.invokestatic 361, 3) := by decide +kernel
theorem dX11_end_4 : decode cX11_end 4 = .ok (.ifCond .ne 17, 3) := by decide +kernel
theorem dX11_end_21 : decode cX11_end 21 = .ok (.iconst 0, 1) := by decide +kernel
theorem dX11_end_22 : decode cX11_end 22 = .ok (.ireturn, 1) := by decide +kernel
set_option maxRecDepth 100000 in
set_option maxHeartbeats 4000000 in
theorem wr_X11_end_n (E : g_E) (m : Nat) (r : Nat → Nat) (m_1 : Nat) (m_4 : Nat) (m_9 : Nat) (m_10 : Nat) (m_14 : Nat) (m_15 : Nat) (m_25 : Int32) (m_26 : Int32) (m_27 : Int64) (m_28 : Nat) (m_29 : Nat) (m_31 : Nat) (m_32 : Nat) (m_33 : Nat) (m_35 : Nat) (m_36 : Nat) (m_37 : Int32) (m_38 : Nat) (m_39 : Int32) (m_40 : Int32) (m_42 : Nat) (wh : Int32) (n : Int32) (h0 : ¬ wh = 0) (h1 : ¬ wh = 1) : Ev E MX11_end 1 20 0 0 [.ref m, .int wh, .int n] [(m, .inr (11, mkF r m_1 m_4 m_9 m_10 m_14 m_15 m_25 m_26 m_27 m_28 m_29 m_31 m_32 m_33 m_35 m_36 m_37 m_38 m_39 m_40 m_42))] (fun v_ w_ => v_ = some (.int 0) ∧ w_ = [(m, .inr (11, mkF r m_1 m_4 m_9 m_10 m_14 m_15 m_25 m_26 m_27 m_28 m_29 m_31 m_32 m_33 m_35 m_36 m_37 m_38 m_39 m_40 m_42))]) := by
  refine Ev.intro (by decide) (Nat.le_of_ble_eq_true rfl) ?_
  intro X B hr hI
  have B : Bd E X cX11_end RX11 3 1 20 0 0 := B
  have hr : Rt E X (some .boolean) 0 0 (fun v_ w_ => v_ = some (.int 0) ∧ w_ = [(m, .inr (11, mkF r m_1 m_4 m_9 m_10 m_14 m_15 m_25 m_26 m_27 m_28 m_29 m_31 m_32 m_33 m_35 m_36 m_37 m_38 m_39 m_40 m_42))]) := hr
  show G E X 3 [(m, .inr (11, mkF r m_1 m_4 m_9 m_10 m_14 m_15 m_25 m_26 m_27 m_28 m_29 m_31 m_32 m_33 m_35 m_36 m_37 m_38 m_39 m_40 m_42))] 0 0 [(0, .ref m), (1, .int wh), (2, .int n)] 0 []
  refine g_iload_n B dX11_end_0 rfl 1 rfl ?_
  refine g_callS (st := []) (As := [.int wh]) (wr := [(m, .inr (11, mkF r m_1 m_4 m_9 m_10 m_14 m_15 m_25 m_26 m_27 m_28 m_29 m_31 m_32 m_33 m_35 m_36 m_37 m_38 m_39 m_40 m_42))]) (nc' := 0) (ns' := 0) B cl_X11_361 w_sm_X11_noWhich (wr_X11_noWhich_n E wh (by first | assumption | omega | decide | exact hCF _ (by omega)) (by first | assumption | omega | decide | exact hCF _ (by omega))) rfl [] [0] rfl rfl (by decide) (by decide) (by decide) ⟨by decide, by decide⟩ rfl rfl (by decide) (by decide) rfl (Nat.le_of_ble_eq_true rfl) dX11_end_1 (fun v w hq => ?_)
  obtain ⟨rfl, rfl⟩ := hq
  show G E X 3 [(m, .inr (11, mkF r m_1 m_4 m_9 m_10 m_14 m_15 m_25 m_26 m_27 m_28 m_29 m_31 m_32 m_33 m_35 m_36 m_37 m_38 m_39 m_40 m_42))] 0 0 [(0, .ref m), (1, .int wh), (2, .int n)] 4 [.int 1]
  refine g_if_ne (tgt := 21) B dX11_end_4 (by decide) (fun c4 => ?_) (fun h => absurd h (by decide))
  refine g_iconst (v := 0) B dX11_end_21 (by decide) ?_
  exact g_zret B hr (by decide) dX11_end_22 (by decide) (by decide) ⟨rfl, rfl⟩
abbrev MX11_harm : g_M := (yX11_harm, cX11_harm, 4, (some .boolean))
theorem dX11_harm_0 : decode cX11_harm 0 = .ok (.iload_n 1, 1) := by decide +kernel
theorem dX11_harm_1 : decode cX11_harm 1 = .ok (.invokestatic 361, 3) := by decide +kernel
theorem dX11_harm_4 : decode cX11_harm 4 = .ok (.ifCond .ne 17, 3) := by decide +kernel
theorem dX11_harm_21 : decode cX11_harm 21 = .ok (.iconst 0, 1) := by decide +kernel
theorem dX11_harm_22 : decode cX11_harm 22 = .ok (.ireturn, 1) := by decide +kernel
set_option maxRecDepth 100000 in
set_option maxHeartbeats 4000000 in
theorem wr_X11_harm_n (E : g_E) (m : Nat) (r : Nat → Nat) (m_1 : Nat) (m_4 : Nat) (m_9 : Nat) (m_10 : Nat) (m_14 : Nat) (m_15 : Nat) (m_25 : Int32) (m_26 : Int32) (m_27 : Int64) (m_28 : Nat) (m_29 : Nat) (m_31 : Nat) (m_32 : Nat) (m_33 : Nat) (m_35 : Nat) (m_36 : Nat) (m_37 : Int32) (m_38 : Nat) (m_39 : Int32) (m_40 : Int32) (m_42 : Nat) (wh : Int32) (i : Int32) (b : Int32) (h0 : ¬ wh = 0) (h1 : ¬ wh = 1) : Ev E MX11_harm 1 20 0 0 [.ref m, .int wh, .int i, .int b] [(m, .inr (11, mkF r m_1 m_4 m_9 m_10 m_14 m_15 m_25 m_26 m_27 m_28 m_29 m_31 m_32 m_33 m_35 m_36 m_37 m_38 m_39 m_40 m_42))] (fun v_ w_ => v_ = some (.int 0) ∧ w_ = [(m, .inr (11, mkF r m_1 m_4 m_9 m_10 m_14 m_15 m_25 m_26 m_27 m_28 m_29 m_31 m_32 m_33 m_35 m_36 m_37 m_38 m_39 m_40 m_42))]) := by
  refine Ev.intro (by decide) (Nat.le_of_ble_eq_true rfl) ?_
  intro X B hr hI
  have B : Bd E X cX11_harm RX11 4 1 20 0 0 := B
  have hr : Rt E X (some .boolean) 0 0 (fun v_ w_ => v_ = some (.int 0) ∧ w_ = [(m, .inr (11, mkF r m_1 m_4 m_9 m_10 m_14 m_15 m_25 m_26 m_27 m_28 m_29 m_31 m_32 m_33 m_35 m_36 m_37 m_38 m_39 m_40 m_42))]) := hr
  show G E X 4 [(m, .inr (11, mkF r m_1 m_4 m_9 m_10 m_14 m_15 m_25 m_26 m_27 m_28 m_29 m_31 m_32 m_33 m_35 m_36 m_37 m_38 m_39 m_40 m_42))] 0 0 [(0, .ref m), (1, .int wh), (2, .int i), (3, .int b)] 0 []
  refine g_iload_n B dX11_harm_0 rfl 1 rfl ?_
  refine g_callS (st := []) (As := [.int wh]) (wr := [(m, .inr (11, mkF r m_1 m_4 m_9 m_10 m_14 m_15 m_25 m_26 m_27 m_28 m_29 m_31 m_32 m_33 m_35 m_36 m_37 m_38 m_39 m_40 m_42))]) (nc' := 0) (ns' := 0) B cl_X11_361 w_sm_X11_noWhich (wr_X11_noWhich_n E wh (by first | assumption | omega | decide | exact hCF _ (by omega)) (by first | assumption | omega | decide | exact hCF _ (by omega))) rfl [] [0] rfl rfl (by decide) (by decide) (by decide) ⟨by decide, by decide⟩ rfl rfl (by decide) (by decide) rfl (Nat.le_of_ble_eq_true rfl) dX11_harm_1 (fun v w hq => ?_)
  obtain ⟨rfl, rfl⟩ := hq
  show G E X 4 [(m, .inr (11, mkF r m_1 m_4 m_9 m_10 m_14 m_15 m_25 m_26 m_27 m_28 m_29 m_31 m_32 m_33 m_35 m_36 m_37 m_38 m_39 m_40 m_42))] 0 0 [(0, .ref m), (1, .int wh), (2, .int i), (3, .int b)] 4 [.int 1]
  refine g_if_ne (tgt := 21) B dX11_harm_4 (by decide) (fun c4 => ?_) (fun h => absurd h (by decide))
  refine g_iconst (v := 0) B dX11_harm_21 (by decide) ?_
  exact g_zret B hr (by decide) dX11_harm_22 (by decide) (by decide) ⟨rfl, rfl⟩
abbrev MX11_seal : g_M := (yX11_seal, cX11_seal, 3, (some .boolean))
theorem dX11_seal_0 : decode cX11_seal 0 = .ok (.iload_n 1, 1) := by decide +kernel
theorem dX11_seal_1 : decode cX11_seal 1 = .ok (.invokestatic 361, 3) := by decide +kernel
theorem dX11_seal_4 : decode cX11_seal 4 = .ok (.ifCond .ne 13, 3) := by decide +kernel
theorem dX11_seal_17 : decode cX11_seal 17 = .ok (.iconst 0, 1) := by decide +kernel
theorem dX11_seal_18 : decode cX11_seal 18 = .ok (.ireturn, 1) := by decide +kernel
set_option maxRecDepth 100000 in
set_option maxHeartbeats 4000000 in
theorem wr_X11_seal_n (E : g_E) (m : Nat) (r : Nat → Nat) (m_1 : Nat) (m_4 : Nat) (m_9 : Nat) (m_10 : Nat) (m_14 : Nat) (m_15 : Nat) (m_25 : Int32) (m_26 : Int32) (m_27 : Int64) (m_28 : Nat) (m_29 : Nat) (m_31 : Nat) (m_32 : Nat) (m_33 : Nat) (m_35 : Nat) (m_36 : Nat) (m_37 : Int32) (m_38 : Nat) (m_39 : Int32) (m_40 : Int32) (m_42 : Nat) (wh : Int32) (h0 : ¬ wh = 0) (h1 : ¬ wh = 1) : Ev E MX11_seal 1 25 0 0 [.ref m, .int wh] [(m, .inr (11, mkF r m_1 m_4 m_9 m_10 m_14 m_15 m_25 m_26 m_27 m_28 m_29 m_31 m_32 m_33 m_35 m_36 m_37 m_38 m_39 m_40 m_42))] (fun v_ w_ => v_ = some (.int 0) ∧ w_ = [(m, .inr (11, mkF r m_1 m_4 m_9 m_10 m_14 m_15 m_25 m_26 m_27 m_28 m_29 m_31 m_32 m_33 m_35 m_36 m_37 m_38 m_39 m_40 m_42))]) := by
  refine Ev.intro (by decide) (Nat.le_of_ble_eq_true rfl) ?_
  intro X B hr hI
  have B : Bd E X cX11_seal RX11 3 1 25 0 0 := B
  have hr : Rt E X (some .boolean) 0 0 (fun v_ w_ => v_ = some (.int 0) ∧ w_ = [(m, .inr (11, mkF r m_1 m_4 m_9 m_10 m_14 m_15 m_25 m_26 m_27 m_28 m_29 m_31 m_32 m_33 m_35 m_36 m_37 m_38 m_39 m_40 m_42))]) := hr
  show G E X 3 [(m, .inr (11, mkF r m_1 m_4 m_9 m_10 m_14 m_15 m_25 m_26 m_27 m_28 m_29 m_31 m_32 m_33 m_35 m_36 m_37 m_38 m_39 m_40 m_42))] 0 0 [(0, .ref m), (1, .int wh)] 0 []
  refine g_iload_n B dX11_seal_0 rfl 1 rfl ?_
  refine g_callS (st := []) (As := [.int wh]) (wr := [(m, .inr (11, mkF r m_1 m_4 m_9 m_10 m_14 m_15 m_25 m_26 m_27 m_28 m_29 m_31 m_32 m_33 m_35 m_36 m_37 m_38 m_39 m_40 m_42))]) (nc' := 0) (ns' := 0) B cl_X11_361 w_sm_X11_noWhich (wr_X11_noWhich_n E wh (by first | assumption | omega | decide | exact hCF _ (by omega)) (by first | assumption | omega | decide | exact hCF _ (by omega))) rfl [] [0] rfl rfl (by decide) (by decide) (by decide) ⟨by decide, by decide⟩ rfl rfl (by decide) (by decide) rfl (Nat.le_of_ble_eq_true rfl) dX11_seal_1 (fun v w hq => ?_)
  obtain ⟨rfl, rfl⟩ := hq
  show G E X 3 [(m, .inr (11, mkF r m_1 m_4 m_9 m_10 m_14 m_15 m_25 m_26 m_27 m_28 m_29 m_31 m_32 m_33 m_35 m_36 m_37 m_38 m_39 m_40 m_42))] 0 0 [(0, .ref m), (1, .int wh)] 4 [.int 1]
  refine g_if_ne (tgt := 17) B dX11_seal_4 (by decide) (fun c4 => ?_) (fun h => absurd h (by decide))
  refine g_iconst (v := 0) B dX11_seal_17 (by decide) ?_
  exact g_zret B hr (by decide) dX11_seal_18 (by decide) (by decide) ⟨rfl, rfl⟩
theorem dX11_out_7 : decode cX11_out 7 = .ok (.iload_n 2, 1) := by decide +kernel
theorem dX11_out_8 : decode cX11_out 8 = .ok (.ifCond .lt 12, 3) := by decide +kernel
theorem dX11_out_11 : decode cX11_out 11 = .ok (.iload_n 2, 1) := by decide +kernel
theorem dX11_out_12 : decode cX11_out 12 = .ok (.aload_n 0, 1) := by decide +kernel
theorem dX11_out_13 : decode cX11_out 13 = .ok (.iload_n 1, 1) := by decide +kernel
theorem dX11_out_14 : decode cX11_out 14 = .ok (.invokevirtual 364, 3) := by decide +kernel
theorem w_ml_X11_364 : Cond.methodLink RX11 364 yX11_size ∈ g_tbl := g_tbl_in 1284 (by decide +kernel) (by decide +kernel)
theorem w_cd_X11_size : g_cw MX11_size ∈ g_tbl := g_tbl_in 1276 (by decide +kernel) (by decide +kernel)
theorem cl_X11_364 : CL RX11 364 1 MX11_size := ⟨w_ml_X11_364, w_cd_X11_size, w_ini_X11, by decide +kernel, by decide +kernel, by decide +kernel⟩
theorem w_im_X11_size : Cond.instanceMethod yX11_size ∈ g_tbl := g_tbl_in 1274 (by decide +kernel) (by decide +kernel)
theorem w_se_X11_size : Cond.selects RX11 yX11_size yX11_size ∈ g_tbl := g_tbl_in 1275 (by decide +kernel) (by decide +kernel)
theorem dX11_out_17 : decode cX11_out 17 = .ok (.if_icmp .lt 5, 3) := by decide +kernel
theorem dX11_out_22 : decode cX11_out 22 = .ok (.iload_n 1, 1) := by decide +kernel
theorem dX11_out_23 : decode cX11_out 23 = .ok (.ifCond .ne 12, 3) := by decide +kernel
theorem dX11_out_26 : decode cX11_out 26 = .ok (.aload_n 0, 1) := by decide +kernel
theorem dX11_out_27 : decode cX11_out 27 = .ok (.getfield 26, 3) := by decide +kernel
theorem dX11_out_30 : decode cX11_out 30 = .ok (.iload_n 2, 1) := by decide +kernel
theorem dX11_out_31 : decode cX11_out 31 = .ok (.baload, 1) := by decide +kernel
theorem dX11_out_32 : decode cX11_out 32 = .ok (.goto 9, 3) := by decide +kernel
theorem dX11_out_41 : decode cX11_out 41 = .ok (.sipush 255, 3) := by decide +kernel
theorem dX11_out_44 : decode cX11_out 44 = .ok (.iand, 1) := by decide +kernel
theorem dX11_out_45 : decode cX11_out 45 = .ok (.ireturn, 1) := by decide +kernel
set_option maxRecDepth 100000 in
def fn_wr_X11_out_0 (m_9 : Nat) (r7_f : Nat → Int32) (i : Int32) (β : Type) (k_ : Int32 → β) : β := (if i < 0 then (k_ (-1)) else (if i < nI m_9 then (fnL (Int32.toNatClampNeg i) (fun j_3941 => (k_ (nI (((nb r7_f j_3941)).toBitVec.toNat % 256))))) else (k_ (-1))))
set_option maxRecDepth 100000 in
theorem fn_wr_X11_out_0_s {m_9 : Nat} {r7_f : Nat → Int32} {i : Int32} {β : Type} {k_ : Int32 → β} : fn_wr_X11_out_0 m_9 r7_f i β k_ = (if i < 0 then (k_ (-1)) else (if i < nI m_9 then (fnL (Int32.toNatClampNeg i) (fun j_3941 => (k_ (nI (((nb r7_f j_3941)).toBitVec.toNat % 256))))) else (k_ (-1)))) := rfl
set_option maxRecDepth 100000 in
set_option maxHeartbeats 4000000 in
theorem wr_X11_out_0 (E : g_E) (m : Nat) (r : Nat → Nat) (m_1 : Nat) (m_4 : Nat) (m_9 : Nat) (m_10 : Nat) (m_14 : Nat) (m_15 : Nat) (m_25 : Int32) (m_26 : Int32) (m_27 : Int64) (m_28 : Nat) (m_29 : Nat) (m_31 : Nat) (m_32 : Nat) (m_33 : Nat) (m_35 : Nat) (m_36 : Nat) (m_37 : Int32) (m_38 : Nat) (m_39 : Int32) (m_40 : Int32) (m_42 : Nat) (r7_f : Nat → Int32) (i : Int32) (hb0 : m_9 ≤ 20000) : Ev E MX11_out 1 21 0 0 [.ref m, .int 0, .int i] [(m, .inr (11, mkF r m_1 m_4 m_9 m_10 m_14 m_15 m_25 m_26 m_27 m_28 m_29 m_31 m_32 m_33 m_35 m_36 m_37 m_38 m_39 m_40 m_42)), ((r 7), .inl (E.2.2.1 1, 20000, .inl (nb r7_f)))] (fun v_ w_ => ∃ zr : Int32, (∀ (β : Type) (k_ : Int32 → β), fn_wr_X11_out_0 m_9 r7_f i β k_ = k_ zr) ∧ v_ = some (.int zr) ∧ w_ = [(m, .inr (11, mkF r m_1 m_4 m_9 m_10 m_14 m_15 m_25 m_26 m_27 m_28 m_29 m_31 m_32 m_33 m_35 m_36 m_37 m_38 m_39 m_40 m_42)), ((r 7), .inl (E.2.2.1 1, 20000, .inl (nb r7_f)))]) := by
  refine Ev.intro (by decide) (Nat.le_of_ble_eq_true rfl) ?_
  intro X B hr hI
  have B : Bd E X cX11_out RX11 3 1 21 0 0 := B
  have hr : Rt E X (some .int) 0 0 (fun v_ w_ => ∃ zr : Int32, (∀ (β : Type) (k_ : Int32 → β), fn_wr_X11_out_0 m_9 r7_f i β k_ = k_ zr) ∧ v_ = some (.int zr) ∧ w_ = [(m, .inr (11, mkF r m_1 m_4 m_9 m_10 m_14 m_15 m_25 m_26 m_27 m_28 m_29 m_31 m_32 m_33 m_35 m_36 m_37 m_38 m_39 m_40 m_42)), ((r 7), .inl (E.2.2.1 1, 20000, .inl (nb r7_f)))]) := hr
  have e_ := fun (β : Type) (k_ : Int32 → β) => fn_wr_X11_out_0_s (β := β) (k_ := k_) (m_9 := m_9) (r7_f := r7_f) (i := i)
  show G E X 3 [(m, .inr (11, mkF r m_1 m_4 m_9 m_10 m_14 m_15 m_25 m_26 m_27 m_28 m_29 m_31 m_32 m_33 m_35 m_36 m_37 m_38 m_39 m_40 m_42)), ((r 7), .inl (E.2.2.1 1, 20000, .inl (nb r7_f)))] 0 0 [(0, .ref m), (1, .int 0), (2, .int i)] 0 []
  refine g_iload_n B dX11_out_0 rfl 1 rfl ?_
  refine g_callS (st := []) (As := [.int 0]) (wr := [(m, .inr (11, mkF r m_1 m_4 m_9 m_10 m_14 m_15 m_25 m_26 m_27 m_28 m_29 m_31 m_32 m_33 m_35 m_36 m_37 m_38 m_39 m_40 m_42)), ((r 7), .inl (E.2.2.1 1, 20000, .inl (nb r7_f)))]) (nc' := 0) (ns' := 0) B cl_X11_361 w_sm_X11_noWhich (wr_X11_noWhich_0 E ) rfl [] [0, 1] rfl rfl (by decide) (by decide) (by decide) ⟨by decide, by decide⟩ rfl rfl (by decide) (by decide) rfl (Nat.le_of_ble_eq_true rfl) dX11_out_1 (fun v w hq => ?_)
  obtain ⟨rfl, rfl⟩ := hq
  show G E X 3 [(m, .inr (11, mkF r m_1 m_4 m_9 m_10 m_14 m_15 m_25 m_26 m_27 m_28 m_29 m_31 m_32 m_33 m_35 m_36 m_37 m_38 m_39 m_40 m_42)), ((r 7), .inl (E.2.2.1 1, 20000, .inl (nb r7_f)))] 0 0 [(0, .ref m), (1, .int 0), (2, .int i)] 4 [.int 0]
  refine g_if_ne (tgt := 20) B dX11_out_4 (by decide) (fun h => absurd (by decide) h) (fun c4 => ?_)
  refine g_iload_n B dX11_out_7 rfl 2 rfl ?_
  refine g_if_lt (tgt := 20) B dX11_out_8 (by decide) (fun c8_3938 => ?_) (fun c8_3938 => ?_)
  · replace e_ := fun β k_ => (e_ β k_).trans (if_pos c8_3938)
    refine g_iconst (v := (-1)) B dX11_out_20 (by decide) ?_
    exact g_iret B hr dX11_out_21 (by decide) (by decide) ⟨(-1), e_, rfl, rfl⟩
  · replace e_ := fun β k_ => (e_ β k_).trans (if_neg c8_3938)
    refine g_iload_n B dX11_out_11 rfl 2 rfl ?_
    refine g_aload_n B dX11_out_12 rfl 0 rfl ?_
    refine g_iload_n B dX11_out_13 rfl 1 rfl ?_
    refine g_callV (st := [.int i]) (As := [.int 0]) (wr := [((r 7), .inl (E.2.2.1 1, 20000, .inl (nb r7_f)))]) (nc' := 0) (ns' := 0) B cl_X11_364 w_im_X11_size w_se_X11_size (wr_X11_size_0 E m r m_1 m_4 m_9 m_10 m_14 m_15 m_25 m_26 m_27 m_28 m_29 m_31 m_32 m_33 m_35 m_36 m_37 m_38 m_39 m_40 m_42 ) rfl [0] [1] rfl rfl (by decide) (by decide) (by decide) 0 rfl (fun q h => by cases h; rfl) rfl ⟨by decide, by decide⟩ rfl rfl (by decide) (by decide) rfl (Nat.le_of_ble_eq_true rfl) dX11_out_14 (fun v w hq => ?_)
    obtain ⟨rfl, rfl⟩ := hq
    show G E X 3 [((r 7), .inl (E.2.2.1 1, 20000, .inl (nb r7_f))), (m, .inr (11, mkF r m_1 m_4 m_9 m_10 m_14 m_15 m_25 m_26 m_27 m_28 m_29 m_31 m_32 m_33 m_35 m_36 m_37 m_38 m_39 m_40 m_42))] 0 0 [(0, .ref m), (1, .int 0), (2, .int i)] 17 [.int (nI m_9), .int i]
    refine g_icmp_lt (tgt := 22) B dX11_out_17 (by decide) (fun c17_3940 => ?_) (fun c17_3940 => ?_)
    · replace e_ := fun β k_ => (e_ β k_).trans (if_pos c17_3940)
      obtain ⟨j_3941, hj_3941, rfl⟩ := ix_lt (n := m_9) (by omega) c8_3938 c17_3940
      replace e_ := fun β k_ => (e_ β k_).trans (fnL_eq (x := j_3941) (nI_clamp (by omega)) _)
      refine g_iload_n B dX11_out_22 rfl 1 rfl ?_
      refine g_if_ne (tgt := 35) B dX11_out_23 (by decide) (fun h => absurd (by decide) h) (fun c23 => ?_)
      refine g_aload_n B dX11_out_26 rfl 0 rfl ?_
      refine g_get B 1 7 fl_X11_26 rfl mf_7 dX11_out_27 ?_
      refine g_iload_n B dX11_out_30 rfl 2 rfl ?_
      refine g_bald B 0 rfl (vp_in_nI (by omega) (by omega)) dX11_out_31 ?_
      refine g_ri (x' := (nb r7_f j_3941)) (congrArg (nb r7_f) (nI_clamp (n := j_3941) (by omega))) ?_
      refine g_goto (tgt := 41) B dX11_out_32 (by decide) ?_
      refine g_sipush (v := 255) B dX11_out_41 (by decide) ?_
      refine g_iand B dX11_out_44 ?_
      refine g_ri (x' := nI (((nb r7_f j_3941)).toBitVec.toNat % 256)) (pk_and (nb r7_f j_3941) (m := 255) 8 (by decide)) ?_
      refine g_sub (ws' := [(m, .inr (11, mkF r m_1 m_4 m_9 m_10 m_14 m_15 m_25 m_26 m_27 m_28 m_29 m_31 m_32 m_33 m_35 m_36 m_37 m_38 m_39 m_40 m_42)), ((r 7), .inl (E.2.2.1 1, 20000, .inl (nb r7_f)))]) [1, 0] (by decide) rfl ?_
      exact g_iret B hr dX11_out_45 (by decide) (by decide) ⟨(nI (((nb r7_f j_3941)).toBitVec.toNat % 256)), e_, rfl, rfl⟩
    · replace e_ := fun β k_ => (e_ β k_).trans (if_neg c17_3940)
      refine g_iconst (v := (-1)) B dX11_out_20 (by decide) ?_
      refine g_sub (ws' := [(m, .inr (11, mkF r m_1 m_4 m_9 m_10 m_14 m_15 m_25 m_26 m_27 m_28 m_29 m_31 m_32 m_33 m_35 m_36 m_37 m_38 m_39 m_40 m_42)), ((r 7), .inl (E.2.2.1 1, 20000, .inl (nb r7_f)))]) [1, 0] (by decide) rfl ?_
      exact g_iret B hr dX11_out_21 (by decide) (by decide) ⟨(-1), e_, rfl, rfl⟩
theorem dX11_feed_7 : decode cX11_feed 7 = .ok (.aload_n 0, 1) := by decide +kernel
theorem dX11_feed_8 : decode cX11_feed 8 = .ok (.getfield 23, 3) := by decide +kernel
theorem dX11_feed_11 : decode cX11_feed 11 = .ok (.iload_n 1, 1) := by decide +kernel
theorem dX11_feed_12 : decode cX11_feed 12 = .ok (.iaload, 1) := by decide +kernel
theorem dX11_feed_13 : decode cX11_feed 13 = .ok (.bipush 12, 2) := by decide +kernel
theorem dX11_feed_15 : decode cX11_feed 15 = .ok (.iadd, 1) := by decide +kernel
theorem dX11_feed_16 : decode cX11_feed 16 = .ok (.sipush 6000, 3) := by decide +kernel
theorem dX11_feed_19 : decode cX11_feed 19 = .ok (.if_icmp .le 5, 3) := by decide +kernel
theorem dX11_feed_24 : decode cX11_feed 24 = .ok (.sipush 6000, 3) := by decide +kernel
theorem dX11_feed_27 : decode cX11_feed 27 = .ok (.iload_n 1, 1) := by decide +kernel
theorem dX11_feed_28 : decode cX11_feed 28 = .ok (.imul, 1) := by decide +kernel
theorem dX11_feed_29 : decode cX11_feed 29 = .ok (.aload_n 0, 1) := by decide +kernel
theorem dX11_feed_30 : decode cX11_feed 30 = .ok (.getfield 23, 3) := by decide +kernel
theorem dX11_feed_33 : decode cX11_feed 33 = .ok (.iload_n 1, 1) := by decide +kernel
theorem dX11_feed_34 : decode cX11_feed 34 = .ok (.iaload, 1) := by decide +kernel
theorem dX11_feed_35 : decode cX11_feed 35 = .ok (.iadd, 1) := by decide +kernel
theorem dX11_feed_36 : decode cX11_feed 36 = .ok (.istore 5, 2) := by decide +kernel
theorem dX11_feed_38 : decode cX11_feed 38 = .ok (.aload_n 0, 1) := by decide +kernel
theorem dX11_feed_39 : decode cX11_feed 39 = .ok (.getfield 19, 3) := by decide +kernel
theorem dX11_feed_42 : decode cX11_feed 42 = .ok (.iload 5, 2) := by decide +kernel
theorem dX11_feed_44 : decode cX11_feed 44 = .ok (.iload_n 2, 1) := by decide +kernel
theorem dX11_feed_45 : decode cX11_feed 45 = .ok (.invokestatic 263, 3) := by decide +kernel
theorem dX11_feed_48 : decode cX11_feed 48 = .ok (.aload_n 0, 1) := by decide +kernel
theorem dX11_feed_49 : decode cX11_feed 49 = .ok (.getfield 19, 3) := by decide +kernel
theorem dX11_feed_52 : decode cX11_feed 52 = .ok (.iload 5, 2) := by decide +kernel
theorem dX11_feed_54 : decode cX11_feed 54 = .ok (.iconst 4, 1) := by decide +kernel
theorem dX11_feed_55 : decode cX11_feed 55 = .ok (.iadd, 1) := by decide +kernel
theorem dX11_feed_56 : decode cX11_feed 56 = .ok (.iload_n 3, 1) := by decide +kernel
theorem dX11_feed_57 : decode cX11_feed 57 = .ok (.invokestatic 263, 3) := by decide +kernel
theorem dX11_feed_60 : decode cX11_feed 60 = .ok (.aload_n 0, 1) := by decide +kernel
theorem dX11_feed_61 : decode cX11_feed 61 = .ok (.getfield 19, 3) := by decide +kernel
theorem dX11_feed_64 : decode cX11_feed 64 = .ok (.iload 5, 2) := by decide +kernel
theorem dX11_feed_66 : decode cX11_feed 66 = .ok (.bipush 8, 2) := by decide +kernel
theorem dX11_feed_68 : decode cX11_feed 68 = .ok (.iadd, 1) := by decide +kernel
theorem dX11_feed_69 : decode cX11_feed 69 = .ok (.iload 4, 2) := by decide +kernel
theorem dX11_feed_71 : decode cX11_feed 71 = .ok (.invokestatic 263, 3) := by decide +kernel
theorem dX11_feed_74 : decode cX11_feed 74 = .ok (.aload_n 0, 1) := by decide +kernel
theorem dX11_feed_75 : decode cX11_feed 75 = .ok (.getfield 23, 3) := by decide +kernel
theorem dX11_feed_78 : decode cX11_feed 78 = .ok (.iload_n 1, 1) := by decide +kernel
theorem dX11_feed_79 : decode cX11_feed 79 = .ok (.dup2, 1) := by decide +kernel
theorem dX11_feed_80 : decode cX11_feed 80 = .ok (.iaload, 1) := by decide +kernel
theorem dX11_feed_81 : decode cX11_feed 81 = .ok (.bipush 12, 2) := by decide +kernel
theorem dX11_feed_83 : decode cX11_feed 83 = .ok (.iadd, 1) := by decide +kernel
theorem dX11_feed_84 : decode cX11_feed 84 = .ok (.iastore, 1) := by decide +kernel
theorem dX11_feed_85 : decode cX11_feed 85 = .ok (.aload_n 0, 1) := by decide +kernel
theorem dX11_feed_86 : decode cX11_feed 86 = .ok (.getfield 23, 3) := by decide +kernel
theorem dX11_feed_89 : decode cX11_feed 89 = .ok (.iload_n 1, 1) := by decide +kernel
theorem dX11_feed_90 : decode cX11_feed 90 = .ok (.iaload, 1) := by decide +kernel
theorem dX11_feed_91 : decode cX11_feed 91 = .ok (.ireturn, 1) := by decide +kernel
set_option maxRecDepth 100000 in
def fn_wr_X11_feed_0 (r6_f : Nat → Nat) (r5_f : Nat → Int32) (a1 : Int32) (a2 : Int32) (a3 : Int32) (β : Type) (k_ : (Nat → Nat) → (Nat → Int32) → Int32 → β) : β := (if ((r6_f 0) + 12) ≤ 6000 then (fn_wr_X11_putInt (0 + (r6_f 0)) r5_f a1 β (fun ztf_3948 => (fn_wr_X11_putInt ((0 + (r6_f 0)) + 4) ztf_3948 a2 β (fun ztf_3950 => (fn_wr_X11_putInt ((0 + (r6_f 0)) + 8) ztf_3950 a3 β (fun ztf_3952 => (k_ (updN r6_f 0 ((r6_f 0) + 12)) ztf_3952 (nI ((updN r6_f 0 ((r6_f 0) + 12)) 0))))))))) else (k_ r6_f r5_f (-1)))
set_option maxRecDepth 100000 in
theorem fn_wr_X11_feed_0_s {r6_f : Nat → Nat} {r5_f : Nat → Int32} {a1 : Int32} {a2 : Int32} {a3 : Int32} {β : Type} {k_ : (Nat → Nat) → (Nat → Int32) → Int32 → β} : fn_wr_X11_feed_0 r6_f r5_f a1 a2 a3 β k_ = (if ((r6_f 0) + 12) ≤ 6000 then (fn_wr_X11_putInt (0 + (r6_f 0)) r5_f a1 β (fun ztf_3948 => (fn_wr_X11_putInt ((0 + (r6_f 0)) + 4) ztf_3948 a2 β (fun ztf_3950 => (fn_wr_X11_putInt ((0 + (r6_f 0)) + 8) ztf_3950 a3 β (fun ztf_3952 => (k_ (updN r6_f 0 ((r6_f 0) + 12)) ztf_3952 (nI ((updN r6_f 0 ((r6_f 0) + 12)) 0))))))))) else (k_ r6_f r5_f (-1))) := rfl
set_option maxRecDepth 100000 in
set_option maxHeartbeats 4000000 in
theorem wr_X11_feed_0 (E : g_E) (m : Nat) (r : Nat → Nat) (m_1 : Nat) (m_4 : Nat) (m_9 : Nat) (m_10 : Nat) (m_14 : Nat) (m_15 : Nat) (m_25 : Int32) (m_26 : Int32) (m_27 : Int64) (m_28 : Nat) (m_29 : Nat) (m_31 : Nat) (m_32 : Nat) (m_33 : Nat) (m_35 : Nat) (m_36 : Nat) (m_37 : Int32) (m_38 : Nat) (m_39 : Int32) (m_40 : Int32) (m_42 : Nat) (r6_f : Nat → Nat) (r5_f : Nat → Int32) (a1 : Int32) (a2 : Int32) (a3 : Int32) (ha0 : ∀ j, j < 2 → r6_f j ≤ 6000) : Ev E MX11_feed 1 23 0 0 [.ref m, .int 0, .int a1, .int a2, .int a3] [(m, .inr (11, mkF r m_1 m_4 m_9 m_10 m_14 m_15 m_25 m_26 m_27 m_28 m_29 m_31 m_32 m_33 m_35 m_36 m_37 m_38 m_39 m_40 m_42)), ((r 6), .inl (E.2.2.1 0, 2, .inl (iM r6_f))), ((r 5), .inl (E.2.2.1 1, 12000, .inl (nb r5_f)))] (fun v_ w_ => ∃ zr6_f : Nat → Nat, ∃ zr5_f : Nat → Int32, ∃ zr : Int32, (∀ j, j < 2 → zr6_f j ≤ 6000) ∧ (∀ (β : Type) (k_ : (Nat → Nat) → (Nat → Int32) → Int32 → β), fn_wr_X11_feed_0 r6_f r5_f a1 a2 a3 β k_ = k_ zr6_f zr5_f zr) ∧ v_ = some (.int zr) ∧ w_ = [(m, .inr (11, mkF r m_1 m_4 m_9 m_10 m_14 m_15 m_25 m_26 m_27 m_28 m_29 m_31 m_32 m_33 m_35 m_36 m_37 m_38 m_39 m_40 m_42)), ((r 6), .inl (E.2.2.1 0, 2, .inl (iM zr6_f))), ((r 5), .inl (E.2.2.1 1, 12000, .inl (nb zr5_f)))]) := by
  refine Ev.intro (by decide) (Nat.le_of_ble_eq_true rfl) ?_
  intro X B hr hI
  have B : Bd E X cX11_feed RX11 6 1 23 0 0 := B
  have hr : Rt E X (some .int) 0 0 (fun v_ w_ => ∃ zr6_f : Nat → Nat, ∃ zr5_f : Nat → Int32, ∃ zr : Int32, (∀ j, j < 2 → zr6_f j ≤ 6000) ∧ (∀ (β : Type) (k_ : (Nat → Nat) → (Nat → Int32) → Int32 → β), fn_wr_X11_feed_0 r6_f r5_f a1 a2 a3 β k_ = k_ zr6_f zr5_f zr) ∧ v_ = some (.int zr) ∧ w_ = [(m, .inr (11, mkF r m_1 m_4 m_9 m_10 m_14 m_15 m_25 m_26 m_27 m_28 m_29 m_31 m_32 m_33 m_35 m_36 m_37 m_38 m_39 m_40 m_42)), ((r 6), .inl (E.2.2.1 0, 2, .inl (iM zr6_f))), ((r 5), .inl (E.2.2.1 1, 12000, .inl (nb zr5_f)))]) := hr
  have e_ := fun (β : Type) (k_ : (Nat → Nat) → (Nat → Int32) → Int32 → β) => fn_wr_X11_feed_0_s (β := β) (k_ := k_) (r6_f := r6_f) (r5_f := r5_f) (a1 := a1) (a2 := a2) (a3 := a3)
  show G E X 6 [(m, .inr (11, mkF r m_1 m_4 m_9 m_10 m_14 m_15 m_25 m_26 m_27 m_28 m_29 m_31 m_32 m_33 m_35 m_36 m_37 m_38 m_39 m_40 m_42)), ((r 6), .inl (E.2.2.1 0, 2, .inl (iM r6_f))), ((r 5), .inl (E.2.2.1 1, 12000, .inl (nb r5_f)))] 0 0 [(0, .ref m), (1, .int 0), (2, .int a1), (3, .int a2), (4, .int a3)] 0 []
  refine g_iload_n B dX11_feed_0 rfl 1 rfl ?_
  refine g_callS (st := []) (As := [.int 0]) (wr := [(m, .inr (11, mkF r m_1 m_4 m_9 m_10 m_14 m_15 m_25 m_26 m_27 m_28 m_29 m_31 m_32 m_33 m_35 m_36 m_37 m_38 m_39 m_40 m_42)), ((r 6), .inl (E.2.2.1 0, 2, .inl (iM r6_f))), ((r 5), .inl (E.2.2.1 1, 12000, .inl (nb r5_f)))]) (nc' := 0) (ns' := 0) B cl_X11_361 w_sm_X11_noWhich (wr_X11_noWhich_0 E ) rfl [] [0, 1, 2] rfl rfl (by decide) (by decide) (by decide) ⟨by decide, by decide⟩ rfl rfl (by decide) (by decide) rfl (Nat.le_of_ble_eq_true rfl) dX11_feed_1 (fun v w hq => ?_)
  obtain ⟨rfl, rfl⟩ := hq
  show G E X 6 [(m, .inr (11, mkF r m_1 m_4 m_9 m_10 m_14 m_15 m_25 m_26 m_27 m_28 m_29 m_31 m_32 m_33 m_35 m_36 m_37 m_38 m_39 m_40 m_42)), ((r 6), .inl (E.2.2.1 0, 2, .inl (iM r6_f))), ((r 5), .inl (E.2.2.1 1, 12000, .inl (nb r5_f)))] 0 0 [(0, .ref m), (1, .int 0), (2, .int a1), (3, .int a2), (4, .int a3)] 4 [.int 0]
  refine g_if_ne (tgt := 22) B dX11_feed_4 (by decide) (fun h => absurd (by decide) h) (fun c4 => ?_)
  refine g_aload_n B dX11_feed_7 rfl 0 rfl ?_
  refine g_get B 0 6 fl_X11_23 rfl mf_6 dX11_feed_8 ?_
  refine g_iload_n B dX11_feed_11 rfl 1 rfl ?_
  refine g_iald B 1 rfl (by unfold vp_in; decide) dX11_feed_12 ?_
  refine g_ri (x' := nI (r6_f 0)) (iM_at (f := r6_f) (i := 0) (by omega)) ?_
  have ha_3943 := ha0 0 (by omega)
  refine g_bipush (v := 12) B dX11_feed_13 (by decide) ?_
  refine g_iadd B dX11_feed_15 ?_
  refine g_ri (x' := nI ((r6_f 0) + 12)) (nI_add (r6_f 0) 12) ?_
  refine g_sipush (v := 6000) B dX11_feed_16 (by decide) ?_
  refine g_icmp_le (tgt := 24) B dX11_feed_19 (by decide) (fun c19_3944 => ?_) (fun c19_3944 => ?_)
  · have hn_3945 : ((r6_f 0) + 12) ≤ 6000 := (nI_leI (a := ((r6_f 0) + 12)) (b := 6000) (by omega) (by omega)).mp c19_3944
    replace e_ := fun β k_ => (e_ β k_).trans (if_pos hn_3945)
    refine g_sipush (v := 6000) B dX11_feed_24 (by decide) ?_
    refine g_iload_n B dX11_feed_27 rfl 1 rfl ?_
    refine g_imul B dX11_feed_28 ?_
    refine g_ri (x' := 0) (by decide) ?_
    refine g_aload_n B dX11_feed_29 rfl 0 rfl ?_
    refine g_get B 0 6 fl_X11_23 rfl mf_6 dX11_feed_30 ?_
    refine g_iload_n B dX11_feed_33 rfl 1 rfl ?_
    refine g_iald B 1 rfl (by unfold vp_in; decide) dX11_feed_34 ?_
    refine g_ri (x' := nI (r6_f 0)) (iM_at (f := r6_f) (i := 0) (by omega)) ?_
    have ha_3947 := ha0 0 (by omega)
    refine g_iadd B dX11_feed_35 ?_
    refine g_ri (x' := nI (0 + (r6_f 0))) (nI_add 0 (r6_f 0)) ?_
    refine g_istore (lv' := [(5, .int (nI (0 + (r6_f 0)))), (0, .ref m), (1, .int 0), (2, .int a1), (3, .int a2), (4, .int a3)]) B dX11_feed_36 (by decide) rfl ?_
    refine g_aload_n B dX11_feed_38 rfl 1 rfl ?_
    refine g_get B 0 5 fl_X11_19 rfl mf_5 dX11_feed_39 ?_
    refine g_iload B dX11_feed_42 0 rfl ?_
    refine g_iload_n B dX11_feed_44 rfl 3 rfl ?_
    refine g_callS (st := []) (As := [.ref (r 5), .int (nI (0 + (r6_f 0))), .int a1]) (wr := [(m, .inr (11, mkF r m_1 m_4 m_9 m_10 m_14 m_15 m_25 m_26 m_27 m_28 m_29 m_31 m_32 m_33 m_35 m_36 m_37 m_38 m_39 m_40 m_42)), ((r 6), .inl (E.2.2.1 0, 2, .inl (iM r6_f)))]) (nc' := 0) (ns' := 0) B cl_X11_263 w_sm_X11_putInt (wr_X11_putInt E (r 5) 12000 (0 + (r6_f 0)) r5_f a1 (by first | assumption | omega | decide | exact hCF _ (by omega)) (by first | assumption | omega | decide | exact hCF _ (by omega))) rfl [2] [0, 1] rfl rfl (by decide) (by decide) (by decide) ⟨by decide, by decide⟩ rfl rfl (by decide) (by decide) rfl (Nat.le_of_ble_eq_true rfl) dX11_feed_45 (fun v w hq => ?_)
    obtain ⟨ztf_3948, hz_3949, rfl, rfl⟩ := hq
    replace e_ := fun β k_ => (e_ β k_).trans (hz_3949 β _)
    show G E X 6 [(m, .inr (11, mkF r m_1 m_4 m_9 m_10 m_14 m_15 m_25 m_26 m_27 m_28 m_29 m_31 m_32 m_33 m_35 m_36 m_37 m_38 m_39 m_40 m_42)), ((r 6), .inl (E.2.2.1 0, 2, .inl (iM r6_f))), ((r 5), .inl (E.2.2.1 1, 12000, .inl (nb ztf_3948)))] 0 0 [(5, .int (nI (0 + (r6_f 0)))), (0, .ref m), (1, .int 0), (2, .int a1), (3, .int a2), (4, .int a3)] 48 []
    refine g_aload_n B dX11_feed_48 rfl 1 rfl ?_
    refine g_get B 0 5 fl_X11_19 rfl mf_5 dX11_feed_49 ?_
    refine g_iload B dX11_feed_52 0 rfl ?_
    refine g_iconst (v := 4) B dX11_feed_54 (by decide) ?_
    refine g_iadd B dX11_feed_55 ?_
    refine g_ri (x' := nI ((0 + (r6_f 0)) + 4)) (nI_add (0 + (r6_f 0)) 4) ?_
    refine g_iload_n B dX11_feed_56 rfl 4 rfl ?_
    refine g_callS (st := []) (As := [.ref (r 5), .int (nI ((0 + (r6_f 0)) + 4)), .int a2]) (wr := [(m, .inr (11, mkF r m_1 m_4 m_9 m_10 m_14 m_15 m_25 m_26 m_27 m_28 m_29 m_31 m_32 m_33 m_35 m_36 m_37 m_38 m_39 m_40 m_42)), ((r 6), .inl (E.2.2.1 0, 2, .inl (iM r6_f)))]) (nc' := 0) (ns' := 0) B cl_X11_263 w_sm_X11_putInt (wr_X11_putInt E (r 5) 12000 ((0 + (r6_f 0)) + 4) ztf_3948 a2 (by first | assumption | omega | decide | exact hCF _ (by omega)) (by first | assumption | omega | decide | exact hCF _ (by omega))) rfl [2] [0, 1] rfl rfl (by decide) (by decide) (by decide) ⟨by decide, by decide⟩ rfl rfl (by decide) (by decide) rfl (Nat.le_of_ble_eq_true rfl) dX11_feed_57 (fun v w hq => ?_)
    obtain ⟨ztf_3950, hz_3951, rfl, rfl⟩ := hq
    replace e_ := fun β k_ => (e_ β k_).trans (hz_3951 β _)
    show G E X 6 [(m, .inr (11, mkF r m_1 m_4 m_9 m_10 m_14 m_15 m_25 m_26 m_27 m_28 m_29 m_31 m_32 m_33 m_35 m_36 m_37 m_38 m_39 m_40 m_42)), ((r 6), .inl (E.2.2.1 0, 2, .inl (iM r6_f))), ((r 5), .inl (E.2.2.1 1, 12000, .inl (nb ztf_3950)))] 0 0 [(5, .int (nI (0 + (r6_f 0)))), (0, .ref m), (1, .int 0), (2, .int a1), (3, .int a2), (4, .int a3)] 60 []
    refine g_aload_n B dX11_feed_60 rfl 1 rfl ?_
    refine g_get B 0 5 fl_X11_19 rfl mf_5 dX11_feed_61 ?_
    refine g_iload B dX11_feed_64 0 rfl ?_
    refine g_bipush (v := 8) B dX11_feed_66 (by decide) ?_
    refine g_iadd B dX11_feed_68 ?_
    refine g_ri (x' := nI ((0 + (r6_f 0)) + 8)) (nI_add (0 + (r6_f 0)) 8) ?_
    refine g_iload B dX11_feed_69 5 rfl ?_
    refine g_callS (st := []) (As := [.ref (r 5), .int (nI ((0 + (r6_f 0)) + 8)), .int a3]) (wr := [(m, .inr (11, mkF r m_1 m_4 m_9 m_10 m_14 m_15 m_25 m_26 m_27 m_28 m_29 m_31 m_32 m_33 m_35 m_36 m_37 m_38 m_39 m_40 m_42)), ((r 6), .inl (E.2.2.1 0, 2, .inl (iM r6_f)))]) (nc' := 0) (ns' := 0) B cl_X11_263 w_sm_X11_putInt (wr_X11_putInt E (r 5) 12000 ((0 + (r6_f 0)) + 8) ztf_3950 a3 (by first | assumption | omega | decide | exact hCF _ (by omega)) (by first | assumption | omega | decide | exact hCF _ (by omega))) rfl [2] [0, 1] rfl rfl (by decide) (by decide) (by decide) ⟨by decide, by decide⟩ rfl rfl (by decide) (by decide) rfl (Nat.le_of_ble_eq_true rfl) dX11_feed_71 (fun v w hq => ?_)
    obtain ⟨ztf_3952, hz_3953, rfl, rfl⟩ := hq
    replace e_ := fun β k_ => (e_ β k_).trans (hz_3953 β _)
    show G E X 6 [(m, .inr (11, mkF r m_1 m_4 m_9 m_10 m_14 m_15 m_25 m_26 m_27 m_28 m_29 m_31 m_32 m_33 m_35 m_36 m_37 m_38 m_39 m_40 m_42)), ((r 6), .inl (E.2.2.1 0, 2, .inl (iM r6_f))), ((r 5), .inl (E.2.2.1 1, 12000, .inl (nb ztf_3952)))] 0 0 [(5, .int (nI (0 + (r6_f 0)))), (0, .ref m), (1, .int 0), (2, .int a1), (3, .int a2), (4, .int a3)] 74 []
    refine g_aload_n B dX11_feed_74 rfl 1 rfl ?_
    refine g_get B 0 6 fl_X11_23 rfl mf_6 dX11_feed_75 ?_
    refine g_iload_n B dX11_feed_78 rfl 2 rfl ?_
    refine g_dup2_11 B dX11_feed_79 rfl rfl ?_
    refine g_iald B 1 rfl (by unfold vp_in; decide) dX11_feed_80 ?_
    refine g_ri (x' := nI (r6_f 0)) (iM_at (f := r6_f) (i := 0) (by omega)) ?_
    have ha_3954 := ha0 0 (by omega)
    refine g_bipush (v := 12) B dX11_feed_81 (by decide) ?_
    refine g_iadd B dX11_feed_83 ?_
    refine g_ri (x' := nI ((r6_f 0) + 12)) (nI_add (r6_f 0) 12) ?_
    have ha_3955 := updN_le (i := 0) (x := ((r6_f 0) + 12)) ha0 (by omega)
    refine g_iast (ws' := [(m, .inr (11, mkF r m_1 m_4 m_9 m_10 m_14 m_15 m_25 m_26 m_27 m_28 m_29 m_31 m_32 m_33 m_35 m_36 m_37 m_38 m_39 m_40 m_42)), ((r 6), .inl (E.2.2.1 0, 2, .inl (iM (updN r6_f 0 ((r6_f 0) + 12))))), ((r 5), .inl (E.2.2.1 1, 12000, .inl (nb ztf_3952)))]) B 1 rfl (by unfold vp_in; decide) (by rw [show (upd (iM r6_f) (Int32.toNatClampNeg 0) (nI ((r6_f 0) + 12))) = iM (updN r6_f 0 ((r6_f 0) + 12)) from iM_upd (f := r6_f) (i := 0) (x := ((r6_f 0) + 12)) (by omega)]; rfl) dX11_feed_84 ?_
    refine g_aload_n B dX11_feed_85 rfl 1 rfl ?_
    refine g_get B 0 6 fl_X11_23 rfl mf_6 dX11_feed_86 ?_
    refine g_iload_n B dX11_feed_89 rfl 2 rfl ?_
    refine g_iald B 1 rfl (by unfold vp_in; decide) dX11_feed_90 ?_
    refine g_ri (x' := nI ((updN r6_f 0 ((r6_f 0) + 12)) 0)) (iM_at (f := (updN r6_f 0 ((r6_f 0) + 12))) (i := 0) (by omega)) ?_
    have ha_3956 := ha_3955 0 (by omega)
    exact g_iret B hr dX11_feed_91 (by decide) (by decide) ⟨(updN r6_f 0 ((r6_f 0) + 12)), ztf_3952, (nI ((updN r6_f 0 ((r6_f 0) + 12)) 0)), (by first | assumption | omega | decide | exact hCF _ (by omega)), e_, rfl, rfl⟩
  · have hn_3946 : 6000 < ((r6_f 0) + 12) := Nat.not_le.mp (fun q => c19_3944 ((nI_leI (a := ((r6_f 0) + 12)) (b := 6000) (by omega) (by omega)).mpr q))
    replace e_ := fun β k_ => (e_ β k_).trans (if_neg (Nat.not_le.mpr hn_3946))
    refine g_iconst (v := (-1)) B dX11_feed_22 (by decide) ?_
    exact g_iret B hr dX11_feed_23 (by decide) (by decide) ⟨r6_f, r5_f, (-1), (by first | assumption | omega | decide | exact hCF _ (by omega)), e_, rfl, rfl⟩
theorem dX11_end_7 : decode cX11_end 7 = .ok (.iload_n 2, 1) := by decide +kernel
theorem dX11_end_8 : decode cX11_end 8 = .ok (.ifCond .lt 13, 3) := by decide +kernel
theorem dX11_end_11 : decode cX11_end 11 = .ok (.iload_n 2, 1) := by decide +kernel
theorem dX11_end_12 : decode cX11_end 12 = .ok (.aload_n 0, 1) := by decide +kernel
theorem dX11_end_13 : decode cX11_end 13 = .ok (.getfield 23, 3) := by decide +kernel
theorem dX11_end_16 : decode cX11_end 16 = .ok (.iload_n 1, 1) := by decide +kernel
theorem dX11_end_17 : decode cX11_end 17 = .ok (.iaload, 1) := by decide +kernel
theorem dX11_end_18 : decode cX11_end 18 = .ok (.if_icmp .le 5, 3) := by decide +kernel
theorem dX11_end_23 : decode cX11_end 23 = .ok (.aload_n 0, 1) := by decide +kernel
theorem dX11_end_24 : decode cX11_end 24 = .ok (.getfield 23, 3) := by decide +kernel
theorem dX11_end_27 : decode cX11_end 27 = .ok (.iload_n 1, 1) := by decide +kernel
theorem dX11_end_28 : decode cX11_end 28 = .ok (.iload_n 2, 1) := by decide +kernel
theorem dX11_end_29 : decode cX11_end 29 = .ok (.iastore, 1) := by decide +kernel
theorem dX11_end_30 : decode cX11_end 30 = .ok (.iconst 1, 1) := by decide +kernel
theorem dX11_end_31 : decode cX11_end 31 = .ok (.ireturn, 1) := by decide +kernel
set_option maxRecDepth 100000 in
def fn_wr_X11_end_0 (r6_f : Nat → Nat) (n : Int32) (β : Type) (k_ : (Nat → Nat) → Int32 → β) : β := (if n < 0 then (k_ r6_f 0) else (if n ≤ nI (r6_f 0) then (fnL (Int32.toNatClampNeg n) (fun j_3961 => (k_ (updN r6_f 0 j_3961) 1))) else (k_ r6_f 0)))
set_option maxRecDepth 100000 in
theorem fn_wr_X11_end_0_s {r6_f : Nat → Nat} {n : Int32} {β : Type} {k_ : (Nat → Nat) → Int32 → β} : fn_wr_X11_end_0 r6_f n β k_ = (if n < 0 then (k_ r6_f 0) else (if n ≤ nI (r6_f 0) then (fnL (Int32.toNatClampNeg n) (fun j_3961 => (k_ (updN r6_f 0 j_3961) 1))) else (k_ r6_f 0))) := rfl
set_option maxRecDepth 100000 in
set_option maxHeartbeats 4000000 in
theorem wr_X11_end_0 (E : g_E) (m : Nat) (r : Nat → Nat) (m_1 : Nat) (m_4 : Nat) (m_9 : Nat) (m_10 : Nat) (m_14 : Nat) (m_15 : Nat) (m_25 : Int32) (m_26 : Int32) (m_27 : Int64) (m_28 : Nat) (m_29 : Nat) (m_31 : Nat) (m_32 : Nat) (m_33 : Nat) (m_35 : Nat) (m_36 : Nat) (m_37 : Int32) (m_38 : Nat) (m_39 : Int32) (m_40 : Int32) (m_42 : Nat) (r6_f : Nat → Nat) (n : Int32) (ha0 : ∀ j, j < 2 → r6_f j ≤ 6000) : Ev E MX11_end 1 20 0 0 [.ref m, .int 0, .int n] [(m, .inr (11, mkF r m_1 m_4 m_9 m_10 m_14 m_15 m_25 m_26 m_27 m_28 m_29 m_31 m_32 m_33 m_35 m_36 m_37 m_38 m_39 m_40 m_42)), ((r 6), .inl (E.2.2.1 0, 2, .inl (iM r6_f)))] (fun v_ w_ => ∃ zr6_f : Nat → Nat, ∃ zr : Int32, (∀ j, j < 2 → zr6_f j ≤ 6000) ∧ (zr = 0 ∨ zr = 1) ∧ (∀ (β : Type) (k_ : (Nat → Nat) → Int32 → β), fn_wr_X11_end_0 r6_f n β k_ = k_ zr6_f zr) ∧ v_ = some (.int zr) ∧ w_ = [(m, .inr (11, mkF r m_1 m_4 m_9 m_10 m_14 m_15 m_25 m_26 m_27 m_28 m_29 m_31 m_32 m_33 m_35 m_36 m_37 m_38 m_39 m_40 m_42)), ((r 6), .inl (E.2.2.1 0, 2, .inl (iM zr6_f)))]) := by
  refine Ev.intro (by decide) (Nat.le_of_ble_eq_true rfl) ?_
  intro X B hr hI
  have B : Bd E X cX11_end RX11 3 1 20 0 0 := B
  have hr : Rt E X (some .boolean) 0 0 (fun v_ w_ => ∃ zr6_f : Nat → Nat, ∃ zr : Int32, (∀ j, j < 2 → zr6_f j ≤ 6000) ∧ (zr = 0 ∨ zr = 1) ∧ (∀ (β : Type) (k_ : (Nat → Nat) → Int32 → β), fn_wr_X11_end_0 r6_f n β k_ = k_ zr6_f zr) ∧ v_ = some (.int zr) ∧ w_ = [(m, .inr (11, mkF r m_1 m_4 m_9 m_10 m_14 m_15 m_25 m_26 m_27 m_28 m_29 m_31 m_32 m_33 m_35 m_36 m_37 m_38 m_39 m_40 m_42)), ((r 6), .inl (E.2.2.1 0, 2, .inl (iM zr6_f)))]) := hr
  have e_ := fun (β : Type) (k_ : (Nat → Nat) → Int32 → β) => fn_wr_X11_end_0_s (β := β) (k_ := k_) (r6_f := r6_f) (n := n)
  show G E X 3 [(m, .inr (11, mkF r m_1 m_4 m_9 m_10 m_14 m_15 m_25 m_26 m_27 m_28 m_29 m_31 m_32 m_33 m_35 m_36 m_37 m_38 m_39 m_40 m_42)), ((r 6), .inl (E.2.2.1 0, 2, .inl (iM r6_f)))] 0 0 [(0, .ref m), (1, .int 0), (2, .int n)] 0 []
  refine g_iload_n B dX11_end_0 rfl 1 rfl ?_
  refine g_callS (st := []) (As := [.int 0]) (wr := [(m, .inr (11, mkF r m_1 m_4 m_9 m_10 m_14 m_15 m_25 m_26 m_27 m_28 m_29 m_31 m_32 m_33 m_35 m_36 m_37 m_38 m_39 m_40 m_42)), ((r 6), .inl (E.2.2.1 0, 2, .inl (iM r6_f)))]) (nc' := 0) (ns' := 0) B cl_X11_361 w_sm_X11_noWhich (wr_X11_noWhich_0 E ) rfl [] [0, 1] rfl rfl (by decide) (by decide) (by decide) ⟨by decide, by decide⟩ rfl rfl (by decide) (by decide) rfl (Nat.le_of_ble_eq_true rfl) dX11_end_1 (fun v w hq => ?_)
  obtain ⟨rfl, rfl⟩ := hq
  show G E X 3 [(m, .inr (11, mkF r m_1 m_4 m_9 m_10 m_14 m_15 m_25 m_26 m_27 m_28 m_29 m_31 m_32 m_33 m_35 m_36 m_37 m_38 m_39 m_40 m_42)), ((r 6), .inl (E.2.2.1 0, 2, .inl (iM r6_f)))] 0 0 [(0, .ref m), (1, .int 0), (2, .int n)] 4 [.int 0]
  refine g_if_ne (tgt := 21) B dX11_end_4 (by decide) (fun h => absurd (by decide) h) (fun c4 => ?_)
  refine g_iload_n B dX11_end_7 rfl 2 rfl ?_
  refine g_if_lt (tgt := 21) B dX11_end_8 (by decide) (fun c8_3958 => ?_) (fun c8_3958 => ?_)
  · replace e_ := fun β k_ => (e_ β k_).trans (if_pos c8_3958)
    refine g_iconst (v := 0) B dX11_end_21 (by decide) ?_
    exact g_zret B hr (by decide) dX11_end_22 (by decide) (by decide) ⟨r6_f, 0, (by first | assumption | omega | decide | exact hCF _ (by omega)), (by first | assumption | omega | decide | exact hCF _ (by omega)), e_, rfl, rfl⟩
  · replace e_ := fun β k_ => (e_ β k_).trans (if_neg c8_3958)
    refine g_iload_n B dX11_end_11 rfl 2 rfl ?_
    refine g_aload_n B dX11_end_12 rfl 0 rfl ?_
    refine g_get B 0 6 fl_X11_23 rfl mf_6 dX11_end_13 ?_
    refine g_iload_n B dX11_end_16 rfl 1 rfl ?_
    refine g_iald B 1 rfl (by unfold vp_in; decide) dX11_end_17 ?_
    refine g_ri (x' := nI (r6_f 0)) (iM_at (f := r6_f) (i := 0) (by omega)) ?_
    have ha_3959 := ha0 0 (by omega)
    refine g_icmp_le (tgt := 23) B dX11_end_18 (by decide) (fun c18_3960 => ?_) (fun c18_3960 => ?_)
    · replace e_ := fun β k_ => (e_ β k_).trans (if_pos c18_3960)
      obtain ⟨j_3961, hj_3961, rfl⟩ := ix_le (n := (r6_f 0)) (by omega) c8_3958 c18_3960
      replace e_ := fun β k_ => (e_ β k_).trans (fnL_eq (x := j_3961) (nI_clamp (by omega)) _)
      refine g_aload_n B dX11_end_23 rfl 0 rfl ?_
      refine g_get B 0 6 fl_X11_23 rfl mf_6 dX11_end_24 ?_
      refine g_iload_n B dX11_end_27 rfl 1 rfl ?_
      refine g_iload_n B dX11_end_28 rfl 2 rfl ?_
      have ha_3962 := updN_le (i := 0) (x := j_3961) ha0 (by omega)
      refine g_iast (ws' := [(m, .inr (11, mkF r m_1 m_4 m_9 m_10 m_14 m_15 m_25 m_26 m_27 m_28 m_29 m_31 m_32 m_33 m_35 m_36 m_37 m_38 m_39 m_40 m_42)), ((r 6), .inl (E.2.2.1 0, 2, .inl (iM (updN r6_f 0 j_3961))))]) B 1 rfl (by unfold vp_in; decide) (by rw [show (upd (iM r6_f) (Int32.toNatClampNeg 0) (nI j_3961)) = iM (updN r6_f 0 j_3961) from iM_upd (f := r6_f) (i := 0) (x := j_3961) (by omega)]; rfl) dX11_end_29 ?_
      refine g_iconst (v := 1) B dX11_end_30 (by decide) ?_
      exact g_zret B hr (by decide) dX11_end_31 (by decide) (by decide) ⟨(updN r6_f 0 j_3961), 1, (by first | assumption | omega | decide | exact hCF _ (by omega)), (by first | assumption | omega | decide | exact hCF _ (by omega)), e_, rfl, rfl⟩
    · replace e_ := fun β k_ => (e_ β k_).trans (if_neg c18_3960)
      refine g_iconst (v := 0) B dX11_end_21 (by decide) ?_
      exact g_zret B hr (by decide) dX11_end_22 (by decide) (by decide) ⟨r6_f, 0, (by first | assumption | omega | decide | exact hCF _ (by omega)), (by first | assumption | omega | decide | exact hCF _ (by omega)), e_, rfl, rfl⟩
theorem dX11_take_7 : decode cX11_take 7 = .ok (.aload_n 0, 1) := by decide +kernel
theorem dX11_take_8 : decode cX11_take 8 = .ok (.iload_n 1, 1) := by decide +kernel
theorem dX11_take_9 : decode cX11_take 9 = .ok (.invokevirtual 364, 3) := by decide +kernel
theorem dX11_take_12 : decode cX11_take 12 = .ok (.sipush 6000, 3) := by decide +kernel
theorem dX11_take_15 : decode cX11_take 15 = .ok (.if_icmp .le 5, 3) := by decide +kernel
theorem dX11_take_20 : decode cX11_take 20 = .ok (.iconst 0, 1) := by decide +kernel
theorem dX11_take_21 : decode cX11_take 21 = .ok (.istore_n 2, 1) := by decide +kernel
theorem dX11_take_22 : decode cX11_take 22 = .ok (.iload_n 2, 1) := by decide +kernel
theorem dX11_take_23 : decode cX11_take 23 = .ok (.aload_n 0, 1) := by decide +kernel
theorem dX11_take_24 : decode cX11_take 24 = .ok (.iload_n 1, 1) := by decide +kernel
theorem dX11_take_25 : decode cX11_take 25 = .ok (.invokevirtual 364, 3) := by decide +kernel
theorem dX11_take_28 : decode cX11_take 28 = .ok (.if_icmp .ge 40, 3) := by decide +kernel
theorem dX11_take_31 : decode cX11_take 31 = .ok (.aload_n 0, 1) := by decide +kernel
theorem dX11_take_32 : decode cX11_take 32 = .ok (.getfield 19, 3) := by decide +kernel
theorem dX11_take_35 : decode cX11_take 35 = .ok (.sipush 6000, 3) := by decide +kernel
theorem dX11_take_38 : decode cX11_take 38 = .ok (.iload_n 1, 1) := by decide +kernel
theorem dX11_take_39 : decode cX11_take 39 = .ok (.imul, 1) := by decide +kernel
theorem dX11_take_40 : decode cX11_take 40 = .ok (.iload_n 2, 1) := by decide +kernel
theorem dX11_take_41 : decode cX11_take 41 = .ok (.iadd, 1) := by decide +kernel
theorem dX11_take_42 : decode cX11_take 42 = .ok (.iload_n 1, 1) := by decide +kernel
theorem dX11_take_43 : decode cX11_take 43 = .ok (.ifCond .ne 12, 3) := by decide +kernel
theorem dX11_take_46 : decode cX11_take 46 = .ok (.aload_n 0, 1) := by decide +kernel
theorem dX11_take_47 : decode cX11_take 47 = .ok (.getfield 26, 3) := by decide +kernel
theorem dX11_take_50 : decode cX11_take 50 = .ok (.iload_n 2, 1) := by decide +kernel
theorem dX11_take_51 : decode cX11_take 51 = .ok (.baload, 1) := by decide +kernel
theorem dX11_take_52 : decode cX11_take 52 = .ok (.goto 9, 3) := by decide +kernel
theorem dX11_take_61 : decode cX11_take 61 = .ok (.bastore, 1) := by decide +kernel
theorem dX11_take_62 : decode cX11_take 62 = .ok (.iinc 2 1, 3) := by decide +kernel
theorem dX11_take_65 : decode cX11_take 65 = .ok (.goto (-43), 3) := by decide +kernel
set_option maxRecDepth 100000 in
def lf_wr_X11_take_0_22 (m_9 : Nat) (r7_f : Nat → Int32) (β : Type) (kx_ : (Nat → Int32) → Nat → β)  : Nat → (Nat → Int32) → Nat → β
  | 0, pr5_f, l2 => kx_ pr5_f l2
  | fuel + 1, pr5_f, l2 => (if m_9 ≤ l2 then (kx_ pr5_f l2) else (lf_wr_X11_take_0_22 m_9 r7_f β kx_ fuel (upd pr5_f (0 + l2) (nb r7_f l2)) (l2 + 1)))
set_option maxRecDepth 100000 in
theorem lf_wr_X11_take_0_22_s {m_9 : Nat} {r7_f : Nat → Int32} {β : Type} {kx_ : (Nat → Int32) → Nat → β}  {fuel : Nat} {pr5_f : Nat → Int32} {l2 : Nat} : lf_wr_X11_take_0_22 m_9 r7_f β kx_  (fuel + 1) pr5_f l2 = (if m_9 ≤ l2 then (kx_ pr5_f l2) else (lf_wr_X11_take_0_22 m_9 r7_f β kx_ fuel (upd pr5_f (0 + l2) (nb r7_f l2)) (l2 + 1))) := rfl
set_option maxRecDepth 100000 in
set_option maxHeartbeats 4000000 in
theorem lp_wr_X11_take_0_22 (E : g_E) (m : Nat) (r : Nat → Nat) (m_1 : Nat) (m_4 : Nat) (m_9 : Nat) (m_10 : Nat) (m_14 : Nat) (m_15 : Nat) (m_25 : Int32) (m_26 : Int32) (m_27 : Int64) (m_28 : Nat) (m_29 : Nat) (m_31 : Nat) (m_32 : Nat) (m_33 : Nat) (m_35 : Nat) (m_36 : Nat) (m_37 : Int32) (m_38 : Nat) (m_39 : Int32) (m_40 : Int32) (m_42 : Nat) (r6_f : Nat → Nat) (r5_f : Nat → Int32) (r7_f : Nat → Int32) (hb0 : m_9 ≤ 20000) (ha0 : ∀ j, j < 2 → r6_f j ≤ 6000)  (hf0 : m_9 ≤ 6000) {X : g_X} {rr : (β : Type) → ((Nat → Nat) → (Nat → Int32) → Int32 → β) → β} (kx_ : (β : Type) → ((Nat → Nat) → (Nat → Int32) → Int32 → β) → (Nat → Int32) → Nat → β) (B : Bd E X cX11_take RX11 3 1 21 0 0) (hr : Rt E X (some .int) 0 0 (fun v_ w_ => ∃ zr6_f : Nat → Nat, ∃ zr5_f : Nat → Int32, ∃ zr : Int32, (∀ j, j < 2 → zr6_f j ≤ 6000) ∧ (∀ (β : Type) (k_ : (Nat → Nat) → (Nat → Int32) → Int32 → β), rr β k_ = k_ zr6_f zr5_f zr) ∧ v_ = some (.int zr) ∧ w_ = [(m, .inr (11, mkF r m_1 m_4 m_9 m_10 m_14 m_15 m_25 m_26 m_27 m_28 m_29 m_31 m_32 m_33 m_35 m_36 m_37 m_38 m_39 m_40 m_42)), ((r 6), .inl (E.2.2.1 0, 2, .inl (iM zr6_f))), ((r 5), .inl (E.2.2.1 1, 12000, .inl (nb zr5_f))), ((r 7), .inl (E.2.2.1 1, 20000, .inl (nb r7_f)))])) (K : ∀ (pr5_f : Nat → Int32) (l2 : Nat), (l2 ≤ 6000) → (∀ (β : Type) (k_ : (Nat → Nat) → (Nat → Int32) → Int32 → β), rr β k_ = kx_ β k_ pr5_f l2) → G E X 3 [(m, .inr (11, mkF r m_1 m_4 m_9 m_10 m_14 m_15 m_25 m_26 m_27 m_28 m_29 m_31 m_32 m_33 m_35 m_36 m_37 m_38 m_39 m_40 m_42)), ((r 6), .inl (E.2.2.1 0, 2, .inl (iM r6_f))), ((r 5), .inl (E.2.2.1 1, 12000, .inl (nb pr5_f))), ((r 7), .inl (E.2.2.1 1, 20000, .inl (nb r7_f)))] 0 0 [(0, .ref m), (1, .int 0), (2, .int (nI l2))] 68 []) : ∀ (fuel : Nat) (pr5_f : Nat → Int32) (l2 : Nat), (l2 ≤ 6000) → (6000 - l2) < fuel → (∀ (β : Type) (k_ : (Nat → Nat) → (Nat → Int32) → Int32 → β), rr β k_ = lf_wr_X11_take_0_22 m_9 r7_f β (kx_ β k_) fuel pr5_f l2) → G E X 3 [(m, .inr (11, mkF r m_1 m_4 m_9 m_10 m_14 m_15 m_25 m_26 m_27 m_28 m_29 m_31 m_32 m_33 m_35 m_36 m_37 m_38 m_39 m_40 m_42)), ((r 6), .inl (E.2.2.1 0, 2, .inl (iM r6_f))), ((r 5), .inl (E.2.2.1 1, 12000, .inl (nb pr5_f))), ((r 7), .inl (E.2.2.1 1, 20000, .inl (nb r7_f)))] 0 0 [(0, .ref m), (1, .int 0), (2, .int (nI l2))] 22 [] := by
  intro fuel
  induction fuel with
  | zero => intro pr5_f l2 _ h _; exact absurd h (Nat.not_lt_zero _)
  | succ fuel ih =>
    intro pr5_f l2 hv0 hm e_
    replace e_ := fun β k_ => (e_ β k_).trans lf_wr_X11_take_0_22_s
    refine g_iload_n B dX11_take_22 rfl 2 rfl ?_
    refine g_aload_n B dX11_take_23 rfl 0 rfl ?_
    refine g_iload_n B dX11_take_24 rfl 1 rfl ?_
    refine g_callV (st := [.int (nI l2)]) (As := [.int 0]) (wr := [((r 6), .inl (E.2.2.1 0, 2, .inl (iM r6_f))), ((r 5), .inl (E.2.2.1 1, 12000, .inl (nb pr5_f))), ((r 7), .inl (E.2.2.1 1, 20000, .inl (nb r7_f)))]) (nc' := 0) (ns' := 0) B cl_X11_364 w_im_X11_size w_se_X11_size (wr_X11_size_0 E m r m_1 m_4 m_9 m_10 m_14 m_15 m_25 m_26 m_27 m_28 m_29 m_31 m_32 m_33 m_35 m_36 m_37 m_38 m_39 m_40 m_42 ) rfl [0] [1, 2, 3] rfl rfl (by decide) (by decide) (by decide) 0 rfl (fun q h => by cases h; rfl) rfl ⟨by decide, by decide⟩ rfl rfl (by decide) (by decide) rfl (Nat.le_of_ble_eq_true rfl) dX11_take_25 (fun v w hq => ?_)
    obtain ⟨rfl, rfl⟩ := hq
    show G E X 3 [((r 6), .inl (E.2.2.1 0, 2, .inl (iM r6_f))), ((r 5), .inl (E.2.2.1 1, 12000, .inl (nb pr5_f))), ((r 7), .inl (E.2.2.1 1, 20000, .inl (nb r7_f))), (m, .inr (11, mkF r m_1 m_4 m_9 m_10 m_14 m_15 m_25 m_26 m_27 m_28 m_29 m_31 m_32 m_33 m_35 m_36 m_37 m_38 m_39 m_40 m_42))] 0 0 [(0, .ref m), (1, .int 0), (2, .int (nI l2))] 28 [.int (nI m_9), .int (nI l2)]
    refine g_icmp_ge (tgt := 68) B dX11_take_28 (by decide) (fun c28_3969 => ?_) (fun c28_3969 => ?_)
    · have hn_3970 : m_9 ≤ l2 := (nI_leI (a := m_9) (b := l2) (by omega) (by omega)).mp c28_3969
      replace e_ := fun β k_ => (e_ β k_).trans (if_pos hn_3970)
      refine g_sub (ws' := [(m, .inr (11, mkF r m_1 m_4 m_9 m_10 m_14 m_15 m_25 m_26 m_27 m_28 m_29 m_31 m_32 m_33 m_35 m_36 m_37 m_38 m_39 m_40 m_42)), ((r 6), .inl (E.2.2.1 0, 2, .inl (iM r6_f))), ((r 5), .inl (E.2.2.1 1, 12000, .inl (nb pr5_f))), ((r 7), .inl (E.2.2.1 1, 20000, .inl (nb r7_f)))]) [3, 0, 1, 2] (by decide) rfl ?_
      exact K pr5_f l2 (by first | assumption | omega | decide | exact hCF _ (by omega)) e_
    · have hn_3971 : l2 < m_9 := Nat.not_le.mp (fun q => c28_3969 ((nI_leI (a := m_9) (b := l2) (by omega) (by omega)).mpr q))
      replace e_ := fun β k_ => (e_ β k_).trans (if_neg (Nat.not_le.mpr hn_3971))
      refine g_aload_n B dX11_take_31 rfl 0 rfl ?_
      refine g_get B 3 5 fl_X11_19 rfl mf_5 dX11_take_32 ?_
      refine g_sipush (v := 6000) B dX11_take_35 (by decide) ?_
      refine g_iload_n B dX11_take_38 rfl 1 rfl ?_
      refine g_imul B dX11_take_39 ?_
      refine g_ri (x' := 0) (by decide) ?_
      refine g_iload_n B dX11_take_40 rfl 2 rfl ?_
      refine g_iadd B dX11_take_41 ?_
      refine g_ri (x' := nI (0 + l2)) (nI_add 0 l2) ?_
      refine g_iload_n B dX11_take_42 rfl 1 rfl ?_
      refine g_if_ne (tgt := 55) B dX11_take_43 (by decide) (fun h => absurd (by decide) h) (fun c43 => ?_)
      refine g_aload_n B dX11_take_46 rfl 0 rfl ?_
      refine g_get B 3 7 fl_X11_26 rfl mf_7 dX11_take_47 ?_
      refine g_iload_n B dX11_take_50 rfl 2 rfl ?_
      refine g_bald B 2 rfl (vp_in_nI (by omega) (by omega)) dX11_take_51 ?_
      refine g_ri (x' := (nb r7_f l2)) (congrArg (nb r7_f) (nI_clamp (n := l2) (by omega))) ?_
      refine g_goto (tgt := 61) B dX11_take_52 (by decide) ?_
      refine g_bast (ws' := [((r 6), .inl (E.2.2.1 0, 2, .inl (iM r6_f))), ((r 5), .inl (E.2.2.1 1, 12000, .inl (nb (upd pr5_f (0 + l2) (nb r7_f l2))))), ((r 7), .inl (E.2.2.1 1, 20000, .inl (nb r7_f))), (m, .inr (11, mkF r m_1 m_4 m_9 m_10 m_14 m_15 m_25 m_26 m_27 m_28 m_29 m_31 m_32 m_33 m_35 m_36 m_37 m_38 m_39 m_40 m_42))]) B 1 rfl (vp_in_nI (by omega) (by omega)) (by rw [nb_upd, nI_clamp (n := (0 + l2)) (by omega)]; rfl) dX11_take_61 ?_
      refine g_iinc (v := nI (l2 + 1)) (lv' := [(2, .int (nI (l2 + 1))), (0, .ref m), (1, .int 0)]) B dX11_take_62 2 rfl (nI_add l2 1) (by decide) rfl ?_
      refine g_goto (tgt := 22) B dX11_take_65 (by decide) ?_
      refine g_sub (ws' := [(m, .inr (11, mkF r m_1 m_4 m_9 m_10 m_14 m_15 m_25 m_26 m_27 m_28 m_29 m_31 m_32 m_33 m_35 m_36 m_37 m_38 m_39 m_40 m_42)), ((r 6), .inl (E.2.2.1 0, 2, .inl (iM r6_f))), ((r 5), .inl (E.2.2.1 1, 12000, .inl (nb (upd pr5_f (0 + l2) (nb r7_f l2))))), ((r 7), .inl (E.2.2.1 1, 20000, .inl (nb r7_f)))]) [3, 0, 1, 2] (by decide) rfl ?_
      refine g_lvsub (lv' := [(0, .ref m), (1, .int 0), (2, .int (nI (l2 + 1)))]) [1, 2, 0] rfl ?_
      exact ih (upd pr5_f (0 + l2) (nb r7_f l2)) (l2 + 1) (by first | assumption | omega | decide | exact hCF _ (by omega)) (by omega) e_
theorem dX11_take_68 : decode cX11_take 68 = .ok (.aload_n 0, 1) := by decide +kernel
theorem dX11_take_69 : decode cX11_take 69 = .ok (.getfield 23, 3) := by decide +kernel
theorem dX11_take_72 : decode cX11_take 72 = .ok (.iload_n 1, 1) := by decide +kernel
theorem dX11_take_73 : decode cX11_take 73 = .ok (.aload_n 0, 1) := by decide +kernel
theorem dX11_take_74 : decode cX11_take 74 = .ok (.iload_n 1, 1) := by decide +kernel
theorem dX11_take_75 : decode cX11_take 75 = .ok (.invokevirtual 364, 3) := by decide +kernel
theorem dX11_take_78 : decode cX11_take 78 = .ok (.iastore, 1) := by decide +kernel
theorem dX11_take_79 : decode cX11_take 79 = .ok (.aload_n 0, 1) := by decide +kernel
theorem dX11_take_80 : decode cX11_take 80 = .ok (.getfield 23, 3) := by decide +kernel
theorem dX11_take_83 : decode cX11_take 83 = .ok (.iload_n 1, 1) := by decide +kernel
theorem dX11_take_84 : decode cX11_take 84 = .ok (.iaload, 1) := by decide +kernel
theorem dX11_take_85 : decode cX11_take 85 = .ok (.ireturn, 1) := by decide +kernel
set_option maxRecDepth 100000 in
def fn_wr_X11_take_0 (m_9 : Nat) (r6_f : Nat → Nat) (r5_f : Nat → Int32) (r7_f : Nat → Int32) (β : Type) (k_ : (Nat → Nat) → (Nat → Int32) → Int32 → β) : β := (if m_9 ≤ 6000 then (lf_wr_X11_take_0_22 m_9 r7_f β (fun y_3972pr5_f y_3972l2 => (k_ (updN r6_f 0 m_9) y_3972pr5_f (nI ((updN r6_f 0 m_9) 0)))) ((6000 - 0) + 1) r5_f 0) else (k_ r6_f r5_f (-1)))
set_option maxRecDepth 100000 in
theorem fn_wr_X11_take_0_s {m_9 : Nat} {r6_f : Nat → Nat} {r5_f : Nat → Int32} {r7_f : Nat → Int32} {β : Type} {k_ : (Nat → Nat) → (Nat → Int32) → Int32 → β} : fn_wr_X11_take_0 m_9 r6_f r5_f r7_f β k_ = (if m_9 ≤ 6000 then (lf_wr_X11_take_0_22 m_9 r7_f β (fun y_3972pr5_f y_3972l2 => (k_ (updN r6_f 0 m_9) y_3972pr5_f (nI ((updN r6_f 0 m_9) 0)))) ((6000 - 0) + 1) r5_f 0) else (k_ r6_f r5_f (-1))) := rfl
set_option maxRecDepth 100000 in
set_option maxHeartbeats 4000000 in
theorem wr_X11_take_0 (E : g_E) (m : Nat) (r : Nat → Nat) (m_1 : Nat) (m_4 : Nat) (m_9 : Nat) (m_10 : Nat) (m_14 : Nat) (m_15 : Nat) (m_25 : Int32) (m_26 : Int32) (m_27 : Int64) (m_28 : Nat) (m_29 : Nat) (m_31 : Nat) (m_32 : Nat) (m_33 : Nat) (m_35 : Nat) (m_36 : Nat) (m_37 : Int32) (m_38 : Nat) (m_39 : Int32) (m_40 : Int32) (m_42 : Nat) (r6_f : Nat → Nat) (r5_f : Nat → Int32) (r7_f : Nat → Int32) (hb0 : m_9 ≤ 20000) (ha0 : ∀ j, j < 2 → r6_f j ≤ 6000) : Ev E MX11_take 1 21 0 0 [.ref m, .int 0] [(m, .inr (11, mkF r m_1 m_4 m_9 m_10 m_14 m_15 m_25 m_26 m_27 m_28 m_29 m_31 m_32 m_33 m_35 m_36 m_37 m_38 m_39 m_40 m_42)), ((r 6), .inl (E.2.2.1 0, 2, .inl (iM r6_f))), ((r 5), .inl (E.2.2.1 1, 12000, .inl (nb r5_f))), ((r 7), .inl (E.2.2.1 1, 20000, .inl (nb r7_f)))] (fun v_ w_ => ∃ zr6_f : Nat → Nat, ∃ zr5_f : Nat → Int32, ∃ zr : Int32, (∀ j, j < 2 → zr6_f j ≤ 6000) ∧ (∀ (β : Type) (k_ : (Nat → Nat) → (Nat → Int32) → Int32 → β), fn_wr_X11_take_0 m_9 r6_f r5_f r7_f β k_ = k_ zr6_f zr5_f zr) ∧ v_ = some (.int zr) ∧ w_ = [(m, .inr (11, mkF r m_1 m_4 m_9 m_10 m_14 m_15 m_25 m_26 m_27 m_28 m_29 m_31 m_32 m_33 m_35 m_36 m_37 m_38 m_39 m_40 m_42)), ((r 6), .inl (E.2.2.1 0, 2, .inl (iM zr6_f))), ((r 5), .inl (E.2.2.1 1, 12000, .inl (nb zr5_f))), ((r 7), .inl (E.2.2.1 1, 20000, .inl (nb r7_f)))]) := by
  refine Ev.intro (by decide) (Nat.le_of_ble_eq_true rfl) ?_
  intro X B hr hI
  have B : Bd E X cX11_take RX11 3 1 21 0 0 := B
  have hr : Rt E X (some .int) 0 0 (fun v_ w_ => ∃ zr6_f : Nat → Nat, ∃ zr5_f : Nat → Int32, ∃ zr : Int32, (∀ j, j < 2 → zr6_f j ≤ 6000) ∧ (∀ (β : Type) (k_ : (Nat → Nat) → (Nat → Int32) → Int32 → β), fn_wr_X11_take_0 m_9 r6_f r5_f r7_f β k_ = k_ zr6_f zr5_f zr) ∧ v_ = some (.int zr) ∧ w_ = [(m, .inr (11, mkF r m_1 m_4 m_9 m_10 m_14 m_15 m_25 m_26 m_27 m_28 m_29 m_31 m_32 m_33 m_35 m_36 m_37 m_38 m_39 m_40 m_42)), ((r 6), .inl (E.2.2.1 0, 2, .inl (iM zr6_f))), ((r 5), .inl (E.2.2.1 1, 12000, .inl (nb zr5_f))), ((r 7), .inl (E.2.2.1 1, 20000, .inl (nb r7_f)))]) := hr
  have e_ := fun (β : Type) (k_ : (Nat → Nat) → (Nat → Int32) → Int32 → β) => fn_wr_X11_take_0_s (β := β) (k_ := k_) (m_9 := m_9) (r6_f := r6_f) (r5_f := r5_f) (r7_f := r7_f)
  show G E X 3 [(m, .inr (11, mkF r m_1 m_4 m_9 m_10 m_14 m_15 m_25 m_26 m_27 m_28 m_29 m_31 m_32 m_33 m_35 m_36 m_37 m_38 m_39 m_40 m_42)), ((r 6), .inl (E.2.2.1 0, 2, .inl (iM r6_f))), ((r 5), .inl (E.2.2.1 1, 12000, .inl (nb r5_f))), ((r 7), .inl (E.2.2.1 1, 20000, .inl (nb r7_f)))] 0 0 [(0, .ref m), (1, .int 0)] 0 []
  refine g_iload_n B dX11_take_0 rfl 1 rfl ?_
  refine g_callS (st := []) (As := [.int 0]) (wr := [(m, .inr (11, mkF r m_1 m_4 m_9 m_10 m_14 m_15 m_25 m_26 m_27 m_28 m_29 m_31 m_32 m_33 m_35 m_36 m_37 m_38 m_39 m_40 m_42)), ((r 6), .inl (E.2.2.1 0, 2, .inl (iM r6_f))), ((r 5), .inl (E.2.2.1 1, 12000, .inl (nb r5_f))), ((r 7), .inl (E.2.2.1 1, 20000, .inl (nb r7_f)))]) (nc' := 0) (ns' := 0) B cl_X11_361 w_sm_X11_noWhich (wr_X11_noWhich_0 E ) rfl [] [0, 1, 2, 3] rfl rfl (by decide) (by decide) (by decide) ⟨by decide, by decide⟩ rfl rfl (by decide) (by decide) rfl (Nat.le_of_ble_eq_true rfl) dX11_take_1 (fun v w hq => ?_)
  obtain ⟨rfl, rfl⟩ := hq
  show G E X 3 [(m, .inr (11, mkF r m_1 m_4 m_9 m_10 m_14 m_15 m_25 m_26 m_27 m_28 m_29 m_31 m_32 m_33 m_35 m_36 m_37 m_38 m_39 m_40 m_42)), ((r 6), .inl (E.2.2.1 0, 2, .inl (iM r6_f))), ((r 5), .inl (E.2.2.1 1, 12000, .inl (nb r5_f))), ((r 7), .inl (E.2.2.1 1, 20000, .inl (nb r7_f)))] 0 0 [(0, .ref m), (1, .int 0)] 4 [.int 0]
  refine g_if_ne (tgt := 18) B dX11_take_4 (by decide) (fun h => absurd (by decide) h) (fun c4 => ?_)
  refine g_aload_n B dX11_take_7 rfl 0 rfl ?_
  refine g_iload_n B dX11_take_8 rfl 1 rfl ?_
  refine g_callV (st := []) (As := [.int 0]) (wr := [((r 6), .inl (E.2.2.1 0, 2, .inl (iM r6_f))), ((r 5), .inl (E.2.2.1 1, 12000, .inl (nb r5_f))), ((r 7), .inl (E.2.2.1 1, 20000, .inl (nb r7_f)))]) (nc' := 0) (ns' := 0) B cl_X11_364 w_im_X11_size w_se_X11_size (wr_X11_size_0 E m r m_1 m_4 m_9 m_10 m_14 m_15 m_25 m_26 m_27 m_28 m_29 m_31 m_32 m_33 m_35 m_36 m_37 m_38 m_39 m_40 m_42 ) rfl [0] [1, 2, 3] rfl rfl (by decide) (by decide) (by decide) 0 rfl (fun q h => by cases h; rfl) rfl ⟨by decide, by decide⟩ rfl rfl (by decide) (by decide) rfl (Nat.le_of_ble_eq_true rfl) dX11_take_9 (fun v w hq => ?_)
  obtain ⟨rfl, rfl⟩ := hq
  show G E X 3 [((r 6), .inl (E.2.2.1 0, 2, .inl (iM r6_f))), ((r 5), .inl (E.2.2.1 1, 12000, .inl (nb r5_f))), ((r 7), .inl (E.2.2.1 1, 20000, .inl (nb r7_f))), (m, .inr (11, mkF r m_1 m_4 m_9 m_10 m_14 m_15 m_25 m_26 m_27 m_28 m_29 m_31 m_32 m_33 m_35 m_36 m_37 m_38 m_39 m_40 m_42))] 0 0 [(0, .ref m), (1, .int 0)] 12 [.int (nI m_9)]
  refine g_sipush (v := 6000) B dX11_take_12 (by decide) ?_
  refine g_icmp_le (tgt := 20) B dX11_take_15 (by decide) (fun c15_3965 => ?_) (fun c15_3965 => ?_)
  · have hn_3966 : m_9 ≤ 6000 := (nI_leI (a := m_9) (b := 6000) (by omega) (by omega)).mp c15_3965
    replace e_ := fun β k_ => (e_ β k_).trans (if_pos hn_3966)
    refine g_iconst (v := 0) B dX11_take_20 (by decide) ?_
    refine g_istore_n (lv' := [(2, .int 0), (0, .ref m), (1, .int 0)]) B dX11_take_21 rfl (by decide) rfl ?_
    refine g_sub (ws' := [(m, .inr (11, mkF r m_1 m_4 m_9 m_10 m_14 m_15 m_25 m_26 m_27 m_28 m_29 m_31 m_32 m_33 m_35 m_36 m_37 m_38 m_39 m_40 m_42)), ((r 6), .inl (E.2.2.1 0, 2, .inl (iM r6_f))), ((r 5), .inl (E.2.2.1 1, 12000, .inl (nb r5_f))), ((r 7), .inl (E.2.2.1 1, 20000, .inl (nb r7_f)))]) [3, 0, 1, 2] (by decide) rfl ?_
    refine g_lvsub (lv' := [(0, .ref m), (1, .int 0), (2, .int 0)]) [1, 2, 0] rfl ?_
    refine lp_wr_X11_take_0_22 E m r m_1 m_4 m_9 m_10 m_14 m_15 m_25 m_26 m_27 m_28 m_29 m_31 m_32 m_33 m_35 m_36 m_37 m_38 m_39 m_40 m_42 r6_f r5_f r7_f hb0 ha0  (by first | assumption | omega | decide | exact hCF _ (by omega)) _ B hr (fun y_3972pr5_f y_3972l2 y_3972k0 e_ => ?_) _ r5_f 0 (by first | assumption | omega | decide | exact hCF _ (by omega)) (Nat.lt_succ_self _) e_
    show G E X 3 [(m, .inr (11, mkF r m_1 m_4 m_9 m_10 m_14 m_15 m_25 m_26 m_27 m_28 m_29 m_31 m_32 m_33 m_35 m_36 m_37 m_38 m_39 m_40 m_42)), ((r 6), .inl (E.2.2.1 0, 2, .inl (iM r6_f))), ((r 5), .inl (E.2.2.1 1, 12000, .inl (nb y_3972pr5_f))), ((r 7), .inl (E.2.2.1 1, 20000, .inl (nb r7_f)))] 0 0 [(0, .ref m), (1, .int 0), (2, .int (nI y_3972l2))] 68 []
    refine g_aload_n B dX11_take_68 rfl 0 rfl ?_
    refine g_get B 0 6 fl_X11_23 rfl mf_6 dX11_take_69 ?_
    refine g_iload_n B dX11_take_72 rfl 1 rfl ?_
    refine g_aload_n B dX11_take_73 rfl 0 rfl ?_
    refine g_iload_n B dX11_take_74 rfl 1 rfl ?_
    refine g_callV (st := [.int 0, .ref (r 6)]) (As := [.int 0]) (wr := [((r 6), .inl (E.2.2.1 0, 2, .inl (iM r6_f))), ((r 5), .inl (E.2.2.1 1, 12000, .inl (nb y_3972pr5_f))), ((r 7), .inl (E.2.2.1 1, 20000, .inl (nb r7_f)))]) (nc' := 0) (ns' := 0) B cl_X11_364 w_im_X11_size w_se_X11_size (wr_X11_size_0 E m r m_1 m_4 m_9 m_10 m_14 m_15 m_25 m_26 m_27 m_28 m_29 m_31 m_32 m_33 m_35 m_36 m_37 m_38 m_39 m_40 m_42 ) rfl [0] [1, 2, 3] rfl rfl (by decide) (by decide) (by decide) 0 rfl (fun q h => by cases h; rfl) rfl ⟨by decide, by decide⟩ rfl rfl (by decide) (by decide) rfl (Nat.le_of_ble_eq_true rfl) dX11_take_75 (fun v w hq => ?_)
    obtain ⟨rfl, rfl⟩ := hq
    show G E X 3 [((r 6), .inl (E.2.2.1 0, 2, .inl (iM r6_f))), ((r 5), .inl (E.2.2.1 1, 12000, .inl (nb y_3972pr5_f))), ((r 7), .inl (E.2.2.1 1, 20000, .inl (nb r7_f))), (m, .inr (11, mkF r m_1 m_4 m_9 m_10 m_14 m_15 m_25 m_26 m_27 m_28 m_29 m_31 m_32 m_33 m_35 m_36 m_37 m_38 m_39 m_40 m_42))] 0 0 [(0, .ref m), (1, .int 0), (2, .int (nI y_3972l2))] 78 [.int (nI m_9), .int 0, .ref (r 6)]
    have ha_3974 := updN_le (i := 0) (x := m_9) ha0 (by omega)
    refine g_iast (ws' := [((r 6), .inl (E.2.2.1 0, 2, .inl (iM (updN r6_f 0 m_9)))), ((r 5), .inl (E.2.2.1 1, 12000, .inl (nb y_3972pr5_f))), ((r 7), .inl (E.2.2.1 1, 20000, .inl (nb r7_f))), (m, .inr (11, mkF r m_1 m_4 m_9 m_10 m_14 m_15 m_25 m_26 m_27 m_28 m_29 m_31 m_32 m_33 m_35 m_36 m_37 m_38 m_39 m_40 m_42))]) B 0 rfl (by unfold vp_in; decide) (by rw [show (upd (iM r6_f) (Int32.toNatClampNeg 0) (nI m_9)) = iM (updN r6_f 0 m_9) from iM_upd (f := r6_f) (i := 0) (x := m_9) (by omega)]; rfl) dX11_take_78 ?_
    refine g_aload_n B dX11_take_79 rfl 0 rfl ?_
    refine g_get B 3 6 fl_X11_23 rfl mf_6 dX11_take_80 ?_
    refine g_iload_n B dX11_take_83 rfl 1 rfl ?_
    refine g_iald B 0 rfl (by unfold vp_in; decide) dX11_take_84 ?_
    refine g_ri (x' := nI ((updN r6_f 0 m_9) 0)) (iM_at (f := (updN r6_f 0 m_9)) (i := 0) (by omega)) ?_
    have ha_3975 := ha_3974 0 (by omega)
    refine g_sub (ws' := [(m, .inr (11, mkF r m_1 m_4 m_9 m_10 m_14 m_15 m_25 m_26 m_27 m_28 m_29 m_31 m_32 m_33 m_35 m_36 m_37 m_38 m_39 m_40 m_42)), ((r 6), .inl (E.2.2.1 0, 2, .inl (iM (updN r6_f 0 m_9)))), ((r 5), .inl (E.2.2.1 1, 12000, .inl (nb y_3972pr5_f))), ((r 7), .inl (E.2.2.1 1, 20000, .inl (nb r7_f)))]) [3, 0, 1, 2] (by decide) rfl ?_
    exact g_iret B hr dX11_take_85 (by decide) (by decide) ⟨(updN r6_f 0 m_9), y_3972pr5_f, (nI ((updN r6_f 0 m_9) 0)), (by first | assumption | omega | decide | exact hCF _ (by omega)), e_, rfl, rfl⟩
  · have hn_3967 : 6000 < m_9 := Nat.not_le.mp (fun q => c15_3965 ((nI_leI (a := m_9) (b := 6000) (by omega) (by omega)).mpr q))
    replace e_ := fun β k_ => (e_ β k_).trans (if_neg (Nat.not_le.mpr hn_3967))
    refine g_iconst (v := (-1)) B dX11_take_18 (by decide) ?_
    refine g_sub (ws' := [(m, .inr (11, mkF r m_1 m_4 m_9 m_10 m_14 m_15 m_25 m_26 m_27 m_28 m_29 m_31 m_32 m_33 m_35 m_36 m_37 m_38 m_39 m_40 m_42)), ((r 6), .inl (E.2.2.1 0, 2, .inl (iM r6_f))), ((r 5), .inl (E.2.2.1 1, 12000, .inl (nb r5_f))), ((r 7), .inl (E.2.2.1 1, 20000, .inl (nb r7_f)))]) [3, 0, 1, 2] (by decide) rfl ?_
    exact g_iret B hr dX11_take_19 (by decide) (by decide) ⟨r6_f, r5_f, (-1), (by first | assumption | omega | decide | exact hCF _ (by omega)), e_, rfl, rfl⟩
theorem dX11_harm_7 : decode cX11_harm 7 = .ok (.iload_n 2, 1) := by decide +kernel
theorem dX11_harm_8 : decode cX11_harm 8 = .ok (.ifCond .lt 13, 3) := by decide +kernel
theorem dX11_harm_11 : decode cX11_harm 11 = .ok (.iload_n 2, 1) := by decide +kernel
theorem dX11_harm_12 : decode cX11_harm 12 = .ok (.aload_n 0, 1) := by decide +kernel
theorem dX11_harm_13 : decode cX11_harm 13 = .ok (.getfield 23, 3) := by decide +kernel
theorem dX11_harm_16 : decode cX11_harm 16 = .ok (.iload_n 1, 1) := by decide +kernel
theorem dX11_harm_17 : decode cX11_harm 17 = .ok (.iaload, 1) := by decide +kernel
theorem dX11_harm_18 : decode cX11_harm 18 = .ok (.if_icmp .lt 5, 3) := by decide +kernel
theorem dX11_harm_23 : decode cX11_harm 23 = .ok (.aload_n 0, 1) := by decide +kernel
theorem dX11_harm_24 : decode cX11_harm 24 = .ok (.getfield 19, 3) := by decide +kernel
theorem dX11_harm_27 : decode cX11_harm 27 = .ok (.sipush 6000, 3) := by decide +kernel
theorem dX11_harm_30 : decode cX11_harm 30 = .ok (.iload_n 1, 1) := by decide +kernel
theorem dX11_harm_31 : decode cX11_harm 31 = .ok (.imul, 1) := by decide +kernel
theorem dX11_harm_32 : decode cX11_harm 32 = .ok (.iload_n 2, 1) := by decide +kernel
theorem dX11_harm_33 : decode cX11_harm 33 = .ok (.iadd, 1) := by decide +kernel
theorem dX11_harm_34 : decode cX11_harm 34 = .ok (.dup2, 1) := by decide +kernel
theorem dX11_harm_35 : decode cX11_harm 35 = .ok (.baload, 1) := by decide +kernel
theorem dX11_harm_36 : decode cX11_harm 36 = .ok (.iload_n 3, 1) := by decide +kernel
theorem dX11_harm_37 : decode cX11_harm 37 = .ok (.i2b, 1) := by decide +kernel
theorem dX11_harm_38 : decode cX11_harm 38 = .ok (.ixor, 1) := by decide +kernel
theorem dX11_harm_39 : decode cX11_harm 39 = .ok (.i2b, 1) := by decide +kernel
theorem dX11_harm_40 : decode cX11_harm 40 = .ok (.bastore, 1) := by decide +kernel
theorem dX11_harm_41 : decode cX11_harm 41 = .ok (.iconst 1, 1) := by decide +kernel
theorem dX11_harm_42 : decode cX11_harm 42 = .ok (.ireturn, 1) := by decide +kernel
set_option maxRecDepth 100000 in
def fn_wr_X11_harm_0 (r6_f : Nat → Nat) (r5_f : Nat → Int32) (i : Int32) (b : Int32) (β : Type) (k_ : (Nat → Int32) → Int32 → β) : β := (if i < 0 then (k_ r5_f 0) else (if i < nI (r6_f 0) then (fnL (Int32.toNatClampNeg i) (fun j_3980 => (k_ (upd r5_f (0 + j_3980) (Int8.toInt32 (Int32.toInt8 ((nb r5_f (0 + j_3980)) ^^^ (Int8.toInt32 (Int32.toInt8 b)))))) 1))) else (k_ r5_f 0)))
set_option maxRecDepth 100000 in
theorem fn_wr_X11_harm_0_s {r6_f : Nat → Nat} {r5_f : Nat → Int32} {i : Int32} {b : Int32} {β : Type} {k_ : (Nat → Int32) → Int32 → β} : fn_wr_X11_harm_0 r6_f r5_f i b β k_ = (if i < 0 then (k_ r5_f 0) else (if i < nI (r6_f 0) then (fnL (Int32.toNatClampNeg i) (fun j_3980 => (k_ (upd r5_f (0 + j_3980) (Int8.toInt32 (Int32.toInt8 ((nb r5_f (0 + j_3980)) ^^^ (Int8.toInt32 (Int32.toInt8 b)))))) 1))) else (k_ r5_f 0))) := rfl
set_option maxRecDepth 100000 in
set_option maxHeartbeats 4000000 in
theorem wr_X11_harm_0 (E : g_E) (m : Nat) (r : Nat → Nat) (m_1 : Nat) (m_4 : Nat) (m_9 : Nat) (m_10 : Nat) (m_14 : Nat) (m_15 : Nat) (m_25 : Int32) (m_26 : Int32) (m_27 : Int64) (m_28 : Nat) (m_29 : Nat) (m_31 : Nat) (m_32 : Nat) (m_33 : Nat) (m_35 : Nat) (m_36 : Nat) (m_37 : Int32) (m_38 : Nat) (m_39 : Int32) (m_40 : Int32) (m_42 : Nat) (r6_f : Nat → Nat) (r5_f : Nat → Int32) (i : Int32) (b : Int32) (ha0 : ∀ j, j < 2 → r6_f j ≤ 6000) : Ev E MX11_harm 1 20 0 0 [.ref m, .int 0, .int i, .int b] [(m, .inr (11, mkF r m_1 m_4 m_9 m_10 m_14 m_15 m_25 m_26 m_27 m_28 m_29 m_31 m_32 m_33 m_35 m_36 m_37 m_38 m_39 m_40 m_42)), ((r 6), .inl (E.2.2.1 0, 2, .inl (iM r6_f))), ((r 5), .inl (E.2.2.1 1, 12000, .inl (nb r5_f)))] (fun v_ w_ => ∃ zr5_f : Nat → Int32, ∃ zr : Int32, (zr = 0 ∨ zr = 1) ∧ (∀ (β : Type) (k_ : (Nat → Int32) → Int32 → β), fn_wr_X11_harm_0 r6_f r5_f i b β k_ = k_ zr5_f zr) ∧ v_ = some (.int zr) ∧ w_ = [(m, .inr (11, mkF r m_1 m_4 m_9 m_10 m_14 m_15 m_25 m_26 m_27 m_28 m_29 m_31 m_32 m_33 m_35 m_36 m_37 m_38 m_39 m_40 m_42)), ((r 6), .inl (E.2.2.1 0, 2, .inl (iM r6_f))), ((r 5), .inl (E.2.2.1 1, 12000, .inl (nb zr5_f)))]) := by
  refine Ev.intro (by decide) (Nat.le_of_ble_eq_true rfl) ?_
  intro X B hr hI
  have B : Bd E X cX11_harm RX11 4 1 20 0 0 := B
  have hr : Rt E X (some .boolean) 0 0 (fun v_ w_ => ∃ zr5_f : Nat → Int32, ∃ zr : Int32, (zr = 0 ∨ zr = 1) ∧ (∀ (β : Type) (k_ : (Nat → Int32) → Int32 → β), fn_wr_X11_harm_0 r6_f r5_f i b β k_ = k_ zr5_f zr) ∧ v_ = some (.int zr) ∧ w_ = [(m, .inr (11, mkF r m_1 m_4 m_9 m_10 m_14 m_15 m_25 m_26 m_27 m_28 m_29 m_31 m_32 m_33 m_35 m_36 m_37 m_38 m_39 m_40 m_42)), ((r 6), .inl (E.2.2.1 0, 2, .inl (iM r6_f))), ((r 5), .inl (E.2.2.1 1, 12000, .inl (nb zr5_f)))]) := hr
  have e_ := fun (β : Type) (k_ : (Nat → Int32) → Int32 → β) => fn_wr_X11_harm_0_s (β := β) (k_ := k_) (r6_f := r6_f) (r5_f := r5_f) (i := i) (b := b)
  show G E X 4 [(m, .inr (11, mkF r m_1 m_4 m_9 m_10 m_14 m_15 m_25 m_26 m_27 m_28 m_29 m_31 m_32 m_33 m_35 m_36 m_37 m_38 m_39 m_40 m_42)), ((r 6), .inl (E.2.2.1 0, 2, .inl (iM r6_f))), ((r 5), .inl (E.2.2.1 1, 12000, .inl (nb r5_f)))] 0 0 [(0, .ref m), (1, .int 0), (2, .int i), (3, .int b)] 0 []
  refine g_iload_n B dX11_harm_0 rfl 1 rfl ?_
  refine g_callS (st := []) (As := [.int 0]) (wr := [(m, .inr (11, mkF r m_1 m_4 m_9 m_10 m_14 m_15 m_25 m_26 m_27 m_28 m_29 m_31 m_32 m_33 m_35 m_36 m_37 m_38 m_39 m_40 m_42)), ((r 6), .inl (E.2.2.1 0, 2, .inl (iM r6_f))), ((r 5), .inl (E.2.2.1 1, 12000, .inl (nb r5_f)))]) (nc' := 0) (ns' := 0) B cl_X11_361 w_sm_X11_noWhich (wr_X11_noWhich_0 E ) rfl [] [0, 1, 2] rfl rfl (by decide) (by decide) (by decide) ⟨by decide, by decide⟩ rfl rfl (by decide) (by decide) rfl (Nat.le_of_ble_eq_true rfl) dX11_harm_1 (fun v w hq => ?_)
  obtain ⟨rfl, rfl⟩ := hq
  show G E X 4 [(m, .inr (11, mkF r m_1 m_4 m_9 m_10 m_14 m_15 m_25 m_26 m_27 m_28 m_29 m_31 m_32 m_33 m_35 m_36 m_37 m_38 m_39 m_40 m_42)), ((r 6), .inl (E.2.2.1 0, 2, .inl (iM r6_f))), ((r 5), .inl (E.2.2.1 1, 12000, .inl (nb r5_f)))] 0 0 [(0, .ref m), (1, .int 0), (2, .int i), (3, .int b)] 4 [.int 0]
  refine g_if_ne (tgt := 21) B dX11_harm_4 (by decide) (fun h => absurd (by decide) h) (fun c4 => ?_)
  refine g_iload_n B dX11_harm_7 rfl 2 rfl ?_
  refine g_if_lt (tgt := 21) B dX11_harm_8 (by decide) (fun c8_3977 => ?_) (fun c8_3977 => ?_)
  · replace e_ := fun β k_ => (e_ β k_).trans (if_pos c8_3977)
    refine g_iconst (v := 0) B dX11_harm_21 (by decide) ?_
    exact g_zret B hr (by decide) dX11_harm_22 (by decide) (by decide) ⟨r5_f, 0, (by first | assumption | omega | decide | exact hCF _ (by omega)), e_, rfl, rfl⟩
  · replace e_ := fun β k_ => (e_ β k_).trans (if_neg c8_3977)
    refine g_iload_n B dX11_harm_11 rfl 2 rfl ?_
    refine g_aload_n B dX11_harm_12 rfl 0 rfl ?_
    refine g_get B 0 6 fl_X11_23 rfl mf_6 dX11_harm_13 ?_
    refine g_iload_n B dX11_harm_16 rfl 1 rfl ?_
    refine g_iald B 1 rfl (by unfold vp_in; decide) dX11_harm_17 ?_
    refine g_ri (x' := nI (r6_f 0)) (iM_at (f := r6_f) (i := 0) (by omega)) ?_
    have ha_3978 := ha0 0 (by omega)
    refine g_icmp_lt (tgt := 23) B dX11_harm_18 (by decide) (fun c18_3979 => ?_) (fun c18_3979 => ?_)
    · replace e_ := fun β k_ => (e_ β k_).trans (if_pos c18_3979)
      obtain ⟨j_3980, hj_3980, rfl⟩ := ix_lt (n := (r6_f 0)) (by omega) c8_3977 c18_3979
      replace e_ := fun β k_ => (e_ β k_).trans (fnL_eq (x := j_3980) (nI_clamp (by omega)) _)
      refine g_aload_n B dX11_harm_23 rfl 0 rfl ?_
      refine g_get B 0 5 fl_X11_19 rfl mf_5 dX11_harm_24 ?_
      refine g_sipush (v := 6000) B dX11_harm_27 (by decide) ?_
      refine g_iload_n B dX11_harm_30 rfl 1 rfl ?_
      refine g_imul B dX11_harm_31 ?_
      refine g_ri (x' := 0) (by decide) ?_
      refine g_iload_n B dX11_harm_32 rfl 2 rfl ?_
      refine g_iadd B dX11_harm_33 ?_
      refine g_ri (x' := nI (0 + j_3980)) (nI_add 0 j_3980) ?_
      refine g_dup2_11 B dX11_harm_34 rfl rfl ?_
      refine g_bald B 2 rfl (vp_in_nI (by omega) (by omega)) dX11_harm_35 ?_
      refine g_ri (x' := (nb r5_f (0 + j_3980))) (congrArg (nb r5_f) (nI_clamp (n := (0 + j_3980)) (by omega))) ?_
      refine g_iload_n B dX11_harm_36 rfl 3 rfl ?_
      refine g_i2b B dX11_harm_37 ?_
      refine g_ixor B dX11_harm_38 ?_
      refine g_i2b B dX11_harm_39 ?_
      refine g_bast (ws' := [(m, .inr (11, mkF r m_1 m_4 m_9 m_10 m_14 m_15 m_25 m_26 m_27 m_28 m_29 m_31 m_32 m_33 m_35 m_36 m_37 m_38 m_39 m_40 m_42)), ((r 6), .inl (E.2.2.1 0, 2, .inl (iM r6_f))), ((r 5), .inl (E.2.2.1 1, 12000, .inl (nb (upd r5_f (0 + j_3980) (Int8.toInt32 (Int32.toInt8 ((nb r5_f (0 + j_3980)) ^^^ (Int8.toInt32 (Int32.toInt8 b)))))))))]) B 2 rfl (vp_in_nI (by omega) (by omega)) (by rw [nb_upd, nI_clamp (n := (0 + j_3980)) (by omega)]; rfl) dX11_harm_40 ?_
      refine g_iconst (v := 1) B dX11_harm_41 (by decide) ?_
      exact g_zret B hr (by decide) dX11_harm_42 (by decide) (by decide) ⟨(upd r5_f (0 + j_3980) (Int8.toInt32 (Int32.toInt8 ((nb r5_f (0 + j_3980)) ^^^ (Int8.toInt32 (Int32.toInt8 b)))))), 1, (by first | assumption | omega | decide | exact hCF _ (by omega)), e_, rfl, rfl⟩
    · replace e_ := fun β k_ => (e_ β k_).trans (if_neg c18_3979)
      refine g_iconst (v := 0) B dX11_harm_21 (by decide) ?_
      exact g_zret B hr (by decide) dX11_harm_22 (by decide) (by decide) ⟨r5_f, 0, (by first | assumption | omega | decide | exact hCF _ (by omega)), e_, rfl, rfl⟩
theorem dX11_seal_7 : decode cX11_seal 7 = .ok (.aload_n 0, 1) := by decide +kernel
theorem dX11_seal_8 : decode cX11_seal 8 = .ok (.getfield 23, 3) := by decide +kernel
theorem dX11_seal_11 : decode cX11_seal 11 = .ok (.iload_n 1, 1) := by decide +kernel
theorem dX11_seal_12 : decode cX11_seal 12 = .ok (.iaload, 1) := by decide +kernel
theorem dX11_seal_13 : decode cX11_seal 13 = .ok (.iconst 5, 1) := by decide +kernel
theorem dX11_seal_14 : decode cX11_seal 14 = .ok (.if_icmp .ge 5, 3) := by decide +kernel
theorem dX11_seal_19 : decode cX11_seal 19 = .ok (.sipush 6000, 3) := by decide +kernel
theorem dX11_seal_22 : decode cX11_seal 22 = .ok (.iload_n 1, 1) := by decide +kernel
theorem dX11_seal_23 : decode cX11_seal 23 = .ok (.imul, 1) := by decide +kernel
theorem dX11_seal_24 : decode cX11_seal 24 = .ok (.istore_n 2, 1) := by decide +kernel
theorem dX11_seal_25 : decode cX11_seal 25 = .ok (.aload_n 0, 1) := by decide +kernel
theorem dX11_seal_26 : decode cX11_seal 26 = .ok (.getfield 19, 3) := by decide +kernel
theorem dX11_seal_29 : decode cX11_seal 29 = .ok (.iload_n 2, 1) := by decide +kernel
theorem dX11_seal_30 : decode cX11_seal 30 = .ok (.aload_n 0, 1) := by decide +kernel
theorem dX11_seal_31 : decode cX11_seal 31 = .ok (.getfield 23, 3) := by decide +kernel
theorem dX11_seal_34 : decode cX11_seal 34 = .ok (.iload_n 1, 1) := by decide +kernel
theorem dX11_seal_35 : decode cX11_seal 35 = .ok (.iaload, 1) := by decide +kernel
theorem dX11_seal_36 : decode cX11_seal 36 = .ok (.iadd, 1) := by decide +kernel
theorem dX11_seal_37 : decode cX11_seal 37 = .ok (.iconst 4, 1) := by decide +kernel
theorem dX11_seal_38 : decode cX11_seal 38 = .ok (.isub, 1) := by decide +kernel
theorem dX11_seal_39 : decode cX11_seal 39 = .ok (.aload_n 0, 1) := by decide +kernel
theorem dX11_seal_40 : decode cX11_seal 40 = .ok (.getfield 19, 3) := by decide +kernel
theorem dX11_seal_43 : decode cX11_seal 43 = .ok (.iload_n 2, 1) := by decide +kernel
theorem dX11_seal_44 : decode cX11_seal 44 = .ok (.aload_n 0, 1) := by decide +kernel
theorem dX11_seal_45 : decode cX11_seal 45 = .ok (.getfield 23, 3) := by decide +kernel
theorem dX11_seal_48 : decode cX11_seal 48 = .ok (.iload_n 1, 1) := by decide +kernel
theorem dX11_seal_49 : decode cX11_seal 49 = .ok (.iaload, 1) := by decide +kernel
theorem dX11_seal_50 : decode cX11_seal 50 = .ok (.iconst 4, 1) := by decide +kernel
theorem dX11_seal_51 : decode cX11_seal 51 = .ok (.isub, 1) := by decide +kernel
theorem dX11_seal_52 : decode cX11_seal 52 = .ok (.invokestatic 259, 3) := by decide +kernel
theorem dX11_seal_55 : decode cX11_seal 55 = .ok (.invokestatic 263, 3) := by decide +kernel
theorem dX11_seal_58 : decode cX11_seal 58 = .ok (.iconst 1, 1) := by decide +kernel
theorem dX11_seal_59 : decode cX11_seal 59 = .ok (.ireturn, 1) := by decide +kernel
set_option maxRecDepth 100000 in
def fn_wr_X11_seal_0 (r6_f : Nat → Nat) (r5_f : Nat → Int32) (β : Type) (k_ : (Nat → Int32) → Int32 → β) : β := (if 5 ≤ (r6_f 0) then (fn_wr_X11_crc 0 ((r6_f 0) - 4) r5_f β (fun zr_3988 => (fn_wr_X11_putInt ((0 + (r6_f 0)) - 4) r5_f zr_3988 β (fun ztf_3990 => (k_ ztf_3990 1))))) else (k_ r5_f 0))
set_option maxRecDepth 100000 in
theorem fn_wr_X11_seal_0_s {r6_f : Nat → Nat} {r5_f : Nat → Int32} {β : Type} {k_ : (Nat → Int32) → Int32 → β} : fn_wr_X11_seal_0 r6_f r5_f β k_ = (if 5 ≤ (r6_f 0) then (fn_wr_X11_crc 0 ((r6_f 0) - 4) r5_f β (fun zr_3988 => (fn_wr_X11_putInt ((0 + (r6_f 0)) - 4) r5_f zr_3988 β (fun ztf_3990 => (k_ ztf_3990 1))))) else (k_ r5_f 0)) := rfl
set_option maxRecDepth 100000 in
set_option maxHeartbeats 4000000 in
theorem wr_X11_seal_0 (E : g_E) (m : Nat) (r : Nat → Nat) (m_1 : Nat) (m_4 : Nat) (m_9 : Nat) (m_10 : Nat) (m_14 : Nat) (m_15 : Nat) (m_25 : Int32) (m_26 : Int32) (m_27 : Int64) (m_28 : Nat) (m_29 : Nat) (m_31 : Nat) (m_32 : Nat) (m_33 : Nat) (m_35 : Nat) (m_36 : Nat) (m_37 : Int32) (m_38 : Nat) (m_39 : Int32) (m_40 : Int32) (m_42 : Nat) (r6_f : Nat → Nat) (r5_f : Nat → Int32) (ha0 : ∀ j, j < 2 → r6_f j ≤ 6000) : Ev E MX11_seal 1 25 0 0 [.ref m, .int 0] [(m, .inr (11, mkF r m_1 m_4 m_9 m_10 m_14 m_15 m_25 m_26 m_27 m_28 m_29 m_31 m_32 m_33 m_35 m_36 m_37 m_38 m_39 m_40 m_42)), ((r 6), .inl (E.2.2.1 0, 2, .inl (iM r6_f))), ((r 5), .inl (E.2.2.1 1, 12000, .inl (nb r5_f)))] (fun v_ w_ => ∃ zr5_f : Nat → Int32, ∃ zr : Int32, (zr = 0 ∨ zr = 1) ∧ (∀ (β : Type) (k_ : (Nat → Int32) → Int32 → β), fn_wr_X11_seal_0 r6_f r5_f β k_ = k_ zr5_f zr) ∧ v_ = some (.int zr) ∧ w_ = [(m, .inr (11, mkF r m_1 m_4 m_9 m_10 m_14 m_15 m_25 m_26 m_27 m_28 m_29 m_31 m_32 m_33 m_35 m_36 m_37 m_38 m_39 m_40 m_42)), ((r 6), .inl (E.2.2.1 0, 2, .inl (iM r6_f))), ((r 5), .inl (E.2.2.1 1, 12000, .inl (nb zr5_f)))]) := by
  refine Ev.intro (by decide) (Nat.le_of_ble_eq_true rfl) ?_
  intro X B hr hI
  have B : Bd E X cX11_seal RX11 3 1 25 0 0 := B
  have hr : Rt E X (some .boolean) 0 0 (fun v_ w_ => ∃ zr5_f : Nat → Int32, ∃ zr : Int32, (zr = 0 ∨ zr = 1) ∧ (∀ (β : Type) (k_ : (Nat → Int32) → Int32 → β), fn_wr_X11_seal_0 r6_f r5_f β k_ = k_ zr5_f zr) ∧ v_ = some (.int zr) ∧ w_ = [(m, .inr (11, mkF r m_1 m_4 m_9 m_10 m_14 m_15 m_25 m_26 m_27 m_28 m_29 m_31 m_32 m_33 m_35 m_36 m_37 m_38 m_39 m_40 m_42)), ((r 6), .inl (E.2.2.1 0, 2, .inl (iM r6_f))), ((r 5), .inl (E.2.2.1 1, 12000, .inl (nb zr5_f)))]) := hr
  have e_ := fun (β : Type) (k_ : (Nat → Int32) → Int32 → β) => fn_wr_X11_seal_0_s (β := β) (k_ := k_) (r6_f := r6_f) (r5_f := r5_f)
  show G E X 3 [(m, .inr (11, mkF r m_1 m_4 m_9 m_10 m_14 m_15 m_25 m_26 m_27 m_28 m_29 m_31 m_32 m_33 m_35 m_36 m_37 m_38 m_39 m_40 m_42)), ((r 6), .inl (E.2.2.1 0, 2, .inl (iM r6_f))), ((r 5), .inl (E.2.2.1 1, 12000, .inl (nb r5_f)))] 0 0 [(0, .ref m), (1, .int 0)] 0 []
  refine g_iload_n B dX11_seal_0 rfl 1 rfl ?_
  refine g_callS (st := []) (As := [.int 0]) (wr := [(m, .inr (11, mkF r m_1 m_4 m_9 m_10 m_14 m_15 m_25 m_26 m_27 m_28 m_29 m_31 m_32 m_33 m_35 m_36 m_37 m_38 m_39 m_40 m_42)), ((r 6), .inl (E.2.2.1 0, 2, .inl (iM r6_f))), ((r 5), .inl (E.2.2.1 1, 12000, .inl (nb r5_f)))]) (nc' := 0) (ns' := 0) B cl_X11_361 w_sm_X11_noWhich (wr_X11_noWhich_0 E ) rfl [] [0, 1, 2] rfl rfl (by decide) (by decide) (by decide) ⟨by decide, by decide⟩ rfl rfl (by decide) (by decide) rfl (Nat.le_of_ble_eq_true rfl) dX11_seal_1 (fun v w hq => ?_)
  obtain ⟨rfl, rfl⟩ := hq
  show G E X 3 [(m, .inr (11, mkF r m_1 m_4 m_9 m_10 m_14 m_15 m_25 m_26 m_27 m_28 m_29 m_31 m_32 m_33 m_35 m_36 m_37 m_38 m_39 m_40 m_42)), ((r 6), .inl (E.2.2.1 0, 2, .inl (iM r6_f))), ((r 5), .inl (E.2.2.1 1, 12000, .inl (nb r5_f)))] 0 0 [(0, .ref m), (1, .int 0)] 4 [.int 0]
  refine g_if_ne (tgt := 17) B dX11_seal_4 (by decide) (fun h => absurd (by decide) h) (fun c4 => ?_)
  refine g_aload_n B dX11_seal_7 rfl 0 rfl ?_
  refine g_get B 0 6 fl_X11_23 rfl mf_6 dX11_seal_8 ?_
  refine g_iload_n B dX11_seal_11 rfl 1 rfl ?_
  refine g_iald B 1 rfl (by unfold vp_in; decide) dX11_seal_12 ?_
  refine g_ri (x' := nI (r6_f 0)) (iM_at (f := r6_f) (i := 0) (by omega)) ?_
  have ha_3982 := ha0 0 (by omega)
  refine g_iconst (v := 5) B dX11_seal_13 (by decide) ?_
  refine g_icmp_ge (tgt := 19) B dX11_seal_14 (by decide) (fun c14_3983 => ?_) (fun c14_3983 => ?_)
  · have hn_3984 : 5 ≤ (r6_f 0) := (nI_leI (a := 5) (b := (r6_f 0)) (by omega) (by omega)).mp c14_3983
    replace e_ := fun β k_ => (e_ β k_).trans (if_pos hn_3984)
    refine g_sipush (v := 6000) B dX11_seal_19 (by decide) ?_
    refine g_iload_n B dX11_seal_22 rfl 1 rfl ?_
    refine g_imul B dX11_seal_23 ?_
    refine g_ri (x' := 0) (by decide) ?_
    refine g_istore_n (lv' := [(2, .int 0), (0, .ref m), (1, .int 0)]) B dX11_seal_24 rfl (by decide) rfl ?_
    refine g_aload_n B dX11_seal_25 rfl 1 rfl ?_
    refine g_get B 0 5 fl_X11_19 rfl mf_5 dX11_seal_26 ?_
    refine g_iload_n B dX11_seal_29 rfl 0 rfl ?_
    refine g_aload_n B dX11_seal_30 rfl 1 rfl ?_
    refine g_get B 0 6 fl_X11_23 rfl mf_6 dX11_seal_31 ?_
    refine g_iload_n B dX11_seal_34 rfl 2 rfl ?_
    refine g_iald B 1 rfl (by unfold vp_in; decide) dX11_seal_35 ?_
    refine g_ri (x' := nI (r6_f 0)) (iM_at (f := r6_f) (i := 0) (by omega)) ?_
    have ha_3986 := ha0 0 (by omega)
    refine g_iadd B dX11_seal_36 ?_
    refine g_ri (x' := nI (0 + (r6_f 0))) (nI_add 0 (r6_f 0)) ?_
    refine g_iconst (v := 4) B dX11_seal_37 (by decide) ?_
    refine g_isub B dX11_seal_38 ?_
    refine g_ri (x' := nI ((0 + (r6_f 0)) - 4)) (pk_sub (a := (0 + (r6_f 0))) (b := 4) (by omega)) ?_
    refine g_aload_n B dX11_seal_39 rfl 1 rfl ?_
    refine g_get B 0 5 fl_X11_19 rfl mf_5 dX11_seal_40 ?_
    refine g_iload_n B dX11_seal_43 rfl 0 rfl ?_
    refine g_aload_n B dX11_seal_44 rfl 1 rfl ?_
    refine g_get B 0 6 fl_X11_23 rfl mf_6 dX11_seal_45 ?_
    refine g_iload_n B dX11_seal_48 rfl 2 rfl ?_
    refine g_iald B 1 rfl (by unfold vp_in; decide) dX11_seal_49 ?_
    refine g_ri (x' := nI (r6_f 0)) (iM_at (f := r6_f) (i := 0) (by omega)) ?_
    have ha_3987 := ha0 0 (by omega)
    refine g_iconst (v := 4) B dX11_seal_50 (by decide) ?_
    refine g_isub B dX11_seal_51 ?_
    refine g_ri (x' := nI ((r6_f 0) - 4)) (pk_sub (a := (r6_f 0)) (b := 4) (by omega)) ?_
    refine g_callS (st := [.int (nI ((0 + (r6_f 0)) - 4)), .ref (r 5)]) (As := [.ref (r 5), .int 0, .int (nI ((r6_f 0) - 4))]) (wr := [(m, .inr (11, mkF r m_1 m_4 m_9 m_10 m_14 m_15 m_25 m_26 m_27 m_28 m_29 m_31 m_32 m_33 m_35 m_36 m_37 m_38 m_39 m_40 m_42)), ((r 6), .inl (E.2.2.1 0, 2, .inl (iM r6_f)))]) (nc' := 0) (ns' := 0) B cl_X11_259 w_sm_X11_crc (wr_X11_crc E (r 5) 12000 0 ((r6_f 0) - 4) r5_f (by first | assumption | omega | decide | exact hCF _ (by omega)) (by first | assumption | omega | decide | exact hCF _ (by omega))) rfl [2] [0, 1] rfl rfl (by decide) (by decide) (by decide) ⟨by decide, by decide⟩ rfl rfl (by decide) (by decide) rfl (Nat.le_of_ble_eq_true rfl) dX11_seal_52 (fun v w hq => ?_)
    obtain ⟨zr_3988, hz_3989, rfl, rfl⟩ := hq
    replace e_ := fun β k_ => (e_ β k_).trans (hz_3989 β _)
    show G E X 3 [(m, .inr (11, mkF r m_1 m_4 m_9 m_10 m_14 m_15 m_25 m_26 m_27 m_28 m_29 m_31 m_32 m_33 m_35 m_36 m_37 m_38 m_39 m_40 m_42)), ((r 6), .inl (E.2.2.1 0, 2, .inl (iM r6_f))), ((r 5), .inl (E.2.2.1 1, 12000, .inl (nb r5_f)))] 0 0 [(2, .int 0), (0, .ref m), (1, .int 0)] 55 [.int zr_3988, .int (nI ((0 + (r6_f 0)) - 4)), .ref (r 5)]
    refine g_callS (st := []) (As := [.ref (r 5), .int (nI ((0 + (r6_f 0)) - 4)), .int zr_3988]) (wr := [(m, .inr (11, mkF r m_1 m_4 m_9 m_10 m_14 m_15 m_25 m_26 m_27 m_28 m_29 m_31 m_32 m_33 m_35 m_36 m_37 m_38 m_39 m_40 m_42)), ((r 6), .inl (E.2.2.1 0, 2, .inl (iM r6_f)))]) (nc' := 0) (ns' := 0) B cl_X11_263 w_sm_X11_putInt (wr_X11_putInt E (r 5) 12000 ((0 + (r6_f 0)) - 4) r5_f zr_3988 (by first | assumption | omega | decide | exact hCF _ (by omega)) (by first | assumption | omega | decide | exact hCF _ (by omega))) rfl [2] [0, 1] rfl rfl (by decide) (by decide) (by decide) ⟨by decide, by decide⟩ rfl rfl (by decide) (by decide) rfl (Nat.le_of_ble_eq_true rfl) dX11_seal_55 (fun v w hq => ?_)
    obtain ⟨ztf_3990, hz_3991, rfl, rfl⟩ := hq
    replace e_ := fun β k_ => (e_ β k_).trans (hz_3991 β _)
    show G E X 3 [(m, .inr (11, mkF r m_1 m_4 m_9 m_10 m_14 m_15 m_25 m_26 m_27 m_28 m_29 m_31 m_32 m_33 m_35 m_36 m_37 m_38 m_39 m_40 m_42)), ((r 6), .inl (E.2.2.1 0, 2, .inl (iM r6_f))), ((r 5), .inl (E.2.2.1 1, 12000, .inl (nb ztf_3990)))] 0 0 [(2, .int 0), (0, .ref m), (1, .int 0)] 58 []
    refine g_iconst (v := 1) B dX11_seal_58 (by decide) ?_
    exact g_zret B hr (by decide) dX11_seal_59 (by decide) (by decide) ⟨ztf_3990, 1, (by first | assumption | omega | decide | exact hCF _ (by omega)), e_, rfl, rfl⟩
  · have hn_3985 : (r6_f 0) < 5 := Nat.not_le.mp (fun q => c14_3983 ((nI_leI (a := 5) (b := (r6_f 0)) (by omega) (by omega)).mpr q))
    replace e_ := fun β k_ => (e_ β k_).trans (if_neg (Nat.not_le.mpr hn_3985))
    refine g_iconst (v := 0) B dX11_seal_17 (by decide) ?_
    exact g_zret B hr (by decide) dX11_seal_18 (by decide) (by decide) ⟨r5_f, 0, (by first | assumption | omega | decide | exact hCF _ (by omega)), e_, rfl, rfl⟩
theorem dX11_out_35 : decode cX11_out 35 = .ok (.aload_n 0, 1) := by decide +kernel
theorem dX11_out_36 : decode cX11_out 36 = .ok (.getfield 29, 3) := by decide +kernel
theorem dX11_out_39 : decode cX11_out 39 = .ok (.iload_n 2, 1) := by decide +kernel
theorem dX11_out_40 : decode cX11_out 40 = .ok (.baload, 1) := by decide +kernel
set_option maxRecDepth 100000 in
def fn_wr_X11_out_1 (m_10 : Nat) (r8_f : Nat → Int32) (i : Int32) (β : Type) (k_ : Int32 → β) : β := (if i < 0 then (k_ (-1)) else (if i < nI m_10 then (fnL (Int32.toNatClampNeg i) (fun j_3996 => (k_ (nI (((nb r8_f j_3996)).toBitVec.toNat % 256))))) else (k_ (-1))))
set_option maxRecDepth 100000 in
theorem fn_wr_X11_out_1_s {m_10 : Nat} {r8_f : Nat → Int32} {i : Int32} {β : Type} {k_ : Int32 → β} : fn_wr_X11_out_1 m_10 r8_f i β k_ = (if i < 0 then (k_ (-1)) else (if i < nI m_10 then (fnL (Int32.toNatClampNeg i) (fun j_3996 => (k_ (nI (((nb r8_f j_3996)).toBitVec.toNat % 256))))) else (k_ (-1)))) := rfl
set_option maxRecDepth 100000 in
set_option maxHeartbeats 4000000 in
theorem wr_X11_out_1 (E : g_E) (m : Nat) (r : Nat → Nat) (m_1 : Nat) (m_4 : Nat) (m_9 : Nat) (m_10 : Nat) (m_14 : Nat) (m_15 : Nat) (m_25 : Int32) (m_26 : Int32) (m_27 : Int64) (m_28 : Nat) (m_29 : Nat) (m_31 : Nat) (m_32 : Nat) (m_33 : Nat) (m_35 : Nat) (m_36 : Nat) (m_37 : Int32) (m_38 : Nat) (m_39 : Int32) (m_40 : Int32) (m_42 : Nat) (r8_f : Nat → Int32) (i : Int32) (hb0 : m_10 ≤ 20000) : Ev E MX11_out 1 21 0 0 [.ref m, .int 1, .int i] [(m, .inr (11, mkF r m_1 m_4 m_9 m_10 m_14 m_15 m_25 m_26 m_27 m_28 m_29 m_31 m_32 m_33 m_35 m_36 m_37 m_38 m_39 m_40 m_42)), ((r 8), .inl (E.2.2.1 1, 20000, .inl (nb r8_f)))] (fun v_ w_ => ∃ zr : Int32, (∀ (β : Type) (k_ : Int32 → β), fn_wr_X11_out_1 m_10 r8_f i β k_ = k_ zr) ∧ v_ = some (.int zr) ∧ w_ = [(m, .inr (11, mkF r m_1 m_4 m_9 m_10 m_14 m_15 m_25 m_26 m_27 m_28 m_29 m_31 m_32 m_33 m_35 m_36 m_37 m_38 m_39 m_40 m_42)), ((r 8), .inl (E.2.2.1 1, 20000, .inl (nb r8_f)))]) := by
  refine Ev.intro (by decide) (Nat.le_of_ble_eq_true rfl) ?_
  intro X B hr hI
  have B : Bd E X cX11_out RX11 3 1 21 0 0 := B
  have hr : Rt E X (some .int) 0 0 (fun v_ w_ => ∃ zr : Int32, (∀ (β : Type) (k_ : Int32 → β), fn_wr_X11_out_1 m_10 r8_f i β k_ = k_ zr) ∧ v_ = some (.int zr) ∧ w_ = [(m, .inr (11, mkF r m_1 m_4 m_9 m_10 m_14 m_15 m_25 m_26 m_27 m_28 m_29 m_31 m_32 m_33 m_35 m_36 m_37 m_38 m_39 m_40 m_42)), ((r 8), .inl (E.2.2.1 1, 20000, .inl (nb r8_f)))]) := hr
  have e_ := fun (β : Type) (k_ : Int32 → β) => fn_wr_X11_out_1_s (β := β) (k_ := k_) (m_10 := m_10) (r8_f := r8_f) (i := i)
  show G E X 3 [(m, .inr (11, mkF r m_1 m_4 m_9 m_10 m_14 m_15 m_25 m_26 m_27 m_28 m_29 m_31 m_32 m_33 m_35 m_36 m_37 m_38 m_39 m_40 m_42)), ((r 8), .inl (E.2.2.1 1, 20000, .inl (nb r8_f)))] 0 0 [(0, .ref m), (1, .int 1), (2, .int i)] 0 []
  refine g_iload_n B dX11_out_0 rfl 1 rfl ?_
  refine g_callS (st := []) (As := [.int 1]) (wr := [(m, .inr (11, mkF r m_1 m_4 m_9 m_10 m_14 m_15 m_25 m_26 m_27 m_28 m_29 m_31 m_32 m_33 m_35 m_36 m_37 m_38 m_39 m_40 m_42)), ((r 8), .inl (E.2.2.1 1, 20000, .inl (nb r8_f)))]) (nc' := 0) (ns' := 0) B cl_X11_361 w_sm_X11_noWhich (wr_X11_noWhich_1 E ) rfl [] [0, 1] rfl rfl (by decide) (by decide) (by decide) ⟨by decide, by decide⟩ rfl rfl (by decide) (by decide) rfl (Nat.le_of_ble_eq_true rfl) dX11_out_1 (fun v w hq => ?_)
  obtain ⟨rfl, rfl⟩ := hq
  show G E X 3 [(m, .inr (11, mkF r m_1 m_4 m_9 m_10 m_14 m_15 m_25 m_26 m_27 m_28 m_29 m_31 m_32 m_33 m_35 m_36 m_37 m_38 m_39 m_40 m_42)), ((r 8), .inl (E.2.2.1 1, 20000, .inl (nb r8_f)))] 0 0 [(0, .ref m), (1, .int 1), (2, .int i)] 4 [.int 0]
  refine g_if_ne (tgt := 20) B dX11_out_4 (by decide) (fun h => absurd (by decide) h) (fun c4 => ?_)
  refine g_iload_n B dX11_out_7 rfl 2 rfl ?_
  refine g_if_lt (tgt := 20) B dX11_out_8 (by decide) (fun c8_3993 => ?_) (fun c8_3993 => ?_)
  · replace e_ := fun β k_ => (e_ β k_).trans (if_pos c8_3993)
    refine g_iconst (v := (-1)) B dX11_out_20 (by decide) ?_
    exact g_iret B hr dX11_out_21 (by decide) (by decide) ⟨(-1), e_, rfl, rfl⟩
  · replace e_ := fun β k_ => (e_ β k_).trans (if_neg c8_3993)
    refine g_iload_n B dX11_out_11 rfl 2 rfl ?_
    refine g_aload_n B dX11_out_12 rfl 0 rfl ?_
    refine g_iload_n B dX11_out_13 rfl 1 rfl ?_
    refine g_callV (st := [.int i]) (As := [.int 1]) (wr := [((r 8), .inl (E.2.2.1 1, 20000, .inl (nb r8_f)))]) (nc' := 0) (ns' := 0) B cl_X11_364 w_im_X11_size w_se_X11_size (wr_X11_size_1 E m r m_1 m_4 m_9 m_10 m_14 m_15 m_25 m_26 m_27 m_28 m_29 m_31 m_32 m_33 m_35 m_36 m_37 m_38 m_39 m_40 m_42 ) rfl [0] [1] rfl rfl (by decide) (by decide) (by decide) 0 rfl (fun q h => by cases h; rfl) rfl ⟨by decide, by decide⟩ rfl rfl (by decide) (by decide) rfl (Nat.le_of_ble_eq_true rfl) dX11_out_14 (fun v w hq => ?_)
    obtain ⟨rfl, rfl⟩ := hq
    show G E X 3 [((r 8), .inl (E.2.2.1 1, 20000, .inl (nb r8_f))), (m, .inr (11, mkF r m_1 m_4 m_9 m_10 m_14 m_15 m_25 m_26 m_27 m_28 m_29 m_31 m_32 m_33 m_35 m_36 m_37 m_38 m_39 m_40 m_42))] 0 0 [(0, .ref m), (1, .int 1), (2, .int i)] 17 [.int (nI m_10), .int i]
    refine g_icmp_lt (tgt := 22) B dX11_out_17 (by decide) (fun c17_3995 => ?_) (fun c17_3995 => ?_)
    · replace e_ := fun β k_ => (e_ β k_).trans (if_pos c17_3995)
      obtain ⟨j_3996, hj_3996, rfl⟩ := ix_lt (n := m_10) (by omega) c8_3993 c17_3995
      replace e_ := fun β k_ => (e_ β k_).trans (fnL_eq (x := j_3996) (nI_clamp (by omega)) _)
      refine g_iload_n B dX11_out_22 rfl 1 rfl ?_
      refine g_if_ne (tgt := 35) B dX11_out_23 (by decide) (fun c23 => ?_) (fun h => absurd h (by decide))
      refine g_aload_n B dX11_out_35 rfl 0 rfl ?_
      refine g_get B 1 8 fl_X11_29 rfl mf_8 dX11_out_36 ?_
      refine g_iload_n B dX11_out_39 rfl 2 rfl ?_
      refine g_bald B 0 rfl (vp_in_nI (by omega) (by omega)) dX11_out_40 ?_
      refine g_ri (x' := (nb r8_f j_3996)) (congrArg (nb r8_f) (nI_clamp (n := j_3996) (by omega))) ?_
      refine g_sipush (v := 255) B dX11_out_41 (by decide) ?_
      refine g_iand B dX11_out_44 ?_
      refine g_ri (x' := nI (((nb r8_f j_3996)).toBitVec.toNat % 256)) (pk_and (nb r8_f j_3996) (m := 255) 8 (by decide)) ?_
      refine g_sub (ws' := [(m, .inr (11, mkF r m_1 m_4 m_9 m_10 m_14 m_15 m_25 m_26 m_27 m_28 m_29 m_31 m_32 m_33 m_35 m_36 m_37 m_38 m_39 m_40 m_42)), ((r 8), .inl (E.2.2.1 1, 20000, .inl (nb r8_f)))]) [1, 0] (by decide) rfl ?_
      exact g_iret B hr dX11_out_45 (by decide) (by decide) ⟨(nI (((nb r8_f j_3996)).toBitVec.toNat % 256)), e_, rfl, rfl⟩
    · replace e_ := fun β k_ => (e_ β k_).trans (if_neg c17_3995)
      refine g_iconst (v := (-1)) B dX11_out_20 (by decide) ?_
      refine g_sub (ws' := [(m, .inr (11, mkF r m_1 m_4 m_9 m_10 m_14 m_15 m_25 m_26 m_27 m_28 m_29 m_31 m_32 m_33 m_35 m_36 m_37 m_38 m_39 m_40 m_42)), ((r 8), .inl (E.2.2.1 1, 20000, .inl (nb r8_f)))]) [1, 0] (by decide) rfl ?_
      exact g_iret B hr dX11_out_21 (by decide) (by decide) ⟨(-1), e_, rfl, rfl⟩
set_option maxRecDepth 100000 in
def fn_wr_X11_feed_1 (r6_f : Nat → Nat) (r5_f : Nat → Int32) (a1 : Int32) (a2 : Int32) (a3 : Int32) (β : Type) (k_ : (Nat → Nat) → (Nat → Int32) → Int32 → β) : β := (if ((r6_f 1) + 12) ≤ 6000 then (fn_wr_X11_putInt (6000 + (r6_f 1)) r5_f a1 β (fun ztf_4003 => (fn_wr_X11_putInt ((6000 + (r6_f 1)) + 4) ztf_4003 a2 β (fun ztf_4005 => (fn_wr_X11_putInt ((6000 + (r6_f 1)) + 8) ztf_4005 a3 β (fun ztf_4007 => (k_ (updN r6_f 1 ((r6_f 1) + 12)) ztf_4007 (nI ((updN r6_f 1 ((r6_f 1) + 12)) 1))))))))) else (k_ r6_f r5_f (-1)))
set_option maxRecDepth 100000 in
theorem fn_wr_X11_feed_1_s {r6_f : Nat → Nat} {r5_f : Nat → Int32} {a1 : Int32} {a2 : Int32} {a3 : Int32} {β : Type} {k_ : (Nat → Nat) → (Nat → Int32) → Int32 → β} : fn_wr_X11_feed_1 r6_f r5_f a1 a2 a3 β k_ = (if ((r6_f 1) + 12) ≤ 6000 then (fn_wr_X11_putInt (6000 + (r6_f 1)) r5_f a1 β (fun ztf_4003 => (fn_wr_X11_putInt ((6000 + (r6_f 1)) + 4) ztf_4003 a2 β (fun ztf_4005 => (fn_wr_X11_putInt ((6000 + (r6_f 1)) + 8) ztf_4005 a3 β (fun ztf_4007 => (k_ (updN r6_f 1 ((r6_f 1) + 12)) ztf_4007 (nI ((updN r6_f 1 ((r6_f 1) + 12)) 1))))))))) else (k_ r6_f r5_f (-1))) := rfl
set_option maxRecDepth 100000 in
set_option maxHeartbeats 4000000 in
theorem wr_X11_feed_1 (E : g_E) (m : Nat) (r : Nat → Nat) (m_1 : Nat) (m_4 : Nat) (m_9 : Nat) (m_10 : Nat) (m_14 : Nat) (m_15 : Nat) (m_25 : Int32) (m_26 : Int32) (m_27 : Int64) (m_28 : Nat) (m_29 : Nat) (m_31 : Nat) (m_32 : Nat) (m_33 : Nat) (m_35 : Nat) (m_36 : Nat) (m_37 : Int32) (m_38 : Nat) (m_39 : Int32) (m_40 : Int32) (m_42 : Nat) (r6_f : Nat → Nat) (r5_f : Nat → Int32) (a1 : Int32) (a2 : Int32) (a3 : Int32) (ha0 : ∀ j, j < 2 → r6_f j ≤ 6000) : Ev E MX11_feed 1 23 0 0 [.ref m, .int 1, .int a1, .int a2, .int a3] [(m, .inr (11, mkF r m_1 m_4 m_9 m_10 m_14 m_15 m_25 m_26 m_27 m_28 m_29 m_31 m_32 m_33 m_35 m_36 m_37 m_38 m_39 m_40 m_42)), ((r 6), .inl (E.2.2.1 0, 2, .inl (iM r6_f))), ((r 5), .inl (E.2.2.1 1, 12000, .inl (nb r5_f)))] (fun v_ w_ => ∃ zr6_f : Nat → Nat, ∃ zr5_f : Nat → Int32, ∃ zr : Int32, (∀ j, j < 2 → zr6_f j ≤ 6000) ∧ (∀ (β : Type) (k_ : (Nat → Nat) → (Nat → Int32) → Int32 → β), fn_wr_X11_feed_1 r6_f r5_f a1 a2 a3 β k_ = k_ zr6_f zr5_f zr) ∧ v_ = some (.int zr) ∧ w_ = [(m, .inr (11, mkF r m_1 m_4 m_9 m_10 m_14 m_15 m_25 m_26 m_27 m_28 m_29 m_31 m_32 m_33 m_35 m_36 m_37 m_38 m_39 m_40 m_42)), ((r 6), .inl (E.2.2.1 0, 2, .inl (iM zr6_f))), ((r 5), .inl (E.2.2.1 1, 12000, .inl (nb zr5_f)))]) := by
  refine Ev.intro (by decide) (Nat.le_of_ble_eq_true rfl) ?_
  intro X B hr hI
  have B : Bd E X cX11_feed RX11 6 1 23 0 0 := B
  have hr : Rt E X (some .int) 0 0 (fun v_ w_ => ∃ zr6_f : Nat → Nat, ∃ zr5_f : Nat → Int32, ∃ zr : Int32, (∀ j, j < 2 → zr6_f j ≤ 6000) ∧ (∀ (β : Type) (k_ : (Nat → Nat) → (Nat → Int32) → Int32 → β), fn_wr_X11_feed_1 r6_f r5_f a1 a2 a3 β k_ = k_ zr6_f zr5_f zr) ∧ v_ = some (.int zr) ∧ w_ = [(m, .inr (11, mkF r m_1 m_4 m_9 m_10 m_14 m_15 m_25 m_26 m_27 m_28 m_29 m_31 m_32 m_33 m_35 m_36 m_37 m_38 m_39 m_40 m_42)), ((r 6), .inl (E.2.2.1 0, 2, .inl (iM zr6_f))), ((r 5), .inl (E.2.2.1 1, 12000, .inl (nb zr5_f)))]) := hr
  have e_ := fun (β : Type) (k_ : (Nat → Nat) → (Nat → Int32) → Int32 → β) => fn_wr_X11_feed_1_s (β := β) (k_ := k_) (r6_f := r6_f) (r5_f := r5_f) (a1 := a1) (a2 := a2) (a3 := a3)
  show G E X 6 [(m, .inr (11, mkF r m_1 m_4 m_9 m_10 m_14 m_15 m_25 m_26 m_27 m_28 m_29 m_31 m_32 m_33 m_35 m_36 m_37 m_38 m_39 m_40 m_42)), ((r 6), .inl (E.2.2.1 0, 2, .inl (iM r6_f))), ((r 5), .inl (E.2.2.1 1, 12000, .inl (nb r5_f)))] 0 0 [(0, .ref m), (1, .int 1), (2, .int a1), (3, .int a2), (4, .int a3)] 0 []
  refine g_iload_n B dX11_feed_0 rfl 1 rfl ?_
  refine g_callS (st := []) (As := [.int 1]) (wr := [(m, .inr (11, mkF r m_1 m_4 m_9 m_10 m_14 m_15 m_25 m_26 m_27 m_28 m_29 m_31 m_32 m_33 m_35 m_36 m_37 m_38 m_39 m_40 m_42)), ((r 6), .inl (E.2.2.1 0, 2, .inl (iM r6_f))), ((r 5), .inl (E.2.2.1 1, 12000, .inl (nb r5_f)))]) (nc' := 0) (ns' := 0) B cl_X11_361 w_sm_X11_noWhich (wr_X11_noWhich_1 E ) rfl [] [0, 1, 2] rfl rfl (by decide) (by decide) (by decide) ⟨by decide, by decide⟩ rfl rfl (by decide) (by decide) rfl (Nat.le_of_ble_eq_true rfl) dX11_feed_1 (fun v w hq => ?_)
  obtain ⟨rfl, rfl⟩ := hq
  show G E X 6 [(m, .inr (11, mkF r m_1 m_4 m_9 m_10 m_14 m_15 m_25 m_26 m_27 m_28 m_29 m_31 m_32 m_33 m_35 m_36 m_37 m_38 m_39 m_40 m_42)), ((r 6), .inl (E.2.2.1 0, 2, .inl (iM r6_f))), ((r 5), .inl (E.2.2.1 1, 12000, .inl (nb r5_f)))] 0 0 [(0, .ref m), (1, .int 1), (2, .int a1), (3, .int a2), (4, .int a3)] 4 [.int 0]
  refine g_if_ne (tgt := 22) B dX11_feed_4 (by decide) (fun h => absurd (by decide) h) (fun c4 => ?_)
  refine g_aload_n B dX11_feed_7 rfl 0 rfl ?_
  refine g_get B 0 6 fl_X11_23 rfl mf_6 dX11_feed_8 ?_
  refine g_iload_n B dX11_feed_11 rfl 1 rfl ?_
  refine g_iald B 1 rfl (by unfold vp_in; decide) dX11_feed_12 ?_
  refine g_ri (x' := nI (r6_f 1)) (iM_at (f := r6_f) (i := 1) (by omega)) ?_
  have ha_3998 := ha0 1 (by omega)
  refine g_bipush (v := 12) B dX11_feed_13 (by decide) ?_
  refine g_iadd B dX11_feed_15 ?_
  refine g_ri (x' := nI ((r6_f 1) + 12)) (nI_add (r6_f 1) 12) ?_
  refine g_sipush (v := 6000) B dX11_feed_16 (by decide) ?_
  refine g_icmp_le (tgt := 24) B dX11_feed_19 (by decide) (fun c19_3999 => ?_) (fun c19_3999 => ?_)
  · have hn_4000 : ((r6_f 1) + 12) ≤ 6000 := (nI_leI (a := ((r6_f 1) + 12)) (b := 6000) (by omega) (by omega)).mp c19_3999
    replace e_ := fun β k_ => (e_ β k_).trans (if_pos hn_4000)
    refine g_sipush (v := 6000) B dX11_feed_24 (by decide) ?_
    refine g_iload_n B dX11_feed_27 rfl 1 rfl ?_
    refine g_imul B dX11_feed_28 ?_
    refine g_ri (x' := 6000) (by decide) ?_
    refine g_aload_n B dX11_feed_29 rfl 0 rfl ?_
    refine g_get B 0 6 fl_X11_23 rfl mf_6 dX11_feed_30 ?_
    refine g_iload_n B dX11_feed_33 rfl 1 rfl ?_
    refine g_iald B 1 rfl (by unfold vp_in; decide) dX11_feed_34 ?_
    refine g_ri (x' := nI (r6_f 1)) (iM_at (f := r6_f) (i := 1) (by omega)) ?_
    have ha_4002 := ha0 1 (by omega)
    refine g_iadd B dX11_feed_35 ?_
    refine g_ri (x' := nI (6000 + (r6_f 1))) (nI_add 6000 (r6_f 1)) ?_
    refine g_istore (lv' := [(5, .int (nI (6000 + (r6_f 1)))), (0, .ref m), (1, .int 1), (2, .int a1), (3, .int a2), (4, .int a3)]) B dX11_feed_36 (by decide) rfl ?_
    refine g_aload_n B dX11_feed_38 rfl 1 rfl ?_
    refine g_get B 0 5 fl_X11_19 rfl mf_5 dX11_feed_39 ?_
    refine g_iload B dX11_feed_42 0 rfl ?_
    refine g_iload_n B dX11_feed_44 rfl 3 rfl ?_
    refine g_callS (st := []) (As := [.ref (r 5), .int (nI (6000 + (r6_f 1))), .int a1]) (wr := [(m, .inr (11, mkF r m_1 m_4 m_9 m_10 m_14 m_15 m_25 m_26 m_27 m_28 m_29 m_31 m_32 m_33 m_35 m_36 m_37 m_38 m_39 m_40 m_42)), ((r 6), .inl (E.2.2.1 0, 2, .inl (iM r6_f)))]) (nc' := 0) (ns' := 0) B cl_X11_263 w_sm_X11_putInt (wr_X11_putInt E (r 5) 12000 (6000 + (r6_f 1)) r5_f a1 (by first | assumption | omega | decide | exact hCF _ (by omega)) (by first | assumption | omega | decide | exact hCF _ (by omega))) rfl [2] [0, 1] rfl rfl (by decide) (by decide) (by decide) ⟨by decide, by decide⟩ rfl rfl (by decide) (by decide) rfl (Nat.le_of_ble_eq_true rfl) dX11_feed_45 (fun v w hq => ?_)
    obtain ⟨ztf_4003, hz_4004, rfl, rfl⟩ := hq
    replace e_ := fun β k_ => (e_ β k_).trans (hz_4004 β _)
    show G E X 6 [(m, .inr (11, mkF r m_1 m_4 m_9 m_10 m_14 m_15 m_25 m_26 m_27 m_28 m_29 m_31 m_32 m_33 m_35 m_36 m_37 m_38 m_39 m_40 m_42)), ((r 6), .inl (E.2.2.1 0, 2, .inl (iM r6_f))), ((r 5), .inl (E.2.2.1 1, 12000, .inl (nb ztf_4003)))] 0 0 [(5, .int (nI (6000 + (r6_f 1)))), (0, .ref m), (1, .int 1), (2, .int a1), (3, .int a2), (4, .int a3)] 48 []
    refine g_aload_n B dX11_feed_48 rfl 1 rfl ?_
    refine g_get B 0 5 fl_X11_19 rfl mf_5 dX11_feed_49 ?_
    refine g_iload B dX11_feed_52 0 rfl ?_
    refine g_iconst (v := 4) B dX11_feed_54 (by decide) ?_
    refine g_iadd B dX11_feed_55 ?_
    refine g_ri (x' := nI ((6000 + (r6_f 1)) + 4)) (nI_add (6000 + (r6_f 1)) 4) ?_
    refine g_iload_n B dX11_feed_56 rfl 4 rfl ?_
    refine g_callS (st := []) (As := [.ref (r 5), .int (nI ((6000 + (r6_f 1)) + 4)), .int a2]) (wr := [(m, .inr (11, mkF r m_1 m_4 m_9 m_10 m_14 m_15 m_25 m_26 m_27 m_28 m_29 m_31 m_32 m_33 m_35 m_36 m_37 m_38 m_39 m_40 m_42)), ((r 6), .inl (E.2.2.1 0, 2, .inl (iM r6_f)))]) (nc' := 0) (ns' := 0) B cl_X11_263 w_sm_X11_putInt (wr_X11_putInt E (r 5) 12000 ((6000 + (r6_f 1)) + 4) ztf_4003 a2 (by first | assumption | omega | decide | exact hCF _ (by omega)) (by first | assumption | omega | decide | exact hCF _ (by omega))) rfl [2] [0, 1] rfl rfl (by decide) (by decide) (by decide) ⟨by decide, by decide⟩ rfl rfl (by decide) (by decide) rfl (Nat.le_of_ble_eq_true rfl) dX11_feed_57 (fun v w hq => ?_)
    obtain ⟨ztf_4005, hz_4006, rfl, rfl⟩ := hq
    replace e_ := fun β k_ => (e_ β k_).trans (hz_4006 β _)
    show G E X 6 [(m, .inr (11, mkF r m_1 m_4 m_9 m_10 m_14 m_15 m_25 m_26 m_27 m_28 m_29 m_31 m_32 m_33 m_35 m_36 m_37 m_38 m_39 m_40 m_42)), ((r 6), .inl (E.2.2.1 0, 2, .inl (iM r6_f))), ((r 5), .inl (E.2.2.1 1, 12000, .inl (nb ztf_4005)))] 0 0 [(5, .int (nI (6000 + (r6_f 1)))), (0, .ref m), (1, .int 1), (2, .int a1), (3, .int a2), (4, .int a3)] 60 []
    refine g_aload_n B dX11_feed_60 rfl 1 rfl ?_
    refine g_get B 0 5 fl_X11_19 rfl mf_5 dX11_feed_61 ?_
    refine g_iload B dX11_feed_64 0 rfl ?_
    refine g_bipush (v := 8) B dX11_feed_66 (by decide) ?_
    refine g_iadd B dX11_feed_68 ?_
    refine g_ri (x' := nI ((6000 + (r6_f 1)) + 8)) (nI_add (6000 + (r6_f 1)) 8) ?_
    refine g_iload B dX11_feed_69 5 rfl ?_
    refine g_callS (st := []) (As := [.ref (r 5), .int (nI ((6000 + (r6_f 1)) + 8)), .int a3]) (wr := [(m, .inr (11, mkF r m_1 m_4 m_9 m_10 m_14 m_15 m_25 m_26 m_27 m_28 m_29 m_31 m_32 m_33 m_35 m_36 m_37 m_38 m_39 m_40 m_42)), ((r 6), .inl (E.2.2.1 0, 2, .inl (iM r6_f)))]) (nc' := 0) (ns' := 0) B cl_X11_263 w_sm_X11_putInt (wr_X11_putInt E (r 5) 12000 ((6000 + (r6_f 1)) + 8) ztf_4005 a3 (by first | assumption | omega | decide | exact hCF _ (by omega)) (by first | assumption | omega | decide | exact hCF _ (by omega))) rfl [2] [0, 1] rfl rfl (by decide) (by decide) (by decide) ⟨by decide, by decide⟩ rfl rfl (by decide) (by decide) rfl (Nat.le_of_ble_eq_true rfl) dX11_feed_71 (fun v w hq => ?_)
    obtain ⟨ztf_4007, hz_4008, rfl, rfl⟩ := hq
    replace e_ := fun β k_ => (e_ β k_).trans (hz_4008 β _)
    show G E X 6 [(m, .inr (11, mkF r m_1 m_4 m_9 m_10 m_14 m_15 m_25 m_26 m_27 m_28 m_29 m_31 m_32 m_33 m_35 m_36 m_37 m_38 m_39 m_40 m_42)), ((r 6), .inl (E.2.2.1 0, 2, .inl (iM r6_f))), ((r 5), .inl (E.2.2.1 1, 12000, .inl (nb ztf_4007)))] 0 0 [(5, .int (nI (6000 + (r6_f 1)))), (0, .ref m), (1, .int 1), (2, .int a1), (3, .int a2), (4, .int a3)] 74 []
    refine g_aload_n B dX11_feed_74 rfl 1 rfl ?_
    refine g_get B 0 6 fl_X11_23 rfl mf_6 dX11_feed_75 ?_
    refine g_iload_n B dX11_feed_78 rfl 2 rfl ?_
    refine g_dup2_11 B dX11_feed_79 rfl rfl ?_
    refine g_iald B 1 rfl (by unfold vp_in; decide) dX11_feed_80 ?_
    refine g_ri (x' := nI (r6_f 1)) (iM_at (f := r6_f) (i := 1) (by omega)) ?_
    have ha_4009 := ha0 1 (by omega)
    refine g_bipush (v := 12) B dX11_feed_81 (by decide) ?_
    refine g_iadd B dX11_feed_83 ?_
    refine g_ri (x' := nI ((r6_f 1) + 12)) (nI_add (r6_f 1) 12) ?_
    have ha_4010 := updN_le (i := 1) (x := ((r6_f 1) + 12)) ha0 (by omega)
    refine g_iast (ws' := [(m, .inr (11, mkF r m_1 m_4 m_9 m_10 m_14 m_15 m_25 m_26 m_27 m_28 m_29 m_31 m_32 m_33 m_35 m_36 m_37 m_38 m_39 m_40 m_42)), ((r 6), .inl (E.2.2.1 0, 2, .inl (iM (updN r6_f 1 ((r6_f 1) + 12))))), ((r 5), .inl (E.2.2.1 1, 12000, .inl (nb ztf_4007)))]) B 1 rfl (by unfold vp_in; decide) (by rw [show (upd (iM r6_f) (Int32.toNatClampNeg 1) (nI ((r6_f 1) + 12))) = iM (updN r6_f 1 ((r6_f 1) + 12)) from iM_upd (f := r6_f) (i := 1) (x := ((r6_f 1) + 12)) (by omega)]; rfl) dX11_feed_84 ?_
    refine g_aload_n B dX11_feed_85 rfl 1 rfl ?_
    refine g_get B 0 6 fl_X11_23 rfl mf_6 dX11_feed_86 ?_
    refine g_iload_n B dX11_feed_89 rfl 2 rfl ?_
    refine g_iald B 1 rfl (by unfold vp_in; decide) dX11_feed_90 ?_
    refine g_ri (x' := nI ((updN r6_f 1 ((r6_f 1) + 12)) 1)) (iM_at (f := (updN r6_f 1 ((r6_f 1) + 12))) (i := 1) (by omega)) ?_
    have ha_4011 := ha_4010 1 (by omega)
    exact g_iret B hr dX11_feed_91 (by decide) (by decide) ⟨(updN r6_f 1 ((r6_f 1) + 12)), ztf_4007, (nI ((updN r6_f 1 ((r6_f 1) + 12)) 1)), (by first | assumption | omega | decide | exact hCF _ (by omega)), e_, rfl, rfl⟩
  · have hn_4001 : 6000 < ((r6_f 1) + 12) := Nat.not_le.mp (fun q => c19_3999 ((nI_leI (a := ((r6_f 1) + 12)) (b := 6000) (by omega) (by omega)).mpr q))
    replace e_ := fun β k_ => (e_ β k_).trans (if_neg (Nat.not_le.mpr hn_4001))
    refine g_iconst (v := (-1)) B dX11_feed_22 (by decide) ?_
    exact g_iret B hr dX11_feed_23 (by decide) (by decide) ⟨r6_f, r5_f, (-1), (by first | assumption | omega | decide | exact hCF _ (by omega)), e_, rfl, rfl⟩
set_option maxRecDepth 100000 in
def fn_wr_X11_end_1 (r6_f : Nat → Nat) (n : Int32) (β : Type) (k_ : (Nat → Nat) → Int32 → β) : β := (if n < 0 then (k_ r6_f 0) else (if n ≤ nI (r6_f 1) then (fnL (Int32.toNatClampNeg n) (fun j_4016 => (k_ (updN r6_f 1 j_4016) 1))) else (k_ r6_f 0)))
set_option maxRecDepth 100000 in
theorem fn_wr_X11_end_1_s {r6_f : Nat → Nat} {n : Int32} {β : Type} {k_ : (Nat → Nat) → Int32 → β} : fn_wr_X11_end_1 r6_f n β k_ = (if n < 0 then (k_ r6_f 0) else (if n ≤ nI (r6_f 1) then (fnL (Int32.toNatClampNeg n) (fun j_4016 => (k_ (updN r6_f 1 j_4016) 1))) else (k_ r6_f 0))) := rfl
set_option maxRecDepth 100000 in
set_option maxHeartbeats 4000000 in
theorem wr_X11_end_1 (E : g_E) (m : Nat) (r : Nat → Nat) (m_1 : Nat) (m_4 : Nat) (m_9 : Nat) (m_10 : Nat) (m_14 : Nat) (m_15 : Nat) (m_25 : Int32) (m_26 : Int32) (m_27 : Int64) (m_28 : Nat) (m_29 : Nat) (m_31 : Nat) (m_32 : Nat) (m_33 : Nat) (m_35 : Nat) (m_36 : Nat) (m_37 : Int32) (m_38 : Nat) (m_39 : Int32) (m_40 : Int32) (m_42 : Nat) (r6_f : Nat → Nat) (n : Int32) (ha0 : ∀ j, j < 2 → r6_f j ≤ 6000) : Ev E MX11_end 1 20 0 0 [.ref m, .int 1, .int n] [(m, .inr (11, mkF r m_1 m_4 m_9 m_10 m_14 m_15 m_25 m_26 m_27 m_28 m_29 m_31 m_32 m_33 m_35 m_36 m_37 m_38 m_39 m_40 m_42)), ((r 6), .inl (E.2.2.1 0, 2, .inl (iM r6_f)))] (fun v_ w_ => ∃ zr6_f : Nat → Nat, ∃ zr : Int32, (∀ j, j < 2 → zr6_f j ≤ 6000) ∧ (zr = 0 ∨ zr = 1) ∧ (∀ (β : Type) (k_ : (Nat → Nat) → Int32 → β), fn_wr_X11_end_1 r6_f n β k_ = k_ zr6_f zr) ∧ v_ = some (.int zr) ∧ w_ = [(m, .inr (11, mkF r m_1 m_4 m_9 m_10 m_14 m_15 m_25 m_26 m_27 m_28 m_29 m_31 m_32 m_33 m_35 m_36 m_37 m_38 m_39 m_40 m_42)), ((r 6), .inl (E.2.2.1 0, 2, .inl (iM zr6_f)))]) := by
  refine Ev.intro (by decide) (Nat.le_of_ble_eq_true rfl) ?_
  intro X B hr hI
  have B : Bd E X cX11_end RX11 3 1 20 0 0 := B
  have hr : Rt E X (some .boolean) 0 0 (fun v_ w_ => ∃ zr6_f : Nat → Nat, ∃ zr : Int32, (∀ j, j < 2 → zr6_f j ≤ 6000) ∧ (zr = 0 ∨ zr = 1) ∧ (∀ (β : Type) (k_ : (Nat → Nat) → Int32 → β), fn_wr_X11_end_1 r6_f n β k_ = k_ zr6_f zr) ∧ v_ = some (.int zr) ∧ w_ = [(m, .inr (11, mkF r m_1 m_4 m_9 m_10 m_14 m_15 m_25 m_26 m_27 m_28 m_29 m_31 m_32 m_33 m_35 m_36 m_37 m_38 m_39 m_40 m_42)), ((r 6), .inl (E.2.2.1 0, 2, .inl (iM zr6_f)))]) := hr
  have e_ := fun (β : Type) (k_ : (Nat → Nat) → Int32 → β) => fn_wr_X11_end_1_s (β := β) (k_ := k_) (r6_f := r6_f) (n := n)
  show G E X 3 [(m, .inr (11, mkF r m_1 m_4 m_9 m_10 m_14 m_15 m_25 m_26 m_27 m_28 m_29 m_31 m_32 m_33 m_35 m_36 m_37 m_38 m_39 m_40 m_42)), ((r 6), .inl (E.2.2.1 0, 2, .inl (iM r6_f)))] 0 0 [(0, .ref m), (1, .int 1), (2, .int n)] 0 []
  refine g_iload_n B dX11_end_0 rfl 1 rfl ?_
  refine g_callS (st := []) (As := [.int 1]) (wr := [(m, .inr (11, mkF r m_1 m_4 m_9 m_10 m_14 m_15 m_25 m_26 m_27 m_28 m_29 m_31 m_32 m_33 m_35 m_36 m_37 m_38 m_39 m_40 m_42)), ((r 6), .inl (E.2.2.1 0, 2, .inl (iM r6_f)))]) (nc' := 0) (ns' := 0) B cl_X11_361 w_sm_X11_noWhich (wr_X11_noWhich_1 E ) rfl [] [0, 1] rfl rfl (by decide) (by decide) (by decide) ⟨by decide, by decide⟩ rfl rfl (by decide) (by decide) rfl (Nat.le_of_ble_eq_true rfl) dX11_end_1 (fun v w hq => ?_)
  obtain ⟨rfl, rfl⟩ := hq
  show G E X 3 [(m, .inr (11, mkF r m_1 m_4 m_9 m_10 m_14 m_15 m_25 m_26 m_27 m_28 m_29 m_31 m_32 m_33 m_35 m_36 m_37 m_38 m_39 m_40 m_42)), ((r 6), .inl (E.2.2.1 0, 2, .inl (iM r6_f)))] 0 0 [(0, .ref m), (1, .int 1), (2, .int n)] 4 [.int 0]
  refine g_if_ne (tgt := 21) B dX11_end_4 (by decide) (fun h => absurd (by decide) h) (fun c4 => ?_)
  refine g_iload_n B dX11_end_7 rfl 2 rfl ?_
  refine g_if_lt (tgt := 21) B dX11_end_8 (by decide) (fun c8_4013 => ?_) (fun c8_4013 => ?_)
  · replace e_ := fun β k_ => (e_ β k_).trans (if_pos c8_4013)
    refine g_iconst (v := 0) B dX11_end_21 (by decide) ?_
    exact g_zret B hr (by decide) dX11_end_22 (by decide) (by decide) ⟨r6_f, 0, (by first | assumption | omega | decide | exact hCF _ (by omega)), (by first | assumption | omega | decide | exact hCF _ (by omega)), e_, rfl, rfl⟩
  · replace e_ := fun β k_ => (e_ β k_).trans (if_neg c8_4013)
    refine g_iload_n B dX11_end_11 rfl 2 rfl ?_
    refine g_aload_n B dX11_end_12 rfl 0 rfl ?_
    refine g_get B 0 6 fl_X11_23 rfl mf_6 dX11_end_13 ?_
    refine g_iload_n B dX11_end_16 rfl 1 rfl ?_
    refine g_iald B 1 rfl (by unfold vp_in; decide) dX11_end_17 ?_
    refine g_ri (x' := nI (r6_f 1)) (iM_at (f := r6_f) (i := 1) (by omega)) ?_
    have ha_4014 := ha0 1 (by omega)
    refine g_icmp_le (tgt := 23) B dX11_end_18 (by decide) (fun c18_4015 => ?_) (fun c18_4015 => ?_)
    · replace e_ := fun β k_ => (e_ β k_).trans (if_pos c18_4015)
      obtain ⟨j_4016, hj_4016, rfl⟩ := ix_le (n := (r6_f 1)) (by omega) c8_4013 c18_4015
      replace e_ := fun β k_ => (e_ β k_).trans (fnL_eq (x := j_4016) (nI_clamp (by omega)) _)
      refine g_aload_n B dX11_end_23 rfl 0 rfl ?_
      refine g_get B 0 6 fl_X11_23 rfl mf_6 dX11_end_24 ?_
      refine g_iload_n B dX11_end_27 rfl 1 rfl ?_
      refine g_iload_n B dX11_end_28 rfl 2 rfl ?_
      have ha_4017 := updN_le (i := 1) (x := j_4016) ha0 (by omega)
      refine g_iast (ws' := [(m, .inr (11, mkF r m_1 m_4 m_9 m_10 m_14 m_15 m_25 m_26 m_27 m_28 m_29 m_31 m_32 m_33 m_35 m_36 m_37 m_38 m_39 m_40 m_42)), ((r 6), .inl (E.2.2.1 0, 2, .inl (iM (updN r6_f 1 j_4016))))]) B 1 rfl (by unfold vp_in; decide) (by rw [show (upd (iM r6_f) (Int32.toNatClampNeg 1) (nI j_4016)) = iM (updN r6_f 1 j_4016) from iM_upd (f := r6_f) (i := 1) (x := j_4016) (by omega)]; rfl) dX11_end_29 ?_
      refine g_iconst (v := 1) B dX11_end_30 (by decide) ?_
      exact g_zret B hr (by decide) dX11_end_31 (by decide) (by decide) ⟨(updN r6_f 1 j_4016), 1, (by first | assumption | omega | decide | exact hCF _ (by omega)), (by first | assumption | omega | decide | exact hCF _ (by omega)), e_, rfl, rfl⟩
    · replace e_ := fun β k_ => (e_ β k_).trans (if_neg c18_4015)
      refine g_iconst (v := 0) B dX11_end_21 (by decide) ?_
      exact g_zret B hr (by decide) dX11_end_22 (by decide) (by decide) ⟨r6_f, 0, (by first | assumption | omega | decide | exact hCF _ (by omega)), (by first | assumption | omega | decide | exact hCF _ (by omega)), e_, rfl, rfl⟩
theorem dX11_take_55 : decode cX11_take 55 = .ok (.aload_n 0, 1) := by decide +kernel
theorem dX11_take_56 : decode cX11_take 56 = .ok (.getfield 29, 3) := by decide +kernel
theorem dX11_take_59 : decode cX11_take 59 = .ok (.iload_n 2, 1) := by decide +kernel
theorem dX11_take_60 : decode cX11_take 60 = .ok (.baload, 1) := by decide +kernel
set_option maxRecDepth 100000 in
def lf_wr_X11_take_1_22 (m_10 : Nat) (r8_f : Nat → Int32) (β : Type) (kx_ : (Nat → Int32) → Nat → β)  : Nat → (Nat → Int32) → Nat → β
  | 0, pr5_f, l2 => kx_ pr5_f l2
  | fuel + 1, pr5_f, l2 => (if m_10 ≤ l2 then (kx_ pr5_f l2) else (lf_wr_X11_take_1_22 m_10 r8_f β kx_ fuel (upd pr5_f (6000 + l2) (nb r8_f l2)) (l2 + 1)))
set_option maxRecDepth 100000 in
theorem lf_wr_X11_take_1_22_s {m_10 : Nat} {r8_f : Nat → Int32} {β : Type} {kx_ : (Nat → Int32) → Nat → β}  {fuel : Nat} {pr5_f : Nat → Int32} {l2 : Nat} : lf_wr_X11_take_1_22 m_10 r8_f β kx_  (fuel + 1) pr5_f l2 = (if m_10 ≤ l2 then (kx_ pr5_f l2) else (lf_wr_X11_take_1_22 m_10 r8_f β kx_ fuel (upd pr5_f (6000 + l2) (nb r8_f l2)) (l2 + 1))) := rfl
set_option maxRecDepth 100000 in
set_option maxHeartbeats 4000000 in
theorem lp_wr_X11_take_1_22 (E : g_E) (m : Nat) (r : Nat → Nat) (m_1 : Nat) (m_4 : Nat) (m_9 : Nat) (m_10 : Nat) (m_14 : Nat) (m_15 : Nat) (m_25 : Int32) (m_26 : Int32) (m_27 : Int64) (m_28 : Nat) (m_29 : Nat) (m_31 : Nat) (m_32 : Nat) (m_33 : Nat) (m_35 : Nat) (m_36 : Nat) (m_37 : Int32) (m_38 : Nat) (m_39 : Int32) (m_40 : Int32) (m_42 : Nat) (r6_f : Nat → Nat) (r5_f : Nat → Int32) (r8_f : Nat → Int32) (hb0 : m_10 ≤ 20000) (ha0 : ∀ j, j < 2 → r6_f j ≤ 6000)  (hf0 : m_10 ≤ 6000) {X : g_X} {rr : (β : Type) → ((Nat → Nat) → (Nat → Int32) → Int32 → β) → β} (kx_ : (β : Type) → ((Nat → Nat) → (Nat → Int32) → Int32 → β) → (Nat → Int32) → Nat → β) (B : Bd E X cX11_take RX11 3 1 21 0 0) (hr : Rt E X (some .int) 0 0 (fun v_ w_ => ∃ zr6_f : Nat → Nat, ∃ zr5_f : Nat → Int32, ∃ zr : Int32, (∀ j, j < 2 → zr6_f j ≤ 6000) ∧ (∀ (β : Type) (k_ : (Nat → Nat) → (Nat → Int32) → Int32 → β), rr β k_ = k_ zr6_f zr5_f zr) ∧ v_ = some (.int zr) ∧ w_ = [(m, .inr (11, mkF r m_1 m_4 m_9 m_10 m_14 m_15 m_25 m_26 m_27 m_28 m_29 m_31 m_32 m_33 m_35 m_36 m_37 m_38 m_39 m_40 m_42)), ((r 6), .inl (E.2.2.1 0, 2, .inl (iM zr6_f))), ((r 5), .inl (E.2.2.1 1, 12000, .inl (nb zr5_f))), ((r 8), .inl (E.2.2.1 1, 20000, .inl (nb r8_f)))])) (K : ∀ (pr5_f : Nat → Int32) (l2 : Nat), (l2 ≤ 6000) → (∀ (β : Type) (k_ : (Nat → Nat) → (Nat → Int32) → Int32 → β), rr β k_ = kx_ β k_ pr5_f l2) → G E X 3 [(m, .inr (11, mkF r m_1 m_4 m_9 m_10 m_14 m_15 m_25 m_26 m_27 m_28 m_29 m_31 m_32 m_33 m_35 m_36 m_37 m_38 m_39 m_40 m_42)), ((r 6), .inl (E.2.2.1 0, 2, .inl (iM r6_f))), ((r 5), .inl (E.2.2.1 1, 12000, .inl (nb pr5_f))), ((r 8), .inl (E.2.2.1 1, 20000, .inl (nb r8_f)))] 0 0 [(0, .ref m), (1, .int 1), (2, .int (nI l2))] 68 []) : ∀ (fuel : Nat) (pr5_f : Nat → Int32) (l2 : Nat), (l2 ≤ 6000) → (6000 - l2) < fuel → (∀ (β : Type) (k_ : (Nat → Nat) → (Nat → Int32) → Int32 → β), rr β k_ = lf_wr_X11_take_1_22 m_10 r8_f β (kx_ β k_) fuel pr5_f l2) → G E X 3 [(m, .inr (11, mkF r m_1 m_4 m_9 m_10 m_14 m_15 m_25 m_26 m_27 m_28 m_29 m_31 m_32 m_33 m_35 m_36 m_37 m_38 m_39 m_40 m_42)), ((r 6), .inl (E.2.2.1 0, 2, .inl (iM r6_f))), ((r 5), .inl (E.2.2.1 1, 12000, .inl (nb pr5_f))), ((r 8), .inl (E.2.2.1 1, 20000, .inl (nb r8_f)))] 0 0 [(0, .ref m), (1, .int 1), (2, .int (nI l2))] 22 [] := by
  intro fuel
  induction fuel with
  | zero => intro pr5_f l2 _ h _; exact absurd h (Nat.not_lt_zero _)
  | succ fuel ih =>
    intro pr5_f l2 hv0 hm e_
    replace e_ := fun β k_ => (e_ β k_).trans lf_wr_X11_take_1_22_s
    refine g_iload_n B dX11_take_22 rfl 2 rfl ?_
    refine g_aload_n B dX11_take_23 rfl 0 rfl ?_
    refine g_iload_n B dX11_take_24 rfl 1 rfl ?_
    refine g_callV (st := [.int (nI l2)]) (As := [.int 1]) (wr := [((r 6), .inl (E.2.2.1 0, 2, .inl (iM r6_f))), ((r 5), .inl (E.2.2.1 1, 12000, .inl (nb pr5_f))), ((r 8), .inl (E.2.2.1 1, 20000, .inl (nb r8_f)))]) (nc' := 0) (ns' := 0) B cl_X11_364 w_im_X11_size w_se_X11_size (wr_X11_size_1 E m r m_1 m_4 m_9 m_10 m_14 m_15 m_25 m_26 m_27 m_28 m_29 m_31 m_32 m_33 m_35 m_36 m_37 m_38 m_39 m_40 m_42 ) rfl [0] [1, 2, 3] rfl rfl (by decide) (by decide) (by decide) 0 rfl (fun q h => by cases h; rfl) rfl ⟨by decide, by decide⟩ rfl rfl (by decide) (by decide) rfl (Nat.le_of_ble_eq_true rfl) dX11_take_25 (fun v w hq => ?_)
    obtain ⟨rfl, rfl⟩ := hq
    show G E X 3 [((r 6), .inl (E.2.2.1 0, 2, .inl (iM r6_f))), ((r 5), .inl (E.2.2.1 1, 12000, .inl (nb pr5_f))), ((r 8), .inl (E.2.2.1 1, 20000, .inl (nb r8_f))), (m, .inr (11, mkF r m_1 m_4 m_9 m_10 m_14 m_15 m_25 m_26 m_27 m_28 m_29 m_31 m_32 m_33 m_35 m_36 m_37 m_38 m_39 m_40 m_42))] 0 0 [(0, .ref m), (1, .int 1), (2, .int (nI l2))] 28 [.int (nI m_10), .int (nI l2)]
    refine g_icmp_ge (tgt := 68) B dX11_take_28 (by decide) (fun c28_4024 => ?_) (fun c28_4024 => ?_)
    · have hn_4025 : m_10 ≤ l2 := (nI_leI (a := m_10) (b := l2) (by omega) (by omega)).mp c28_4024
      replace e_ := fun β k_ => (e_ β k_).trans (if_pos hn_4025)
      refine g_sub (ws' := [(m, .inr (11, mkF r m_1 m_4 m_9 m_10 m_14 m_15 m_25 m_26 m_27 m_28 m_29 m_31 m_32 m_33 m_35 m_36 m_37 m_38 m_39 m_40 m_42)), ((r 6), .inl (E.2.2.1 0, 2, .inl (iM r6_f))), ((r 5), .inl (E.2.2.1 1, 12000, .inl (nb pr5_f))), ((r 8), .inl (E.2.2.1 1, 20000, .inl (nb r8_f)))]) [3, 0, 1, 2] (by decide) rfl ?_
      exact K pr5_f l2 (by first | assumption | omega | decide | exact hCF _ (by omega)) e_
    · have hn_4026 : l2 < m_10 := Nat.not_le.mp (fun q => c28_4024 ((nI_leI (a := m_10) (b := l2) (by omega) (by omega)).mpr q))
      replace e_ := fun β k_ => (e_ β k_).trans (if_neg (Nat.not_le.mpr hn_4026))
      refine g_aload_n B dX11_take_31 rfl 0 rfl ?_
      refine g_get B 3 5 fl_X11_19 rfl mf_5 dX11_take_32 ?_
      refine g_sipush (v := 6000) B dX11_take_35 (by decide) ?_
      refine g_iload_n B dX11_take_38 rfl 1 rfl ?_
      refine g_imul B dX11_take_39 ?_
      refine g_ri (x' := 6000) (by decide) ?_
      refine g_iload_n B dX11_take_40 rfl 2 rfl ?_
      refine g_iadd B dX11_take_41 ?_
      refine g_ri (x' := nI (6000 + l2)) (nI_add 6000 l2) ?_
      refine g_iload_n B dX11_take_42 rfl 1 rfl ?_
      refine g_if_ne (tgt := 55) B dX11_take_43 (by decide) (fun c43 => ?_) (fun h => absurd h (by decide))
      refine g_aload_n B dX11_take_55 rfl 0 rfl ?_
      refine g_get B 3 8 fl_X11_29 rfl mf_8 dX11_take_56 ?_
      refine g_iload_n B dX11_take_59 rfl 2 rfl ?_
      refine g_bald B 2 rfl (vp_in_nI (by omega) (by omega)) dX11_take_60 ?_
      refine g_ri (x' := (nb r8_f l2)) (congrArg (nb r8_f) (nI_clamp (n := l2) (by omega))) ?_
      refine g_bast (ws' := [((r 6), .inl (E.2.2.1 0, 2, .inl (iM r6_f))), ((r 5), .inl (E.2.2.1 1, 12000, .inl (nb (upd pr5_f (6000 + l2) (nb r8_f l2))))), ((r 8), .inl (E.2.2.1 1, 20000, .inl (nb r8_f))), (m, .inr (11, mkF r m_1 m_4 m_9 m_10 m_14 m_15 m_25 m_26 m_27 m_28 m_29 m_31 m_32 m_33 m_35 m_36 m_37 m_38 m_39 m_40 m_42))]) B 1 rfl (vp_in_nI (by omega) (by omega)) (by rw [nb_upd, nI_clamp (n := (6000 + l2)) (by omega)]; rfl) dX11_take_61 ?_
      refine g_iinc (v := nI (l2 + 1)) (lv' := [(2, .int (nI (l2 + 1))), (0, .ref m), (1, .int 1)]) B dX11_take_62 2 rfl (nI_add l2 1) (by decide) rfl ?_
      refine g_goto (tgt := 22) B dX11_take_65 (by decide) ?_
      refine g_sub (ws' := [(m, .inr (11, mkF r m_1 m_4 m_9 m_10 m_14 m_15 m_25 m_26 m_27 m_28 m_29 m_31 m_32 m_33 m_35 m_36 m_37 m_38 m_39 m_40 m_42)), ((r 6), .inl (E.2.2.1 0, 2, .inl (iM r6_f))), ((r 5), .inl (E.2.2.1 1, 12000, .inl (nb (upd pr5_f (6000 + l2) (nb r8_f l2))))), ((r 8), .inl (E.2.2.1 1, 20000, .inl (nb r8_f)))]) [3, 0, 1, 2] (by decide) rfl ?_
      refine g_lvsub (lv' := [(0, .ref m), (1, .int 1), (2, .int (nI (l2 + 1)))]) [1, 2, 0] rfl ?_
      exact ih (upd pr5_f (6000 + l2) (nb r8_f l2)) (l2 + 1) (by first | assumption | omega | decide | exact hCF _ (by omega)) (by omega) e_
set_option maxRecDepth 100000 in
def fn_wr_X11_take_1 (m_10 : Nat) (r6_f : Nat → Nat) (r5_f : Nat → Int32) (r8_f : Nat → Int32) (β : Type) (k_ : (Nat → Nat) → (Nat → Int32) → Int32 → β) : β := (if m_10 ≤ 6000 then (lf_wr_X11_take_1_22 m_10 r8_f β (fun y_4027pr5_f y_4027l2 => (k_ (updN r6_f 1 m_10) y_4027pr5_f (nI ((updN r6_f 1 m_10) 1)))) ((6000 - 0) + 1) r5_f 0) else (k_ r6_f r5_f (-1)))
set_option maxRecDepth 100000 in
theorem fn_wr_X11_take_1_s {m_10 : Nat} {r6_f : Nat → Nat} {r5_f : Nat → Int32} {r8_f : Nat → Int32} {β : Type} {k_ : (Nat → Nat) → (Nat → Int32) → Int32 → β} : fn_wr_X11_take_1 m_10 r6_f r5_f r8_f β k_ = (if m_10 ≤ 6000 then (lf_wr_X11_take_1_22 m_10 r8_f β (fun y_4027pr5_f y_4027l2 => (k_ (updN r6_f 1 m_10) y_4027pr5_f (nI ((updN r6_f 1 m_10) 1)))) ((6000 - 0) + 1) r5_f 0) else (k_ r6_f r5_f (-1))) := rfl
set_option maxRecDepth 100000 in
set_option maxHeartbeats 4000000 in
theorem wr_X11_take_1 (E : g_E) (m : Nat) (r : Nat → Nat) (m_1 : Nat) (m_4 : Nat) (m_9 : Nat) (m_10 : Nat) (m_14 : Nat) (m_15 : Nat) (m_25 : Int32) (m_26 : Int32) (m_27 : Int64) (m_28 : Nat) (m_29 : Nat) (m_31 : Nat) (m_32 : Nat) (m_33 : Nat) (m_35 : Nat) (m_36 : Nat) (m_37 : Int32) (m_38 : Nat) (m_39 : Int32) (m_40 : Int32) (m_42 : Nat) (r6_f : Nat → Nat) (r5_f : Nat → Int32) (r8_f : Nat → Int32) (hb0 : m_10 ≤ 20000) (ha0 : ∀ j, j < 2 → r6_f j ≤ 6000) : Ev E MX11_take 1 21 0 0 [.ref m, .int 1] [(m, .inr (11, mkF r m_1 m_4 m_9 m_10 m_14 m_15 m_25 m_26 m_27 m_28 m_29 m_31 m_32 m_33 m_35 m_36 m_37 m_38 m_39 m_40 m_42)), ((r 6), .inl (E.2.2.1 0, 2, .inl (iM r6_f))), ((r 5), .inl (E.2.2.1 1, 12000, .inl (nb r5_f))), ((r 8), .inl (E.2.2.1 1, 20000, .inl (nb r8_f)))] (fun v_ w_ => ∃ zr6_f : Nat → Nat, ∃ zr5_f : Nat → Int32, ∃ zr : Int32, (∀ j, j < 2 → zr6_f j ≤ 6000) ∧ (∀ (β : Type) (k_ : (Nat → Nat) → (Nat → Int32) → Int32 → β), fn_wr_X11_take_1 m_10 r6_f r5_f r8_f β k_ = k_ zr6_f zr5_f zr) ∧ v_ = some (.int zr) ∧ w_ = [(m, .inr (11, mkF r m_1 m_4 m_9 m_10 m_14 m_15 m_25 m_26 m_27 m_28 m_29 m_31 m_32 m_33 m_35 m_36 m_37 m_38 m_39 m_40 m_42)), ((r 6), .inl (E.2.2.1 0, 2, .inl (iM zr6_f))), ((r 5), .inl (E.2.2.1 1, 12000, .inl (nb zr5_f))), ((r 8), .inl (E.2.2.1 1, 20000, .inl (nb r8_f)))]) := by
  refine Ev.intro (by decide) (Nat.le_of_ble_eq_true rfl) ?_
  intro X B hr hI
  have B : Bd E X cX11_take RX11 3 1 21 0 0 := B
  have hr : Rt E X (some .int) 0 0 (fun v_ w_ => ∃ zr6_f : Nat → Nat, ∃ zr5_f : Nat → Int32, ∃ zr : Int32, (∀ j, j < 2 → zr6_f j ≤ 6000) ∧ (∀ (β : Type) (k_ : (Nat → Nat) → (Nat → Int32) → Int32 → β), fn_wr_X11_take_1 m_10 r6_f r5_f r8_f β k_ = k_ zr6_f zr5_f zr) ∧ v_ = some (.int zr) ∧ w_ = [(m, .inr (11, mkF r m_1 m_4 m_9 m_10 m_14 m_15 m_25 m_26 m_27 m_28 m_29 m_31 m_32 m_33 m_35 m_36 m_37 m_38 m_39 m_40 m_42)), ((r 6), .inl (E.2.2.1 0, 2, .inl (iM zr6_f))), ((r 5), .inl (E.2.2.1 1, 12000, .inl (nb zr5_f))), ((r 8), .inl (E.2.2.1 1, 20000, .inl (nb r8_f)))]) := hr
  have e_ := fun (β : Type) (k_ : (Nat → Nat) → (Nat → Int32) → Int32 → β) => fn_wr_X11_take_1_s (β := β) (k_ := k_) (m_10 := m_10) (r6_f := r6_f) (r5_f := r5_f) (r8_f := r8_f)
  show G E X 3 [(m, .inr (11, mkF r m_1 m_4 m_9 m_10 m_14 m_15 m_25 m_26 m_27 m_28 m_29 m_31 m_32 m_33 m_35 m_36 m_37 m_38 m_39 m_40 m_42)), ((r 6), .inl (E.2.2.1 0, 2, .inl (iM r6_f))), ((r 5), .inl (E.2.2.1 1, 12000, .inl (nb r5_f))), ((r 8), .inl (E.2.2.1 1, 20000, .inl (nb r8_f)))] 0 0 [(0, .ref m), (1, .int 1)] 0 []
  refine g_iload_n B dX11_take_0 rfl 1 rfl ?_
  refine g_callS (st := []) (As := [.int 1]) (wr := [(m, .inr (11, mkF r m_1 m_4 m_9 m_10 m_14 m_15 m_25 m_26 m_27 m_28 m_29 m_31 m_32 m_33 m_35 m_36 m_37 m_38 m_39 m_40 m_42)), ((r 6), .inl (E.2.2.1 0, 2, .inl (iM r6_f))), ((r 5), .inl (E.2.2.1 1, 12000, .inl (nb r5_f))), ((r 8), .inl (E.2.2.1 1, 20000, .inl (nb r8_f)))]) (nc' := 0) (ns' := 0) B cl_X11_361 w_sm_X11_noWhich (wr_X11_noWhich_1 E ) rfl [] [0, 1, 2, 3] rfl rfl (by decide) (by decide) (by decide) ⟨by decide, by decide⟩ rfl rfl (by decide) (by decide) rfl (Nat.le_of_ble_eq_true rfl) dX11_take_1 (fun v w hq => ?_)
  obtain ⟨rfl, rfl⟩ := hq
  show G E X 3 [(m, .inr (11, mkF r m_1 m_4 m_9 m_10 m_14 m_15 m_25 m_26 m_27 m_28 m_29 m_31 m_32 m_33 m_35 m_36 m_37 m_38 m_39 m_40 m_42)), ((r 6), .inl (E.2.2.1 0, 2, .inl (iM r6_f))), ((r 5), .inl (E.2.2.1 1, 12000, .inl (nb r5_f))), ((r 8), .inl (E.2.2.1 1, 20000, .inl (nb r8_f)))] 0 0 [(0, .ref m), (1, .int 1)] 4 [.int 0]
  refine g_if_ne (tgt := 18) B dX11_take_4 (by decide) (fun h => absurd (by decide) h) (fun c4 => ?_)
  refine g_aload_n B dX11_take_7 rfl 0 rfl ?_
  refine g_iload_n B dX11_take_8 rfl 1 rfl ?_
  refine g_callV (st := []) (As := [.int 1]) (wr := [((r 6), .inl (E.2.2.1 0, 2, .inl (iM r6_f))), ((r 5), .inl (E.2.2.1 1, 12000, .inl (nb r5_f))), ((r 8), .inl (E.2.2.1 1, 20000, .inl (nb r8_f)))]) (nc' := 0) (ns' := 0) B cl_X11_364 w_im_X11_size w_se_X11_size (wr_X11_size_1 E m r m_1 m_4 m_9 m_10 m_14 m_15 m_25 m_26 m_27 m_28 m_29 m_31 m_32 m_33 m_35 m_36 m_37 m_38 m_39 m_40 m_42 ) rfl [0] [1, 2, 3] rfl rfl (by decide) (by decide) (by decide) 0 rfl (fun q h => by cases h; rfl) rfl ⟨by decide, by decide⟩ rfl rfl (by decide) (by decide) rfl (Nat.le_of_ble_eq_true rfl) dX11_take_9 (fun v w hq => ?_)
  obtain ⟨rfl, rfl⟩ := hq
  show G E X 3 [((r 6), .inl (E.2.2.1 0, 2, .inl (iM r6_f))), ((r 5), .inl (E.2.2.1 1, 12000, .inl (nb r5_f))), ((r 8), .inl (E.2.2.1 1, 20000, .inl (nb r8_f))), (m, .inr (11, mkF r m_1 m_4 m_9 m_10 m_14 m_15 m_25 m_26 m_27 m_28 m_29 m_31 m_32 m_33 m_35 m_36 m_37 m_38 m_39 m_40 m_42))] 0 0 [(0, .ref m), (1, .int 1)] 12 [.int (nI m_10)]
  refine g_sipush (v := 6000) B dX11_take_12 (by decide) ?_
  refine g_icmp_le (tgt := 20) B dX11_take_15 (by decide) (fun c15_4020 => ?_) (fun c15_4020 => ?_)
  · have hn_4021 : m_10 ≤ 6000 := (nI_leI (a := m_10) (b := 6000) (by omega) (by omega)).mp c15_4020
    replace e_ := fun β k_ => (e_ β k_).trans (if_pos hn_4021)
    refine g_iconst (v := 0) B dX11_take_20 (by decide) ?_
    refine g_istore_n (lv' := [(2, .int 0), (0, .ref m), (1, .int 1)]) B dX11_take_21 rfl (by decide) rfl ?_
    refine g_sub (ws' := [(m, .inr (11, mkF r m_1 m_4 m_9 m_10 m_14 m_15 m_25 m_26 m_27 m_28 m_29 m_31 m_32 m_33 m_35 m_36 m_37 m_38 m_39 m_40 m_42)), ((r 6), .inl (E.2.2.1 0, 2, .inl (iM r6_f))), ((r 5), .inl (E.2.2.1 1, 12000, .inl (nb r5_f))), ((r 8), .inl (E.2.2.1 1, 20000, .inl (nb r8_f)))]) [3, 0, 1, 2] (by decide) rfl ?_
    refine g_lvsub (lv' := [(0, .ref m), (1, .int 1), (2, .int 0)]) [1, 2, 0] rfl ?_
    refine lp_wr_X11_take_1_22 E m r m_1 m_4 m_9 m_10 m_14 m_15 m_25 m_26 m_27 m_28 m_29 m_31 m_32 m_33 m_35 m_36 m_37 m_38 m_39 m_40 m_42 r6_f r5_f r8_f hb0 ha0  (by first | assumption | omega | decide | exact hCF _ (by omega)) _ B hr (fun y_4027pr5_f y_4027l2 y_4027k0 e_ => ?_) _ r5_f 0 (by first | assumption | omega | decide | exact hCF _ (by omega)) (Nat.lt_succ_self _) e_
    show G E X 3 [(m, .inr (11, mkF r m_1 m_4 m_9 m_10 m_14 m_15 m_25 m_26 m_27 m_28 m_29 m_31 m_32 m_33 m_35 m_36 m_37 m_38 m_39 m_40 m_42)), ((r 6), .inl (E.2.2.1 0, 2, .inl (iM r6_f))), ((r 5), .inl (E.2.2.1 1, 12000, .inl (nb y_4027pr5_f))), ((r 8), .inl (E.2.2.1 1, 20000, .inl (nb r8_f)))] 0 0 [(0, .ref m), (1, .int 1), (2, .int (nI y_4027l2))] 68 []
    refine g_aload_n B dX11_take_68 rfl 0 rfl ?_
    refine g_get B 0 6 fl_X11_23 rfl mf_6 dX11_take_69 ?_
    refine g_iload_n B dX11_take_72 rfl 1 rfl ?_
    refine g_aload_n B dX11_take_73 rfl 0 rfl ?_
    refine g_iload_n B dX11_take_74 rfl 1 rfl ?_
    refine g_callV (st := [.int 1, .ref (r 6)]) (As := [.int 1]) (wr := [((r 6), .inl (E.2.2.1 0, 2, .inl (iM r6_f))), ((r 5), .inl (E.2.2.1 1, 12000, .inl (nb y_4027pr5_f))), ((r 8), .inl (E.2.2.1 1, 20000, .inl (nb r8_f)))]) (nc' := 0) (ns' := 0) B cl_X11_364 w_im_X11_size w_se_X11_size (wr_X11_size_1 E m r m_1 m_4 m_9 m_10 m_14 m_15 m_25 m_26 m_27 m_28 m_29 m_31 m_32 m_33 m_35 m_36 m_37 m_38 m_39 m_40 m_42 ) rfl [0] [1, 2, 3] rfl rfl (by decide) (by decide) (by decide) 0 rfl (fun q h => by cases h; rfl) rfl ⟨by decide, by decide⟩ rfl rfl (by decide) (by decide) rfl (Nat.le_of_ble_eq_true rfl) dX11_take_75 (fun v w hq => ?_)
    obtain ⟨rfl, rfl⟩ := hq
    show G E X 3 [((r 6), .inl (E.2.2.1 0, 2, .inl (iM r6_f))), ((r 5), .inl (E.2.2.1 1, 12000, .inl (nb y_4027pr5_f))), ((r 8), .inl (E.2.2.1 1, 20000, .inl (nb r8_f))), (m, .inr (11, mkF r m_1 m_4 m_9 m_10 m_14 m_15 m_25 m_26 m_27 m_28 m_29 m_31 m_32 m_33 m_35 m_36 m_37 m_38 m_39 m_40 m_42))] 0 0 [(0, .ref m), (1, .int 1), (2, .int (nI y_4027l2))] 78 [.int (nI m_10), .int 1, .ref (r 6)]
    have ha_4029 := updN_le (i := 1) (x := m_10) ha0 (by omega)
    refine g_iast (ws' := [((r 6), .inl (E.2.2.1 0, 2, .inl (iM (updN r6_f 1 m_10)))), ((r 5), .inl (E.2.2.1 1, 12000, .inl (nb y_4027pr5_f))), ((r 8), .inl (E.2.2.1 1, 20000, .inl (nb r8_f))), (m, .inr (11, mkF r m_1 m_4 m_9 m_10 m_14 m_15 m_25 m_26 m_27 m_28 m_29 m_31 m_32 m_33 m_35 m_36 m_37 m_38 m_39 m_40 m_42))]) B 0 rfl (by unfold vp_in; decide) (by rw [show (upd (iM r6_f) (Int32.toNatClampNeg 1) (nI m_10)) = iM (updN r6_f 1 m_10) from iM_upd (f := r6_f) (i := 1) (x := m_10) (by omega)]; rfl) dX11_take_78 ?_
    refine g_aload_n B dX11_take_79 rfl 0 rfl ?_
    refine g_get B 3 6 fl_X11_23 rfl mf_6 dX11_take_80 ?_
    refine g_iload_n B dX11_take_83 rfl 1 rfl ?_
    refine g_iald B 0 rfl (by unfold vp_in; decide) dX11_take_84 ?_
    refine g_ri (x' := nI ((updN r6_f 1 m_10) 1)) (iM_at (f := (updN r6_f 1 m_10)) (i := 1) (by omega)) ?_
    have ha_4030 := ha_4029 1 (by omega)
    refine g_sub (ws' := [(m, .inr (11, mkF r m_1 m_4 m_9 m_10 m_14 m_15 m_25 m_26 m_27 m_28 m_29 m_31 m_32 m_33 m_35 m_36 m_37 m_38 m_39 m_40 m_42)), ((r 6), .inl (E.2.2.1 0, 2, .inl (iM (updN r6_f 1 m_10)))), ((r 5), .inl (E.2.2.1 1, 12000, .inl (nb y_4027pr5_f))), ((r 8), .inl (E.2.2.1 1, 20000, .inl (nb r8_f)))]) [3, 0, 1, 2] (by decide) rfl ?_
    exact g_iret B hr dX11_take_85 (by decide) (by decide) ⟨(updN r6_f 1 m_10), y_4027pr5_f, (nI ((updN r6_f 1 m_10) 1)), (by first | assumption | omega | decide | exact hCF _ (by omega)), e_, rfl, rfl⟩
  · have hn_4022 : 6000 < m_10 := Nat.not_le.mp (fun q => c15_4020 ((nI_leI (a := m_10) (b := 6000) (by omega) (by omega)).mpr q))
    replace e_ := fun β k_ => (e_ β k_).trans (if_neg (Nat.not_le.mpr hn_4022))
    refine g_iconst (v := (-1)) B dX11_take_18 (by decide) ?_
    refine g_sub (ws' := [(m, .inr (11, mkF r m_1 m_4 m_9 m_10 m_14 m_15 m_25 m_26 m_27 m_28 m_29 m_31 m_32 m_33 m_35 m_36 m_37 m_38 m_39 m_40 m_42)), ((r 6), .inl (E.2.2.1 0, 2, .inl (iM r6_f))), ((r 5), .inl (E.2.2.1 1, 12000, .inl (nb r5_f))), ((r 8), .inl (E.2.2.1 1, 20000, .inl (nb r8_f)))]) [3, 0, 1, 2] (by decide) rfl ?_
    exact g_iret B hr dX11_take_19 (by decide) (by decide) ⟨r6_f, r5_f, (-1), (by first | assumption | omega | decide | exact hCF _ (by omega)), e_, rfl, rfl⟩
set_option maxRecDepth 100000 in
def fn_wr_X11_harm_1 (r6_f : Nat → Nat) (r5_f : Nat → Int32) (i : Int32) (b : Int32) (β : Type) (k_ : (Nat → Int32) → Int32 → β) : β := (if i < 0 then (k_ r5_f 0) else (if i < nI (r6_f 1) then (fnL (Int32.toNatClampNeg i) (fun j_4035 => (k_ (upd r5_f (6000 + j_4035) (Int8.toInt32 (Int32.toInt8 ((nb r5_f (6000 + j_4035)) ^^^ (Int8.toInt32 (Int32.toInt8 b)))))) 1))) else (k_ r5_f 0)))
set_option maxRecDepth 100000 in
theorem fn_wr_X11_harm_1_s {r6_f : Nat → Nat} {r5_f : Nat → Int32} {i : Int32} {b : Int32} {β : Type} {k_ : (Nat → Int32) → Int32 → β} : fn_wr_X11_harm_1 r6_f r5_f i b β k_ = (if i < 0 then (k_ r5_f 0) else (if i < nI (r6_f 1) then (fnL (Int32.toNatClampNeg i) (fun j_4035 => (k_ (upd r5_f (6000 + j_4035) (Int8.toInt32 (Int32.toInt8 ((nb r5_f (6000 + j_4035)) ^^^ (Int8.toInt32 (Int32.toInt8 b)))))) 1))) else (k_ r5_f 0))) := rfl
set_option maxRecDepth 100000 in
set_option maxHeartbeats 4000000 in
theorem wr_X11_harm_1 (E : g_E) (m : Nat) (r : Nat → Nat) (m_1 : Nat) (m_4 : Nat) (m_9 : Nat) (m_10 : Nat) (m_14 : Nat) (m_15 : Nat) (m_25 : Int32) (m_26 : Int32) (m_27 : Int64) (m_28 : Nat) (m_29 : Nat) (m_31 : Nat) (m_32 : Nat) (m_33 : Nat) (m_35 : Nat) (m_36 : Nat) (m_37 : Int32) (m_38 : Nat) (m_39 : Int32) (m_40 : Int32) (m_42 : Nat) (r6_f : Nat → Nat) (r5_f : Nat → Int32) (i : Int32) (b : Int32) (ha0 : ∀ j, j < 2 → r6_f j ≤ 6000) : Ev E MX11_harm 1 20 0 0 [.ref m, .int 1, .int i, .int b] [(m, .inr (11, mkF r m_1 m_4 m_9 m_10 m_14 m_15 m_25 m_26 m_27 m_28 m_29 m_31 m_32 m_33 m_35 m_36 m_37 m_38 m_39 m_40 m_42)), ((r 6), .inl (E.2.2.1 0, 2, .inl (iM r6_f))), ((r 5), .inl (E.2.2.1 1, 12000, .inl (nb r5_f)))] (fun v_ w_ => ∃ zr5_f : Nat → Int32, ∃ zr : Int32, (zr = 0 ∨ zr = 1) ∧ (∀ (β : Type) (k_ : (Nat → Int32) → Int32 → β), fn_wr_X11_harm_1 r6_f r5_f i b β k_ = k_ zr5_f zr) ∧ v_ = some (.int zr) ∧ w_ = [(m, .inr (11, mkF r m_1 m_4 m_9 m_10 m_14 m_15 m_25 m_26 m_27 m_28 m_29 m_31 m_32 m_33 m_35 m_36 m_37 m_38 m_39 m_40 m_42)), ((r 6), .inl (E.2.2.1 0, 2, .inl (iM r6_f))), ((r 5), .inl (E.2.2.1 1, 12000, .inl (nb zr5_f)))]) := by
  refine Ev.intro (by decide) (Nat.le_of_ble_eq_true rfl) ?_
  intro X B hr hI
  have B : Bd E X cX11_harm RX11 4 1 20 0 0 := B
  have hr : Rt E X (some .boolean) 0 0 (fun v_ w_ => ∃ zr5_f : Nat → Int32, ∃ zr : Int32, (zr = 0 ∨ zr = 1) ∧ (∀ (β : Type) (k_ : (Nat → Int32) → Int32 → β), fn_wr_X11_harm_1 r6_f r5_f i b β k_ = k_ zr5_f zr) ∧ v_ = some (.int zr) ∧ w_ = [(m, .inr (11, mkF r m_1 m_4 m_9 m_10 m_14 m_15 m_25 m_26 m_27 m_28 m_29 m_31 m_32 m_33 m_35 m_36 m_37 m_38 m_39 m_40 m_42)), ((r 6), .inl (E.2.2.1 0, 2, .inl (iM r6_f))), ((r 5), .inl (E.2.2.1 1, 12000, .inl (nb zr5_f)))]) := hr
  have e_ := fun (β : Type) (k_ : (Nat → Int32) → Int32 → β) => fn_wr_X11_harm_1_s (β := β) (k_ := k_) (r6_f := r6_f) (r5_f := r5_f) (i := i) (b := b)
  show G E X 4 [(m, .inr (11, mkF r m_1 m_4 m_9 m_10 m_14 m_15 m_25 m_26 m_27 m_28 m_29 m_31 m_32 m_33 m_35 m_36 m_37 m_38 m_39 m_40 m_42)), ((r 6), .inl (E.2.2.1 0, 2, .inl (iM r6_f))), ((r 5), .inl (E.2.2.1 1, 12000, .inl (nb r5_f)))] 0 0 [(0, .ref m), (1, .int 1), (2, .int i), (3, .int b)] 0 []
  refine g_iload_n B dX11_harm_0 rfl 1 rfl ?_
  refine g_callS (st := []) (As := [.int 1]) (wr := [(m, .inr (11, mkF r m_1 m_4 m_9 m_10 m_14 m_15 m_25 m_26 m_27 m_28 m_29 m_31 m_32 m_33 m_35 m_36 m_37 m_38 m_39 m_40 m_42)), ((r 6), .inl (E.2.2.1 0, 2, .inl (iM r6_f))), ((r 5), .inl (E.2.2.1 1, 12000, .inl (nb r5_f)))]) (nc' := 0) (ns' := 0) B cl_X11_361 w_sm_X11_noWhich (wr_X11_noWhich_1 E ) rfl [] [0, 1, 2] rfl rfl (by decide) (by decide) (by decide) ⟨by decide, by decide⟩ rfl rfl (by decide) (by decide) rfl (Nat.le_of_ble_eq_true rfl) dX11_harm_1 (fun v w hq => ?_)
  obtain ⟨rfl, rfl⟩ := hq
  show G E X 4 [(m, .inr (11, mkF r m_1 m_4 m_9 m_10 m_14 m_15 m_25 m_26 m_27 m_28 m_29 m_31 m_32 m_33 m_35 m_36 m_37 m_38 m_39 m_40 m_42)), ((r 6), .inl (E.2.2.1 0, 2, .inl (iM r6_f))), ((r 5), .inl (E.2.2.1 1, 12000, .inl (nb r5_f)))] 0 0 [(0, .ref m), (1, .int 1), (2, .int i), (3, .int b)] 4 [.int 0]
  refine g_if_ne (tgt := 21) B dX11_harm_4 (by decide) (fun h => absurd (by decide) h) (fun c4 => ?_)
  refine g_iload_n B dX11_harm_7 rfl 2 rfl ?_
  refine g_if_lt (tgt := 21) B dX11_harm_8 (by decide) (fun c8_4032 => ?_) (fun c8_4032 => ?_)
  · replace e_ := fun β k_ => (e_ β k_).trans (if_pos c8_4032)
    refine g_iconst (v := 0) B dX11_harm_21 (by decide) ?_
    exact g_zret B hr (by decide) dX11_harm_22 (by decide) (by decide) ⟨r5_f, 0, (by first | assumption | omega | decide | exact hCF _ (by omega)), e_, rfl, rfl⟩
  · replace e_ := fun β k_ => (e_ β k_).trans (if_neg c8_4032)
    refine g_iload_n B dX11_harm_11 rfl 2 rfl ?_
    refine g_aload_n B dX11_harm_12 rfl 0 rfl ?_
    refine g_get B 0 6 fl_X11_23 rfl mf_6 dX11_harm_13 ?_
    refine g_iload_n B dX11_harm_16 rfl 1 rfl ?_
    refine g_iald B 1 rfl (by unfold vp_in; decide) dX11_harm_17 ?_
    refine g_ri (x' := nI (r6_f 1)) (iM_at (f := r6_f) (i := 1) (by omega)) ?_
    have ha_4033 := ha0 1 (by omega)
    refine g_icmp_lt (tgt := 23) B dX11_harm_18 (by decide) (fun c18_4034 => ?_) (fun c18_4034 => ?_)
    · replace e_ := fun β k_ => (e_ β k_).trans (if_pos c18_4034)
      obtain ⟨j_4035, hj_4035, rfl⟩ := ix_lt (n := (r6_f 1)) (by omega) c8_4032 c18_4034
      replace e_ := fun β k_ => (e_ β k_).trans (fnL_eq (x := j_4035) (nI_clamp (by omega)) _)
      refine g_aload_n B dX11_harm_23 rfl 0 rfl ?_
      refine g_get B 0 5 fl_X11_19 rfl mf_5 dX11_harm_24 ?_
      refine g_sipush (v := 6000) B dX11_harm_27 (by decide) ?_
      refine g_iload_n B dX11_harm_30 rfl 1 rfl ?_
      refine g_imul B dX11_harm_31 ?_
      refine g_ri (x' := 6000) (by decide) ?_
      refine g_iload_n B dX11_harm_32 rfl 2 rfl ?_
      refine g_iadd B dX11_harm_33 ?_
      refine g_ri (x' := nI (6000 + j_4035)) (nI_add 6000 j_4035) ?_
      refine g_dup2_11 B dX11_harm_34 rfl rfl ?_
      refine g_bald B 2 rfl (vp_in_nI (by omega) (by omega)) dX11_harm_35 ?_
      refine g_ri (x' := (nb r5_f (6000 + j_4035))) (congrArg (nb r5_f) (nI_clamp (n := (6000 + j_4035)) (by omega))) ?_
      refine g_iload_n B dX11_harm_36 rfl 3 rfl ?_
      refine g_i2b B dX11_harm_37 ?_
      refine g_ixor B dX11_harm_38 ?_
      refine g_i2b B dX11_harm_39 ?_
      refine g_bast (ws' := [(m, .inr (11, mkF r m_1 m_4 m_9 m_10 m_14 m_15 m_25 m_26 m_27 m_28 m_29 m_31 m_32 m_33 m_35 m_36 m_37 m_38 m_39 m_40 m_42)), ((r 6), .inl (E.2.2.1 0, 2, .inl (iM r6_f))), ((r 5), .inl (E.2.2.1 1, 12000, .inl (nb (upd r5_f (6000 + j_4035) (Int8.toInt32 (Int32.toInt8 ((nb r5_f (6000 + j_4035)) ^^^ (Int8.toInt32 (Int32.toInt8 b)))))))))]) B 2 rfl (vp_in_nI (by omega) (by omega)) (by rw [nb_upd, nI_clamp (n := (6000 + j_4035)) (by omega)]; rfl) dX11_harm_40 ?_
      refine g_iconst (v := 1) B dX11_harm_41 (by decide) ?_
      exact g_zret B hr (by decide) dX11_harm_42 (by decide) (by decide) ⟨(upd r5_f (6000 + j_4035) (Int8.toInt32 (Int32.toInt8 ((nb r5_f (6000 + j_4035)) ^^^ (Int8.toInt32 (Int32.toInt8 b)))))), 1, (by first | assumption | omega | decide | exact hCF _ (by omega)), e_, rfl, rfl⟩
    · replace e_ := fun β k_ => (e_ β k_).trans (if_neg c18_4034)
      refine g_iconst (v := 0) B dX11_harm_21 (by decide) ?_
      exact g_zret B hr (by decide) dX11_harm_22 (by decide) (by decide) ⟨r5_f, 0, (by first | assumption | omega | decide | exact hCF _ (by omega)), e_, rfl, rfl⟩
set_option maxRecDepth 100000 in
def fn_wr_X11_seal_1 (r6_f : Nat → Nat) (r5_f : Nat → Int32) (β : Type) (k_ : (Nat → Int32) → Int32 → β) : β := (if 5 ≤ (r6_f 1) then (fn_wr_X11_crc 6000 ((r6_f 1) - 4) r5_f β (fun zr_4043 => (fn_wr_X11_putInt ((6000 + (r6_f 1)) - 4) r5_f zr_4043 β (fun ztf_4045 => (k_ ztf_4045 1))))) else (k_ r5_f 0))
set_option maxRecDepth 100000 in
theorem fn_wr_X11_seal_1_s {r6_f : Nat → Nat} {r5_f : Nat → Int32} {β : Type} {k_ : (Nat → Int32) → Int32 → β} : fn_wr_X11_seal_1 r6_f r5_f β k_ = (if 5 ≤ (r6_f 1) then (fn_wr_X11_crc 6000 ((r6_f 1) - 4) r5_f β (fun zr_4043 => (fn_wr_X11_putInt ((6000 + (r6_f 1)) - 4) r5_f zr_4043 β (fun ztf_4045 => (k_ ztf_4045 1))))) else (k_ r5_f 0)) := rfl
set_option maxRecDepth 100000 in
set_option maxHeartbeats 4000000 in
theorem wr_X11_seal_1 (E : g_E) (m : Nat) (r : Nat → Nat) (m_1 : Nat) (m_4 : Nat) (m_9 : Nat) (m_10 : Nat) (m_14 : Nat) (m_15 : Nat) (m_25 : Int32) (m_26 : Int32) (m_27 : Int64) (m_28 : Nat) (m_29 : Nat) (m_31 : Nat) (m_32 : Nat) (m_33 : Nat) (m_35 : Nat) (m_36 : Nat) (m_37 : Int32) (m_38 : Nat) (m_39 : Int32) (m_40 : Int32) (m_42 : Nat) (r6_f : Nat → Nat) (r5_f : Nat → Int32) (ha0 : ∀ j, j < 2 → r6_f j ≤ 6000) : Ev E MX11_seal 1 25 0 0 [.ref m, .int 1] [(m, .inr (11, mkF r m_1 m_4 m_9 m_10 m_14 m_15 m_25 m_26 m_27 m_28 m_29 m_31 m_32 m_33 m_35 m_36 m_37 m_38 m_39 m_40 m_42)), ((r 6), .inl (E.2.2.1 0, 2, .inl (iM r6_f))), ((r 5), .inl (E.2.2.1 1, 12000, .inl (nb r5_f)))] (fun v_ w_ => ∃ zr5_f : Nat → Int32, ∃ zr : Int32, (zr = 0 ∨ zr = 1) ∧ (∀ (β : Type) (k_ : (Nat → Int32) → Int32 → β), fn_wr_X11_seal_1 r6_f r5_f β k_ = k_ zr5_f zr) ∧ v_ = some (.int zr) ∧ w_ = [(m, .inr (11, mkF r m_1 m_4 m_9 m_10 m_14 m_15 m_25 m_26 m_27 m_28 m_29 m_31 m_32 m_33 m_35 m_36 m_37 m_38 m_39 m_40 m_42)), ((r 6), .inl (E.2.2.1 0, 2, .inl (iM r6_f))), ((r 5), .inl (E.2.2.1 1, 12000, .inl (nb zr5_f)))]) := by
  refine Ev.intro (by decide) (Nat.le_of_ble_eq_true rfl) ?_
  intro X B hr hI
  have B : Bd E X cX11_seal RX11 3 1 25 0 0 := B
  have hr : Rt E X (some .boolean) 0 0 (fun v_ w_ => ∃ zr5_f : Nat → Int32, ∃ zr : Int32, (zr = 0 ∨ zr = 1) ∧ (∀ (β : Type) (k_ : (Nat → Int32) → Int32 → β), fn_wr_X11_seal_1 r6_f r5_f β k_ = k_ zr5_f zr) ∧ v_ = some (.int zr) ∧ w_ = [(m, .inr (11, mkF r m_1 m_4 m_9 m_10 m_14 m_15 m_25 m_26 m_27 m_28 m_29 m_31 m_32 m_33 m_35 m_36 m_37 m_38 m_39 m_40 m_42)), ((r 6), .inl (E.2.2.1 0, 2, .inl (iM r6_f))), ((r 5), .inl (E.2.2.1 1, 12000, .inl (nb zr5_f)))]) := hr
  have e_ := fun (β : Type) (k_ : (Nat → Int32) → Int32 → β) => fn_wr_X11_seal_1_s (β := β) (k_ := k_) (r6_f := r6_f) (r5_f := r5_f)
  show G E X 3 [(m, .inr (11, mkF r m_1 m_4 m_9 m_10 m_14 m_15 m_25 m_26 m_27 m_28 m_29 m_31 m_32 m_33 m_35 m_36 m_37 m_38 m_39 m_40 m_42)), ((r 6), .inl (E.2.2.1 0, 2, .inl (iM r6_f))), ((r 5), .inl (E.2.2.1 1, 12000, .inl (nb r5_f)))] 0 0 [(0, .ref m), (1, .int 1)] 0 []
  refine g_iload_n B dX11_seal_0 rfl 1 rfl ?_
  refine g_callS (st := []) (As := [.int 1]) (wr := [(m, .inr (11, mkF r m_1 m_4 m_9 m_10 m_14 m_15 m_25 m_26 m_27 m_28 m_29 m_31 m_32 m_33 m_35 m_36 m_37 m_38 m_39 m_40 m_42)), ((r 6), .inl (E.2.2.1 0, 2, .inl (iM r6_f))), ((r 5), .inl (E.2.2.1 1, 12000, .inl (nb r5_f)))]) (nc' := 0) (ns' := 0) B cl_X11_361 w_sm_X11_noWhich (wr_X11_noWhich_1 E ) rfl [] [0, 1, 2] rfl rfl (by decide) (by decide) (by decide) ⟨by decide, by decide⟩ rfl rfl (by decide) (by decide) rfl (Nat.le_of_ble_eq_true rfl) dX11_seal_1 (fun v w hq => ?_)
  obtain ⟨rfl, rfl⟩ := hq
  show G E X 3 [(m, .inr (11, mkF r m_1 m_4 m_9 m_10 m_14 m_15 m_25 m_26 m_27 m_28 m_29 m_31 m_32 m_33 m_35 m_36 m_37 m_38 m_39 m_40 m_42)), ((r 6), .inl (E.2.2.1 0, 2, .inl (iM r6_f))), ((r 5), .inl (E.2.2.1 1, 12000, .inl (nb r5_f)))] 0 0 [(0, .ref m), (1, .int 1)] 4 [.int 0]
  refine g_if_ne (tgt := 17) B dX11_seal_4 (by decide) (fun h => absurd (by decide) h) (fun c4 => ?_)
  refine g_aload_n B dX11_seal_7 rfl 0 rfl ?_
  refine g_get B 0 6 fl_X11_23 rfl mf_6 dX11_seal_8 ?_
  refine g_iload_n B dX11_seal_11 rfl 1 rfl ?_
  refine g_iald B 1 rfl (by unfold vp_in; decide) dX11_seal_12 ?_
  refine g_ri (x' := nI (r6_f 1)) (iM_at (f := r6_f) (i := 1) (by omega)) ?_
  have ha_4037 := ha0 1 (by omega)
  refine g_iconst (v := 5) B dX11_seal_13 (by decide) ?_
  refine g_icmp_ge (tgt := 19) B dX11_seal_14 (by decide) (fun c14_4038 => ?_) (fun c14_4038 => ?_)
  · have hn_4039 : 5 ≤ (r6_f 1) := (nI_leI (a := 5) (b := (r6_f 1)) (by omega) (by omega)).mp c14_4038
    replace e_ := fun β k_ => (e_ β k_).trans (if_pos hn_4039)
    refine g_sipush (v := 6000) B dX11_seal_19 (by decide) ?_
    refine g_iload_n B dX11_seal_22 rfl 1 rfl ?_
    refine g_imul B dX11_seal_23 ?_
    refine g_ri (x' := 6000) (by decide) ?_
    refine g_istore_n (lv' := [(2, .int 6000), (0, .ref m), (1, .int 1)]) B dX11_seal_24 rfl (by decide) rfl ?_
    refine g_aload_n B dX11_seal_25 rfl 1 rfl ?_
    refine g_get B 0 5 fl_X11_19 rfl mf_5 dX11_seal_26 ?_
    refine g_iload_n B dX11_seal_29 rfl 0 rfl ?_
    refine g_aload_n B dX11_seal_30 rfl 1 rfl ?_
    refine g_get B 0 6 fl_X11_23 rfl mf_6 dX11_seal_31 ?_
    refine g_iload_n B dX11_seal_34 rfl 2 rfl ?_
    refine g_iald B 1 rfl (by unfold vp_in; decide) dX11_seal_35 ?_
    refine g_ri (x' := nI (r6_f 1)) (iM_at (f := r6_f) (i := 1) (by omega)) ?_
    have ha_4041 := ha0 1 (by omega)
    refine g_iadd B dX11_seal_36 ?_
    refine g_ri (x' := nI (6000 + (r6_f 1))) (nI_add 6000 (r6_f 1)) ?_
    refine g_iconst (v := 4) B dX11_seal_37 (by decide) ?_
    refine g_isub B dX11_seal_38 ?_
    refine g_ri (x' := nI ((6000 + (r6_f 1)) - 4)) (pk_sub (a := (6000 + (r6_f 1))) (b := 4) (by omega)) ?_
    refine g_aload_n B dX11_seal_39 rfl 1 rfl ?_
    refine g_get B 0 5 fl_X11_19 rfl mf_5 dX11_seal_40 ?_
    refine g_iload_n B dX11_seal_43 rfl 0 rfl ?_
    refine g_aload_n B dX11_seal_44 rfl 1 rfl ?_
    refine g_get B 0 6 fl_X11_23 rfl mf_6 dX11_seal_45 ?_
    refine g_iload_n B dX11_seal_48 rfl 2 rfl ?_
    refine g_iald B 1 rfl (by unfold vp_in; decide) dX11_seal_49 ?_
    refine g_ri (x' := nI (r6_f 1)) (iM_at (f := r6_f) (i := 1) (by omega)) ?_
    have ha_4042 := ha0 1 (by omega)
    refine g_iconst (v := 4) B dX11_seal_50 (by decide) ?_
    refine g_isub B dX11_seal_51 ?_
    refine g_ri (x' := nI ((r6_f 1) - 4)) (pk_sub (a := (r6_f 1)) (b := 4) (by omega)) ?_
    refine g_callS (st := [.int (nI ((6000 + (r6_f 1)) - 4)), .ref (r 5)]) (As := [.ref (r 5), .int 6000, .int (nI ((r6_f 1) - 4))]) (wr := [(m, .inr (11, mkF r m_1 m_4 m_9 m_10 m_14 m_15 m_25 m_26 m_27 m_28 m_29 m_31 m_32 m_33 m_35 m_36 m_37 m_38 m_39 m_40 m_42)), ((r 6), .inl (E.2.2.1 0, 2, .inl (iM r6_f)))]) (nc' := 0) (ns' := 0) B cl_X11_259 w_sm_X11_crc (wr_X11_crc E (r 5) 12000 6000 ((r6_f 1) - 4) r5_f (by first | assumption | omega | decide | exact hCF _ (by omega)) (by first | assumption | omega | decide | exact hCF _ (by omega))) rfl [2] [0, 1] rfl rfl (by decide) (by decide) (by decide) ⟨by decide, by decide⟩ rfl rfl (by decide) (by decide) rfl (Nat.le_of_ble_eq_true rfl) dX11_seal_52 (fun v w hq => ?_)
    obtain ⟨zr_4043, hz_4044, rfl, rfl⟩ := hq
    replace e_ := fun β k_ => (e_ β k_).trans (hz_4044 β _)
    show G E X 3 [(m, .inr (11, mkF r m_1 m_4 m_9 m_10 m_14 m_15 m_25 m_26 m_27 m_28 m_29 m_31 m_32 m_33 m_35 m_36 m_37 m_38 m_39 m_40 m_42)), ((r 6), .inl (E.2.2.1 0, 2, .inl (iM r6_f))), ((r 5), .inl (E.2.2.1 1, 12000, .inl (nb r5_f)))] 0 0 [(2, .int 6000), (0, .ref m), (1, .int 1)] 55 [.int zr_4043, .int (nI ((6000 + (r6_f 1)) - 4)), .ref (r 5)]
    refine g_callS (st := []) (As := [.ref (r 5), .int (nI ((6000 + (r6_f 1)) - 4)), .int zr_4043]) (wr := [(m, .inr (11, mkF r m_1 m_4 m_9 m_10 m_14 m_15 m_25 m_26 m_27 m_28 m_29 m_31 m_32 m_33 m_35 m_36 m_37 m_38 m_39 m_40 m_42)), ((r 6), .inl (E.2.2.1 0, 2, .inl (iM r6_f)))]) (nc' := 0) (ns' := 0) B cl_X11_263 w_sm_X11_putInt (wr_X11_putInt E (r 5) 12000 ((6000 + (r6_f 1)) - 4) r5_f zr_4043 (by first | assumption | omega | decide | exact hCF _ (by omega)) (by first | assumption | omega | decide | exact hCF _ (by omega))) rfl [2] [0, 1] rfl rfl (by decide) (by decide) (by decide) ⟨by decide, by decide⟩ rfl rfl (by decide) (by decide) rfl (Nat.le_of_ble_eq_true rfl) dX11_seal_55 (fun v w hq => ?_)
    obtain ⟨ztf_4045, hz_4046, rfl, rfl⟩ := hq
    replace e_ := fun β k_ => (e_ β k_).trans (hz_4046 β _)
    show G E X 3 [(m, .inr (11, mkF r m_1 m_4 m_9 m_10 m_14 m_15 m_25 m_26 m_27 m_28 m_29 m_31 m_32 m_33 m_35 m_36 m_37 m_38 m_39 m_40 m_42)), ((r 6), .inl (E.2.2.1 0, 2, .inl (iM r6_f))), ((r 5), .inl (E.2.2.1 1, 12000, .inl (nb ztf_4045)))] 0 0 [(2, .int 6000), (0, .ref m), (1, .int 1)] 58 []
    refine g_iconst (v := 1) B dX11_seal_58 (by decide) ?_
    exact g_zret B hr (by decide) dX11_seal_59 (by decide) (by decide) ⟨ztf_4045, 1, (by first | assumption | omega | decide | exact hCF _ (by omega)), e_, rfl, rfl⟩
  · have hn_4040 : (r6_f 1) < 5 := Nat.not_le.mp (fun q => c14_4038 ((nI_leI (a := 5) (b := (r6_f 1)) (by omega) (by omega)).mpr q))
    replace e_ := fun β k_ => (e_ β k_).trans (if_neg (Nat.not_le.mpr hn_4040))
    refine g_iconst (v := 0) B dX11_seal_17 (by decide) ?_
    exact g_zret B hr (by decide) dX11_seal_18 (by decide) (by decide) ⟨r5_f, 0, (by first | assumption | omega | decide | exact hCF _ (by omega)), e_, rfl, rfl⟩
abbrev MX11_look : g_M := (yX11_look, cX11_look, 2, (some .int))
theorem dX11_look_0 : decode cX11_look 0 = .ok (.iload_n 1, 1) := by decide +kernel
theorem dX11_look_1 : decode cX11_look 1 = .ok (.ifCond .lt 9, 3) := by decide +kernel
theorem dX11_look_10 : decode cX11_look 10 = .ok (.iconst (-1), 1) := by decide +kernel
theorem dX11_look_11 : decode cX11_look 11 = .ok (.goto 9, 3) := by decide +kernel
theorem dX11_look_20 : decode cX11_look 20 = .ok (.ireturn, 1) := by decide +kernel
theorem dX11_look_4 : decode cX11_look 4 = .ok (.iload_n 1, 1) := by decide +kernel
theorem dX11_look_5 : decode cX11_look 5 = .ok (.bipush 9, 2) := by decide +kernel
theorem dX11_look_7 : decode cX11_look 7 = .ok (.if_icmp .le 7, 3) := by decide +kernel
theorem dX11_look_14 : decode cX11_look 14 = .ok (.aload_n 0, 1) := by decide +kernel
theorem dX11_look_15 : decode cX11_look 15 = .ok (.getfield 32, 3) := by decide +kernel
theorem dX11_look_18 : decode cX11_look 18 = .ok (.iload_n 1, 1) := by decide +kernel
theorem dX11_look_19 : decode cX11_look 19 = .ok (.iaload, 1) := by decide +kernel
set_option maxRecDepth 100000 in
def fn_wr_X11_look (r11_f : Nat → Int32) (w : Int32) (β : Type) (k_ : Int32 → β) : β := (if w < 0 then (k_ (-1)) else (if w ≤ 9 then (fnL (Int32.toNatClampNeg w) (fun j_4049 => (k_ (r11_f j_4049)))) else (k_ (-1))))
set_option maxRecDepth 100000 in
theorem fn_wr_X11_look_s {r11_f : Nat → Int32} {w : Int32} {β : Type} {k_ : Int32 → β} : fn_wr_X11_look r11_f w β k_ = (if w < 0 then (k_ (-1)) else (if w ≤ 9 then (fnL (Int32.toNatClampNeg w) (fun j_4049 => (k_ (r11_f j_4049)))) else (k_ (-1)))) := rfl
set_option maxRecDepth 100000 in
set_option maxHeartbeats 4000000 in
theorem wr_X11_look (E : g_E) (m : Nat) (r : Nat → Nat) (m_1 : Nat) (m_4 : Nat) (m_9 : Nat) (m_10 : Nat) (m_14 : Nat) (m_15 : Nat) (m_25 : Int32) (m_26 : Int32) (m_27 : Int64) (m_28 : Nat) (m_29 : Nat) (m_31 : Nat) (m_32 : Nat) (m_33 : Nat) (m_35 : Nat) (m_36 : Nat) (m_37 : Int32) (m_38 : Nat) (m_39 : Int32) (m_40 : Int32) (m_42 : Nat) (r11_f : Nat → Int32) (w : Int32)  : Ev E MX11_look 0 0 0 0 [.ref m, .int w] [(m, .inr (11, mkF r m_1 m_4 m_9 m_10 m_14 m_15 m_25 m_26 m_27 m_28 m_29 m_31 m_32 m_33 m_35 m_36 m_37 m_38 m_39 m_40 m_42)), ((r 11), .inl (E.2.2.1 0, 10, .inl r11_f))] (fun v_ w_ => ∃ zr : Int32, (∀ (β : Type) (k_ : Int32 → β), fn_wr_X11_look r11_f w β k_ = k_ zr) ∧ v_ = some (.int zr) ∧ w_ = [(m, .inr (11, mkF r m_1 m_4 m_9 m_10 m_14 m_15 m_25 m_26 m_27 m_28 m_29 m_31 m_32 m_33 m_35 m_36 m_37 m_38 m_39 m_40 m_42)), ((r 11), .inl (E.2.2.1 0, 10, .inl r11_f))]) := by
  refine Ev.intro (by decide) (Nat.le_of_ble_eq_true rfl) ?_
  intro X B hr hI
  have B : Bd E X cX11_look RX11 2 0 0 0 0 := B
  have hr : Rt E X (some .int) 0 0 (fun v_ w_ => ∃ zr : Int32, (∀ (β : Type) (k_ : Int32 → β), fn_wr_X11_look r11_f w β k_ = k_ zr) ∧ v_ = some (.int zr) ∧ w_ = [(m, .inr (11, mkF r m_1 m_4 m_9 m_10 m_14 m_15 m_25 m_26 m_27 m_28 m_29 m_31 m_32 m_33 m_35 m_36 m_37 m_38 m_39 m_40 m_42)), ((r 11), .inl (E.2.2.1 0, 10, .inl r11_f))]) := hr
  have e_ := fun (β : Type) (k_ : Int32 → β) => fn_wr_X11_look_s (β := β) (k_ := k_) (r11_f := r11_f) (w := w)
  show G E X 2 [(m, .inr (11, mkF r m_1 m_4 m_9 m_10 m_14 m_15 m_25 m_26 m_27 m_28 m_29 m_31 m_32 m_33 m_35 m_36 m_37 m_38 m_39 m_40 m_42)), ((r 11), .inl (E.2.2.1 0, 10, .inl r11_f))] 0 0 [(0, .ref m), (1, .int w)] 0 []
  refine g_iload_n B dX11_look_0 rfl 1 rfl ?_
  refine g_if_lt (tgt := 10) B dX11_look_1 (by decide) (fun c1_4047 => ?_) (fun c1_4047 => ?_)
  · replace e_ := fun β k_ => (e_ β k_).trans (if_pos c1_4047)
    refine g_iconst (v := (-1)) B dX11_look_10 (by decide) ?_
    refine g_goto (tgt := 20) B dX11_look_11 (by decide) ?_
    exact g_iret B hr dX11_look_20 (by decide) (by decide) ⟨(-1), e_, rfl, rfl⟩
  · replace e_ := fun β k_ => (e_ β k_).trans (if_neg c1_4047)
    refine g_iload_n B dX11_look_4 rfl 1 rfl ?_
    refine g_bipush (v := 9) B dX11_look_5 (by decide) ?_
    refine g_icmp_le (tgt := 14) B dX11_look_7 (by decide) (fun c7_4048 => ?_) (fun c7_4048 => ?_)
    · replace e_ := fun β k_ => (e_ β k_).trans (if_pos c7_4048)
      obtain ⟨j_4049, hj_4049, rfl⟩ := ix_le (n := 9) (by omega) c1_4047 c7_4048
      replace e_ := fun β k_ => (e_ β k_).trans (fnL_eq (x := j_4049) (nI_clamp (by omega)) _)
      refine g_aload_n B dX11_look_14 rfl 0 rfl ?_
      refine g_get B 0 11 fl_X11_32 rfl mf_11 dX11_look_15 ?_
      refine g_iload_n B dX11_look_18 rfl 1 rfl ?_
      refine g_iald B 1 rfl (vp_in_nI (by omega) (by omega)) dX11_look_19 ?_
      refine g_ri (x' := (r11_f j_4049)) (congrArg r11_f (nI_clamp (n := j_4049) (by omega))) ?_
      exact g_iret B hr dX11_look_20 (by decide) (by decide) ⟨(r11_f j_4049), e_, rfl, rfl⟩
    · replace e_ := fun β k_ => (e_ β k_).trans (if_neg c7_4048)
      refine g_iconst (v := (-1)) B dX11_look_10 (by decide) ?_
      refine g_goto (tgt := 20) B dX11_look_11 (by decide) ?_
      exact g_iret B hr dX11_look_20 (by decide) (by decide) ⟨(-1), e_, rfl, rfl⟩
abbrev MX11_weight : g_M := (yX11_weight, cX11_weight, 3, (some .int))
theorem dX11_weight_0 : decode cX11_weight 0 = .ok (.iload_n 1, 1) := by decide +kernel
theorem dX11_weight_1 : decode cX11_weight 1 = .ok (.ifCond .lt 18, 3) := by decide +kernel
theorem dX11_weight_19 : decode cX11_weight 19 = .ok (.iconst 0, 1) := by decide +kernel
theorem dX11_weight_20 : decode cX11_weight 20 = .ok (.goto 13, 3) := by decide +kernel
theorem dX11_weight_33 : decode cX11_weight 33 = .ok (.ireturn, 1) := by decide +kernel
theorem dX11_weight_4 : decode cX11_weight 4 = .ok (.iload_n 1, 1) := by decide +kernel
theorem dX11_weight_5 : decode cX11_weight 5 = .ok (.bipush 8, 2) := by decide +kernel
theorem dX11_weight_7 : decode cX11_weight 7 = .ok (.if_icmp .ge 12, 3) := by decide +kernel
theorem dX11_weight_10 : decode cX11_weight 10 = .ok (.iload_n 2, 1) := by decide +kernel
theorem dX11_weight_11 : decode cX11_weight 11 = .ok (.ifCond .eq 12, 3) := by decide +kernel
theorem dX11_weight_14 : decode cX11_weight 14 = .ok (.iload_n 2, 1) := by decide +kernel
theorem dX11_weight_15 : decode cX11_weight 15 = .ok (.iconst 1, 1) := by decide +kernel
theorem dX11_weight_16 : decode cX11_weight 16 = .ok (.if_icmp .eq 7, 3) := by decide +kernel
set_option maxRecDepth 100000 in
set_option maxHeartbeats 4000000 in
theorem wr_X11_weight_n (E : g_E) (m : Nat) (r : Nat → Nat) (m_1 : Nat) (m_4 : Nat) (m_9 : Nat) (m_10 : Nat) (m_14 : Nat) (m_15 : Nat) (m_25 : Int32) (m_26 : Int32) (m_27 : Int64) (m_28 : Nat) (m_29 : Nat) (m_31 : Nat) (m_32 : Nat) (m_33 : Nat) (m_35 : Nat) (m_36 : Nat) (m_37 : Int32) (m_38 : Nat) (m_39 : Int32) (m_40 : Int32) (m_42 : Nat) (p : Int32) (wh : Int32) (h0 : ¬ wh = 0) (h1 : ¬ wh = 1) : Ev E MX11_weight 0 0 0 0 [.ref m, .int p, .int wh] [(m, .inr (11, mkF r m_1 m_4 m_9 m_10 m_14 m_15 m_25 m_26 m_27 m_28 m_29 m_31 m_32 m_33 m_35 m_36 m_37 m_38 m_39 m_40 m_42))] (fun v_ w_ => v_ = some (.int 0) ∧ w_ = [(m, .inr (11, mkF r m_1 m_4 m_9 m_10 m_14 m_15 m_25 m_26 m_27 m_28 m_29 m_31 m_32 m_33 m_35 m_36 m_37 m_38 m_39 m_40 m_42))]) := by
  refine Ev.intro (by decide) (Nat.le_of_ble_eq_true rfl) ?_
  intro X B hr hI
  have B : Bd E X cX11_weight RX11 3 0 0 0 0 := B
  have hr : Rt E X (some .int) 0 0 (fun v_ w_ => v_ = some (.int 0) ∧ w_ = [(m, .inr (11, mkF r m_1 m_4 m_9 m_10 m_14 m_15 m_25 m_26 m_27 m_28 m_29 m_31 m_32 m_33 m_35 m_36 m_37 m_38 m_39 m_40 m_42))]) := hr
  show G E X 3 [(m, .inr (11, mkF r m_1 m_4 m_9 m_10 m_14 m_15 m_25 m_26 m_27 m_28 m_29 m_31 m_32 m_33 m_35 m_36 m_37 m_38 m_39 m_40 m_42))] 0 0 [(0, .ref m), (1, .int p), (2, .int wh)] 0 []
  refine g_iload_n B dX11_weight_0 rfl 1 rfl ?_
  refine g_if_lt (tgt := 19) B dX11_weight_1 (by decide) (fun c1_4050 => ?_) (fun c1_4050 => ?_)
  · refine g_iconst (v := 0) B dX11_weight_19 (by decide) ?_
    refine g_goto (tgt := 33) B dX11_weight_20 (by decide) ?_
    exact g_iret B hr dX11_weight_33 (by decide) (by decide) ⟨rfl, rfl⟩
  · refine g_iload_n B dX11_weight_4 rfl 1 rfl ?_
    refine g_bipush (v := 8) B dX11_weight_5 (by decide) ?_
    refine g_icmp_ge (tgt := 19) B dX11_weight_7 (by decide) (fun c7_4051 => ?_) (fun c7_4051 => ?_)
    · refine g_iconst (v := 0) B dX11_weight_19 (by decide) ?_
      refine g_goto (tgt := 33) B dX11_weight_20 (by decide) ?_
      exact g_iret B hr dX11_weight_33 (by decide) (by decide) ⟨rfl, rfl⟩
    · refine g_iload_n B dX11_weight_10 rfl 2 rfl ?_
      refine g_if_eq (tgt := 23) B dX11_weight_11 (by decide) (fun h => absurd h h0) (fun c11 => ?_)
      refine g_iload_n B dX11_weight_14 rfl 2 rfl ?_
      refine g_iconst (v := 1) B dX11_weight_15 (by decide) ?_
      refine g_icmp_eq (tgt := 23) B dX11_weight_16 (by decide) (fun h => absurd h h1) (fun c16 => ?_)
      refine g_iconst (v := 0) B dX11_weight_19 (by decide) ?_
      refine g_goto (tgt := 33) B dX11_weight_20 (by decide) ?_
      exact g_iret B hr dX11_weight_33 (by decide) (by decide) ⟨rfl, rfl⟩
abbrev MX11_median : g_M := (yX11_median, cX11_median, 3, (some .long))
theorem dX11_median_0 : decode cX11_median 0 = .ok (.iload_n 1, 1) := by decide +kernel
theorem dX11_median_1 : decode cX11_median 1 = .ok (.ifCond .eq 8, 3) := by decide +kernel
theorem dX11_median_4 : decode cX11_median 4 = .ok (.iload_n 1, 1) := by decide +kernel
theorem dX11_median_5 : decode cX11_median 5 = .ok (.iconst 1, 1) := by decide +kernel
theorem dX11_median_6 : decode cX11_median 6 = .ok (.if_icmp .ne 12, 3) := by decide +kernel
theorem dX11_median_18 : decode cX11_median 18 = .ok (.lconst 0, 1) := by decide +kernel
theorem dX11_median_19 : decode cX11_median 19 = .ok (.goto 13, 3) := by decide +kernel
theorem dX11_median_32 : decode cX11_median 32 = .ok (.lreturn, 1) := by decide +kernel
set_option maxRecDepth 100000 in
set_option maxHeartbeats 4000000 in
theorem wr_X11_median_n (E : g_E) (m : Nat) (r : Nat → Nat) (m_1 : Nat) (m_4 : Nat) (m_9 : Nat) (m_10 : Nat) (m_14 : Nat) (m_15 : Nat) (m_25 : Int32) (m_26 : Int32) (m_27 : Int64) (m_28 : Nat) (m_29 : Nat) (m_31 : Nat) (m_32 : Nat) (m_33 : Nat) (m_35 : Nat) (m_36 : Nat) (m_37 : Int32) (m_38 : Nat) (m_39 : Int32) (m_40 : Int32) (m_42 : Nat) (wh : Int32) (k : Int32) (h0 : ¬ wh = 0) (h1 : ¬ wh = 1) : Ev E MX11_median 0 0 0 0 [.ref m, .int wh, .int k] [(m, .inr (11, mkF r m_1 m_4 m_9 m_10 m_14 m_15 m_25 m_26 m_27 m_28 m_29 m_31 m_32 m_33 m_35 m_36 m_37 m_38 m_39 m_40 m_42))] (fun v_ w_ => v_ = some (.long 0) ∧ w_ = [(m, .inr (11, mkF r m_1 m_4 m_9 m_10 m_14 m_15 m_25 m_26 m_27 m_28 m_29 m_31 m_32 m_33 m_35 m_36 m_37 m_38 m_39 m_40 m_42))]) := by
  refine Ev.intro (by decide) (Nat.le_of_ble_eq_true rfl) ?_
  intro X B hr hI
  have B : Bd E X cX11_median RX11 3 0 0 0 0 := B
  have hr : Rt E X (some .long) 0 0 (fun v_ w_ => v_ = some (.long 0) ∧ w_ = [(m, .inr (11, mkF r m_1 m_4 m_9 m_10 m_14 m_15 m_25 m_26 m_27 m_28 m_29 m_31 m_32 m_33 m_35 m_36 m_37 m_38 m_39 m_40 m_42))]) := hr
  show G E X 3 [(m, .inr (11, mkF r m_1 m_4 m_9 m_10 m_14 m_15 m_25 m_26 m_27 m_28 m_29 m_31 m_32 m_33 m_35 m_36 m_37 m_38 m_39 m_40 m_42))] 0 0 [(0, .ref m), (1, .int wh), (2, .int k)] 0 []
  refine g_iload_n B dX11_median_0 rfl 1 rfl ?_
  refine g_if_eq (tgt := 9) B dX11_median_1 (by decide) (fun h => absurd h h0) (fun c1 => ?_)
  refine g_iload_n B dX11_median_4 rfl 1 rfl ?_
  refine g_iconst (v := 1) B dX11_median_5 (by decide) ?_
  refine g_icmp_ne (tgt := 18) B dX11_median_6 (by decide) (fun c6 => ?_) (fun h => absurd h h1)
  refine g_lconst (v := 0) B dX11_median_18 (by decide) ?_
  refine g_goto (tgt := 32) B dX11_median_19 (by decide) ?_
  exact g_lret B hr dX11_median_32 (by decide) (by decide) ⟨rfl, rfl⟩
theorem dX11_weight_23 : decode cX11_weight 23 = .ok (.aload_n 0, 1) := by decide +kernel
theorem dX11_weight_24 : decode cX11_weight 24 = .ok (.getfield 35, 3) := by decide +kernel
theorem dX11_weight_27 : decode cX11_weight 27 = .ok (.iconst 2, 1) := by decide +kernel
theorem dX11_weight_28 : decode cX11_weight 28 = .ok (.iload_n 1, 1) := by decide +kernel
theorem dX11_weight_29 : decode cX11_weight 29 = .ok (.imul, 1) := by decide +kernel
theorem dX11_weight_30 : decode cX11_weight 30 = .ok (.iload_n 2, 1) := by decide +kernel
theorem dX11_weight_31 : decode cX11_weight 31 = .ok (.iadd, 1) := by decide +kernel
theorem dX11_weight_32 : decode cX11_weight 32 = .ok (.iaload, 1) := by decide +kernel
set_option maxRecDepth 100000 in
def fn_wr_X11_weight_0 (r12_f : Nat → Int32) (p : Int32) (β : Type) (k_ : Int32 → β) : β := (if p < 0 then (k_ 0) else (if 8 ≤ p then (k_ 0) else (fnL (Int32.toNatClampNeg p) (fun j_4054 => (k_ (r12_f ((2 * j_4054) + 0)))))))
set_option maxRecDepth 100000 in
theorem fn_wr_X11_weight_0_s {r12_f : Nat → Int32} {p : Int32} {β : Type} {k_ : Int32 → β} : fn_wr_X11_weight_0 r12_f p β k_ = (if p < 0 then (k_ 0) else (if 8 ≤ p then (k_ 0) else (fnL (Int32.toNatClampNeg p) (fun j_4054 => (k_ (r12_f ((2 * j_4054) + 0))))))) := rfl
set_option maxRecDepth 100000 in
set_option maxHeartbeats 4000000 in
theorem wr_X11_weight_0 (E : g_E) (m : Nat) (r : Nat → Nat) (m_1 : Nat) (m_4 : Nat) (m_9 : Nat) (m_10 : Nat) (m_14 : Nat) (m_15 : Nat) (m_25 : Int32) (m_26 : Int32) (m_27 : Int64) (m_28 : Nat) (m_29 : Nat) (m_31 : Nat) (m_32 : Nat) (m_33 : Nat) (m_35 : Nat) (m_36 : Nat) (m_37 : Int32) (m_38 : Nat) (m_39 : Int32) (m_40 : Int32) (m_42 : Nat) (r12_f : Nat → Int32) (p : Int32)  : Ev E MX11_weight 0 0 0 0 [.ref m, .int p, .int 0] [(m, .inr (11, mkF r m_1 m_4 m_9 m_10 m_14 m_15 m_25 m_26 m_27 m_28 m_29 m_31 m_32 m_33 m_35 m_36 m_37 m_38 m_39 m_40 m_42)), ((r 12), .inl (E.2.2.1 0, 16, .inl r12_f))] (fun v_ w_ => ∃ zr : Int32, (∀ (β : Type) (k_ : Int32 → β), fn_wr_X11_weight_0 r12_f p β k_ = k_ zr) ∧ v_ = some (.int zr) ∧ w_ = [(m, .inr (11, mkF r m_1 m_4 m_9 m_10 m_14 m_15 m_25 m_26 m_27 m_28 m_29 m_31 m_32 m_33 m_35 m_36 m_37 m_38 m_39 m_40 m_42)), ((r 12), .inl (E.2.2.1 0, 16, .inl r12_f))]) := by
  refine Ev.intro (by decide) (Nat.le_of_ble_eq_true rfl) ?_
  intro X B hr hI
  have B : Bd E X cX11_weight RX11 3 0 0 0 0 := B
  have hr : Rt E X (some .int) 0 0 (fun v_ w_ => ∃ zr : Int32, (∀ (β : Type) (k_ : Int32 → β), fn_wr_X11_weight_0 r12_f p β k_ = k_ zr) ∧ v_ = some (.int zr) ∧ w_ = [(m, .inr (11, mkF r m_1 m_4 m_9 m_10 m_14 m_15 m_25 m_26 m_27 m_28 m_29 m_31 m_32 m_33 m_35 m_36 m_37 m_38 m_39 m_40 m_42)), ((r 12), .inl (E.2.2.1 0, 16, .inl r12_f))]) := hr
  have e_ := fun (β : Type) (k_ : Int32 → β) => fn_wr_X11_weight_0_s (β := β) (k_ := k_) (r12_f := r12_f) (p := p)
  show G E X 3 [(m, .inr (11, mkF r m_1 m_4 m_9 m_10 m_14 m_15 m_25 m_26 m_27 m_28 m_29 m_31 m_32 m_33 m_35 m_36 m_37 m_38 m_39 m_40 m_42)), ((r 12), .inl (E.2.2.1 0, 16, .inl r12_f))] 0 0 [(0, .ref m), (1, .int p), (2, .int 0)] 0 []
  refine g_iload_n B dX11_weight_0 rfl 1 rfl ?_
  refine g_if_lt (tgt := 19) B dX11_weight_1 (by decide) (fun c1_4052 => ?_) (fun c1_4052 => ?_)
  · replace e_ := fun β k_ => (e_ β k_).trans (if_pos c1_4052)
    refine g_iconst (v := 0) B dX11_weight_19 (by decide) ?_
    refine g_goto (tgt := 33) B dX11_weight_20 (by decide) ?_
    exact g_iret B hr dX11_weight_33 (by decide) (by decide) ⟨0, e_, rfl, rfl⟩
  · replace e_ := fun β k_ => (e_ β k_).trans (if_neg c1_4052)
    refine g_iload_n B dX11_weight_4 rfl 1 rfl ?_
    refine g_bipush (v := 8) B dX11_weight_5 (by decide) ?_
    refine g_icmp_ge (tgt := 19) B dX11_weight_7 (by decide) (fun c7_4053 => ?_) (fun c7_4053 => ?_)
    · replace e_ := fun β k_ => (e_ β k_).trans (if_pos c7_4053)
      refine g_iconst (v := 0) B dX11_weight_19 (by decide) ?_
      refine g_goto (tgt := 33) B dX11_weight_20 (by decide) ?_
      exact g_iret B hr dX11_weight_33 (by decide) (by decide) ⟨0, e_, rfl, rfl⟩
    · replace e_ := fun β k_ => (e_ β k_).trans (if_neg c7_4053)
      refine g_iload_n B dX11_weight_10 rfl 2 rfl ?_
      refine g_if_eq (tgt := 23) B dX11_weight_11 (by decide) (fun c11 => ?_) (fun h => absurd (by decide) h)
      obtain ⟨j_4054, hj_4054, rfl⟩ := ix_lt (n := 8) (by omega) c1_4052 (o_2 c7_4053)
      replace e_ := fun β k_ => (e_ β k_).trans (fnL_eq (x := j_4054) (nI_clamp (by omega)) _)
      refine g_aload_n B dX11_weight_23 rfl 0 rfl ?_
      refine g_get B 0 12 fl_X11_35 rfl mf_12 dX11_weight_24 ?_
      refine g_iconst (v := 2) B dX11_weight_27 (by decide) ?_
      refine g_iload_n B dX11_weight_28 rfl 1 rfl ?_
      refine g_imul B dX11_weight_29 ?_
      refine g_ri (x' := nI (2 * j_4054)) (pk_mul 2 j_4054) ?_
      refine g_iload_n B dX11_weight_30 rfl 2 rfl ?_
      refine g_iadd B dX11_weight_31 ?_
      refine g_ri (x' := nI ((2 * j_4054) + 0)) (nI_add (2 * j_4054) 0) ?_
      refine g_iald B 1 rfl (vp_in_nI (by omega) (by omega)) dX11_weight_32 ?_
      refine g_ri (x' := (r12_f ((2 * j_4054) + 0))) (congrArg r12_f (nI_clamp (n := ((2 * j_4054) + 0)) (by omega))) ?_
      exact g_iret B hr dX11_weight_33 (by decide) (by decide) ⟨(r12_f ((2 * j_4054) + 0)), e_, rfl, rfl⟩
theorem dX11_median_9 : decode cX11_median 9 = .ok (.iload_n 2, 1) := by decide +kernel
theorem dX11_median_10 : decode cX11_median 10 = .ok (.ifCond .lt 8, 3) := by decide +kernel
theorem dX11_median_13 : decode cX11_median 13 = .ok (.iload_n 2, 1) := by decide +kernel
theorem dX11_median_14 : decode cX11_median 14 = .ok (.iconst 2, 1) := by decide +kernel
theorem dX11_median_15 : decode cX11_median 15 = .ok (.if_icmp .le 7, 3) := by decide +kernel
theorem dX11_median_22 : decode cX11_median 22 = .ok (.aload_n 0, 1) := by decide +kernel
theorem dX11_median_23 : decode cX11_median 23 = .ok (.getfield 38, 3) := by decide +kernel
theorem dX11_median_26 : decode cX11_median 26 = .ok (.iconst 3, 1) := by decide +kernel
theorem dX11_median_27 : decode cX11_median 27 = .ok (.iload_n 1, 1) := by decide +kernel
theorem dX11_median_28 : decode cX11_median 28 = .ok (.imul, 1) := by decide +kernel
theorem dX11_median_29 : decode cX11_median 29 = .ok (.iload_n 2, 1) := by decide +kernel
theorem dX11_median_30 : decode cX11_median 30 = .ok (.iadd, 1) := by decide +kernel
theorem dX11_median_31 : decode cX11_median 31 = .ok (.laload, 1) := by decide +kernel
set_option maxRecDepth 100000 in
def fn_wr_X11_median_0 (r13_f : Nat → Int64) (k : Int32) (β : Type) (k_ : Int64 → β) : β := (if k < 0 then (k_ 0) else (if k ≤ 2 then (fnL (Int32.toNatClampNeg k) (fun j_4057 => (k_ (r13_f (0 + j_4057))))) else (k_ 0)))
set_option maxRecDepth 100000 in
theorem fn_wr_X11_median_0_s {r13_f : Nat → Int64} {k : Int32} {β : Type} {k_ : Int64 → β} : fn_wr_X11_median_0 r13_f k β k_ = (if k < 0 then (k_ 0) else (if k ≤ 2 then (fnL (Int32.toNatClampNeg k) (fun j_4057 => (k_ (r13_f (0 + j_4057))))) else (k_ 0))) := rfl
set_option maxRecDepth 100000 in
set_option maxHeartbeats 4000000 in
theorem wr_X11_median_0 (E : g_E) (m : Nat) (r : Nat → Nat) (m_1 : Nat) (m_4 : Nat) (m_9 : Nat) (m_10 : Nat) (m_14 : Nat) (m_15 : Nat) (m_25 : Int32) (m_26 : Int32) (m_27 : Int64) (m_28 : Nat) (m_29 : Nat) (m_31 : Nat) (m_32 : Nat) (m_33 : Nat) (m_35 : Nat) (m_36 : Nat) (m_37 : Int32) (m_38 : Nat) (m_39 : Int32) (m_40 : Int32) (m_42 : Nat) (r13_f : Nat → Int64) (k : Int32)  : Ev E MX11_median 0 0 0 0 [.ref m, .int 0, .int k] [(m, .inr (11, mkF r m_1 m_4 m_9 m_10 m_14 m_15 m_25 m_26 m_27 m_28 m_29 m_31 m_32 m_33 m_35 m_36 m_37 m_38 m_39 m_40 m_42)), ((r 13), .inl (E.2.2.1 3, 6, .inr (.inl r13_f)))] (fun v_ w_ => ∃ zr : Int64, (∀ (β : Type) (k_ : Int64 → β), fn_wr_X11_median_0 r13_f k β k_ = k_ zr) ∧ v_ = some (.long zr) ∧ w_ = [(m, .inr (11, mkF r m_1 m_4 m_9 m_10 m_14 m_15 m_25 m_26 m_27 m_28 m_29 m_31 m_32 m_33 m_35 m_36 m_37 m_38 m_39 m_40 m_42)), ((r 13), .inl (E.2.2.1 3, 6, .inr (.inl r13_f)))]) := by
  refine Ev.intro (by decide) (Nat.le_of_ble_eq_true rfl) ?_
  intro X B hr hI
  have B : Bd E X cX11_median RX11 3 0 0 0 0 := B
  have hr : Rt E X (some .long) 0 0 (fun v_ w_ => ∃ zr : Int64, (∀ (β : Type) (k_ : Int64 → β), fn_wr_X11_median_0 r13_f k β k_ = k_ zr) ∧ v_ = some (.long zr) ∧ w_ = [(m, .inr (11, mkF r m_1 m_4 m_9 m_10 m_14 m_15 m_25 m_26 m_27 m_28 m_29 m_31 m_32 m_33 m_35 m_36 m_37 m_38 m_39 m_40 m_42)), ((r 13), .inl (E.2.2.1 3, 6, .inr (.inl r13_f)))]) := hr
  have e_ := fun (β : Type) (k_ : Int64 → β) => fn_wr_X11_median_0_s (β := β) (k_ := k_) (r13_f := r13_f) (k := k)
  show G E X 3 [(m, .inr (11, mkF r m_1 m_4 m_9 m_10 m_14 m_15 m_25 m_26 m_27 m_28 m_29 m_31 m_32 m_33 m_35 m_36 m_37 m_38 m_39 m_40 m_42)), ((r 13), .inl (E.2.2.1 3, 6, .inr (.inl r13_f)))] 0 0 [(0, .ref m), (1, .int 0), (2, .int k)] 0 []
  refine g_iload_n B dX11_median_0 rfl 1 rfl ?_
  refine g_if_eq (tgt := 9) B dX11_median_1 (by decide) (fun c1 => ?_) (fun h => absurd (by decide) h)
  refine g_iload_n B dX11_median_9 rfl 2 rfl ?_
  refine g_if_lt (tgt := 18) B dX11_median_10 (by decide) (fun c10_4055 => ?_) (fun c10_4055 => ?_)
  · replace e_ := fun β k_ => (e_ β k_).trans (if_pos c10_4055)
    refine g_lconst (v := 0) B dX11_median_18 (by decide) ?_
    refine g_goto (tgt := 32) B dX11_median_19 (by decide) ?_
    exact g_lret B hr dX11_median_32 (by decide) (by decide) ⟨0, e_, rfl, rfl⟩
  · replace e_ := fun β k_ => (e_ β k_).trans (if_neg c10_4055)
    refine g_iload_n B dX11_median_13 rfl 2 rfl ?_
    refine g_iconst (v := 2) B dX11_median_14 (by decide) ?_
    refine g_icmp_le (tgt := 22) B dX11_median_15 (by decide) (fun c15_4056 => ?_) (fun c15_4056 => ?_)
    · replace e_ := fun β k_ => (e_ β k_).trans (if_pos c15_4056)
      obtain ⟨j_4057, hj_4057, rfl⟩ := ix_le (n := 2) (by omega) c10_4055 c15_4056
      replace e_ := fun β k_ => (e_ β k_).trans (fnL_eq (x := j_4057) (nI_clamp (by omega)) _)
      refine g_aload_n B dX11_median_22 rfl 0 rfl ?_
      refine g_get B 0 13 fl_X11_38 rfl mf_13 dX11_median_23 ?_
      refine g_iconst (v := 3) B dX11_median_26 (by decide) ?_
      refine g_iload_n B dX11_median_27 rfl 1 rfl ?_
      refine g_imul B dX11_median_28 ?_
      refine g_ri (x' := 0) (by decide) ?_
      refine g_iload_n B dX11_median_29 rfl 2 rfl ?_
      refine g_iadd B dX11_median_30 ?_
      refine g_ri (x' := nI (0 + j_4057)) (nI_add 0 j_4057) ?_
      refine g_lald B 1 rfl (vp_in_nI (by omega) (by omega)) dX11_median_31 ?_
      refine g_rl (x' := (r13_f (0 + j_4057))) (congrArg r13_f (nI_clamp (n := (0 + j_4057)) (by omega))) ?_
      exact g_lret B hr dX11_median_32 (by decide) (by decide) ⟨(r13_f (0 + j_4057)), e_, rfl, rfl⟩
    · replace e_ := fun β k_ => (e_ β k_).trans (if_neg c15_4056)
      refine g_lconst (v := 0) B dX11_median_18 (by decide) ?_
      refine g_goto (tgt := 32) B dX11_median_19 (by decide) ?_
      exact g_lret B hr dX11_median_32 (by decide) (by decide) ⟨0, e_, rfl, rfl⟩
set_option maxRecDepth 100000 in
def fn_wr_X11_weight_1 (r12_f : Nat → Int32) (p : Int32) (β : Type) (k_ : Int32 → β) : β := (if p < 0 then (k_ 0) else (if 8 ≤ p then (k_ 0) else (fnL (Int32.toNatClampNeg p) (fun j_4060 => (k_ (r12_f ((2 * j_4060) + 1)))))))
set_option maxRecDepth 100000 in
theorem fn_wr_X11_weight_1_s {r12_f : Nat → Int32} {p : Int32} {β : Type} {k_ : Int32 → β} : fn_wr_X11_weight_1 r12_f p β k_ = (if p < 0 then (k_ 0) else (if 8 ≤ p then (k_ 0) else (fnL (Int32.toNatClampNeg p) (fun j_4060 => (k_ (r12_f ((2 * j_4060) + 1))))))) := rfl
set_option maxRecDepth 100000 in
set_option maxHeartbeats 4000000 in
theorem wr_X11_weight_1 (E : g_E) (m : Nat) (r : Nat → Nat) (m_1 : Nat) (m_4 : Nat) (m_9 : Nat) (m_10 : Nat) (m_14 : Nat) (m_15 : Nat) (m_25 : Int32) (m_26 : Int32) (m_27 : Int64) (m_28 : Nat) (m_29 : Nat) (m_31 : Nat) (m_32 : Nat) (m_33 : Nat) (m_35 : Nat) (m_36 : Nat) (m_37 : Int32) (m_38 : Nat) (m_39 : Int32) (m_40 : Int32) (m_42 : Nat) (r12_f : Nat → Int32) (p : Int32)  : Ev E MX11_weight 0 0 0 0 [.ref m, .int p, .int 1] [(m, .inr (11, mkF r m_1 m_4 m_9 m_10 m_14 m_15 m_25 m_26 m_27 m_28 m_29 m_31 m_32 m_33 m_35 m_36 m_37 m_38 m_39 m_40 m_42)), ((r 12), .inl (E.2.2.1 0, 16, .inl r12_f))] (fun v_ w_ => ∃ zr : Int32, (∀ (β : Type) (k_ : Int32 → β), fn_wr_X11_weight_1 r12_f p β k_ = k_ zr) ∧ v_ = some (.int zr) ∧ w_ = [(m, .inr (11, mkF r m_1 m_4 m_9 m_10 m_14 m_15 m_25 m_26 m_27 m_28 m_29 m_31 m_32 m_33 m_35 m_36 m_37 m_38 m_39 m_40 m_42)), ((r 12), .inl (E.2.2.1 0, 16, .inl r12_f))]) := by
  refine Ev.intro (by decide) (Nat.le_of_ble_eq_true rfl) ?_
  intro X B hr hI
  have B : Bd E X cX11_weight RX11 3 0 0 0 0 := B
  have hr : Rt E X (some .int) 0 0 (fun v_ w_ => ∃ zr : Int32, (∀ (β : Type) (k_ : Int32 → β), fn_wr_X11_weight_1 r12_f p β k_ = k_ zr) ∧ v_ = some (.int zr) ∧ w_ = [(m, .inr (11, mkF r m_1 m_4 m_9 m_10 m_14 m_15 m_25 m_26 m_27 m_28 m_29 m_31 m_32 m_33 m_35 m_36 m_37 m_38 m_39 m_40 m_42)), ((r 12), .inl (E.2.2.1 0, 16, .inl r12_f))]) := hr
  have e_ := fun (β : Type) (k_ : Int32 → β) => fn_wr_X11_weight_1_s (β := β) (k_ := k_) (r12_f := r12_f) (p := p)
  show G E X 3 [(m, .inr (11, mkF r m_1 m_4 m_9 m_10 m_14 m_15 m_25 m_26 m_27 m_28 m_29 m_31 m_32 m_33 m_35 m_36 m_37 m_38 m_39 m_40 m_42)), ((r 12), .inl (E.2.2.1 0, 16, .inl r12_f))] 0 0 [(0, .ref m), (1, .int p), (2, .int 1)] 0 []
  refine g_iload_n B dX11_weight_0 rfl 1 rfl ?_
  refine g_if_lt (tgt := 19) B dX11_weight_1 (by decide) (fun c1_4058 => ?_) (fun c1_4058 => ?_)
  · replace e_ := fun β k_ => (e_ β k_).trans (if_pos c1_4058)
    refine g_iconst (v := 0) B dX11_weight_19 (by decide) ?_
    refine g_goto (tgt := 33) B dX11_weight_20 (by decide) ?_
    exact g_iret B hr dX11_weight_33 (by decide) (by decide) ⟨0, e_, rfl, rfl⟩
  · replace e_ := fun β k_ => (e_ β k_).trans (if_neg c1_4058)
    refine g_iload_n B dX11_weight_4 rfl 1 rfl ?_
    refine g_bipush (v := 8) B dX11_weight_5 (by decide) ?_
    refine g_icmp_ge (tgt := 19) B dX11_weight_7 (by decide) (fun c7_4059 => ?_) (fun c7_4059 => ?_)
    · replace e_ := fun β k_ => (e_ β k_).trans (if_pos c7_4059)
      refine g_iconst (v := 0) B dX11_weight_19 (by decide) ?_
      refine g_goto (tgt := 33) B dX11_weight_20 (by decide) ?_
      exact g_iret B hr dX11_weight_33 (by decide) (by decide) ⟨0, e_, rfl, rfl⟩
    · replace e_ := fun β k_ => (e_ β k_).trans (if_neg c7_4059)
      refine g_iload_n B dX11_weight_10 rfl 2 rfl ?_
      refine g_if_eq (tgt := 23) B dX11_weight_11 (by decide) (fun h => absurd h (by decide)) (fun c11 => ?_)
      refine g_iload_n B dX11_weight_14 rfl 2 rfl ?_
      refine g_iconst (v := 1) B dX11_weight_15 (by decide) ?_
      refine g_icmp_eq (tgt := 23) B dX11_weight_16 (by decide) (fun c16 => ?_) (fun h => absurd (by decide) h)
      obtain ⟨j_4060, hj_4060, rfl⟩ := ix_lt (n := 8) (by omega) c1_4058 (o_2 c7_4059)
      replace e_ := fun β k_ => (e_ β k_).trans (fnL_eq (x := j_4060) (nI_clamp (by omega)) _)
      refine g_aload_n B dX11_weight_23 rfl 0 rfl ?_
      refine g_get B 0 12 fl_X11_35 rfl mf_12 dX11_weight_24 ?_
      refine g_iconst (v := 2) B dX11_weight_27 (by decide) ?_
      refine g_iload_n B dX11_weight_28 rfl 1 rfl ?_
      refine g_imul B dX11_weight_29 ?_
      refine g_ri (x' := nI (2 * j_4060)) (pk_mul 2 j_4060) ?_
      refine g_iload_n B dX11_weight_30 rfl 2 rfl ?_
      refine g_iadd B dX11_weight_31 ?_
      refine g_ri (x' := nI ((2 * j_4060) + 1)) (nI_add (2 * j_4060) 1) ?_
      refine g_iald B 1 rfl (vp_in_nI (by omega) (by omega)) dX11_weight_32 ?_
      refine g_ri (x' := (r12_f ((2 * j_4060) + 1))) (congrArg r12_f (nI_clamp (n := ((2 * j_4060) + 1)) (by omega))) ?_
      exact g_iret B hr dX11_weight_33 (by decide) (by decide) ⟨(r12_f ((2 * j_4060) + 1)), e_, rfl, rfl⟩
set_option maxRecDepth 100000 in
def fn_wr_X11_median_1 (r13_f : Nat → Int64) (k : Int32) (β : Type) (k_ : Int64 → β) : β := (if k < 0 then (k_ 0) else (if k ≤ 2 then (fnL (Int32.toNatClampNeg k) (fun j_4063 => (k_ (r13_f (3 + j_4063))))) else (k_ 0)))
set_option maxRecDepth 100000 in
theorem fn_wr_X11_median_1_s {r13_f : Nat → Int64} {k : Int32} {β : Type} {k_ : Int64 → β} : fn_wr_X11_median_1 r13_f k β k_ = (if k < 0 then (k_ 0) else (if k ≤ 2 then (fnL (Int32.toNatClampNeg k) (fun j_4063 => (k_ (r13_f (3 + j_4063))))) else (k_ 0))) := rfl
set_option maxRecDepth 100000 in
set_option maxHeartbeats 4000000 in
theorem wr_X11_median_1 (E : g_E) (m : Nat) (r : Nat → Nat) (m_1 : Nat) (m_4 : Nat) (m_9 : Nat) (m_10 : Nat) (m_14 : Nat) (m_15 : Nat) (m_25 : Int32) (m_26 : Int32) (m_27 : Int64) (m_28 : Nat) (m_29 : Nat) (m_31 : Nat) (m_32 : Nat) (m_33 : Nat) (m_35 : Nat) (m_36 : Nat) (m_37 : Int32) (m_38 : Nat) (m_39 : Int32) (m_40 : Int32) (m_42 : Nat) (r13_f : Nat → Int64) (k : Int32)  : Ev E MX11_median 0 0 0 0 [.ref m, .int 1, .int k] [(m, .inr (11, mkF r m_1 m_4 m_9 m_10 m_14 m_15 m_25 m_26 m_27 m_28 m_29 m_31 m_32 m_33 m_35 m_36 m_37 m_38 m_39 m_40 m_42)), ((r 13), .inl (E.2.2.1 3, 6, .inr (.inl r13_f)))] (fun v_ w_ => ∃ zr : Int64, (∀ (β : Type) (k_ : Int64 → β), fn_wr_X11_median_1 r13_f k β k_ = k_ zr) ∧ v_ = some (.long zr) ∧ w_ = [(m, .inr (11, mkF r m_1 m_4 m_9 m_10 m_14 m_15 m_25 m_26 m_27 m_28 m_29 m_31 m_32 m_33 m_35 m_36 m_37 m_38 m_39 m_40 m_42)), ((r 13), .inl (E.2.2.1 3, 6, .inr (.inl r13_f)))]) := by
  refine Ev.intro (by decide) (Nat.le_of_ble_eq_true rfl) ?_
  intro X B hr hI
  have B : Bd E X cX11_median RX11 3 0 0 0 0 := B
  have hr : Rt E X (some .long) 0 0 (fun v_ w_ => ∃ zr : Int64, (∀ (β : Type) (k_ : Int64 → β), fn_wr_X11_median_1 r13_f k β k_ = k_ zr) ∧ v_ = some (.long zr) ∧ w_ = [(m, .inr (11, mkF r m_1 m_4 m_9 m_10 m_14 m_15 m_25 m_26 m_27 m_28 m_29 m_31 m_32 m_33 m_35 m_36 m_37 m_38 m_39 m_40 m_42)), ((r 13), .inl (E.2.2.1 3, 6, .inr (.inl r13_f)))]) := hr
  have e_ := fun (β : Type) (k_ : Int64 → β) => fn_wr_X11_median_1_s (β := β) (k_ := k_) (r13_f := r13_f) (k := k)
  show G E X 3 [(m, .inr (11, mkF r m_1 m_4 m_9 m_10 m_14 m_15 m_25 m_26 m_27 m_28 m_29 m_31 m_32 m_33 m_35 m_36 m_37 m_38 m_39 m_40 m_42)), ((r 13), .inl (E.2.2.1 3, 6, .inr (.inl r13_f)))] 0 0 [(0, .ref m), (1, .int 1), (2, .int k)] 0 []
  refine g_iload_n B dX11_median_0 rfl 1 rfl ?_
  refine g_if_eq (tgt := 9) B dX11_median_1 (by decide) (fun h => absurd h (by decide)) (fun c1 => ?_)
  refine g_iload_n B dX11_median_4 rfl 1 rfl ?_
  refine g_iconst (v := 1) B dX11_median_5 (by decide) ?_
  refine g_icmp_ne (tgt := 18) B dX11_median_6 (by decide) (fun h => absurd (by decide) h) (fun c6 => ?_)
  refine g_iload_n B dX11_median_9 rfl 2 rfl ?_
  refine g_if_lt (tgt := 18) B dX11_median_10 (by decide) (fun c10_4061 => ?_) (fun c10_4061 => ?_)
  · replace e_ := fun β k_ => (e_ β k_).trans (if_pos c10_4061)
    refine g_lconst (v := 0) B dX11_median_18 (by decide) ?_
    refine g_goto (tgt := 32) B dX11_median_19 (by decide) ?_
    exact g_lret B hr dX11_median_32 (by decide) (by decide) ⟨0, e_, rfl, rfl⟩
  · replace e_ := fun β k_ => (e_ β k_).trans (if_neg c10_4061)
    refine g_iload_n B dX11_median_13 rfl 2 rfl ?_
    refine g_iconst (v := 2) B dX11_median_14 (by decide) ?_
    refine g_icmp_le (tgt := 22) B dX11_median_15 (by decide) (fun c15_4062 => ?_) (fun c15_4062 => ?_)
    · replace e_ := fun β k_ => (e_ β k_).trans (if_pos c15_4062)
      obtain ⟨j_4063, hj_4063, rfl⟩ := ix_le (n := 2) (by omega) c10_4061 c15_4062
      replace e_ := fun β k_ => (e_ β k_).trans (fnL_eq (x := j_4063) (nI_clamp (by omega)) _)
      refine g_aload_n B dX11_median_22 rfl 0 rfl ?_
      refine g_get B 0 13 fl_X11_38 rfl mf_13 dX11_median_23 ?_
      refine g_iconst (v := 3) B dX11_median_26 (by decide) ?_
      refine g_iload_n B dX11_median_27 rfl 1 rfl ?_
      refine g_imul B dX11_median_28 ?_
      refine g_ri (x' := 3) (by decide) ?_
      refine g_iload_n B dX11_median_29 rfl 2 rfl ?_
      refine g_iadd B dX11_median_30 ?_
      refine g_ri (x' := nI (3 + j_4063)) (nI_add 3 j_4063) ?_
      refine g_lald B 1 rfl (vp_in_nI (by omega) (by omega)) dX11_median_31 ?_
      refine g_rl (x' := (r13_f (3 + j_4063))) (congrArg r13_f (nI_clamp (n := (3 + j_4063)) (by omega))) ?_
      exact g_lret B hr dX11_median_32 (by decide) (by decide) ⟨(r13_f (3 + j_4063)), e_, rfl, rfl⟩
    · replace e_ := fun β k_ => (e_ β k_).trans (if_neg c15_4062)
      refine g_lconst (v := 0) B dX11_median_18 (by decide) ?_
      refine g_goto (tgt := 32) B dX11_median_19 (by decide) ?_
      exact g_lret B hr dX11_median_32 (by decide) (by decide) ⟨0, e_, rfl, rfl⟩
abbrev MX11_count : g_M := (yX11_count, cX11_count, 2, (some .int))
theorem dX11_count_0 : decode cX11_count 0 = .ok (.iload_n 1, 1) := by decide +kernel
theorem dX11_count_1 : decode cX11_count 1 = .ok (.tableswitch 55 0 3 #[31, 36, 41, 48], 31) := by decide +kernel
theorem dX11_count_32 : decode cX11_count 32 = .ok (.aload_n 0, 1) := by decide +kernel
theorem dX11_count_33 : decode cX11_count 33 = .ok (.getfield 178, 3) := by decide +kernel
theorem dX11_count_36 : decode cX11_count 36 = .ok (.ireturn, 1) := by decide +kernel
theorem dX11_count_37 : decode cX11_count 37 = .ok (.aload_n 0, 1) := by decide +kernel
theorem dX11_count_38 : decode cX11_count 38 = .ok (.getfield 271, 3) := by decide +kernel
theorem dX11_count_41 : decode cX11_count 41 = .ok (.ireturn, 1) := by decide +kernel
theorem dX11_count_42 : decode cX11_count 42 = .ok (.aload_n 0, 1) := by decide +kernel
theorem dX11_count_43 : decode cX11_count 43 = .ok (.getfield 23, 3) := by decide +kernel
theorem dX11_count_46 : decode cX11_count 46 = .ok (.iconst 0, 1) := by decide +kernel
theorem dX11_count_47 : decode cX11_count 47 = .ok (.iaload, 1) := by decide +kernel
theorem dX11_count_48 : decode cX11_count 48 = .ok (.ireturn, 1) := by decide +kernel
theorem dX11_count_49 : decode cX11_count 49 = .ok (.aload_n 0, 1) := by decide +kernel
theorem dX11_count_50 : decode cX11_count 50 = .ok (.getfield 23, 3) := by decide +kernel
theorem dX11_count_53 : decode cX11_count 53 = .ok (.iconst 1, 1) := by decide +kernel
theorem dX11_count_54 : decode cX11_count 54 = .ok (.iaload, 1) := by decide +kernel
theorem dX11_count_55 : decode cX11_count 55 = .ok (.ireturn, 1) := by decide +kernel
theorem dX11_count_56 : decode cX11_count 56 = .ok (.iconst (-1), 1) := by decide +kernel
theorem dX11_count_57 : decode cX11_count 57 = .ok (.ireturn, 1) := by decide +kernel
set_option maxRecDepth 100000 in
def fn_wr_X11_count (m_1 : Nat) (m_4 : Nat) (r6_f : Nat → Nat) (wh : Int32) (β : Type) (k_ : Int32 → β) : β := (if wh = 0 then (k_ (nI m_1)) else (if wh = 1 then (k_ (nI m_4)) else (if wh = 2 then (k_ (nI (r6_f 0))) else (if wh = 3 then (k_ (nI (r6_f 1))) else (k_ (-1))))))
set_option maxRecDepth 100000 in
theorem fn_wr_X11_count_s {m_1 : Nat} {m_4 : Nat} {r6_f : Nat → Nat} {wh : Int32} {β : Type} {k_ : Int32 → β} : fn_wr_X11_count m_1 m_4 r6_f wh β k_ = (if wh = 0 then (k_ (nI m_1)) else (if wh = 1 then (k_ (nI m_4)) else (if wh = 2 then (k_ (nI (r6_f 0))) else (if wh = 3 then (k_ (nI (r6_f 1))) else (k_ (-1)))))) := rfl
set_option maxRecDepth 100000 in
set_option maxHeartbeats 4000000 in
theorem wr_X11_count (E : g_E) (m : Nat) (r : Nat → Nat) (m_1 : Nat) (m_4 : Nat) (m_9 : Nat) (m_10 : Nat) (m_14 : Nat) (m_15 : Nat) (m_25 : Int32) (m_26 : Int32) (m_27 : Int64) (m_28 : Nat) (m_29 : Nat) (m_31 : Nat) (m_32 : Nat) (m_33 : Nat) (m_35 : Nat) (m_36 : Nat) (m_37 : Int32) (m_38 : Nat) (m_39 : Int32) (m_40 : Int32) (m_42 : Nat) (r6_f : Nat → Nat) (wh : Int32) (hb0 : m_1 ≤ 1200) (hb1 : m_4 ≤ 8) (ha0 : ∀ j, j < 2 → r6_f j ≤ 6000) : Ev E MX11_count 0 0 0 0 [.ref m, .int wh] [(m, .inr (11, mkF r m_1 m_4 m_9 m_10 m_14 m_15 m_25 m_26 m_27 m_28 m_29 m_31 m_32 m_33 m_35 m_36 m_37 m_38 m_39 m_40 m_42)), ((r 6), .inl (E.2.2.1 0, 2, .inl (iM r6_f)))] (fun v_ w_ => ∃ zr : Int32, (∀ (β : Type) (k_ : Int32 → β), fn_wr_X11_count m_1 m_4 r6_f wh β k_ = k_ zr) ∧ v_ = some (.int zr) ∧ w_ = [(m, .inr (11, mkF r m_1 m_4 m_9 m_10 m_14 m_15 m_25 m_26 m_27 m_28 m_29 m_31 m_32 m_33 m_35 m_36 m_37 m_38 m_39 m_40 m_42)), ((r 6), .inl (E.2.2.1 0, 2, .inl (iM r6_f)))]) := by
  refine Ev.intro (by decide) (Nat.le_of_ble_eq_true rfl) ?_
  intro X B hr hI
  have B : Bd E X cX11_count RX11 2 0 0 0 0 := B
  have hr : Rt E X (some .int) 0 0 (fun v_ w_ => ∃ zr : Int32, (∀ (β : Type) (k_ : Int32 → β), fn_wr_X11_count m_1 m_4 r6_f wh β k_ = k_ zr) ∧ v_ = some (.int zr) ∧ w_ = [(m, .inr (11, mkF r m_1 m_4 m_9 m_10 m_14 m_15 m_25 m_26 m_27 m_28 m_29 m_31 m_32 m_33 m_35 m_36 m_37 m_38 m_39 m_40 m_42)), ((r 6), .inl (E.2.2.1 0, 2, .inl (iM r6_f)))]) := hr
  have e_ := fun (β : Type) (k_ : Int32 → β) => fn_wr_X11_count_s (β := β) (k_ := k_) (m_1 := m_1) (m_4 := m_4) (r6_f := r6_f) (wh := wh)
  show G E X 2 [(m, .inr (11, mkF r m_1 m_4 m_9 m_10 m_14 m_15 m_25 m_26 m_27 m_28 m_29 m_31 m_32 m_33 m_35 m_36 m_37 m_38 m_39 m_40 m_42)), ((r 6), .inl (E.2.2.1 0, 2, .inl (iM r6_f)))] 0 0 [(0, .ref m), (1, .int wh)] 0 []
  refine g_iload_n B dX11_count_0 rfl 1 rfl ?_
  by_cases sw_4064 : wh = 0
  · replace e_ := fun β k_ => (e_ β k_).trans (if_pos sw_4064)
    subst sw_4064
    refine g_tableIn (off := 31) (tgt := 32) B dX11_count_1 (by decide) (by decide) (by decide) (by decide) ?_
    refine g_aload_n B dX11_count_32 rfl 0 rfl ?_
    refine g_get B 0 1 fl_X11_178 rfl mf_1 dX11_count_33 ?_
    exact g_iret B hr dX11_count_36 (by decide) (by decide) ⟨(nI m_1), e_, rfl, rfl⟩
  replace e_ := fun β k_ => (e_ β k_).trans (if_neg sw_4064)
  by_cases sw_4065 : wh = 1
  · replace e_ := fun β k_ => (e_ β k_).trans (if_pos sw_4065)
    subst sw_4065
    refine g_tableIn (off := 36) (tgt := 37) B dX11_count_1 (by decide) (by decide) (by decide) (by decide) ?_
    refine g_aload_n B dX11_count_37 rfl 0 rfl ?_
    refine g_get B 0 4 fl_X11_271 rfl mf_4 dX11_count_38 ?_
    exact g_iret B hr dX11_count_41 (by decide) (by decide) ⟨(nI m_4), e_, rfl, rfl⟩
  replace e_ := fun β k_ => (e_ β k_).trans (if_neg sw_4065)
  by_cases sw_4066 : wh = 2
  · replace e_ := fun β k_ => (e_ β k_).trans (if_pos sw_4066)
    subst sw_4066
    refine g_tableIn (off := 41) (tgt := 42) B dX11_count_1 (by decide) (by decide) (by decide) (by decide) ?_
    refine g_aload_n B dX11_count_42 rfl 0 rfl ?_
    refine g_get B 0 6 fl_X11_23 rfl mf_6 dX11_count_43 ?_
    refine g_iconst (v := 0) B dX11_count_46 (by decide) ?_
    refine g_iald B 1 rfl (by unfold vp_in; decide) dX11_count_47 ?_
    refine g_ri (x' := nI (r6_f 0)) (iM_at (f := r6_f) (i := 0) (by omega)) ?_
    have ha_4067 := ha0 0 (by omega)
    exact g_iret B hr dX11_count_48 (by decide) (by decide) ⟨(nI (r6_f 0)), e_, rfl, rfl⟩
  replace e_ := fun β k_ => (e_ β k_).trans (if_neg sw_4066)
  by_cases sw_4068 : wh = 3
  · replace e_ := fun β k_ => (e_ β k_).trans (if_pos sw_4068)
    subst sw_4068
    refine g_tableIn (off := 48) (tgt := 49) B dX11_count_1 (by decide) (by decide) (by decide) (by decide) ?_
    refine g_aload_n B dX11_count_49 rfl 0 rfl ?_
    refine g_get B 0 6 fl_X11_23 rfl mf_6 dX11_count_50 ?_
    refine g_iconst (v := 1) B dX11_count_53 (by decide) ?_
    refine g_iald B 1 rfl (by unfold vp_in; decide) dX11_count_54 ?_
    refine g_ri (x' := nI (r6_f 1)) (iM_at (f := r6_f) (i := 1) (by omega)) ?_
    have ha_4069 := ha0 1 (by omega)
    exact g_iret B hr dX11_count_55 (by decide) (by decide) ⟨(nI (r6_f 1)), e_, rfl, rfl⟩
  replace e_ := fun β k_ => (e_ β k_).trans (if_neg sw_4068)
  have so_4070 : Int32.toInt wh < 0 ∨ 3 < Int32.toInt wh := by
    have nsw_4064 := lv_neT (a := 0) sw_4064 rfl
    have nsw_4065 := lv_neT (a := 1) sw_4065 rfl
    have nsw_4066 := lv_neT (a := 2) sw_4066 rfl
    have nsw_4068 := lv_neT (a := 3) sw_4068 rfl
    omega
  refine g_tableOut (tgt := 56) B dX11_count_1 so_4070 (by decide) ?_
  refine g_iconst (v := (-1)) B dX11_count_56 (by decide) ?_
  exact g_iret B hr dX11_count_57 (by decide) (by decide) ⟨(-1), e_, rfl, rfl⟩
