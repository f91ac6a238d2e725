abbrev MX11_keeps : g_M := (yX11_keeps, cX11_keeps, 2, none)
theorem dX11_keeps_0 : decode cX11_keeps 0 = .ok (.iconst 0, 1) := by decide +kernel
theorem dX11_keeps_1 : decode cX11_keeps 1 = .ok (.istore_n 1, 1) := by decide +kernel
theorem dX11_keeps_2 : decode cX11_keeps 2 = .ok (.iload_n 1, 1) := by decide +kernel
theorem dX11_keeps_3 : decode cX11_keeps 3 = .ok (.bipush 16, 2) := by decide +kernel
theorem dX11_keeps_5 : decode cX11_keeps 5 = .ok (.if_icmp .ge 21, 3) := by decide +kernel
theorem dX11_keeps_8 : decode cX11_keeps 8 = .ok (.aload_n 0, 1) := by decide +kernel
theorem dX11_keeps_9 : decode cX11_keeps 9 = .ok (.getfield 60, 3) := by decide +kernel
theorem dX11_keeps_12 : decode cX11_keeps 12 = .ok (.iload_n 1, 1) := by decide +kernel
theorem dX11_keeps_13 : decode cX11_keeps 13 = .ok (.aload_n 0, 1) := by decide +kernel
theorem dX11_keeps_14 : decode cX11_keeps 14 = .ok (.getfield 48, 3) := by decide +kernel
theorem dX11_keeps_17 : decode cX11_keeps 17 = .ok (.iload_n 1, 1) := by decide +kernel
theorem dX11_keeps_18 : decode cX11_keeps 18 = .ok (.iaload, 1) := by decide +kernel
theorem dX11_keeps_19 : decode cX11_keeps 19 = .ok (.iastore, 1) := by decide +kernel
theorem dX11_keeps_20 : decode cX11_keeps 20 = .ok (.iinc 1 1, 3) := by decide +kernel
theorem dX11_keeps_23 : decode cX11_keeps 23 = .ok (.goto (-21), 3) := by decide +kernel
set_option maxRecDepth 100000 in
def lf_wr_X11_keeps_2 (r18_f : Nat → Int32) (β : Type) (kx_ : (Nat → Int32) → (Nat → Int32) → Nat → β)  : Nat → (Nat → Int32) → (Nat → Int32) → Nat → β
  | 0, pr22_f, pr23_f, l1 => kx_ pr22_f pr23_f l1
  | fuel + 1, pr22_f, pr23_f, l1 => (if 16 ≤ l1 then (kx_ pr22_f pr23_f l1) else (lf_wr_X11_keeps_2 r18_f β kx_ fuel (upd pr22_f l1 (r18_f l1)) pr23_f (l1 + 1)))
set_option maxRecDepth 100000 in
theorem lf_wr_X11_keeps_2_s {r18_f : Nat → Int32} {β : Type} {kx_ : (Nat → Int32) → (Nat → Int32) → Nat → β}  {fuel : Nat} {pr22_f : Nat → Int32} {pr23_f : Nat → Int32} {l1 : Nat} : lf_wr_X11_keeps_2 r18_f β kx_  (fuel + 1) pr22_f pr23_f l1 = (if 16 ≤ l1 then (kx_ pr22_f pr23_f l1) else (lf_wr_X11_keeps_2 r18_f β kx_ fuel (upd pr22_f l1 (r18_f l1)) pr23_f (l1 + 1))) := rfl
set_option maxRecDepth 100000 in
set_option maxHeartbeats 4000000 in
theorem lp_wr_X11_keeps_2 (E : g_E) (m : Nat) (r : Nat → Nat) (m_1 : Nat) (m_4 : Nat) (m_9 : Nat) (m_10 : Nat) (m_14 : Nat) (m_15 : Nat) (m_25 : Int32) (m_26 : Int32) (m_27 : Int64) (m_28 : Nat) (m_29 : Nat) (m_31 : Nat) (m_32 : Nat) (m_33 : Nat) (m_35 : Nat) (m_36 : Nat) (m_37 : Int32) (m_38 : Nat) (m_39 : Int32) (m_40 : Int32) (m_42 : Nat) (r18_f : Nat → Int32) (r19_f : Nat → Int32) (r22_f : Nat → Int32) (r23_f : Nat → Int32)    {X : g_X} {rr : (β : Type) → ((Nat → Int32) → (Nat → Int32) → β) → β} (kx_ : (β : Type) → ((Nat → Int32) → (Nat → Int32) → β) → (Nat → Int32) → (Nat → Int32) → Nat → β) (B : Bd E X cX11_keeps RX11 2 0 0 0 0) (hr : Rt E X none 0 0 (fun v_ w_ => ∃ zr22_f : Nat → Int32, ∃ zr23_f : Nat → Int32, (∀ (β : Type) (k_ : (Nat → Int32) → (Nat → Int32) → β), rr β k_ = k_ zr22_f zr23_f) ∧ v_ = none ∧ w_ = [(m, .inr (11, mkF r m_1 m_4 m_9 m_10 m_14 m_15 m_25 m_26 m_27 m_28 m_29 m_31 m_32 m_33 m_35 m_36 m_37 m_38 m_39 m_40 m_42)), ((r 18), .inl (E.2.2.1 0, 16, .inl r18_f)), ((r 19), .inl (E.2.2.1 0, 128, .inl r19_f)), ((r 22), .inl (E.2.2.1 0, 16, .inl zr22_f)), ((r 23), .inl (E.2.2.1 0, 128, .inl zr23_f))])) (K : ∀ (pr22_f : Nat → Int32) (pr23_f : Nat → Int32) (l1 : Nat), (l1 ≤ 128) → (∀ (β : Type) (k_ : (Nat → Int32) → (Nat → Int32) → β), rr β k_ = kx_ β k_ pr22_f pr23_f l1) → G E X 2 [(m, .inr (11, mkF r m_1 m_4 m_9 m_10 m_14 m_15 m_25 m_26 m_27 m_28 m_29 m_31 m_32 m_33 m_35 m_36 m_37 m_38 m_39 m_40 m_42)), ((r 18), .inl (E.2.2.1 0, 16, .inl r18_f)), ((r 19), .inl (E.2.2.1 0, 128, .inl r19_f)), ((r 22), .inl (E.2.2.1 0, 16, .inl pr22_f)), ((r 23), .inl (E.2.2.1 0, 128, .inl pr23_f))] 0 0 [(0, .ref m), (1, .int (nI l1))] 26 []) : ∀ (fuel : Nat) (pr22_f : Nat → Int32) (pr23_f : Nat → Int32) (l1 : Nat), (l1 ≤ 128) → (16 - l1) < fuel → (∀ (β : Type) (k_ : (Nat → Int32) → (Nat → Int32) → β), rr β k_ = lf_wr_X11_keeps_2 r18_f β (kx_ β k_) fuel pr22_f pr23_f l1) → G E X 2 [(m, .inr (11, mkF r m_1 m_4 m_9 m_10 m_14 m_15 m_25 m_26 m_27 m_28 m_29 m_31 m_32 m_33 m_35 m_36 m_37 m_38 m_39 m_40 m_42)), ((r 18), .inl (E.2.2.1 0, 16, .inl r18_f)), ((r 19), .inl (E.2.2.1 0, 128, .inl r19_f)), ((r 22), .inl (E.2.2.1 0, 16, .inl pr22_f)), ((r 23), .inl (E.2.2.1 0, 128, .inl pr23_f))] 0 0 [(0, .ref m), (1, .int (nI l1))] 2 [] := by
  intro fuel
  induction fuel with
  | zero => intro pr22_f pr23_f l1 _ h _; exact absurd h (Nat.not_lt_zero _)
  | succ fuel ih =>
    intro pr22_f pr23_f l1 hv0 hm e_
    replace e_ := fun β k_ => (e_ β k_).trans lf_wr_X11_keeps_2_s
    refine g_iload_n B dX11_keeps_2 rfl 1 rfl ?_
    refine g_bipush (v := 16) B dX11_keeps_3 (by decide) ?_
    refine g_icmp_ge (tgt := 26) B dX11_keeps_5 (by decide) (fun c5_2088 => ?_) (fun c5_2088 => ?_)
    · have hn_2089 : 16 ≤ l1 := (nI_leI (a := 16) (b := l1) (by omega) (by omega)).mp c5_2088
      replace e_ := fun β k_ => (e_ β k_).trans (if_pos hn_2089)
      exact K pr22_f pr23_f l1 (by first | assumption | omega | decide | exact hCF _ (by omega)) e_
    · have hn_2090 : l1 < 16 := Nat.not_le.mp (fun q => c5_2088 ((nI_leI (a := 16) (b := l1) (by omega) (by omega)).mpr q))
      replace e_ := fun β k_ => (e_ β k_).trans (if_neg (Nat.not_le.mpr hn_2090))
      refine g_aload_n B dX11_keeps_8 rfl 0 rfl ?_
      refine g_get B 0 22 fl_X11_60 rfl mf_22 dX11_keeps_9 ?_
      refine g_iload_n B dX11_keeps_12 rfl 1 rfl ?_
      refine g_aload_n B dX11_keeps_13 rfl 0 rfl ?_
      refine g_get B 0 18 fl_X11_48 rfl mf_18 dX11_keeps_14 ?_
      refine g_iload_n B dX11_keeps_17 rfl 1 rfl ?_
      refine g_iald B 1 rfl (vp_in_nI (by omega) (by omega)) dX11_keeps_18 ?_
      refine g_ri (x' := (r18_f l1)) (congrArg r18_f (nI_clamp (n := l1) (by omega))) ?_
      refine g_iast (ws' := [(m, .inr (11, mkF r m_1 m_4 m_9 m_10 m_14 m_15 m_25 m_26 m_27 m_28 m_29 m_31 m_32 m_33 m_35 m_36 m_37 m_38 m_39 m_40 m_42)), ((r 18), .inl (E.2.2.1 0, 16, .inl r18_f)), ((r 19), .inl (E.2.2.1 0, 128, .inl r19_f)), ((r 22), .inl (E.2.2.1 0, 16, .inl (upd pr22_f l1 (r18_f l1)))), ((r 23), .inl (E.2.2.1 0, 128, .inl pr23_f))]) B 3 rfl (vp_in_nI (by omega) (by omega)) (by rw [nI_clamp (n := l1) (by omega)]; rfl) dX11_keeps_19 ?_
      refine g_iinc (v := nI (l1 + 1)) (lv' := [(1, .int (nI (l1 + 1))), (0, .ref m)]) B dX11_keeps_20 1 rfl (nI_add l1 1) (by decide) rfl ?_
      refine g_goto (tgt := 2) B dX11_keeps_23 (by decide) ?_
      refine g_lvsub (lv' := [(0, .ref m), (1, .int (nI (l1 + 1)))]) [1, 0] rfl ?_
      exact ih (upd pr22_f l1 (r18_f l1)) pr23_f (l1 + 1) (by first | assumption | omega | decide | exact hCF _ (by omega)) (by omega) e_
theorem dX11_keeps_26 : decode cX11_keeps 26 = .ok (.iconst 0, 1) := by decide +kernel
theorem dX11_keeps_27 : decode cX11_keeps 27 = .ok (.istore_n 1, 1) := by decide +kernel
theorem dX11_keeps_28 : decode cX11_keeps 28 = .ok (.iload_n 1, 1) := by decide +kernel
theorem dX11_keeps_29 : decode cX11_keeps 29 = .ok (.sipush 128, 3) := by decide +kernel
theorem dX11_keeps_32 : decode cX11_keeps 32 = .ok (.if_icmp .ge 21, 3) := by decide +kernel
theorem dX11_keeps_35 : decode cX11_keeps 35 = .ok (.aload_n 0, 1) := by decide +kernel
theorem dX11_keeps_36 : decode cX11_keeps 36 = .ok (.getfield 63, 3) := by decide +kernel
theorem dX11_keeps_39 : decode cX11_keeps 39 = .ok (.iload_n 1, 1) := by decide +kernel
theorem dX11_keeps_40 : decode cX11_keeps 40 = .ok (.aload_n 0, 1) := by decide +kernel
theorem dX11_keeps_41 : decode cX11_keeps 41 = .ok (.getfield 51, 3) := by decide +kernel
theorem dX11_keeps_44 : decode cX11_keeps 44 = .ok (.iload_n 1, 1) := by decide +kernel
theorem dX11_keeps_45 : decode cX11_keeps 45 = .ok (.iaload, 1) := by decide +kernel
theorem dX11_keeps_46 : decode cX11_keeps 46 = .ok (.iastore, 1) := by decide +kernel
theorem dX11_keeps_47 : decode cX11_keeps 47 = .ok (.iinc 1 1, 3) := by decide +kernel
theorem dX11_keeps_50 : decode cX11_keeps 50 = .ok (.goto (-22), 3) := by decide +kernel
set_option maxRecDepth 100000 in
def lf_wr_X11_keeps_28 (r19_f : Nat → Int32) (β : Type) (kx_ : (Nat → Int32) → (Nat → Int32) → Nat → β)  : Nat → (Nat → Int32) → (Nat → Int32) → Nat → β
  | 0, pr22_f, pr23_f, l1 => kx_ pr22_f pr23_f l1
  | fuel + 1, pr22_f, pr23_f, l1 => (if 128 ≤ l1 then (kx_ pr22_f pr23_f l1) else (lf_wr_X11_keeps_28 r19_f β kx_ fuel pr22_f (upd pr23_f l1 (r19_f l1)) (l1 + 1)))
set_option maxRecDepth 100000 in
theorem lf_wr_X11_keeps_28_s {r19_f : Nat → Int32} {β : Type} {kx_ : (Nat → Int32) → (Nat → Int32) → Nat → β}  {fuel : Nat} {pr22_f : Nat → Int32} {pr23_f : Nat → Int32} {l1 : Nat} : lf_wr_X11_keeps_28 r19_f β kx_  (fuel + 1) pr22_f pr23_f l1 = (if 128 ≤ l1 then (kx_ pr22_f pr23_f l1) else (lf_wr_X11_keeps_28 r19_f β kx_ fuel pr22_f (upd pr23_f l1 (r19_f l1)) (l1 + 1))) := rfl
set_option maxRecDepth 100000 in
set_option maxHeartbeats 4000000 in
theorem lp_wr_X11_keeps_28 (E : g_E) (m : Nat) (r : Nat → Nat) (m_1 : Nat) (m_4 : Nat) (m_9 : Nat) (m_10 : Nat) (m_14 : Nat) (m_15 : Nat) (m_25 : Int32) (m_26 : Int32) (m_27 : Int64) (m_28 : Nat) (m_29 : Nat) (m_31 : Nat) (m_32 : Nat) (m_33 : Nat) (m_35 : Nat) (m_36 : Nat) (m_37 : Int32) (m_38 : Nat) (m_39 : Int32) (m_40 : Int32) (m_42 : Nat) (r18_f : Nat → Int32) (r19_f : Nat → Int32) (r22_f : Nat → Int32) (r23_f : Nat → Int32)    {X : g_X} {rr : (β : Type) → ((Nat → Int32) → (Nat → Int32) → β) → β} (kx_ : (β : Type) → ((Nat → Int32) → (Nat → Int32) → β) → (Nat → Int32) → (Nat → Int32) → Nat → β) (B : Bd E X cX11_keeps RX11 2 0 0 0 0) (hr : Rt E X none 0 0 (fun v_ w_ => ∃ zr22_f : Nat → Int32, ∃ zr23_f : Nat → Int32, (∀ (β : Type) (k_ : (Nat → Int32) → (Nat → Int32) → β), rr β k_ = k_ zr22_f zr23_f) ∧ v_ = none ∧ w_ = [(m, .inr (11, mkF r m_1 m_4 m_9 m_10 m_14 m_15 m_25 m_26 m_27 m_28 m_29 m_31 m_32 m_33 m_35 m_36 m_37 m_38 m_39 m_40 m_42)), ((r 18), .inl (E.2.2.1 0, 16, .inl r18_f)), ((r 19), .inl (E.2.2.1 0, 128, .inl r19_f)), ((r 22), .inl (E.2.2.1 0, 16, .inl zr22_f)), ((r 23), .inl (E.2.2.1 0, 128, .inl zr23_f))])) (K : ∀ (pr22_f : Nat → Int32) (pr23_f : Nat → Int32) (l1 : Nat), (l1 ≤ 128) → (∀ (β : Type) (k_ : (Nat → Int32) → (Nat → Int32) → β), rr β k_ = kx_ β k_ pr22_f pr23_f l1) → G E X 2 [(m, .inr (11, mkF r m_1 m_4 m_9 m_10 m_14 m_15 m_25 m_26 m_27 m_28 m_29 m_31 m_32 m_33 m_35 m_36 m_37 m_38 m_39 m_40 m_42)), ((r 18), .inl (E.2.2.1 0, 16, .inl r18_f)), ((r 19), .inl (E.2.2.1 0, 128, .inl r19_f)), ((r 22), .inl (E.2.2.1 0, 16, .inl pr22_f)), ((r 23), .inl (E.2.2.1 0, 128, .inl pr23_f))] 0 0 [(0, .ref m), (1, .int (nI l1))] 53 []) : ∀ (fuel : Nat) (pr22_f : Nat → Int32) (pr23_f : Nat → Int32) (l1 : Nat), (l1 ≤ 128) → (128 - l1) < fuel → (∀ (β : Type) (k_ : (Nat → Int32) → (Nat → Int32) → β), rr β k_ = lf_wr_X11_keeps_28 r19_f β (kx_ β k_) fuel pr22_f pr23_f l1) → G E X 2 [(m, .inr (11, mkF r m_1 m_4 m_9 m_10 m_14 m_15 m_25 m_26 m_27 m_28 m_29 m_31 m_32 m_33 m_35 m_36 m_37 m_38 m_39 m_40 m_42)), ((r 18), .inl (E.2.2.1 0, 16, .inl r18_f)), ((r 19), .inl (E.2.2.1 0, 128, .inl r19_f)), ((r 22), .inl (E.2.2.1 0, 16, .inl pr22_f)), ((r 23), .inl (E.2.2.1 0, 128, .inl pr23_f))] 0 0 [(0, .ref m), (1, .int (nI l1))] 28 [] := by
  intro fuel
  induction fuel with
  | zero => intro pr22_f pr23_f l1 _ h _; exact absurd h (Nat.not_lt_zero _)
  | succ fuel ih =>
    intro pr22_f pr23_f l1 hv0 hm e_
    replace e_ := fun β k_ => (e_ β k_).trans lf_wr_X11_keeps_28_s
    refine g_iload_n B dX11_keeps_28 rfl 1 rfl ?_
    refine g_sipush (v := 128) B dX11_keeps_29 (by decide) ?_
    refine g_icmp_ge (tgt := 53) B dX11_keeps_32 (by decide) (fun c32_2092 => ?_) (fun c32_2092 => ?_)
    · have hn_2093 : 128 ≤ l1 := (nI_leI (a := 128) (b := l1) (by omega) (by omega)).mp c32_2092
      replace e_ := fun β k_ => (e_ β k_).trans (if_pos hn_2093)
      exact K pr22_f pr23_f l1 (by first | assumption | omega | decide | exact hCF _ (by omega)) e_
    · have hn_2094 : l1 < 128 := Nat.not_le.mp (fun q => c32_2092 ((nI_leI (a := 128) (b := l1) (by omega) (by omega)).mpr q))
      replace e_ := fun β k_ => (e_ β k_).trans (if_neg (Nat.not_le.mpr hn_2094))
      refine g_aload_n B dX11_keeps_35 rfl 0 rfl ?_
      refine g_get B 0 23 fl_X11_63 rfl mf_23 dX11_keeps_36 ?_
      refine g_iload_n B dX11_keeps_39 rfl 1 rfl ?_
      refine g_aload_n B dX11_keeps_40 rfl 0 rfl ?_
      refine g_get B 0 19 fl_X11_51 rfl mf_19 dX11_keeps_41 ?_
      refine g_iload_n B dX11_keeps_44 rfl 1 rfl ?_
      refine g_iald B 2 rfl (vp_in_nI (by omega) (by omega)) dX11_keeps_45 ?_
      refine g_ri (x' := (r19_f l1)) (congrArg r19_f (nI_clamp (n := l1) (by omega))) ?_
      refine g_iast (ws' := [(m, .inr (11, mkF r m_1 m_4 m_9 m_10 m_14 m_15 m_25 m_26 m_27 m_28 m_29 m_31 m_32 m_33 m_35 m_36 m_37 m_38 m_39 m_40 m_42)), ((r 18), .inl (E.2.2.1 0, 16, .inl r18_f)), ((r 19), .inl (E.2.2.1 0, 128, .inl r19_f)), ((r 22), .inl (E.2.2.1 0, 16, .inl pr22_f)), ((r 23), .inl (E.2.2.1 0, 128, .inl (upd pr23_f l1 (r19_f l1))))]) B 4 rfl (vp_in_nI (by omega) (by omega)) (by rw [nI_clamp (n := l1) (by omega)]; rfl) dX11_keeps_46 ?_
      refine g_iinc (v := nI (l1 + 1)) (lv' := [(1, .int (nI (l1 + 1))), (0, .ref m)]) B dX11_keeps_47 1 rfl (nI_add l1 1) (by decide) rfl ?_
      refine g_goto (tgt := 28) B dX11_keeps_50 (by decide) ?_
      refine g_lvsub (lv' := [(0, .ref m), (1, .int (nI (l1 + 1)))]) [1, 0] rfl ?_
      exact ih pr22_f (upd pr23_f l1 (r19_f l1)) (l1 + 1) (by first | assumption | omega | decide | exact hCF _ (by omega)) (by omega) e_
theorem dX11_keeps_53 : decode cX11_keeps 53 = .ok (.return_, 1) := by decide +kernel
set_option maxRecDepth 100000 in
def fn_wr_X11_keeps (r18_f : Nat → Int32) (r19_f : Nat → Int32) (r22_f : Nat → Int32) (r23_f : Nat → Int32) (β : Type) (k_ : (Nat → Int32) → (Nat → Int32) → β) : β := (lf_wr_X11_keeps_2 r18_f β (fun y_2091pr22_f y_2091pr23_f y_2091l1 => (lf_wr_X11_keeps_28 r19_f β (fun y_2095pr22_f y_2095pr23_f y_2095l1 => (k_ y_2095pr22_f y_2095pr23_f)) ((128 - 0) + 1) y_2091pr22_f y_2091pr23_f 0)) ((16 - 0) + 1) r22_f r23_f 0)
set_option maxRecDepth 100000 in
theorem fn_wr_X11_keeps_s {r18_f : Nat → Int32} {r19_f : Nat → Int32} {r22_f : Nat → Int32} {r23_f : Nat → Int32} {β : Type} {k_ : (Nat → Int32) → (Nat → Int32) → β} : fn_wr_X11_keeps r18_f r19_f r22_f r23_f β k_ = (lf_wr_X11_keeps_2 r18_f β (fun y_2091pr22_f y_2091pr23_f y_2091l1 => (lf_wr_X11_keeps_28 r19_f β (fun y_2095pr22_f y_2095pr23_f y_2095l1 => (k_ y_2095pr22_f y_2095pr23_f)) ((128 - 0) + 1) y_2091pr22_f y_2091pr23_f 0)) ((16 - 0) + 1) r22_f r23_f 0) := rfl
set_option maxRecDepth 100000 in
set_option maxHeartbeats 4000000 in
theorem wr_X11_keeps (E : g_E) (m : Nat) (r : Nat → Nat) (m_1 : Nat) (m_4 : Nat) (m_9 : Nat) (m_10 : Nat) (m_14 : Nat) (m_15 : Nat) (m_25 : Int32) (m_26 : Int32) (m_27 : Int64) (m_28 : Nat) (m_29 : Nat) (m_31 : Nat) (m_32 : Nat) (m_33 : Nat) (m_35 : Nat) (m_36 : Nat) (m_37 : Int32) (m_38 : Nat) (m_39 : Int32) (m_40 : Int32) (m_42 : Nat) (r18_f : Nat → Int32) (r19_f : Nat → Int32) (r22_f : Nat → Int32) (r23_f : Nat → Int32)  : Ev E MX11_keeps 0 0 0 0 [.ref m] [(m, .inr (11, mkF r m_1 m_4 m_9 m_10 m_14 m_15 m_25 m_26 m_27 m_28 m_29 m_31 m_32 m_33 m_35 m_36 m_37 m_38 m_39 m_40 m_42)), ((r 18), .inl (E.2.2.1 0, 16, .inl r18_f)), ((r 19), .inl (E.2.2.1 0, 128, .inl r19_f)), ((r 22), .inl (E.2.2.1 0, 16, .inl r22_f)), ((r 23), .inl (E.2.2.1 0, 128, .inl r23_f))] (fun v_ w_ => ∃ zr22_f : Nat → Int32, ∃ zr23_f : Nat → Int32, (∀ (β : Type) (k_ : (Nat → Int32) → (Nat → Int32) → β), fn_wr_X11_keeps r18_f r19_f r22_f r23_f β k_ = k_ zr22_f zr23_f) ∧ v_ = none ∧ w_ = [(m, .inr (11, mkF r m_1 m_4 m_9 m_10 m_14 m_15 m_25 m_26 m_27 m_28 m_29 m_31 m_32 m_33 m_35 m_36 m_37 m_38 m_39 m_40 m_42)), ((r 18), .inl (E.2.2.1 0, 16, .inl r18_f)), ((r 19), .inl (E.2.2.1 0, 128, .inl r19_f)), ((r 22), .inl (E.2.2.1 0, 16, .inl zr22_f)), ((r 23), .inl (E.2.2.1 0, 128, .inl zr23_f))]) := by
  refine Ev.intro (by decide) (Nat.le_of_ble_eq_true rfl) ?_
  intro X B hr hI
  have B : Bd E X cX11_keeps RX11 2 0 0 0 0 := B
  have hr : Rt E X none 0 0 (fun v_ w_ => ∃ zr22_f : Nat → Int32, ∃ zr23_f : Nat → Int32, (∀ (β : Type) (k_ : (Nat → Int32) → (Nat → Int32) → β), fn_wr_X11_keeps r18_f r19_f r22_f r23_f β k_ = k_ zr22_f zr23_f) ∧ v_ = none ∧ w_ = [(m, .inr (11, mkF r m_1 m_4 m_9 m_10 m_14 m_15 m_25 m_26 m_27 m_28 m_29 m_31 m_32 m_33 m_35 m_36 m_37 m_38 m_39 m_40 m_42)), ((r 18), .inl (E.2.2.1 0, 16, .inl r18_f)), ((r 19), .inl (E.2.2.1 0, 128, .inl r19_f)), ((r 22), .inl (E.2.2.1 0, 16, .inl zr22_f)), ((r 23), .inl (E.2.2.1 0, 128, .inl zr23_f))]) := hr
  have e_ := fun (β : Type) (k_ : (Nat → Int32) → (Nat → Int32) → β) => fn_wr_X11_keeps_s (β := β) (k_ := k_) (r18_f := r18_f) (r19_f := r19_f) (r22_f := r22_f) (r23_f := r23_f)
  show G E X 2 [(m, .inr (11, mkF r m_1 m_4 m_9 m_10 m_14 m_15 m_25 m_26 m_27 m_28 m_29 m_31 m_32 m_33 m_35 m_36 m_37 m_38 m_39 m_40 m_42)), ((r 18), .inl (E.2.2.1 0, 16, .inl r18_f)), ((r 19), .inl (E.2.2.1 0, 128, .inl r19_f)), ((r 22), .inl (E.2.2.1 0, 16, .inl r22_f)), ((r 23), .inl (E.2.2.1 0, 128, .inl r23_f))] 0 0 [(0, .ref m)] 0 []
  refine g_iconst (v := 0) B dX11_keeps_0 (by decide) ?_
  refine g_istore_n (lv' := [(1, .int 0), (0, .ref m)]) B dX11_keeps_1 rfl (by decide) rfl ?_
  refine g_lvsub (lv' := [(0, .ref m), (1, .int 0)]) [1, 0] rfl ?_
  refine lp_wr_X11_keeps_2 E m r m_1 m_4 m_9 m_10 m_14 m_15 m_25 m_26 m_27 m_28 m_29 m_31 m_32 m_33 m_35 m_36 m_37 m_38 m_39 m_40 m_42 r18_f r19_f r22_f r23_f    _ B hr (fun y_2091pr22_f y_2091pr23_f y_2091l1 y_2091k0 e_ => ?_) _ r22_f r23_f 0 (by first | assumption | omega | decide | exact hCF _ (by omega)) (Nat.lt_succ_self _) e_
  show G E X 2 [(m, .inr (11, mkF r m_1 m_4 m_9 m_10 m_14 m_15 m_25 m_26 m_27 m_28 m_29 m_31 m_32 m_33 m_35 m_36 m_37 m_38 m_39 m_40 m_42)), ((r 18), .inl (E.2.2.1 0, 16, .inl r18_f)), ((r 19), .inl (E.2.2.1 0, 128, .inl r19_f)), ((r 22), .inl (E.2.2.1 0, 16, .inl y_2091pr22_f)), ((r 23), .inl (E.2.2.1 0, 128, .inl y_2091pr23_f))] 0 0 [(0, .ref m), (1, .int (nI y_2091l1))] 26 []
  refine g_iconst (v := 0) B dX11_keeps_26 (by decide) ?_
  refine g_istore_n (lv' := [(1, .int 0), (0, .ref m)]) B dX11_keeps_27 rfl (by decide) rfl ?_
  refine g_lvsub (lv' := [(0, .ref m), (1, .int 0)]) [1, 0] rfl ?_
  refine lp_wr_X11_keeps_28 E m r m_1 m_4 m_9 m_10 m_14 m_15 m_25 m_26 m_27 m_28 m_29 m_31 m_32 m_33 m_35 m_36 m_37 m_38 m_39 m_40 m_42 r18_f r19_f r22_f r23_f    _ B hr (fun y_2095pr22_f y_2095pr23_f y_2095l1 y_2095k0 e_ => ?_) _ y_2091pr22_f y_2091pr23_f 0 (by first | assumption | omega | decide | exact hCF _ (by omega)) (Nat.lt_succ_self _) e_
  show G E X 2 [(m, .inr (11, mkF r m_1 m_4 m_9 m_10 m_14 m_15 m_25 m_26 m_27 m_28 m_29 m_31 m_32 m_33 m_35 m_36 m_37 m_38 m_39 m_40 m_42)), ((r 18), .inl (E.2.2.1 0, 16, .inl r18_f)), ((r 19), .inl (E.2.2.1 0, 128, .inl r19_f)), ((r 22), .inl (E.2.2.1 0, 16, .inl y_2095pr22_f)), ((r 23), .inl (E.2.2.1 0, 128, .inl y_2095pr23_f))] 0 0 [(0, .ref m), (1, .int (nI y_2095l1))] 53 []
  exact g_vret B hr dX11_keeps_53 (by decide) (by decide) ⟨y_2095pr22_f, y_2095pr23_f, e_, rfl, rfl⟩
abbrev MX11_brings : g_M := (yX11_brings, cX11_brings, 2, none)
theorem dX11_brings_0 : decode cX11_brings 0 = .ok (.iconst 0, 1) := by decide +kernel
theorem dX11_brings_1 : decode cX11_brings 1 = .ok (.istore_n 1, 1) := by decide +kernel
theorem dX11_brings_2 : decode cX11_brings 2 = .ok (.iload_n 1, 1) := by decide +kernel
theorem dX11_brings_3 : decode cX11_brings 3 = .ok (.bipush 16, 2) := by decide +kernel
theorem dX11_brings_5 : decode cX11_brings 5 = .ok (.if_icmp .ge 21, 3) := by decide +kernel
theorem dX11_brings_8 : decode cX11_brings 8 = .ok (.aload_n 0, 1) := by decide +kernel
theorem dX11_brings_9 : decode cX11_brings 9 = .ok (.getfield 48, 3) := by decide +kernel
theorem dX11_brings_12 : decode cX11_brings 12 = .ok (.iload_n 1, 1) := by decide +kernel
theorem dX11_brings_13 : decode cX11_brings 13 = .ok (.aload_n 0, 1) := by decide +kernel
theorem dX11_brings_14 : decode cX11_brings 14 = .ok (.getfield 60, 3) := by decide +kernel
theorem dX11_brings_17 : decode cX11_brings 17 = .ok (.iload_n 1, 1) := by decide +kernel
theorem dX11_brings_18 : decode cX11_brings 18 = .ok (.iaload, 1) := by decide +kernel
theorem dX11_brings_19 : decode cX11_brings 19 = .ok (.iastore, 1) := by decide +kernel
theorem dX11_brings_20 : decode cX11_brings 20 = .ok (.iinc 1 1, 3) := by decide +kernel
theorem dX11_brings_23 : decode cX11_brings 23 = .ok (.goto (-21), 3) := by decide +kernel
set_option maxRecDepth 100000 in
def lf_wr_X11_brings_2 (r22_f : Nat → Int32) (β : Type) (kx_ : (Nat → Int32) → (Nat → Int32) → Nat → β)  : Nat → (Nat → Int32) → (Nat → Int32) → Nat → β
  | 0, pr18_f, pr19_f, l1 => kx_ pr18_f pr19_f l1
  | fuel + 1, pr18_f, pr19_f, l1 => (if 16 ≤ l1 then (kx_ pr18_f pr19_f l1) else (lf_wr_X11_brings_2 r22_f β kx_ fuel (upd pr18_f l1 (r22_f l1)) pr19_f (l1 + 1)))
set_option maxRecDepth 100000 in
theorem lf_wr_X11_brings_2_s {r22_f : Nat → Int32} {β : Type} {kx_ : (Nat → Int32) → (Nat → Int32) → Nat → β}  {fuel : Nat} {pr18_f : Nat → Int32} {pr19_f : Nat → Int32} {l1 : Nat} : lf_wr_X11_brings_2 r22_f β kx_  (fuel + 1) pr18_f pr19_f l1 = (if 16 ≤ l1 then (kx_ pr18_f pr19_f l1) else (lf_wr_X11_brings_2 r22_f β kx_ fuel (upd pr18_f l1 (r22_f l1)) pr19_f (l1 + 1))) := rfl
set_option maxRecDepth 100000 in
set_option maxHeartbeats 4000000 in
theorem lp_wr_X11_brings_2 (E : g_E) (m : Nat) (r : Nat → Nat) (m_1 : Nat) (m_4 : Nat) (m_9 : Nat) (m_10 : Nat) (m_14 : Nat) (m_15 : Nat) (m_25 : Int32) (m_26 : Int32) (m_27 : Int64) (m_28 : Nat) (m_29 : Nat) (m_31 : Nat) (m_32 : Nat) (m_33 : Nat) (m_35 : Nat) (m_36 : Nat) (m_37 : Int32) (m_38 : Nat) (m_39 : Int32) (m_40 : Int32) (m_42 : Nat) (r18_f : Nat → Int32) (r19_f : Nat → Int32) (r22_f : Nat → Int32) (r23_f : Nat → Int32)    {X : g_X} {rr : (β : Type) → ((Nat → Int32) → (Nat → Int32) → β) → β} (kx_ : (β : Type) → ((Nat → Int32) → (Nat → Int32) → β) → (Nat → Int32) → (Nat → Int32) → Nat → β) (B : Bd E X cX11_brings RX11 2 0 0 0 0) (hr : Rt E X none 0 0 (fun v_ w_ => ∃ zr18_f : Nat → Int32, ∃ zr19_f : Nat → Int32, (∀ (β : Type) (k_ : (Nat → Int32) → (Nat → Int32) → β), rr β k_ = k_ zr18_f zr19_f) ∧ v_ = none ∧ w_ = [(m, .inr (11, mkF r m_1 m_4 m_9 m_10 m_14 m_15 m_25 m_26 m_27 m_28 m_29 m_31 m_32 m_33 m_35 m_36 m_37 m_38 m_39 m_40 m_42)), ((r 18), .inl (E.2.2.1 0, 16, .inl zr18_f)), ((r 19), .inl (E.2.2.1 0, 128, .inl zr19_f)), ((r 22), .inl (E.2.2.1 0, 16, .inl r22_f)), ((r 23), .inl (E.2.2.1 0, 128, .inl r23_f))])) (K : ∀ (pr18_f : Nat → Int32) (pr19_f : Nat → Int32) (l1 : Nat), (l1 ≤ 128) → (∀ (β : Type) (k_ : (Nat → Int32) → (Nat → Int32) → β), rr β k_ = kx_ β k_ pr18_f pr19_f l1) → G E X 2 [(m, .inr (11, mkF r m_1 m_4 m_9 m_10 m_14 m_15 m_25 m_26 m_27 m_28 m_29 m_31 m_32 m_33 m_35 m_36 m_37 m_38 m_39 m_40 m_42)), ((r 18), .inl (E.2.2.1 0, 16, .inl pr18_f)), ((r 19), .inl (E.2.2.1 0, 128, .inl pr19_f)), ((r 22), .inl (E.2.2.1 0, 16, .inl r22_f)), ((r 23), .inl (E.2.2.1 0, 128, .inl r23_f))] 0 0 [(0, .ref m), (1, .int (nI l1))] 26 []) : ∀ (fuel : Nat) (pr18_f : Nat → Int32) (pr19_f : Nat → Int32) (l1 : Nat), (l1 ≤ 128) → (16 - l1) < fuel → (∀ (β : Type) (k_ : (Nat → Int32) → (Nat → Int32) → β), rr β k_ = lf_wr_X11_brings_2 r22_f β (kx_ β k_) fuel pr18_f pr19_f l1) → G E X 2 [(m, .inr (11, mkF r m_1 m_4 m_9 m_10 m_14 m_15 m_25 m_26 m_27 m_28 m_29 m_31 m_32 m_33 m_35 m_36 m_37 m_38 m_39 m_40 m_42)), ((r 18), .inl (E.2.2.1 0, 16, .inl pr18_f)), ((r 19), .inl (E.2.2.1 0, 128, .inl pr19_f)), ((r 22), .inl (E.2.2.1 0, 16, .inl r22_f)), ((r 23), .inl (E.2.2.1 0, 128, .inl r23_f))] 0 0 [(0, .ref m), (1, .int (nI l1))] 2 [] := by
  intro fuel
  induction fuel with
  | zero => intro pr18_f pr19_f l1 _ h _; exact absurd h (Nat.not_lt_zero _)
  | succ fuel ih =>
    intro pr18_f pr19_f l1 hv0 hm e_
    replace e_ := fun β k_ => (e_ β k_).trans lf_wr_X11_brings_2_s
    refine g_iload_n B dX11_brings_2 rfl 1 rfl ?_
    refine g_bipush (v := 16) B dX11_brings_3 (by decide) ?_
    refine g_icmp_ge (tgt := 26) B dX11_brings_5 (by decide) (fun c5_2096 => ?_) (fun c5_2096 => ?_)
    · have hn_2097 : 16 ≤ l1 := (nI_leI (a := 16) (b := l1) (by omega) (by omega)).mp c5_2096
      replace e_ := fun β k_ => (e_ β k_).trans (if_pos hn_2097)
      exact K pr18_f pr19_f l1 (by first | assumption | omega | decide | exact hCF _ (by omega)) e_
    · have hn_2098 : l1 < 16 := Nat.not_le.mp (fun q => c5_2096 ((nI_leI (a := 16) (b := l1) (by omega) (by omega)).mpr q))
      replace e_ := fun β k_ => (e_ β k_).trans (if_neg (Nat.not_le.mpr hn_2098))
      refine g_aload_n B dX11_brings_8 rfl 0 rfl ?_
      refine g_get B 0 18 fl_X11_48 rfl mf_18 dX11_brings_9 ?_
      refine g_iload_n B dX11_brings_12 rfl 1 rfl ?_
      refine g_aload_n B dX11_brings_13 rfl 0 rfl ?_
      refine g_get B 0 22 fl_X11_60 rfl mf_22 dX11_brings_14 ?_
      refine g_iload_n B dX11_brings_17 rfl 1 rfl ?_
      refine g_iald B 3 rfl (vp_in_nI (by omega) (by omega)) dX11_brings_18 ?_
      refine g_ri (x' := (r22_f l1)) (congrArg r22_f (nI_clamp (n := l1) (by omega))) ?_
      refine g_iast (ws' := [(m, .inr (11, mkF r m_1 m_4 m_9 m_10 m_14 m_15 m_25 m_26 m_27 m_28 m_29 m_31 m_32 m_33 m_35 m_36 m_37 m_38 m_39 m_40 m_42)), ((r 18), .inl (E.2.2.1 0, 16, .inl (upd pr18_f l1 (r22_f l1)))), ((r 19), .inl (E.2.2.1 0, 128, .inl pr19_f)), ((r 22), .inl (E.2.2.1 0, 16, .inl r22_f)), ((r 23), .inl (E.2.2.1 0, 128, .inl r23_f))]) B 1 rfl (vp_in_nI (by omega) (by omega)) (by rw [nI_clamp (n := l1) (by omega)]; rfl) dX11_brings_19 ?_
      refine g_iinc (v := nI (l1 + 1)) (lv' := [(1, .int (nI (l1 + 1))), (0, .ref m)]) B dX11_brings_20 1 rfl (nI_add l1 1) (by decide) rfl ?_
      refine g_goto (tgt := 2) B dX11_brings_23 (by decide) ?_
      refine g_lvsub (lv' := [(0, .ref m), (1, .int (nI (l1 + 1)))]) [1, 0] rfl ?_
      exact ih (upd pr18_f l1 (r22_f l1)) pr19_f (l1 + 1) (by first | assumption | omega | decide | exact hCF _ (by omega)) (by omega) e_
theorem dX11_brings_26 : decode cX11_brings 26 = .ok (.iconst 0, 1) := by decide +kernel
theorem dX11_brings_27 : decode cX11_brings 27 = .ok (.istore_n 1, 1) := by decide +kernel
theorem dX11_brings_28 : decode cX11_brings 28 = .ok (.iload_n 1, 1) := by decide +kernel
theorem dX11_brings_29 : decode cX11_brings 29 = .ok (.sipush 128, 3) := by decide +kernel
theorem dX11_brings_32 : decode cX11_brings 32 = .ok (.if_icmp .ge 21, 3) := by decide +kernel
theorem dX11_brings_35 : decode cX11_brings 35 = .ok (.aload_n 0, 1) := by decide +kernel
theorem dX11_brings_36 : decode cX11_brings 36 = .ok (.getfield 51, 3) := by decide +kernel
theorem dX11_brings_39 : decode cX11_brings 39 = .ok (.iload_n 1, 1) := by decide +kernel
theorem dX11_brings_40 : decode cX11_brings 40 = .ok (.aload_n 0, 1) := by decide +kernel
theorem dX11_brings_41 : decode cX11_brings 41 = .ok (.getfield 63, 3) := by decide +kernel
theorem dX11_brings_44 : decode cX11_brings 44 = .ok (.iload_n 1, 1) := by decide +kernel
theorem dX11_brings_45 : decode cX11_brings 45 = .ok (.iaload, 1) := by decide +kernel
theorem dX11_brings_46 : decode cX11_brings 46 = .ok (.iastore, 1) := by decide +kernel
theorem dX11_brings_47 : decode cX11_brings 47 = .ok (.iinc 1 1, 3) := by decide +kernel
theorem dX11_brings_50 : decode cX11_brings 50 = .ok (.goto (-22), 3) := by decide +kernel
set_option maxRecDepth 100000 in
def lf_wr_X11_brings_28 (r23_f : Nat → Int32) (β : Type) (kx_ : (Nat → Int32) → (Nat → Int32) → Nat → β)  : Nat → (Nat → Int32) → (Nat → Int32) → Nat → β
  | 0, pr18_f, pr19_f, l1 => kx_ pr18_f pr19_f l1
  | fuel + 1, pr18_f, pr19_f, l1 => (if 128 ≤ l1 then (kx_ pr18_f pr19_f l1) else (lf_wr_X11_brings_28 r23_f β kx_ fuel pr18_f (upd pr19_f l1 (r23_f l1)) (l1 + 1)))
set_option maxRecDepth 100000 in
theorem lf_wr_X11_brings_28_s {r23_f : Nat → Int32} {β : Type} {kx_ : (Nat → Int32) → (Nat → Int32) → Nat → β}  {fuel : Nat} {pr18_f : Nat → Int32} {pr19_f : Nat → Int32} {l1 : Nat} : lf_wr_X11_brings_28 r23_f β kx_  (fuel + 1) pr18_f pr19_f l1 = (if 128 ≤ l1 then (kx_ pr18_f pr19_f l1) else (lf_wr_X11_brings_28 r23_f β kx_ fuel pr18_f (upd pr19_f l1 (r23_f l1)) (l1 + 1))) := rfl
set_option maxRecDepth 100000 in
set_option maxHeartbeats 4000000 in
theorem lp_wr_X11_brings_28 (E : g_E) (m : Nat) (r : Nat → Nat) (m_1 : Nat) (m_4 : Nat) (m_9 : Nat) (m_10 : Nat) (m_14 : Nat) (m_15 : Nat) (m_25 : Int32) (m_26 : Int32) (m_27 : Int64) (m_28 : Nat) (m_29 : Nat) (m_31 : Nat) (m_32 : Nat) (m_33 : Nat) (m_35 : Nat) (m_36 : Nat) (m_37 : Int32) (m_38 : Nat) (m_39 : Int32) (m_40 : Int32) (m_42 : Nat) (r18_f : Nat → Int32) (r19_f : Nat → Int32) (r22_f : Nat → Int32) (r23_f : Nat → Int32)    {X : g_X} {rr : (β : Type) → ((Nat → Int32) → (Nat → Int32) → β) → β} (kx_ : (β : Type) → ((Nat → Int32) → (Nat → Int32) → β) → (Nat → Int32) → (Nat → Int32) → Nat → β) (B : Bd E X cX11_brings RX11 2 0 0 0 0) (hr : Rt E X none 0 0 (fun v_ w_ => ∃ zr18_f : Nat → Int32, ∃ zr19_f : Nat → Int32, (∀ (β : Type) (k_ : (Nat → Int32) → (Nat → Int32) → β), rr β k_ = k_ zr18_f zr19_f) ∧ v_ = none ∧ w_ = [(m, .inr (11, mkF r m_1 m_4 m_9 m_10 m_14 m_15 m_25 m_26 m_27 m_28 m_29 m_31 m_32 m_33 m_35 m_36 m_37 m_38 m_39 m_40 m_42)), ((r 18), .inl (E.2.2.1 0, 16, .inl zr18_f)), ((r 19), .inl (E.2.2.1 0, 128, .inl zr19_f)), ((r 22), .inl (E.2.2.1 0, 16, .inl r22_f)), ((r 23), .inl (E.2.2.1 0, 128, .inl r23_f))])) (K : ∀ (pr18_f : Nat → Int32) (pr19_f : Nat → Int32) (l1 : Nat), (l1 ≤ 128) → (∀ (β : Type) (k_ : (Nat → Int32) → (Nat → Int32) → β), rr β k_ = kx_ β k_ pr18_f pr19_f l1) → G E X 2 [(m, .inr (11, mkF r m_1 m_4 m_9 m_10 m_14 m_15 m_25 m_26 m_27 m_28 m_29 m_31 m_32 m_33 m_35 m_36 m_37 m_38 m_39 m_40 m_42)), ((r 18), .inl (E.2.2.1 0, 16, .inl pr18_f)), ((r 19), .inl (E.2.2.1 0, 128, .inl pr19_f)), ((r 22), .inl (E.2.2.1 0, 16, .inl r22_f)), ((r 23), .inl (E.2.2.1 0, 128, .inl r23_f))] 0 0 [(0, .ref m), (1, .int (nI l1))] 53 []) : ∀ (fuel : Nat) (pr18_f : Nat → Int32) (pr19_f : Nat → Int32) (l1 : Nat), (l1 ≤ 128) → (128 - l1) < fuel → (∀ (β : Type) (k_ : (Nat → Int32) → (Nat → Int32) → β), rr β k_ = lf_wr_X11_brings_28 r23_f β (kx_ β k_) fuel pr18_f pr19_f l1) → G E X 2 [(m, .inr (11, mkF r m_1 m_4 m_9 m_10 m_14 m_15 m_25 m_26 m_27 m_28 m_29 m_31 m_32 m_33 m_35 m_36 m_37 m_38 m_39 m_40 m_42)), ((r 18), .inl (E.2.2.1 0, 16, .inl pr18_f)), ((r 19), .inl (E.2.2.1 0, 128, .inl pr19_f)), ((r 22), .inl (E.2.2.1 0, 16, .inl r22_f)), ((r 23), .inl (E.2.2.1 0, 128, .inl r23_f))] 0 0 [(0, .ref m), (1, .int (nI l1))] 28 [] := by
  intro fuel
  induction fuel with
  | zero => intro pr18_f pr19_f l1 _ h _; exact absurd h (Nat.not_lt_zero _)
  | succ fuel ih =>
    intro pr18_f pr19_f l1 hv0 hm e_
    replace e_ := fun β k_ => (e_ β k_).trans lf_wr_X11_brings_28_s
    refine g_iload_n B dX11_brings_28 rfl 1 rfl ?_
    refine g_sipush (v := 128) B dX11_brings_29 (by decide) ?_
    refine g_icmp_ge (tgt := 53) B dX11_brings_32 (by decide) (fun c32_2100 => ?_) (fun c32_2100 => ?_)
    · have hn_2101 : 128 ≤ l1 := (nI_leI (a := 128) (b := l1) (by omega) (by omega)).mp c32_2100
      replace e_ := fun β k_ => (e_ β k_).trans (if_pos hn_2101)
      exact K pr18_f pr19_f l1 (by first | assumption | omega | decide | exact hCF _ (by omega)) e_
    · have hn_2102 : l1 < 128 := Nat.not_le.mp (fun q => c32_2100 ((nI_leI (a := 128) (b := l1) (by omega) (by omega)).mpr q))
      replace e_ := fun β k_ => (e_ β k_).trans (if_neg (Nat.not_le.mpr hn_2102))
      refine g_aload_n B dX11_brings_35 rfl 0 rfl ?_
      refine g_get B 0 19 fl_X11_51 rfl mf_19 dX11_brings_36 ?_
      refine g_iload_n B dX11_brings_39 rfl 1 rfl ?_
      refine g_aload_n B dX11_brings_40 rfl 0 rfl ?_
      refine g_get B 0 23 fl_X11_63 rfl mf_23 dX11_brings_41 ?_
      refine g_iload_n B dX11_brings_44 rfl 1 rfl ?_
      refine g_iald B 4 rfl (vp_in_nI (by omega) (by omega)) dX11_brings_45 ?_
      refine g_ri (x' := (r23_f l1)) (congrArg r23_f (nI_clamp (n := l1) (by omega))) ?_
      refine g_iast (ws' := [(m, .inr (11, mkF r m_1 m_4 m_9 m_10 m_14 m_15 m_25 m_26 m_27 m_28 m_29 m_31 m_32 m_33 m_35 m_36 m_37 m_38 m_39 m_40 m_42)), ((r 18), .inl (E.2.2.1 0, 16, .inl pr18_f)), ((r 19), .inl (E.2.2.1 0, 128, .inl (upd pr19_f l1 (r23_f l1)))), ((r 22), .inl (E.2.2.1 0, 16, .inl r22_f)), ((r 23), .inl (E.2.2.1 0, 128, .inl r23_f))]) B 2 rfl (vp_in_nI (by omega) (by omega)) (by rw [nI_clamp (n := l1) (by omega)]; rfl) dX11_brings_46 ?_
      refine g_iinc (v := nI (l1 + 1)) (lv' := [(1, .int (nI (l1 + 1))), (0, .ref m)]) B dX11_brings_47 1 rfl (nI_add l1 1) (by decide) rfl ?_
      refine g_goto (tgt := 28) B dX11_brings_50 (by decide) ?_
      refine g_lvsub (lv' := [(0, .ref m), (1, .int (nI (l1 + 1)))]) [1, 0] rfl ?_
      exact ih pr18_f (upd pr19_f l1 (r23_f l1)) (l1 + 1) (by first | assumption | omega | decide | exact hCF _ (by omega)) (by omega) e_
theorem dX11_brings_53 : decode cX11_brings 53 = .ok (.return_, 1) := by decide +kernel
set_option maxRecDepth 100000 in
def fn_wr_X11_brings (r18_f : Nat → Int32) (r19_f : Nat → Int32) (r22_f : Nat → Int32) (r23_f : Nat → Int32) (β : Type) (k_ : (Nat → Int32) → (Nat → Int32) → β) : β := (lf_wr_X11_brings_2 r22_f β (fun y_2099pr18_f y_2099pr19_f y_2099l1 => (lf_wr_X11_brings_28 r23_f β (fun y_2103pr18_f y_2103pr19_f y_2103l1 => (k_ y_2103pr18_f y_2103pr19_f)) ((128 - 0) + 1) y_2099pr18_f y_2099pr19_f 0)) ((16 - 0) + 1) r18_f r19_f 0)
set_option maxRecDepth 100000 in
theorem fn_wr_X11_brings_s {r18_f : Nat → Int32} {r19_f : Nat → Int32} {r22_f : Nat → Int32} {r23_f : Nat → Int32} {β : Type} {k_ : (Nat → Int32) → (Nat → Int32) → β} : fn_wr_X11_brings r18_f r19_f r22_f r23_f β k_ = (lf_wr_X11_brings_2 r22_f β (fun y_2099pr18_f y_2099pr19_f y_2099l1 => (lf_wr_X11_brings_28 r23_f β (fun y_2103pr18_f y_2103pr19_f y_2103l1 => (k_ y_2103pr18_f y_2103pr19_f)) ((128 - 0) + 1) y_2099pr18_f y_2099pr19_f 0)) ((16 - 0) + 1) r18_f r19_f 0) := rfl
set_option maxRecDepth 100000 in
set_option maxHeartbeats 4000000 in
theorem wr_X11_brings (E : g_E) (m : Nat) (r : Nat → Nat) (m_1 : Nat) (m_4 : Nat) (m_9 : Nat) (m_10 : Nat) (m_14 : Nat) (m_15 : Nat) (m_25 : Int32) (m_26 : Int32) (m_27 : Int64) (m_28 : Nat) (m_29 : Nat) (m_31 : Nat) (m_32 : Nat) (m_33 : Nat) (m_35 : Nat) (m_36 : Nat) (m_37 : Int32) (m_38 : Nat) (m_39 : Int32) (m_40 : Int32) (m_42 : Nat) (r18_f : Nat → Int32) (r19_f : Nat → Int32) (r22_f : Nat → Int32) (r23_f : Nat → Int32)  : Ev E MX11_brings 0 0 0 0 [.ref m] [(m, .inr (11, mkF r m_1 m_4 m_9 m_10 m_14 m_15 m_25 m_26 m_27 m_28 m_29 m_31 m_32 m_33 m_35 m_36 m_37 m_38 m_39 m_40 m_42)), ((r 18), .inl (E.2.2.1 0, 16, .inl r18_f)), ((r 19), .inl (E.2.2.1 0, 128, .inl r19_f)), ((r 22), .inl (E.2.2.1 0, 16, .inl r22_f)), ((r 23), .inl (E.2.2.1 0, 128, .inl r23_f))] (fun v_ w_ => ∃ zr18_f : Nat → Int32, ∃ zr19_f : Nat → Int32, (∀ (β : Type) (k_ : (Nat → Int32) → (Nat → Int32) → β), fn_wr_X11_brings r18_f r19_f r22_f r23_f β k_ = k_ zr18_f zr19_f) ∧ v_ = none ∧ w_ = [(m, .inr (11, mkF r m_1 m_4 m_9 m_10 m_14 m_15 m_25 m_26 m_27 m_28 m_29 m_31 m_32 m_33 m_35 m_36 m_37 m_38 m_39 m_40 m_42)), ((r 18), .inl (E.2.2.1 0, 16, .inl zr18_f)), ((r 19), .inl (E.2.2.1 0, 128, .inl zr19_f)), ((r 22), .inl (E.2.2.1 0, 16, .inl r22_f)), ((r 23), .inl (E.2.2.1 0, 128, .inl r23_f))]) := by
  refine Ev.intro (by decide) (Nat.le_of_ble_eq_true rfl) ?_
  intro X B hr hI
  have B : Bd E X cX11_brings RX11 2 0 0 0 0 := B
  have hr : Rt E X none 0 0 (fun v_ w_ => ∃ zr18_f : Nat → Int32, ∃ zr19_f : Nat → Int32, (∀ (β : Type) (k_ : (Nat → Int32) → (Nat → Int32) → β), fn_wr_X11_brings r18_f r19_f r22_f r23_f β k_ = k_ zr18_f zr19_f) ∧ v_ = none ∧ w_ = [(m, .inr (11, mkF r m_1 m_4 m_9 m_10 m_14 m_15 m_25 m_26 m_27 m_28 m_29 m_31 m_32 m_33 m_35 m_36 m_37 m_38 m_39 m_40 m_42)), ((r 18), .inl (E.2.2.1 0, 16, .inl zr18_f)), ((r 19), .inl (E.2.2.1 0, 128, .inl zr19_f)), ((r 22), .inl (E.2.2.1 0, 16, .inl r22_f)), ((r 23), .inl (E.2.2.1 0, 128, .inl r23_f))]) := hr
  have e_ := fun (β : Type) (k_ : (Nat → Int32) → (Nat → Int32) → β) => fn_wr_X11_brings_s (β := β) (k_ := k_) (r18_f := r18_f) (r19_f := r19_f) (r22_f := r22_f) (r23_f := r23_f)
  show G E X 2 [(m, .inr (11, mkF r m_1 m_4 m_9 m_10 m_14 m_15 m_25 m_26 m_27 m_28 m_29 m_31 m_32 m_33 m_35 m_36 m_37 m_38 m_39 m_40 m_42)), ((r 18), .inl (E.2.2.1 0, 16, .inl r18_f)), ((r 19), .inl (E.2.2.1 0, 128, .inl r19_f)), ((r 22), .inl (E.2.2.1 0, 16, .inl r22_f)), ((r 23), .inl (E.2.2.1 0, 128, .inl r23_f))] 0 0 [(0, .ref m)] 0 []
  refine g_iconst (v := 0) B dX11_brings_0 (by decide) ?_
  refine g_istore_n (lv' := [(1, .int 0), (0, .ref m)]) B dX11_brings_1 rfl (by decide) rfl ?_
  refine g_lvsub (lv' := [(0, .ref m), (1, .int 0)]) [1, 0] rfl ?_
  refine lp_wr_X11_brings_2 E m r m_1 m_4 m_9 m_10 m_14 m_15 m_25 m_26 m_27 m_28 m_29 m_31 m_32 m_33 m_35 m_36 m_37 m_38 m_39 m_40 m_42 r18_f r19_f r22_f r23_f    _ B hr (fun y_2099pr18_f y_2099pr19_f y_2099l1 y_2099k0 e_ => ?_) _ r18_f r19_f 0 (by first | assumption | omega | decide | exact hCF _ (by omega)) (Nat.lt_succ_self _) e_
  show G E X 2 [(m, .inr (11, mkF r m_1 m_4 m_9 m_10 m_14 m_15 m_25 m_26 m_27 m_28 m_29 m_31 m_32 m_33 m_35 m_36 m_37 m_38 m_39 m_40 m_42)), ((r 18), .inl (E.2.2.1 0, 16, .inl y_2099pr18_f)), ((r 19), .inl (E.2.2.1 0, 128, .inl y_2099pr19_f)), ((r 22), .inl (E.2.2.1 0, 16, .inl r22_f)), ((r 23), .inl (E.2.2.1 0, 128, .inl r23_f))] 0 0 [(0, .ref m), (1, .int (nI y_2099l1))] 26 []
  refine g_iconst (v := 0) B dX11_brings_26 (by decide) ?_
  refine g_istore_n (lv' := [(1, .int 0), (0, .ref m)]) B dX11_brings_27 rfl (by decide) rfl ?_
  refine g_lvsub (lv' := [(0, .ref m), (1, .int 0)]) [1, 0] rfl ?_
  refine lp_wr_X11_brings_28 E m r m_1 m_4 m_9 m_10 m_14 m_15 m_25 m_26 m_27 m_28 m_29 m_31 m_32 m_33 m_35 m_36 m_37 m_38 m_39 m_40 m_42 r18_f r19_f r22_f r23_f    _ B hr (fun y_2103pr18_f y_2103pr19_f y_2103l1 y_2103k0 e_ => ?_) _ y_2099pr18_f y_2099pr19_f 0 (by first | assumption | omega | decide | exact hCF _ (by omega)) (Nat.lt_succ_self _) e_
  show G E X 2 [(m, .inr (11, mkF r m_1 m_4 m_9 m_10 m_14 m_15 m_25 m_26 m_27 m_28 m_29 m_31 m_32 m_33 m_35 m_36 m_37 m_38 m_39 m_40 m_42)), ((r 18), .inl (E.2.2.1 0, 16, .inl y_2103pr18_f)), ((r 19), .inl (E.2.2.1 0, 128, .inl y_2103pr19_f)), ((r 22), .inl (E.2.2.1 0, 16, .inl r22_f)), ((r 23), .inl (E.2.2.1 0, 128, .inl r23_f))] 0 0 [(0, .ref m), (1, .int (nI y_2103l1))] 53 []
  exact g_vret B hr dX11_brings_53 (by decide) (by decide) ⟨y_2103pr18_f, y_2103pr19_f, e_, rfl, rfl⟩
abbrev MX11_begins : g_M := (yX11_begins, cX11_begins, 2, none)
theorem dX11_begins_0 : decode cX11_begins 0 = .ok (.iconst 0, 1) := by decide +kernel
theorem dX11_begins_1 : decode cX11_begins 1 = .ok (.istore_n 1, 1) := by decide +kernel
theorem dX11_begins_2 : decode cX11_begins 2 = .ok (.iload_n 1, 1) := by decide +kernel
theorem dX11_begins_3 : decode cX11_begins 3 = .ok (.bipush 16, 2) := by decide +kernel
theorem dX11_begins_5 : decode cX11_begins 5 = .ok (.if_icmp .ge 16, 3) := by decide +kernel
theorem dX11_begins_8 : decode cX11_begins 8 = .ok (.aload_n 0, 1) := by decide +kernel
theorem dX11_begins_9 : decode cX11_begins 9 = .ok (.getfield 48, 3) := by decide +kernel
theorem dX11_begins_12 : decode cX11_begins 12 = .ok (.iload_n 1, 1) := by decide +kernel
theorem dX11_begins_13 : decode cX11_begins 13 = .ok (.iconst 0, 1) := by decide +kernel
theorem dX11_begins_14 : decode cX11_begins 14 = .ok (.iastore, 1) := by decide +kernel
theorem dX11_begins_15 : decode cX11_begins 15 = .ok (.iinc 1 1, 3) := by decide +kernel
theorem dX11_begins_18 : decode cX11_begins 18 = .ok (.goto (-16), 3) := by decide +kernel
set_option maxRecDepth 100000 in
def lf_wr_X11_begins_2  (β : Type) (kx_ : Int32 → Int32 → Int64 → (Nat → Int32) → (Nat → Int32) → (Nat → Nat) → Nat → β)  : Nat → Int32 → Int32 → Int64 → (Nat → Int32) → (Nat → Int32) → (Nat → Nat) → Nat → β
  | 0, pm_25, pm_26, pm_27, pr18_f, pr19_f, pr24_f, l1 => kx_ pm_25 pm_26 pm_27 pr18_f pr19_f pr24_f l1
  | fuel + 1, pm_25, pm_26, pm_27, pr18_f, pr19_f, pr24_f, l1 => (if 16 ≤ l1 then (kx_ pm_25 pm_26 pm_27 pr18_f pr19_f pr24_f l1) else (lf_wr_X11_begins_2  β kx_ fuel pm_25 pm_26 pm_27 (upd pr18_f l1 0) pr19_f pr24_f (l1 + 1)))
set_option maxRecDepth 100000 in
theorem lf_wr_X11_begins_2_s  {β : Type} {kx_ : Int32 → Int32 → Int64 → (Nat → Int32) → (Nat → Int32) → (Nat → Nat) → Nat → β}  {fuel : Nat} {pm_25 : Int32} {pm_26 : Int32} {pm_27 : Int64} {pr18_f : Nat → Int32} {pr19_f : Nat → Int32} {pr24_f : Nat → Nat} {l1 : Nat} : lf_wr_X11_begins_2  β kx_  (fuel + 1) pm_25 pm_26 pm_27 pr18_f pr19_f pr24_f l1 = (if 16 ≤ l1 then (kx_ pm_25 pm_26 pm_27 pr18_f pr19_f pr24_f l1) else (lf_wr_X11_begins_2  β kx_ fuel pm_25 pm_26 pm_27 (upd pr18_f l1 0) pr19_f pr24_f (l1 + 1))) := rfl
set_option maxRecDepth 100000 in
set_option maxHeartbeats 4000000 in
theorem lp_wr_X11_begins_2 (E : g_E) (m : Nat) (r : Nat → Nat) (m_1 : Nat) (m_4 : Nat) (m_9 : Nat) (m_10 : Nat) (m_14 : Nat) (m_15 : Nat) (m_25 : Int32) (m_26 : Int32) (m_27 : Int64) (m_28 : Nat) (m_29 : Nat) (m_31 : Nat) (m_32 : Nat) (m_33 : Nat) (m_35 : Nat) (m_36 : Nat) (m_37 : Int32) (m_38 : Nat) (m_39 : Int32) (m_40 : Int32) (m_42 : Nat) (r18_f : Nat → Int32) (r19_f : Nat → Int32) (r24_f : Nat → Nat) (ha0 : ∀ j, j < 6 → r24_f j ≤ 40000000000)   {X : g_X} {rr : (β : Type) → (Int32 → Int32 → Int64 → (Nat → Int32) → (Nat → Int32) → (Nat → Nat) → β) → β} (kx_ : (β : Type) → (Int32 → Int32 → Int64 → (Nat → Int32) → (Nat → Int32) → (Nat → Nat) → β) → Int32 → Int32 → Int64 → (Nat → Int32) → (Nat → Int32) → (Nat → Nat) → Nat → β) (B : Bd E X cX11_begins RX11 2 0 0 0 0) (hr : Rt E X none 0 0 (fun v_ w_ => ∃ zm_25 : Int32, ∃ zm_26 : Int32, ∃ zm_27 : Int64, ∃ zr18_f : Nat → Int32, ∃ zr19_f : Nat → Int32, ∃ zr24_f : Nat → Nat, (∀ j, j < 6 → zr24_f j ≤ 40000000000) ∧ (∀ (β : Type) (k_ : Int32 → Int32 → Int64 → (Nat → Int32) → (Nat → Int32) → (Nat → Nat) → β), rr β k_ = k_ zm_25 zm_26 zm_27 zr18_f zr19_f zr24_f) ∧ v_ = none ∧ w_ = [(m, .inr (11, mkF r m_1 m_4 m_9 m_10 m_14 m_15 zm_25 zm_26 zm_27 m_28 m_29 m_31 m_32 m_33 m_35 m_36 m_37 m_38 m_39 m_40 m_42)), ((r 18), .inl (E.2.2.1 0, 16, .inl zr18_f)), ((r 19), .inl (E.2.2.1 0, 128, .inl zr19_f)), ((r 24), .inl (E.2.2.1 3, 6, .inr (.inl (lM zr24_f))))])) (K : ∀ (pm_25 : Int32) (pm_26 : Int32) (pm_27 : Int64) (pr18_f : Nat → Int32) (pr19_f : Nat → Int32) (pr24_f : Nat → Nat) (l1 : Nat), (∀ j, j < 6 → pr24_f j ≤ 40000000000) → (l1 ≤ 128) → (∀ (β : Type) (k_ : Int32 → Int32 → Int64 → (Nat → Int32) → (Nat → Int32) → (Nat → Nat) → β), rr β k_ = kx_ β k_ pm_25 pm_26 pm_27 pr18_f pr19_f pr24_f l1) → G E X 2 [(m, .inr (11, mkF r m_1 m_4 m_9 m_10 m_14 m_15 pm_25 pm_26 pm_27 m_28 m_29 m_31 m_32 m_33 m_35 m_36 m_37 m_38 m_39 m_40 m_42)), ((r 18), .inl (E.2.2.1 0, 16, .inl pr18_f)), ((r 19), .inl (E.2.2.1 0, 128, .inl pr19_f)), ((r 24), .inl (E.2.2.1 3, 6, .inr (.inl (lM pr24_f))))] 0 0 [(0, .ref m), (1, .int (nI l1))] 21 []) : ∀ (fuel : Nat) (pm_25 : Int32) (pm_26 : Int32) (pm_27 : Int64) (pr18_f : Nat → Int32) (pr19_f : Nat → Int32) (pr24_f : Nat → Nat) (l1 : Nat), (∀ j, j < 6 → pr24_f j ≤ 40000000000) → (l1 ≤ 128) → (16 - l1) < fuel → (∀ (β : Type) (k_ : Int32 → Int32 → Int64 → (Nat → Int32) → (Nat → Int32) → (Nat → Nat) → β), rr β k_ = lf_wr_X11_begins_2  β (kx_ β k_) fuel pm_25 pm_26 pm_27 pr18_f pr19_f pr24_f l1) → G E X 2 [(m, .inr (11, mkF r m_1 m_4 m_9 m_10 m_14 m_15 pm_25 pm_26 pm_27 m_28 m_29 m_31 m_32 m_33 m_35 m_36 m_37 m_38 m_39 m_40 m_42)), ((r 18), .inl (E.2.2.1 0, 16, .inl pr18_f)), ((r 19), .inl (E.2.2.1 0, 128, .inl pr19_f)), ((r 24), .inl (E.2.2.1 3, 6, .inr (.inl (lM pr24_f))))] 0 0 [(0, .ref m), (1, .int (nI l1))] 2 [] := by
  intro fuel
  induction fuel with
  | zero => intro pm_25 pm_26 pm_27 pr18_f pr19_f pr24_f l1 _ _ h _; exact absurd h (Nat.not_lt_zero _)
  | succ fuel ih =>
    intro pm_25 pm_26 pm_27 pr18_f pr19_f pr24_f l1 hv0 hv1 hm e_
    replace e_ := fun β k_ => (e_ β k_).trans lf_wr_X11_begins_2_s
    refine g_iload_n B dX11_begins_2 rfl 1 rfl ?_
    refine g_bipush (v := 16) B dX11_begins_3 (by decide) ?_
    refine g_icmp_ge (tgt := 21) B dX11_begins_5 (by decide) (fun c5_2104 => ?_) (fun c5_2104 => ?_)
    · have hn_2105 : 16 ≤ l1 := (nI_leI (a := 16) (b := l1) (by omega) (by omega)).mp c5_2104
      replace e_ := fun β k_ => (e_ β k_).trans (if_pos hn_2105)
      exact K pm_25 pm_26 pm_27 pr18_f pr19_f pr24_f l1 (by first | assumption | omega | decide | exact hCF _ (by omega)) (by first | assumption | omega | decide | exact hCF _ (by omega)) e_
    · have hn_2106 : l1 < 16 := Nat.not_le.mp (fun q => c5_2104 ((nI_leI (a := 16) (b := l1) (by omega) (by omega)).mpr q))
      replace e_ := fun β k_ => (e_ β k_).trans (if_neg (Nat.not_le.mpr hn_2106))
      refine g_aload_n B dX11_begins_8 rfl 0 rfl ?_
      refine g_get B 0 18 fl_X11_48 rfl mf_18 dX11_begins_9 ?_
      refine g_iload_n B dX11_begins_12 rfl 1 rfl ?_
      refine g_iconst (v := 0) B dX11_begins_13 (by decide) ?_
      refine g_iast (ws' := [(m, .inr (11, mkF r m_1 m_4 m_9 m_10 m_14 m_15 pm_25 pm_26 pm_27 m_28 m_29 m_31 m_32 m_33 m_35 m_36 m_37 m_38 m_39 m_40 m_42)), ((r 18), .inl (E.2.2.1 0, 16, .inl (upd pr18_f l1 0))), ((r 19), .inl (E.2.2.1 0, 128, .inl pr19_f)), ((r 24), .inl (E.2.2.1 3, 6, .inr (.inl (lM pr24_f))))]) B 1 rfl (vp_in_nI (by omega) (by omega)) (by rw [nI_clamp (n := l1) (by omega)]; rfl) dX11_begins_14 ?_
      refine g_iinc (v := nI (l1 + 1)) (lv' := [(1, .int (nI (l1 + 1))), (0, .ref m)]) B dX11_begins_15 1 rfl (nI_add l1 1) (by decide) rfl ?_
      refine g_goto (tgt := 2) B dX11_begins_18 (by decide) ?_
      refine g_lvsub (lv' := [(0, .ref m), (1, .int (nI (l1 + 1)))]) [1, 0] rfl ?_
      exact ih pm_25 pm_26 pm_27 (upd pr18_f l1 0) pr19_f pr24_f (l1 + 1) (by first | assumption | omega | decide | exact hCF _ (by omega)) (by first | assumption | omega | decide | exact hCF _ (by omega)) (by omega) e_
theorem dX11_begins_21 : decode cX11_begins 21 = .ok (.iconst 0, 1) := by decide +kernel
theorem dX11_begins_22 : decode cX11_begins 22 = .ok (.istore_n 1, 1) := by decide +kernel
theorem dX11_begins_23 : decode cX11_begins 23 = .ok (.iload_n 1, 1) := by decide +kernel
theorem dX11_begins_24 : decode cX11_begins 24 = .ok (.sipush 128, 3) := by decide +kernel
theorem dX11_begins_27 : decode cX11_begins 27 = .ok (.if_icmp .ge 16, 3) := by decide +kernel
theorem dX11_begins_30 : decode cX11_begins 30 = .ok (.aload_n 0, 1) := by decide +kernel
theorem dX11_begins_31 : decode cX11_begins 31 = .ok (.getfield 51, 3) := by decide +kernel
theorem dX11_begins_34 : decode cX11_begins 34 = .ok (.iload_n 1, 1) := by decide +kernel
theorem dX11_begins_35 : decode cX11_begins 35 = .ok (.iconst 0, 1) := by decide +kernel
theorem dX11_begins_36 : decode cX11_begins 36 = .ok (.iastore, 1) := by decide +kernel
theorem dX11_begins_37 : decode cX11_begins 37 = .ok (.iinc 1 1, 3) := by decide +kernel
theorem dX11_begins_40 : decode cX11_begins 40 = .ok (.goto (-17), 3) := by decide +kernel
set_option maxRecDepth 100000 in
def lf_wr_X11_begins_23  (β : Type) (kx_ : Int32 → Int32 → Int64 → (Nat → Int32) → (Nat → Int32) → (Nat → Nat) → Nat → β)  : Nat → Int32 → Int32 → Int64 → (Nat → Int32) → (Nat → Int32) → (Nat → Nat) → Nat → β
  | 0, pm_25, pm_26, pm_27, pr18_f, pr19_f, pr24_f, l1 => kx_ pm_25 pm_26 pm_27 pr18_f pr19_f pr24_f l1
  | fuel + 1, pm_25, pm_26, pm_27, pr18_f, pr19_f, pr24_f, l1 => (if 128 ≤ l1 then (kx_ pm_25 pm_26 pm_27 pr18_f pr19_f pr24_f l1) else (lf_wr_X11_begins_23  β kx_ fuel pm_25 pm_26 pm_27 pr18_f (upd pr19_f l1 0) pr24_f (l1 + 1)))
set_option maxRecDepth 100000 in
theorem lf_wr_X11_begins_23_s  {β : Type} {kx_ : Int32 → Int32 → Int64 → (Nat → Int32) → (Nat → Int32) → (Nat → Nat) → Nat → β}  {fuel : Nat} {pm_25 : Int32} {pm_26 : Int32} {pm_27 : Int64} {pr18_f : Nat → Int32} {pr19_f : Nat → Int32} {pr24_f : Nat → Nat} {l1 : Nat} : lf_wr_X11_begins_23  β kx_  (fuel + 1) pm_25 pm_26 pm_27 pr18_f pr19_f pr24_f l1 = (if 128 ≤ l1 then (kx_ pm_25 pm_26 pm_27 pr18_f pr19_f pr24_f l1) else (lf_wr_X11_begins_23  β kx_ fuel pm_25 pm_26 pm_27 pr18_f (upd pr19_f l1 0) pr24_f (l1 + 1))) := rfl
set_option maxRecDepth 100000 in
set_option maxHeartbeats 4000000 in
theorem lp_wr_X11_begins_23 (E : g_E) (m : Nat) (r : Nat → Nat) (m_1 : Nat) (m_4 : Nat) (m_9 : Nat) (m_10 : Nat) (m_14 : Nat) (m_15 : Nat) (m_25 : Int32) (m_26 : Int32) (m_27 : Int64) (m_28 : Nat) (m_29 : Nat) (m_31 : Nat) (m_32 : Nat) (m_33 : Nat) (m_35 : Nat) (m_36 : Nat) (m_37 : Int32) (m_38 : Nat) (m_39 : Int32) (m_40 : Int32) (m_42 : Nat) (r18_f : Nat → Int32) (r19_f : Nat → Int32) (r24_f : Nat → Nat) (ha0 : ∀ j, j < 6 → r24_f j ≤ 40000000000)   {X : g_X} {rr : (β : Type) → (Int32 → Int32 → Int64 → (Nat → Int32) → (Nat → Int32) → (Nat → Nat) → β) → β} (kx_ : (β : Type) → (Int32 → Int32 → Int64 → (Nat → Int32) → (Nat → Int32) → (Nat → Nat) → β) → Int32 → Int32 → Int64 → (Nat → Int32) → (Nat → Int32) → (Nat → Nat) → Nat → β) (B : Bd E X cX11_begins RX11 2 0 0 0 0) (hr : Rt E X none 0 0 (fun v_ w_ => ∃ zm_25 : Int32, ∃ zm_26 : Int32, ∃ zm_27 : Int64, ∃ zr18_f : Nat → Int32, ∃ zr19_f : Nat → Int32, ∃ zr24_f : Nat → Nat, (∀ j, j < 6 → zr24_f j ≤ 40000000000) ∧ (∀ (β : Type) (k_ : Int32 → Int32 → Int64 → (Nat → Int32) → (Nat → Int32) → (Nat → Nat) → β), rr β k_ = k_ zm_25 zm_26 zm_27 zr18_f zr19_f zr24_f) ∧ v_ = none ∧ w_ = [(m, .inr (11, mkF r m_1 m_4 m_9 m_10 m_14 m_15 zm_25 zm_26 zm_27 m_28 m_29 m_31 m_32 m_33 m_35 m_36 m_37 m_38 m_39 m_40 m_42)), ((r 18), .inl (E.2.2.1 0, 16, .inl zr18_f)), ((r 19), .inl (E.2.2.1 0, 128, .inl zr19_f)), ((r 24), .inl (E.2.2.1 3, 6, .inr (.inl (lM zr24_f))))])) (K : ∀ (pm_25 : Int32) (pm_26 : Int32) (pm_27 : Int64) (pr18_f : Nat → Int32) (pr19_f : Nat → Int32) (pr24_f : Nat → Nat) (l1 : Nat), (∀ j, j < 6 → pr24_f j ≤ 40000000000) → (l1 ≤ 128) → (∀ (β : Type) (k_ : Int32 → Int32 → Int64 → (Nat → Int32) → (Nat → Int32) → (Nat → Nat) → β), rr β k_ = kx_ β k_ pm_25 pm_26 pm_27 pr18_f pr19_f pr24_f l1) → G E X 2 [(m, .inr (11, mkF r m_1 m_4 m_9 m_10 m_14 m_15 pm_25 pm_26 pm_27 m_28 m_29 m_31 m_32 m_33 m_35 m_36 m_37 m_38 m_39 m_40 m_42)), ((r 18), .inl (E.2.2.1 0, 16, .inl pr18_f)), ((r 19), .inl (E.2.2.1 0, 128, .inl pr19_f)), ((r 24), .inl (E.2.2.1 3, 6, .inr (.inl (lM pr24_f))))] 0 0 [(0, .ref m), (1, .int (nI l1))] 43 []) : ∀ (fuel : Nat) (pm_25 : Int32) (pm_26 : Int32) (pm_27 : Int64) (pr18_f : Nat → Int32) (pr19_f : Nat → Int32) (pr24_f : Nat → Nat) (l1 : Nat), (∀ j, j < 6 → pr24_f j ≤ 40000000000) → (l1 ≤ 128) → (128 - l1) < fuel → (∀ (β : Type) (k_ : Int32 → Int32 → Int64 → (Nat → Int32) → (Nat → Int32) → (Nat → Nat) → β), rr β k_ = lf_wr_X11_begins_23  β (kx_ β k_) fuel pm_25 pm_26 pm_27 pr18_f pr19_f pr24_f l1) → G E X 2 [(m, .inr (11, mkF r m_1 m_4 m_9 m_10 m_14 m_15 pm_25 pm_26 pm_27 m_28 m_29 m_31 m_32 m_33 m_35 m_36 m_37 m_38 m_39 m_40 m_42)), ((r 18), .inl (E.2.2.1 0, 16, .inl pr18_f)), ((r 19), .inl (E.2.2.1 0, 128, .inl pr19_f)), ((r 24), .inl (E.2.2.1 3, 6, .inr (.inl (lM pr24_f))))] 0 0 [(0, .ref m), (1, .int (nI l1))] 23 [] := by
  intro fuel
  induction fuel with
  | zero => intro pm_25 pm_26 pm_27 pr18_f pr19_f pr24_f l1 _ _ h _; exact absurd h (Nat.not_lt_zero _)
  | succ fuel ih =>
    intro pm_25 pm_26 pm_27 pr18_f pr19_f pr24_f l1 hv0 hv1 hm e_
    replace e_ := fun β k_ => (e_ β k_).trans lf_wr_X11_begins_23_s
    refine g_iload_n B dX11_begins_23 rfl 1 rfl ?_
    refine g_sipush (v := 128) B dX11_begins_24 (by decide) ?_
    refine g_icmp_ge (tgt := 43) B dX11_begins_27 (by decide) (fun c27_2108 => ?_) (fun c27_2108 => ?_)
    · have hn_2109 : 128 ≤ l1 := (nI_leI (a := 128) (b := l1) (by omega) (by omega)).mp c27_2108
      replace e_ := fun β k_ => (e_ β k_).trans (if_pos hn_2109)
      exact K pm_25 pm_26 pm_27 pr18_f pr19_f pr24_f l1 (by first | assumption | omega | decide | exact hCF _ (by omega)) (by first | assumption | omega | decide | exact hCF _ (by omega)) e_
    · have hn_2110 : l1 < 128 := Nat.not_le.mp (fun q => c27_2108 ((nI_leI (a := 128) (b := l1) (by omega) (by omega)).mpr q))
      replace e_ := fun β k_ => (e_ β k_).trans (if_neg (Nat.not_le.mpr hn_2110))
      refine g_aload_n B dX11_begins_30 rfl 0 rfl ?_
      refine g_get B 0 19 fl_X11_51 rfl mf_19 dX11_begins_31 ?_
      refine g_iload_n B dX11_begins_34 rfl 1 rfl ?_
      refine g_iconst (v := 0) B dX11_begins_35 (by decide) ?_
      refine g_iast (ws' := [(m, .inr (11, mkF r m_1 m_4 m_9 m_10 m_14 m_15 pm_25 pm_26 pm_27 m_28 m_29 m_31 m_32 m_33 m_35 m_36 m_37 m_38 m_39 m_40 m_42)), ((r 18), .inl (E.2.2.1 0, 16, .inl pr18_f)), ((r 19), .inl (E.2.2.1 0, 128, .inl (upd pr19_f l1 0))), ((r 24), .inl (E.2.2.1 3, 6, .inr (.inl (lM pr24_f))))]) B 2 rfl (vp_in_nI (by omega) (by omega)) (by rw [nI_clamp (n := l1) (by omega)]; rfl) dX11_begins_36 ?_
      refine g_iinc (v := nI (l1 + 1)) (lv' := [(1, .int (nI (l1 + 1))), (0, .ref m)]) B dX11_begins_37 1 rfl (nI_add l1 1) (by decide) rfl ?_
      refine g_goto (tgt := 23) B dX11_begins_40 (by decide) ?_
      refine g_lvsub (lv' := [(0, .ref m), (1, .int (nI (l1 + 1)))]) [1, 0] rfl ?_
      exact ih pm_25 pm_26 pm_27 pr18_f (upd pr19_f l1 0) pr24_f (l1 + 1) (by first | assumption | omega | decide | exact hCF _ (by omega)) (by first | assumption | omega | decide | exact hCF _ (by omega)) (by omega) e_
theorem dX11_begins_43 : decode cX11_begins 43 = .ok (.iconst 0, 1) := by decide +kernel
theorem dX11_begins_44 : decode cX11_begins 44 = .ok (.istore_n 1, 1) := by decide +kernel
theorem dX11_begins_45 : decode cX11_begins 45 = .ok (.iload_n 1, 1) := by decide +kernel
theorem dX11_begins_46 : decode cX11_begins 46 = .ok (.bipush 6, 2) := by decide +kernel
theorem dX11_begins_48 : decode cX11_begins 48 = .ok (.if_icmp .ge 16, 3) := by decide +kernel
theorem dX11_begins_51 : decode cX11_begins 51 = .ok (.aload_n 0, 1) := by decide +kernel
theorem dX11_begins_52 : decode cX11_begins 52 = .ok (.getfield 66, 3) := by decide +kernel
theorem dX11_begins_55 : decode cX11_begins 55 = .ok (.iload_n 1, 1) := by decide +kernel
theorem dX11_begins_56 : decode cX11_begins 56 = .ok (.lconst 0, 1) := by decide +kernel
theorem dX11_begins_57 : decode cX11_begins 57 = .ok (.lastore, 1) := by decide +kernel
theorem dX11_begins_58 : decode cX11_begins 58 = .ok (.iinc 1 1, 3) := by decide +kernel
theorem dX11_begins_61 : decode cX11_begins 61 = .ok (.goto (-16), 3) := by decide +kernel
set_option maxRecDepth 100000 in
def lf_wr_X11_begins_45  (β : Type) (kx_ : Int32 → Int32 → Int64 → (Nat → Int32) → (Nat → Int32) → (Nat → Nat) → Nat → β)  : Nat → Int32 → Int32 → Int64 → (Nat → Int32) → (Nat → Int32) → (Nat → Nat) → Nat → β
  | 0, pm_25, pm_26, pm_27, pr18_f, pr19_f, pr24_f, l1 => kx_ pm_25 pm_26 pm_27 pr18_f pr19_f pr24_f l1
  | fuel + 1, pm_25, pm_26, pm_27, pr18_f, pr19_f, pr24_f, l1 => (if 6 ≤ l1 then (kx_ pm_25 pm_26 pm_27 pr18_f pr19_f pr24_f l1) else (lf_wr_X11_begins_45  β kx_ fuel pm_25 pm_26 pm_27 pr18_f pr19_f (updN pr24_f l1 0) (l1 + 1)))
set_option maxRecDepth 100000 in
theorem lf_wr_X11_begins_45_s  {β : Type} {kx_ : Int32 → Int32 → Int64 → (Nat → Int32) → (Nat → Int32) → (Nat → Nat) → Nat → β}  {fuel : Nat} {pm_25 : Int32} {pm_26 : Int32} {pm_27 : Int64} {pr18_f : Nat → Int32} {pr19_f : Nat → Int32} {pr24_f : Nat → Nat} {l1 : Nat} : lf_wr_X11_begins_45  β kx_  (fuel + 1) pm_25 pm_26 pm_27 pr18_f pr19_f pr24_f l1 = (if 6 ≤ l1 then (kx_ pm_25 pm_26 pm_27 pr18_f pr19_f pr24_f l1) else (lf_wr_X11_begins_45  β kx_ fuel pm_25 pm_26 pm_27 pr18_f pr19_f (updN pr24_f l1 0) (l1 + 1))) := rfl
set_option maxRecDepth 100000 in
set_option maxHeartbeats 4000000 in
theorem lp_wr_X11_begins_45 (E : g_E) (m : Nat) (r : Nat → Nat) (m_1 : Nat) (m_4 : Nat) (m_9 : Nat) (m_10 : Nat) (m_14 : Nat) (m_15 : Nat) (m_25 : Int32) (m_26 : Int32) (m_27 : Int64) (m_28 : Nat) (m_29 : Nat) (m_31 : Nat) (m_32 : Nat) (m_33 : Nat) (m_35 : Nat) (m_36 : Nat) (m_37 : Int32) (m_38 : Nat) (m_39 : Int32) (m_40 : Int32) (m_42 : Nat) (r18_f : Nat → Int32) (r19_f : Nat → Int32) (r24_f : Nat → Nat) (ha0 : ∀ j, j < 6 → r24_f j ≤ 40000000000)   {X : g_X} {rr : (β : Type) → (Int32 → Int32 → Int64 → (Nat → Int32) → (Nat → Int32) → (Nat → Nat) → β) → β} (kx_ : (β : Type) → (Int32 → Int32 → Int64 → (Nat → Int32) → (Nat → Int32) → (Nat → Nat) → β) → Int32 → Int32 → Int64 → (Nat → Int32) → (Nat → Int32) → (Nat → Nat) → Nat → β) (B : Bd E X cX11_begins RX11 2 0 0 0 0) (hr : Rt E X none 0 0 (fun v_ w_ => ∃ zm_25 : Int32, ∃ zm_26 : Int32, ∃ zm_27 : Int64, ∃ zr18_f : Nat → Int32, ∃ zr19_f : Nat → Int32, ∃ zr24_f : Nat → Nat, (∀ j, j < 6 → zr24_f j ≤ 40000000000) ∧ (∀ (β : Type) (k_ : Int32 → Int32 → Int64 → (Nat → Int32) → (Nat → Int32) → (Nat → Nat) → β), rr β k_ = k_ zm_25 zm_26 zm_27 zr18_f zr19_f zr24_f) ∧ v_ = none ∧ w_ = [(m, .inr (11, mkF r m_1 m_4 m_9 m_10 m_14 m_15 zm_25 zm_26 zm_27 m_28 m_29 m_31 m_32 m_33 m_35 m_36 m_37 m_38 m_39 m_40 m_42)), ((r 18), .inl (E.2.2.1 0, 16, .inl zr18_f)), ((r 19), .inl (E.2.2.1 0, 128, .inl zr19_f)), ((r 24), .inl (E.2.2.1 3, 6, .inr (.inl (lM zr24_f))))])) (K : ∀ (pm_25 : Int32) (pm_26 : Int32) (pm_27 : Int64) (pr18_f : Nat → Int32) (pr19_f : Nat → Int32) (pr24_f : Nat → Nat) (l1 : Nat), (∀ j, j < 6 → pr24_f j ≤ 40000000000) → (l1 ≤ 128) → (∀ (β : Type) (k_ : Int32 → Int32 → Int64 → (Nat → Int32) → (Nat → Int32) → (Nat → Nat) → β), rr β k_ = kx_ β k_ pm_25 pm_26 pm_27 pr18_f pr19_f pr24_f l1) → G E X 2 [(m, .inr (11, mkF r m_1 m_4 m_9 m_10 m_14 m_15 pm_25 pm_26 pm_27 m_28 m_29 m_31 m_32 m_33 m_35 m_36 m_37 m_38 m_39 m_40 m_42)), ((r 18), .inl (E.2.2.1 0, 16, .inl pr18_f)), ((r 19), .inl (E.2.2.1 0, 128, .inl pr19_f)), ((r 24), .inl (E.2.2.1 3, 6, .inr (.inl (lM pr24_f))))] 0 0 [(0, .ref m), (1, .int (nI l1))] 64 []) : ∀ (fuel : Nat) (pm_25 : Int32) (pm_26 : Int32) (pm_27 : Int64) (pr18_f : Nat → Int32) (pr19_f : Nat → Int32) (pr24_f : Nat → Nat) (l1 : Nat), (∀ j, j < 6 → pr24_f j ≤ 40000000000) → (l1 ≤ 128) → (6 - l1) < fuel → (∀ (β : Type) (k_ : Int32 → Int32 → Int64 → (Nat → Int32) → (Nat → Int32) → (Nat → Nat) → β), rr β k_ = lf_wr_X11_begins_45  β (kx_ β k_) fuel pm_25 pm_26 pm_27 pr18_f pr19_f pr24_f l1) → G E X 2 [(m, .inr (11, mkF r m_1 m_4 m_9 m_10 m_14 m_15 pm_25 pm_26 pm_27 m_28 m_29 m_31 m_32 m_33 m_35 m_36 m_37 m_38 m_39 m_40 m_42)), ((r 18), .inl (E.2.2.1 0, 16, .inl pr18_f)), ((r 19), .inl (E.2.2.1 0, 128, .inl pr19_f)), ((r 24), .inl (E.2.2.1 3, 6, .inr (.inl (lM pr24_f))))] 0 0 [(0, .ref m), (1, .int (nI l1))] 45 [] := by
  intro fuel
  induction fuel with
  | zero => intro pm_25 pm_26 pm_27 pr18_f pr19_f pr24_f l1 _ _ h _; exact absurd h (Nat.not_lt_zero _)
  | succ fuel ih =>
    intro pm_25 pm_26 pm_27 pr18_f pr19_f pr24_f l1 hv0 hv1 hm e_
    replace e_ := fun β k_ => (e_ β k_).trans lf_wr_X11_begins_45_s
    refine g_iload_n B dX11_begins_45 rfl 1 rfl ?_
    refine g_bipush (v := 6) B dX11_begins_46 (by decide) ?_
    refine g_icmp_ge (tgt := 64) B dX11_begins_48 (by decide) (fun c48_2112 => ?_) (fun c48_2112 => ?_)
    · have hn_2113 : 6 ≤ l1 := (nI_leI (a := 6) (b := l1) (by omega) (by omega)).mp c48_2112
      replace e_ := fun β k_ => (e_ β k_).trans (if_pos hn_2113)
      exact K pm_25 pm_26 pm_27 pr18_f pr19_f pr24_f l1 (by first | assumption | omega | decide | exact hCF _ (by omega)) (by first | assumption | omega | decide | exact hCF _ (by omega)) e_
    · have hn_2114 : l1 < 6 := Nat.not_le.mp (fun q => c48_2112 ((nI_leI (a := 6) (b := l1) (by omega) (by omega)).mpr q))
      replace e_ := fun β k_ => (e_ β k_).trans (if_neg (Nat.not_le.mpr hn_2114))
      refine g_aload_n B dX11_begins_51 rfl 0 rfl ?_
      refine g_get B 0 24 fl_X11_66 rfl mf_24 dX11_begins_52 ?_
      refine g_iload_n B dX11_begins_55 rfl 1 rfl ?_
      refine g_lconst (v := 0) B dX11_begins_56 (by decide) ?_
      have ha_2115 := updN_le (i := l1) (x := 0) hv0 (by omega)
      refine g_last (ws' := [(m, .inr (11, mkF r m_1 m_4 m_9 m_10 m_14 m_15 pm_25 pm_26 pm_27 m_28 m_29 m_31 m_32 m_33 m_35 m_36 m_37 m_38 m_39 m_40 m_42)), ((r 18), .inl (E.2.2.1 0, 16, .inl pr18_f)), ((r 19), .inl (E.2.2.1 0, 128, .inl pr19_f)), ((r 24), .inl (E.2.2.1 3, 6, .inr (.inl (lM (updN pr24_f l1 0)))))]) B 3 rfl (vp_in_nI (by omega) (by omega)) (by rw [show (vp_updL (lM pr24_f) (Int32.toNatClampNeg (nI l1)) 0) = lM (updN pr24_f l1 0) from lM_upd (f := pr24_f) (i := l1) (x := 0) (by omega)]; rfl) dX11_begins_57 ?_
      refine g_iinc (v := nI (l1 + 1)) (lv' := [(1, .int (nI (l1 + 1))), (0, .ref m)]) B dX11_begins_58 1 rfl (nI_add l1 1) (by decide) rfl ?_
      refine g_goto (tgt := 45) B dX11_begins_61 (by decide) ?_
      refine g_lvsub (lv' := [(0, .ref m), (1, .int (nI (l1 + 1)))]) [1, 0] rfl ?_
      exact ih pm_25 pm_26 pm_27 pr18_f pr19_f (updN pr24_f l1 0) (l1 + 1) (by first | assumption | omega | decide | exact hCF _ (by omega)) (by first | assumption | omega | decide | exact hCF _ (by omega)) (by omega) e_
theorem dX11_begins_64 : decode cX11_begins 64 = .ok (.aload_n 0, 1) := by decide +kernel
theorem dX11_begins_65 : decode cX11_begins 65 = .ok (.iconst 0, 1) := by decide +kernel
theorem dX11_begins_66 : decode cX11_begins 66 = .ok (.putfield 103, 3) := by decide +kernel
theorem w_fl_X11_103 : Cond.fieldLink RX11 103 (TX11 25).1 (TX11 25).2.1 (TX11 25).2.2.1 ∈ g_tbl := g_tbl_in 905 (by decide +kernel) (by decide +kernel)
theorem fl_X11_103 : FL RX11 103 11 25 := ⟨RX11, TX11, 50, rfl, by decide, inX_X11, w_fl_X11_103⟩
theorem pf_X11_25 : PF 11 25 .int false := fun C T N h => by cases h; exact ⟨⟨tyX11, tyX11_ok⟩, nmX11, by decide +kernel, rfl, rfl⟩
theorem dX11_begins_69 : decode cX11_begins 69 = .ok (.aload_n 0, 1) := by decide +kernel
theorem dX11_begins_70 : decode cX11_begins 70 = .ok (.iconst 0, 1) := by decide +kernel
theorem dX11_begins_71 : decode cX11_begins 71 = .ok (.putfield 107, 3) := by decide +kernel
theorem w_fl_X11_107 : Cond.fieldLink RX11 107 (TX11 26).1 (TX11 26).2.1 (TX11 26).2.2.1 ∈ g_tbl := g_tbl_in 906 (by decide +kernel) (by decide +kernel)
theorem fl_X11_107 : FL RX11 107 11 26 := ⟨RX11, TX11, 50, rfl, by decide, inX_X11, w_fl_X11_107⟩
theorem pf_X11_26 : PF 11 26 .int false := fun C T N h => by cases h; exact ⟨⟨tyX11, tyX11_ok⟩, nmX11, by decide +kernel, rfl, rfl⟩
theorem dX11_begins_74 : decode cX11_begins 74 = .ok (.aload_n 0, 1) := by decide +kernel
theorem dX11_begins_75 : decode cX11_begins 75 = .ok (.lconst 0, 1) := by decide +kernel
theorem dX11_begins_76 : decode cX11_begins 76 = .ok (.putfield 110, 3) := by decide +kernel
theorem w_fl_X11_110 : Cond.fieldLink RX11 110 (TX11 27).1 (TX11 27).2.1 (TX11 27).2.2.1 ∈ g_tbl := g_tbl_in 907 (by decide +kernel) (by decide +kernel)
theorem fl_X11_110 : FL RX11 110 11 27 := ⟨RX11, TX11, 50, rfl, by decide, inX_X11, w_fl_X11_110⟩
theorem pf_X11_27 : PF 11 27 .long false := fun C T N h => by cases h; exact ⟨⟨tyX11, tyX11_ok⟩, nmX11, by decide +kernel, rfl, rfl⟩
theorem dX11_begins_79 : decode cX11_begins 79 = .ok (.return_, 1) := by decide +kernel
set_option maxRecDepth 100000 in
def fn_wr_X11_begins (m_25 : Int32) (m_26 : Int32) (m_27 : Int64) (r18_f : Nat → Int32) (r19_f : Nat → Int32) (r24_f : Nat → Nat) (β : Type) (k_ : Int32 → Int32 → Int64 → (Nat → Int32) → (Nat → Int32) → (Nat → Nat) → β) : β := (lf_wr_X11_begins_2  β (fun y_2107pm_25 y_2107pm_26 y_2107pm_27 y_2107pr18_f y_2107pr19_f y_2107pr24_f y_2107l1 => (lf_wr_X11_begins_23  β (fun y_2111pm_25 y_2111pm_26 y_2111pm_27 y_2111pr18_f y_2111pr19_f y_2111pr24_f y_2111l1 => (lf_wr_X11_begins_45  β (fun y_2116pm_25 y_2116pm_26 y_2116pm_27 y_2116pr18_f y_2116pr19_f y_2116pr24_f y_2116l1 => (k_ 0 0 0 y_2116pr18_f y_2116pr19_f y_2116pr24_f)) ((6 - 0) + 1) y_2111pm_25 y_2111pm_26 y_2111pm_27 y_2111pr18_f y_2111pr19_f y_2111pr24_f 0)) ((128 - 0) + 1) y_2107pm_25 y_2107pm_26 y_2107pm_27 y_2107pr18_f y_2107pr19_f y_2107pr24_f 0)) ((16 - 0) + 1) m_25 m_26 m_27 r18_f r19_f r24_f 0)
set_option maxRecDepth 100000 in
theorem fn_wr_X11_begins_s {m_25 : Int32} {m_26 : Int32} {m_27 : Int64} {r18_f : Nat → Int32} {r19_f : Nat → Int32} {r24_f : Nat → Nat} {β : Type} {k_ : Int32 → Int32 → Int64 → (Nat → Int32) → (Nat → Int32) → (Nat → Nat) → β} : fn_wr_X11_begins m_25 m_26 m_27 r18_f r19_f r24_f β k_ = (lf_wr_X11_begins_2  β (fun y_2107pm_25 y_2107pm_26 y_2107pm_27 y_2107pr18_f y_2107pr19_f y_2107pr24_f y_2107l1 => (lf_wr_X11_begins_23  β (fun y_2111pm_25 y_2111pm_26 y_2111pm_27 y_2111pr18_f y_2111pr19_f y_2111pr24_f y_2111l1 => (lf_wr_X11_begins_45  β (fun y_2116pm_25 y_2116pm_26 y_2116pm_27 y_2116pr18_f y_2116pr19_f y_2116pr24_f y_2116l1 => (k_ 0 0 0 y_2116pr18_f y_2116pr19_f y_2116pr24_f)) ((6 - 0) + 1) y_2111pm_25 y_2111pm_26 y_2111pm_27 y_2111pr18_f y_2111pr19_f y_2111pr24_f 0)) ((128 - 0) + 1) y_2107pm_25 y_2107pm_26 y_2107pm_27 y_2107pr18_f y_2107pr19_f y_2107pr24_f 0)) ((16 - 0) + 1) m_25 m_26 m_27 r18_f r19_f r24_f 0) := rfl
set_option maxRecDepth 100000 in
set_option maxHeartbeats 4000000 in
theorem wr_X11_begins (E : g_E) (m : Nat) (r : Nat → Nat) (m_1 : Nat) (m_4 : Nat) (m_9 : Nat) (m_10 : Nat) (m_14 : Nat) (m_15 : Nat) (m_25 : Int32) (m_26 : Int32) (m_27 : Int64) (m_28 : Nat) (m_29 : Nat) (m_31 : Nat) (m_32 : Nat) (m_33 : Nat) (m_35 : Nat) (m_36 : Nat) (m_37 : Int32) (m_38 : Nat) (m_39 : Int32) (m_40 : Int32) (m_42 : Nat) (r18_f : Nat → Int32) (r19_f : Nat → Int32) (r24_f : Nat → Nat) (ha0 : ∀ j, j < 6 → r24_f j ≤ 40000000000) : Ev E MX11_begins 0 0 0 0 [.ref m] [(m, .inr (11, mkF r m_1 m_4 m_9 m_10 m_14 m_15 m_25 m_26 m_27 m_28 m_29 m_31 m_32 m_33 m_35 m_36 m_37 m_38 m_39 m_40 m_42)), ((r 18), .inl (E.2.2.1 0, 16, .inl r18_f)), ((r 19), .inl (E.2.2.1 0, 128, .inl r19_f)), ((r 24), .inl (E.2.2.1 3, 6, .inr (.inl (lM r24_f))))] (fun v_ w_ => ∃ zm_25 : Int32, ∃ zm_26 : Int32, ∃ zm_27 : Int64, ∃ zr18_f : Nat → Int32, ∃ zr19_f : Nat → Int32, ∃ zr24_f : Nat → Nat, (∀ j, j < 6 → zr24_f j ≤ 40000000000) ∧ (∀ (β : Type) (k_ : Int32 → Int32 → Int64 → (Nat → Int32) → (Nat → Int32) → (Nat → Nat) → β), fn_wr_X11_begins m_25 m_26 m_27 r18_f r19_f r24_f β k_ = k_ zm_25 zm_26 zm_27 zr18_f zr19_f zr24_f) ∧ v_ = none ∧ w_ = [(m, .inr (11, mkF r m_1 m_4 m_9 m_10 m_14 m_15 zm_25 zm_26 zm_27 m_28 m_29 m_31 m_32 m_33 m_35 m_36 m_37 m_38 m_39 m_40 m_42)), ((r 18), .inl (E.2.2.1 0, 16, .inl zr18_f)), ((r 19), .inl (E.2.2.1 0, 128, .inl zr19_f)), ((r 24), .inl (E.2.2.1 3, 6, .inr (.inl (lM zr24_f))))]) := by
  refine Ev.intro (by decide) (Nat.le_of_ble_eq_true rfl) ?_
  intro X B hr hI
  have B : Bd E X cX11_begins RX11 2 0 0 0 0 := B
  have hr : Rt E X none 0 0 (fun v_ w_ => ∃ zm_25 : Int32, ∃ zm_26 : Int32, ∃ zm_27 : Int64, ∃ zr18_f : Nat → Int32, ∃ zr19_f : Nat → Int32, ∃ zr24_f : Nat → Nat, (∀ j, j < 6 → zr24_f j ≤ 40000000000) ∧ (∀ (β : Type) (k_ : Int32 → Int32 → Int64 → (Nat → Int32) → (Nat → Int32) → (Nat → Nat) → β), fn_wr_X11_begins m_25 m_26 m_27 r18_f r19_f r24_f β k_ = k_ zm_25 zm_26 zm_27 zr18_f zr19_f zr24_f) ∧ v_ = none ∧ w_ = [(m, .inr (11, mkF r m_1 m_4 m_9 m_10 m_14 m_15 zm_25 zm_26 zm_27 m_28 m_29 m_31 m_32 m_33 m_35 m_36 m_37 m_38 m_39 m_40 m_42)), ((r 18), .inl (E.2.2.1 0, 16, .inl zr18_f)), ((r 19), .inl (E.2.2.1 0, 128, .inl zr19_f)), ((r 24), .inl (E.2.2.1 3, 6, .inr (.inl (lM zr24_f))))]) := hr
  have e_ := fun (β : Type) (k_ : Int32 → Int32 → Int64 → (Nat → Int32) → (Nat → Int32) → (Nat → Nat) → β) => fn_wr_X11_begins_s (β := β) (k_ := k_) (m_25 := m_25) (m_26 := m_26) (m_27 := m_27) (r18_f := r18_f) (r19_f := r19_f) (r24_f := r24_f)
  show G E X 2 [(m, .inr (11, mkF r m_1 m_4 m_9 m_10 m_14 m_15 m_25 m_26 m_27 m_28 m_29 m_31 m_32 m_33 m_35 m_36 m_37 m_38 m_39 m_40 m_42)), ((r 18), .inl (E.2.2.1 0, 16, .inl r18_f)), ((r 19), .inl (E.2.2.1 0, 128, .inl r19_f)), ((r 24), .inl (E.2.2.1 3, 6, .inr (.inl (lM r24_f))))] 0 0 [(0, .ref m)] 0 []
  refine g_iconst (v := 0) B dX11_begins_0 (by decide) ?_
  refine g_istore_n (lv' := [(1, .int 0), (0, .ref m)]) B dX11_begins_1 rfl (by decide) rfl ?_
  refine g_lvsub (lv' := [(0, .ref m), (1, .int 0)]) [1, 0] rfl ?_
  refine lp_wr_X11_begins_2 E m r m_1 m_4 m_9 m_10 m_14 m_15 m_25 m_26 m_27 m_28 m_29 m_31 m_32 m_33 m_35 m_36 m_37 m_38 m_39 m_40 m_42 r18_f r19_f r24_f ha0   _ B hr (fun y_2107pm_25 y_2107pm_26 y_2107pm_27 y_2107pr18_f y_2107pr19_f y_2107pr24_f y_2107l1 y_2107k0 y_2107k1 e_ => ?_) _ m_25 m_26 m_27 r18_f r19_f r24_f 0 (by first | assumption | omega | decide | exact hCF _ (by omega)) (by first | assumption | omega | decide | exact hCF _ (by omega)) (Nat.lt_succ_self _) e_
  show G E X 2 [(m, .inr (11, mkF r m_1 m_4 m_9 m_10 m_14 m_15 y_2107pm_25 y_2107pm_26 y_2107pm_27 m_28 m_29 m_31 m_32 m_33 m_35 m_36 m_37 m_38 m_39 m_40 m_42)), ((r 18), .inl (E.2.2.1 0, 16, .inl y_2107pr18_f)), ((r 19), .inl (E.2.2.1 0, 128, .inl y_2107pr19_f)), ((r 24), .inl (E.2.2.1 3, 6, .inr (.inl (lM y_2107pr24_f))))] 0 0 [(0, .ref m), (1, .int (nI y_2107l1))] 21 []
  refine g_iconst (v := 0) B dX11_begins_21 (by decide) ?_
  refine g_istore_n (lv' := [(1, .int 0), (0, .ref m)]) B dX11_begins_22 rfl (by decide) rfl ?_
  refine g_lvsub (lv' := [(0, .ref m), (1, .int 0)]) [1, 0] rfl ?_
  refine lp_wr_X11_begins_23 E m r m_1 m_4 m_9 m_10 m_14 m_15 m_25 m_26 m_27 m_28 m_29 m_31 m_32 m_33 m_35 m_36 m_37 m_38 m_39 m_40 m_42 r18_f r19_f r24_f ha0   _ B hr (fun y_2111pm_25 y_2111pm_26 y_2111pm_27 y_2111pr18_f y_2111pr19_f y_2111pr24_f y_2111l1 y_2111k0 y_2111k1 e_ => ?_) _ y_2107pm_25 y_2107pm_26 y_2107pm_27 y_2107pr18_f y_2107pr19_f y_2107pr24_f 0 (by first | assumption | omega | decide | exact hCF _ (by omega)) (by first | assumption | omega | decide | exact hCF _ (by omega)) (Nat.lt_succ_self _) e_
  show G E X 2 [(m, .inr (11, mkF r m_1 m_4 m_9 m_10 m_14 m_15 y_2111pm_25 y_2111pm_26 y_2111pm_27 m_28 m_29 m_31 m_32 m_33 m_35 m_36 m_37 m_38 m_39 m_40 m_42)), ((r 18), .inl (E.2.2.1 0, 16, .inl y_2111pr18_f)), ((r 19), .inl (E.2.2.1 0, 128, .inl y_2111pr19_f)), ((r 24), .inl (E.2.2.1 3, 6, .inr (.inl (lM y_2111pr24_f))))] 0 0 [(0, .ref m), (1, .int (nI y_2111l1))] 43 []
  refine g_iconst (v := 0) B dX11_begins_43 (by decide) ?_
  refine g_istore_n (lv' := [(1, .int 0), (0, .ref m)]) B dX11_begins_44 rfl (by decide) rfl ?_
  refine g_lvsub (lv' := [(0, .ref m), (1, .int 0)]) [1, 0] rfl ?_
  refine lp_wr_X11_begins_45 E m r m_1 m_4 m_9 m_10 m_14 m_15 m_25 m_26 m_27 m_28 m_29 m_31 m_32 m_33 m_35 m_36 m_37 m_38 m_39 m_40 m_42 r18_f r19_f r24_f ha0   _ B hr (fun y_2116pm_25 y_2116pm_26 y_2116pm_27 y_2116pr18_f y_2116pr19_f y_2116pr24_f y_2116l1 y_2116k0 y_2116k1 e_ => ?_) _ y_2111pm_25 y_2111pm_26 y_2111pm_27 y_2111pr18_f y_2111pr19_f y_2111pr24_f 0 (by first | assumption | omega | decide | exact hCF _ (by omega)) (by first | assumption | omega | decide | exact hCF _ (by omega)) (Nat.lt_succ_self _) e_
  show G E X 2 [(m, .inr (11, mkF r m_1 m_4 m_9 m_10 m_14 m_15 y_2116pm_25 y_2116pm_26 y_2116pm_27 m_28 m_29 m_31 m_32 m_33 m_35 m_36 m_37 m_38 m_39 m_40 m_42)), ((r 18), .inl (E.2.2.1 0, 16, .inl y_2116pr18_f)), ((r 19), .inl (E.2.2.1 0, 128, .inl y_2116pr19_f)), ((r 24), .inl (E.2.2.1 3, 6, .inr (.inl (lM y_2116pr24_f))))] 0 0 [(0, .ref m), (1, .int (nI y_2116l1))] 64 []
  refine g_aload_n B dX11_begins_64 rfl 0 rfl ?_
  refine g_iconst (v := 0) B dX11_begins_65 (by decide) ?_
  refine g_putM (ws' := [(m, .inr (11, mkF r m_1 m_4 m_9 m_10 m_14 m_15 0 y_2116pm_26 y_2116pm_27 m_28 m_29 m_31 m_32 m_33 m_35 m_36 m_37 m_38 m_39 m_40 m_42)), ((r 18), .inl (E.2.2.1 0, 16, .inl y_2116pr18_f)), ((r 19), .inl (E.2.2.1 0, 128, .inl y_2116pr19_f)), ((r 24), .inl (E.2.2.1 3, 6, .inr (.inl (lM y_2116pr24_f))))]) (fs' := mkF r m_1 m_4 m_9 m_10 m_14 m_15 0 y_2116pm_26 y_2116pm_27 m_28 m_29 m_31 m_32 m_33 m_35 m_36 m_37 m_38 m_39 m_40 m_42) B 0 25 fl_X11_103 pf_X11_25 rfl (mlt (by decide)) rfl rfl (ms_25 rfl) rfl dX11_begins_66 ?_
  refine g_aload_n B dX11_begins_69 rfl 0 rfl ?_
  refine g_iconst (v := 0) B dX11_begins_70 (by decide) ?_
  refine g_putM (ws' := [(m, .inr (11, mkF r m_1 m_4 m_9 m_10 m_14 m_15 0 0 y_2116pm_27 m_28 m_29 m_31 m_32 m_33 m_35 m_36 m_37 m_38 m_39 m_40 m_42)), ((r 18), .inl (E.2.2.1 0, 16, .inl y_2116pr18_f)), ((r 19), .inl (E.2.2.1 0, 128, .inl y_2116pr19_f)), ((r 24), .inl (E.2.2.1 3, 6, .inr (.inl (lM y_2116pr24_f))))]) (fs' := mkF r m_1 m_4 m_9 m_10 m_14 m_15 0 0 y_2116pm_27 m_28 m_29 m_31 m_32 m_33 m_35 m_36 m_37 m_38 m_39 m_40 m_42) B 0 26 fl_X11_107 pf_X11_26 rfl (mlt (by decide)) rfl rfl (ms_26 rfl) rfl dX11_begins_71 ?_
  refine g_aload_n B dX11_begins_74 rfl 0 rfl ?_
  refine g_lconst (v := 0) B dX11_begins_75 (by decide) ?_
  refine g_putM (ws' := [(m, .inr (11, mkF r m_1 m_4 m_9 m_10 m_14 m_15 0 0 0 m_28 m_29 m_31 m_32 m_33 m_35 m_36 m_37 m_38 m_39 m_40 m_42)), ((r 18), .inl (E.2.2.1 0, 16, .inl y_2116pr18_f)), ((r 19), .inl (E.2.2.1 0, 128, .inl y_2116pr19_f)), ((r 24), .inl (E.2.2.1 3, 6, .inr (.inl (lM y_2116pr24_f))))]) (fs' := mkF r m_1 m_4 m_9 m_10 m_14 m_15 0 0 0 m_28 m_29 m_31 m_32 m_33 m_35 m_36 m_37 m_38 m_39 m_40 m_42) B 0 27 fl_X11_110 pf_X11_27 rfl (mlt (by decide)) rfl rfl (ms_27 rfl) rfl dX11_begins_76 ?_
  exact g_vret B hr dX11_begins_79 (by decide) (by decide) ⟨0, 0, 0, y_2116pr18_f, y_2116pr19_f, y_2116pr24_f, (by first | assumption | omega | decide | exact hCF _ (by omega)), e_, rfl, rfl⟩
abbrev MX11_input : g_M := (yX11_input, cX11_input, 4, (some .int))
theorem dX11_input_0 : decode cX11_input 0 = .ok (.aload_n 0, 1) := by decide +kernel
theorem dX11_input_1 : decode cX11_input 1 = .ok (.getfield 51, 3) := by decide +kernel
theorem dX11_input_4 : decode cX11_input 4 = .ok (.bipush 8, 2) := by decide +kernel
theorem dX11_input_6 : decode cX11_input 6 = .ok (.iconst 2, 1) := by decide +kernel
theorem dX11_input_7 : decode cX11_input 7 = .ok (.iload_n 1, 1) := by decide +kernel
theorem dX11_input_8 : decode cX11_input 8 = .ok (.imul, 1) := by decide +kernel
theorem dX11_input_9 : decode cX11_input 9 = .ok (.iload_n 2, 1) := by decide +kernel
theorem dX11_input_10 : decode cX11_input 10 = .ok (.iadd, 1) := by decide +kernel
theorem dX11_input_11 : decode cX11_input 11 = .ok (.imul, 1) := by decide +kernel
theorem dX11_input_12 : decode cX11_input 12 = .ok (.iload_n 3, 1) := by decide +kernel
theorem dX11_input_13 : decode cX11_input 13 = .ok (.iadd, 1) := by decide +kernel
theorem dX11_input_14 : decode cX11_input 14 = .ok (.iaload, 1) := by decide +kernel
theorem dX11_input_15 : decode cX11_input 15 = .ok (.ireturn, 1) := by decide +kernel
set_option maxRecDepth 100000 in
def fn_wr_X11_input (r19_f : Nat → Int32) (pa : Nat) (ch : Nat) (ag : Nat) (β : Type) (k_ : Int32 → β) : β := (k_ (r19_f ((8 * ((2 * pa) + ch)) + ag)))
set_option maxRecDepth 100000 in
theorem fn_wr_X11_input_s {r19_f : Nat → Int32} {pa : Nat} {ch : Nat} {ag : Nat} {β : Type} {k_ : Int32 → β} : fn_wr_X11_input r19_f pa ch ag β k_ = (k_ (r19_f ((8 * ((2 * pa) + ch)) + ag))) := rfl
set_option maxRecDepth 100000 in
set_option maxHeartbeats 4000000 in
theorem wr_X11_input (E : g_E) (m : Nat) (r : Nat → Nat) (m_1 : Nat) (m_4 : Nat) (m_9 : Nat) (m_10 : Nat) (m_14 : Nat) (m_15 : Nat) (m_25 : Int32) (m_26 : Int32) (m_27 : Int64) (m_28 : Nat) (m_29 : Nat) (m_31 : Nat) (m_32 : Nat) (m_33 : Nat) (m_35 : Nat) (m_36 : Nat) (m_37 : Int32) (m_38 : Nat) (m_39 : Int32) (m_40 : Int32) (m_42 : Nat) (r19_f : Nat → Int32) (pa : Nat) (ch : Nat) (ag : Nat) (h0 : pa < 8) (h1 : ch < 2) (h2 : ag < 8) : Ev E MX11_input 0 0 0 0 [.ref m, .int (nI pa), .int (nI ch), .int (nI ag)] [(m, .inr (11, mkF r m_1 m_4 m_9 m_10 m_14 m_15 m_25 m_26 m_27 m_28 m_29 m_31 m_32 m_33 m_35 m_36 m_37 m_38 m_39 m_40 m_42)), ((r 19), .inl (E.2.2.1 0, 128, .inl r19_f))] (fun v_ w_ => ∃ zr : Int32, (∀ (β : Type) (k_ : Int32 → β), fn_wr_X11_input r19_f pa ch ag β k_ = k_ zr) ∧ v_ = some (.int zr) ∧ w_ = [(m, .inr (11, mkF r m_1 m_4 m_9 m_10 m_14 m_15 m_25 m_26 m_27 m_28 m_29 m_31 m_32 m_33 m_35 m_36 m_37 m_38 m_39 m_40 m_42)), ((r 19), .inl (E.2.2.1 0, 128, .inl r19_f))]) := by
  refine Ev.intro (by decide) (Nat.le_of_ble_eq_true rfl) ?_
  intro X B hr hI
  have B : Bd E X cX11_input RX11 4 0 0 0 0 := B
  have hr : Rt E X (some .int) 0 0 (fun v_ w_ => ∃ zr : Int32, (∀ (β : Type) (k_ : Int32 → β), fn_wr_X11_input r19_f pa ch ag β k_ = k_ zr) ∧ v_ = some (.int zr) ∧ w_ = [(m, .inr (11, mkF r m_1 m_4 m_9 m_10 m_14 m_15 m_25 m_26 m_27 m_28 m_29 m_31 m_32 m_33 m_35 m_36 m_37 m_38 m_39 m_40 m_42)), ((r 19), .inl (E.2.2.1 0, 128, .inl r19_f))]) := hr
  have e_ := fun (β : Type) (k_ : Int32 → β) => fn_wr_X11_input_s (β := β) (k_ := k_) (r19_f := r19_f) (pa := pa) (ch := ch) (ag := ag)
  show G E X 4 [(m, .inr (11, mkF r m_1 m_4 m_9 m_10 m_14 m_15 m_25 m_26 m_27 m_28 m_29 m_31 m_32 m_33 m_35 m_36 m_37 m_38 m_39 m_40 m_42)), ((r 19), .inl (E.2.2.1 0, 128, .inl r19_f))] 0 0 [(0, .ref m), (1, .int (nI pa)), (2, .int (nI ch)), (3, .int (nI ag))] 0 []
  refine g_aload_n B dX11_input_0 rfl 0 rfl ?_
  refine g_get B 0 19 fl_X11_51 rfl mf_19 dX11_input_1 ?_
  refine g_bipush (v := 8) B dX11_input_4 (by decide) ?_
  refine g_iconst (v := 2) B dX11_input_6 (by decide) ?_
  refine g_iload_n B dX11_input_7 rfl 1 rfl ?_
  refine g_imul B dX11_input_8 ?_
  refine g_ri (x' := nI (2 * pa)) (pk_mul 2 pa) ?_
  refine g_iload_n B dX11_input_9 rfl 2 rfl ?_
  refine g_iadd B dX11_input_10 ?_
  refine g_ri (x' := nI ((2 * pa) + ch)) (nI_add (2 * pa) ch) ?_
  refine g_imul B dX11_input_11 ?_
  refine g_ri (x' := nI (8 * ((2 * pa) + ch))) (pk_mul 8 ((2 * pa) + ch)) ?_
  refine g_iload_n B dX11_input_12 rfl 3 rfl ?_
  refine g_iadd B dX11_input_13 ?_
  refine g_ri (x' := nI ((8 * ((2 * pa) + ch)) + ag)) (nI_add (8 * ((2 * pa) + ch)) ag) ?_
  refine g_iald B 1 rfl (vp_in_nI (by omega) (by omega)) dX11_input_14 ?_
  refine g_ri (x' := (r19_f ((8 * ((2 * pa) + ch)) + ag))) (congrArg r19_f (nI_clamp (n := ((8 * ((2 * pa) + ch)) + ag)) (by omega))) ?_
  exact g_iret B hr dX11_input_15 (by decide) (by decide) ⟨(r19_f ((8 * ((2 * pa) + ch)) + ag)), e_, rfl, rfl⟩
