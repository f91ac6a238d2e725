abbrev MX11_wrong : g_M := (yX11_wrong, cX11_wrong, 2, (some .boolean))
theorem dX11_wrong_0 : decode cX11_wrong 0 = .ok (.aload_n 0, 1) := by decide +kernel
theorem dX11_wrong_1 : decode cX11_wrong 1 = .ok (.getfield 304, 3) := by decide +kernel
theorem w_fl_X11_304 : Cond.fieldLink RX11 304 (TX11 42).1 (TX11 42).2.1 (TX11 42).2.2.1 ∈ g_tbl := g_tbl_in 922 (by decide +kernel) (by decide +kernel)
theorem fl_X11_304 : FL RX11 304 11 42 := ⟨RX11, TX11, 50, rfl, by decide, inX_X11, w_fl_X11_304⟩
theorem dX11_wrong_4 : decode cX11_wrong 4 = .ok (.ifCond .ne 8, 3) := by decide +kernel
theorem dX11_wrong_12 : decode cX11_wrong 12 = .ok (.iconst 0, 1) := by decide +kernel
theorem dX11_wrong_13 : decode cX11_wrong 13 = .ok (.ireturn, 1) := by decide +kernel
theorem dX11_wrong_7 : decode cX11_wrong 7 = .ok (.aload_n 0, 1) := by decide +kernel
theorem dX11_wrong_8 : decode cX11_wrong 8 = .ok (.iload_n 1, 1) := by decide +kernel
theorem dX11_wrong_9 : decode cX11_wrong 9 = .ok (.putfield 304, 3) := by decide +kernel
theorem pf_X11_42 : PF 11 42 .int false := fun C T N h => by cases h; exact ⟨⟨tyX11, tyX11_ok⟩, nmX11, by decide +kernel, rfl, rfl⟩
set_option maxRecDepth 100000 in
def fn_wr_X11_wrong (m_42 : Nat) (ef : Nat) (β : Type) (k_ : Nat → β) : β := (if m_42 = 0 then (k_ ef) else (k_ m_42))
set_option maxRecDepth 100000 in
theorem fn_wr_X11_wrong_s {m_42 : Nat} {ef : Nat} {β : Type} {k_ : Nat → β} : fn_wr_X11_wrong m_42 ef β k_ = (if m_42 = 0 then (k_ ef) else (k_ m_42)) := rfl
set_option maxRecDepth 100000 in
set_option maxHeartbeats 4000000 in
theorem wr_X11_wrong (E : g_E) (m : Nat) (r : Nat → Nat) (m_1 : Nat) (m_4 : Nat) (m_9 : Nat) (m_10 : Nat) (m_14 : Nat) (m_15 : Nat) (m_25 : Int32) (m_26 : Int32) (m_27 : Int64) (m_28 : Nat) (m_29 : Nat) (m_31 : Nat) (m_32 : Nat) (m_33 : Nat) (m_35 : Nat) (m_36 : Nat) (m_37 : Int32) (m_38 : Nat) (m_39 : Int32) (m_40 : Int32) (m_42 : Nat) (ef : Nat) (h0 : 1 ≤ ef) (h1 : ef ≤ 12) (hb0 : m_42 ≤ 12) : Ev E MX11_wrong 0 0 0 0 [.ref m, .int (nI ef)] [(m, .inr (11, mkF r m_1 m_4 m_9 m_10 m_14 m_15 m_25 m_26 m_27 m_28 m_29 m_31 m_32 m_33 m_35 m_36 m_37 m_38 m_39 m_40 m_42))] (fun v_ w_ => ∃ zm_42 : Nat, (zm_42 ≤ 12) ∧ (1 ≤ zm_42) ∧ (∀ (β : Type) (k_ : Nat → β), fn_wr_X11_wrong m_42 ef β k_ = k_ zm_42) ∧ v_ = some (.int 0) ∧ w_ = [(m, .inr (11, mkF r m_1 m_4 m_9 m_10 m_14 m_15 m_25 m_26 m_27 m_28 m_29 m_31 m_32 m_33 m_35 m_36 m_37 m_38 m_39 m_40 zm_42))]) := by
  refine Ev.intro (by decide) (Nat.le_of_ble_eq_true rfl) ?_
  intro X B hr hI
  have B : Bd E X cX11_wrong RX11 2 0 0 0 0 := B
  have hr : Rt E X (some .boolean) 0 0 (fun v_ w_ => ∃ zm_42 : Nat, (zm_42 ≤ 12) ∧ (1 ≤ zm_42) ∧ (∀ (β : Type) (k_ : Nat → β), fn_wr_X11_wrong m_42 ef β k_ = k_ zm_42) ∧ v_ = some (.int 0) ∧ w_ = [(m, .inr (11, mkF r m_1 m_4 m_9 m_10 m_14 m_15 m_25 m_26 m_27 m_28 m_29 m_31 m_32 m_33 m_35 m_36 m_37 m_38 m_39 m_40 zm_42))]) := hr
  have e_ := fun (β : Type) (k_ : Nat → β) => fn_wr_X11_wrong_s (β := β) (k_ := k_) (m_42 := m_42) (ef := ef)
  show G E X 2 [(m, .inr (11, mkF r m_1 m_4 m_9 m_10 m_14 m_15 m_25 m_26 m_27 m_28 m_29 m_31 m_32 m_33 m_35 m_36 m_37 m_38 m_39 m_40 m_42))] 0 0 [(0, .ref m), (1, .int (nI ef))] 0 []
  refine g_aload_n B dX11_wrong_0 rfl 0 rfl ?_
  refine g_get B 0 42 fl_X11_304 rfl mf_42 dX11_wrong_1 ?_
  refine g_if_ne (tgt := 12) B dX11_wrong_4 (by decide) (fun c4_3076 => ?_) (fun c4_3076 => ?_)
  · have hn_3077 : ¬ m_42 = 0 := fun q => c4_3076 ((nI_eq (a := m_42) (b := 0) (by omega) (by omega)).mpr q)
    replace e_ := fun β k_ => (e_ β k_).trans (if_neg hn_3077)
    refine g_iconst (v := 0) B dX11_wrong_12 (by decide) ?_
    exact g_zret B hr (by decide) dX11_wrong_13 (by decide) (by decide) ⟨m_42, (by first | assumption | omega | decide | exact hCF _ (by omega)), (by first | assumption | omega | decide | exact hCF _ (by omega)), e_, rfl, rfl⟩
  · have hn_3078 : m_42 = 0 := (nI_eq (a := m_42) (b := 0) (by omega) (by omega)).mp c4_3076
    replace e_ := fun β k_ => (e_ β k_).trans (if_pos hn_3078)
    refine g_aload_n B dX11_wrong_7 rfl 0 rfl ?_
    refine g_iload_n B dX11_wrong_8 rfl 1 rfl ?_
    refine g_putM (ws' := [(m, .inr (11, mkF r m_1 m_4 m_9 m_10 m_14 m_15 m_25 m_26 m_27 m_28 m_29 m_31 m_32 m_33 m_35 m_36 m_37 m_38 m_39 m_40 ef))]) (fs' := mkF r m_1 m_4 m_9 m_10 m_14 m_15 m_25 m_26 m_27 m_28 m_29 m_31 m_32 m_33 m_35 m_36 m_37 m_38 m_39 m_40 ef) B 0 42 fl_X11_304 pf_X11_42 rfl (mlt (by decide)) rfl rfl (ms_42 rfl) rfl dX11_wrong_9 ?_
    refine g_iconst (v := 0) B dX11_wrong_12 (by decide) ?_
    exact g_zret B hr (by decide) dX11_wrong_13 (by decide) (by decide) ⟨ef, (by first | assumption | omega | decide | exact hCF _ (by omega)), (by first | assumption | omega | decide | exact hCF _ (by omega)), e_, rfl, rfl⟩
abbrev MX11_next : g_M := (yX11_next, cX11_next, 3, (some .int))
theorem dX11_next_0 : decode cX11_next 0 = .ok (.aload_n 0, 1) := by decide +kernel
theorem dX11_next_1 : decode cX11_next 1 = .ok (.getfield 307, 3) := by decide +kernel
theorem w_fl_X11_307 : Cond.fieldLink RX11 307 (TX11 32).1 (TX11 32).2.1 (TX11 32).2.2.1 ∈ g_tbl := g_tbl_in 912 (by decide +kernel) (by decide +kernel)
theorem fl_X11_307 : FL RX11 307 11 32 := ⟨RX11, TX11, 50, rfl, by decide, inX_X11, w_fl_X11_307⟩
theorem dX11_next_4 : decode cX11_next 4 = .ok (.aload_n 0, 1) := by decide +kernel
theorem dX11_next_5 : decode cX11_next 5 = .ok (.getfield 310, 3) := by decide +kernel
theorem w_fl_X11_310 : Cond.fieldLink RX11 310 (TX11 33).1 (TX11 33).2.1 (TX11 33).2.2.1 ∈ g_tbl := g_tbl_in 913 (by decide +kernel) (by decide +kernel)
theorem fl_X11_310 : FL RX11 310 11 33 := ⟨RX11, TX11, 50, rfl, by decide, inX_X11, w_fl_X11_310⟩
theorem dX11_next_8 : decode cX11_next 8 = .ok (.if_icmp .ne 11, 3) := by decide +kernel
theorem dX11_next_19 : decode cX11_next 19 = .ok (.aload_n 0, 1) := by decide +kernel
theorem dX11_next_20 : decode cX11_next 20 = .ok (.getfield 80, 3) := by decide +kernel
theorem dX11_next_23 : decode cX11_next 23 = .ok (.aload_n 0, 1) := by decide +kernel
theorem dX11_next_24 : decode cX11_next 24 = .ok (.getfield 307, 3) := by decide +kernel
theorem dX11_next_27 : decode cX11_next 27 = .ok (.bipush 8, 2) := by decide +kernel
theorem dX11_next_29 : decode cX11_next 29 = .ok (.idiv, 1) := by decide +kernel
theorem dX11_next_30 : decode cX11_next 30 = .ok (.baload, 1) := by decide +kernel
theorem dX11_next_31 : decode cX11_next 31 = .ok (.bipush 7, 2) := by decide +kernel
theorem dX11_next_33 : decode cX11_next 33 = .ok (.aload_n 0, 1) := by decide +kernel
theorem dX11_next_34 : decode cX11_next 34 = .ok (.getfield 307, 3) := by decide +kernel
theorem dX11_next_37 : decode cX11_next 37 = .ok (.bipush 8, 2) := by decide +kernel
theorem dX11_next_39 : decode cX11_next 39 = .ok (.irem, 1) := by decide +kernel
theorem dX11_next_40 : decode cX11_next 40 = .ok (.isub, 1) := by decide +kernel
theorem dX11_next_41 : decode cX11_next 41 = .ok (.ishr, 1) := by decide +kernel
theorem dX11_next_42 : decode cX11_next 42 = .ok (.iconst 1, 1) := by decide +kernel
theorem dX11_next_43 : decode cX11_next 43 = .ok (.iand, 1) := by decide +kernel
theorem dX11_next_44 : decode cX11_next 44 = .ok (.istore_n 2, 1) := by decide +kernel
theorem dX11_next_45 : decode cX11_next 45 = .ok (.aload_n 0, 1) := by decide +kernel
theorem dX11_next_46 : decode cX11_next 46 = .ok (.dup, 1) := by decide +kernel
theorem dX11_next_47 : decode cX11_next 47 = .ok (.getfield 307, 3) := by decide +kernel
theorem dX11_next_50 : decode cX11_next 50 = .ok (.iconst 1, 1) := by decide +kernel
theorem dX11_next_51 : decode cX11_next 51 = .ok (.iadd, 1) := by decide +kernel
theorem dX11_next_52 : decode cX11_next 52 = .ok (.putfield 307, 3) := by decide +kernel
theorem pf_X11_32 : PF 11 32 .int false := fun C T N h => by cases h; exact ⟨⟨tyX11, tyX11_ok⟩, nmX11, by decide +kernel, rfl, rfl⟩
theorem dX11_next_55 : decode cX11_next 55 = .ok (.iload_n 2, 1) := by decide +kernel
theorem dX11_next_56 : decode cX11_next 56 = .ok (.ireturn, 1) := by decide +kernel
theorem dX11_next_11 : decode cX11_next 11 = .ok (.aload_n 0, 1) := by decide +kernel
theorem dX11_next_12 : decode cX11_next 12 = .ok (.iload_n 1, 1) := by decide +kernel
theorem dX11_next_13 : decode cX11_next 13 = .ok (.invokevirtual 313, 3) := by decide +kernel
theorem w_ml_X11_313 : Cond.methodLink RX11 313 yX11_wrong ∈ g_tbl := g_tbl_in 1199 (by decide +kernel) (by decide +kernel)
theorem w_cd_X11_wrong : g_cw MX11_wrong ∈ g_tbl := g_tbl_in 1202 (by decide +kernel) (by decide +kernel)
theorem cl_X11_313 : CL RX11 313 1 MX11_wrong := ⟨w_ml_X11_313, w_cd_X11_wrong, w_ini_X11, by decide +kernel, by decide +kernel, by decide +kernel⟩
theorem w_im_X11_wrong : Cond.instanceMethod yX11_wrong ∈ g_tbl := g_tbl_in 1201 (by decide +kernel) (by decide +kernel)
theorem w_se_X11_wrong : Cond.selects RX11 yX11_wrong yX11_wrong ∈ g_tbl := g_tbl_in 57 (by decide +kernel) (by decide +kernel)
theorem dX11_next_16 : decode cX11_next 16 = .ok (.istore_n 2, 1) := by decide +kernel
theorem dX11_next_17 : decode cX11_next 17 = .ok (.iconst 0, 1) := by decide +kernel
theorem dX11_next_18 : decode cX11_next 18 = .ok (.ireturn, 1) := by decide +kernel
set_option maxRecDepth 100000 in
def fn_wr_X11_next (m_32 : Nat) (m_33 : Nat) (m_42 : Nat) (r43_f : Nat → Int32) (ef : Nat) (β : Type) (k_ : Nat → Nat → Nat → β) : β := (if m_32 = m_33 then (fn_wr_X11_wrong m_42 ef β (fun zm_42_3082 => (k_ m_32 zm_42_3082 0))) else (k_ (m_32 + 1) m_42 ((((nb r43_f (m_32 / 8)) >>> ((7 - nI (m_32 % 8)) &&& 31))).toBitVec.toNat % 2)))
set_option maxRecDepth 100000 in
theorem fn_wr_X11_next_s {m_32 : Nat} {m_33 : Nat} {m_42 : Nat} {r43_f : Nat → Int32} {ef : Nat} {β : Type} {k_ : Nat → Nat → Nat → β} : fn_wr_X11_next m_32 m_33 m_42 r43_f ef β k_ = (if m_32 = m_33 then (fn_wr_X11_wrong m_42 ef β (fun zm_42_3082 => (k_ m_32 zm_42_3082 0))) else (k_ (m_32 + 1) m_42 ((((nb r43_f (m_32 / 8)) >>> ((7 - nI (m_32 % 8)) &&& 31))).toBitVec.toNat % 2))) := rfl
set_option maxRecDepth 100000 in
set_option maxHeartbeats 4000000 in
theorem wr_X11_next (E : g_E) (m : Nat) (r : Nat → Nat) (m_1 : Nat) (m_4 : Nat) (m_9 : Nat) (m_10 : Nat) (m_14 : Nat) (m_15 : Nat) (m_25 : Int32) (m_26 : Int32) (m_27 : Int64) (m_28 : Nat) (m_29 : Nat) (m_31 : Nat) (m_32 : Nat) (m_33 : Nat) (m_35 : Nat) (m_36 : Nat) (m_37 : Int32) (m_38 : Nat) (m_39 : Int32) (m_40 : Int32) (m_42 : Nat) (r43_f : Nat → Int32) (ef : Nat) (h0 : 1 ≤ ef) (h1 : ef ≤ 12) (h2 : m_32 ≤ m_33) (hb0 : m_33 ≤ 48000) (hb1 : m_32 ≤ 48000) (hb2 : m_42 ≤ 12) : Ev E MX11_next 1 21 0 0 [.ref m, .int (nI ef)] [(m, .inr (11, mkF r m_1 m_4 m_9 m_10 m_14 m_15 m_25 m_26 m_27 m_28 m_29 m_31 m_32 m_33 m_35 m_36 m_37 m_38 m_39 m_40 m_42)), ((r 43), .inl (E.2.2.1 1, 6000, .inl (nb r43_f)))] (fun v_ w_ => ∃ zm_32 : Nat, ∃ zm_42 : Nat, ∃ zr : Nat, (zm_32 ≤ 48000) ∧ (zm_42 ≤ 12) ∧ (m_32 ≤ zm_32) ∧ (zm_32 ≤ m_33) ∧ (m_32 < m_33 → zm_32 = m_32 + 1) ∧ (zr ≤ 1) ∧ (∀ (β : Type) (k_ : Nat → Nat → Nat → β), fn_wr_X11_next m_32 m_33 m_42 r43_f ef β k_ = k_ zm_32 zm_42 zr) ∧ v_ = some (.int (nI zr)) ∧ w_ = [(m, .inr (11, mkF r m_1 m_4 m_9 m_10 m_14 m_15 m_25 m_26 m_27 m_28 m_29 m_31 zm_32 m_33 m_35 m_36 m_37 m_38 m_39 m_40 zm_42)), ((r 43), .inl (E.2.2.1 1, 6000, .inl (nb r43_f)))]) := by
  refine Ev.intro (by decide) (Nat.le_of_ble_eq_true rfl) ?_
  intro X B hr hI
  have B : Bd E X cX11_next RX11 3 1 21 0 0 := B
  have hr : Rt E X (some .int) 0 0 (fun v_ w_ => ∃ zm_32 : Nat, ∃ zm_42 : Nat, ∃ zr : Nat, (zm_32 ≤ 48000) ∧ (zm_42 ≤ 12) ∧ (m_32 ≤ zm_32) ∧ (zm_32 ≤ m_33) ∧ (m_32 < m_33 → zm_32 = m_32 + 1) ∧ (zr ≤ 1) ∧ (∀ (β : Type) (k_ : Nat → Nat → Nat → β), fn_wr_X11_next m_32 m_33 m_42 r43_f ef β k_ = k_ zm_32 zm_42 zr) ∧ v_ = some (.int (nI zr)) ∧ w_ = [(m, .inr (11, mkF r m_1 m_4 m_9 m_10 m_14 m_15 m_25 m_26 m_27 m_28 m_29 m_31 zm_32 m_33 m_35 m_36 m_37 m_38 m_39 m_40 zm_42)), ((r 43), .inl (E.2.2.1 1, 6000, .inl (nb r43_f)))]) := hr
  have e_ := fun (β : Type) (k_ : Nat → Nat → Nat → β) => fn_wr_X11_next_s (β := β) (k_ := k_) (m_32 := m_32) (m_33 := m_33) (m_42 := m_42) (r43_f := r43_f) (ef := ef)
  show G E X 3 [(m, .inr (11, mkF r m_1 m_4 m_9 m_10 m_14 m_15 m_25 m_26 m_27 m_28 m_29 m_31 m_32 m_33 m_35 m_36 m_37 m_38 m_39 m_40 m_42)), ((r 43), .inl (E.2.2.1 1, 6000, .inl (nb r43_f)))] 0 0 [(0, .ref m), (1, .int (nI ef))] 0 []
  refine g_aload_n B dX11_next_0 rfl 0 rfl ?_
  refine g_get B 0 32 fl_X11_307 rfl mf_32 dX11_next_1 ?_
  refine g_aload_n B dX11_next_4 rfl 0 rfl ?_
  refine g_get B 0 33 fl_X11_310 rfl mf_33 dX11_next_5 ?_
  refine g_icmp_ne (tgt := 19) B dX11_next_8 (by decide) (fun c8_3079 => ?_) (fun c8_3079 => ?_)
  · have hn_3080 : ¬ m_32 = m_33 := fun q => c8_3079 ((nI_eq (a := m_32) (b := m_33) (by omega) (by omega)).mpr q)
    replace e_ := fun β k_ => (e_ β k_).trans (if_neg hn_3080)
    refine g_aload_n B dX11_next_19 rfl 0 rfl ?_
    refine g_get B 0 43 fl_X11_80 rfl mf_43 dX11_next_20 ?_
    refine g_aload_n B dX11_next_23 rfl 0 rfl ?_
    refine g_get B 0 32 fl_X11_307 rfl mf_32 dX11_next_24 ?_
    refine g_bipush (v := 8) B dX11_next_27 (by decide) ?_
    refine g_idiv B dX11_next_29 (by decide) ?_
    refine g_ri (x' := nI (m_32 / 8)) (pk_div (a := m_32) (d := 8) (by omega) (by decide) (by decide)) ?_
    refine g_bald B 1 rfl (vp_in_nI (by omega) (by omega)) dX11_next_30 ?_
    refine g_ri (x' := (nb r43_f (m_32 / 8))) (congrArg (nb r43_f) (nI_clamp (n := (m_32 / 8)) (by omega))) ?_
    refine g_bipush (v := 7) B dX11_next_31 (by decide) ?_
    refine g_aload_n B dX11_next_33 rfl 0 rfl ?_
    refine g_get B 0 32 fl_X11_307 rfl mf_32 dX11_next_34 ?_
    refine g_bipush (v := 8) B dX11_next_37 (by decide) ?_
    refine g_irem B dX11_next_39 (by decide) ?_
    refine g_ri (x' := nI (m_32 % 8)) (pk_rem (a := m_32) (d := 8) (by omega) (by decide) (by decide)) ?_
    refine g_isub B dX11_next_40 ?_
    refine g_ishr B dX11_next_41 ?_
    refine g_iconst (v := 1) B dX11_next_42 (by decide) ?_
    refine g_iand B dX11_next_43 ?_
    refine g_ri (x' := nI ((((nb r43_f (m_32 / 8)) >>> ((7 - nI (m_32 % 8)) &&& 31))).toBitVec.toNat % 2)) (pk_and ((nb r43_f (m_32 / 8)) >>> ((7 - nI (m_32 % 8)) &&& 31)) (m := 1) 1 (by decide)) ?_
    refine g_istore_n (lv' := [(2, .int (nI ((((nb r43_f (m_32 / 8)) >>> ((7 - nI (m_32 % 8)) &&& 31))).toBitVec.toNat % 2))), (0, .ref m), (1, .int (nI ef))]) B dX11_next_44 rfl (by decide) rfl ?_
    refine g_aload_n B dX11_next_45 rfl 1 rfl ?_
    refine g_dup B dX11_next_46 rfl ?_
    refine g_get B 0 32 fl_X11_307 rfl mf_32 dX11_next_47 ?_
    refine g_iconst (v := 1) B dX11_next_50 (by decide) ?_
    refine g_iadd B dX11_next_51 ?_
    refine g_ri (x' := nI (m_32 + 1)) (nI_add m_32 1) ?_
    refine g_putM (ws' := [(m, .inr (11, mkF r m_1 m_4 m_9 m_10 m_14 m_15 m_25 m_26 m_27 m_28 m_29 m_31 (m_32 + 1) m_33 m_35 m_36 m_37 m_38 m_39 m_40 m_42)), ((r 43), .inl (E.2.2.1 1, 6000, .inl (nb r43_f)))]) (fs' := mkF r m_1 m_4 m_9 m_10 m_14 m_15 m_25 m_26 m_27 m_28 m_29 m_31 (m_32 + 1) m_33 m_35 m_36 m_37 m_38 m_39 m_40 m_42) B 0 32 fl_X11_307 pf_X11_32 rfl (mlt (by decide)) rfl rfl (ms_32 rfl) rfl dX11_next_52 ?_
    refine g_iload_n B dX11_next_55 rfl 0 rfl ?_
    exact g_iret B hr dX11_next_56 (by decide) (by decide) ⟨(m_32 + 1), m_42, ((((nb r43_f (m_32 / 8)) >>> ((7 - nI (m_32 % 8)) &&& 31))).toBitVec.toNat % 2), (by first | assumption | omega | decide | exact hCF _ (by omega)), (by first | assumption | omega | decide | exact hCF _ (by omega)), (by first | assumption | omega | decide | exact hCF _ (by omega)), (by first | assumption | omega | decide | exact hCF _ (by omega)), (by first | assumption | omega | decide | exact hCF _ (by omega)), (by first | assumption | omega | decide | exact hCF _ (by omega)), e_, rfl, rfl⟩
  · have hn_3081 : m_32 = m_33 := (nI_eq (a := m_32) (b := m_33) (by omega) (by omega)).mp c8_3079
    replace e_ := fun β k_ => (e_ β k_).trans (if_pos hn_3081)
    refine g_aload_n B dX11_next_11 rfl 0 rfl ?_
    refine g_iload_n B dX11_next_12 rfl 1 rfl ?_
    refine g_callV (st := []) (As := [.int (nI ef)]) (wr := [((r 43), .inl (E.2.2.1 1, 6000, .inl (nb r43_f)))]) (nc' := 0) (ns' := 0) B cl_X11_313 w_im_X11_wrong w_se_X11_wrong (wr_X11_wrong E m r m_1 m_4 m_9 m_10 m_14 m_15 m_25 m_26 m_27 m_28 m_29 m_31 m_32 m_33 m_35 m_36 m_37 m_38 m_39 m_40 m_42 ef (by first | assumption | omega | decide | exact hCF _ (by omega)) (by first | assumption | omega | decide | exact hCF _ (by omega)) (by first | assumption | omega | decide | exact hCF _ (by omega))) rfl [0] [1] rfl rfl (by decide) (by decide) (by decide) 0 rfl (fun q h => by cases h; rfl) rfl ⟨by decide, by decide⟩ rfl rfl (by decide) (by decide) rfl (Nat.le_of_ble_eq_true rfl) dX11_next_13 (fun v w hq => ?_)
    obtain ⟨zm_42_3082, hf_3083, hf_3084, hz_3085, rfl, rfl⟩ := hq
    replace e_ := fun β k_ => (e_ β k_).trans (hz_3085 β _)
    show G E X 3 [((r 43), .inl (E.2.2.1 1, 6000, .inl (nb r43_f))), (m, .inr (11, mkF r m_1 m_4 m_9 m_10 m_14 m_15 m_25 m_26 m_27 m_28 m_29 m_31 m_32 m_33 m_35 m_36 m_37 m_38 m_39 m_40 zm_42_3082))] 0 0 [(0, .ref m), (1, .int (nI ef))] 16 [.int 0]
    refine g_istore_n (lv' := [(2, .int 0), (0, .ref m), (1, .int (nI ef))]) B dX11_next_16 rfl (by decide) rfl ?_
    refine g_iconst (v := 0) B dX11_next_17 (by decide) ?_
    refine g_sub (ws' := [(m, .inr (11, mkF r m_1 m_4 m_9 m_10 m_14 m_15 m_25 m_26 m_27 m_28 m_29 m_31 m_32 m_33 m_35 m_36 m_37 m_38 m_39 m_40 zm_42_3082)), ((r 43), .inl (E.2.2.1 1, 6000, .inl (nb r43_f)))]) [1, 0] (by decide) rfl ?_
    exact g_iret B hr dX11_next_18 (by decide) (by decide) ⟨m_32, zm_42_3082, 0, (by first | assumption | omega | decide | exact hCF _ (by omega)), (by first | assumption | omega | decide | exact hCF _ (by omega)), (by first | assumption | omega | decide | exact hCF _ (by omega)), (by first | assumption | omega | decide | exact hCF _ (by omega)), (by first | assumption | omega | decide | exact hCF _ (by omega)), (by first | assumption | omega | decide | exact hCF _ (by omega)), e_, rfl, rfl⟩
abbrev MX11_next_ : g_M := (yX11_next_, cX11_next_, 6, (some .long))
theorem dX11_next__0 : decode cX11_next_ 0 = .ok (.lconst 0, 1) := by decide +kernel
theorem dX11_next__1 : decode cX11_next_ 1 = .ok (.lstore_n 3, 1) := by decide +kernel
theorem dX11_next__2 : decode cX11_next_ 2 = .ok (.iconst 0, 1) := by decide +kernel
theorem dX11_next__3 : decode cX11_next_ 3 = .ok (.istore 5, 2) := by decide +kernel
theorem dX11_next__5 : decode cX11_next_ 5 = .ok (.iload 5, 2) := by decide +kernel
theorem dX11_next__7 : decode cX11_next_ 7 = .ok (.iload_n 1, 1) := by decide +kernel
theorem dX11_next__8 : decode cX11_next_ 8 = .ok (.if_icmp .ge 29, 3) := by decide +kernel
theorem dX11_next__11 : decode cX11_next_ 11 = .ok (.aload_n 0, 1) := by decide +kernel
theorem dX11_next__12 : decode cX11_next_ 12 = .ok (.getfield 304, 3) := by decide +kernel
theorem dX11_next__15 : decode cX11_next_ 15 = .ok (.ifCond .ne 22, 3) := by decide +kernel
theorem dX11_next__18 : decode cX11_next_ 18 = .ok (.ldc2_w 132, 3) := by decide +kernel
theorem dX11_next__21 : decode cX11_next_ 21 = .ok (.lload_n 3, 1) := by decide +kernel
theorem dX11_next__22 : decode cX11_next_ 22 = .ok (.lmul, 1) := by decide +kernel
theorem dX11_next__23 : decode cX11_next_ 23 = .ok (.aload_n 0, 1) := by decide +kernel
theorem dX11_next__24 : decode cX11_next_ 24 = .ok (.iload_n 2, 1) := by decide +kernel
theorem dX11_next__25 : decode cX11_next_ 25 = .ok (.invokevirtual 316, 3) := by decide +kernel
theorem w_ml_X11_316 : Cond.methodLink RX11 316 yX11_next ∈ g_tbl := g_tbl_in 1217 (by decide +kernel) (by decide +kernel)
theorem w_cd_X11_next : g_cw MX11_next ∈ g_tbl := g_tbl_in 1220 (by decide +kernel) (by decide +kernel)
theorem cl_X11_316 : CL RX11 316 1 MX11_next := ⟨w_ml_X11_316, w_cd_X11_next, w_ini_X11, by decide +kernel, by decide +kernel, by decide +kernel⟩
theorem w_im_X11_next : Cond.instanceMethod yX11_next ∈ g_tbl := g_tbl_in 1219 (by decide +kernel) (by decide +kernel)
theorem w_se_X11_next : Cond.selects RX11 yX11_next yX11_next ∈ g_tbl := g_tbl_in 60 (by decide +kernel) (by decide +kernel)
theorem dX11_next__28 : decode cX11_next_ 28 = .ok (.i2l, 1) := by decide +kernel
theorem dX11_next__29 : decode cX11_next_ 29 = .ok (.ladd, 1) := by decide +kernel
theorem dX11_next__30 : decode cX11_next_ 30 = .ok (.lstore_n 3, 1) := by decide +kernel
theorem dX11_next__31 : decode cX11_next_ 31 = .ok (.iinc 5 1, 3) := by decide +kernel
theorem dX11_next__34 : decode cX11_next_ 34 = .ok (.goto (-29), 3) := by decide +kernel
set_option maxRecDepth 100000 in
def lf_wr_X11_next_w_5 (m_33 : Nat) (r43_f : Nat → Int32) (ef : Nat) (x : Int32) (β : Type) (kx_ : Nat → Nat → Int64 → Nat → β)  : Nat → Nat → Nat → Int64 → Nat → β
  | 0, pm_32, pm_42, l3, l5 => kx_ pm_32 pm_42 l3 l5
  | fuel + 1, pm_32, pm_42, l3, l5 => (if x ≤ nI l5 then (kx_ pm_32 pm_42 l3 l5) else (if pm_42 = 0 then (fn_wr_X11_next pm_32 m_33 pm_42 r43_f ef β (fun zm_32_3090 zm_42_3091 zr_3092 => (lf_wr_X11_next_w_5 m_33 r43_f ef x β kx_ fuel zm_32_3090 zm_42_3091 ((2 * l3) + lN zr_3092) (l5 + 1)))) else (kx_ pm_32 pm_42 l3 l5)))
set_option maxRecDepth 100000 in
theorem lf_wr_X11_next_w_5_s {m_33 : Nat} {r43_f : Nat → Int32} {ef : Nat} {x : Int32} {β : Type} {kx_ : Nat → Nat → Int64 → Nat → β}  {fuel : Nat} {pm_32 : Nat} {pm_42 : Nat} {l3 : Int64} {l5 : Nat} : lf_wr_X11_next_w_5 m_33 r43_f ef x β kx_  (fuel + 1) pm_32 pm_42 l3 l5 = (if x ≤ nI l5 then (kx_ pm_32 pm_42 l3 l5) else (if pm_42 = 0 then (fn_wr_X11_next pm_32 m_33 pm_42 r43_f ef β (fun zm_32_3090 zm_42_3091 zr_3092 => (lf_wr_X11_next_w_5 m_33 r43_f ef x β kx_ fuel zm_32_3090 zm_42_3091 ((2 * l3) + lN zr_3092) (l5 + 1)))) else (kx_ pm_32 pm_42 l3 l5))) := rfl
set_option maxRecDepth 100000 in
set_option maxHeartbeats 4000000 in
theorem lp_wr_X11_next_w_5 (E : g_E) (m : Nat) (r : Nat → Nat) (m_1 : Nat) (m_4 : Nat) (m_9 : Nat) (m_10 : Nat) (m_14 : Nat) (m_15 : Nat) (m_25 : Int32) (m_26 : Int32) (m_27 : Int64) (m_28 : Nat) (m_29 : Nat) (m_31 : Nat) (m_32 : Nat) (m_33 : Nat) (m_35 : Nat) (m_36 : Nat) (m_37 : Int32) (m_38 : Nat) (m_39 : Int32) (m_40 : Int32) (m_42 : Nat) (r43_f : Nat → Int32) (ef : Nat) (x : Int32) (h0 : 1 ≤ ef) (h1 : ef ≤ 12) (h2 : m_32 ≤ m_33) (hb0 : m_33 ≤ 48000) (hb1 : m_32 ≤ 48000) (hb2 : m_42 ≤ 12)   {X : g_X} {rr : (β : Type) → (Nat → Nat → Int64 → β) → β} (kx_ : (β : Type) → (Nat → Nat → Int64 → β) → Nat → Nat → Int64 → Nat → β) (B : Bd E X cX11_next_ RX11 6 2 43 0 0) (hr : Rt E X (some .long) 0 0 (fun v_ w_ => ∃ zm_32 : Nat, ∃ zm_42 : Nat, ∃ zr : Int64, (zm_32 ≤ 48000) ∧ (zm_42 ≤ 12) ∧ (m_32 ≤ zm_32) ∧ (zm_32 ≤ m_33) ∧ (∀ (β : Type) (k_ : Nat → Nat → Int64 → β), rr β k_ = k_ zm_32 zm_42 zr) ∧ v_ = some (.long zr) ∧ w_ = [(m, .inr (11, mkF r m_1 m_4 m_9 m_10 m_14 m_15 m_25 m_26 m_27 m_28 m_29 m_31 zm_32 m_33 m_35 m_36 m_37 m_38 m_39 m_40 zm_42)), ((r 43), .inl (E.2.2.1 1, 6000, .inl (nb r43_f)))])) (K : ∀ (pm_32 : Nat) (pm_42 : Nat) (l3 : Int64) (l5 : Nat), (pm_32 ≤ 48000) → (pm_42 ≤ 12) → (l5 ≤ Int32.toNatClampNeg x) → (pm_32 ≤ m_33) → (m_32 ≤ pm_32) → (∀ (β : Type) (k_ : Nat → Nat → Int64 → β), rr β k_ = kx_ β k_ pm_32 pm_42 l3 l5) → G E X 6 [(m, .inr (11, mkF r m_1 m_4 m_9 m_10 m_14 m_15 m_25 m_26 m_27 m_28 m_29 m_31 pm_32 m_33 m_35 m_36 m_37 m_38 m_39 m_40 pm_42)), ((r 43), .inl (E.2.2.1 1, 6000, .inl (nb r43_f)))] 0 0 [(0, .ref m), (1, .int x), (2, .int (nI ef)), (3, .long l3), (5, .int (nI l5))] 37 []) : ∀ (fuel : Nat) (pm_32 : Nat) (pm_42 : Nat) (l3 : Int64) (l5 : Nat), (pm_32 ≤ 48000) → (pm_42 ≤ 12) → (l5 ≤ Int32.toNatClampNeg x) → (pm_32 ≤ m_33) → (m_32 ≤ pm_32) → (Int32.toNatClampNeg x - l5) < fuel → (∀ (β : Type) (k_ : Nat → Nat → Int64 → β), rr β k_ = lf_wr_X11_next_w_5 m_33 r43_f ef x β (kx_ β k_) fuel pm_32 pm_42 l3 l5) → G E X 6 [(m, .inr (11, mkF r m_1 m_4 m_9 m_10 m_14 m_15 m_25 m_26 m_27 m_28 m_29 m_31 pm_32 m_33 m_35 m_36 m_37 m_38 m_39 m_40 pm_42)), ((r 43), .inl (E.2.2.1 1, 6000, .inl (nb r43_f)))] 0 0 [(0, .ref m), (1, .int x), (2, .int (nI ef)), (3, .long l3), (5, .int (nI l5))] 5 [] := by
  intro fuel
  induction fuel with
  | zero => intro pm_32 pm_42 l3 l5 _ _ _ _ _ h _; exact absurd h (Nat.not_lt_zero _)
  | succ fuel ih =>
    intro pm_32 pm_42 l3 l5 hv0 hv1 hv2 hv3 hv4 hm e_
    replace e_ := fun β k_ => (e_ β k_).trans lf_wr_X11_next_w_5_s
    have hcx := clamp_lt x
    refine g_iload B dX11_next__5 4 rfl ?_
    refine g_iload_n B dX11_next__7 rfl 1 rfl ?_
    refine g_icmp_ge (tgt := 37) B dX11_next__8 (by decide) (fun c8_3086 => ?_) (fun c8_3086 => ?_)
    · replace e_ := fun β k_ => (e_ β k_).trans (if_pos c8_3086)
      exact K pm_32 pm_42 l3 l5 (by first | assumption | omega | decide | exact hCF _ (by omega)) (by first | assumption | omega | decide | exact hCF _ (by omega)) (by first | assumption | omega | decide | exact hCF _ (by omega)) (by first | assumption | omega | decide | exact hCF _ (by omega)) (by first | assumption | omega | decide | exact hCF _ (by omega)) e_
    · replace e_ := fun β k_ => (e_ β k_).trans (if_neg c8_3086)
      have hcl := lt_clamp (a := l5) (by omega) (o_2 c8_3086)
      refine g_aload_n B dX11_next__11 rfl 0 rfl ?_
      refine g_get B 0 42 fl_X11_304 rfl mf_42 dX11_next__12 ?_
      refine g_if_ne (tgt := 37) B dX11_next__15 (by decide) (fun c15_3087 => ?_) (fun c15_3087 => ?_)
      · have hn_3088 : ¬ pm_42 = 0 := fun q => c15_3087 ((nI_eq (a := pm_42) (b := 0) (by omega) (by omega)).mpr q)
        replace e_ := fun β k_ => (e_ β k_).trans (if_neg hn_3088)
        exact K pm_32 pm_42 l3 l5 (by first | assumption | omega | decide | exact hCF _ (by omega)) (by first | assumption | omega | decide | exact hCF _ (by omega)) (by first | assumption | omega | decide | exact hCF _ (by omega)) (by first | assumption | omega | decide | exact hCF _ (by omega)) (by first | assumption | omega | decide | exact hCF _ (by omega)) e_
      · have hn_3089 : pm_42 = 0 := (nI_eq (a := pm_42) (b := 0) (by omega) (by omega)).mp c15_3087
        replace e_ := fun β k_ => (e_ β k_).trans (if_pos hn_3089)
        refine g_ldc2 (v := 2) B w_k_X11_132 dX11_next__18 ?_
        refine g_lload_n B dX11_next__21 rfl 3 rfl ?_
        refine g_lmul B dX11_next__22 ?_
        refine g_aload_n B dX11_next__23 rfl 0 rfl ?_
        refine g_iload_n B dX11_next__24 rfl 2 rfl ?_
        refine g_callV (st := [.long (2 * l3)]) (As := [.int (nI ef)]) (wr := []) (nc' := 0) (ns' := 0) B cl_X11_316 w_im_X11_next w_se_X11_next (wr_X11_next E m r m_1 m_4 m_9 m_10 m_14 m_15 m_25 m_26 m_27 m_28 m_29 m_31 pm_32 m_33 m_35 m_36 m_37 m_38 m_39 m_40 pm_42 r43_f ef (by first | assumption | omega | decide | exact hCF _ (by omega)) (by first | assumption | omega | decide | exact hCF _ (by omega)) (by first | assumption | omega | decide | exact hCF _ (by omega)) (by first | assumption | omega | decide | exact hCF _ (by omega)) (by first | assumption | omega | decide | exact hCF _ (by omega)) (by first | assumption | omega | decide | exact hCF _ (by omega))) rfl [0, 1] [] rfl rfl (by decide) (by decide) (by decide) 0 rfl (fun q h => by cases h; rfl) rfl ⟨by decide, by decide⟩ rfl rfl (by decide) (by decide) rfl (Nat.le_of_ble_eq_true rfl) dX11_next__25 (fun v w hq => ?_)
        obtain ⟨zm_32_3090, zm_42_3091, zr_3092, hf_3093, hf_3094, hf_3095, hf_3096, hf_3097, hf_3098, hz_3099, rfl, rfl⟩ := hq
        replace e_ := fun β k_ => (e_ β k_).trans (hz_3099 β _)
        show G E X 6 [(m, .inr (11, mkF r m_1 m_4 m_9 m_10 m_14 m_15 m_25 m_26 m_27 m_28 m_29 m_31 zm_32_3090 m_33 m_35 m_36 m_37 m_38 m_39 m_40 zm_42_3091)), ((r 43), .inl (E.2.2.1 1, 6000, .inl (nb r43_f)))] 0 0 [(0, .ref m), (1, .int x), (2, .int (nI ef)), (3, .long l3), (5, .int (nI l5))] 28 [.int (nI zr_3092), .long (2 * l3)]
        refine g_i2l B dX11_next__28 ?_
        refine g_rl (x' := lN zr_3092) (nI_l (n := zr_3092) (by omega)) ?_
        refine g_ladd B dX11_next__29 ?_
        refine g_lstore_n (lv' := [(3, .long ((2 * l3) + lN zr_3092)), (0, .ref m), (1, .int x), (2, .int (nI ef)), (5, .int (nI l5))]) B dX11_next__30 rfl (by decide) rfl ?_
        refine g_iinc (v := nI (l5 + 1)) (lv' := [(5, .int (nI (l5 + 1))), (3, .long ((2 * l3) + lN zr_3092)), (0, .ref m), (1, .int x), (2, .int (nI ef))]) B dX11_next__31 4 rfl (nI_add l5 1) (by decide) rfl ?_
        refine g_goto (tgt := 5) B dX11_next__34 (by decide) ?_
        refine g_lvsub (lv' := [(0, .ref m), (1, .int x), (2, .int (nI ef)), (3, .long ((2 * l3) + lN zr_3092)), (5, .int (nI (l5 + 1)))]) [2, 3, 4, 1, 0] rfl ?_
        exact ih zm_32_3090 zm_42_3091 ((2 * l3) + lN zr_3092) (l5 + 1) (by first | assumption | omega | decide | exact hCF _ (by omega)) (by first | assumption | omega | decide | exact hCF _ (by omega)) (by first | assumption | omega | decide | exact hCF _ (by omega)) (by first | assumption | omega | decide | exact hCF _ (by omega)) (by first | assumption | omega | decide | exact hCF _ (by omega)) (by omega) e_
theorem dX11_next__37 : decode cX11_next_ 37 = .ok (.lload_n 3, 1) := by decide +kernel
theorem dX11_next__38 : decode cX11_next_ 38 = .ok (.lreturn, 1) := by decide +kernel
set_option maxRecDepth 100000 in
def fn_wr_X11_next_w (m_32 : Nat) (m_33 : Nat) (m_42 : Nat) (r43_f : Nat → Int32) (ef : Nat) (x : Int32) (β : Type) (k_ : Nat → Nat → Int64 → β) : β := (lf_wr_X11_next_w_5 m_33 r43_f ef x β (fun y_3100pm_32 y_3100pm_42 y_3100l3 y_3100l5 => (k_ y_3100pm_32 y_3100pm_42 y_3100l3)) ((Int32.toNatClampNeg x - 0) + 1) m_32 m_42 0 0)
set_option maxRecDepth 100000 in
theorem fn_wr_X11_next_w_s {m_32 : Nat} {m_33 : Nat} {m_42 : Nat} {r43_f : Nat → Int32} {ef : Nat} {x : Int32} {β : Type} {k_ : Nat → Nat → Int64 → β} : fn_wr_X11_next_w m_32 m_33 m_42 r43_f ef x β k_ = (lf_wr_X11_next_w_5 m_33 r43_f ef x β (fun y_3100pm_32 y_3100pm_42 y_3100l3 y_3100l5 => (k_ y_3100pm_32 y_3100pm_42 y_3100l3)) ((Int32.toNatClampNeg x - 0) + 1) m_32 m_42 0 0) := rfl
set_option maxRecDepth 100000 in
set_option maxHeartbeats 4000000 in
theorem wr_X11_next_w (E : g_E) (m : Nat) (r : Nat → Nat) (m_1 : Nat) (m_4 : Nat) (m_9 : Nat) (m_10 : Nat) (m_14 : Nat) (m_15 : Nat) (m_25 : Int32) (m_26 : Int32) (m_27 : Int64) (m_28 : Nat) (m_29 : Nat) (m_31 : Nat) (m_32 : Nat) (m_33 : Nat) (m_35 : Nat) (m_36 : Nat) (m_37 : Int32) (m_38 : Nat) (m_39 : Int32) (m_40 : Int32) (m_42 : Nat) (r43_f : Nat → Int32) (ef : Nat) (x : Int32) (h0 : 1 ≤ ef) (h1 : ef ≤ 12) (h2 : m_32 ≤ m_33) (hb0 : m_33 ≤ 48000) (hb1 : m_32 ≤ 48000) (hb2 : m_42 ≤ 12) : Ev E MX11_next_ 2 43 0 0 [.ref m, .int x, .int (nI ef)] [(m, .inr (11, mkF r m_1 m_4 m_9 m_10 m_14 m_15 m_25 m_26 m_27 m_28 m_29 m_31 m_32 m_33 m_35 m_36 m_37 m_38 m_39 m_40 m_42)), ((r 43), .inl (E.2.2.1 1, 6000, .inl (nb r43_f)))] (fun v_ w_ => ∃ zm_32 : Nat, ∃ zm_42 : Nat, ∃ zr : Int64, (zm_32 ≤ 48000) ∧ (zm_42 ≤ 12) ∧ (m_32 ≤ zm_32) ∧ (zm_32 ≤ m_33) ∧ (∀ (β : Type) (k_ : Nat → Nat → Int64 → β), fn_wr_X11_next_w m_32 m_33 m_42 r43_f ef x β k_ = k_ zm_32 zm_42 zr) ∧ v_ = some (.long zr) ∧ w_ = [(m, .inr (11, mkF r m_1 m_4 m_9 m_10 m_14 m_15 m_25 m_26 m_27 m_28 m_29 m_31 zm_32 m_33 m_35 m_36 m_37 m_38 m_39 m_40 zm_42)), ((r 43), .inl (E.2.2.1 1, 6000, .inl (nb r43_f)))]) := by
  refine Ev.intro (by decide) (Nat.le_of_ble_eq_true rfl) ?_
  intro X B hr hI
  have B : Bd E X cX11_next_ RX11 6 2 43 0 0 := B
  have hr : Rt E X (some .long) 0 0 (fun v_ w_ => ∃ zm_32 : Nat, ∃ zm_42 : Nat, ∃ zr : Int64, (zm_32 ≤ 48000) ∧ (zm_42 ≤ 12) ∧ (m_32 ≤ zm_32) ∧ (zm_32 ≤ m_33) ∧ (∀ (β : Type) (k_ : Nat → Nat → Int64 → β), fn_wr_X11_next_w m_32 m_33 m_42 r43_f ef x β k_ = k_ zm_32 zm_42 zr) ∧ v_ = some (.long zr) ∧ w_ = [(m, .inr (11, mkF r m_1 m_4 m_9 m_10 m_14 m_15 m_25 m_26 m_27 m_28 m_29 m_31 zm_32 m_33 m_35 m_36 m_37 m_38 m_39 m_40 zm_42)), ((r 43), .inl (E.2.2.1 1, 6000, .inl (nb r43_f)))]) := hr
  have e_ := fun (β : Type) (k_ : Nat → Nat → Int64 → β) => fn_wr_X11_next_w_s (β := β) (k_ := k_) (m_32 := m_32) (m_33 := m_33) (m_42 := m_42) (r43_f := r43_f) (ef := ef) (x := x)
  show G E X 6 [(m, .inr (11, mkF r m_1 m_4 m_9 m_10 m_14 m_15 m_25 m_26 m_27 m_28 m_29 m_31 m_32 m_33 m_35 m_36 m_37 m_38 m_39 m_40 m_42)), ((r 43), .inl (E.2.2.1 1, 6000, .inl (nb r43_f)))] 0 0 [(0, .ref m), (1, .int x), (2, .int (nI ef))] 0 []
  refine g_lconst (v := 0) B dX11_next__0 (by decide) ?_
  refine g_lstore_n (lv' := [(3, .long 0), (0, .ref m), (1, .int x), (2, .int (nI ef))]) B dX11_next__1 rfl (by decide) rfl ?_
  refine g_iconst (v := 0) B dX11_next__2 (by decide) ?_
  refine g_istore (lv' := [(5, .int 0), (3, .long 0), (0, .ref m), (1, .int x), (2, .int (nI ef))]) B dX11_next__3 (by decide) rfl ?_
  refine g_lvsub (lv' := [(0, .ref m), (1, .int x), (2, .int (nI ef)), (3, .long 0), (5, .int 0)]) [2, 3, 4, 1, 0] rfl ?_
  refine lp_wr_X11_next_w_5 E m r m_1 m_4 m_9 m_10 m_14 m_15 m_25 m_26 m_27 m_28 m_29 m_31 m_32 m_33 m_35 m_36 m_37 m_38 m_39 m_40 m_42 r43_f ef x h0 h1 h2 hb0 hb1 hb2   _ B hr (fun y_3100pm_32 y_3100pm_42 y_3100l3 y_3100l5 y_3100k0 y_3100k1 y_3100k2 y_3100k3 y_3100k4 e_ => ?_) _ m_32 m_42 0 0 (by first | assumption | omega | decide | exact hCF _ (by omega)) (by first | assumption | omega | decide | exact hCF _ (by omega)) (by first | assumption | omega | decide | exact hCF _ (by omega)) (by first | assumption | omega | decide | exact hCF _ (by omega)) (by first | assumption | omega | decide | exact hCF _ (by omega)) (Nat.lt_succ_self _) e_
  show G E X 6 [(m, .inr (11, mkF r m_1 m_4 m_9 m_10 m_14 m_15 m_25 m_26 m_27 m_28 m_29 m_31 y_3100pm_32 m_33 m_35 m_36 m_37 m_38 m_39 m_40 y_3100pm_42)), ((r 43), .inl (E.2.2.1 1, 6000, .inl (nb r43_f)))] 0 0 [(0, .ref m), (1, .int x), (2, .int (nI ef)), (3, .long y_3100l3), (5, .int (nI y_3100l5))] 37 []
  refine g_lload_n B dX11_next__37 rfl 3 rfl ?_
  exact g_lret B hr dX11_next__38 (by decide) (by decide) ⟨y_3100pm_32, y_3100pm_42, y_3100l3, (by first | assumption | omega | decide | exact hCF _ (by omega)), (by first | assumption | omega | decide | exact hCF _ (by omega)), (by first | assumption | omega | decide | exact hCF _ (by omega)), (by first | assumption | omega | decide | exact hCF _ (by omega)), e_, rfl, rfl⟩
set_option maxRecDepth 100000 in
def lf_wr_X11_next_n_5 (m_33 : Nat) (r43_f : Nat → Int32) (n : Nat) (ef : Nat) (β : Type) (kx_ : Nat → Nat → Nat → Nat → β)  : Nat → Nat → Nat → Nat → Nat → β
  | 0, pm_32, pm_42, l3, l5 => kx_ pm_32 pm_42 l3 l5
  | fuel + 1, pm_32, pm_42, l3, l5 => (if n ≤ l5 then (kx_ pm_32 pm_42 l3 l5) else (if pm_42 = 0 then (fn_wr_X11_next pm_32 m_33 pm_42 r43_f ef β (fun zm_32_3107 zm_42_3108 zr_3109 => (lf_wr_X11_next_n_5 m_33 r43_f n ef β kx_ fuel zm_32_3107 zm_42_3108 ((2 * l3) + zr_3109) (l5 + 1)))) else (kx_ pm_32 pm_42 l3 l5)))
set_option maxRecDepth 100000 in
theorem lf_wr_X11_next_n_5_s {m_33 : Nat} {r43_f : Nat → Int32} {n : Nat} {ef : Nat} {β : Type} {kx_ : Nat → Nat → Nat → Nat → β}  {fuel : Nat} {pm_32 : Nat} {pm_42 : Nat} {l3 : Nat} {l5 : Nat} : lf_wr_X11_next_n_5 m_33 r43_f n ef β kx_  (fuel + 1) pm_32 pm_42 l3 l5 = (if n ≤ l5 then (kx_ pm_32 pm_42 l3 l5) else (if pm_42 = 0 then (fn_wr_X11_next pm_32 m_33 pm_42 r43_f ef β (fun zm_32_3107 zm_42_3108 zr_3109 => (lf_wr_X11_next_n_5 m_33 r43_f n ef β kx_ fuel zm_32_3107 zm_42_3108 ((2 * l3) + zr_3109) (l5 + 1)))) else (kx_ pm_32 pm_42 l3 l5))) := rfl
set_option maxRecDepth 100000 in
set_option maxHeartbeats 4000000 in
theorem lp_wr_X11_next_n_5 (E : g_E) (m : Nat) (r : Nat → Nat) (m_1 : Nat) (m_4 : Nat) (m_9 : Nat) (m_10 : Nat) (m_14 : Nat) (m_15 : Nat) (m_25 : Int32) (m_26 : Int32) (m_27 : Int64) (m_28 : Nat) (m_29 : Nat) (m_31 : Nat) (m_32 : Nat) (m_33 : Nat) (m_35 : Nat) (m_36 : Nat) (m_37 : Int32) (m_38 : Nat) (m_39 : Int32) (m_40 : Int32) (m_42 : Nat) (r43_f : Nat → Int32) (n : Nat) (ef : Nat) (h0 : 1 ≤ ef) (h1 : ef ≤ 12) (h2 : m_32 ≤ m_33) (h3 : n ≤ 40) (hb0 : m_33 ≤ 48000) (hb1 : m_32 ≤ 48000) (hb2 : m_42 ≤ 12)   {X : g_X} {rr : (β : Type) → (Nat → Nat → Nat → β) → β} (kx_ : (β : Type) → (Nat → Nat → Nat → β) → Nat → Nat → Nat → Nat → β) (B : Bd E X cX11_next_ RX11 6 2 43 0 0) (hr : Rt E X (some .long) 0 0 (fun v_ w_ => ∃ zm_32 : Nat, ∃ zm_42 : Nat, ∃ zr : Nat, (zm_32 ≤ 48000) ∧ (zm_42 ≤ 12) ∧ (m_32 ≤ zm_32) ∧ (zm_32 ≤ m_33) ∧ (zr < 2 ^ n) ∧ (∀ (β : Type) (k_ : Nat → Nat → Nat → β), rr β k_ = k_ zm_32 zm_42 zr) ∧ v_ = some (.long (lN zr)) ∧ w_ = [(m, .inr (11, mkF r m_1 m_4 m_9 m_10 m_14 m_15 m_25 m_26 m_27 m_28 m_29 m_31 zm_32 m_33 m_35 m_36 m_37 m_38 m_39 m_40 zm_42)), ((r 43), .inl (E.2.2.1 1, 6000, .inl (nb r43_f)))])) (K : ∀ (pm_32 : Nat) (pm_42 : Nat) (l3 : Nat) (l5 : Nat), (pm_32 ≤ 48000) → (pm_42 ≤ 12) → (l5 ≤ n) → (l3 < 2 ^ l5) → (pm_32 ≤ m_33) → (m_32 ≤ pm_32) → (∀ (β : Type) (k_ : Nat → Nat → Nat → β), rr β k_ = kx_ β k_ pm_32 pm_42 l3 l5) → G E X 6 [(m, .inr (11, mkF r m_1 m_4 m_9 m_10 m_14 m_15 m_25 m_26 m_27 m_28 m_29 m_31 pm_32 m_33 m_35 m_36 m_37 m_38 m_39 m_40 pm_42)), ((r 43), .inl (E.2.2.1 1, 6000, .inl (nb r43_f)))] 0 0 [(0, .ref m), (1, .int (nI n)), (2, .int (nI ef)), (3, .long (lN l3)), (5, .int (nI l5))] 37 []) : ∀ (fuel : Nat) (pm_32 : Nat) (pm_42 : Nat) (l3 : Nat) (l5 : Nat), (pm_32 ≤ 48000) → (pm_42 ≤ 12) → (l5 ≤ n) → (l3 < 2 ^ l5) → (pm_32 ≤ m_33) → (m_32 ≤ pm_32) → (n - l5) < fuel → (∀ (β : Type) (k_ : Nat → Nat → Nat → β), rr β k_ = lf_wr_X11_next_n_5 m_33 r43_f n ef β (kx_ β k_) fuel pm_32 pm_42 l3 l5) → G E X 6 [(m, .inr (11, mkF r m_1 m_4 m_9 m_10 m_14 m_15 m_25 m_26 m_27 m_28 m_29 m_31 pm_32 m_33 m_35 m_36 m_37 m_38 m_39 m_40 pm_42)), ((r 43), .inl (E.2.2.1 1, 6000, .inl (nb r43_f)))] 0 0 [(0, .ref m), (1, .int (nI n)), (2, .int (nI ef)), (3, .long (lN l3)), (5, .int (nI l5))] 5 [] := by
  intro fuel
  induction fuel with
  | zero => intro pm_32 pm_42 l3 l5 _ _ _ _ _ _ h _; exact absurd h (Nat.not_lt_zero _)
  | succ fuel ih =>
    intro pm_32 pm_42 l3 l5 hv0 hv1 hv2 hv3 hv4 hv5 hm e_
    replace e_ := fun β k_ => (e_ β k_).trans lf_wr_X11_next_n_5_s
    refine g_iload B dX11_next__5 4 rfl ?_
    refine g_iload_n B dX11_next__7 rfl 1 rfl ?_
    refine g_icmp_ge (tgt := 37) B dX11_next__8 (by decide) (fun c8_3101 => ?_) (fun c8_3101 => ?_)
    · have hn_3102 : n ≤ l5 := (nI_leI (a := n) (b := l5) (by omega) (by omega)).mp c8_3101
      replace e_ := fun β k_ => (e_ β k_).trans (if_pos hn_3102)
      exact K pm_32 pm_42 l3 l5 (by first | assumption | omega | decide | exact hCF _ (by omega)) (by first | assumption | omega | decide | exact hCF _ (by omega)) (by first | assumption | omega | decide | exact hCF _ (by omega)) (by first | assumption | omega | decide | exact hCF _ (by omega)) (by first | assumption | omega | decide | exact hCF _ (by omega)) (by first | assumption | omega | decide | exact hCF _ (by omega)) e_
    · have hn_3103 : l5 < n := Nat.not_le.mp (fun q => c8_3101 ((nI_leI (a := n) (b := l5) (by omega) (by omega)).mpr q))
      replace e_ := fun β k_ => (e_ β k_).trans (if_neg (Nat.not_le.mpr hn_3103))
      refine g_aload_n B dX11_next__11 rfl 0 rfl ?_
      refine g_get B 0 42 fl_X11_304 rfl mf_42 dX11_next__12 ?_
      refine g_if_ne (tgt := 37) B dX11_next__15 (by decide) (fun c15_3104 => ?_) (fun c15_3104 => ?_)
      · have hn_3105 : ¬ pm_42 = 0 := fun q => c15_3104 ((nI_eq (a := pm_42) (b := 0) (by omega) (by omega)).mpr q)
        replace e_ := fun β k_ => (e_ β k_).trans (if_neg hn_3105)
        exact K pm_32 pm_42 l3 l5 (by first | assumption | omega | decide | exact hCF _ (by omega)) (by first | assumption | omega | decide | exact hCF _ (by omega)) (by first | assumption | omega | decide | exact hCF _ (by omega)) (by first | assumption | omega | decide | exact hCF _ (by omega)) (by first | assumption | omega | decide | exact hCF _ (by omega)) (by first | assumption | omega | decide | exact hCF _ (by omega)) e_
      · have hn_3106 : pm_42 = 0 := (nI_eq (a := pm_42) (b := 0) (by omega) (by omega)).mp c15_3104
        replace e_ := fun β k_ => (e_ β k_).trans (if_pos hn_3106)
        refine g_ldc2 (v := 2) B w_k_X11_132 dX11_next__18 ?_
        refine g_lload_n B dX11_next__21 rfl 3 rfl ?_
        refine g_lmul B dX11_next__22 ?_
        refine g_rl (x' := lN (2 * l3)) (lN_mul 2 l3) ?_
        refine g_aload_n B dX11_next__23 rfl 0 rfl ?_
        refine g_iload_n B dX11_next__24 rfl 2 rfl ?_
        refine g_callV (st := [.long (lN (2 * l3))]) (As := [.int (nI ef)]) (wr := []) (nc' := 0) (ns' := 0) B cl_X11_316 w_im_X11_next w_se_X11_next (wr_X11_next E m r m_1 m_4 m_9 m_10 m_14 m_15 m_25 m_26 m_27 m_28 m_29 m_31 pm_32 m_33 m_35 m_36 m_37 m_38 m_39 m_40 pm_42 r43_f ef (by first | assumption | omega | decide | exact hCF _ (by omega)) (by first | assumption | omega | decide | exact hCF _ (by omega)) (by first | assumption | omega | decide | exact hCF _ (by omega)) (by first | assumption | omega | decide | exact hCF _ (by omega)) (by first | assumption | omega | decide | exact hCF _ (by omega)) (by first | assumption | omega | decide | exact hCF _ (by omega))) rfl [0, 1] [] rfl rfl (by decide) (by decide) (by decide) 0 rfl (fun q h => by cases h; rfl) rfl ⟨by decide, by decide⟩ rfl rfl (by decide) (by decide) rfl (Nat.le_of_ble_eq_true rfl) dX11_next__25 (fun v w hq => ?_)
        obtain ⟨zm_32_3107, zm_42_3108, zr_3109, hf_3110, hf_3111, hf_3112, hf_3113, hf_3114, hf_3115, hz_3116, rfl, rfl⟩ := hq
        replace e_ := fun β k_ => (e_ β k_).trans (hz_3116 β _)
        show G E X 6 [(m, .inr (11, mkF r m_1 m_4 m_9 m_10 m_14 m_15 m_25 m_26 m_27 m_28 m_29 m_31 zm_32_3107 m_33 m_35 m_36 m_37 m_38 m_39 m_40 zm_42_3108)), ((r 43), .inl (E.2.2.1 1, 6000, .inl (nb r43_f)))] 0 0 [(0, .ref m), (1, .int (nI n)), (2, .int (nI ef)), (3, .long (lN l3)), (5, .int (nI l5))] 28 [.int (nI zr_3109), .long (lN (2 * l3))]
        refine g_i2l B dX11_next__28 ?_
        refine g_rl (x' := lN zr_3109) (nI_l (n := zr_3109) (by omega)) ?_
        refine g_ladd B dX11_next__29 ?_
        refine g_rl (x' := lN ((2 * l3) + zr_3109)) (lN_add (2 * l3) zr_3109) ?_
        refine g_lstore_n (lv' := [(3, .long (lN ((2 * l3) + zr_3109))), (0, .ref m), (1, .int (nI n)), (2, .int (nI ef)), (5, .int (nI l5))]) B dX11_next__30 rfl (by decide) rfl ?_
        refine g_iinc (v := nI (l5 + 1)) (lv' := [(5, .int (nI (l5 + 1))), (3, .long (lN ((2 * l3) + zr_3109))), (0, .ref m), (1, .int (nI n)), (2, .int (nI ef))]) B dX11_next__31 4 rfl (nI_add l5 1) (by decide) rfl ?_
        refine g_goto (tgt := 5) B dX11_next__34 (by decide) ?_
        refine g_lvsub (lv' := [(0, .ref m), (1, .int (nI n)), (2, .int (nI ef)), (3, .long (lN ((2 * l3) + zr_3109))), (5, .int (nI (l5 + 1)))]) [2, 3, 4, 1, 0] rfl ?_
        exact ih zm_32_3107 zm_42_3108 ((2 * l3) + zr_3109) (l5 + 1) (by first | assumption | omega | decide | exact hCF _ (by omega)) (by first | assumption | omega | decide | exact hCF _ (by omega)) (by first | assumption | omega | decide | exact hCF _ (by omega)) (pow_step hv3 (by omega)) (by first | assumption | omega | decide | exact hCF _ (by omega)) (by first | assumption | omega | decide | exact hCF _ (by omega)) (by omega) e_
set_option maxRecDepth 100000 in
def fn_wr_X11_next_n (m_32 : Nat) (m_33 : Nat) (m_42 : Nat) (r43_f : Nat → Int32) (n : Nat) (ef : Nat) (β : Type) (k_ : Nat → Nat → Nat → β) : β := (lf_wr_X11_next_n_5 m_33 r43_f n ef β (fun y_3117pm_32 y_3117pm_42 y_3117l3 y_3117l5 => (k_ y_3117pm_32 y_3117pm_42 y_3117l3)) ((n - 0) + 1) m_32 m_42 0 0)
set_option maxRecDepth 100000 in
theorem fn_wr_X11_next_n_s {m_32 : Nat} {m_33 : Nat} {m_42 : Nat} {r43_f : Nat → Int32} {n : Nat} {ef : Nat} {β : Type} {k_ : Nat → Nat → Nat → β} : fn_wr_X11_next_n m_32 m_33 m_42 r43_f n ef β k_ = (lf_wr_X11_next_n_5 m_33 r43_f n ef β (fun y_3117pm_32 y_3117pm_42 y_3117l3 y_3117l5 => (k_ y_3117pm_32 y_3117pm_42 y_3117l3)) ((n - 0) + 1) m_32 m_42 0 0) := rfl
set_option maxRecDepth 100000 in
set_option maxHeartbeats 4000000 in
theorem wr_X11_next_n (E : g_E) (m : Nat) (r : Nat → Nat) (m_1 : Nat) (m_4 : Nat) (m_9 : Nat) (m_10 : Nat) (m_14 : Nat) (m_15 : Nat) (m_25 : Int32) (m_26 : Int32) (m_27 : Int64) (m_28 : Nat) (m_29 : Nat) (m_31 : Nat) (m_32 : Nat) (m_33 : Nat) (m_35 : Nat) (m_36 : Nat) (m_37 : Int32) (m_38 : Nat) (m_39 : Int32) (m_40 : Int32) (m_42 : Nat) (r43_f : Nat → Int32) (n : Nat) (ef : Nat) (h0 : 1 ≤ ef) (h1 : ef ≤ 12) (h2 : m_32 ≤ m_33) (h3 : n ≤ 40) (hb0 : m_33 ≤ 48000) (hb1 : m_32 ≤ 48000) (hb2 : m_42 ≤ 12) : Ev E MX11_next_ 2 43 0 0 [.ref m, .int (nI n), .int (nI ef)] [(m, .inr (11, mkF r m_1 m_4 m_9 m_10 m_14 m_15 m_25 m_26 m_27 m_28 m_29 m_31 m_32 m_33 m_35 m_36 m_37 m_38 m_39 m_40 m_42)), ((r 43), .inl (E.2.2.1 1, 6000, .inl (nb r43_f)))] (fun v_ w_ => ∃ zm_32 : Nat, ∃ zm_42 : Nat, ∃ zr : Nat, (zm_32 ≤ 48000) ∧ (zm_42 ≤ 12) ∧ (m_32 ≤ zm_32) ∧ (zm_32 ≤ m_33) ∧ (zr < 2 ^ n) ∧ (∀ (β : Type) (k_ : Nat → Nat → Nat → β), fn_wr_X11_next_n m_32 m_33 m_42 r43_f n ef β k_ = k_ zm_32 zm_42 zr) ∧ v_ = some (.long (lN zr)) ∧ w_ = [(m, .inr (11, mkF r m_1 m_4 m_9 m_10 m_14 m_15 m_25 m_26 m_27 m_28 m_29 m_31 zm_32 m_33 m_35 m_36 m_37 m_38 m_39 m_40 zm_42)), ((r 43), .inl (E.2.2.1 1, 6000, .inl (nb r43_f)))]) := by
  refine Ev.intro (by decide) (Nat.le_of_ble_eq_true rfl) ?_
  intro X B hr hI
  have B : Bd E X cX11_next_ RX11 6 2 43 0 0 := B
  have hr : Rt E X (some .long) 0 0 (fun v_ w_ => ∃ zm_32 : Nat, ∃ zm_42 : Nat, ∃ zr : Nat, (zm_32 ≤ 48000) ∧ (zm_42 ≤ 12) ∧ (m_32 ≤ zm_32) ∧ (zm_32 ≤ m_33) ∧ (zr < 2 ^ n) ∧ (∀ (β : Type) (k_ : Nat → Nat → Nat → β), fn_wr_X11_next_n m_32 m_33 m_42 r43_f n ef β k_ = k_ zm_32 zm_42 zr) ∧ v_ = some (.long (lN zr)) ∧ w_ = [(m, .inr (11, mkF r m_1 m_4 m_9 m_10 m_14 m_15 m_25 m_26 m_27 m_28 m_29 m_31 zm_32 m_33 m_35 m_36 m_37 m_38 m_39 m_40 zm_42)), ((r 43), .inl (E.2.2.1 1, 6000, .inl (nb r43_f)))]) := hr
  have e_ := fun (β : Type) (k_ : Nat → Nat → Nat → β) => fn_wr_X11_next_n_s (β := β) (k_ := k_) (m_32 := m_32) (m_33 := m_33) (m_42 := m_42) (r43_f := r43_f) (n := n) (ef := ef)
  show G E X 6 [(m, .inr (11, mkF r m_1 m_4 m_9 m_10 m_14 m_15 m_25 m_26 m_27 m_28 m_29 m_31 m_32 m_33 m_35 m_36 m_37 m_38 m_39 m_40 m_42)), ((r 43), .inl (E.2.2.1 1, 6000, .inl (nb r43_f)))] 0 0 [(0, .ref m), (1, .int (nI n)), (2, .int (nI ef))] 0 []
  refine g_lconst (v := 0) B dX11_next__0 (by decide) ?_
  refine g_lstore_n (lv' := [(3, .long 0), (0, .ref m), (1, .int (nI n)), (2, .int (nI ef))]) B dX11_next__1 rfl (by decide) rfl ?_
  refine g_iconst (v := 0) B dX11_next__2 (by decide) ?_
  refine g_istore (lv' := [(5, .int 0), (3, .long 0), (0, .ref m), (1, .int (nI n)), (2, .int (nI ef))]) B dX11_next__3 (by decide) rfl ?_
  refine g_lvsub (lv' := [(0, .ref m), (1, .int (nI n)), (2, .int (nI ef)), (3, .long 0), (5, .int 0)]) [2, 3, 4, 1, 0] rfl ?_
  refine lp_wr_X11_next_n_5 E m r m_1 m_4 m_9 m_10 m_14 m_15 m_25 m_26 m_27 m_28 m_29 m_31 m_32 m_33 m_35 m_36 m_37 m_38 m_39 m_40 m_42 r43_f n ef h0 h1 h2 h3 hb0 hb1 hb2   _ B hr (fun y_3117pm_32 y_3117pm_42 y_3117l3 y_3117l5 y_3117k0 y_3117k1 y_3117k2 y_3117k3 y_3117k4 y_3117k5 e_ => ?_) _ m_32 m_42 0 0 (by first | assumption | omega | decide | exact hCF _ (by omega)) (by first | assumption | omega | decide | exact hCF _ (by omega)) (by first | assumption | omega | decide | exact hCF _ (by omega)) (by decide) (by first | assumption | omega | decide | exact hCF _ (by omega)) (by first | assumption | omega | decide | exact hCF _ (by omega)) (Nat.lt_succ_self _) e_
  show G E X 6 [(m, .inr (11, mkF r m_1 m_4 m_9 m_10 m_14 m_15 m_25 m_26 m_27 m_28 m_29 m_31 y_3117pm_32 m_33 m_35 m_36 m_37 m_38 m_39 m_40 y_3117pm_42)), ((r 43), .inl (E.2.2.1 1, 6000, .inl (nb r43_f)))] 0 0 [(0, .ref m), (1, .int (nI n)), (2, .int (nI ef)), (3, .long (lN y_3117l3)), (5, .int (nI y_3117l5))] 37 []
  refine g_lload_n B dX11_next__37 rfl 3 rfl ?_
  exact g_lret B hr dX11_next__38 (by decide) (by decide) ⟨y_3117pm_32, y_3117pm_42, y_3117l3, (by first | assumption | omega | decide | exact hCF _ (by omega)), (by first | assumption | omega | decide | exact hCF _ (by omega)), (by first | assumption | omega | decide | exact hCF _ (by omega)), (by first | assumption | omega | decide | exact hCF _ (by omega)), (Nat.lt_of_lt_of_le y_3117k3 (Nat.pow_le_pow_right (by decide) y_3117k2)), e_, rfl, rfl⟩
abbrev MX11_nextG : g_M := (yX11_nextG, cX11_nextG, 4, (some .long))
theorem dX11_nextG_0 : decode cX11_nextG 0 = .ok (.aload_n 0, 1) := by decide +kernel
theorem dX11_nextG_1 : decode cX11_nextG 1 = .ok (.iconst 5, 1) := by decide +kernel
theorem dX11_nextG_2 : decode cX11_nextG 2 = .ok (.iconst 4, 1) := by decide +kernel
theorem dX11_nextG_3 : decode cX11_nextG 3 = .ok (.invokevirtual 319, 3) := by decide +kernel
theorem w_ml_X11_319 : Cond.methodLink RX11 319 yX11_next_ ∈ g_tbl := g_tbl_in 1213 (by decide +kernel) (by decide +kernel)
theorem w_cd_X11_next_ : g_cw MX11_next_ ∈ g_tbl := g_tbl_in 1216 (by decide +kernel) (by decide +kernel)
theorem cl_X11_319 : CL RX11 319 2 MX11_next_ := ⟨w_ml_X11_319, w_cd_X11_next_, w_ini_X11, by decide +kernel, by decide +kernel, by decide +kernel⟩
theorem w_im_X11_next_ : Cond.instanceMethod yX11_next_ ∈ g_tbl := g_tbl_in 1215 (by decide +kernel) (by decide +kernel)
theorem w_se_X11_next_ : Cond.selects RX11 yX11_next_ yX11_next_ ∈ g_tbl := g_tbl_in 59 (by decide +kernel) (by decide +kernel)
theorem dX11_nextG_6 : decode cX11_nextG 6 = .ok (.l2i, 1) := by decide +kernel
theorem dX11_nextG_7 : decode cX11_nextG 7 = .ok (.istore_n 1, 1) := by decide +kernel
theorem dX11_nextG_8 : decode cX11_nextG 8 = .ok (.aload_n 0, 1) := by decide +kernel
theorem dX11_nextG_9 : decode cX11_nextG 9 = .ok (.iload_n 1, 1) := by decide +kernel
theorem dX11_nextG_10 : decode cX11_nextG 10 = .ok (.iconst 4, 1) := by decide +kernel
theorem dX11_nextG_11 : decode cX11_nextG 11 = .ok (.invokevirtual 319, 3) := by decide +kernel
theorem dX11_nextG_14 : decode cX11_nextG 14 = .ok (.lstore_n 2, 1) := by decide +kernel
theorem dX11_nextG_15 : decode cX11_nextG 15 = .ok (.lconst 1, 1) := by decide +kernel
theorem dX11_nextG_16 : decode cX11_nextG 16 = .ok (.iload_n 1, 1) := by decide +kernel
theorem dX11_nextG_17 : decode cX11_nextG 17 = .ok (.lshl, 1) := by decide +kernel
theorem dX11_nextG_18 : decode cX11_nextG 18 = .ok (.lload_n 2, 1) := by decide +kernel
theorem dX11_nextG_19 : decode cX11_nextG 19 = .ok (.ladd, 1) := by decide +kernel
theorem dX11_nextG_20 : decode cX11_nextG 20 = .ok (.lreturn, 1) := by decide +kernel
set_option maxRecDepth 100000 in
def fn_wr_X11_nextG (m_32 : Nat) (m_33 : Nat) (m_42 : Nat) (r43_f : Nat → Int32) (β : Type) (k_ : Nat → Nat → Nat → β) : β := (fn_wr_X11_next_n m_32 m_33 m_42 r43_f 5 4 β (fun zm_32_3118 zm_42_3119 zr_3120 => (fn_wr_X11_next_n zm_32_3118 m_33 zm_42_3119 r43_f zr_3120 4 β (fun zm_32_3127 zm_42_3128 zr_3129 => (k_ zm_32_3127 zm_42_3128 ((2 ^ zr_3120) + zr_3129))))))
set_option maxRecDepth 100000 in
theorem fn_wr_X11_nextG_s {m_32 : Nat} {m_33 : Nat} {m_42 : Nat} {r43_f : Nat → Int32} {β : Type} {k_ : Nat → Nat → Nat → β} : fn_wr_X11_nextG m_32 m_33 m_42 r43_f β k_ = (fn_wr_X11_next_n m_32 m_33 m_42 r43_f 5 4 β (fun zm_32_3118 zm_42_3119 zr_3120 => (fn_wr_X11_next_n zm_32_3118 m_33 zm_42_3119 r43_f zr_3120 4 β (fun zm_32_3127 zm_42_3128 zr_3129 => (k_ zm_32_3127 zm_42_3128 ((2 ^ zr_3120) + zr_3129)))))) := rfl
set_option maxRecDepth 100000 in
set_option maxHeartbeats 4000000 in
theorem wr_X11_nextG (E : g_E) (m : Nat) (r : Nat → Nat) (m_1 : Nat) (m_4 : Nat) (m_9 : Nat) (m_10 : Nat) (m_14 : Nat) (m_15 : Nat) (m_25 : Int32) (m_26 : Int32) (m_27 : Int64) (m_28 : Nat) (m_29 : Nat) (m_31 : Nat) (m_32 : Nat) (m_33 : Nat) (m_35 : Nat) (m_36 : Nat) (m_37 : Int32) (m_38 : Nat) (m_39 : Int32) (m_40 : Int32) (m_42 : Nat) (r43_f : Nat → Int32) (h0 : m_32 ≤ m_33) (hb0 : m_33 ≤ 48000) (hb1 : m_32 ≤ 48000) (hb2 : m_42 ≤ 12) : Ev E MX11_nextG 3 68 0 0 [.ref m] [(m, .inr (11, mkF r m_1 m_4 m_9 m_10 m_14 m_15 m_25 m_26 m_27 m_28 m_29 m_31 m_32 m_33 m_35 m_36 m_37 m_38 m_39 m_40 m_42)), ((r 43), .inl (E.2.2.1 1, 6000, .inl (nb r43_f)))] (fun v_ w_ => ∃ zm_32 : Nat, ∃ zm_42 : Nat, ∃ zr : Nat, (zm_32 ≤ 48000) ∧ (zm_42 ≤ 12) ∧ (m_32 ≤ zm_32) ∧ (zm_32 ≤ m_33) ∧ (1 ≤ zr) ∧ (zr ≤ 4294967296) ∧ (∀ (β : Type) (k_ : Nat → Nat → Nat → β), fn_wr_X11_nextG m_32 m_33 m_42 r43_f β k_ = k_ zm_32 zm_42 zr) ∧ v_ = some (.long (lN zr)) ∧ w_ = [(m, .inr (11, mkF r m_1 m_4 m_9 m_10 m_14 m_15 m_25 m_26 m_27 m_28 m_29 m_31 zm_32 m_33 m_35 m_36 m_37 m_38 m_39 m_40 zm_42)), ((r 43), .inl (E.2.2.1 1, 6000, .inl (nb r43_f)))]) := by
  refine Ev.intro (by decide) (Nat.le_of_ble_eq_true rfl) ?_
  intro X B hr hI
  have B : Bd E X cX11_nextG RX11 4 3 68 0 0 := B
  have hr : Rt E X (some .long) 0 0 (fun v_ w_ => ∃ zm_32 : Nat, ∃ zm_42 : Nat, ∃ zr : Nat, (zm_32 ≤ 48000) ∧ (zm_42 ≤ 12) ∧ (m_32 ≤ zm_32) ∧ (zm_32 ≤ m_33) ∧ (1 ≤ zr) ∧ (zr ≤ 4294967296) ∧ (∀ (β : Type) (k_ : Nat → Nat → Nat → β), fn_wr_X11_nextG m_32 m_33 m_42 r43_f β k_ = k_ zm_32 zm_42 zr) ∧ v_ = some (.long (lN zr)) ∧ w_ = [(m, .inr (11, mkF r m_1 m_4 m_9 m_10 m_14 m_15 m_25 m_26 m_27 m_28 m_29 m_31 zm_32 m_33 m_35 m_36 m_37 m_38 m_39 m_40 zm_42)), ((r 43), .inl (E.2.2.1 1, 6000, .inl (nb r43_f)))]) := hr
  have e_ := fun (β : Type) (k_ : Nat → Nat → Nat → β) => fn_wr_X11_nextG_s (β := β) (k_ := k_) (m_32 := m_32) (m_33 := m_33) (m_42 := m_42) (r43_f := r43_f)
  show G E X 4 [(m, .inr (11, mkF r m_1 m_4 m_9 m_10 m_14 m_15 m_25 m_26 m_27 m_28 m_29 m_31 m_32 m_33 m_35 m_36 m_37 m_38 m_39 m_40 m_42)), ((r 43), .inl (E.2.2.1 1, 6000, .inl (nb r43_f)))] 0 0 [(0, .ref m)] 0 []
  refine g_aload_n B dX11_nextG_0 rfl 0 rfl ?_
  refine g_iconst (v := 5) B dX11_nextG_1 (by decide) ?_
  refine g_iconst (v := 4) B dX11_nextG_2 (by decide) ?_
  refine g_callV (st := []) (As := [.int 5, .int 4]) (wr := []) (nc' := 0) (ns' := 0) B cl_X11_319 w_im_X11_next_ w_se_X11_next_ (wr_X11_next_n E m r m_1 m_4 m_9 m_10 m_14 m_15 m_25 m_26 m_27 m_28 m_29 m_31 m_32 m_33 m_35 m_36 m_37 m_38 m_39 m_40 m_42 r43_f 5 4 (by first | assumption | omega | decide | exact hCF _ (by omega)) (by first | assumption | omega | decide | exact hCF _ (by omega)) (by first | assumption | omega | decide | exact hCF _ (by omega)) (by first | assumption | omega | decide | exact hCF _ (by omega)) (by first | assumption | omega | decide | exact hCF _ (by omega)) (by first | assumption | omega | decide | exact hCF _ (by omega)) (by first | assumption | omega | decide | exact hCF _ (by omega))) rfl [0, 1] [] rfl rfl (by decide) (by decide) (by decide) 0 rfl (fun q h => by cases h; rfl) rfl ⟨by decide, by decide⟩ rfl rfl (by decide) (by decide) rfl (Nat.le_of_ble_eq_true rfl) dX11_nextG_3 (fun v w hq => ?_)
  obtain ⟨zm_32_3118, zm_42_3119, zr_3120, hf_3121, hf_3122, hf_3123, hf_3124, hf_3125, hz_3126, rfl, rfl⟩ := hq
  replace e_ := fun β k_ => (e_ β k_).trans (hz_3126 β _)
  show G E X 4 [(m, .inr (11, mkF r m_1 m_4 m_9 m_10 m_14 m_15 m_25 m_26 m_27 m_28 m_29 m_31 zm_32_3118 m_33 m_35 m_36 m_37 m_38 m_39 m_40 zm_42_3119)), ((r 43), .inl (E.2.2.1 1, 6000, .inl (nb r43_f)))] 0 0 [(0, .ref m)] 6 [.long (lN zr_3120)]
  refine g_l2i B dX11_nextG_6 ?_
  refine g_ri (x' := nI zr_3120) (lN_i zr_3120) ?_
  refine g_istore_n (lv' := [(1, .int (nI zr_3120)), (0, .ref m)]) B dX11_nextG_7 rfl (by decide) rfl ?_
  refine g_aload_n B dX11_nextG_8 rfl 1 rfl ?_
  refine g_iload_n B dX11_nextG_9 rfl 0 rfl ?_
  refine g_iconst (v := 4) B dX11_nextG_10 (by decide) ?_
  refine g_callV (st := []) (As := [.int (nI zr_3120), .int 4]) (wr := []) (nc' := 0) (ns' := 0) B cl_X11_319 w_im_X11_next_ w_se_X11_next_ (wr_X11_next_n E m r m_1 m_4 m_9 m_10 m_14 m_15 m_25 m_26 m_27 m_28 m_29 m_31 zm_32_3118 m_33 m_35 m_36 m_37 m_38 m_39 m_40 zm_42_3119 r43_f zr_3120 4 (by first | assumption | omega | decide | exact hCF _ (by omega)) (by first | assumption | omega | decide | exact hCF _ (by omega)) (by first | assumption | omega | decide | exact hCF _ (by omega)) (by first | assumption | omega | decide | exact hCF _ (by omega)) (by first | assumption | omega | decide | exact hCF _ (by omega)) (by first | assumption | omega | decide | exact hCF _ (by omega)) (by first | assumption | omega | decide | exact hCF _ (by omega))) rfl [0, 1] [] rfl rfl (by decide) (by decide) (by decide) 0 rfl (fun q h => by cases h; rfl) rfl ⟨by decide, by decide⟩ rfl rfl (by decide) (by decide) rfl (Nat.le_of_ble_eq_true rfl) dX11_nextG_11 (fun v w hq => ?_)
  obtain ⟨zm_32_3127, zm_42_3128, zr_3129, hf_3130, hf_3131, hf_3132, hf_3133, hf_3134, hz_3135, rfl, rfl⟩ := hq
  replace e_ := fun β k_ => (e_ β k_).trans (hz_3135 β _)
  show G E X 4 [(m, .inr (11, mkF r m_1 m_4 m_9 m_10 m_14 m_15 m_25 m_26 m_27 m_28 m_29 m_31 zm_32_3127 m_33 m_35 m_36 m_37 m_38 m_39 m_40 zm_42_3128)), ((r 43), .inl (E.2.2.1 1, 6000, .inl (nb r43_f)))] 0 0 [(1, .int (nI zr_3120)), (0, .ref m)] 14 [.long (lN zr_3129)]
  refine g_lstore_n (lv' := [(2, .long (lN zr_3129)), (1, .int (nI zr_3120)), (0, .ref m)]) B dX11_nextG_14 rfl (by decide) rfl ?_
  refine g_lconst (v := 1) B dX11_nextG_15 (by decide) ?_
  refine g_iload_n B dX11_nextG_16 rfl 1 rfl ?_
  refine g_lshl B dX11_nextG_17 ?_
  refine g_rl (x' := lN (2 ^ zr_3120)) (shl1 zr_3120 (by omega)) ?_
  have hp1 := Nat.two_pow_pos zr_3120
  have hp2 : 2 ^ zr_3120 ≤ 2 ^ 31 := Nat.pow_le_pow_right (by decide) (by omega)
  refine g_lload_n B dX11_nextG_18 rfl 0 rfl ?_
  refine g_ladd B dX11_nextG_19 ?_
  refine g_rl (x' := lN ((2 ^ zr_3120) + zr_3129)) (lN_add (2 ^ zr_3120) zr_3129) ?_
  exact g_lret B hr dX11_nextG_20 (by decide) (by decide) ⟨zm_32_3127, zm_42_3128, ((2 ^ zr_3120) + zr_3129), (by first | assumption | omega | decide | exact hCF _ (by omega)), (by first | assumption | omega | decide | exact hCF _ (by omega)), (by first | assumption | omega | decide | exact hCF _ (by omega)), (by first | assumption | omega | decide | exact hCF _ (by omega)), (by first | assumption | omega | decide | exact hCF _ (by omega)), (by first | assumption | omega | decide | exact hCF _ (by omega)), e_, rfl, rfl⟩
abbrev MX11_isTerm : g_M := (yX11_isTerm, cX11_isTerm, 1, (some .boolean))
theorem dX11_isTerm_0 : decode cX11_isTerm 0 = .ok (.iload_n 0, 1) := by decide +kernel
theorem dX11_isTerm_1 : decode cX11_isTerm 1 = .ok (.iconst 1, 1) := by decide +kernel
theorem dX11_isTerm_2 : decode cX11_isTerm 2 = .ok (.if_icmp .lt 9, 3) := by decide +kernel
theorem dX11_isTerm_11 : decode cX11_isTerm 11 = .ok (.iload_n 0, 1) := by decide +kernel
theorem dX11_isTerm_12 : decode cX11_isTerm 12 = .ok (.bipush 17, 2) := by decide +kernel
theorem dX11_isTerm_14 : decode cX11_isTerm 14 = .ok (.if_icmp .eq 20, 3) := by decide +kernel
theorem dX11_isTerm_34 : decode cX11_isTerm 34 = .ok (.iconst 1, 1) := by decide +kernel
theorem dX11_isTerm_35 : decode cX11_isTerm 35 = .ok (.goto 4, 3) := by decide +kernel
theorem dX11_isTerm_39 : decode cX11_isTerm 39 = .ok (.ireturn, 1) := by decide +kernel
theorem dX11_isTerm_17 : decode cX11_isTerm 17 = .ok (.iload_n 0, 1) := by decide +kernel
theorem dX11_isTerm_18 : decode cX11_isTerm 18 = .ok (.bipush 18, 2) := by decide +kernel
theorem dX11_isTerm_20 : decode cX11_isTerm 20 = .ok (.if_icmp .eq 14, 3) := by decide +kernel
theorem dX11_isTerm_23 : decode cX11_isTerm 23 = .ok (.iload_n 0, 1) := by decide +kernel
theorem dX11_isTerm_24 : decode cX11_isTerm 24 = .ok (.iconst (-1), 1) := by decide +kernel
theorem dX11_isTerm_25 : decode cX11_isTerm 25 = .ok (.if_icmp .eq 9, 3) := by decide +kernel
theorem dX11_isTerm_28 : decode cX11_isTerm 28 = .ok (.iload_n 0, 1) := by decide +kernel
theorem dX11_isTerm_29 : decode cX11_isTerm 29 = .ok (.bipush (-3), 2) := by decide +kernel
theorem dX11_isTerm_31 : decode cX11_isTerm 31 = .ok (.if_icmp .ne 7, 3) := by decide +kernel
theorem dX11_isTerm_38 : decode cX11_isTerm 38 = .ok (.iconst 0, 1) := by decide +kernel
theorem dX11_isTerm_5 : decode cX11_isTerm 5 = .ok (.iload_n 0, 1) := by decide +kernel
theorem dX11_isTerm_6 : decode cX11_isTerm 6 = .ok (.bipush 8, 2) := by decide +kernel
theorem dX11_isTerm_8 : decode cX11_isTerm 8 = .ok (.if_icmp .le 26, 3) := by decide +kernel
set_option maxRecDepth 100000 in
def fn_wr_X11_isTerm_w (t : Int32) (β : Type) (k_ : Int32 → β) : β := (if t < 1 then (if t = 17 then (k_ 1) else (if t = 18 then (k_ 1) else (if t = (-1) then (k_ 1) else (if t = (-3) then (k_ 1) else (k_ 0))))) else (if t ≤ 8 then (k_ 1) else (if t = 17 then (k_ 1) else (if t = 18 then (k_ 1) else (if t = (-1) then (k_ 1) else (if t = (-3) then (k_ 1) else (k_ 0)))))))
set_option maxRecDepth 100000 in
theorem fn_wr_X11_isTerm_w_s {t : Int32} {β : Type} {k_ : Int32 → β} : fn_wr_X11_isTerm_w t β k_ = (if t < 1 then (if t = 17 then (k_ 1) else (if t = 18 then (k_ 1) else (if t = (-1) then (k_ 1) else (if t = (-3) then (k_ 1) else (k_ 0))))) else (if t ≤ 8 then (k_ 1) else (if t = 17 then (k_ 1) else (if t = 18 then (k_ 1) else (if t = (-1) then (k_ 1) else (if t = (-3) then (k_ 1) else (k_ 0))))))) := rfl
set_option maxRecDepth 100000 in
set_option maxHeartbeats 4000000 in
theorem wr_X11_isTerm_w (E : g_E) (t : Int32)  : Ev E MX11_isTerm 0 0 0 0 [.int t] [] (fun v_ w_ => ∃ zr : Int32, (zr = 0 ∨ zr = 1) ∧ (∀ (β : Type) (k_ : Int32 → β), fn_wr_X11_isTerm_w t β k_ = k_ zr) ∧ v_ = some (.int zr) ∧ w_ = []) := by
  refine Ev.intro (by decide) (Nat.le_of_ble_eq_true rfl) ?_
  intro X B hr hI
  have B : Bd E X cX11_isTerm RX11 1 0 0 0 0 := B
  have hr : Rt E X (some .boolean) 0 0 (fun v_ w_ => ∃ zr : Int32, (zr = 0 ∨ zr = 1) ∧ (∀ (β : Type) (k_ : Int32 → β), fn_wr_X11_isTerm_w t β k_ = k_ zr) ∧ v_ = some (.int zr) ∧ w_ = []) := hr
  have e_ := fun (β : Type) (k_ : Int32 → β) => fn_wr_X11_isTerm_w_s (β := β) (k_ := k_) (t := t)
  show G E X 1 [] 0 0 [(0, .int t)] 0 []
  refine g_iload_n B dX11_isTerm_0 rfl 0 rfl ?_
  refine g_iconst (v := 1) B dX11_isTerm_1 (by decide) ?_
  refine g_icmp_lt (tgt := 11) B dX11_isTerm_2 (by decide) (fun c2_3136 => ?_) (fun c2_3136 => ?_)
  · replace e_ := fun β k_ => (e_ β k_).trans (if_pos c2_3136)
    refine g_iload_n B dX11_isTerm_11 rfl 0 rfl ?_
    refine g_bipush (v := 17) B dX11_isTerm_12 (by decide) ?_
    refine g_icmp_eq (tgt := 34) B dX11_isTerm_14 (by decide) (fun c14_3137 => ?_) (fun c14_3137 => ?_)
    · replace e_ := fun β k_ => (e_ β k_).trans (if_pos c14_3137)
      refine g_iconst (v := 1) B dX11_isTerm_34 (by decide) ?_
      refine g_goto (tgt := 39) B dX11_isTerm_35 (by decide) ?_
      exact g_zret B hr (by decide) dX11_isTerm_39 (by decide) (by decide) ⟨1, (by first | assumption | omega | decide | exact hCF _ (by omega)), e_, rfl, rfl⟩
    · replace e_ := fun β k_ => (e_ β k_).trans (if_neg c14_3137)
      refine g_iload_n B dX11_isTerm_17 rfl 0 rfl ?_
      refine g_bipush (v := 18) B dX11_isTerm_18 (by decide) ?_
      refine g_icmp_eq (tgt := 34) B dX11_isTerm_20 (by decide) (fun c20_3138 => ?_) (fun c20_3138 => ?_)
      · replace e_ := fun β k_ => (e_ β k_).trans (if_pos c20_3138)
        refine g_iconst (v := 1) B dX11_isTerm_34 (by decide) ?_
        refine g_goto (tgt := 39) B dX11_isTerm_35 (by decide) ?_
        exact g_zret B hr (by decide) dX11_isTerm_39 (by decide) (by decide) ⟨1, (by first | assumption | omega | decide | exact hCF _ (by omega)), e_, rfl, rfl⟩
      · replace e_ := fun β k_ => (e_ β k_).trans (if_neg c20_3138)
        refine g_iload_n B dX11_isTerm_23 rfl 0 rfl ?_
        refine g_iconst (v := (-1)) B dX11_isTerm_24 (by decide) ?_
        refine g_icmp_eq (tgt := 34) B dX11_isTerm_25 (by decide) (fun c25_3139 => ?_) (fun c25_3139 => ?_)
        · replace e_ := fun β k_ => (e_ β k_).trans (if_pos c25_3139)
          refine g_iconst (v := 1) B dX11_isTerm_34 (by decide) ?_
          refine g_goto (tgt := 39) B dX11_isTerm_35 (by decide) ?_
          exact g_zret B hr (by decide) dX11_isTerm_39 (by decide) (by decide) ⟨1, (by first | assumption | omega | decide | exact hCF _ (by omega)), e_, rfl, rfl⟩
        · replace e_ := fun β k_ => (e_ β k_).trans (if_neg c25_3139)
          refine g_iload_n B dX11_isTerm_28 rfl 0 rfl ?_
          refine g_bipush (v := (-3)) B dX11_isTerm_29 (by decide) ?_
          refine g_icmp_ne (tgt := 38) B dX11_isTerm_31 (by decide) (fun c31_3140 => ?_) (fun c31_3140 => ?_)
          · replace e_ := fun β k_ => (e_ β k_).trans (if_neg c31_3140)
            refine g_iconst (v := 0) B dX11_isTerm_38 (by decide) ?_
            exact g_zret B hr (by decide) dX11_isTerm_39 (by decide) (by decide) ⟨0, (by first | assumption | omega | decide | exact hCF _ (by omega)), e_, rfl, rfl⟩
          · replace e_ := fun β k_ => (e_ β k_).trans (if_pos c31_3140)
            refine g_iconst (v := 1) B dX11_isTerm_34 (by decide) ?_
            refine g_goto (tgt := 39) B dX11_isTerm_35 (by decide) ?_
            exact g_zret B hr (by decide) dX11_isTerm_39 (by decide) (by decide) ⟨1, (by first | assumption | omega | decide | exact hCF _ (by omega)), e_, rfl, rfl⟩
  · replace e_ := fun β k_ => (e_ β k_).trans (if_neg c2_3136)
    refine g_iload_n B dX11_isTerm_5 rfl 0 rfl ?_
    refine g_bipush (v := 8) B dX11_isTerm_6 (by decide) ?_
    refine g_icmp_le (tgt := 34) B dX11_isTerm_8 (by decide) (fun c8_3141 => ?_) (fun c8_3141 => ?_)
    · replace e_ := fun β k_ => (e_ β k_).trans (if_pos c8_3141)
      refine g_iconst (v := 1) B dX11_isTerm_34 (by decide) ?_
      refine g_goto (tgt := 39) B dX11_isTerm_35 (by decide) ?_
      exact g_zret B hr (by decide) dX11_isTerm_39 (by decide) (by decide) ⟨1, (by first | assumption | omega | decide | exact hCF _ (by omega)), e_, rfl, rfl⟩
    · replace e_ := fun β k_ => (e_ β k_).trans (if_neg c8_3141)
      refine g_iload_n B dX11_isTerm_11 rfl 0 rfl ?_
      refine g_bipush (v := 17) B dX11_isTerm_12 (by decide) ?_
      refine g_icmp_eq (tgt := 34) B dX11_isTerm_14 (by decide) (fun c14_3142 => ?_) (fun c14_3142 => ?_)
      · replace e_ := fun β k_ => (e_ β k_).trans (if_pos c14_3142)
        refine g_iconst (v := 1) B dX11_isTerm_34 (by decide) ?_
        refine g_goto (tgt := 39) B dX11_isTerm_35 (by decide) ?_
        exact g_zret B hr (by decide) dX11_isTerm_39 (by decide) (by decide) ⟨1, (by first | assumption | omega | decide | exact hCF _ (by omega)), e_, rfl, rfl⟩
      · replace e_ := fun β k_ => (e_ β k_).trans (if_neg c14_3142)
        refine g_iload_n B dX11_isTerm_17 rfl 0 rfl ?_
        refine g_bipush (v := 18) B dX11_isTerm_18 (by decide) ?_
        refine g_icmp_eq (tgt := 34) B dX11_isTerm_20 (by decide) (fun c20_3143 => ?_) (fun c20_3143 => ?_)
        · replace e_ := fun β k_ => (e_ β k_).trans (if_pos c20_3143)
          refine g_iconst (v := 1) B dX11_isTerm_34 (by decide) ?_
          refine g_goto (tgt := 39) B dX11_isTerm_35 (by decide) ?_
          exact g_zret B hr (by decide) dX11_isTerm_39 (by decide) (by decide) ⟨1, (by first | assumption | omega | decide | exact hCF _ (by omega)), e_, rfl, rfl⟩
        · replace e_ := fun β k_ => (e_ β k_).trans (if_neg c20_3143)
          refine g_iload_n B dX11_isTerm_23 rfl 0 rfl ?_
          refine g_iconst (v := (-1)) B dX11_isTerm_24 (by decide) ?_
          refine g_icmp_eq (tgt := 34) B dX11_isTerm_25 (by decide) (fun c25_3144 => ?_) (fun c25_3144 => ?_)
          · replace e_ := fun β k_ => (e_ β k_).trans (if_pos c25_3144)
            refine g_iconst (v := 1) B dX11_isTerm_34 (by decide) ?_
            refine g_goto (tgt := 39) B dX11_isTerm_35 (by decide) ?_
            exact g_zret B hr (by decide) dX11_isTerm_39 (by decide) (by decide) ⟨1, (by first | assumption | omega | decide | exact hCF _ (by omega)), e_, rfl, rfl⟩
          · replace e_ := fun β k_ => (e_ β k_).trans (if_neg c25_3144)
            refine g_iload_n B dX11_isTerm_28 rfl 0 rfl ?_
            refine g_bipush (v := (-3)) B dX11_isTerm_29 (by decide) ?_
            refine g_icmp_ne (tgt := 38) B dX11_isTerm_31 (by decide) (fun c31_3145 => ?_) (fun c31_3145 => ?_)
            · replace e_ := fun β k_ => (e_ β k_).trans (if_neg c31_3145)
              refine g_iconst (v := 0) B dX11_isTerm_38 (by decide) ?_
              exact g_zret B hr (by decide) dX11_isTerm_39 (by decide) (by decide) ⟨0, (by first | assumption | omega | decide | exact hCF _ (by omega)), e_, rfl, rfl⟩
            · replace e_ := fun β k_ => (e_ β k_).trans (if_pos c31_3145)
              refine g_iconst (v := 1) B dX11_isTerm_34 (by decide) ?_
              refine g_goto (tgt := 39) B dX11_isTerm_35 (by decide) ?_
              exact g_zret B hr (by decide) dX11_isTerm_39 (by decide) (by decide) ⟨1, (by first | assumption | omega | decide | exact hCF _ (by omega)), e_, rfl, rfl⟩
abbrev MX11_opens : g_M := (yX11_opens, cX11_opens, 6, (some .boolean))
theorem dX11_opens_0 : decode cX11_opens 0 = .ok (.iload_n 1, 1) := by decide +kernel
theorem dX11_opens_1 : decode cX11_opens 1 = .ok (.bipush 10, 2) := by decide +kernel
theorem dX11_opens_3 : decode cX11_opens 3 = .ok (.if_icmp .ge 9, 3) := by decide +kernel
theorem dX11_opens_12 : decode cX11_opens 12 = .ok (.aload_n 0, 1) := by decide +kernel
theorem dX11_opens_13 : decode cX11_opens 13 = .ok (.getfield 80, 3) := by decide +kernel
theorem dX11_opens_16 : decode cX11_opens 16 = .ok (.iload_n 1, 1) := by decide +kernel
theorem dX11_opens_17 : decode cX11_opens 17 = .ok (.iconst 4, 1) := by decide +kernel
theorem dX11_opens_18 : decode cX11_opens 18 = .ok (.isub, 1) := by decide +kernel
theorem dX11_opens_19 : decode cX11_opens 19 = .ok (.invokestatic 321, 3) := by decide +kernel
theorem w_ml_X11_321 : Cond.methodLink RX11 321 yX11_intAt ∈ g_tbl := g_tbl_in 1203 (by decide +kernel) (by decide +kernel)
theorem w_cd_X11_intAt : g_cw MX11_intAt ∈ g_tbl := g_tbl_in 1205 (by decide +kernel) (by decide +kernel)
theorem cl_X11_321 : CL RX11 321 2 MX11_intAt := ⟨w_ml_X11_321, w_cd_X11_intAt, w_ini_X11, by decide +kernel, by decide +kernel, by decide +kernel⟩
theorem w_sm_X11_intAt : Cond.static yX11_intAt ∈ g_tbl := g_tbl_in 1204 (by decide +kernel) (by decide +kernel)
theorem dX11_opens_22 : decode cX11_opens 22 = .ok (.aload_n 0, 1) := by decide +kernel
theorem dX11_opens_23 : decode cX11_opens 23 = .ok (.getfield 80, 3) := by decide +kernel
theorem dX11_opens_26 : decode cX11_opens 26 = .ok (.iconst 0, 1) := by decide +kernel
theorem dX11_opens_27 : decode cX11_opens 27 = .ok (.iload_n 1, 1) := by decide +kernel
theorem dX11_opens_28 : decode cX11_opens 28 = .ok (.iconst 4, 1) := by decide +kernel
theorem dX11_opens_29 : decode cX11_opens 29 = .ok (.isub, 1) := by decide +kernel
theorem dX11_opens_30 : decode cX11_opens 30 = .ok (.invokestatic 259, 3) := by decide +kernel
theorem dX11_opens_33 : decode cX11_opens 33 = .ok (.if_icmp .eq 9, 3) := by decide +kernel
theorem dX11_opens_42 : decode cX11_opens 42 = .ok (.iload_n 1, 1) := by decide +kernel
theorem dX11_opens_43 : decode cX11_opens 43 = .ok (.iconst 4, 1) := by decide +kernel
theorem dX11_opens_44 : decode cX11_opens 44 = .ok (.isub, 1) := by decide +kernel
theorem dX11_opens_45 : decode cX11_opens 45 = .ok (.istore_n 2, 1) := by decide +kernel
theorem dX11_opens_46 : decode cX11_opens 46 = .ok (.aload_n 0, 1) := by decide +kernel
theorem dX11_opens_47 : decode cX11_opens 47 = .ok (.aload_n 0, 1) := by decide +kernel
theorem dX11_opens_48 : decode cX11_opens 48 = .ok (.getfield 80, 3) := by decide +kernel
theorem dX11_opens_51 : decode cX11_opens 51 = .ok (.iconst 1, 1) := by decide +kernel
theorem dX11_opens_52 : decode cX11_opens 52 = .ok (.baload, 1) := by decide +kernel
theorem dX11_opens_53 : decode cX11_opens 53 = .ok (.sipush 255, 3) := by decide +kernel
theorem dX11_opens_56 : decode cX11_opens 56 = .ok (.iand, 1) := by decide +kernel
theorem dX11_opens_57 : decode cX11_opens 57 = .ok (.putfield 206, 3) := by decide +kernel
theorem dX11_opens_60 : decode cX11_opens 60 = .ok (.aload_n 0, 1) := by decide +kernel
theorem dX11_opens_61 : decode cX11_opens 61 = .ok (.aload_n 0, 1) := by decide +kernel
theorem dX11_opens_62 : decode cX11_opens 62 = .ok (.getfield 80, 3) := by decide +kernel
theorem dX11_opens_65 : decode cX11_opens 65 = .ok (.iconst 2, 1) := by decide +kernel
theorem dX11_opens_66 : decode cX11_opens 66 = .ok (.baload, 1) := by decide +kernel
theorem dX11_opens_67 : decode cX11_opens 67 = .ok (.sipush 255, 3) := by decide +kernel
theorem dX11_opens_70 : decode cX11_opens 70 = .ok (.iand, 1) := by decide +kernel
theorem dX11_opens_71 : decode cX11_opens 71 = .ok (.putfield 196, 3) := by decide +kernel
theorem dX11_opens_74 : decode cX11_opens 74 = .ok (.aload_n 0, 1) := by decide +kernel
theorem dX11_opens_75 : decode cX11_opens 75 = .ok (.aload_n 0, 1) := by decide +kernel
theorem dX11_opens_76 : decode cX11_opens 76 = .ok (.getfield 80, 3) := by decide +kernel
theorem dX11_opens_79 : decode cX11_opens 79 = .ok (.iconst 3, 1) := by decide +kernel
theorem dX11_opens_80 : decode cX11_opens 80 = .ok (.baload, 1) := by decide +kernel
theorem dX11_opens_81 : decode cX11_opens 81 = .ok (.sipush 255, 3) := by decide +kernel
theorem dX11_opens_84 : decode cX11_opens 84 = .ok (.iand, 1) := by decide +kernel
theorem dX11_opens_85 : decode cX11_opens 85 = .ok (.bipush 8, 2) := by decide +kernel
theorem dX11_opens_87 : decode cX11_opens 87 = .ok (.ishl, 1) := by decide +kernel
theorem dX11_opens_88 : decode cX11_opens 88 = .ok (.aload_n 0, 1) := by decide +kernel
theorem dX11_opens_89 : decode cX11_opens 89 = .ok (.getfield 80, 3) := by decide +kernel
theorem dX11_opens_92 : decode cX11_opens 92 = .ok (.iconst 4, 1) := by decide +kernel
theorem dX11_opens_93 : decode cX11_opens 93 = .ok (.baload, 1) := by decide +kernel
theorem dX11_opens_94 : decode cX11_opens 94 = .ok (.sipush 255, 3) := by decide +kernel
theorem dX11_opens_97 : decode cX11_opens 97 = .ok (.iand, 1) := by decide +kernel
theorem dX11_opens_98 : decode cX11_opens 98 = .ok (.ior, 1) := by decide +kernel
theorem dX11_opens_99 : decode cX11_opens 99 = .ok (.putfield 189, 3) := by decide +kernel
theorem dX11_opens_102 : decode cX11_opens 102 = .ok (.aload_n 0, 1) := by decide +kernel
theorem dX11_opens_103 : decode cX11_opens 103 = .ok (.aload_n 0, 1) := by decide +kernel
theorem dX11_opens_104 : decode cX11_opens 104 = .ok (.getfield 80, 3) := by decide +kernel
theorem dX11_opens_107 : decode cX11_opens 107 = .ok (.iconst 5, 1) := by decide +kernel
theorem dX11_opens_108 : decode cX11_opens 108 = .ok (.baload, 1) := by decide +kernel
theorem dX11_opens_109 : decode cX11_opens 109 = .ok (.sipush 255, 3) := by decide +kernel
theorem dX11_opens_112 : decode cX11_opens 112 = .ok (.iand, 1) := by decide +kernel
theorem dX11_opens_113 : decode cX11_opens 113 = .ok (.putfield 121, 3) := by decide +kernel
theorem dX11_opens_116 : decode cX11_opens 116 = .ok (.aload_n 0, 1) := by decide +kernel
theorem dX11_opens_117 : decode cX11_opens 117 = .ok (.getfield 206, 3) := by decide +kernel
theorem dX11_opens_120 : decode cX11_opens 120 = .ok (.iconst 1, 1) := by decide +kernel
theorem dX11_opens_121 : decode cX11_opens 121 = .ok (.iand, 1) := by decide +kernel
theorem dX11_opens_122 : decode cX11_opens 122 = .ok (.ifCond .ne 17, 3) := by decide +kernel
theorem dX11_opens_139 : decode cX11_opens 139 = .ok (.iconst 0, 1) := by decide +kernel
theorem dX11_opens_140 : decode cX11_opens 140 = .ok (.istore_n 3, 1) := by decide +kernel
theorem dX11_opens_141 : decode cX11_opens 141 = .ok (.aload_n 0, 1) := by decide +kernel
theorem dX11_opens_142 : decode cX11_opens 142 = .ok (.getfield 80, 3) := by decide +kernel
theorem dX11_opens_145 : decode cX11_opens 145 = .ok (.iconst 0, 1) := by decide +kernel
theorem dX11_opens_146 : decode cX11_opens 146 = .ok (.baload, 1) := by decide +kernel
theorem dX11_opens_147 : decode cX11_opens 147 = .ok (.bipush 83, 2) := by decide +kernel
theorem dX11_opens_149 : decode cX11_opens 149 = .ok (.if_icmp .ne 63, 3) := by decide +kernel
theorem dX11_opens_212 : decode cX11_opens 212 = .ok (.aload_n 0, 1) := by decide +kernel
theorem dX11_opens_213 : decode cX11_opens 213 = .ok (.iconst 3, 1) := by decide +kernel
theorem dX11_opens_214 : decode cX11_opens 214 = .ok (.invokevirtual 313, 3) := by decide +kernel
theorem dX11_opens_217 : decode cX11_opens 217 = .ok (.ireturn, 1) := by decide +kernel
theorem dX11_opens_152 : decode cX11_opens 152 = .ok (.aload_n 0, 1) := by decide +kernel
theorem dX11_opens_153 : decode cX11_opens 153 = .ok (.getfield 206, 3) := by decide +kernel
theorem dX11_opens_156 : decode cX11_opens 156 = .ok (.bipush 15, 2) := by decide +kernel
theorem dX11_opens_158 : decode cX11_opens 158 = .ok (.if_icmp .gt 54, 3) := by decide +kernel
theorem dX11_opens_161 : decode cX11_opens 161 = .ok (.iload_n 3, 1) := by decide +kernel
theorem dX11_opens_162 : decode cX11_opens 162 = .ok (.ifCond .ne 50, 3) := by decide +kernel
theorem dX11_opens_165 : decode cX11_opens 165 = .ok (.aload_n 0, 1) := by decide +kernel
theorem dX11_opens_166 : decode cX11_opens 166 = .ok (.getfield 206, 3) := by decide +kernel
theorem dX11_opens_169 : decode cX11_opens 169 = .ok (.bipush 6, 2) := by decide +kernel
theorem dX11_opens_171 : decode cX11_opens 171 = .ok (.iand, 1) := by decide +kernel
theorem dX11_opens_172 : decode cX11_opens 172 = .ok (.bipush 6, 2) := by decide +kernel
theorem dX11_opens_174 : decode cX11_opens 174 = .ok (.if_icmp .eq 38, 3) := by decide +kernel
theorem dX11_opens_177 : decode cX11_opens 177 = .ok (.aload_n 0, 1) := by decide +kernel
theorem dX11_opens_178 : decode cX11_opens 178 = .ok (.getfield 196, 3) := by decide +kernel
theorem dX11_opens_181 : decode cX11_opens 181 = .ok (.bipush 23, 2) := by decide +kernel
theorem dX11_opens_183 : decode cX11_opens 183 = .ok (.if_icmp .gt 29, 3) := by decide +kernel
theorem dX11_opens_186 : decode cX11_opens 186 = .ok (.aload_n 0, 1) := by decide +kernel
theorem dX11_opens_187 : decode cX11_opens 187 = .ok (.getfield 189, 3) := by decide +kernel
theorem dX11_opens_190 : decode cX11_opens 190 = .ok (.ifCond .eq 22, 3) := by decide +kernel
theorem dX11_opens_193 : decode cX11_opens 193 = .ok (.aload_n 0, 1) := by decide +kernel
theorem dX11_opens_194 : decode cX11_opens 194 = .ok (.getfield 189, 3) := by decide +kernel
theorem dX11_opens_197 : decode cX11_opens 197 = .ok (.sipush 600, 3) := by decide +kernel
theorem dX11_opens_200 : decode cX11_opens 200 = .ok (.if_icmp .gt 12, 3) := by decide +kernel
theorem dX11_opens_203 : decode cX11_opens 203 = .ok (.aload_n 0, 1) := by decide +kernel
theorem dX11_opens_204 : decode cX11_opens 204 = .ok (.getfield 121, 3) := by decide +kernel
theorem dX11_opens_207 : decode cX11_opens 207 = .ok (.bipush 8, 2) := by decide +kernel
theorem dX11_opens_209 : decode cX11_opens 209 = .ok (.if_icmp .le 9, 3) := by decide +kernel
theorem dX11_opens_218 : decode cX11_opens 218 = .ok (.bipush 6, 2) := by decide +kernel
theorem dX11_opens_220 : decode cX11_opens 220 = .ok (.iconst 2, 1) := by decide +kernel
theorem dX11_opens_221 : decode cX11_opens 221 = .ok (.aload_n 0, 1) := by decide +kernel
theorem dX11_opens_222 : decode cX11_opens 222 = .ok (.getfield 121, 3) := by decide +kernel
theorem dX11_opens_225 : decode cX11_opens 225 = .ok (.imul, 1) := by decide +kernel
theorem dX11_opens_226 : decode cX11_opens 226 = .ok (.iadd, 1) := by decide +kernel
theorem dX11_opens_227 : decode cX11_opens 227 = .ok (.istore 4, 2) := by decide +kernel
theorem dX11_opens_229 : decode cX11_opens 229 = .ok (.iload 4, 2) := by decide +kernel
theorem dX11_opens_231 : decode cX11_opens 231 = .ok (.aload_n 0, 1) := by decide +kernel
theorem dX11_opens_232 : decode cX11_opens 232 = .ok (.getfield 206, 3) := by decide +kernel
theorem dX11_opens_235 : decode cX11_opens 235 = .ok (.bipush 8, 2) := by decide +kernel
theorem dX11_opens_237 : decode cX11_opens 237 = .ok (.iand, 1) := by decide +kernel
theorem dX11_opens_238 : decode cX11_opens 238 = .ok (.ifCond .eq 7, 3) := by decide +kernel
theorem dX11_opens_245 : decode cX11_opens 245 = .ok (.iconst 0, 1) := by decide +kernel
theorem dX11_opens_246 : decode cX11_opens 246 = .ok (.iadd, 1) := by decide +kernel
theorem dX11_opens_247 : decode cX11_opens 247 = .ok (.iload_n 2, 1) := by decide +kernel
theorem dX11_opens_248 : decode cX11_opens 248 = .ok (.if_icmp .le 9, 3) := by decide +kernel
theorem dX11_opens_257 : decode cX11_opens 257 = .ok (.iconst 0, 1) := by decide +kernel
theorem dX11_opens_258 : decode cX11_opens 258 = .ok (.istore 5, 2) := by decide +kernel
theorem dX11_opens_260 : decode cX11_opens 260 = .ok (.iload 5, 2) := by decide +kernel
theorem dX11_opens_262 : decode cX11_opens 262 = .ok (.aload_n 0, 1) := by decide +kernel
theorem dX11_opens_263 : decode cX11_opens 263 = .ok (.getfield 121, 3) := by decide +kernel
theorem dX11_opens_266 : decode cX11_opens 266 = .ok (.if_icmp .ge 89, 3) := by decide +kernel
theorem dX11_opens_269 : decode cX11_opens 269 = .ok (.aload_n 0, 1) := by decide +kernel
theorem dX11_opens_270 : decode cX11_opens 270 = .ok (.getfield 42, 3) := by decide +kernel
theorem dX11_opens_273 : decode cX11_opens 273 = .ok (.iload 5, 2) := by decide +kernel
theorem dX11_opens_275 : decode cX11_opens 275 = .ok (.aload_n 0, 1) := by decide +kernel
theorem dX11_opens_276 : decode cX11_opens 276 = .ok (.getfield 80, 3) := by decide +kernel
theorem dX11_opens_279 : decode cX11_opens 279 = .ok (.bipush 6, 2) := by decide +kernel
theorem dX11_opens_281 : decode cX11_opens 281 = .ok (.iconst 2, 1) := by decide +kernel
theorem dX11_opens_282 : decode cX11_opens 282 = .ok (.iload 5, 2) := by decide +kernel
theorem dX11_opens_284 : decode cX11_opens 284 = .ok (.imul, 1) := by decide +kernel
theorem dX11_opens_285 : decode cX11_opens 285 = .ok (.iadd, 1) := by decide +kernel
theorem dX11_opens_286 : decode cX11_opens 286 = .ok (.baload, 1) := by decide +kernel
theorem dX11_opens_287 : decode cX11_opens 287 = .ok (.iastore, 1) := by decide +kernel
theorem dX11_opens_288 : decode cX11_opens 288 = .ok (.aload_n 0, 1) := by decide +kernel
theorem dX11_opens_289 : decode cX11_opens 289 = .ok (.getfield 45, 3) := by decide +kernel
theorem dX11_opens_292 : decode cX11_opens 292 = .ok (.iload 5, 2) := by decide +kernel
theorem dX11_opens_294 : decode cX11_opens 294 = .ok (.aload_n 0, 1) := by decide +kernel
theorem dX11_opens_295 : decode cX11_opens 295 = .ok (.getfield 80, 3) := by decide +kernel
theorem dX11_opens_298 : decode cX11_opens 298 = .ok (.bipush 7, 2) := by decide +kernel
theorem dX11_opens_300 : decode cX11_opens 300 = .ok (.iconst 2, 1) := by decide +kernel
theorem dX11_opens_301 : decode cX11_opens 301 = .ok (.iload 5, 2) := by decide +kernel
theorem dX11_opens_303 : decode cX11_opens 303 = .ok (.imul, 1) := by decide +kernel
theorem dX11_opens_304 : decode cX11_opens 304 = .ok (.iadd, 1) := by decide +kernel
theorem dX11_opens_305 : decode cX11_opens 305 = .ok (.baload, 1) := by decide +kernel
theorem dX11_opens_306 : decode cX11_opens 306 = .ok (.iastore, 1) := by decide +kernel
theorem dX11_opens_307 : decode cX11_opens 307 = .ok (.aload_n 0, 1) := by decide +kernel
theorem dX11_opens_308 : decode cX11_opens 308 = .ok (.getfield 42, 3) := by decide +kernel
theorem dX11_opens_311 : decode cX11_opens 311 = .ok (.iload 5, 2) := by decide +kernel
theorem dX11_opens_313 : decode cX11_opens 313 = .ok (.iaload, 1) := by decide +kernel
theorem dX11_opens_314 : decode cX11_opens 314 = .ok (.invokestatic 324, 3) := by decide +kernel
theorem w_ml_X11_324 : Cond.methodLink RX11 324 yX11_isTerm ∈ g_tbl := g_tbl_in 1206 (by decide +kernel) (by decide +kernel)
theorem w_cd_X11_isTerm : g_cw MX11_isTerm ∈ g_tbl := g_tbl_in 1208 (by decide +kernel) (by decide +kernel)
theorem cl_X11_324 : CL RX11 324 1 MX11_isTerm := ⟨w_ml_X11_324, w_cd_X11_isTerm, w_ini_X11, by decide +kernel, by decide +kernel, by decide +kernel⟩
theorem w_sm_X11_isTerm : Cond.static yX11_isTerm ∈ g_tbl := g_tbl_in 1207 (by decide +kernel) (by decide +kernel)
theorem dX11_opens_317 : decode cX11_opens 317 = .ok (.ifCond .eq 26, 3) := by decide +kernel
theorem dX11_opens_343 : decode cX11_opens 343 = .ok (.aload_n 0, 1) := by decide +kernel
theorem dX11_opens_344 : decode cX11_opens 344 = .ok (.iconst 3, 1) := by decide +kernel
theorem dX11_opens_345 : decode cX11_opens 345 = .ok (.invokevirtual 313, 3) := by decide +kernel
theorem dX11_opens_348 : decode cX11_opens 348 = .ok (.ireturn, 1) := by decide +kernel
theorem dX11_opens_320 : decode cX11_opens 320 = .ok (.aload_n 0, 1) := by decide +kernel
theorem dX11_opens_321 : decode cX11_opens 321 = .ok (.getfield 45, 3) := by decide +kernel
theorem dX11_opens_324 : decode cX11_opens 324 = .ok (.iload 5, 2) := by decide +kernel
theorem dX11_opens_326 : decode cX11_opens 326 = .ok (.iaload, 1) := by decide +kernel
theorem dX11_opens_327 : decode cX11_opens 327 = .ok (.iconst 1, 1) := by decide +kernel
theorem dX11_opens_328 : decode cX11_opens 328 = .ok (.if_icmp .lt 15, 3) := by decide +kernel
theorem dX11_opens_331 : decode cX11_opens 331 = .ok (.aload_n 0, 1) := by decide +kernel
theorem dX11_opens_332 : decode cX11_opens 332 = .ok (.getfield 45, 3) := by decide +kernel
theorem dX11_opens_335 : decode cX11_opens 335 = .ok (.iload 5, 2) := by decide +kernel
theorem dX11_opens_337 : decode cX11_opens 337 = .ok (.iaload, 1) := by decide +kernel
theorem dX11_opens_338 : decode cX11_opens 338 = .ok (.bipush 7, 2) := by decide +kernel
theorem dX11_opens_340 : decode cX11_opens 340 = .ok (.if_icmp .le 9, 3) := by decide +kernel
theorem dX11_opens_349 : decode cX11_opens 349 = .ok (.iinc 5 1, 3) := by decide +kernel
theorem dX11_opens_352 : decode cX11_opens 352 = .ok (.goto (-92), 3) := by decide +kernel
set_option maxRecDepth 100000 in
def lf_wr_X11_opens_260 (r43_f : Nat → Int32) (pm_14 : Nat) (pm_15 : Nat) (pm_32 : Nat) (pm_33 : Nat) (pm_36 : Nat) (pm_37 : Int32) (pm_38 : Nat) (pm_39 : Int32) (pm_42 : Nat) (β : Type) (kx_ : (Nat → Int32) → (Nat → Int32) → Nat → β) (k_ : Int32 → Int32 → Nat → Nat → Nat → Nat → Nat → Nat → Nat → (Nat → Int32) → (Nat → Int32) → Int32 → β) : Nat → (Nat → Int32) → (Nat → Int32) → Nat → β
  | 0, pr16_f, pr17_f, l5 => kx_ pr16_f pr17_f l5
  | fuel + 1, pr16_f, pr17_f, l5 => (if pm_14 ≤ l5 then (kx_ pr16_f pr17_f l5) else (fn_wr_X11_isTerm_w (nb r43_f (6 + (2 * l5))) β (fun zr_3207 => (if zr_3207 = 0 then (fn_wr_X11_wrong pm_42 3 β (fun zm_42_3211 => (k_ pm_39 pm_37 pm_38 pm_14 pm_36 pm_15 pm_32 pm_33 zm_42_3211 (upd pr16_f l5 (nb r43_f (6 + (2 * l5)))) (upd pr17_f l5 (nb r43_f (7 + (2 * l5)))) 0))) else (if (nb r43_f (7 + (2 * l5))) < 1 then (fn_wr_X11_wrong pm_42 3 β (fun zm_42_3216 => (k_ pm_39 pm_37 pm_38 pm_14 pm_36 pm_15 pm_32 pm_33 zm_42_3216 (upd pr16_f l5 (nb r43_f (6 + (2 * l5)))) (upd pr17_f l5 (nb r43_f (7 + (2 * l5)))) 0))) else (if (nb r43_f (7 + (2 * l5))) ≤ 7 then (lf_wr_X11_opens_260 r43_f pm_14 pm_15 pm_32 pm_33 pm_36 pm_37 pm_38 pm_39 pm_42 β kx_ k_ fuel (upd pr16_f l5 (nb r43_f (6 + (2 * l5)))) (upd pr17_f l5 (nb r43_f (7 + (2 * l5)))) (l5 + 1)) else (fn_wr_X11_wrong pm_42 3 β (fun zm_42_3221 => (k_ pm_39 pm_37 pm_38 pm_14 pm_36 pm_15 pm_32 pm_33 zm_42_3221 (upd pr16_f l5 (nb r43_f (6 + (2 * l5)))) (upd pr17_f l5 (nb r43_f (7 + (2 * l5)))) 0)))))))))
set_option maxRecDepth 100000 in
theorem lf_wr_X11_opens_260_s {r43_f : Nat → Int32} {pm_14 : Nat} {pm_15 : Nat} {pm_32 : Nat} {pm_33 : Nat} {pm_36 : Nat} {pm_37 : Int32} {pm_38 : Nat} {pm_39 : Int32} {pm_42 : Nat} {β : Type} {kx_ : (Nat → Int32) → (Nat → Int32) → Nat → β} {k_ : Int32 → Int32 → Nat → Nat → Nat → Nat → Nat → Nat → Nat → (Nat → Int32) → (Nat → Int32) → Int32 → β} {fuel : Nat} {pr16_f : Nat → Int32} {pr17_f : Nat → Int32} {l5 : Nat} : lf_wr_X11_opens_260 r43_f pm_14 pm_15 pm_32 pm_33 pm_36 pm_37 pm_38 pm_39 pm_42 β kx_ k_ (fuel + 1) pr16_f pr17_f l5 = (if pm_14 ≤ l5 then (kx_ pr16_f pr17_f l5) else (fn_wr_X11_isTerm_w (nb r43_f (6 + (2 * l5))) β (fun zr_3207 => (if zr_3207 = 0 then (fn_wr_X11_wrong pm_42 3 β (fun zm_42_3211 => (k_ pm_39 pm_37 pm_38 pm_14 pm_36 pm_15 pm_32 pm_33 zm_42_3211 (upd pr16_f l5 (nb r43_f (6 + (2 * l5)))) (upd pr17_f l5 (nb r43_f (7 + (2 * l5)))) 0))) else (if (nb r43_f (7 + (2 * l5))) < 1 then (fn_wr_X11_wrong pm_42 3 β (fun zm_42_3216 => (k_ pm_39 pm_37 pm_38 pm_14 pm_36 pm_15 pm_32 pm_33 zm_42_3216 (upd pr16_f l5 (nb r43_f (6 + (2 * l5)))) (upd pr17_f l5 (nb r43_f (7 + (2 * l5)))) 0))) else (if (nb r43_f (7 + (2 * l5))) ≤ 7 then (lf_wr_X11_opens_260 r43_f pm_14 pm_15 pm_32 pm_33 pm_36 pm_37 pm_38 pm_39 pm_42 β kx_ k_ fuel (upd pr16_f l5 (nb r43_f (6 + (2 * l5)))) (upd pr17_f l5 (nb r43_f (7 + (2 * l5)))) (l5 + 1)) else (fn_wr_X11_wrong pm_42 3 β (fun zm_42_3221 => (k_ pm_39 pm_37 pm_38 pm_14 pm_36 pm_15 pm_32 pm_33 zm_42_3221 (upd pr16_f l5 (nb r43_f (6 + (2 * l5)))) (upd pr17_f l5 (nb r43_f (7 + (2 * l5)))) 0))))))))) := rfl
set_option maxRecDepth 100000 in
set_option maxHeartbeats 4000000 in
theorem lp_wr_X11_opens_260 (E : g_E) (m : Nat) (r : Nat → Nat) (m_1 : Nat) (m_4 : Nat) (m_9 : Nat) (m_10 : Nat) (m_14 : Nat) (m_15 : Nat) (m_25 : Int32) (m_26 : Int32) (m_27 : Int64) (m_28 : Nat) (m_29 : Nat) (m_31 : Nat) (m_32 : Nat) (m_33 : Nat) (m_35 : Nat) (m_36 : Nat) (m_37 : Int32) (m_38 : Nat) (m_39 : Int32) (m_40 : Int32) (m_42 : Nat) (r43_f : Nat → Int32) (r16_f : Nat → Int32) (r17_f : Nat → Int32) (n : Nat) (h0 : n ≤ 6000) (hb0 : m_38 ≤ 65535) (hb1 : m_14 ≤ 255) (hb2 : m_36 ≤ 65535) (hb3 : m_15 ≤ 2) (hb4 : m_32 ≤ 48000) (hb5 : m_33 ≤ 48000) (hb6 : m_42 ≤ 12) (pm_14 : Nat) (pm_15 : Nat) (pm_32 : Nat) (pm_33 : Nat) (pm_36 : Nat) (pm_37 : Int32) (pm_38 : Nat) (pm_39 : Int32) (pm_42 : Nat) (l4 : Nat) (hf0 : pm_14 ≤ 8) (hf1 : 10 ≤ n) (hf2 : pm_38 ≤ 65535) (hf3 : pm_14 ≤ 255) (hf4 : pm_36 ≤ 65535) (hf5 : pm_15 ≤ 2) (hf6 : pm_32 ≤ 48000) (hf7 : pm_33 ≤ 48000) (hf8 : pm_42 ≤ 12) {X : g_X} {rr : (β : Type) → (Int32 → Int32 → Nat → Nat → Nat → Nat → Nat → Nat → Nat → (Nat → Int32) → (Nat → Int32) → Int32 → β) → β} (kx_ : (β : Type) → (Int32 → Int32 → Nat → Nat → Nat → Nat → Nat → Nat → Nat → (Nat → Int32) → (Nat → Int32) → Int32 → β) → (Nat → Int32) → (Nat → Int32) → Nat → β) (B : Bd E X cX11_opens RX11 6 1 25 0 0) (hr : Rt E X (some .boolean) 0 0 (fun v_ w_ => ∃ zm_39 : Int32, ∃ zm_37 : Int32, ∃ zm_38 : Nat, ∃ zm_14 : Nat, ∃ zm_36 : Nat, ∃ zm_15 : Nat, ∃ zm_32 : Nat, ∃ zm_33 : Nat, ∃ zm_42 : Nat, ∃ zr16_f : Nat → Int32, ∃ zr17_f : Nat → Int32, ∃ zr : Int32, (zm_38 ≤ 65535) ∧ (zm_14 ≤ 255) ∧ (zm_36 ≤ 65535) ∧ (zm_15 ≤ 2) ∧ (zm_32 ≤ 48000) ∧ (zm_33 ≤ 48000) ∧ (zm_42 ≤ 12) ∧ (zr = 0 ∨ zr = 1) ∧ (zr = 0 ∨ (10 ≤ n ∧ zm_14 ≤ 8 ∧ zm_38 ≤ 600 ∧ 1 ≤ zm_15 ∧ zm_32 ≤ zm_33 ∧ zm_15 * zm_38 ≤ 1200 ∧ ∀ f, f < zm_38 → zm_15 * f + zm_15 ≤ 1200)) ∧ (∀ (β : Type) (k_ : Int32 → Int32 → Nat → Nat → Nat → Nat → Nat → Nat → Nat → (Nat → Int32) → (Nat → Int32) → Int32 → β), rr β k_ = k_ zm_39 zm_37 zm_38 zm_14 zm_36 zm_15 zm_32 zm_33 zm_42 zr16_f zr17_f zr) ∧ v_ = some (.int zr) ∧ w_ = [(m, .inr (11, mkF r m_1 m_4 m_9 m_10 zm_14 zm_15 m_25 m_26 m_27 m_28 m_29 m_31 zm_32 zm_33 m_35 zm_36 zm_37 zm_38 zm_39 m_40 zm_42)), ((r 43), .inl (E.2.2.1 1, 6000, .inl (nb r43_f))), ((r 16), .inl (E.2.2.1 0, 8, .inl zr16_f)), ((r 17), .inl (E.2.2.1 0, 8, .inl zr17_f))])) (K : ∀ (pr16_f : Nat → Int32) (pr17_f : Nat → Int32) (l5 : Nat), (l5 ≤ 8) → (∀ (β : Type) (k_ : Int32 → Int32 → Nat → Nat → Nat → Nat → Nat → Nat → Nat → (Nat → Int32) → (Nat → Int32) → Int32 → β), rr β k_ = kx_ β k_ pr16_f pr17_f l5) → G E X 6 [(m, .inr (11, mkF r m_1 m_4 m_9 m_10 pm_14 pm_15 m_25 m_26 m_27 m_28 m_29 m_31 pm_32 pm_33 m_35 pm_36 pm_37 pm_38 pm_39 m_40 pm_42)), ((r 43), .inl (E.2.2.1 1, 6000, .inl (nb r43_f))), ((r 16), .inl (E.2.2.1 0, 8, .inl pr16_f)), ((r 17), .inl (E.2.2.1 0, 8, .inl pr17_f))] 0 0 [(0, .ref m), (1, .int (nI n)), (2, .int (nI (n - 4))), (4, .int (nI l4)), (5, .int (nI l5))] 355 []) : ∀ (fuel : Nat) (pr16_f : Nat → Int32) (pr17_f : Nat → Int32) (l5 : Nat), (l5 ≤ 8) → (8 - l5) < fuel → (∀ (β : Type) (k_ : Int32 → Int32 → Nat → Nat → Nat → Nat → Nat → Nat → Nat → (Nat → Int32) → (Nat → Int32) → Int32 → β), rr β k_ = lf_wr_X11_opens_260 r43_f pm_14 pm_15 pm_32 pm_33 pm_36 pm_37 pm_38 pm_39 pm_42 β (kx_ β k_) k_ fuel pr16_f pr17_f l5) → G E X 6 [(m, .inr (11, mkF r m_1 m_4 m_9 m_10 pm_14 pm_15 m_25 m_26 m_27 m_28 m_29 m_31 pm_32 pm_33 m_35 pm_36 pm_37 pm_38 pm_39 m_40 pm_42)), ((r 43), .inl (E.2.2.1 1, 6000, .inl (nb r43_f))), ((r 16), .inl (E.2.2.1 0, 8, .inl pr16_f)), ((r 17), .inl (E.2.2.1 0, 8, .inl pr17_f))] 0 0 [(0, .ref m), (1, .int (nI n)), (2, .int (nI (n - 4))), (4, .int (nI l4)), (5, .int (nI l5))] 260 [] := by
  intro fuel
  induction fuel with
  | zero => intro pr16_f pr17_f l5 _ h _; exact absurd h (Nat.not_lt_zero _)
  | succ fuel ih =>
    intro pr16_f pr17_f l5 hv0 hm e_
    replace e_ := fun β k_ => (e_ β k_).trans lf_wr_X11_opens_260_s
    refine g_iload B dX11_opens_260 4 rfl ?_
    refine g_aload_n B dX11_opens_262 rfl 0 rfl ?_
    refine g_get B 0 14 fl_X11_121 rfl mf_14 dX11_opens_263 ?_
    refine g_icmp_ge (tgt := 355) B dX11_opens_266 (by decide) (fun c266_3204 => ?_) (fun c266_3204 => ?_)
    · have hn_3205 : pm_14 ≤ l5 := (nI_leI (a := pm_14) (b := l5) (by omega) (by omega)).mp c266_3204
      replace e_ := fun β k_ => (e_ β k_).trans (if_pos hn_3205)
      exact K pr16_f pr17_f l5 (by first | assumption | omega | decide | exact hCF _ (by omega)) e_
    · have hn_3206 : l5 < pm_14 := Nat.not_le.mp (fun q => c266_3204 ((nI_leI (a := pm_14) (b := l5) (by omega) (by omega)).mpr q))
      replace e_ := fun β k_ => (e_ β k_).trans (if_neg (Nat.not_le.mpr hn_3206))
      refine g_aload_n B dX11_opens_269 rfl 0 rfl ?_
      refine g_get B 0 16 fl_X11_42 rfl mf_16 dX11_opens_270 ?_
      refine g_iload B dX11_opens_273 4 rfl ?_
      refine g_aload_n B dX11_opens_275 rfl 0 rfl ?_
      refine g_get B 0 43 fl_X11_80 rfl mf_43 dX11_opens_276 ?_
      refine g_bipush (v := 6) B dX11_opens_279 (by decide) ?_
      refine g_iconst (v := 2) B dX11_opens_281 (by decide) ?_
      refine g_iload B dX11_opens_282 4 rfl ?_
      refine g_imul B dX11_opens_284 ?_
      refine g_ri (x' := nI (2 * l5)) (pk_mul 2 l5) ?_
      refine g_iadd B dX11_opens_285 ?_
      refine g_ri (x' := nI (6 + (2 * l5))) (nI_add 6 (2 * l5)) ?_
      refine g_bald B 1 rfl (vp_in_nI (by omega) (by omega)) dX11_opens_286 ?_
      refine g_ri (x' := (nb r43_f (6 + (2 * l5)))) (congrArg (nb r43_f) (nI_clamp (n := (6 + (2 * l5))) (by omega))) ?_
      refine g_iast (ws' := [(m, .inr (11, mkF r m_1 m_4 m_9 m_10 pm_14 pm_15 m_25 m_26 m_27 m_28 m_29 m_31 pm_32 pm_33 m_35 pm_36 pm_37 pm_38 pm_39 m_40 pm_42)), ((r 43), .inl (E.2.2.1 1, 6000, .inl (nb r43_f))), ((r 16), .inl (E.2.2.1 0, 8, .inl (upd pr16_f l5 (nb r43_f (6 + (2 * l5)))))), ((r 17), .inl (E.2.2.1 0, 8, .inl pr17_f))]) B 2 rfl (vp_in_nI (by omega) (by omega)) (by rw [nI_clamp (n := l5) (by omega)]; rfl) dX11_opens_287 ?_
      refine g_aload_n B dX11_opens_288 rfl 0 rfl ?_
      refine g_get B 0 17 fl_X11_45 rfl mf_17 dX11_opens_289 ?_
      refine g_iload B dX11_opens_292 4 rfl ?_
      refine g_aload_n B dX11_opens_294 rfl 0 rfl ?_
      refine g_get B 0 43 fl_X11_80 rfl mf_43 dX11_opens_295 ?_
      refine g_bipush (v := 7) B dX11_opens_298 (by decide) ?_
      refine g_iconst (v := 2) B dX11_opens_300 (by decide) ?_
      refine g_iload B dX11_opens_301 4 rfl ?_
      refine g_imul B dX11_opens_303 ?_
      refine g_ri (x' := nI (2 * l5)) (pk_mul 2 l5) ?_
      refine g_iadd B dX11_opens_304 ?_
      refine g_ri (x' := nI (7 + (2 * l5))) (nI_add 7 (2 * l5)) ?_
      refine g_bald B 1 rfl (vp_in_nI (by omega) (by omega)) dX11_opens_305 ?_
      refine g_ri (x' := (nb r43_f (7 + (2 * l5)))) (congrArg (nb r43_f) (nI_clamp (n := (7 + (2 * l5))) (by omega))) ?_
      refine g_iast (ws' := [(m, .inr (11, mkF r m_1 m_4 m_9 m_10 pm_14 pm_15 m_25 m_26 m_27 m_28 m_29 m_31 pm_32 pm_33 m_35 pm_36 pm_37 pm_38 pm_39 m_40 pm_42)), ((r 43), .inl (E.2.2.1 1, 6000, .inl (nb r43_f))), ((r 16), .inl (E.2.2.1 0, 8, .inl (upd pr16_f l5 (nb r43_f (6 + (2 * l5)))))), ((r 17), .inl (E.2.2.1 0, 8, .inl (upd pr17_f l5 (nb r43_f (7 + (2 * l5))))))]) B 3 rfl (vp_in_nI (by omega) (by omega)) (by rw [nI_clamp (n := l5) (by omega)]; rfl) dX11_opens_306 ?_
      refine g_aload_n B dX11_opens_307 rfl 0 rfl ?_
      refine g_get B 0 16 fl_X11_42 rfl mf_16 dX11_opens_308 ?_
      refine g_iload B dX11_opens_311 4 rfl ?_
      refine g_iald B 2 rfl (vp_in_nI (by omega) (by omega)) dX11_opens_313 ?_
      refine g_ri (x' := (nb r43_f (6 + (2 * l5)))) (by rw [nI_clamp (n := l5) (by omega)]; exact pk_us) ?_
      refine g_callS (st := []) (As := [.int (nb r43_f (6 + (2 * l5)))]) (wr := [(m, .inr (11, mkF r m_1 m_4 m_9 m_10 pm_14 pm_15 m_25 m_26 m_27 m_28 m_29 m_31 pm_32 pm_33 m_35 pm_36 pm_37 pm_38 pm_39 m_40 pm_42)), ((r 43), .inl (E.2.2.1 1, 6000, .inl (nb r43_f))), ((r 16), .inl (E.2.2.1 0, 8, .inl (upd pr16_f l5 (nb r43_f (6 + (2 * l5)))))), ((r 17), .inl (E.2.2.1 0, 8, .inl (upd pr17_f l5 (nb r43_f (7 + (2 * l5))))))]) (nc' := 0) (ns' := 0) B cl_X11_324 w_sm_X11_isTerm (wr_X11_isTerm_w E (nb r43_f (6 + (2 * l5))) ) rfl [] [0, 1, 2, 3] rfl rfl (by decide) (by decide) (by decide) ⟨by decide, by decide⟩ rfl rfl (by decide) (by decide) rfl (Nat.le_of_ble_eq_true rfl) dX11_opens_314 (fun v w hq => ?_)
      obtain ⟨zr_3207, hf_3208, hz_3209, rfl, rfl⟩ := hq
      replace e_ := fun β k_ => (e_ β k_).trans (hz_3209 β _)
      show G E X 6 [(m, .inr (11, mkF r m_1 m_4 m_9 m_10 pm_14 pm_15 m_25 m_26 m_27 m_28 m_29 m_31 pm_32 pm_33 m_35 pm_36 pm_37 pm_38 pm_39 m_40 pm_42)), ((r 43), .inl (E.2.2.1 1, 6000, .inl (nb r43_f))), ((r 16), .inl (E.2.2.1 0, 8, .inl (upd pr16_f l5 (nb r43_f (6 + (2 * l5)))))), ((r 17), .inl (E.2.2.1 0, 8, .inl (upd pr17_f l5 (nb r43_f (7 + (2 * l5))))))] 0 0 [(0, .ref m), (1, .int (nI n)), (2, .int (nI (n - 4))), (4, .int (nI l4)), (5, .int (nI l5))] 317 [.int zr_3207]
      refine g_if_eq (tgt := 343) B dX11_opens_317 (by decide) (fun c317_3210 => ?_) (fun c317_3210 => ?_)
      · replace e_ := fun β k_ => (e_ β k_).trans (if_pos c317_3210)
        refine g_aload_n B dX11_opens_343 rfl 0 rfl ?_
        refine g_iconst (v := 3) B dX11_opens_344 (by decide) ?_
        refine g_callV (st := []) (As := [.int 3]) (wr := [((r 43), .inl (E.2.2.1 1, 6000, .inl (nb r43_f))), ((r 16), .inl (E.2.2.1 0, 8, .inl (upd pr16_f l5 (nb r43_f (6 + (2 * l5)))))), ((r 17), .inl (E.2.2.1 0, 8, .inl (upd pr17_f l5 (nb r43_f (7 + (2 * l5))))))]) (nc' := 0) (ns' := 0) B cl_X11_313 w_im_X11_wrong w_se_X11_wrong (wr_X11_wrong E m r m_1 m_4 m_9 m_10 pm_14 pm_15 m_25 m_26 m_27 m_28 m_29 m_31 pm_32 pm_33 m_35 pm_36 pm_37 pm_38 pm_39 m_40 pm_42 3 (by first | assumption | omega | decide | exact hCF _ (by omega)) (by first | assumption | omega | decide | exact hCF _ (by omega)) (by first | assumption | omega | decide | exact hCF _ (by omega))) rfl [0] [1, 2, 3] rfl rfl (by decide) (by decide) (by decide) 0 rfl (fun q h => by cases h; rfl) rfl ⟨by decide, by decide⟩ rfl rfl (by decide) (by decide) rfl (Nat.le_of_ble_eq_true rfl) dX11_opens_345 (fun v w hq => ?_)
        obtain ⟨zm_42_3211, hf_3212, hf_3213, hz_3214, rfl, rfl⟩ := hq
        replace e_ := fun β k_ => (e_ β k_).trans (hz_3214 β _)
        show G E X 6 [((r 43), .inl (E.2.2.1 1, 6000, .inl (nb r43_f))), ((r 16), .inl (E.2.2.1 0, 8, .inl (upd pr16_f l5 (nb r43_f (6 + (2 * l5)))))), ((r 17), .inl (E.2.2.1 0, 8, .inl (upd pr17_f l5 (nb r43_f (7 + (2 * l5)))))), (m, .inr (11, mkF r m_1 m_4 m_9 m_10 pm_14 pm_15 m_25 m_26 m_27 m_28 m_29 m_31 pm_32 pm_33 m_35 pm_36 pm_37 pm_38 pm_39 m_40 zm_42_3211))] 0 0 [(0, .ref m), (1, .int (nI n)), (2, .int (nI (n - 4))), (4, .int (nI l4)), (5, .int (nI l5))] 348 [.int 0]
        refine g_sub (ws' := [(m, .inr (11, mkF r m_1 m_4 m_9 m_10 pm_14 pm_15 m_25 m_26 m_27 m_28 m_29 m_31 pm_32 pm_33 m_35 pm_36 pm_37 pm_38 pm_39 m_40 zm_42_3211)), ((r 43), .inl (E.2.2.1 1, 6000, .inl (nb r43_f))), ((r 16), .inl (E.2.2.1 0, 8, .inl (upd pr16_f l5 (nb r43_f (6 + (2 * l5)))))), ((r 17), .inl (E.2.2.1 0, 8, .inl (upd pr17_f l5 (nb r43_f (7 + (2 * l5))))))]) [3, 0, 1, 2] (by decide) rfl ?_
        exact g_zret B hr (by decide) dX11_opens_348 (by decide) (by decide) ⟨pm_39, pm_37, pm_38, pm_14, pm_36, pm_15, pm_32, pm_33, zm_42_3211, (upd pr16_f l5 (nb r43_f (6 + (2 * l5)))), (upd pr17_f l5 (nb r43_f (7 + (2 * l5)))), 0, (by first | assumption | omega | decide | exact hCF _ (by omega)), (by first | assumption | omega | decide | exact hCF _ (by omega)), (by first | assumption | omega | decide | exact hCF _ (by omega)), (by first | assumption | omega | decide | exact hCF _ (by omega)), (by first | assumption | omega | decide | exact hCF _ (by omega)), (by first | assumption | omega | decide | exact hCF _ (by omega)), (by first | assumption | omega | decide | exact hCF _ (by omega)), (by first | assumption | omega | decide | exact hCF _ (by omega)), (Or.inl rfl), e_, rfl, rfl⟩
      · replace e_ := fun β k_ => (e_ β k_).trans (if_neg c317_3210)
        refine g_aload_n B dX11_opens_320 rfl 0 rfl ?_
        refine g_get B 0 17 fl_X11_45 rfl mf_17 dX11_opens_321 ?_
        refine g_iload B dX11_opens_324 4 rfl ?_
        refine g_iald B 3 rfl (vp_in_nI (by omega) (by omega)) dX11_opens_326 ?_
        refine g_ri (x' := (nb r43_f (7 + (2 * l5)))) (by rw [nI_clamp (n := l5) (by omega)]; exact pk_us) ?_
        refine g_iconst (v := 1) B dX11_opens_327 (by decide) ?_
        refine g_icmp_lt (tgt := 343) B dX11_opens_328 (by decide) (fun c328_3215 => ?_) (fun c328_3215 => ?_)
        · replace e_ := fun β k_ => (e_ β k_).trans (if_pos c328_3215)
          refine g_aload_n B dX11_opens_343 rfl 0 rfl ?_
          refine g_iconst (v := 3) B dX11_opens_344 (by decide) ?_
          refine g_callV (st := []) (As := [.int 3]) (wr := [((r 43), .inl (E.2.2.1 1, 6000, .inl (nb r43_f))), ((r 16), .inl (E.2.2.1 0, 8, .inl (upd pr16_f l5 (nb r43_f (6 + (2 * l5)))))), ((r 17), .inl (E.2.2.1 0, 8, .inl (upd pr17_f l5 (nb r43_f (7 + (2 * l5))))))]) (nc' := 0) (ns' := 0) B cl_X11_313 w_im_X11_wrong w_se_X11_wrong (wr_X11_wrong E m r m_1 m_4 m_9 m_10 pm_14 pm_15 m_25 m_26 m_27 m_28 m_29 m_31 pm_32 pm_33 m_35 pm_36 pm_37 pm_38 pm_39 m_40 pm_42 3 (by first | assumption | omega | decide | exact hCF _ (by omega)) (by first | assumption | omega | decide | exact hCF _ (by omega)) (by first | assumption | omega | decide | exact hCF _ (by omega))) rfl [0] [1, 2, 3] rfl rfl (by decide) (by decide) (by decide) 0 rfl (fun q h => by cases h; rfl) rfl ⟨by decide, by decide⟩ rfl rfl (by decide) (by decide) rfl (Nat.le_of_ble_eq_true rfl) dX11_opens_345 (fun v w hq => ?_)
          obtain ⟨zm_42_3216, hf_3217, hf_3218, hz_3219, rfl, rfl⟩ := hq
          replace e_ := fun β k_ => (e_ β k_).trans (hz_3219 β _)
          show G E X 6 [((r 43), .inl (E.2.2.1 1, 6000, .inl (nb r43_f))), ((r 16), .inl (E.2.2.1 0, 8, .inl (upd pr16_f l5 (nb r43_f (6 + (2 * l5)))))), ((r 17), .inl (E.2.2.1 0, 8, .inl (upd pr17_f l5 (nb r43_f (7 + (2 * l5)))))), (m, .inr (11, mkF r m_1 m_4 m_9 m_10 pm_14 pm_15 m_25 m_26 m_27 m_28 m_29 m_31 pm_32 pm_33 m_35 pm_36 pm_37 pm_38 pm_39 m_40 zm_42_3216))] 0 0 [(0, .ref m), (1, .int (nI n)), (2, .int (nI (n - 4))), (4, .int (nI l4)), (5, .int (nI l5))] 348 [.int 0]
          refine g_sub (ws' := [(m, .inr (11, mkF r m_1 m_4 m_9 m_10 pm_14 pm_15 m_25 m_26 m_27 m_28 m_29 m_31 pm_32 pm_33 m_35 pm_36 pm_37 pm_38 pm_39 m_40 zm_42_3216)), ((r 43), .inl (E.2.2.1 1, 6000, .inl (nb r43_f))), ((r 16), .inl (E.2.2.1 0, 8, .inl (upd pr16_f l5 (nb r43_f (6 + (2 * l5)))))), ((r 17), .inl (E.2.2.1 0, 8, .inl (upd pr17_f l5 (nb r43_f (7 + (2 * l5))))))]) [3, 0, 1, 2] (by decide) rfl ?_
          exact g_zret B hr (by decide) dX11_opens_348 (by decide) (by decide) ⟨pm_39, pm_37, pm_38, pm_14, pm_36, pm_15, pm_32, pm_33, zm_42_3216, (upd pr16_f l5 (nb r43_f (6 + (2 * l5)))), (upd pr17_f l5 (nb r43_f (7 + (2 * l5)))), 0, (by first | assumption | omega | decide | exact hCF _ (by omega)), (by first | assumption | omega | decide | exact hCF _ (by omega)), (by first | assumption | omega | decide | exact hCF _ (by omega)), (by first | assumption | omega | decide | exact hCF _ (by omega)), (by first | assumption | omega | decide | exact hCF _ (by omega)), (by first | assumption | omega | decide | exact hCF _ (by omega)), (by first | assumption | omega | decide | exact hCF _ (by omega)), (by first | assumption | omega | decide | exact hCF _ (by omega)), (Or.inl rfl), e_, rfl, rfl⟩
        · replace e_ := fun β k_ => (e_ β k_).trans (if_neg c328_3215)
          refine g_aload_n B dX11_opens_331 rfl 0 rfl ?_
          refine g_get B 0 17 fl_X11_45 rfl mf_17 dX11_opens_332 ?_
          refine g_iload B dX11_opens_335 4 rfl ?_
          refine g_iald B 3 rfl (vp_in_nI (by omega) (by omega)) dX11_opens_337 ?_
          refine g_ri (x' := (nb r43_f (7 + (2 * l5)))) (by rw [nI_clamp (n := l5) (by omega)]; exact pk_us) ?_
          refine g_bipush (v := 7) B dX11_opens_338 (by decide) ?_
          refine g_icmp_le (tgt := 349) B dX11_opens_340 (by decide) (fun c340_3220 => ?_) (fun c340_3220 => ?_)
          · replace e_ := fun β k_ => (e_ β k_).trans (if_pos c340_3220)
            refine g_iinc (v := nI (l5 + 1)) (lv' := [(5, .int (nI (l5 + 1))), (0, .ref m), (1, .int (nI n)), (2, .int (nI (n - 4))), (4, .int (nI l4))]) B dX11_opens_349 4 rfl (nI_add l5 1) (by decide) rfl ?_
            refine g_goto (tgt := 260) B dX11_opens_352 (by decide) ?_
            refine g_lvsub (lv' := [(0, .ref m), (1, .int (nI n)), (2, .int (nI (n - 4))), (4, .int (nI l4)), (5, .int (nI (l5 + 1)))]) [1, 2, 3, 4, 0] rfl ?_
            exact ih (upd pr16_f l5 (nb r43_f (6 + (2 * l5)))) (upd pr17_f l5 (nb r43_f (7 + (2 * l5)))) (l5 + 1) (by first | assumption | omega | decide | exact hCF _ (by omega)) (by omega) e_
          · replace e_ := fun β k_ => (e_ β k_).trans (if_neg c340_3220)
            refine g_aload_n B dX11_opens_343 rfl 0 rfl ?_
            refine g_iconst (v := 3) B dX11_opens_344 (by decide) ?_
            refine g_callV (st := []) (As := [.int 3]) (wr := [((r 43), .inl (E.2.2.1 1, 6000, .inl (nb r43_f))), ((r 16), .inl (E.2.2.1 0, 8, .inl (upd pr16_f l5 (nb r43_f (6 + (2 * l5)))))), ((r 17), .inl (E.2.2.1 0, 8, .inl (upd pr17_f l5 (nb r43_f (7 + (2 * l5))))))]) (nc' := 0) (ns' := 0) B cl_X11_313 w_im_X11_wrong w_se_X11_wrong (wr_X11_wrong E m r m_1 m_4 m_9 m_10 pm_14 pm_15 m_25 m_26 m_27 m_28 m_29 m_31 pm_32 pm_33 m_35 pm_36 pm_37 pm_38 pm_39 m_40 pm_42 3 (by first | assumption | omega | decide | exact hCF _ (by omega)) (by first | assumption | omega | decide | exact hCF _ (by omega)) (by first | assumption | omega | decide | exact hCF _ (by omega))) rfl [0] [1, 2, 3] rfl rfl (by decide) (by decide) (by decide) 0 rfl (fun q h => by cases h; rfl) rfl ⟨by decide, by decide⟩ rfl rfl (by decide) (by decide) rfl (Nat.le_of_ble_eq_true rfl) dX11_opens_345 (fun v w hq => ?_)
            obtain ⟨zm_42_3221, hf_3222, hf_3223, hz_3224, rfl, rfl⟩ := hq
            replace e_ := fun β k_ => (e_ β k_).trans (hz_3224 β _)
            show G E X 6 [((r 43), .inl (E.2.2.1 1, 6000, .inl (nb r43_f))), ((r 16), .inl (E.2.2.1 0, 8, .inl (upd pr16_f l5 (nb r43_f (6 + (2 * l5)))))), ((r 17), .inl (E.2.2.1 0, 8, .inl (upd pr17_f l5 (nb r43_f (7 + (2 * l5)))))), (m, .inr (11, mkF r m_1 m_4 m_9 m_10 pm_14 pm_15 m_25 m_26 m_27 m_28 m_29 m_31 pm_32 pm_33 m_35 pm_36 pm_37 pm_38 pm_39 m_40 zm_42_3221))] 0 0 [(0, .ref m), (1, .int (nI n)), (2, .int (nI (n - 4))), (4, .int (nI l4)), (5, .int (nI l5))] 348 [.int 0]
            refine g_sub (ws' := [(m, .inr (11, mkF r m_1 m_4 m_9 m_10 pm_14 pm_15 m_25 m_26 m_27 m_28 m_29 m_31 pm_32 pm_33 m_35 pm_36 pm_37 pm_38 pm_39 m_40 zm_42_3221)), ((r 43), .inl (E.2.2.1 1, 6000, .inl (nb r43_f))), ((r 16), .inl (E.2.2.1 0, 8, .inl (upd pr16_f l5 (nb r43_f (6 + (2 * l5)))))), ((r 17), .inl (E.2.2.1 0, 8, .inl (upd pr17_f l5 (nb r43_f (7 + (2 * l5))))))]) [3, 0, 1, 2] (by decide) rfl ?_
            exact g_zret B hr (by decide) dX11_opens_348 (by decide) (by decide) ⟨pm_39, pm_37, pm_38, pm_14, pm_36, pm_15, pm_32, pm_33, zm_42_3221, (upd pr16_f l5 (nb r43_f (6 + (2 * l5)))), (upd pr17_f l5 (nb r43_f (7 + (2 * l5)))), 0, (by first | assumption | omega | decide | exact hCF _ (by omega)), (by first | assumption | omega | decide | exact hCF _ (by omega)), (by first | assumption | omega | decide | exact hCF _ (by omega)), (by first | assumption | omega | decide | exact hCF _ (by omega)), (by first | assumption | omega | decide | exact hCF _ (by omega)), (by first | assumption | omega | decide | exact hCF _ (by omega)), (by first | assumption | omega | decide | exact hCF _ (by omega)), (by first | assumption | omega | decide | exact hCF _ (by omega)), (Or.inl rfl), e_, rfl, rfl⟩
theorem dX11_opens_355 : decode cX11_opens 355 = .ok (.aload_n 0, 1) := by decide +kernel
theorem dX11_opens_356 : decode cX11_opens 356 = .ok (.iconst 0, 1) := by decide +kernel
theorem dX11_opens_357 : decode cX11_opens 357 = .ok (.putfield 203, 3) := by decide +kernel
theorem dX11_opens_360 : decode cX11_opens 360 = .ok (.aload_n 0, 1) := by decide +kernel
theorem dX11_opens_361 : decode cX11_opens 361 = .ok (.getfield 206, 3) := by decide +kernel
theorem dX11_opens_364 : decode cX11_opens 364 = .ok (.bipush 8, 2) := by decide +kernel
theorem dX11_opens_366 : decode cX11_opens 366 = .ok (.iand, 1) := by decide +kernel
theorem dX11_opens_367 : decode cX11_opens 367 = .ok (.ifCond .eq 51, 3) := by decide +kernel
theorem dX11_opens_418 : decode cX11_opens 418 = .ok (.aload_n 0, 1) := by decide +kernel
theorem dX11_opens_419 : decode cX11_opens 419 = .ok (.aload_n 0, 1) := by decide +kernel
theorem dX11_opens_420 : decode cX11_opens 420 = .ok (.getfield 206, 3) := by decide +kernel
theorem dX11_opens_423 : decode cX11_opens 423 = .ok (.iconst 3, 1) := by decide +kernel
theorem dX11_opens_424 : decode cX11_opens 424 = .ok (.iand, 1) := by decide +kernel
theorem dX11_opens_425 : decode cX11_opens 425 = .ok (.iconst 1, 1) := by decide +kernel
theorem dX11_opens_426 : decode cX11_opens 426 = .ok (.if_icmp .ne 7, 3) := by decide +kernel
theorem dX11_opens_433 : decode cX11_opens 433 = .ok (.iconst 1, 1) := by decide +kernel
theorem dX11_opens_434 : decode cX11_opens 434 = .ok (.putfield 118, 3) := by decide +kernel
theorem dX11_opens_437 : decode cX11_opens 437 = .ok (.aload_n 0, 1) := by decide +kernel
theorem dX11_opens_438 : decode cX11_opens 438 = .ok (.bipush 8, 2) := by decide +kernel
theorem dX11_opens_440 : decode cX11_opens 440 = .ok (.iload 4, 2) := by decide +kernel
theorem dX11_opens_442 : decode cX11_opens 442 = .ok (.imul, 1) := by decide +kernel
theorem dX11_opens_443 : decode cX11_opens 443 = .ok (.putfield 307, 3) := by decide +kernel
theorem dX11_opens_446 : decode cX11_opens 446 = .ok (.aload_n 0, 1) := by decide +kernel
theorem dX11_opens_447 : decode cX11_opens 447 = .ok (.bipush 8, 2) := by decide +kernel
theorem dX11_opens_449 : decode cX11_opens 449 = .ok (.iload_n 2, 1) := by decide +kernel
theorem dX11_opens_450 : decode cX11_opens 450 = .ok (.imul, 1) := by decide +kernel
theorem dX11_opens_451 : decode cX11_opens 451 = .ok (.putfield 310, 3) := by decide +kernel
theorem pf_X11_33 : PF 11 33 .int false := fun C T N h => by cases h; exact ⟨⟨tyX11, tyX11_ok⟩, nmX11, by decide +kernel, rfl, rfl⟩
theorem dX11_opens_454 : decode cX11_opens 454 = .ok (.iconst 1, 1) := by decide +kernel
theorem dX11_opens_455 : decode cX11_opens 455 = .ok (.ireturn, 1) := by decide +kernel
theorem dX11_opens_429 : decode cX11_opens 429 = .ok (.iconst 2, 1) := by decide +kernel
theorem dX11_opens_430 : decode cX11_opens 430 = .ok (.goto 4, 3) := by decide +kernel
theorem dX11_opens_251 : decode cX11_opens 251 = .ok (.aload_n 0, 1) := by decide +kernel
theorem dX11_opens_252 : decode cX11_opens 252 = .ok (.iconst 3, 1) := by decide +kernel
theorem dX11_opens_253 : decode cX11_opens 253 = .ok (.invokevirtual 313, 3) := by decide +kernel
theorem dX11_opens_256 : decode cX11_opens 256 = .ok (.ireturn, 1) := by decide +kernel
theorem dX11_opens_241 : decode cX11_opens 241 = .ok (.iconst 2, 1) := by decide +kernel
theorem dX11_opens_242 : decode cX11_opens 242 = .ok (.goto 4, 3) := by decide +kernel
theorem dX11_opens_370 : decode cX11_opens 370 = .ok (.aload_n 0, 1) := by decide +kernel
theorem dX11_opens_371 : decode cX11_opens 371 = .ok (.aload_n 0, 1) := by decide +kernel
theorem dX11_opens_372 : decode cX11_opens 372 = .ok (.getfield 80, 3) := by decide +kernel
theorem dX11_opens_375 : decode cX11_opens 375 = .ok (.iload 4, 2) := by decide +kernel
theorem dX11_opens_377 : decode cX11_opens 377 = .ok (.baload, 1) := by decide +kernel
theorem dX11_opens_378 : decode cX11_opens 378 = .ok (.sipush 255, 3) := by decide +kernel
theorem dX11_opens_381 : decode cX11_opens 381 = .ok (.iand, 1) := by decide +kernel
theorem dX11_opens_382 : decode cX11_opens 382 = .ok (.bipush 8, 2) := by decide +kernel
theorem dX11_opens_384 : decode cX11_opens 384 = .ok (.ishl, 1) := by decide +kernel
theorem dX11_opens_385 : decode cX11_opens 385 = .ok (.aload_n 0, 1) := by decide +kernel
theorem dX11_opens_386 : decode cX11_opens 386 = .ok (.getfield 80, 3) := by decide +kernel
theorem dX11_opens_389 : decode cX11_opens 389 = .ok (.iload 4, 2) := by decide +kernel
theorem dX11_opens_391 : decode cX11_opens 391 = .ok (.iconst 1, 1) := by decide +kernel
theorem dX11_opens_392 : decode cX11_opens 392 = .ok (.iadd, 1) := by decide +kernel
theorem dX11_opens_393 : decode cX11_opens 393 = .ok (.baload, 1) := by decide +kernel
theorem dX11_opens_394 : decode cX11_opens 394 = .ok (.sipush 255, 3) := by decide +kernel
theorem dX11_opens_397 : decode cX11_opens 397 = .ok (.iand, 1) := by decide +kernel
theorem dX11_opens_398 : decode cX11_opens 398 = .ok (.ior, 1) := by decide +kernel
theorem dX11_opens_399 : decode cX11_opens 399 = .ok (.putfield 203, 3) := by decide +kernel
theorem dX11_opens_402 : decode cX11_opens 402 = .ok (.aload_n 0, 1) := by decide +kernel
theorem dX11_opens_403 : decode cX11_opens 403 = .ok (.getfield 203, 3) := by decide +kernel
theorem dX11_opens_406 : decode cX11_opens 406 = .ok (.ifCond .ne 9, 3) := by decide +kernel
theorem dX11_opens_415 : decode cX11_opens 415 = .ok (.iinc 4 2, 3) := by decide +kernel
theorem dX11_opens_409 : decode cX11_opens 409 = .ok (.aload_n 0, 1) := by decide +kernel
theorem dX11_opens_410 : decode cX11_opens 410 = .ok (.iconst 3, 1) := by decide +kernel
theorem dX11_opens_411 : decode cX11_opens 411 = .ok (.invokevirtual 313, 3) := by decide +kernel
theorem dX11_opens_414 : decode cX11_opens 414 = .ok (.ireturn, 1) := by decide +kernel
set_option maxRecDepth 100000 in
def jf_wr_X11_opens_141 (r43_f : Nat → Int32) (n : Nat) (pm_14 : Nat) (pm_15 : Nat) (pm_32 : Nat) (pm_33 : Nat) (pm_36 : Nat) (pm_37 : Int32) (pm_38 : Nat) (pm_39 : Int32) (pm_42 : Nat) (pr16_f : Nat → Int32) (pr17_f : Nat → Int32) (l3 : Int32) (β : Type) (k_ : Int32 → Int32 → Nat → Nat → Nat → Nat → Nat → Nat → Nat → (Nat → Int32) → (Nat → Int32) → Int32 → β) : β := (if (nb r43_f 0) = 83 then (if 15 < pm_39 then (fn_wr_X11_wrong pm_42 3 β (fun zm_42_3164 => (k_ pm_39 pm_37 pm_38 pm_14 pm_36 pm_15 pm_32 pm_33 zm_42_3164 pr16_f pr17_f 0))) else (if l3 = 0 then (if (pm_39 &&& 6) = 6 then (fn_wr_X11_wrong pm_42 3 β (fun zm_42_3174 => (k_ pm_39 pm_37 pm_38 pm_14 pm_36 pm_15 pm_32 pm_33 zm_42_3174 pr16_f pr17_f 0))) else (if 23 < pm_37 then (fn_wr_X11_wrong pm_42 3 β (fun zm_42_3179 => (k_ pm_39 pm_37 pm_38 pm_14 pm_36 pm_15 pm_32 pm_33 zm_42_3179 pr16_f pr17_f 0))) else (if pm_38 = 0 then (fn_wr_X11_wrong pm_42 3 β (fun zm_42_3186 => (k_ pm_39 pm_37 pm_38 pm_14 pm_36 pm_15 pm_32 pm_33 zm_42_3186 pr16_f pr17_f 0))) else (if 600 < pm_38 then (fn_wr_X11_wrong pm_42 3 β (fun zm_42_3193 => (k_ pm_39 pm_37 pm_38 pm_14 pm_36 pm_15 pm_32 pm_33 zm_42_3193 pr16_f pr17_f 0))) else (if pm_14 ≤ 8 then (if (pm_39 &&& 8) = 0 then (if ((6 + (2 * pm_14)) + 0) ≤ (n - 4) then (lf_wr_X11_opens_260 r43_f pm_14 pm_15 pm_32 pm_33 pm_36 pm_37 pm_38 pm_39 pm_42 β (fun y_3225pr16_f y_3225pr17_f y_3225l5 => (if ((pm_39).toBitVec.toNat % 4) = 1 then (k_ pm_39 pm_37 pm_38 pm_14 0 2 (8 * (6 + (2 * pm_14))) (8 * (n - 4)) pm_42 y_3225pr16_f y_3225pr17_f 1) else (k_ pm_39 pm_37 pm_38 pm_14 0 1 (8 * (6 + (2 * pm_14))) (8 * (n - 4)) pm_42 y_3225pr16_f y_3225pr17_f 1))) k_ ((8 - 0) + 1) pr16_f pr17_f 0) else (fn_wr_X11_wrong pm_42 3 β (fun zm_42_3229 => (k_ pm_39 pm_37 pm_38 pm_14 pm_36 pm_15 pm_32 pm_33 zm_42_3229 pr16_f pr17_f 0)))) else (if ((6 + (2 * pm_14)) + 2) ≤ (n - 4) then (lf_wr_X11_opens_260 r43_f pm_14 pm_15 pm_32 pm_33 pm_36 pm_37 pm_38 pm_39 pm_42 β (fun y_3236pr16_f y_3236pr17_f y_3236l5 => (if (((((nb r43_f (6 + (2 * pm_14)))).toBitVec.toNat % 256) * 256) ||| (((nb r43_f ((6 + (2 * pm_14)) + 1))).toBitVec.toNat % 256)) = 0 then (fn_wr_X11_wrong pm_42 3 β (fun zm_42_3244 => (k_ pm_39 pm_37 pm_38 pm_14 (((((nb r43_f (6 + (2 * pm_14)))).toBitVec.toNat % 256) * 256) ||| (((nb r43_f ((6 + (2 * pm_14)) + 1))).toBitVec.toNat % 256)) pm_15 pm_32 pm_33 zm_42_3244 y_3236pr16_f y_3236pr17_f 0))) else (if ((pm_39).toBitVec.toNat % 4) = 1 then (k_ pm_39 pm_37 pm_38 pm_14 (((((nb r43_f (6 + (2 * pm_14)))).toBitVec.toNat % 256) * 256) ||| (((nb r43_f ((6 + (2 * pm_14)) + 1))).toBitVec.toNat % 256)) 2 (8 * ((6 + (2 * pm_14)) + 2)) (8 * (n - 4)) pm_42 y_3236pr16_f y_3236pr17_f 1) else (k_ pm_39 pm_37 pm_38 pm_14 (((((nb r43_f (6 + (2 * pm_14)))).toBitVec.toNat % 256) * 256) ||| (((nb r43_f ((6 + (2 * pm_14)) + 1))).toBitVec.toNat % 256)) 1 (8 * ((6 + (2 * pm_14)) + 2)) (8 * (n - 4)) pm_42 y_3236pr16_f y_3236pr17_f 1)))) k_ ((8 - 0) + 1) pr16_f pr17_f 0) else (fn_wr_X11_wrong pm_42 3 β (fun zm_42_3248 => (k_ pm_39 pm_37 pm_38 pm_14 pm_36 pm_15 pm_32 pm_33 zm_42_3248 pr16_f pr17_f 0))))) else (fn_wr_X11_wrong pm_42 3 β (fun zm_42_3252 => (k_ pm_39 pm_37 pm_38 pm_14 pm_36 pm_15 pm_32 pm_33 zm_42_3252 pr16_f pr17_f 0)))))))) else (fn_wr_X11_wrong pm_42 3 β (fun zm_42_3169 => (k_ pm_39 pm_37 pm_38 pm_14 pm_36 pm_15 pm_32 pm_33 zm_42_3169 pr16_f pr17_f 0))))) else (fn_wr_X11_wrong pm_42 3 β (fun zm_42_3159 => (k_ pm_39 pm_37 pm_38 pm_14 pm_36 pm_15 pm_32 pm_33 zm_42_3159 pr16_f pr17_f 0))))
set_option maxRecDepth 100000 in
theorem jf_wr_X11_opens_141_s {r43_f : Nat → Int32} {n : Nat} {pm_14 : Nat} {pm_15 : Nat} {pm_32 : Nat} {pm_33 : Nat} {pm_36 : Nat} {pm_37 : Int32} {pm_38 : Nat} {pm_39 : Int32} {pm_42 : Nat} {pr16_f : Nat → Int32} {pr17_f : Nat → Int32} {l3 : Int32} {β : Type} {k_ : Int32 → Int32 → Nat → Nat → Nat → Nat → Nat → Nat → Nat → (Nat → Int32) → (Nat → Int32) → Int32 → β} : jf_wr_X11_opens_141 r43_f n pm_14 pm_15 pm_32 pm_33 pm_36 pm_37 pm_38 pm_39 pm_42 pr16_f pr17_f l3 β k_ = (if (nb r43_f 0) = 83 then (if 15 < pm_39 then (fn_wr_X11_wrong pm_42 3 β (fun zm_42_3164 => (k_ pm_39 pm_37 pm_38 pm_14 pm_36 pm_15 pm_32 pm_33 zm_42_3164 pr16_f pr17_f 0))) else (if l3 = 0 then (if (pm_39 &&& 6) = 6 then (fn_wr_X11_wrong pm_42 3 β (fun zm_42_3174 => (k_ pm_39 pm_37 pm_38 pm_14 pm_36 pm_15 pm_32 pm_33 zm_42_3174 pr16_f pr17_f 0))) else (if 23 < pm_37 then (fn_wr_X11_wrong pm_42 3 β (fun zm_42_3179 => (k_ pm_39 pm_37 pm_38 pm_14 pm_36 pm_15 pm_32 pm_33 zm_42_3179 pr16_f pr17_f 0))) else (if pm_38 = 0 then (fn_wr_X11_wrong pm_42 3 β (fun zm_42_3186 => (k_ pm_39 pm_37 pm_38 pm_14 pm_36 pm_15 pm_32 pm_33 zm_42_3186 pr16_f pr17_f 0))) else (if 600 < pm_38 then (fn_wr_X11_wrong pm_42 3 β (fun zm_42_3193 => (k_ pm_39 pm_37 pm_38 pm_14 pm_36 pm_15 pm_32 pm_33 zm_42_3193 pr16_f pr17_f 0))) else (if pm_14 ≤ 8 then (if (pm_39 &&& 8) = 0 then (if ((6 + (2 * pm_14)) + 0) ≤ (n - 4) then (lf_wr_X11_opens_260 r43_f pm_14 pm_15 pm_32 pm_33 pm_36 pm_37 pm_38 pm_39 pm_42 β (fun y_3225pr16_f y_3225pr17_f y_3225l5 => (if ((pm_39).toBitVec.toNat % 4) = 1 then (k_ pm_39 pm_37 pm_38 pm_14 0 2 (8 * (6 + (2 * pm_14))) (8 * (n - 4)) pm_42 y_3225pr16_f y_3225pr17_f 1) else (k_ pm_39 pm_37 pm_38 pm_14 0 1 (8 * (6 + (2 * pm_14))) (8 * (n - 4)) pm_42 y_3225pr16_f y_3225pr17_f 1))) k_ ((8 - 0) + 1) pr16_f pr17_f 0) else (fn_wr_X11_wrong pm_42 3 β (fun zm_42_3229 => (k_ pm_39 pm_37 pm_38 pm_14 pm_36 pm_15 pm_32 pm_33 zm_42_3229 pr16_f pr17_f 0)))) else (if ((6 + (2 * pm_14)) + 2) ≤ (n - 4) then (lf_wr_X11_opens_260 r43_f pm_14 pm_15 pm_32 pm_33 pm_36 pm_37 pm_38 pm_39 pm_42 β (fun y_3236pr16_f y_3236pr17_f y_3236l5 => (if (((((nb r43_f (6 + (2 * pm_14)))).toBitVec.toNat % 256) * 256) ||| (((nb r43_f ((6 + (2 * pm_14)) + 1))).toBitVec.toNat % 256)) = 0 then (fn_wr_X11_wrong pm_42 3 β (fun zm_42_3244 => (k_ pm_39 pm_37 pm_38 pm_14 (((((nb r43_f (6 + (2 * pm_14)))).toBitVec.toNat % 256) * 256) ||| (((nb r43_f ((6 + (2 * pm_14)) + 1))).toBitVec.toNat % 256)) pm_15 pm_32 pm_33 zm_42_3244 y_3236pr16_f y_3236pr17_f 0))) else (if ((pm_39).toBitVec.toNat % 4) = 1 then (k_ pm_39 pm_37 pm_38 pm_14 (((((nb r43_f (6 + (2 * pm_14)))).toBitVec.toNat % 256) * 256) ||| (((nb r43_f ((6 + (2 * pm_14)) + 1))).toBitVec.toNat % 256)) 2 (8 * ((6 + (2 * pm_14)) + 2)) (8 * (n - 4)) pm_42 y_3236pr16_f y_3236pr17_f 1) else (k_ pm_39 pm_37 pm_38 pm_14 (((((nb r43_f (6 + (2 * pm_14)))).toBitVec.toNat % 256) * 256) ||| (((nb r43_f ((6 + (2 * pm_14)) + 1))).toBitVec.toNat % 256)) 1 (8 * ((6 + (2 * pm_14)) + 2)) (8 * (n - 4)) pm_42 y_3236pr16_f y_3236pr17_f 1)))) k_ ((8 - 0) + 1) pr16_f pr17_f 0) else (fn_wr_X11_wrong pm_42 3 β (fun zm_42_3248 => (k_ pm_39 pm_37 pm_38 pm_14 pm_36 pm_15 pm_32 pm_33 zm_42_3248 pr16_f pr17_f 0))))) else (fn_wr_X11_wrong pm_42 3 β (fun zm_42_3252 => (k_ pm_39 pm_37 pm_38 pm_14 pm_36 pm_15 pm_32 pm_33 zm_42_3252 pr16_f pr17_f 0)))))))) else (fn_wr_X11_wrong pm_42 3 β (fun zm_42_3169 => (k_ pm_39 pm_37 pm_38 pm_14 pm_36 pm_15 pm_32 pm_33 zm_42_3169 pr16_f pr17_f 0))))) else (fn_wr_X11_wrong pm_42 3 β (fun zm_42_3159 => (k_ pm_39 pm_37 pm_38 pm_14 pm_36 pm_15 pm_32 pm_33 zm_42_3159 pr16_f pr17_f 0)))) := rfl
set_option maxRecDepth 100000 in
set_option maxHeartbeats 4000000 in
theorem jn_wr_X11_opens_141 (E : g_E) (m : Nat) (r : Nat → Nat) (m_1 : Nat) (m_4 : Nat) (m_9 : Nat) (m_10 : Nat) (m_14 : Nat) (m_15 : Nat) (m_25 : Int32) (m_26 : Int32) (m_27 : Int64) (m_28 : Nat) (m_29 : Nat) (m_31 : Nat) (m_32 : Nat) (m_33 : Nat) (m_35 : Nat) (m_36 : Nat) (m_37 : Int32) (m_38 : Nat) (m_39 : Int32) (m_40 : Int32) (m_42 : Nat) (r43_f : Nat → Int32) (r16_f : Nat → Int32) (r17_f : Nat → Int32) (n : Nat) (h0 : n ≤ 6000) (hb0 : m_38 ≤ 65535) (hb1 : m_14 ≤ 255) (hb2 : m_36 ≤ 65535) (hb3 : m_15 ≤ 2) (hb4 : m_32 ≤ 48000) (hb5 : m_33 ≤ 48000) (hb6 : m_42 ≤ 12) (pm_14 : Nat) (pm_15 : Nat) (pm_32 : Nat) (pm_33 : Nat) (pm_36 : Nat) (pm_37 : Int32) (pm_38 : Nat) (pm_39 : Int32) (pm_42 : Nat) (pr16_f : Nat → Int32) (pr17_f : Nat → Int32) (l3 : Int32) (hv0 : pm_14 ≤ 255) (hv1 : pm_15 ≤ 2) (hv2 : pm_32 ≤ 48000) (hv3 : pm_33 ≤ 48000) (hv4 : pm_36 ≤ 65535) (hv5 : pm_38 ≤ 65535) (hv6 : pm_42 ≤ 12) (hv7 : 10 ≤ n) {X : g_X} {rr : (β : Type) → (Int32 → Int32 → Nat → Nat → Nat → Nat → Nat → Nat → Nat → (Nat → Int32) → (Nat → Int32) → Int32 → β) → β} (B : Bd E X cX11_opens RX11 6 1 25 0 0) (hr : Rt E X (some .boolean) 0 0 (fun v_ w_ => ∃ zm_39 : Int32, ∃ zm_37 : Int32, ∃ zm_38 : Nat, ∃ zm_14 : Nat, ∃ zm_36 : Nat, ∃ zm_15 : Nat, ∃ zm_32 : Nat, ∃ zm_33 : Nat, ∃ zm_42 : Nat, ∃ zr16_f : Nat → Int32, ∃ zr17_f : Nat → Int32, ∃ zr : Int32, (zm_38 ≤ 65535) ∧ (zm_14 ≤ 255) ∧ (zm_36 ≤ 65535) ∧ (zm_15 ≤ 2) ∧ (zm_32 ≤ 48000) ∧ (zm_33 ≤ 48000) ∧ (zm_42 ≤ 12) ∧ (zr = 0 ∨ zr = 1) ∧ (zr = 0 ∨ (10 ≤ n ∧ zm_14 ≤ 8 ∧ zm_38 ≤ 600 ∧ 1 ≤ zm_15 ∧ zm_32 ≤ zm_33 ∧ zm_15 * zm_38 ≤ 1200 ∧ ∀ f, f < zm_38 → zm_15 * f + zm_15 ≤ 1200)) ∧ (∀ (β : Type) (k_ : Int32 → Int32 → Nat → Nat → Nat → Nat → Nat → Nat → Nat → (Nat → Int32) → (Nat → Int32) → Int32 → β), rr β k_ = k_ zm_39 zm_37 zm_38 zm_14 zm_36 zm_15 zm_32 zm_33 zm_42 zr16_f zr17_f zr) ∧ v_ = some (.int zr) ∧ w_ = [(m, .inr (11, mkF r m_1 m_4 m_9 m_10 zm_14 zm_15 m_25 m_26 m_27 m_28 m_29 m_31 zm_32 zm_33 m_35 zm_36 zm_37 zm_38 zm_39 m_40 zm_42)), ((r 43), .inl (E.2.2.1 1, 6000, .inl (nb r43_f))), ((r 16), .inl (E.2.2.1 0, 8, .inl zr16_f)), ((r 17), .inl (E.2.2.1 0, 8, .inl zr17_f))])) (e_ : ∀ (β : Type) (k_ : Int32 → Int32 → Nat → Nat → Nat → Nat → Nat → Nat → Nat → (Nat → Int32) → (Nat → Int32) → Int32 → β), rr β k_ = jf_wr_X11_opens_141 r43_f n pm_14 pm_15 pm_32 pm_33 pm_36 pm_37 pm_38 pm_39 pm_42 pr16_f pr17_f l3 β k_) : G E X 6 [(m, .inr (11, mkF r m_1 m_4 m_9 m_10 pm_14 pm_15 m_25 m_26 m_27 m_28 m_29 m_31 pm_32 pm_33 m_35 pm_36 pm_37 pm_38 pm_39 m_40 pm_42)), ((r 43), .inl (E.2.2.1 1, 6000, .inl (nb r43_f))), ((r 16), .inl (E.2.2.1 0, 8, .inl pr16_f)), ((r 17), .inl (E.2.2.1 0, 8, .inl pr17_f))] 0 0 [(0, .ref m), (1, .int (nI n)), (2, .int (nI (n - 4))), (3, .int l3)] 141 [] := by
  replace e_ := fun β k_ => (e_ β k_).trans jf_wr_X11_opens_141_s
  refine g_aload_n B dX11_opens_141 rfl 0 rfl ?_
  refine g_get B 0 43 fl_X11_80 rfl mf_43 dX11_opens_142 ?_
  refine g_iconst (v := 0) B dX11_opens_145 (by decide) ?_
  refine g_bald B 1 rfl (by unfold vp_in; decide) dX11_opens_146 ?_
  refine g_ri (x' := (nb r43_f 0)) (congrArg (nb r43_f) (by decide)) ?_
  refine g_bipush (v := 83) B dX11_opens_147 (by decide) ?_
  refine g_icmp_ne (tgt := 212) B dX11_opens_149 (by decide) (fun c149_3158 => ?_) (fun c149_3158 => ?_)
  · replace e_ := fun β k_ => (e_ β k_).trans (if_neg c149_3158)
    refine g_aload_n B dX11_opens_212 rfl 0 rfl ?_
    refine g_iconst (v := 3) B dX11_opens_213 (by decide) ?_
    refine g_callV (st := []) (As := [.int 3]) (wr := [((r 43), .inl (E.2.2.1 1, 6000, .inl (nb r43_f))), ((r 16), .inl (E.2.2.1 0, 8, .inl pr16_f)), ((r 17), .inl (E.2.2.1 0, 8, .inl pr17_f))]) (nc' := 0) (ns' := 0) B cl_X11_313 w_im_X11_wrong w_se_X11_wrong (wr_X11_wrong E m r m_1 m_4 m_9 m_10 pm_14 pm_15 m_25 m_26 m_27 m_28 m_29 m_31 pm_32 pm_33 m_35 pm_36 pm_37 pm_38 pm_39 m_40 pm_42 3 (by first | assumption | omega | decide | exact hCF _ (by omega)) (by first | assumption | omega | decide | exact hCF _ (by omega)) (by first | assumption | omega | decide | exact hCF _ (by omega))) rfl [0] [1, 2, 3] rfl rfl (by decide) (by decide) (by decide) 0 rfl (fun q h => by cases h; rfl) rfl ⟨by decide, by decide⟩ rfl rfl (by decide) (by decide) rfl (Nat.le_of_ble_eq_true rfl) dX11_opens_214 (fun v w hq => ?_)
    obtain ⟨zm_42_3159, hf_3160, hf_3161, hz_3162, rfl, rfl⟩ := hq
    replace e_ := fun β k_ => (e_ β k_).trans (hz_3162 β _)
    show G E X 6 [((r 43), .inl (E.2.2.1 1, 6000, .inl (nb r43_f))), ((r 16), .inl (E.2.2.1 0, 8, .inl pr16_f)), ((r 17), .inl (E.2.2.1 0, 8, .inl pr17_f)), (m, .inr (11, mkF r m_1 m_4 m_9 m_10 pm_14 pm_15 m_25 m_26 m_27 m_28 m_29 m_31 pm_32 pm_33 m_35 pm_36 pm_37 pm_38 pm_39 m_40 zm_42_3159))] 0 0 [(0, .ref m), (1, .int (nI n)), (2, .int (nI (n - 4))), (3, .int l3)] 217 [.int 0]
    refine g_sub (ws' := [(m, .inr (11, mkF r m_1 m_4 m_9 m_10 pm_14 pm_15 m_25 m_26 m_27 m_28 m_29 m_31 pm_32 pm_33 m_35 pm_36 pm_37 pm_38 pm_39 m_40 zm_42_3159)), ((r 43), .inl (E.2.2.1 1, 6000, .inl (nb r43_f))), ((r 16), .inl (E.2.2.1 0, 8, .inl pr16_f)), ((r 17), .inl (E.2.2.1 0, 8, .inl pr17_f))]) [3, 0, 1, 2] (by decide) rfl ?_
    exact g_zret B hr (by decide) dX11_opens_217 (by decide) (by decide) ⟨pm_39, pm_37, pm_38, pm_14, pm_36, pm_15, pm_32, pm_33, zm_42_3159, pr16_f, pr17_f, 0, (by first | assumption | omega | decide | exact hCF _ (by omega)), (by first | assumption | omega | decide | exact hCF _ (by omega)), (by first | assumption | omega | decide | exact hCF _ (by omega)), (by first | assumption | omega | decide | exact hCF _ (by omega)), (by first | assumption | omega | decide | exact hCF _ (by omega)), (by first | assumption | omega | decide | exact hCF _ (by omega)), (by first | assumption | omega | decide | exact hCF _ (by omega)), (by first | assumption | omega | decide | exact hCF _ (by omega)), (Or.inl rfl), e_, rfl, rfl⟩
  · replace e_ := fun β k_ => (e_ β k_).trans (if_pos c149_3158)
    refine g_aload_n B dX11_opens_152 rfl 0 rfl ?_
    refine g_get B 0 39 fl_X11_206 rfl mf_39 dX11_opens_153 ?_
    refine g_bipush (v := 15) B dX11_opens_156 (by decide) ?_
    refine g_icmp_gt (tgt := 212) B dX11_opens_158 (by decide) (fun c158_3163 => ?_) (fun c158_3163 => ?_)
    · replace e_ := fun β k_ => (e_ β k_).trans (if_pos c158_3163)
      refine g_aload_n B dX11_opens_212 rfl 0 rfl ?_
      refine g_iconst (v := 3) B dX11_opens_213 (by decide) ?_
      refine g_callV (st := []) (As := [.int 3]) (wr := [((r 43), .inl (E.2.2.1 1, 6000, .inl (nb r43_f))), ((r 16), .inl (E.2.2.1 0, 8, .inl pr16_f)), ((r 17), .inl (E.2.2.1 0, 8, .inl pr17_f))]) (nc' := 0) (ns' := 0) B cl_X11_313 w_im_X11_wrong w_se_X11_wrong (wr_X11_wrong E m r m_1 m_4 m_9 m_10 pm_14 pm_15 m_25 m_26 m_27 m_28 m_29 m_31 pm_32 pm_33 m_35 pm_36 pm_37 pm_38 pm_39 m_40 pm_42 3 (by first | assumption | omega | decide | exact hCF _ (by omega)) (by first | assumption | omega | decide | exact hCF _ (by omega)) (by first | assumption | omega | decide | exact hCF _ (by omega))) rfl [0] [1, 2, 3] rfl rfl (by decide) (by decide) (by decide) 0 rfl (fun q h => by cases h; rfl) rfl ⟨by decide, by decide⟩ rfl rfl (by decide) (by decide) rfl (Nat.le_of_ble_eq_true rfl) dX11_opens_214 (fun v w hq => ?_)
      obtain ⟨zm_42_3164, hf_3165, hf_3166, hz_3167, rfl, rfl⟩ := hq
      replace e_ := fun β k_ => (e_ β k_).trans (hz_3167 β _)
      show G E X 6 [((r 43), .inl (E.2.2.1 1, 6000, .inl (nb r43_f))), ((r 16), .inl (E.2.2.1 0, 8, .inl pr16_f)), ((r 17), .inl (E.2.2.1 0, 8, .inl pr17_f)), (m, .inr (11, mkF r m_1 m_4 m_9 m_10 pm_14 pm_15 m_25 m_26 m_27 m_28 m_29 m_31 pm_32 pm_33 m_35 pm_36 pm_37 pm_38 pm_39 m_40 zm_42_3164))] 0 0 [(0, .ref m), (1, .int (nI n)), (2, .int (nI (n - 4))), (3, .int l3)] 217 [.int 0]
      refine g_sub (ws' := [(m, .inr (11, mkF r m_1 m_4 m_9 m_10 pm_14 pm_15 m_25 m_26 m_27 m_28 m_29 m_31 pm_32 pm_33 m_35 pm_36 pm_37 pm_38 pm_39 m_40 zm_42_3164)), ((r 43), .inl (E.2.2.1 1, 6000, .inl (nb r43_f))), ((r 16), .inl (E.2.2.1 0, 8, .inl pr16_f)), ((r 17), .inl (E.2.2.1 0, 8, .inl pr17_f))]) [3, 0, 1, 2] (by decide) rfl ?_
      exact g_zret B hr (by decide) dX11_opens_217 (by decide) (by decide) ⟨pm_39, pm_37, pm_38, pm_14, pm_36, pm_15, pm_32, pm_33, zm_42_3164, pr16_f, pr17_f, 0, (by first | assumption | omega | decide | exact hCF _ (by omega)), (by first | assumption | omega | decide | exact hCF _ (by omega)), (by first | assumption | omega | decide | exact hCF _ (by omega)), (by first | assumption | omega | decide | exact hCF _ (by omega)), (by first | assumption | omega | decide | exact hCF _ (by omega)), (by first | assumption | omega | decide | exact hCF _ (by omega)), (by first | assumption | omega | decide | exact hCF _ (by omega)), (by first | assumption | omega | decide | exact hCF _ (by omega)), (Or.inl rfl), e_, rfl, rfl⟩
    · replace e_ := fun β k_ => (e_ β k_).trans (if_neg c158_3163)
      refine g_iload_n B dX11_opens_161 rfl 3 rfl ?_
      refine g_if_ne (tgt := 212) B dX11_opens_162 (by decide) (fun c162_3168 => ?_) (fun c162_3168 => ?_)
      · replace e_ := fun β k_ => (e_ β k_).trans (if_neg c162_3168)
        refine g_aload_n B dX11_opens_212 rfl 0 rfl ?_
        refine g_iconst (v := 3) B dX11_opens_213 (by decide) ?_
        refine g_callV (st := []) (As := [.int 3]) (wr := [((r 43), .inl (E.2.2.1 1, 6000, .inl (nb r43_f))), ((r 16), .inl (E.2.2.1 0, 8, .inl pr16_f)), ((r 17), .inl (E.2.2.1 0, 8, .inl pr17_f))]) (nc' := 0) (ns' := 0) B cl_X11_313 w_im_X11_wrong w_se_X11_wrong (wr_X11_wrong E m r m_1 m_4 m_9 m_10 pm_14 pm_15 m_25 m_26 m_27 m_28 m_29 m_31 pm_32 pm_33 m_35 pm_36 pm_37 pm_38 pm_39 m_40 pm_42 3 (by first | assumption | omega | decide | exact hCF _ (by omega)) (by first | assumption | omega | decide | exact hCF _ (by omega)) (by first | assumption | omega | decide | exact hCF _ (by omega))) rfl [0] [1, 2, 3] rfl rfl (by decide) (by decide) (by decide) 0 rfl (fun q h => by cases h; rfl) rfl ⟨by decide, by decide⟩ rfl rfl (by decide) (by decide) rfl (Nat.le_of_ble_eq_true rfl) dX11_opens_214 (fun v w hq => ?_)
        obtain ⟨zm_42_3169, hf_3170, hf_3171, hz_3172, rfl, rfl⟩ := hq
        replace e_ := fun β k_ => (e_ β k_).trans (hz_3172 β _)
        show G E X 6 [((r 43), .inl (E.2.2.1 1, 6000, .inl (nb r43_f))), ((r 16), .inl (E.2.2.1 0, 8, .inl pr16_f)), ((r 17), .inl (E.2.2.1 0, 8, .inl pr17_f)), (m, .inr (11, mkF r m_1 m_4 m_9 m_10 pm_14 pm_15 m_25 m_26 m_27 m_28 m_29 m_31 pm_32 pm_33 m_35 pm_36 pm_37 pm_38 pm_39 m_40 zm_42_3169))] 0 0 [(0, .ref m), (1, .int (nI n)), (2, .int (nI (n - 4))), (3, .int l3)] 217 [.int 0]
        refine g_sub (ws' := [(m, .inr (11, mkF r m_1 m_4 m_9 m_10 pm_14 pm_15 m_25 m_26 m_27 m_28 m_29 m_31 pm_32 pm_33 m_35 pm_36 pm_37 pm_38 pm_39 m_40 zm_42_3169)), ((r 43), .inl (E.2.2.1 1, 6000, .inl (nb r43_f))), ((r 16), .inl (E.2.2.1 0, 8, .inl pr16_f)), ((r 17), .inl (E.2.2.1 0, 8, .inl pr17_f))]) [3, 0, 1, 2] (by decide) rfl ?_
        exact g_zret B hr (by decide) dX11_opens_217 (by decide) (by decide) ⟨pm_39, pm_37, pm_38, pm_14, pm_36, pm_15, pm_32, pm_33, zm_42_3169, pr16_f, pr17_f, 0, (by first | assumption | omega | decide | exact hCF _ (by omega)), (by first | assumption | omega | decide | exact hCF _ (by omega)), (by first | assumption | omega | decide | exact hCF _ (by omega)), (by first | assumption | omega | decide | exact hCF _ (by omega)), (by first | assumption | omega | decide | exact hCF _ (by omega)), (by first | assumption | omega | decide | exact hCF _ (by omega)), (by first | assumption | omega | decide | exact hCF _ (by omega)), (by first | assumption | omega | decide | exact hCF _ (by omega)), (Or.inl rfl), e_, rfl, rfl⟩
      · replace e_ := fun β k_ => (e_ β k_).trans (if_pos c162_3168)
        refine g_aload_n B dX11_opens_165 rfl 0 rfl ?_
        refine g_get B 0 39 fl_X11_206 rfl mf_39 dX11_opens_166 ?_
        refine g_bipush (v := 6) B dX11_opens_169 (by decide) ?_
        refine g_iand B dX11_opens_171 ?_
        refine g_bipush (v := 6) B dX11_opens_172 (by decide) ?_
        refine g_icmp_eq (tgt := 212) B dX11_opens_174 (by decide) (fun c174_3173 => ?_) (fun c174_3173 => ?_)
        · replace e_ := fun β k_ => (e_ β k_).trans (if_pos c174_3173)
          refine g_aload_n B dX11_opens_212 rfl 0 rfl ?_
          refine g_iconst (v := 3) B dX11_opens_213 (by decide) ?_
          refine g_callV (st := []) (As := [.int 3]) (wr := [((r 43), .inl (E.2.2.1 1, 6000, .inl (nb r43_f))), ((r 16), .inl (E.2.2.1 0, 8, .inl pr16_f)), ((r 17), .inl (E.2.2.1 0, 8, .inl pr17_f))]) (nc' := 0) (ns' := 0) B cl_X11_313 w_im_X11_wrong w_se_X11_wrong (wr_X11_wrong E m r m_1 m_4 m_9 m_10 pm_14 pm_15 m_25 m_26 m_27 m_28 m_29 m_31 pm_32 pm_33 m_35 pm_36 pm_37 pm_38 pm_39 m_40 pm_42 3 (by first | assumption | omega | decide | exact hCF _ (by omega)) (by first | assumption | omega | decide | exact hCF _ (by omega)) (by first | assumption | omega | decide | exact hCF _ (by omega))) rfl [0] [1, 2, 3] rfl rfl (by decide) (by decide) (by decide) 0 rfl (fun q h => by cases h; rfl) rfl ⟨by decide, by decide⟩ rfl rfl (by decide) (by decide) rfl (Nat.le_of_ble_eq_true rfl) dX11_opens_214 (fun v w hq => ?_)
          obtain ⟨zm_42_3174, hf_3175, hf_3176, hz_3177, rfl, rfl⟩ := hq
          replace e_ := fun β k_ => (e_ β k_).trans (hz_3177 β _)
          show G E X 6 [((r 43), .inl (E.2.2.1 1, 6000, .inl (nb r43_f))), ((r 16), .inl (E.2.2.1 0, 8, .inl pr16_f)), ((r 17), .inl (E.2.2.1 0, 8, .inl pr17_f)), (m, .inr (11, mkF r m_1 m_4 m_9 m_10 pm_14 pm_15 m_25 m_26 m_27 m_28 m_29 m_31 pm_32 pm_33 m_35 pm_36 pm_37 pm_38 pm_39 m_40 zm_42_3174))] 0 0 [(0, .ref m), (1, .int (nI n)), (2, .int (nI (n - 4))), (3, .int l3)] 217 [.int 0]
          refine g_sub (ws' := [(m, .inr (11, mkF r m_1 m_4 m_9 m_10 pm_14 pm_15 m_25 m_26 m_27 m_28 m_29 m_31 pm_32 pm_33 m_35 pm_36 pm_37 pm_38 pm_39 m_40 zm_42_3174)), ((r 43), .inl (E.2.2.1 1, 6000, .inl (nb r43_f))), ((r 16), .inl (E.2.2.1 0, 8, .inl pr16_f)), ((r 17), .inl (E.2.2.1 0, 8, .inl pr17_f))]) [3, 0, 1, 2] (by decide) rfl ?_
          exact g_zret B hr (by decide) dX11_opens_217 (by decide) (by decide) ⟨pm_39, pm_37, pm_38, pm_14, pm_36, pm_15, pm_32, pm_33, zm_42_3174, pr16_f, pr17_f, 0, (by first | assumption | omega | decide | exact hCF _ (by omega)), (by first | assumption | omega | decide | exact hCF _ (by omega)), (by first | assumption | omega | decide | exact hCF _ (by omega)), (by first | assumption | omega | decide | exact hCF _ (by omega)), (by first | assumption | omega | decide | exact hCF _ (by omega)), (by first | assumption | omega | decide | exact hCF _ (by omega)), (by first | assumption | omega | decide | exact hCF _ (by omega)), (by first | assumption | omega | decide | exact hCF _ (by omega)), (Or.inl rfl), e_, rfl, rfl⟩
        · replace e_ := fun β k_ => (e_ β k_).trans (if_neg c174_3173)
          refine g_aload_n B dX11_opens_177 rfl 0 rfl ?_
          refine g_get B 0 37 fl_X11_196 rfl mf_37 dX11_opens_178 ?_
          refine g_bipush (v := 23) B dX11_opens_181 (by decide) ?_
          refine g_icmp_gt (tgt := 212) B dX11_opens_183 (by decide) (fun c183_3178 => ?_) (fun c183_3178 => ?_)
          · replace e_ := fun β k_ => (e_ β k_).trans (if_pos c183_3178)
            refine g_aload_n B dX11_opens_212 rfl 0 rfl ?_
            refine g_iconst (v := 3) B dX11_opens_213 (by decide) ?_
            refine g_callV (st := []) (As := [.int 3]) (wr := [((r 43), .inl (E.2.2.1 1, 6000, .inl (nb r43_f))), ((r 16), .inl (E.2.2.1 0, 8, .inl pr16_f)), ((r 17), .inl (E.2.2.1 0, 8, .inl pr17_f))]) (nc' := 0) (ns' := 0) B cl_X11_313 w_im_X11_wrong w_se_X11_wrong (wr_X11_wrong E m r m_1 m_4 m_9 m_10 pm_14 pm_15 m_25 m_26 m_27 m_28 m_29 m_31 pm_32 pm_33 m_35 pm_36 pm_37 pm_38 pm_39 m_40 pm_42 3 (by first | assumption | omega | decide | exact hCF _ (by omega)) (by first | assumption | omega | decide | exact hCF _ (by omega)) (by first | assumption | omega | decide | exact hCF _ (by omega))) rfl [0] [1, 2, 3] rfl rfl (by decide) (by decide) (by decide) 0 rfl (fun q h => by cases h; rfl) rfl ⟨by decide, by decide⟩ rfl rfl (by decide) (by decide) rfl (Nat.le_of_ble_eq_true rfl) dX11_opens_214 (fun v w hq => ?_)
            obtain ⟨zm_42_3179, hf_3180, hf_3181, hz_3182, rfl, rfl⟩ := hq
            replace e_ := fun β k_ => (e_ β k_).trans (hz_3182 β _)
            show G E X 6 [((r 43), .inl (E.2.2.1 1, 6000, .inl (nb r43_f))), ((r 16), .inl (E.2.2.1 0, 8, .inl pr16_f)), ((r 17), .inl (E.2.2.1 0, 8, .inl pr17_f)), (m, .inr (11, mkF r m_1 m_4 m_9 m_10 pm_14 pm_15 m_25 m_26 m_27 m_28 m_29 m_31 pm_32 pm_33 m_35 pm_36 pm_37 pm_38 pm_39 m_40 zm_42_3179))] 0 0 [(0, .ref m), (1, .int (nI n)), (2, .int (nI (n - 4))), (3, .int l3)] 217 [.int 0]
            refine g_sub (ws' := [(m, .inr (11, mkF r m_1 m_4 m_9 m_10 pm_14 pm_15 m_25 m_26 m_27 m_28 m_29 m_31 pm_32 pm_33 m_35 pm_36 pm_37 pm_38 pm_39 m_40 zm_42_3179)), ((r 43), .inl (E.2.2.1 1, 6000, .inl (nb r43_f))), ((r 16), .inl (E.2.2.1 0, 8, .inl pr16_f)), ((r 17), .inl (E.2.2.1 0, 8, .inl pr17_f))]) [3, 0, 1, 2] (by decide) rfl ?_
            exact g_zret B hr (by decide) dX11_opens_217 (by decide) (by decide) ⟨pm_39, pm_37, pm_38, pm_14, pm_36, pm_15, pm_32, pm_33, zm_42_3179, pr16_f, pr17_f, 0, (by first | assumption | omega | decide | exact hCF _ (by omega)), (by first | assumption | omega | decide | exact hCF _ (by omega)), (by first | assumption | omega | decide | exact hCF _ (by omega)), (by first | assumption | omega | decide | exact hCF _ (by omega)), (by first | assumption | omega | decide | exact hCF _ (by omega)), (by first | assumption | omega | decide | exact hCF _ (by omega)), (by first | assumption | omega | decide | exact hCF _ (by omega)), (by first | assumption | omega | decide | exact hCF _ (by omega)), (Or.inl rfl), e_, rfl, rfl⟩
          · replace e_ := fun β k_ => (e_ β k_).trans (if_neg c183_3178)
            refine g_aload_n B dX11_opens_186 rfl 0 rfl ?_
            refine g_get B 0 38 fl_X11_189 rfl mf_38 dX11_opens_187 ?_
            refine g_if_eq (tgt := 212) B dX11_opens_190 (by decide) (fun c190_3183 => ?_) (fun c190_3183 => ?_)
            · have hn_3184 : pm_38 = 0 := (nI_eq (a := pm_38) (b := 0) (by omega) (by omega)).mp c190_3183
              replace e_ := fun β k_ => (e_ β k_).trans (if_pos hn_3184)
              refine g_aload_n B dX11_opens_212 rfl 0 rfl ?_
              refine g_iconst (v := 3) B dX11_opens_213 (by decide) ?_
              refine g_callV (st := []) (As := [.int 3]) (wr := [((r 43), .inl (E.2.2.1 1, 6000, .inl (nb r43_f))), ((r 16), .inl (E.2.2.1 0, 8, .inl pr16_f)), ((r 17), .inl (E.2.2.1 0, 8, .inl pr17_f))]) (nc' := 0) (ns' := 0) B cl_X11_313 w_im_X11_wrong w_se_X11_wrong (wr_X11_wrong E m r m_1 m_4 m_9 m_10 pm_14 pm_15 m_25 m_26 m_27 m_28 m_29 m_31 pm_32 pm_33 m_35 pm_36 pm_37 pm_38 pm_39 m_40 pm_42 3 (by first | assumption | omega | decide | exact hCF _ (by omega)) (by first | assumption | omega | decide | exact hCF _ (by omega)) (by first | assumption | omega | decide | exact hCF _ (by omega))) rfl [0] [1, 2, 3] rfl rfl (by decide) (by decide) (by decide) 0 rfl (fun q h => by cases h; rfl) rfl ⟨by decide, by decide⟩ rfl rfl (by decide) (by decide) rfl (Nat.le_of_ble_eq_true rfl) dX11_opens_214 (fun v w hq => ?_)
              obtain ⟨zm_42_3186, hf_3187, hf_3188, hz_3189, rfl, rfl⟩ := hq
              replace e_ := fun β k_ => (e_ β k_).trans (hz_3189 β _)
              show G E X 6 [((r 43), .inl (E.2.2.1 1, 6000, .inl (nb r43_f))), ((r 16), .inl (E.2.2.1 0, 8, .inl pr16_f)), ((r 17), .inl (E.2.2.1 0, 8, .inl pr17_f)), (m, .inr (11, mkF r m_1 m_4 m_9 m_10 pm_14 pm_15 m_25 m_26 m_27 m_28 m_29 m_31 pm_32 pm_33 m_35 pm_36 pm_37 pm_38 pm_39 m_40 zm_42_3186))] 0 0 [(0, .ref m), (1, .int (nI n)), (2, .int (nI (n - 4))), (3, .int l3)] 217 [.int 0]
              refine g_sub (ws' := [(m, .inr (11, mkF r m_1 m_4 m_9 m_10 pm_14 pm_15 m_25 m_26 m_27 m_28 m_29 m_31 pm_32 pm_33 m_35 pm_36 pm_37 pm_38 pm_39 m_40 zm_42_3186)), ((r 43), .inl (E.2.2.1 1, 6000, .inl (nb r43_f))), ((r 16), .inl (E.2.2.1 0, 8, .inl pr16_f)), ((r 17), .inl (E.2.2.1 0, 8, .inl pr17_f))]) [3, 0, 1, 2] (by decide) rfl ?_
              exact g_zret B hr (by decide) dX11_opens_217 (by decide) (by decide) ⟨pm_39, pm_37, pm_38, pm_14, pm_36, pm_15, pm_32, pm_33, zm_42_3186, pr16_f, pr17_f, 0, (by first | assumption | omega | decide | exact hCF _ (by omega)), (by first | assumption | omega | decide | exact hCF _ (by omega)), (by first | assumption | omega | decide | exact hCF _ (by omega)), (by first | assumption | omega | decide | exact hCF _ (by omega)), (by first | assumption | omega | decide | exact hCF _ (by omega)), (by first | assumption | omega | decide | exact hCF _ (by omega)), (by first | assumption | omega | decide | exact hCF _ (by omega)), (by first | assumption | omega | decide | exact hCF _ (by omega)), (Or.inl rfl), e_, rfl, rfl⟩
            · have hn_3185 : ¬ pm_38 = 0 := fun q => c190_3183 ((nI_eq (a := pm_38) (b := 0) (by omega) (by omega)).mpr q)
              replace e_ := fun β k_ => (e_ β k_).trans (if_neg hn_3185)
              refine g_aload_n B dX11_opens_193 rfl 0 rfl ?_
              refine g_get B 0 38 fl_X11_189 rfl mf_38 dX11_opens_194 ?_
              refine g_sipush (v := 600) B dX11_opens_197 (by decide) ?_
              refine g_icmp_gt (tgt := 212) B dX11_opens_200 (by decide) (fun c200_3190 => ?_) (fun c200_3190 => ?_)
              · have hn_3191 : 600 < pm_38 := (nI_ltI (a := 600) (b := pm_38) (by omega) (by omega)).mp c200_3190
                replace e_ := fun β k_ => (e_ β k_).trans (if_pos hn_3191)
                refine g_aload_n B dX11_opens_212 rfl 0 rfl ?_
                refine g_iconst (v := 3) B dX11_opens_213 (by decide) ?_
                refine g_callV (st := []) (As := [.int 3]) (wr := [((r 43), .inl (E.2.2.1 1, 6000, .inl (nb r43_f))), ((r 16), .inl (E.2.2.1 0, 8, .inl pr16_f)), ((r 17), .inl (E.2.2.1 0, 8, .inl pr17_f))]) (nc' := 0) (ns' := 0) B cl_X11_313 w_im_X11_wrong w_se_X11_wrong (wr_X11_wrong E m r m_1 m_4 m_9 m_10 pm_14 pm_15 m_25 m_26 m_27 m_28 m_29 m_31 pm_32 pm_33 m_35 pm_36 pm_37 pm_38 pm_39 m_40 pm_42 3 (by first | assumption | omega | decide | exact hCF _ (by omega)) (by first | assumption | omega | decide | exact hCF _ (by omega)) (by first | assumption | omega | decide | exact hCF _ (by omega))) rfl [0] [1, 2, 3] rfl rfl (by decide) (by decide) (by decide) 0 rfl (fun q h => by cases h; rfl) rfl ⟨by decide, by decide⟩ rfl rfl (by decide) (by decide) rfl (Nat.le_of_ble_eq_true rfl) dX11_opens_214 (fun v w hq => ?_)
                obtain ⟨zm_42_3193, hf_3194, hf_3195, hz_3196, rfl, rfl⟩ := hq
                replace e_ := fun β k_ => (e_ β k_).trans (hz_3196 β _)
                show G E X 6 [((r 43), .inl (E.2.2.1 1, 6000, .inl (nb r43_f))), ((r 16), .inl (E.2.2.1 0, 8, .inl pr16_f)), ((r 17), .inl (E.2.2.1 0, 8, .inl pr17_f)), (m, .inr (11, mkF r m_1 m_4 m_9 m_10 pm_14 pm_15 m_25 m_26 m_27 m_28 m_29 m_31 pm_32 pm_33 m_35 pm_36 pm_37 pm_38 pm_39 m_40 zm_42_3193))] 0 0 [(0, .ref m), (1, .int (nI n)), (2, .int (nI (n - 4))), (3, .int l3)] 217 [.int 0]
                refine g_sub (ws' := [(m, .inr (11, mkF r m_1 m_4 m_9 m_10 pm_14 pm_15 m_25 m_26 m_27 m_28 m_29 m_31 pm_32 pm_33 m_35 pm_36 pm_37 pm_38 pm_39 m_40 zm_42_3193)), ((r 43), .inl (E.2.2.1 1, 6000, .inl (nb r43_f))), ((r 16), .inl (E.2.2.1 0, 8, .inl pr16_f)), ((r 17), .inl (E.2.2.1 0, 8, .inl pr17_f))]) [3, 0, 1, 2] (by decide) rfl ?_
                exact g_zret B hr (by decide) dX11_opens_217 (by decide) (by decide) ⟨pm_39, pm_37, pm_38, pm_14, pm_36, pm_15, pm_32, pm_33, zm_42_3193, pr16_f, pr17_f, 0, (by first | assumption | omega | decide | exact hCF _ (by omega)), (by first | assumption | omega | decide | exact hCF _ (by omega)), (by first | assumption | omega | decide | exact hCF _ (by omega)), (by first | assumption | omega | decide | exact hCF _ (by omega)), (by first | assumption | omega | decide | exact hCF _ (by omega)), (by first | assumption | omega | decide | exact hCF _ (by omega)), (by first | assumption | omega | decide | exact hCF _ (by omega)), (by first | assumption | omega | decide | exact hCF _ (by omega)), (Or.inl rfl), e_, rfl, rfl⟩
              · have hn_3192 : pm_38 ≤ 600 := Nat.not_lt.mp (fun q => c200_3190 ((nI_ltI (a := 600) (b := pm_38) (by omega) (by omega)).mpr q))
                replace e_ := fun β k_ => (e_ β k_).trans (if_neg (Nat.not_lt.mpr hn_3192))
                refine g_aload_n B dX11_opens_203 rfl 0 rfl ?_
                refine g_get B 0 14 fl_X11_121 rfl mf_14 dX11_opens_204 ?_
                refine g_bipush (v := 8) B dX11_opens_207 (by decide) ?_
                refine g_icmp_le (tgt := 218) B dX11_opens_209 (by decide) (fun c209_3197 => ?_) (fun c209_3197 => ?_)
                · have hn_3198 : pm_14 ≤ 8 := (nI_leI (a := pm_14) (b := 8) (by omega) (by omega)).mp c209_3197
                  replace e_ := fun β k_ => (e_ β k_).trans (if_pos hn_3198)
                  refine g_bipush (v := 6) B dX11_opens_218 (by decide) ?_
                  refine g_iconst (v := 2) B dX11_opens_220 (by decide) ?_
                  refine g_aload_n B dX11_opens_221 rfl 0 rfl ?_
                  refine g_get B 0 14 fl_X11_121 rfl mf_14 dX11_opens_222 ?_
                  refine g_imul B dX11_opens_225 ?_
                  refine g_ri (x' := nI (2 * pm_14)) (pk_mul 2 pm_14) ?_
                  refine g_iadd B dX11_opens_226 ?_
                  refine g_ri (x' := nI (6 + (2 * pm_14))) (nI_add 6 (2 * pm_14)) ?_
                  refine g_istore (lv' := [(4, .int (nI (6 + (2 * pm_14)))), (0, .ref m), (1, .int (nI n)), (2, .int (nI (n - 4))), (3, .int l3)]) B dX11_opens_227 (by decide) rfl ?_
                  refine g_iload B dX11_opens_229 0 rfl ?_
                  refine g_aload_n B dX11_opens_231 rfl 1 rfl ?_
                  refine g_get B 0 39 fl_X11_206 rfl mf_39 dX11_opens_232 ?_
                  refine g_bipush (v := 8) B dX11_opens_235 (by decide) ?_
                  refine g_iand B dX11_opens_237 ?_
                  refine g_if_eq (tgt := 245) B dX11_opens_238 (by decide) (fun c238_3200 => ?_) (fun c238_3200 => ?_)
                  · replace e_ := fun β k_ => (e_ β k_).trans (if_pos c238_3200)
                    refine g_iconst (v := 0) B dX11_opens_245 (by decide) ?_
                    refine g_iadd B dX11_opens_246 ?_
                    refine g_ri (x' := nI ((6 + (2 * pm_14)) + 0)) (nI_add (6 + (2 * pm_14)) 0) ?_
                    refine g_iload_n B dX11_opens_247 rfl 3 rfl ?_
                    refine g_icmp_le (tgt := 257) B dX11_opens_248 (by decide) (fun c248_3201 => ?_) (fun c248_3201 => ?_)
                    · have hn_3202 : ((6 + (2 * pm_14)) + 0) ≤ (n - 4) := (nI_leI (a := ((6 + (2 * pm_14)) + 0)) (b := (n - 4)) (by omega) (by omega)).mp c248_3201
                      replace e_ := fun β k_ => (e_ β k_).trans (if_pos hn_3202)
                      refine g_iconst (v := 0) B dX11_opens_257 (by decide) ?_
                      refine g_istore (lv' := [(5, .int 0), (4, .int (nI (6 + (2 * pm_14)))), (0, .ref m), (1, .int (nI n)), (2, .int (nI (n - 4))), (3, .int l3)]) B dX11_opens_258 (by decide) rfl ?_
                      refine g_lvsub (lv' := [(0, .ref m), (1, .int (nI n)), (2, .int (nI (n - 4))), (4, .int (nI (6 + (2 * pm_14)))), (5, .int 0)]) [2, 3, 4, 1, 0] rfl ?_
                      refine lp_wr_X11_opens_260 E m r m_1 m_4 m_9 m_10 m_14 m_15 m_25 m_26 m_27 m_28 m_29 m_31 m_32 m_33 m_35 m_36 m_37 m_38 m_39 m_40 m_42 r43_f r16_f r17_f n h0 hb0 hb1 hb2 hb3 hb4 hb5 hb6 pm_14 pm_15 pm_32 pm_33 pm_36 pm_37 pm_38 pm_39 pm_42 (6 + (2 * pm_14)) (by first | assumption | omega | decide | exact hCF _ (by omega)) (by first | assumption | omega | decide | exact hCF _ (by omega)) (by first | assumption | omega | decide | exact hCF _ (by omega)) (by first | assumption | omega | decide | exact hCF _ (by omega)) (by first | assumption | omega | decide | exact hCF _ (by omega)) (by first | assumption | omega | decide | exact hCF _ (by omega)) (by first | assumption | omega | decide | exact hCF _ (by omega)) (by first | assumption | omega | decide | exact hCF _ (by omega)) (by first | assumption | omega | decide | exact hCF _ (by omega)) _ B hr (fun y_3225pr16_f y_3225pr17_f y_3225l5 y_3225k0 e_ => ?_) _ pr16_f pr17_f 0 (by first | assumption | omega | decide | exact hCF _ (by omega)) (Nat.lt_succ_self _) e_
                      show G E X 6 [(m, .inr (11, mkF r m_1 m_4 m_9 m_10 pm_14 pm_15 m_25 m_26 m_27 m_28 m_29 m_31 pm_32 pm_33 m_35 pm_36 pm_37 pm_38 pm_39 m_40 pm_42)), ((r 43), .inl (E.2.2.1 1, 6000, .inl (nb r43_f))), ((r 16), .inl (E.2.2.1 0, 8, .inl y_3225pr16_f)), ((r 17), .inl (E.2.2.1 0, 8, .inl y_3225pr17_f))] 0 0 [(0, .ref m), (1, .int (nI n)), (2, .int (nI (n - 4))), (4, .int (nI (6 + (2 * pm_14)))), (5, .int (nI y_3225l5))] 355 []
                      refine g_aload_n B dX11_opens_355 rfl 0 rfl ?_
                      refine g_iconst (v := 0) B dX11_opens_356 (by decide) ?_
                      refine g_putM (ws' := [(m, .inr (11, mkF r m_1 m_4 m_9 m_10 pm_14 pm_15 m_25 m_26 m_27 m_28 m_29 m_31 pm_32 pm_33 m_35 0 pm_37 pm_38 pm_39 m_40 pm_42)), ((r 43), .inl (E.2.2.1 1, 6000, .inl (nb r43_f))), ((r 16), .inl (E.2.2.1 0, 8, .inl y_3225pr16_f)), ((r 17), .inl (E.2.2.1 0, 8, .inl y_3225pr17_f))]) (fs' := mkF r m_1 m_4 m_9 m_10 pm_14 pm_15 m_25 m_26 m_27 m_28 m_29 m_31 pm_32 pm_33 m_35 0 pm_37 pm_38 pm_39 m_40 pm_42) B 0 36 fl_X11_203 pf_X11_36 rfl (mlt (by decide)) rfl rfl (ms_36 (by decide)) rfl dX11_opens_357 ?_
                      refine g_aload_n B dX11_opens_360 rfl 0 rfl ?_
                      refine g_get B 0 39 fl_X11_206 rfl mf_39 dX11_opens_361 ?_
                      refine g_bipush (v := 8) B dX11_opens_364 (by decide) ?_
                      refine g_iand B dX11_opens_366 ?_
                      refine g_if_eq (tgt := 418) B dX11_opens_367 (by decide) (fun c367 => ?_) (fun h => absurd c238_3200 h)
                      refine g_aload_n B dX11_opens_418 rfl 0 rfl ?_
                      refine g_aload_n B dX11_opens_419 rfl 0 rfl ?_
                      refine g_get B 0 39 fl_X11_206 rfl mf_39 dX11_opens_420 ?_
                      refine g_iconst (v := 3) B dX11_opens_423 (by decide) ?_
                      refine g_iand B dX11_opens_424 ?_
                      refine g_ri (x' := nI ((pm_39).toBitVec.toNat % 4)) (pk_and pm_39 (m := 3) 2 (by decide)) ?_
                      refine g_iconst (v := 1) B dX11_opens_425 (by decide) ?_
                      refine g_icmp_ne (tgt := 433) B dX11_opens_426 (by decide) (fun c426_3226 => ?_) (fun c426_3226 => ?_)
                      · have hn_3227 : ¬ ((pm_39).toBitVec.toNat % 4) = 1 := fun q => c426_3226 ((nI_eq (a := ((pm_39).toBitVec.toNat % 4)) (b := 1) (by omega) (by omega)).mpr q)
                        replace e_ := fun β k_ => (e_ β k_).trans (if_neg hn_3227)
                        refine g_iconst (v := 1) B dX11_opens_433 (by decide) ?_
                        refine g_putM (ws' := [(m, .inr (11, mkF r m_1 m_4 m_9 m_10 pm_14 1 m_25 m_26 m_27 m_28 m_29 m_31 pm_32 pm_33 m_35 0 pm_37 pm_38 pm_39 m_40 pm_42)), ((r 43), .inl (E.2.2.1 1, 6000, .inl (nb r43_f))), ((r 16), .inl (E.2.2.1 0, 8, .inl y_3225pr16_f)), ((r 17), .inl (E.2.2.1 0, 8, .inl y_3225pr17_f))]) (fs' := mkF r m_1 m_4 m_9 m_10 pm_14 1 m_25 m_26 m_27 m_28 m_29 m_31 pm_32 pm_33 m_35 0 pm_37 pm_38 pm_39 m_40 pm_42) B 0 15 fl_X11_118 pf_X11_15 rfl (mlt (by decide)) rfl rfl (ms_15 (by decide)) rfl dX11_opens_434 ?_
                        refine g_aload_n B dX11_opens_437 rfl 0 rfl ?_
                        refine g_bipush (v := 8) B dX11_opens_438 (by decide) ?_
                        refine g_iload B dX11_opens_440 3 rfl ?_
                        refine g_imul B dX11_opens_442 ?_
                        refine g_ri (x' := nI (8 * (6 + (2 * pm_14)))) (pk_mul 8 (6 + (2 * pm_14))) ?_
                        refine g_putM (ws' := [(m, .inr (11, mkF r m_1 m_4 m_9 m_10 pm_14 1 m_25 m_26 m_27 m_28 m_29 m_31 (8 * (6 + (2 * pm_14))) pm_33 m_35 0 pm_37 pm_38 pm_39 m_40 pm_42)), ((r 43), .inl (E.2.2.1 1, 6000, .inl (nb r43_f))), ((r 16), .inl (E.2.2.1 0, 8, .inl y_3225pr16_f)), ((r 17), .inl (E.2.2.1 0, 8, .inl y_3225pr17_f))]) (fs' := mkF r m_1 m_4 m_9 m_10 pm_14 1 m_25 m_26 m_27 m_28 m_29 m_31 (8 * (6 + (2 * pm_14))) pm_33 m_35 0 pm_37 pm_38 pm_39 m_40 pm_42) B 0 32 fl_X11_307 pf_X11_32 rfl (mlt (by decide)) rfl rfl (ms_32 rfl) rfl dX11_opens_443 ?_
                        refine g_aload_n B dX11_opens_446 rfl 0 rfl ?_
                        refine g_bipush (v := 8) B dX11_opens_447 (by decide) ?_
                        refine g_iload_n B dX11_opens_449 rfl 2 rfl ?_
                        refine g_imul B dX11_opens_450 ?_
                        refine g_ri (x' := nI (8 * (n - 4))) (pk_mul 8 (n - 4)) ?_
                        refine g_putM (ws' := [(m, .inr (11, mkF r m_1 m_4 m_9 m_10 pm_14 1 m_25 m_26 m_27 m_28 m_29 m_31 (8 * (6 + (2 * pm_14))) (8 * (n - 4)) m_35 0 pm_37 pm_38 pm_39 m_40 pm_42)), ((r 43), .inl (E.2.2.1 1, 6000, .inl (nb r43_f))), ((r 16), .inl (E.2.2.1 0, 8, .inl y_3225pr16_f)), ((r 17), .inl (E.2.2.1 0, 8, .inl y_3225pr17_f))]) (fs' := mkF r m_1 m_4 m_9 m_10 pm_14 1 m_25 m_26 m_27 m_28 m_29 m_31 (8 * (6 + (2 * pm_14))) (8 * (n - 4)) m_35 0 pm_37 pm_38 pm_39 m_40 pm_42) B 0 33 fl_X11_310 pf_X11_33 rfl (mlt (by decide)) rfl rfl (ms_33 rfl) rfl dX11_opens_451 ?_
                        refine g_iconst (v := 1) B dX11_opens_454 (by decide) ?_
                        exact g_zret B hr (by decide) dX11_opens_455 (by decide) (by decide) ⟨pm_39, pm_37, pm_38, pm_14, 0, 1, (8 * (6 + (2 * pm_14))), (8 * (n - 4)), pm_42, y_3225pr16_f, y_3225pr17_f, 1, (by first | assumption | omega | decide | exact hCF _ (by omega)), (by first | assumption | omega | decide | exact hCF _ (by omega)), (by first | assumption | omega | decide | exact hCF _ (by omega)), (by first | assumption | omega | decide | exact hCF _ (by omega)), (by first | assumption | omega | decide | exact hCF _ (by omega)), (by first | assumption | omega | decide | exact hCF _ (by omega)), (by first | assumption | omega | decide | exact hCF _ (by omega)), (by first | assumption | omega | decide | exact hCF _ (by omega)), (Or.inr ⟨by omega, by omega, by omega, by omega, by omega, by omega, by intro f hf; omega⟩), e_, rfl, rfl⟩
                      · have hn_3228 : ((pm_39).toBitVec.toNat % 4) = 1 := (nI_eq (a := ((pm_39).toBitVec.toNat % 4)) (b := 1) (by omega) (by omega)).mp c426_3226
                        replace e_ := fun β k_ => (e_ β k_).trans (if_pos hn_3228)
                        refine g_iconst (v := 2) B dX11_opens_429 (by decide) ?_
                        refine g_goto (tgt := 434) B dX11_opens_430 (by decide) ?_
                        refine g_putM (ws' := [(m, .inr (11, mkF r m_1 m_4 m_9 m_10 pm_14 2 m_25 m_26 m_27 m_28 m_29 m_31 pm_32 pm_33 m_35 0 pm_37 pm_38 pm_39 m_40 pm_42)), ((r 43), .inl (E.2.2.1 1, 6000, .inl (nb r43_f))), ((r 16), .inl (E.2.2.1 0, 8, .inl y_3225pr16_f)), ((r 17), .inl (E.2.2.1 0, 8, .inl y_3225pr17_f))]) (fs' := mkF r m_1 m_4 m_9 m_10 pm_14 2 m_25 m_26 m_27 m_28 m_29 m_31 pm_32 pm_33 m_35 0 pm_37 pm_38 pm_39 m_40 pm_42) B 0 15 fl_X11_118 pf_X11_15 rfl (mlt (by decide)) rfl rfl (ms_15 (by decide)) rfl dX11_opens_434 ?_
                        refine g_aload_n B dX11_opens_437 rfl 0 rfl ?_
                        refine g_bipush (v := 8) B dX11_opens_438 (by decide) ?_
                        refine g_iload B dX11_opens_440 3 rfl ?_
                        refine g_imul B dX11_opens_442 ?_
                        refine g_ri (x' := nI (8 * (6 + (2 * pm_14)))) (pk_mul 8 (6 + (2 * pm_14))) ?_
                        refine g_putM (ws' := [(m, .inr (11, mkF r m_1 m_4 m_9 m_10 pm_14 2 m_25 m_26 m_27 m_28 m_29 m_31 (8 * (6 + (2 * pm_14))) pm_33 m_35 0 pm_37 pm_38 pm_39 m_40 pm_42)), ((r 43), .inl (E.2.2.1 1, 6000, .inl (nb r43_f))), ((r 16), .inl (E.2.2.1 0, 8, .inl y_3225pr16_f)), ((r 17), .inl (E.2.2.1 0, 8, .inl y_3225pr17_f))]) (fs' := mkF r m_1 m_4 m_9 m_10 pm_14 2 m_25 m_26 m_27 m_28 m_29 m_31 (8 * (6 + (2 * pm_14))) pm_33 m_35 0 pm_37 pm_38 pm_39 m_40 pm_42) B 0 32 fl_X11_307 pf_X11_32 rfl (mlt (by decide)) rfl rfl (ms_32 rfl) rfl dX11_opens_443 ?_
                        refine g_aload_n B dX11_opens_446 rfl 0 rfl ?_
                        refine g_bipush (v := 8) B dX11_opens_447 (by decide) ?_
                        refine g_iload_n B dX11_opens_449 rfl 2 rfl ?_
                        refine g_imul B dX11_opens_450 ?_
                        refine g_ri (x' := nI (8 * (n - 4))) (pk_mul 8 (n - 4)) ?_
                        refine g_putM (ws' := [(m, .inr (11, mkF r m_1 m_4 m_9 m_10 pm_14 2 m_25 m_26 m_27 m_28 m_29 m_31 (8 * (6 + (2 * pm_14))) (8 * (n - 4)) m_35 0 pm_37 pm_38 pm_39 m_40 pm_42)), ((r 43), .inl (E.2.2.1 1, 6000, .inl (nb r43_f))), ((r 16), .inl (E.2.2.1 0, 8, .inl y_3225pr16_f)), ((r 17), .inl (E.2.2.1 0, 8, .inl y_3225pr17_f))]) (fs' := mkF r m_1 m_4 m_9 m_10 pm_14 2 m_25 m_26 m_27 m_28 m_29 m_31 (8 * (6 + (2 * pm_14))) (8 * (n - 4)) m_35 0 pm_37 pm_38 pm_39 m_40 pm_42) B 0 33 fl_X11_310 pf_X11_33 rfl (mlt (by decide)) rfl rfl (ms_33 rfl) rfl dX11_opens_451 ?_
                        refine g_iconst (v := 1) B dX11_opens_454 (by decide) ?_
                        exact g_zret B hr (by decide) dX11_opens_455 (by decide) (by decide) ⟨pm_39, pm_37, pm_38, pm_14, 0, 2, (8 * (6 + (2 * pm_14))), (8 * (n - 4)), pm_42, y_3225pr16_f, y_3225pr17_f, 1, (by first | assumption | omega | decide | exact hCF _ (by omega)), (by first | assumption | omega | decide | exact hCF _ (by omega)), (by first | assumption | omega | decide | exact hCF _ (by omega)), (by first | assumption | omega | decide | exact hCF _ (by omega)), (by first | assumption | omega | decide | exact hCF _ (by omega)), (by first | assumption | omega | decide | exact hCF _ (by omega)), (by first | assumption | omega | decide | exact hCF _ (by omega)), (by first | assumption | omega | decide | exact hCF _ (by omega)), (Or.inr ⟨by omega, by omega, by omega, by omega, by omega, by omega, by intro f hf; omega⟩), e_, rfl, rfl⟩
                    · have hn_3203 : (n - 4) < ((6 + (2 * pm_14)) + 0) := Nat.not_le.mp (fun q => c248_3201 ((nI_leI (a := ((6 + (2 * pm_14)) + 0)) (b := (n - 4)) (by omega) (by omega)).mpr q))
                      replace e_ := fun β k_ => (e_ β k_).trans (if_neg (Nat.not_le.mpr hn_3203))
                      refine g_aload_n B dX11_opens_251 rfl 1 rfl ?_
                      refine g_iconst (v := 3) B dX11_opens_252 (by decide) ?_
                      refine g_callV (st := []) (As := [.int 3]) (wr := [((r 43), .inl (E.2.2.1 1, 6000, .inl (nb r43_f))), ((r 16), .inl (E.2.2.1 0, 8, .inl pr16_f)), ((r 17), .inl (E.2.2.1 0, 8, .inl pr17_f))]) (nc' := 0) (ns' := 0) B cl_X11_313 w_im_X11_wrong w_se_X11_wrong (wr_X11_wrong E m r m_1 m_4 m_9 m_10 pm_14 pm_15 m_25 m_26 m_27 m_28 m_29 m_31 pm_32 pm_33 m_35 pm_36 pm_37 pm_38 pm_39 m_40 pm_42 3 (by first | assumption | omega | decide | exact hCF _ (by omega)) (by first | assumption | omega | decide | exact hCF _ (by omega)) (by first | assumption | omega | decide | exact hCF _ (by omega))) rfl [0] [1, 2, 3] rfl rfl (by decide) (by decide) (by decide) 0 rfl (fun q h => by cases h; rfl) rfl ⟨by decide, by decide⟩ rfl rfl (by decide) (by decide) rfl (Nat.le_of_ble_eq_true rfl) dX11_opens_253 (fun v w hq => ?_)
                      obtain ⟨zm_42_3229, hf_3230, hf_3231, hz_3232, rfl, rfl⟩ := hq
                      replace e_ := fun β k_ => (e_ β k_).trans (hz_3232 β _)
                      show G E X 6 [((r 43), .inl (E.2.2.1 1, 6000, .inl (nb r43_f))), ((r 16), .inl (E.2.2.1 0, 8, .inl pr16_f)), ((r 17), .inl (E.2.2.1 0, 8, .inl pr17_f)), (m, .inr (11, mkF r m_1 m_4 m_9 m_10 pm_14 pm_15 m_25 m_26 m_27 m_28 m_29 m_31 pm_32 pm_33 m_35 pm_36 pm_37 pm_38 pm_39 m_40 zm_42_3229))] 0 0 [(4, .int (nI (6 + (2 * pm_14)))), (0, .ref m), (1, .int (nI n)), (2, .int (nI (n - 4))), (3, .int l3)] 256 [.int 0]
                      refine g_sub (ws' := [(m, .inr (11, mkF r m_1 m_4 m_9 m_10 pm_14 pm_15 m_25 m_26 m_27 m_28 m_29 m_31 pm_32 pm_33 m_35 pm_36 pm_37 pm_38 pm_39 m_40 zm_42_3229)), ((r 43), .inl (E.2.2.1 1, 6000, .inl (nb r43_f))), ((r 16), .inl (E.2.2.1 0, 8, .inl pr16_f)), ((r 17), .inl (E.2.2.1 0, 8, .inl pr17_f))]) [3, 0, 1, 2] (by decide) rfl ?_
                      exact g_zret B hr (by decide) dX11_opens_256 (by decide) (by decide) ⟨pm_39, pm_37, pm_38, pm_14, pm_36, pm_15, pm_32, pm_33, zm_42_3229, pr16_f, pr17_f, 0, (by first | assumption | omega | decide | exact hCF _ (by omega)), (by first | assumption | omega | decide | exact hCF _ (by omega)), (by first | assumption | omega | decide | exact hCF _ (by omega)), (by first | assumption | omega | decide | exact hCF _ (by omega)), (by first | assumption | omega | decide | exact hCF _ (by omega)), (by first | assumption | omega | decide | exact hCF _ (by omega)), (by first | assumption | omega | decide | exact hCF _ (by omega)), (by first | assumption | omega | decide | exact hCF _ (by omega)), (Or.inl rfl), e_, rfl, rfl⟩
                  · replace e_ := fun β k_ => (e_ β k_).trans (if_neg c238_3200)
                    refine g_iconst (v := 2) B dX11_opens_241 (by decide) ?_
                    refine g_goto (tgt := 246) B dX11_opens_242 (by decide) ?_
                    refine g_iadd B dX11_opens_246 ?_
                    refine g_ri (x' := nI ((6 + (2 * pm_14)) + 2)) (nI_add (6 + (2 * pm_14)) 2) ?_
                    refine g_iload_n B dX11_opens_247 rfl 3 rfl ?_
                    refine g_icmp_le (tgt := 257) B dX11_opens_248 (by decide) (fun c248_3233 => ?_) (fun c248_3233 => ?_)
                    · have hn_3234 : ((6 + (2 * pm_14)) + 2) ≤ (n - 4) := (nI_leI (a := ((6 + (2 * pm_14)) + 2)) (b := (n - 4)) (by omega) (by omega)).mp c248_3233
                      replace e_ := fun β k_ => (e_ β k_).trans (if_pos hn_3234)
                      refine g_iconst (v := 0) B dX11_opens_257 (by decide) ?_
                      refine g_istore (lv' := [(5, .int 0), (4, .int (nI (6 + (2 * pm_14)))), (0, .ref m), (1, .int (nI n)), (2, .int (nI (n - 4))), (3, .int l3)]) B dX11_opens_258 (by decide) rfl ?_
                      refine g_lvsub (lv' := [(0, .ref m), (1, .int (nI n)), (2, .int (nI (n - 4))), (4, .int (nI (6 + (2 * pm_14)))), (5, .int 0)]) [2, 3, 4, 1, 0] rfl ?_
                      refine lp_wr_X11_opens_260 E m r m_1 m_4 m_9 m_10 m_14 m_15 m_25 m_26 m_27 m_28 m_29 m_31 m_32 m_33 m_35 m_36 m_37 m_38 m_39 m_40 m_42 r43_f r16_f r17_f n h0 hb0 hb1 hb2 hb3 hb4 hb5 hb6 pm_14 pm_15 pm_32 pm_33 pm_36 pm_37 pm_38 pm_39 pm_42 (6 + (2 * pm_14)) (by first | assumption | omega | decide | exact hCF _ (by omega)) (by first | assumption | omega | decide | exact hCF _ (by omega)) (by first | assumption | omega | decide | exact hCF _ (by omega)) (by first | assumption | omega | decide | exact hCF _ (by omega)) (by first | assumption | omega | decide | exact hCF _ (by omega)) (by first | assumption | omega | decide | exact hCF _ (by omega)) (by first | assumption | omega | decide | exact hCF _ (by omega)) (by first | assumption | omega | decide | exact hCF _ (by omega)) (by first | assumption | omega | decide | exact hCF _ (by omega)) _ B hr (fun y_3236pr16_f y_3236pr17_f y_3236l5 y_3236k0 e_ => ?_) _ pr16_f pr17_f 0 (by first | assumption | omega | decide | exact hCF _ (by omega)) (Nat.lt_succ_self _) e_
                      show G E X 6 [(m, .inr (11, mkF r m_1 m_4 m_9 m_10 pm_14 pm_15 m_25 m_26 m_27 m_28 m_29 m_31 pm_32 pm_33 m_35 pm_36 pm_37 pm_38 pm_39 m_40 pm_42)), ((r 43), .inl (E.2.2.1 1, 6000, .inl (nb r43_f))), ((r 16), .inl (E.2.2.1 0, 8, .inl y_3236pr16_f)), ((r 17), .inl (E.2.2.1 0, 8, .inl y_3236pr17_f))] 0 0 [(0, .ref m), (1, .int (nI n)), (2, .int (nI (n - 4))), (4, .int (nI (6 + (2 * pm_14)))), (5, .int (nI y_3236l5))] 355 []
                      refine g_aload_n B dX11_opens_355 rfl 0 rfl ?_
                      refine g_iconst (v := 0) B dX11_opens_356 (by decide) ?_
                      refine g_putM (ws' := [(m, .inr (11, mkF r m_1 m_4 m_9 m_10 pm_14 pm_15 m_25 m_26 m_27 m_28 m_29 m_31 pm_32 pm_33 m_35 0 pm_37 pm_38 pm_39 m_40 pm_42)), ((r 43), .inl (E.2.2.1 1, 6000, .inl (nb r43_f))), ((r 16), .inl (E.2.2.1 0, 8, .inl y_3236pr16_f)), ((r 17), .inl (E.2.2.1 0, 8, .inl y_3236pr17_f))]) (fs' := mkF r m_1 m_4 m_9 m_10 pm_14 pm_15 m_25 m_26 m_27 m_28 m_29 m_31 pm_32 pm_33 m_35 0 pm_37 pm_38 pm_39 m_40 pm_42) B 0 36 fl_X11_203 pf_X11_36 rfl (mlt (by decide)) rfl rfl (ms_36 (by decide)) rfl dX11_opens_357 ?_
                      refine g_aload_n B dX11_opens_360 rfl 0 rfl ?_
                      refine g_get B 0 39 fl_X11_206 rfl mf_39 dX11_opens_361 ?_
                      refine g_bipush (v := 8) B dX11_opens_364 (by decide) ?_
                      refine g_iand B dX11_opens_366 ?_
                      refine g_if_eq (tgt := 418) B dX11_opens_367 (by decide) (fun h => absurd h c238_3200) (fun c367 => ?_)
                      refine g_aload_n B dX11_opens_370 rfl 0 rfl ?_
                      refine g_aload_n B dX11_opens_371 rfl 0 rfl ?_
                      refine g_get B 0 43 fl_X11_80 rfl mf_43 dX11_opens_372 ?_
                      refine g_iload B dX11_opens_375 3 rfl ?_
                      refine g_bald B 1 rfl (vp_in_nI (by omega) (by omega)) dX11_opens_377 ?_
                      refine g_ri (x' := (nb r43_f (6 + (2 * pm_14)))) (congrArg (nb r43_f) (nI_clamp (n := (6 + (2 * pm_14))) (by omega))) ?_
                      refine g_sipush (v := 255) B dX11_opens_378 (by decide) ?_
                      refine g_iand B dX11_opens_381 ?_
                      refine g_ri (x' := nI (((nb r43_f (6 + (2 * pm_14)))).toBitVec.toNat % 256)) (pk_and (nb r43_f (6 + (2 * pm_14))) (m := 255) 8 (by decide)) ?_
                      refine g_bipush (v := 8) B dX11_opens_382 (by decide) ?_
                      refine g_ishl B dX11_opens_384 ?_
                      refine g_ri (x' := nI ((((nb r43_f (6 + (2 * pm_14)))).toBitVec.toNat % 256) * 256)) (pk_shlN (n := (((nb r43_f (6 + (2 * pm_14)))).toBitVec.toNat % 256)) (8 &&& 31) 8 (by decide) (by omega)) ?_
                      refine g_aload_n B dX11_opens_385 rfl 0 rfl ?_
                      refine g_get B 0 43 fl_X11_80 rfl mf_43 dX11_opens_386 ?_
                      refine g_iload B dX11_opens_389 3 rfl ?_
                      refine g_iconst (v := 1) B dX11_opens_391 (by decide) ?_
                      refine g_iadd B dX11_opens_392 ?_
                      refine g_ri (x' := nI ((6 + (2 * pm_14)) + 1)) (nI_add (6 + (2 * pm_14)) 1) ?_
                      refine g_bald B 1 rfl (vp_in_nI (by omega) (by omega)) dX11_opens_393 ?_
                      refine g_ri (x' := (nb r43_f ((6 + (2 * pm_14)) + 1))) (congrArg (nb r43_f) (nI_clamp (n := ((6 + (2 * pm_14)) + 1)) (by omega))) ?_
                      refine g_sipush (v := 255) B dX11_opens_394 (by decide) ?_
                      refine g_iand B dX11_opens_397 ?_
                      refine g_ri (x' := nI (((nb r43_f ((6 + (2 * pm_14)) + 1))).toBitVec.toNat % 256)) (pk_and (nb r43_f ((6 + (2 * pm_14)) + 1)) (m := 255) 8 (by decide)) ?_
                      refine g_ior B dX11_opens_398 ?_
                      have ho_3237 := or_lt (a := ((((nb r43_f (6 + (2 * pm_14)))).toBitVec.toNat % 256) * 256)) (b := (((nb r43_f ((6 + (2 * pm_14)) + 1))).toBitVec.toNat % 256)) (by omega) (by omega)
                      refine g_ri (x' := nI (((((nb r43_f (6 + (2 * pm_14)))).toBitVec.toNat % 256) * 256) ||| (((nb r43_f ((6 + (2 * pm_14)) + 1))).toBitVec.toNat % 256))) (or_eq (a := ((((nb r43_f (6 + (2 * pm_14)))).toBitVec.toNat % 256) * 256)) (b := (((nb r43_f ((6 + (2 * pm_14)) + 1))).toBitVec.toNat % 256)) (by omega) (by omega)) ?_
                      refine g_putM (ws' := [(m, .inr (11, mkF r m_1 m_4 m_9 m_10 pm_14 pm_15 m_25 m_26 m_27 m_28 m_29 m_31 pm_32 pm_33 m_35 (((((nb r43_f (6 + (2 * pm_14)))).toBitVec.toNat % 256) * 256) ||| (((nb r43_f ((6 + (2 * pm_14)) + 1))).toBitVec.toNat % 256)) pm_37 pm_38 pm_39 m_40 pm_42)), ((r 43), .inl (E.2.2.1 1, 6000, .inl (nb r43_f))), ((r 16), .inl (E.2.2.1 0, 8, .inl y_3236pr16_f)), ((r 17), .inl (E.2.2.1 0, 8, .inl y_3236pr17_f))]) (fs' := mkF r m_1 m_4 m_9 m_10 pm_14 pm_15 m_25 m_26 m_27 m_28 m_29 m_31 pm_32 pm_33 m_35 (((((nb r43_f (6 + (2 * pm_14)))).toBitVec.toNat % 256) * 256) ||| (((nb r43_f ((6 + (2 * pm_14)) + 1))).toBitVec.toNat % 256)) pm_37 pm_38 pm_39 m_40 pm_42) B 0 36 fl_X11_203 pf_X11_36 rfl (mlt (by decide)) rfl rfl (ms_36 rfl) rfl dX11_opens_399 ?_
                      refine g_aload_n B dX11_opens_402 rfl 0 rfl ?_
                      refine g_get B 0 36 fl_X11_203 rfl mf_36 dX11_opens_403 ?_
                      refine g_if_ne (tgt := 415) B dX11_opens_406 (by decide) (fun c406_3238 => ?_) (fun c406_3238 => ?_)
                      · have hn_3239 : ¬ (((((nb r43_f (6 + (2 * pm_14)))).toBitVec.toNat % 256) * 256) ||| (((nb r43_f ((6 + (2 * pm_14)) + 1))).toBitVec.toNat % 256)) = 0 := fun q => c406_3238 ((nI_eq (a := (((((nb r43_f (6 + (2 * pm_14)))).toBitVec.toNat % 256) * 256) ||| (((nb r43_f ((6 + (2 * pm_14)) + 1))).toBitVec.toNat % 256))) (b := 0) (by omega) (by omega)).mpr q)
                        replace e_ := fun β k_ => (e_ β k_).trans (if_neg hn_3239)
                        refine g_iinc (v := nI ((6 + (2 * pm_14)) + 2)) (lv' := [(4, .int (nI ((6 + (2 * pm_14)) + 2))), (0, .ref m), (1, .int (nI n)), (2, .int (nI (n - 4))), (5, .int (nI y_3236l5))]) B dX11_opens_415 3 rfl (nI_add (6 + (2 * pm_14)) 2) (by decide) rfl ?_
                        refine g_aload_n B dX11_opens_418 rfl 1 rfl ?_
                        refine g_aload_n B dX11_opens_419 rfl 1 rfl ?_
                        refine g_get B 0 39 fl_X11_206 rfl mf_39 dX11_opens_420 ?_
                        refine g_iconst (v := 3) B dX11_opens_423 (by decide) ?_
                        refine g_iand B dX11_opens_424 ?_
                        refine g_ri (x' := nI ((pm_39).toBitVec.toNat % 4)) (pk_and pm_39 (m := 3) 2 (by decide)) ?_
                        refine g_iconst (v := 1) B dX11_opens_425 (by decide) ?_
                        refine g_icmp_ne (tgt := 433) B dX11_opens_426 (by decide) (fun c426_3241 => ?_) (fun c426_3241 => ?_)
                        · have hn_3242 : ¬ ((pm_39).toBitVec.toNat % 4) = 1 := fun q => c426_3241 ((nI_eq (a := ((pm_39).toBitVec.toNat % 4)) (b := 1) (by omega) (by omega)).mpr q)
                          replace e_ := fun β k_ => (e_ β k_).trans (if_neg hn_3242)
                          refine g_iconst (v := 1) B dX11_opens_433 (by decide) ?_
                          refine g_putM (ws' := [(m, .inr (11, mkF r m_1 m_4 m_9 m_10 pm_14 1 m_25 m_26 m_27 m_28 m_29 m_31 pm_32 pm_33 m_35 (((((nb r43_f (6 + (2 * pm_14)))).toBitVec.toNat % 256) * 256) ||| (((nb r43_f ((6 + (2 * pm_14)) + 1))).toBitVec.toNat % 256)) pm_37 pm_38 pm_39 m_40 pm_42)), ((r 43), .inl (E.2.2.1 1, 6000, .inl (nb r43_f))), ((r 16), .inl (E.2.2.1 0, 8, .inl y_3236pr16_f)), ((r 17), .inl (E.2.2.1 0, 8, .inl y_3236pr17_f))]) (fs' := mkF r m_1 m_4 m_9 m_10 pm_14 1 m_25 m_26 m_27 m_28 m_29 m_31 pm_32 pm_33 m_35 (((((nb r43_f (6 + (2 * pm_14)))).toBitVec.toNat % 256) * 256) ||| (((nb r43_f ((6 + (2 * pm_14)) + 1))).toBitVec.toNat % 256)) pm_37 pm_38 pm_39 m_40 pm_42) B 0 15 fl_X11_118 pf_X11_15 rfl (mlt (by decide)) rfl rfl (ms_15 (by decide)) rfl dX11_opens_434 ?_
                          refine g_aload_n B dX11_opens_437 rfl 1 rfl ?_
                          refine g_bipush (v := 8) B dX11_opens_438 (by decide) ?_
                          refine g_iload B dX11_opens_440 0 rfl ?_
                          refine g_imul B dX11_opens_442 ?_
                          refine g_ri (x' := nI (8 * ((6 + (2 * pm_14)) + 2))) (pk_mul 8 ((6 + (2 * pm_14)) + 2)) ?_
                          refine g_putM (ws' := [(m, .inr (11, mkF r m_1 m_4 m_9 m_10 pm_14 1 m_25 m_26 m_27 m_28 m_29 m_31 (8 * ((6 + (2 * pm_14)) + 2)) pm_33 m_35 (((((nb r43_f (6 + (2 * pm_14)))).toBitVec.toNat % 256) * 256) ||| (((nb r43_f ((6 + (2 * pm_14)) + 1))).toBitVec.toNat % 256)) pm_37 pm_38 pm_39 m_40 pm_42)), ((r 43), .inl (E.2.2.1 1, 6000, .inl (nb r43_f))), ((r 16), .inl (E.2.2.1 0, 8, .inl y_3236pr16_f)), ((r 17), .inl (E.2.2.1 0, 8, .inl y_3236pr17_f))]) (fs' := mkF r m_1 m_4 m_9 m_10 pm_14 1 m_25 m_26 m_27 m_28 m_29 m_31 (8 * ((6 + (2 * pm_14)) + 2)) pm_33 m_35 (((((nb r43_f (6 + (2 * pm_14)))).toBitVec.toNat % 256) * 256) ||| (((nb r43_f ((6 + (2 * pm_14)) + 1))).toBitVec.toNat % 256)) pm_37 pm_38 pm_39 m_40 pm_42) B 0 32 fl_X11_307 pf_X11_32 rfl (mlt (by decide)) rfl rfl (ms_32 rfl) rfl dX11_opens_443 ?_
                          refine g_aload_n B dX11_opens_446 rfl 1 rfl ?_
                          refine g_bipush (v := 8) B dX11_opens_447 (by decide) ?_
                          refine g_iload_n B dX11_opens_449 rfl 3 rfl ?_
                          refine g_imul B dX11_opens_450 ?_
                          refine g_ri (x' := nI (8 * (n - 4))) (pk_mul 8 (n - 4)) ?_
                          refine g_putM (ws' := [(m, .inr (11, mkF r m_1 m_4 m_9 m_10 pm_14 1 m_25 m_26 m_27 m_28 m_29 m_31 (8 * ((6 + (2 * pm_14)) + 2)) (8 * (n - 4)) m_35 (((((nb r43_f (6 + (2 * pm_14)))).toBitVec.toNat % 256) * 256) ||| (((nb r43_f ((6 + (2 * pm_14)) + 1))).toBitVec.toNat % 256)) pm_37 pm_38 pm_39 m_40 pm_42)), ((r 43), .inl (E.2.2.1 1, 6000, .inl (nb r43_f))), ((r 16), .inl (E.2.2.1 0, 8, .inl y_3236pr16_f)), ((r 17), .inl (E.2.2.1 0, 8, .inl y_3236pr17_f))]) (fs' := mkF r m_1 m_4 m_9 m_10 pm_14 1 m_25 m_26 m_27 m_28 m_29 m_31 (8 * ((6 + (2 * pm_14)) + 2)) (8 * (n - 4)) m_35 (((((nb r43_f (6 + (2 * pm_14)))).toBitVec.toNat % 256) * 256) ||| (((nb r43_f ((6 + (2 * pm_14)) + 1))).toBitVec.toNat % 256)) pm_37 pm_38 pm_39 m_40 pm_42) B 0 33 fl_X11_310 pf_X11_33 rfl (mlt (by decide)) rfl rfl (ms_33 rfl) rfl dX11_opens_451 ?_
                          refine g_iconst (v := 1) B dX11_opens_454 (by decide) ?_
                          exact g_zret B hr (by decide) dX11_opens_455 (by decide) (by decide) ⟨pm_39, pm_37, pm_38, pm_14, (((((nb r43_f (6 + (2 * pm_14)))).toBitVec.toNat % 256) * 256) ||| (((nb r43_f ((6 + (2 * pm_14)) + 1))).toBitVec.toNat % 256)), 1, (8 * ((6 + (2 * pm_14)) + 2)), (8 * (n - 4)), pm_42, y_3236pr16_f, y_3236pr17_f, 1, (by first | assumption | omega | decide | exact hCF _ (by omega)), (by first | assumption | omega | decide | exact hCF _ (by omega)), (by first | assumption | omega | decide | exact hCF _ (by omega)), (by first | assumption | omega | decide | exact hCF _ (by omega)), (by first | assumption | omega | decide | exact hCF _ (by omega)), (by first | assumption | omega | decide | exact hCF _ (by omega)), (by first | assumption | omega | decide | exact hCF _ (by omega)), (by first | assumption | omega | decide | exact hCF _ (by omega)), (Or.inr ⟨by omega, by omega, by omega, by omega, by omega, by omega, by intro f hf; omega⟩), e_, rfl, rfl⟩
                        · have hn_3243 : ((pm_39).toBitVec.toNat % 4) = 1 := (nI_eq (a := ((pm_39).toBitVec.toNat % 4)) (b := 1) (by omega) (by omega)).mp c426_3241
                          replace e_ := fun β k_ => (e_ β k_).trans (if_pos hn_3243)
                          refine g_iconst (v := 2) B dX11_opens_429 (by decide) ?_
                          refine g_goto (tgt := 434) B dX11_opens_430 (by decide) ?_
                          refine g_putM (ws' := [(m, .inr (11, mkF r m_1 m_4 m_9 m_10 pm_14 2 m_25 m_26 m_27 m_28 m_29 m_31 pm_32 pm_33 m_35 (((((nb r43_f (6 + (2 * pm_14)))).toBitVec.toNat % 256) * 256) ||| (((nb r43_f ((6 + (2 * pm_14)) + 1))).toBitVec.toNat % 256)) pm_37 pm_38 pm_39 m_40 pm_42)), ((r 43), .inl (E.2.2.1 1, 6000, .inl (nb r43_f))), ((r 16), .inl (E.2.2.1 0, 8, .inl y_3236pr16_f)), ((r 17), .inl (E.2.2.1 0, 8, .inl y_3236pr17_f))]) (fs' := mkF r m_1 m_4 m_9 m_10 pm_14 2 m_25 m_26 m_27 m_28 m_29 m_31 pm_32 pm_33 m_35 (((((nb r43_f (6 + (2 * pm_14)))).toBitVec.toNat % 256) * 256) ||| (((nb r43_f ((6 + (2 * pm_14)) + 1))).toBitVec.toNat % 256)) pm_37 pm_38 pm_39 m_40 pm_42) B 0 15 fl_X11_118 pf_X11_15 rfl (mlt (by decide)) rfl rfl (ms_15 (by decide)) rfl dX11_opens_434 ?_
                          refine g_aload_n B dX11_opens_437 rfl 1 rfl ?_
                          refine g_bipush (v := 8) B dX11_opens_438 (by decide) ?_
                          refine g_iload B dX11_opens_440 0 rfl ?_
                          refine g_imul B dX11_opens_442 ?_
                          refine g_ri (x' := nI (8 * ((6 + (2 * pm_14)) + 2))) (pk_mul 8 ((6 + (2 * pm_14)) + 2)) ?_
                          refine g_putM (ws' := [(m, .inr (11, mkF r m_1 m_4 m_9 m_10 pm_14 2 m_25 m_26 m_27 m_28 m_29 m_31 (8 * ((6 + (2 * pm_14)) + 2)) pm_33 m_35 (((((nb r43_f (6 + (2 * pm_14)))).toBitVec.toNat % 256) * 256) ||| (((nb r43_f ((6 + (2 * pm_14)) + 1))).toBitVec.toNat % 256)) pm_37 pm_38 pm_39 m_40 pm_42)), ((r 43), .inl (E.2.2.1 1, 6000, .inl (nb r43_f))), ((r 16), .inl (E.2.2.1 0, 8, .inl y_3236pr16_f)), ((r 17), .inl (E.2.2.1 0, 8, .inl y_3236pr17_f))]) (fs' := mkF r m_1 m_4 m_9 m_10 pm_14 2 m_25 m_26 m_27 m_28 m_29 m_31 (8 * ((6 + (2 * pm_14)) + 2)) pm_33 m_35 (((((nb r43_f (6 + (2 * pm_14)))).toBitVec.toNat % 256) * 256) ||| (((nb r43_f ((6 + (2 * pm_14)) + 1))).toBitVec.toNat % 256)) pm_37 pm_38 pm_39 m_40 pm_42) B 0 32 fl_X11_307 pf_X11_32 rfl (mlt (by decide)) rfl rfl (ms_32 rfl) rfl dX11_opens_443 ?_
                          refine g_aload_n B dX11_opens_446 rfl 1 rfl ?_
                          refine g_bipush (v := 8) B dX11_opens_447 (by decide) ?_
                          refine g_iload_n B dX11_opens_449 rfl 3 rfl ?_
                          refine g_imul B dX11_opens_450 ?_
                          refine g_ri (x' := nI (8 * (n - 4))) (pk_mul 8 (n - 4)) ?_
                          refine g_putM (ws' := [(m, .inr (11, mkF r m_1 m_4 m_9 m_10 pm_14 2 m_25 m_26 m_27 m_28 m_29 m_31 (8 * ((6 + (2 * pm_14)) + 2)) (8 * (n - 4)) m_35 (((((nb r43_f (6 + (2 * pm_14)))).toBitVec.toNat % 256) * 256) ||| (((nb r43_f ((6 + (2 * pm_14)) + 1))).toBitVec.toNat % 256)) pm_37 pm_38 pm_39 m_40 pm_42)), ((r 43), .inl (E.2.2.1 1, 6000, .inl (nb r43_f))), ((r 16), .inl (E.2.2.1 0, 8, .inl y_3236pr16_f)), ((r 17), .inl (E.2.2.1 0, 8, .inl y_3236pr17_f))]) (fs' := mkF r m_1 m_4 m_9 m_10 pm_14 2 m_25 m_26 m_27 m_28 m_29 m_31 (8 * ((6 + (2 * pm_14)) + 2)) (8 * (n - 4)) m_35 (((((nb r43_f (6 + (2 * pm_14)))).toBitVec.toNat % 256) * 256) ||| (((nb r43_f ((6 + (2 * pm_14)) + 1))).toBitVec.toNat % 256)) pm_37 pm_38 pm_39 m_40 pm_42) B 0 33 fl_X11_310 pf_X11_33 rfl (mlt (by decide)) rfl rfl (ms_33 rfl) rfl dX11_opens_451 ?_
                          refine g_iconst (v := 1) B dX11_opens_454 (by decide) ?_
                          exact g_zret B hr (by decide) dX11_opens_455 (by decide) (by decide) ⟨pm_39, pm_37, pm_38, pm_14, (((((nb r43_f (6 + (2 * pm_14)))).toBitVec.toNat % 256) * 256) ||| (((nb r43_f ((6 + (2 * pm_14)) + 1))).toBitVec.toNat % 256)), 2, (8 * ((6 + (2 * pm_14)) + 2)), (8 * (n - 4)), pm_42, y_3236pr16_f, y_3236pr17_f, 1, (by first | assumption | omega | decide | exact hCF _ (by omega)), (by first | assumption | omega | decide | exact hCF _ (by omega)), (by first | assumption | omega | decide | exact hCF _ (by omega)), (by first | assumption | omega | decide | exact hCF _ (by omega)), (by first | assumption | omega | decide | exact hCF _ (by omega)), (by first | assumption | omega | decide | exact hCF _ (by omega)), (by first | assumption | omega | decide | exact hCF _ (by omega)), (by first | assumption | omega | decide | exact hCF _ (by omega)), (Or.inr ⟨by omega, by omega, by omega, by omega, by omega, by omega, by intro f hf; omega⟩), e_, rfl, rfl⟩
                      · have hn_3240 : (((((nb r43_f (6 + (2 * pm_14)))).toBitVec.toNat % 256) * 256) ||| (((nb r43_f ((6 + (2 * pm_14)) + 1))).toBitVec.toNat % 256)) = 0 := (nI_eq (a := (((((nb r43_f (6 + (2 * pm_14)))).toBitVec.toNat % 256) * 256) ||| (((nb r43_f ((6 + (2 * pm_14)) + 1))).toBitVec.toNat % 256))) (b := 0) (by omega) (by omega)).mp c406_3238
                        replace e_ := fun β k_ => (e_ β k_).trans (if_pos hn_3240)
                        refine g_aload_n B dX11_opens_409 rfl 0 rfl ?_
                        refine g_iconst (v := 3) B dX11_opens_410 (by decide) ?_
                        refine g_callV (st := []) (As := [.int 3]) (wr := [((r 43), .inl (E.2.2.1 1, 6000, .inl (nb r43_f))), ((r 16), .inl (E.2.2.1 0, 8, .inl y_3236pr16_f)), ((r 17), .inl (E.2.2.1 0, 8, .inl y_3236pr17_f))]) (nc' := 0) (ns' := 0) B cl_X11_313 w_im_X11_wrong w_se_X11_wrong (wr_X11_wrong E m r m_1 m_4 m_9 m_10 pm_14 pm_15 m_25 m_26 m_27 m_28 m_29 m_31 pm_32 pm_33 m_35 (((((nb r43_f (6 + (2 * pm_14)))).toBitVec.toNat % 256) * 256) ||| (((nb r43_f ((6 + (2 * pm_14)) + 1))).toBitVec.toNat % 256)) pm_37 pm_38 pm_39 m_40 pm_42 3 (by first | assumption | omega | decide | exact hCF _ (by omega)) (by first | assumption | omega | decide | exact hCF _ (by omega)) (by first | assumption | omega | decide | exact hCF _ (by omega))) rfl [0] [1, 2, 3] rfl rfl (by decide) (by decide) (by decide) 0 rfl (fun q h => by cases h; rfl) rfl ⟨by decide, by decide⟩ rfl rfl (by decide) (by decide) rfl (Nat.le_of_ble_eq_true rfl) dX11_opens_411 (fun v w hq => ?_)
                        obtain ⟨zm_42_3244, hf_3245, hf_3246, hz_3247, rfl, rfl⟩ := hq
                        replace e_ := fun β k_ => (e_ β k_).trans (hz_3247 β _)
                        show G E X 6 [((r 43), .inl (E.2.2.1 1, 6000, .inl (nb r43_f))), ((r 16), .inl (E.2.2.1 0, 8, .inl y_3236pr16_f)), ((r 17), .inl (E.2.2.1 0, 8, .inl y_3236pr17_f)), (m, .inr (11, mkF r m_1 m_4 m_9 m_10 pm_14 pm_15 m_25 m_26 m_27 m_28 m_29 m_31 pm_32 pm_33 m_35 (((((nb r43_f (6 + (2 * pm_14)))).toBitVec.toNat % 256) * 256) ||| (((nb r43_f ((6 + (2 * pm_14)) + 1))).toBitVec.toNat % 256)) pm_37 pm_38 pm_39 m_40 zm_42_3244))] 0 0 [(0, .ref m), (1, .int (nI n)), (2, .int (nI (n - 4))), (4, .int (nI (6 + (2 * pm_14)))), (5, .int (nI y_3236l5))] 414 [.int 0]
                        refine g_sub (ws' := [(m, .inr (11, mkF r m_1 m_4 m_9 m_10 pm_14 pm_15 m_25 m_26 m_27 m_28 m_29 m_31 pm_32 pm_33 m_35 (((((nb r43_f (6 + (2 * pm_14)))).toBitVec.toNat % 256) * 256) ||| (((nb r43_f ((6 + (2 * pm_14)) + 1))).toBitVec.toNat % 256)) pm_37 pm_38 pm_39 m_40 zm_42_3244)), ((r 43), .inl (E.2.2.1 1, 6000, .inl (nb r43_f))), ((r 16), .inl (E.2.2.1 0, 8, .inl y_3236pr16_f)), ((r 17), .inl (E.2.2.1 0, 8, .inl y_3236pr17_f))]) [3, 0, 1, 2] (by decide) rfl ?_
                        exact g_zret B hr (by decide) dX11_opens_414 (by decide) (by decide) ⟨pm_39, pm_37, pm_38, pm_14, (((((nb r43_f (6 + (2 * pm_14)))).toBitVec.toNat % 256) * 256) ||| (((nb r43_f ((6 + (2 * pm_14)) + 1))).toBitVec.toNat % 256)), pm_15, pm_32, pm_33, zm_42_3244, y_3236pr16_f, y_3236pr17_f, 0, (by first | assumption | omega | decide | exact hCF _ (by omega)), (by first | assumption | omega | decide | exact hCF _ (by omega)), (by first | assumption | omega | decide | exact hCF _ (by omega)), (by first | assumption | omega | decide | exact hCF _ (by omega)), (by first | assumption | omega | decide | exact hCF _ (by omega)), (by first | assumption | omega | decide | exact hCF _ (by omega)), (by first | assumption | omega | decide | exact hCF _ (by omega)), (by first | assumption | omega | decide | exact hCF _ (by omega)), (Or.inl rfl), e_, rfl, rfl⟩
                    · have hn_3235 : (n - 4) < ((6 + (2 * pm_14)) + 2) := Nat.not_le.mp (fun q => c248_3233 ((nI_leI (a := ((6 + (2 * pm_14)) + 2)) (b := (n - 4)) (by omega) (by omega)).mpr q))
                      replace e_ := fun β k_ => (e_ β k_).trans (if_neg (Nat.not_le.mpr hn_3235))
                      refine g_aload_n B dX11_opens_251 rfl 1 rfl ?_
                      refine g_iconst (v := 3) B dX11_opens_252 (by decide) ?_
                      refine g_callV (st := []) (As := [.int 3]) (wr := [((r 43), .inl (E.2.2.1 1, 6000, .inl (nb r43_f))), ((r 16), .inl (E.2.2.1 0, 8, .inl pr16_f)), ((r 17), .inl (E.2.2.1 0, 8, .inl pr17_f))]) (nc' := 0) (ns' := 0) B cl_X11_313 w_im_X11_wrong w_se_X11_wrong (wr_X11_wrong E m r m_1 m_4 m_9 m_10 pm_14 pm_15 m_25 m_26 m_27 m_28 m_29 m_31 pm_32 pm_33 m_35 pm_36 pm_37 pm_38 pm_39 m_40 pm_42 3 (by first | assumption | omega | decide | exact hCF _ (by omega)) (by first | assumption | omega | decide | exact hCF _ (by omega)) (by first | assumption | omega | decide | exact hCF _ (by omega))) rfl [0] [1, 2, 3] rfl rfl (by decide) (by decide) (by decide) 0 rfl (fun q h => by cases h; rfl) rfl ⟨by decide, by decide⟩ rfl rfl (by decide) (by decide) rfl (Nat.le_of_ble_eq_true rfl) dX11_opens_253 (fun v w hq => ?_)
                      obtain ⟨zm_42_3248, hf_3249, hf_3250, hz_3251, rfl, rfl⟩ := hq
                      replace e_ := fun β k_ => (e_ β k_).trans (hz_3251 β _)
                      show G E X 6 [((r 43), .inl (E.2.2.1 1, 6000, .inl (nb r43_f))), ((r 16), .inl (E.2.2.1 0, 8, .inl pr16_f)), ((r 17), .inl (E.2.2.1 0, 8, .inl pr17_f)), (m, .inr (11, mkF r m_1 m_4 m_9 m_10 pm_14 pm_15 m_25 m_26 m_27 m_28 m_29 m_31 pm_32 pm_33 m_35 pm_36 pm_37 pm_38 pm_39 m_40 zm_42_3248))] 0 0 [(4, .int (nI (6 + (2 * pm_14)))), (0, .ref m), (1, .int (nI n)), (2, .int (nI (n - 4))), (3, .int l3)] 256 [.int 0]
                      refine g_sub (ws' := [(m, .inr (11, mkF r m_1 m_4 m_9 m_10 pm_14 pm_15 m_25 m_26 m_27 m_28 m_29 m_31 pm_32 pm_33 m_35 pm_36 pm_37 pm_38 pm_39 m_40 zm_42_3248)), ((r 43), .inl (E.2.2.1 1, 6000, .inl (nb r43_f))), ((r 16), .inl (E.2.2.1 0, 8, .inl pr16_f)), ((r 17), .inl (E.2.2.1 0, 8, .inl pr17_f))]) [3, 0, 1, 2] (by decide) rfl ?_
                      exact g_zret B hr (by decide) dX11_opens_256 (by decide) (by decide) ⟨pm_39, pm_37, pm_38, pm_14, pm_36, pm_15, pm_32, pm_33, zm_42_3248, pr16_f, pr17_f, 0, (by first | assumption | omega | decide | exact hCF _ (by omega)), (by first | assumption | omega | decide | exact hCF _ (by omega)), (by first | assumption | omega | decide | exact hCF _ (by omega)), (by first | assumption | omega | decide | exact hCF _ (by omega)), (by first | assumption | omega | decide | exact hCF _ (by omega)), (by first | assumption | omega | decide | exact hCF _ (by omega)), (by first | assumption | omega | decide | exact hCF _ (by omega)), (by first | assumption | omega | decide | exact hCF _ (by omega)), (Or.inl rfl), e_, rfl, rfl⟩
                · have hn_3199 : 8 < pm_14 := Nat.not_le.mp (fun q => c209_3197 ((nI_leI (a := pm_14) (b := 8) (by omega) (by omega)).mpr q))
                  replace e_ := fun β k_ => (e_ β k_).trans (if_neg (Nat.not_le.mpr hn_3199))
                  refine g_aload_n B dX11_opens_212 rfl 0 rfl ?_
                  refine g_iconst (v := 3) B dX11_opens_213 (by decide) ?_
                  refine g_callV (st := []) (As := [.int 3]) (wr := [((r 43), .inl (E.2.2.1 1, 6000, .inl (nb r43_f))), ((r 16), .inl (E.2.2.1 0, 8, .inl pr16_f)), ((r 17), .inl (E.2.2.1 0, 8, .inl pr17_f))]) (nc' := 0) (ns' := 0) B cl_X11_313 w_im_X11_wrong w_se_X11_wrong (wr_X11_wrong E m r m_1 m_4 m_9 m_10 pm_14 pm_15 m_25 m_26 m_27 m_28 m_29 m_31 pm_32 pm_33 m_35 pm_36 pm_37 pm_38 pm_39 m_40 pm_42 3 (by first | assumption | omega | decide | exact hCF _ (by omega)) (by first | assumption | omega | decide | exact hCF _ (by omega)) (by first | assumption | omega | decide | exact hCF _ (by omega))) rfl [0] [1, 2, 3] rfl rfl (by decide) (by decide) (by decide) 0 rfl (fun q h => by cases h; rfl) rfl ⟨by decide, by decide⟩ rfl rfl (by decide) (by decide) rfl (Nat.le_of_ble_eq_true rfl) dX11_opens_214 (fun v w hq => ?_)
                  obtain ⟨zm_42_3252, hf_3253, hf_3254, hz_3255, rfl, rfl⟩ := hq
                  replace e_ := fun β k_ => (e_ β k_).trans (hz_3255 β _)
                  show G E X 6 [((r 43), .inl (E.2.2.1 1, 6000, .inl (nb r43_f))), ((r 16), .inl (E.2.2.1 0, 8, .inl pr16_f)), ((r 17), .inl (E.2.2.1 0, 8, .inl pr17_f)), (m, .inr (11, mkF r m_1 m_4 m_9 m_10 pm_14 pm_15 m_25 m_26 m_27 m_28 m_29 m_31 pm_32 pm_33 m_35 pm_36 pm_37 pm_38 pm_39 m_40 zm_42_3252))] 0 0 [(0, .ref m), (1, .int (nI n)), (2, .int (nI (n - 4))), (3, .int l3)] 217 [.int 0]
                  refine g_sub (ws' := [(m, .inr (11, mkF r m_1 m_4 m_9 m_10 pm_14 pm_15 m_25 m_26 m_27 m_28 m_29 m_31 pm_32 pm_33 m_35 pm_36 pm_37 pm_38 pm_39 m_40 zm_42_3252)), ((r 43), .inl (E.2.2.1 1, 6000, .inl (nb r43_f))), ((r 16), .inl (E.2.2.1 0, 8, .inl pr16_f)), ((r 17), .inl (E.2.2.1 0, 8, .inl pr17_f))]) [3, 0, 1, 2] (by decide) rfl ?_
                  exact g_zret B hr (by decide) dX11_opens_217 (by decide) (by decide) ⟨pm_39, pm_37, pm_38, pm_14, pm_36, pm_15, pm_32, pm_33, zm_42_3252, pr16_f, pr17_f, 0, (by first | assumption | omega | decide | exact hCF _ (by omega)), (by first | assumption | omega | decide | exact hCF _ (by omega)), (by first | assumption | omega | decide | exact hCF _ (by omega)), (by first | assumption | omega | decide | exact hCF _ (by omega)), (by first | assumption | omega | decide | exact hCF _ (by omega)), (by first | assumption | omega | decide | exact hCF _ (by omega)), (by first | assumption | omega | decide | exact hCF _ (by omega)), (by first | assumption | omega | decide | exact hCF _ (by omega)), (Or.inl rfl), e_, rfl, rfl⟩
theorem dX11_opens_125 : decode cX11_opens 125 = .ok (.aload_n 0, 1) := by decide +kernel
theorem dX11_opens_126 : decode cX11_opens 126 = .ok (.getfield 206, 3) := by decide +kernel
theorem dX11_opens_129 : decode cX11_opens 129 = .ok (.bipush 6, 2) := by decide +kernel
theorem dX11_opens_131 : decode cX11_opens 131 = .ok (.iand, 1) := by decide +kernel
theorem dX11_opens_132 : decode cX11_opens 132 = .ok (.ifCond .eq 7, 3) := by decide +kernel
theorem dX11_opens_135 : decode cX11_opens 135 = .ok (.iconst 1, 1) := by decide +kernel
theorem dX11_opens_136 : decode cX11_opens 136 = .ok (.goto 4, 3) := by decide +kernel
theorem dX11_opens_36 : decode cX11_opens 36 = .ok (.aload_n 0, 1) := by decide +kernel
theorem dX11_opens_37 : decode cX11_opens 37 = .ok (.iconst 2, 1) := by decide +kernel
theorem dX11_opens_38 : decode cX11_opens 38 = .ok (.invokevirtual 313, 3) := by decide +kernel
theorem dX11_opens_41 : decode cX11_opens 41 = .ok (.ireturn, 1) := by decide +kernel
theorem dX11_opens_6 : decode cX11_opens 6 = .ok (.aload_n 0, 1) := by decide +kernel
theorem dX11_opens_7 : decode cX11_opens 7 = .ok (.iconst 1, 1) := by decide +kernel
theorem dX11_opens_8 : decode cX11_opens 8 = .ok (.invokevirtual 313, 3) := by decide +kernel
theorem dX11_opens_11 : decode cX11_opens 11 = .ok (.ireturn, 1) := by decide +kernel
set_option maxRecDepth 100000 in
def fn_wr_X11_opens (m_14 : Nat) (m_15 : Nat) (m_32 : Nat) (m_33 : Nat) (m_36 : Nat) (m_37 : Int32) (m_38 : Nat) (m_39 : Int32) (m_42 : Nat) (r43_f : Nat → Int32) (r16_f : Nat → Int32) (r17_f : Nat → Int32) (n : Nat) (β : Type) (k_ : Int32 → Int32 → Nat → Nat → Nat → Nat → Nat → Nat → Nat → (Nat → Int32) → (Nat → Int32) → Int32 → β) : β := (if 10 ≤ n then (fn_wr_X11_intAt (n - 4) r43_f β (fun zr_3149 => (fn_wr_X11_crc 0 (n - 4) r43_f β (fun zr_3151 => (if zr_3149 = zr_3151 then (if ((((nb r43_f 1)).toBitVec.toNat % 256) % 2) = 0 then (if (nI (((nb r43_f 1)).toBitVec.toNat % 256) &&& 6) = 0 then (jf_wr_X11_opens_141 r43_f n (((nb r43_f 5)).toBitVec.toNat % 256) m_15 m_32 m_33 m_36 (nI (((nb r43_f 2)).toBitVec.toNat % 256)) (((((nb r43_f 3)).toBitVec.toNat % 256) * 256) ||| (((nb r43_f 4)).toBitVec.toNat % 256)) (nI (((nb r43_f 1)).toBitVec.toNat % 256)) m_42 r16_f r17_f 0 β k_) else (jf_wr_X11_opens_141 r43_f n (((nb r43_f 5)).toBitVec.toNat % 256) m_15 m_32 m_33 m_36 (nI (((nb r43_f 2)).toBitVec.toNat % 256)) (((((nb r43_f 3)).toBitVec.toNat % 256) * 256) ||| (((nb r43_f 4)).toBitVec.toNat % 256)) (nI (((nb r43_f 1)).toBitVec.toNat % 256)) m_42 r16_f r17_f 1 β k_)) else (jf_wr_X11_opens_141 r43_f n (((nb r43_f 5)).toBitVec.toNat % 256) m_15 m_32 m_33 m_36 (nI (((nb r43_f 2)).toBitVec.toNat % 256)) (((((nb r43_f 3)).toBitVec.toNat % 256) * 256) ||| (((nb r43_f 4)).toBitVec.toNat % 256)) (nI (((nb r43_f 1)).toBitVec.toNat % 256)) m_42 r16_f r17_f 0 β k_)) else (fn_wr_X11_wrong m_42 2 β (fun zm_42_3257 => (k_ m_39 m_37 m_38 m_14 m_36 m_15 m_32 m_33 zm_42_3257 r16_f r17_f 0)))))))) else (fn_wr_X11_wrong m_42 1 β (fun zm_42_3261 => (k_ m_39 m_37 m_38 m_14 m_36 m_15 m_32 m_33 zm_42_3261 r16_f r17_f 0))))
set_option maxRecDepth 100000 in
theorem fn_wr_X11_opens_s {m_14 : Nat} {m_15 : Nat} {m_32 : Nat} {m_33 : Nat} {m_36 : Nat} {m_37 : Int32} {m_38 : Nat} {m_39 : Int32} {m_42 : Nat} {r43_f : Nat → Int32} {r16_f : Nat → Int32} {r17_f : Nat → Int32} {n : Nat} {β : Type} {k_ : Int32 → Int32 → Nat → Nat → Nat → Nat → Nat → Nat → Nat → (Nat → Int32) → (Nat → Int32) → Int32 → β} : fn_wr_X11_opens m_14 m_15 m_32 m_33 m_36 m_37 m_38 m_39 m_42 r43_f r16_f r17_f n β k_ = (if 10 ≤ n then (fn_wr_X11_intAt (n - 4) r43_f β (fun zr_3149 => (fn_wr_X11_crc 0 (n - 4) r43_f β (fun zr_3151 => (if zr_3149 = zr_3151 then (if ((((nb r43_f 1)).toBitVec.toNat % 256) % 2) = 0 then (if (nI (((nb r43_f 1)).toBitVec.toNat % 256) &&& 6) = 0 then (jf_wr_X11_opens_141 r43_f n (((nb r43_f 5)).toBitVec.toNat % 256) m_15 m_32 m_33 m_36 (nI (((nb r43_f 2)).toBitVec.toNat % 256)) (((((nb r43_f 3)).toBitVec.toNat % 256) * 256) ||| (((nb r43_f 4)).toBitVec.toNat % 256)) (nI (((nb r43_f 1)).toBitVec.toNat % 256)) m_42 r16_f r17_f 0 β k_) else (jf_wr_X11_opens_141 r43_f n (((nb r43_f 5)).toBitVec.toNat % 256) m_15 m_32 m_33 m_36 (nI (((nb r43_f 2)).toBitVec.toNat % 256)) (((((nb r43_f 3)).toBitVec.toNat % 256) * 256) ||| (((nb r43_f 4)).toBitVec.toNat % 256)) (nI (((nb r43_f 1)).toBitVec.toNat % 256)) m_42 r16_f r17_f 1 β k_)) else (jf_wr_X11_opens_141 r43_f n (((nb r43_f 5)).toBitVec.toNat % 256) m_15 m_32 m_33 m_36 (nI (((nb r43_f 2)).toBitVec.toNat % 256)) (((((nb r43_f 3)).toBitVec.toNat % 256) * 256) ||| (((nb r43_f 4)).toBitVec.toNat % 256)) (nI (((nb r43_f 1)).toBitVec.toNat % 256)) m_42 r16_f r17_f 0 β k_)) else (fn_wr_X11_wrong m_42 2 β (fun zm_42_3257 => (k_ m_39 m_37 m_38 m_14 m_36 m_15 m_32 m_33 zm_42_3257 r16_f r17_f 0)))))))) else (fn_wr_X11_wrong m_42 1 β (fun zm_42_3261 => (k_ m_39 m_37 m_38 m_14 m_36 m_15 m_32 m_33 zm_42_3261 r16_f r17_f 0)))) := rfl
set_option maxRecDepth 100000 in
set_option maxHeartbeats 4000000 in
theorem wr_X11_opens (E : g_E) (m : Nat) (r : Nat → Nat) (m_1 : Nat) (m_4 : Nat) (m_9 : Nat) (m_10 : Nat) (m_14 : Nat) (m_15 : Nat) (m_25 : Int32) (m_26 : Int32) (m_27 : Int64) (m_28 : Nat) (m_29 : Nat) (m_31 : Nat) (m_32 : Nat) (m_33 : Nat) (m_35 : Nat) (m_36 : Nat) (m_37 : Int32) (m_38 : Nat) (m_39 : Int32) (m_40 : Int32) (m_42 : Nat) (r43_f : Nat → Int32) (r16_f : Nat → Int32) (r17_f : Nat → Int32) (n : Nat) (h0 : n ≤ 6000) (hb0 : m_38 ≤ 65535) (hb1 : m_14 ≤ 255) (hb2 : m_36 ≤ 65535) (hb3 : m_15 ≤ 2) (hb4 : m_32 ≤ 48000) (hb5 : m_33 ≤ 48000) (hb6 : m_42 ≤ 12) : Ev E MX11_opens 1 25 0 0 [.ref m, .int (nI n)] [(m, .inr (11, mkF r m_1 m_4 m_9 m_10 m_14 m_15 m_25 m_26 m_27 m_28 m_29 m_31 m_32 m_33 m_35 m_36 m_37 m_38 m_39 m_40 m_42)), ((r 43), .inl (E.2.2.1 1, 6000, .inl (nb r43_f))), ((r 16), .inl (E.2.2.1 0, 8, .inl r16_f)), ((r 17), .inl (E.2.2.1 0, 8, .inl r17_f))] (fun v_ w_ => ∃ zm_39 : Int32, ∃ zm_37 : Int32, ∃ zm_38 : Nat, ∃ zm_14 : Nat, ∃ zm_36 : Nat, ∃ zm_15 : Nat, ∃ zm_32 : Nat, ∃ zm_33 : Nat, ∃ zm_42 : Nat, ∃ zr16_f : Nat → Int32, ∃ zr17_f : Nat → Int32, ∃ zr : Int32, (zm_38 ≤ 65535) ∧ (zm_14 ≤ 255) ∧ (zm_36 ≤ 65535) ∧ (zm_15 ≤ 2) ∧ (zm_32 ≤ 48000) ∧ (zm_33 ≤ 48000) ∧ (zm_42 ≤ 12) ∧ (zr = 0 ∨ zr = 1) ∧ (zr = 0 ∨ (10 ≤ n ∧ zm_14 ≤ 8 ∧ zm_38 ≤ 600 ∧ 1 ≤ zm_15 ∧ zm_32 ≤ zm_33 ∧ zm_15 * zm_38 ≤ 1200 ∧ ∀ f, f < zm_38 → zm_15 * f + zm_15 ≤ 1200)) ∧ (∀ (β : Type) (k_ : Int32 → Int32 → Nat → Nat → Nat → Nat → Nat → Nat → Nat → (Nat → Int32) → (Nat → Int32) → Int32 → β), fn_wr_X11_opens m_14 m_15 m_32 m_33 m_36 m_37 m_38 m_39 m_42 r43_f r16_f r17_f n β k_ = k_ zm_39 zm_37 zm_38 zm_14 zm_36 zm_15 zm_32 zm_33 zm_42 zr16_f zr17_f zr) ∧ v_ = some (.int zr) ∧ w_ = [(m, .inr (11, mkF r m_1 m_4 m_9 m_10 zm_14 zm_15 m_25 m_26 m_27 m_28 m_29 m_31 zm_32 zm_33 m_35 zm_36 zm_37 zm_38 zm_39 m_40 zm_42)), ((r 43), .inl (E.2.2.1 1, 6000, .inl (nb r43_f))), ((r 16), .inl (E.2.2.1 0, 8, .inl zr16_f)), ((r 17), .inl (E.2.2.1 0, 8, .inl zr17_f))]) := by
  refine Ev.intro (by decide) (Nat.le_of_ble_eq_true rfl) ?_
  intro X B hr hI
  have B : Bd E X cX11_opens RX11 6 1 25 0 0 := B
  have hr : Rt E X (some .boolean) 0 0 (fun v_ w_ => ∃ zm_39 : Int32, ∃ zm_37 : Int32, ∃ zm_38 : Nat, ∃ zm_14 : Nat, ∃ zm_36 : Nat, ∃ zm_15 : Nat, ∃ zm_32 : Nat, ∃ zm_33 : Nat, ∃ zm_42 : Nat, ∃ zr16_f : Nat → Int32, ∃ zr17_f : Nat → Int32, ∃ zr : Int32, (zm_38 ≤ 65535) ∧ (zm_14 ≤ 255) ∧ (zm_36 ≤ 65535) ∧ (zm_15 ≤ 2) ∧ (zm_32 ≤ 48000) ∧ (zm_33 ≤ 48000) ∧ (zm_42 ≤ 12) ∧ (zr = 0 ∨ zr = 1) ∧ (zr = 0 ∨ (10 ≤ n ∧ zm_14 ≤ 8 ∧ zm_38 ≤ 600 ∧ 1 ≤ zm_15 ∧ zm_32 ≤ zm_33 ∧ zm_15 * zm_38 ≤ 1200 ∧ ∀ f, f < zm_38 → zm_15 * f + zm_15 ≤ 1200)) ∧ (∀ (β : Type) (k_ : Int32 → Int32 → Nat → Nat → Nat → Nat → Nat → Nat → Nat → (Nat → Int32) → (Nat → Int32) → Int32 → β), fn_wr_X11_opens m_14 m_15 m_32 m_33 m_36 m_37 m_38 m_39 m_42 r43_f r16_f r17_f n β k_ = k_ zm_39 zm_37 zm_38 zm_14 zm_36 zm_15 zm_32 zm_33 zm_42 zr16_f zr17_f zr) ∧ v_ = some (.int zr) ∧ w_ = [(m, .inr (11, mkF r m_1 m_4 m_9 m_10 zm_14 zm_15 m_25 m_26 m_27 m_28 m_29 m_31 zm_32 zm_33 m_35 zm_36 zm_37 zm_38 zm_39 m_40 zm_42)), ((r 43), .inl (E.2.2.1 1, 6000, .inl (nb r43_f))), ((r 16), .inl (E.2.2.1 0, 8, .inl zr16_f)), ((r 17), .inl (E.2.2.1 0, 8, .inl zr17_f))]) := hr
  have e_ := fun (β : Type) (k_ : Int32 → Int32 → Nat → Nat → Nat → Nat → Nat → Nat → Nat → (Nat → Int32) → (Nat → Int32) → Int32 → β) => fn_wr_X11_opens_s (β := β) (k_ := k_) (m_14 := m_14) (m_15 := m_15) (m_32 := m_32) (m_33 := m_33) (m_36 := m_36) (m_37 := m_37) (m_38 := m_38) (m_39 := m_39) (m_42 := m_42) (r43_f := r43_f) (r16_f := r16_f) (r17_f := r17_f) (n := n)
  show G E X 6 [(m, .inr (11, mkF r m_1 m_4 m_9 m_10 m_14 m_15 m_25 m_26 m_27 m_28 m_29 m_31 m_32 m_33 m_35 m_36 m_37 m_38 m_39 m_40 m_42)), ((r 43), .inl (E.2.2.1 1, 6000, .inl (nb r43_f))), ((r 16), .inl (E.2.2.1 0, 8, .inl r16_f)), ((r 17), .inl (E.2.2.1 0, 8, .inl r17_f))] 0 0 [(0, .ref m), (1, .int (nI n))] 0 []
  refine g_iload_n B dX11_opens_0 rfl 1 rfl ?_
  refine g_bipush (v := 10) B dX11_opens_1 (by decide) ?_
  refine g_icmp_ge (tgt := 12) B dX11_opens_3 (by decide) (fun c3_3146 => ?_) (fun c3_3146 => ?_)
  · have hn_3147 : 10 ≤ n := (nI_leI (a := 10) (b := n) (by omega) (by omega)).mp c3_3146
    replace e_ := fun β k_ => (e_ β k_).trans (if_pos hn_3147)
    refine g_aload_n B dX11_opens_12 rfl 0 rfl ?_
    refine g_get B 0 43 fl_X11_80 rfl mf_43 dX11_opens_13 ?_
    refine g_iload_n B dX11_opens_16 rfl 1 rfl ?_
    refine g_iconst (v := 4) B dX11_opens_17 (by decide) ?_
    refine g_isub B dX11_opens_18 ?_
    refine g_ri (x' := nI (n - 4)) (pk_sub (a := n) (b := 4) (by omega)) ?_
    refine g_callS (st := []) (As := [.ref (r 43), .int (nI (n - 4))]) (wr := [(m, .inr (11, mkF r m_1 m_4 m_9 m_10 m_14 m_15 m_25 m_26 m_27 m_28 m_29 m_31 m_32 m_33 m_35 m_36 m_37 m_38 m_39 m_40 m_42)), ((r 16), .inl (E.2.2.1 0, 8, .inl r16_f)), ((r 17), .inl (E.2.2.1 0, 8, .inl r17_f))]) (nc' := 0) (ns' := 0) B cl_X11_321 w_sm_X11_intAt (wr_X11_intAt E (r 43) 6000 (n - 4) r43_f (by first | assumption | omega | decide | exact hCF _ (by omega)) (by first | assumption | omega | decide | exact hCF _ (by omega))) rfl [1] [0, 2, 3] rfl rfl (by decide) (by decide) (by decide) ⟨by decide, by decide⟩ rfl rfl (by decide) (by decide) rfl (Nat.le_of_ble_eq_true rfl) dX11_opens_19 (fun v w hq => ?_)
    obtain ⟨zr_3149, hz_3150, rfl, rfl⟩ := hq
    replace e_ := fun β k_ => (e_ β k_).trans (hz_3150 β _)
    show G E X 6 [(m, .inr (11, mkF r m_1 m_4 m_9 m_10 m_14 m_15 m_25 m_26 m_27 m_28 m_29 m_31 m_32 m_33 m_35 m_36 m_37 m_38 m_39 m_40 m_42)), ((r 16), .inl (E.2.2.1 0, 8, .inl r16_f)), ((r 17), .inl (E.2.2.1 0, 8, .inl r17_f)), ((r 43), .inl (E.2.2.1 1, 6000, .inl (nb r43_f)))] 0 0 [(0, .ref m), (1, .int (nI n))] 22 [.int zr_3149]
    refine g_aload_n B dX11_opens_22 rfl 0 rfl ?_
    refine g_get B 0 43 fl_X11_80 rfl mf_43 dX11_opens_23 ?_
    refine g_iconst (v := 0) B dX11_opens_26 (by decide) ?_
    refine g_iload_n B dX11_opens_27 rfl 1 rfl ?_
    refine g_iconst (v := 4) B dX11_opens_28 (by decide) ?_
    refine g_isub B dX11_opens_29 ?_
    refine g_ri (x' := nI (n - 4)) (pk_sub (a := n) (b := 4) (by omega)) ?_
    refine g_callS (st := [.int zr_3149]) (As := [.ref (r 43), .int 0, .int (nI (n - 4))]) (wr := [(m, .inr (11, mkF r m_1 m_4 m_9 m_10 m_14 m_15 m_25 m_26 m_27 m_28 m_29 m_31 m_32 m_33 m_35 m_36 m_37 m_38 m_39 m_40 m_42)), ((r 16), .inl (E.2.2.1 0, 8, .inl r16_f)), ((r 17), .inl (E.2.2.1 0, 8, .inl r17_f))]) (nc' := 0) (ns' := 0) B cl_X11_259 w_sm_X11_crc (wr_X11_crc E (r 43) 6000 0 (n - 4) r43_f (by first | assumption | omega | decide | exact hCF _ (by omega)) (by first | assumption | omega | decide | exact hCF _ (by omega))) rfl [3] [0, 1, 2] rfl rfl (by decide) (by decide) (by decide) ⟨by decide, by decide⟩ rfl rfl (by decide) (by decide) rfl (Nat.le_of_ble_eq_true rfl) dX11_opens_30 (fun v w hq => ?_)
    obtain ⟨zr_3151, hz_3152, rfl, rfl⟩ := hq
    replace e_ := fun β k_ => (e_ β k_).trans (hz_3152 β _)
    show G E X 6 [(m, .inr (11, mkF r m_1 m_4 m_9 m_10 m_14 m_15 m_25 m_26 m_27 m_28 m_29 m_31 m_32 m_33 m_35 m_36 m_37 m_38 m_39 m_40 m_42)), ((r 16), .inl (E.2.2.1 0, 8, .inl r16_f)), ((r 17), .inl (E.2.2.1 0, 8, .inl r17_f)), ((r 43), .inl (E.2.2.1 1, 6000, .inl (nb r43_f)))] 0 0 [(0, .ref m), (1, .int (nI n))] 33 [.int zr_3151, .int zr_3149]
    refine g_icmp_eq (tgt := 42) B dX11_opens_33 (by decide) (fun c33_3153 => ?_) (fun c33_3153 => ?_)
    · replace e_ := fun β k_ => (e_ β k_).trans (if_pos c33_3153)
      refine g_iload_n B dX11_opens_42 rfl 1 rfl ?_
      refine g_iconst (v := 4) B dX11_opens_43 (by decide) ?_
      refine g_isub B dX11_opens_44 ?_
      refine g_ri (x' := nI (n - 4)) (pk_sub (a := n) (b := 4) (by omega)) ?_
      refine g_istore_n (lv' := [(2, .int (nI (n - 4))), (0, .ref m), (1, .int (nI n))]) B dX11_opens_45 rfl (by decide) rfl ?_
      refine g_aload_n B dX11_opens_46 rfl 1 rfl ?_
      refine g_aload_n B dX11_opens_47 rfl 1 rfl ?_
      refine g_get B 0 43 fl_X11_80 rfl mf_43 dX11_opens_48 ?_
      refine g_iconst (v := 1) B dX11_opens_51 (by decide) ?_
      refine g_bald B 3 rfl (by unfold vp_in; decide) dX11_opens_52 ?_
      refine g_ri (x' := (nb r43_f 1)) (congrArg (nb r43_f) (by decide)) ?_
      refine g_sipush (v := 255) B dX11_opens_53 (by decide) ?_
      refine g_iand B dX11_opens_56 ?_
      refine g_ri (x' := nI (((nb r43_f 1)).toBitVec.toNat % 256)) (pk_and (nb r43_f 1) (m := 255) 8 (by decide)) ?_
      refine g_putM (ws' := [(m, .inr (11, mkF r m_1 m_4 m_9 m_10 m_14 m_15 m_25 m_26 m_27 m_28 m_29 m_31 m_32 m_33 m_35 m_36 m_37 m_38 (nI (((nb r43_f 1)).toBitVec.toNat % 256)) m_40 m_42)), ((r 16), .inl (E.2.2.1 0, 8, .inl r16_f)), ((r 17), .inl (E.2.2.1 0, 8, .inl r17_f)), ((r 43), .inl (E.2.2.1 1, 6000, .inl (nb r43_f)))]) (fs' := mkF r m_1 m_4 m_9 m_10 m_14 m_15 m_25 m_26 m_27 m_28 m_29 m_31 m_32 m_33 m_35 m_36 m_37 m_38 (nI (((nb r43_f 1)).toBitVec.toNat % 256)) m_40 m_42) B 0 39 fl_X11_206 pf_X11_39 rfl (mlt (by decide)) rfl rfl (ms_39 rfl) rfl dX11_opens_57 ?_
      refine g_aload_n B dX11_opens_60 rfl 1 rfl ?_
      refine g_aload_n B dX11_opens_61 rfl 1 rfl ?_
      refine g_get B 0 43 fl_X11_80 rfl mf_43 dX11_opens_62 ?_
      refine g_iconst (v := 2) B dX11_opens_65 (by decide) ?_
      refine g_bald B 3 rfl (by unfold vp_in; decide) dX11_opens_66 ?_
      refine g_ri (x' := (nb r43_f 2)) (congrArg (nb r43_f) (by decide)) ?_
      refine g_sipush (v := 255) B dX11_opens_67 (by decide) ?_
      refine g_iand B dX11_opens_70 ?_
      refine g_ri (x' := nI (((nb r43_f 2)).toBitVec.toNat % 256)) (pk_and (nb r43_f 2) (m := 255) 8 (by decide)) ?_
      refine g_putM (ws' := [(m, .inr (11, mkF r m_1 m_4 m_9 m_10 m_14 m_15 m_25 m_26 m_27 m_28 m_29 m_31 m_32 m_33 m_35 m_36 (nI (((nb r43_f 2)).toBitVec.toNat % 256)) m_38 (nI (((nb r43_f 1)).toBitVec.toNat % 256)) m_40 m_42)), ((r 16), .inl (E.2.2.1 0, 8, .inl r16_f)), ((r 17), .inl (E.2.2.1 0, 8, .inl r17_f)), ((r 43), .inl (E.2.2.1 1, 6000, .inl (nb r43_f)))]) (fs' := mkF r m_1 m_4 m_9 m_10 m_14 m_15 m_25 m_26 m_27 m_28 m_29 m_31 m_32 m_33 m_35 m_36 (nI (((nb r43_f 2)).toBitVec.toNat % 256)) m_38 (nI (((nb r43_f 1)).toBitVec.toNat % 256)) m_40 m_42) B 0 37 fl_X11_196 pf_X11_37 rfl (mlt (by decide)) rfl rfl (ms_37 rfl) rfl dX11_opens_71 ?_
      refine g_aload_n B dX11_opens_74 rfl 1 rfl ?_
      refine g_aload_n B dX11_opens_75 rfl 1 rfl ?_
      refine g_get B 0 43 fl_X11_80 rfl mf_43 dX11_opens_76 ?_
      refine g_iconst (v := 3) B dX11_opens_79 (by decide) ?_
      refine g_bald B 3 rfl (by unfold vp_in; decide) dX11_opens_80 ?_
      refine g_ri (x' := (nb r43_f 3)) (congrArg (nb r43_f) (by decide)) ?_
      refine g_sipush (v := 255) B dX11_opens_81 (by decide) ?_
      refine g_iand B dX11_opens_84 ?_
      refine g_ri (x' := nI (((nb r43_f 3)).toBitVec.toNat % 256)) (pk_and (nb r43_f 3) (m := 255) 8 (by decide)) ?_
      refine g_bipush (v := 8) B dX11_opens_85 (by decide) ?_
      refine g_ishl B dX11_opens_87 ?_
      refine g_ri (x' := nI ((((nb r43_f 3)).toBitVec.toNat % 256) * 256)) (pk_shlN (n := (((nb r43_f 3)).toBitVec.toNat % 256)) (8 &&& 31) 8 (by decide) (by omega)) ?_
      refine g_aload_n B dX11_opens_88 rfl 1 rfl ?_
      refine g_get B 0 43 fl_X11_80 rfl mf_43 dX11_opens_89 ?_
      refine g_iconst (v := 4) B dX11_opens_92 (by decide) ?_
      refine g_bald B 3 rfl (by unfold vp_in; decide) dX11_opens_93 ?_
      refine g_ri (x' := (nb r43_f 4)) (congrArg (nb r43_f) (by decide)) ?_
      refine g_sipush (v := 255) B dX11_opens_94 (by decide) ?_
      refine g_iand B dX11_opens_97 ?_
      refine g_ri (x' := nI (((nb r43_f 4)).toBitVec.toNat % 256)) (pk_and (nb r43_f 4) (m := 255) 8 (by decide)) ?_
      refine g_ior B dX11_opens_98 ?_
      have ho_3154 := or_lt (a := ((((nb r43_f 3)).toBitVec.toNat % 256) * 256)) (b := (((nb r43_f 4)).toBitVec.toNat % 256)) (by omega) (by omega)
      refine g_ri (x' := nI (((((nb r43_f 3)).toBitVec.toNat % 256) * 256) ||| (((nb r43_f 4)).toBitVec.toNat % 256))) (or_eq (a := ((((nb r43_f 3)).toBitVec.toNat % 256) * 256)) (b := (((nb r43_f 4)).toBitVec.toNat % 256)) (by omega) (by omega)) ?_
      refine g_putM (ws' := [(m, .inr (11, mkF r m_1 m_4 m_9 m_10 m_14 m_15 m_25 m_26 m_27 m_28 m_29 m_31 m_32 m_33 m_35 m_36 (nI (((nb r43_f 2)).toBitVec.toNat % 256)) (((((nb r43_f 3)).toBitVec.toNat % 256) * 256) ||| (((nb r43_f 4)).toBitVec.toNat % 256)) (nI (((nb r43_f 1)).toBitVec.toNat % 256)) m_40 m_42)), ((r 16), .inl (E.2.2.1 0, 8, .inl r16_f)), ((r 17), .inl (E.2.2.1 0, 8, .inl r17_f)), ((r 43), .inl (E.2.2.1 1, 6000, .inl (nb r43_f)))]) (fs' := mkF r m_1 m_4 m_9 m_10 m_14 m_15 m_25 m_26 m_27 m_28 m_29 m_31 m_32 m_33 m_35 m_36 (nI (((nb r43_f 2)).toBitVec.toNat % 256)) (((((nb r43_f 3)).toBitVec.toNat % 256) * 256) ||| (((nb r43_f 4)).toBitVec.toNat % 256)) (nI (((nb r43_f 1)).toBitVec.toNat % 256)) m_40 m_42) B 0 38 fl_X11_189 pf_X11_38 rfl (mlt (by decide)) rfl rfl (ms_38 rfl) rfl dX11_opens_99 ?_
      refine g_aload_n B dX11_opens_102 rfl 1 rfl ?_
      refine g_aload_n B dX11_opens_103 rfl 1 rfl ?_
      refine g_get B 0 43 fl_X11_80 rfl mf_43 dX11_opens_104 ?_
      refine g_iconst (v := 5) B dX11_opens_107 (by decide) ?_
      refine g_bald B 3 rfl (by unfold vp_in; decide) dX11_opens_108 ?_
      refine g_ri (x' := (nb r43_f 5)) (congrArg (nb r43_f) (by decide)) ?_
      refine g_sipush (v := 255) B dX11_opens_109 (by decide) ?_
      refine g_iand B dX11_opens_112 ?_
      refine g_ri (x' := nI (((nb r43_f 5)).toBitVec.toNat % 256)) (pk_and (nb r43_f 5) (m := 255) 8 (by decide)) ?_
      refine g_putM (ws' := [(m, .inr (11, mkF r m_1 m_4 m_9 m_10 (((nb r43_f 5)).toBitVec.toNat % 256) m_15 m_25 m_26 m_27 m_28 m_29 m_31 m_32 m_33 m_35 m_36 (nI (((nb r43_f 2)).toBitVec.toNat % 256)) (((((nb r43_f 3)).toBitVec.toNat % 256) * 256) ||| (((nb r43_f 4)).toBitVec.toNat % 256)) (nI (((nb r43_f 1)).toBitVec.toNat % 256)) m_40 m_42)), ((r 16), .inl (E.2.2.1 0, 8, .inl r16_f)), ((r 17), .inl (E.2.2.1 0, 8, .inl r17_f)), ((r 43), .inl (E.2.2.1 1, 6000, .inl (nb r43_f)))]) (fs' := mkF r m_1 m_4 m_9 m_10 (((nb r43_f 5)).toBitVec.toNat % 256) m_15 m_25 m_26 m_27 m_28 m_29 m_31 m_32 m_33 m_35 m_36 (nI (((nb r43_f 2)).toBitVec.toNat % 256)) (((((nb r43_f 3)).toBitVec.toNat % 256) * 256) ||| (((nb r43_f 4)).toBitVec.toNat % 256)) (nI (((nb r43_f 1)).toBitVec.toNat % 256)) m_40 m_42) B 0 14 fl_X11_121 pf_X11_14 rfl (mlt (by decide)) rfl rfl (ms_14 rfl) rfl dX11_opens_113 ?_
      refine g_aload_n B dX11_opens_116 rfl 1 rfl ?_
      refine g_get B 0 39 fl_X11_206 rfl mf_39 dX11_opens_117 ?_
      refine g_iconst (v := 1) B dX11_opens_120 (by decide) ?_
      refine g_iand B dX11_opens_121 ?_
      refine g_ri (x' := nI ((((nb r43_f 1)).toBitVec.toNat % 256) % 2)) (pk_andN (n := (((nb r43_f 1)).toBitVec.toNat % 256)) (by omega) 1 (by decide)) ?_
      refine g_if_ne (tgt := 139) B dX11_opens_122 (by decide) (fun c122_3155 => ?_) (fun c122_3155 => ?_)
      · have hn_3156 : ¬ ((((nb r43_f 1)).toBitVec.toNat % 256) % 2) = 0 := fun q => c122_3155 ((nI_eq (a := ((((nb r43_f 1)).toBitVec.toNat % 256) % 2)) (b := 0) (by omega) (by omega)).mpr q)
        replace e_ := fun β k_ => (e_ β k_).trans (if_neg hn_3156)
        refine g_iconst (v := 0) B dX11_opens_139 (by decide) ?_
        refine g_istore_n (lv' := [(3, .int 0), (2, .int (nI (n - 4))), (0, .ref m), (1, .int (nI n))]) B dX11_opens_140 rfl (by decide) rfl ?_
        refine g_sub (ws' := [(m, .inr (11, mkF r m_1 m_4 m_9 m_10 (((nb r43_f 5)).toBitVec.toNat % 256) m_15 m_25 m_26 m_27 m_28 m_29 m_31 m_32 m_33 m_35 m_36 (nI (((nb r43_f 2)).toBitVec.toNat % 256)) (((((nb r43_f 3)).toBitVec.toNat % 256) * 256) ||| (((nb r43_f 4)).toBitVec.toNat % 256)) (nI (((nb r43_f 1)).toBitVec.toNat % 256)) m_40 m_42)), ((r 43), .inl (E.2.2.1 1, 6000, .inl (nb r43_f))), ((r 16), .inl (E.2.2.1 0, 8, .inl r16_f)), ((r 17), .inl (E.2.2.1 0, 8, .inl r17_f))]) [0, 3, 1, 2] (by decide) rfl ?_
        refine g_lvsub (lv' := [(0, .ref m), (1, .int (nI n)), (2, .int (nI (n - 4))), (3, .int 0)]) [2, 3, 1, 0] rfl ?_
        exact jn_wr_X11_opens_141 E m r m_1 m_4 m_9 m_10 m_14 m_15 m_25 m_26 m_27 m_28 m_29 m_31 m_32 m_33 m_35 m_36 m_37 m_38 m_39 m_40 m_42 r43_f r16_f r17_f n h0 hb0 hb1 hb2 hb3 hb4 hb5 hb6 (((nb r43_f 5)).toBitVec.toNat % 256) m_15 m_32 m_33 m_36 (nI (((nb r43_f 2)).toBitVec.toNat % 256)) (((((nb r43_f 3)).toBitVec.toNat % 256) * 256) ||| (((nb r43_f 4)).toBitVec.toNat % 256)) (nI (((nb r43_f 1)).toBitVec.toNat % 256)) m_42 r16_f r17_f 0 (by first | assumption | omega | decide | exact hCF _ (by omega)) (by first | assumption | omega | decide | exact hCF _ (by omega)) (by first | assumption | omega | decide | exact hCF _ (by omega)) (by first | assumption | omega | decide | exact hCF _ (by omega)) (by first | assumption | omega | decide | exact hCF _ (by omega)) (by first | assumption | omega | decide | exact hCF _ (by omega)) (by first | assumption | omega | decide | exact hCF _ (by omega)) (by first | assumption | omega | decide | exact hCF _ (by omega)) B hr e_
      · have hn_3157 : ((((nb r43_f 1)).toBitVec.toNat % 256) % 2) = 0 := (nI_eq (a := ((((nb r43_f 1)).toBitVec.toNat % 256) % 2)) (b := 0) (by omega) (by omega)).mp c122_3155
        replace e_ := fun β k_ => (e_ β k_).trans (if_pos hn_3157)
        refine g_aload_n B dX11_opens_125 rfl 1 rfl ?_
        refine g_get B 0 39 fl_X11_206 rfl mf_39 dX11_opens_126 ?_
        refine g_bipush (v := 6) B dX11_opens_129 (by decide) ?_
        refine g_iand B dX11_opens_131 ?_
        refine g_if_eq (tgt := 139) B dX11_opens_132 (by decide) (fun c132_3256 => ?_) (fun c132_3256 => ?_)
        · replace e_ := fun β k_ => (e_ β k_).trans (if_pos c132_3256)
          refine g_iconst (v := 0) B dX11_opens_139 (by decide) ?_
          refine g_istore_n (lv' := [(3, .int 0), (2, .int (nI (n - 4))), (0, .ref m), (1, .int (nI n))]) B dX11_opens_140 rfl (by decide) rfl ?_
          refine g_sub (ws' := [(m, .inr (11, mkF r m_1 m_4 m_9 m_10 (((nb r43_f 5)).toBitVec.toNat % 256) m_15 m_25 m_26 m_27 m_28 m_29 m_31 m_32 m_33 m_35 m_36 (nI (((nb r43_f 2)).toBitVec.toNat % 256)) (((((nb r43_f 3)).toBitVec.toNat % 256) * 256) ||| (((nb r43_f 4)).toBitVec.toNat % 256)) (nI (((nb r43_f 1)).toBitVec.toNat % 256)) m_40 m_42)), ((r 43), .inl (E.2.2.1 1, 6000, .inl (nb r43_f))), ((r 16), .inl (E.2.2.1 0, 8, .inl r16_f)), ((r 17), .inl (E.2.2.1 0, 8, .inl r17_f))]) [0, 3, 1, 2] (by decide) rfl ?_
          refine g_lvsub (lv' := [(0, .ref m), (1, .int (nI n)), (2, .int (nI (n - 4))), (3, .int 0)]) [2, 3, 1, 0] rfl ?_
          exact jn_wr_X11_opens_141 E m r m_1 m_4 m_9 m_10 m_14 m_15 m_25 m_26 m_27 m_28 m_29 m_31 m_32 m_33 m_35 m_36 m_37 m_38 m_39 m_40 m_42 r43_f r16_f r17_f n h0 hb0 hb1 hb2 hb3 hb4 hb5 hb6 (((nb r43_f 5)).toBitVec.toNat % 256) m_15 m_32 m_33 m_36 (nI (((nb r43_f 2)).toBitVec.toNat % 256)) (((((nb r43_f 3)).toBitVec.toNat % 256) * 256) ||| (((nb r43_f 4)).toBitVec.toNat % 256)) (nI (((nb r43_f 1)).toBitVec.toNat % 256)) m_42 r16_f r17_f 0 (by first | assumption | omega | decide | exact hCF _ (by omega)) (by first | assumption | omega | decide | exact hCF _ (by omega)) (by first | assumption | omega | decide | exact hCF _ (by omega)) (by first | assumption | omega | decide | exact hCF _ (by omega)) (by first | assumption | omega | decide | exact hCF _ (by omega)) (by first | assumption | omega | decide | exact hCF _ (by omega)) (by first | assumption | omega | decide | exact hCF _ (by omega)) (by first | assumption | omega | decide | exact hCF _ (by omega)) B hr e_
        · replace e_ := fun β k_ => (e_ β k_).trans (if_neg c132_3256)
          refine g_iconst (v := 1) B dX11_opens_135 (by decide) ?_
          refine g_goto (tgt := 140) B dX11_opens_136 (by decide) ?_
          refine g_istore_n (lv' := [(3, .int 1), (2, .int (nI (n - 4))), (0, .ref m), (1, .int (nI n))]) B dX11_opens_140 rfl (by decide) rfl ?_
          refine g_sub (ws' := [(m, .inr (11, mkF r m_1 m_4 m_9 m_10 (((nb r43_f 5)).toBitVec.toNat % 256) m_15 m_25 m_26 m_27 m_28 m_29 m_31 m_32 m_33 m_35 m_36 (nI (((nb r43_f 2)).toBitVec.toNat % 256)) (((((nb r43_f 3)).toBitVec.toNat % 256) * 256) ||| (((nb r43_f 4)).toBitVec.toNat % 256)) (nI (((nb r43_f 1)).toBitVec.toNat % 256)) m_40 m_42)), ((r 43), .inl (E.2.2.1 1, 6000, .inl (nb r43_f))), ((r 16), .inl (E.2.2.1 0, 8, .inl r16_f)), ((r 17), .inl (E.2.2.1 0, 8, .inl r17_f))]) [0, 3, 1, 2] (by decide) rfl ?_
          refine g_lvsub (lv' := [(0, .ref m), (1, .int (nI n)), (2, .int (nI (n - 4))), (3, .int 1)]) [2, 3, 1, 0] rfl ?_
          exact jn_wr_X11_opens_141 E m r m_1 m_4 m_9 m_10 m_14 m_15 m_25 m_26 m_27 m_28 m_29 m_31 m_32 m_33 m_35 m_36 m_37 m_38 m_39 m_40 m_42 r43_f r16_f r17_f n h0 hb0 hb1 hb2 hb3 hb4 hb5 hb6 (((nb r43_f 5)).toBitVec.toNat % 256) m_15 m_32 m_33 m_36 (nI (((nb r43_f 2)).toBitVec.toNat % 256)) (((((nb r43_f 3)).toBitVec.toNat % 256) * 256) ||| (((nb r43_f 4)).toBitVec.toNat % 256)) (nI (((nb r43_f 1)).toBitVec.toNat % 256)) m_42 r16_f r17_f 1 (by first | assumption | omega | decide | exact hCF _ (by omega)) (by first | assumption | omega | decide | exact hCF _ (by omega)) (by first | assumption | omega | decide | exact hCF _ (by omega)) (by first | assumption | omega | decide | exact hCF _ (by omega)) (by first | assumption | omega | decide | exact hCF _ (by omega)) (by first | assumption | omega | decide | exact hCF _ (by omega)) (by first | assumption | omega | decide | exact hCF _ (by omega)) (by first | assumption | omega | decide | exact hCF _ (by omega)) B hr e_
    · replace e_ := fun β k_ => (e_ β k_).trans (if_neg c33_3153)
      refine g_aload_n B dX11_opens_36 rfl 0 rfl ?_
      refine g_iconst (v := 2) B dX11_opens_37 (by decide) ?_
      refine g_callV (st := []) (As := [.int 2]) (wr := [((r 16), .inl (E.2.2.1 0, 8, .inl r16_f)), ((r 17), .inl (E.2.2.1 0, 8, .inl r17_f)), ((r 43), .inl (E.2.2.1 1, 6000, .inl (nb r43_f)))]) (nc' := 0) (ns' := 0) B cl_X11_313 w_im_X11_wrong w_se_X11_wrong (wr_X11_wrong E m r m_1 m_4 m_9 m_10 m_14 m_15 m_25 m_26 m_27 m_28 m_29 m_31 m_32 m_33 m_35 m_36 m_37 m_38 m_39 m_40 m_42 2 (by first | assumption | omega | decide | exact hCF _ (by omega)) (by first | assumption | omega | decide | exact hCF _ (by omega)) (by first | assumption | omega | decide | exact hCF _ (by omega))) rfl [0] [1, 2, 3] rfl rfl (by decide) (by decide) (by decide) 0 rfl (fun q h => by cases h; rfl) rfl ⟨by decide, by decide⟩ rfl rfl (by decide) (by decide) rfl (Nat.le_of_ble_eq_true rfl) dX11_opens_38 (fun v w hq => ?_)
      obtain ⟨zm_42_3257, hf_3258, hf_3259, hz_3260, rfl, rfl⟩ := hq
      replace e_ := fun β k_ => (e_ β k_).trans (hz_3260 β _)
      show G E X 6 [((r 16), .inl (E.2.2.1 0, 8, .inl r16_f)), ((r 17), .inl (E.2.2.1 0, 8, .inl r17_f)), ((r 43), .inl (E.2.2.1 1, 6000, .inl (nb r43_f))), (m, .inr (11, mkF r m_1 m_4 m_9 m_10 m_14 m_15 m_25 m_26 m_27 m_28 m_29 m_31 m_32 m_33 m_35 m_36 m_37 m_38 m_39 m_40 zm_42_3257))] 0 0 [(0, .ref m), (1, .int (nI n))] 41 [.int 0]
      refine g_sub (ws' := [(m, .inr (11, mkF r m_1 m_4 m_9 m_10 m_14 m_15 m_25 m_26 m_27 m_28 m_29 m_31 m_32 m_33 m_35 m_36 m_37 m_38 m_39 m_40 zm_42_3257)), ((r 43), .inl (E.2.2.1 1, 6000, .inl (nb r43_f))), ((r 16), .inl (E.2.2.1 0, 8, .inl r16_f)), ((r 17), .inl (E.2.2.1 0, 8, .inl r17_f))]) [3, 2, 0, 1] (by decide) rfl ?_
      exact g_zret B hr (by decide) dX11_opens_41 (by decide) (by decide) ⟨m_39, m_37, m_38, m_14, m_36, m_15, m_32, m_33, zm_42_3257, r16_f, r17_f, 0, (by first | assumption | omega | decide | exact hCF _ (by omega)), (by first | assumption | omega | decide | exact hCF _ (by omega)), (by first | assumption | omega | decide | exact hCF _ (by omega)), (by first | assumption | omega | decide | exact hCF _ (by omega)), (by first | assumption | omega | decide | exact hCF _ (by omega)), (by first | assumption | omega | decide | exact hCF _ (by omega)), (by first | assumption | omega | decide | exact hCF _ (by omega)), (by first | assumption | omega | decide | exact hCF _ (by omega)), (Or.inl rfl), e_, rfl, rfl⟩
  · have hn_3148 : n < 10 := Nat.not_le.mp (fun q => c3_3146 ((nI_leI (a := 10) (b := n) (by omega) (by omega)).mpr q))
    replace e_ := fun β k_ => (e_ β k_).trans (if_neg (Nat.not_le.mpr hn_3148))
    refine g_aload_n B dX11_opens_6 rfl 0 rfl ?_
    refine g_iconst (v := 1) B dX11_opens_7 (by decide) ?_
    refine g_callV (st := []) (As := [.int 1]) (wr := [((r 43), .inl (E.2.2.1 1, 6000, .inl (nb r43_f))), ((r 16), .inl (E.2.2.1 0, 8, .inl r16_f)), ((r 17), .inl (E.2.2.1 0, 8, .inl r17_f))]) (nc' := 0) (ns' := 0) B cl_X11_313 w_im_X11_wrong w_se_X11_wrong (wr_X11_wrong E m r m_1 m_4 m_9 m_10 m_14 m_15 m_25 m_26 m_27 m_28 m_29 m_31 m_32 m_33 m_35 m_36 m_37 m_38 m_39 m_40 m_42 1 (by first | assumption | omega | decide | exact hCF _ (by omega)) (by first | assumption | omega | decide | exact hCF _ (by omega)) (by first | assumption | omega | decide | exact hCF _ (by omega))) rfl [0] [1, 2, 3] rfl rfl (by decide) (by decide) (by decide) 0 rfl (fun q h => by cases h; rfl) rfl ⟨by decide, by decide⟩ rfl rfl (by decide) (by decide) rfl (Nat.le_of_ble_eq_true rfl) dX11_opens_8 (fun v w hq => ?_)
    obtain ⟨zm_42_3261, hf_3262, hf_3263, hz_3264, rfl, rfl⟩ := hq
    replace e_ := fun β k_ => (e_ β k_).trans (hz_3264 β _)
    show G E X 6 [((r 43), .inl (E.2.2.1 1, 6000, .inl (nb r43_f))), ((r 16), .inl (E.2.2.1 0, 8, .inl r16_f)), ((r 17), .inl (E.2.2.1 0, 8, .inl r17_f)), (m, .inr (11, mkF r m_1 m_4 m_9 m_10 m_14 m_15 m_25 m_26 m_27 m_28 m_29 m_31 m_32 m_33 m_35 m_36 m_37 m_38 m_39 m_40 zm_42_3261))] 0 0 [(0, .ref m), (1, .int (nI n))] 11 [.int 0]
    refine g_sub (ws' := [(m, .inr (11, mkF r m_1 m_4 m_9 m_10 m_14 m_15 m_25 m_26 m_27 m_28 m_29 m_31 m_32 m_33 m_35 m_36 m_37 m_38 m_39 m_40 zm_42_3261)), ((r 43), .inl (E.2.2.1 1, 6000, .inl (nb r43_f))), ((r 16), .inl (E.2.2.1 0, 8, .inl r16_f)), ((r 17), .inl (E.2.2.1 0, 8, .inl r17_f))]) [3, 0, 1, 2] (by decide) rfl ?_
    exact g_zret B hr (by decide) dX11_opens_11 (by decide) (by decide) ⟨m_39, m_37, m_38, m_14, m_36, m_15, m_32, m_33, zm_42_3261, r16_f, r17_f, 0, (by first | assumption | omega | decide | exact hCF _ (by omega)), (by first | assumption | omega | decide | exact hCF _ (by omega)), (by first | assumption | omega | decide | exact hCF _ (by omega)), (by first | assumption | omega | decide | exact hCF _ (by omega)), (by first | assumption | omega | decide | exact hCF _ (by omega)), (by first | assumption | omega | decide | exact hCF _ (by omega)), (by first | assumption | omega | decide | exact hCF _ (by omega)), (by first | assumption | omega | decide | exact hCF _ (by omega)), (Or.inl rfl), e_, rfl, rfl⟩
