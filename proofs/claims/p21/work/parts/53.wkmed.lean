abbrev MX5_begin : g_M := (yX5_begin, cX5_begin, 1, none)
theorem dX5_begin_0 : decode cX5_begin 0 = .ok (.aload_n 0, 1) := by decide +kernel
theorem dX5_begin_1 : decode cX5_begin 1 = .ok (.getfield 9, 3) := by decide +kernel
theorem dX5_begin_4 : decode cX5_begin 4 = .ok (.lconst 0, 1) := by decide +kernel
theorem dX5_begin_5 : decode cX5_begin 5 = .ok (.invokestatic 22, 3) := by decide +kernel
theorem w_ml_X5_22 : Cond.methodLink RX5 22 yJ7_fill_d0a16 ∈ g_tbl := g_tbl_in 473 (by decide +kernel) (by decide +kernel)
theorem w_cd_J7_fill_d0a16 : g_cw MJ7_fill_d0a16 ∈ g_tbl := g_tbl_in 475 (by decide +kernel) (by decide +kernel)
theorem cl_X5_22 : CL RX5 22 2 MJ7_fill_d0a16 := ⟨w_ml_X5_22, w_cd_J7_fill_d0a16, w_ini_J7, by decide +kernel, by decide +kernel, by decide +kernel⟩
theorem w_sm_J7_fill_d0a16 : Cond.static yJ7_fill_d0a16 ∈ g_tbl := g_tbl_in 474 (by decide +kernel) (by decide +kernel)
theorem dX5_begin_8 : decode cX5_begin 8 = .ok (.aload_n 0, 1) := by decide +kernel
theorem dX5_begin_9 : decode cX5_begin 9 = .ok (.lconst 0, 1) := by decide +kernel
theorem dX5_begin_10 : decode cX5_begin 10 = .ok (.putfield 15, 3) := by decide +kernel
theorem dX5_begin_13 : decode cX5_begin 13 = .ok (.aload_n 0, 1) := by decide +kernel
theorem dX5_begin_14 : decode cX5_begin 14 = .ok (.lconst 0, 1) := by decide +kernel
theorem dX5_begin_15 : decode cX5_begin 15 = .ok (.putfield 19, 3) := by decide +kernel
theorem dX5_begin_18 : decode cX5_begin 18 = .ok (.return_, 1) := by decide +kernel
set_option maxRecDepth 100000 in
def fn_wk_X5_begin (mi_f : Nat → Int64) (β : Type) (k_ : Int64 → Int64 → (Nat → Int64) → β) : β := (fn_wk_J7_fill_d0a16 6 mi_f 0 β (fun za_f_323 => (k_ 0 0 za_f_323)))
set_option maxRecDepth 100000 in
theorem fn_wk_X5_begin_s {mi_f : Nat → Int64} {β : Type} {k_ : Int64 → Int64 → (Nat → Int64) → β} : fn_wk_X5_begin mi_f β k_ = (fn_wk_J7_fill_d0a16 6 mi_f 0 β (fun za_f_323 => (k_ 0 0 za_f_323))) := rfl
set_option maxRecDepth 100000 in
set_option maxHeartbeats 4000000 in
theorem wk_X5_begin (E : g_E) (md : Nat) (mi : Nat) (md_1 : Int64) (md_2 : Int64) (mi_f : Nat → Int64)  : Ev E MX5_begin 1 24 0 0 [.ref md] [(md, .inr (5, [.ref mi, .long md_1, .long md_2])), (mi, .inl (E.2.2.1 3, 6, .inr (.inl mi_f)))] (fun v_ w_ => ∃ zmd_1 : Int64, ∃ zmd_2 : Int64, ∃ zmi_f : Nat → Int64, (∀ (β : Type) (k_ : Int64 → Int64 → (Nat → Int64) → β), fn_wk_X5_begin mi_f β k_ = k_ zmd_1 zmd_2 zmi_f) ∧ v_ = none ∧ w_ = [(md, .inr (5, [.ref mi, .long zmd_1, .long zmd_2])), (mi, .inl (E.2.2.1 3, 6, .inr (.inl zmi_f)))]) := by
  refine Ev.intro (by decide) (Nat.le_of_ble_eq_true rfl) ?_
  intro X B hr hI
  have B : Bd E X cX5_begin RX5 1 1 24 0 0 := B
  have hr : Rt E X none 0 0 (fun v_ w_ => ∃ zmd_1 : Int64, ∃ zmd_2 : Int64, ∃ zmi_f : Nat → Int64, (∀ (β : Type) (k_ : Int64 → Int64 → (Nat → Int64) → β), fn_wk_X5_begin mi_f β k_ = k_ zmd_1 zmd_2 zmi_f) ∧ v_ = none ∧ w_ = [(md, .inr (5, [.ref mi, .long zmd_1, .long zmd_2])), (mi, .inl (E.2.2.1 3, 6, .inr (.inl zmi_f)))]) := hr
  have e_ := fun (β : Type) (k_ : Int64 → Int64 → (Nat → Int64) → β) => fn_wk_X5_begin_s (β := β) (k_ := k_) (mi_f := mi_f)
  show G E X 1 [(md, .inr (5, [.ref mi, .long md_1, .long md_2])), (mi, .inl (E.2.2.1 3, 6, .inr (.inl mi_f)))] 0 0 [(0, .ref md)] 0 []
  refine g_aload_n B dX5_begin_0 rfl 0 rfl ?_
  refine g_get B 0 0 fl_X5_9 rfl rfl dX5_begin_1 ?_
  refine g_lconst (v := 0) B dX5_begin_4 (by decide) ?_
  refine g_callS (st := []) (As := [.ref mi, .long 0]) (wr := [(md, .inr (5, [.ref mi, .long md_1, .long md_2]))]) (nc' := 0) (ns' := 0) B cl_X5_22 w_sm_J7_fill_d0a16 (wk_J7_fill_d0a16 E mi 6 mi_f 0 (by first | assumption | omega | decide)) rfl [1] [0] rfl rfl (by decide) (by decide) (by decide) ⟨by decide, by decide⟩ rfl rfl (by decide) (by decide) rfl (Nat.le_of_ble_eq_true rfl) dX5_begin_5 (fun v w hq => ?_)
  obtain ⟨za_f_323, hz_324, rfl, rfl⟩ := hq
  replace e_ := fun β k_ => (e_ β k_).trans (hz_324 β _)
  show G E X 1 [(md, .inr (5, [.ref mi, .long md_1, .long md_2])), (mi, .inl (E.2.2.1 3, 6, .inr (.inl za_f_323)))] 0 0 [(0, .ref md)] 8 []
  refine g_aload_n B dX5_begin_8 rfl 0 rfl ?_
  refine g_lconst (v := 0) B dX5_begin_9 (by decide) ?_
  refine g_put (ws' := [(md, .inr (5, [.ref mi, .long 0, .long md_2])), (mi, .inl (E.2.2.1 3, 6, .inr (.inl za_f_323)))]) B 0 1 fl_X5_15 pf_X5_1 rfl (Nat.le_of_ble_eq_true rfl) rfl rfl rfl dX5_begin_10 ?_
  refine g_aload_n B dX5_begin_13 rfl 0 rfl ?_
  refine g_lconst (v := 0) B dX5_begin_14 (by decide) ?_
  refine g_put (ws' := [(md, .inr (5, [.ref mi, .long 0, .long 0])), (mi, .inl (E.2.2.1 3, 6, .inr (.inl za_f_323)))]) B 0 2 fl_X5_19 pf_X5_2 rfl (Nat.le_of_ble_eq_true rfl) rfl rfl rfl dX5_begin_15 ?_
  exact g_vret B hr dX5_begin_18 (by decide) (by decide) ⟨0, 0, za_f_323, e_, rfl, rfl⟩
abbrev MX5_middleOf : g_M := (yX5_middleOf, cX5_middleOf, 4, (some .long))
theorem dX5_middleOf_0 : decode cX5_middleOf 0 = .ok (.iload_n 1, 1) := by decide +kernel
theorem dX5_middleOf_1 : decode cX5_middleOf 1 = .ok (.iconst 1, 1) := by decide +kernel
theorem dX5_middleOf_2 : decode cX5_middleOf 2 = .ok (.iand, 1) := by decide +kernel
theorem dX5_middleOf_3 : decode cX5_middleOf 3 = .ok (.iconst 3, 1) := by decide +kernel
theorem dX5_middleOf_4 : decode cX5_middleOf 4 = .ok (.imul, 1) := by decide +kernel
theorem dX5_middleOf_5 : decode cX5_middleOf 5 = .ok (.iload_n 2, 1) := by decide +kernel
theorem dX5_middleOf_6 : decode cX5_middleOf 6 = .ok (.iadd, 1) := by decide +kernel
theorem dX5_middleOf_7 : decode cX5_middleOf 7 = .ok (.istore_n 3, 1) := by decide +kernel
theorem dX5_middleOf_8 : decode cX5_middleOf 8 = .ok (.iload_n 3, 1) := by decide +kernel
theorem dX5_middleOf_9 : decode cX5_middleOf 9 = .ok (.ifCond .lt 21, 3) := by decide +kernel
theorem dX5_middleOf_30 : decode cX5_middleOf 30 = .ok (.lconst 0, 1) := by decide +kernel
theorem dX5_middleOf_31 : decode cX5_middleOf 31 = .ok (.lreturn, 1) := by decide +kernel
theorem dX5_middleOf_12 : decode cX5_middleOf 12 = .ok (.iload_n 3, 1) := by decide +kernel
theorem dX5_middleOf_13 : decode cX5_middleOf 13 = .ok (.aload_n 0, 1) := by decide +kernel
theorem dX5_middleOf_14 : decode cX5_middleOf 14 = .ok (.getfield 9, 3) := by decide +kernel
theorem dX5_middleOf_17 : decode cX5_middleOf 17 = .ok (.arraylength, 1) := by decide +kernel
theorem dX5_middleOf_18 : decode cX5_middleOf 18 = .ok (.if_icmp .ge 12, 3) := by decide +kernel
theorem dX5_middleOf_21 : decode cX5_middleOf 21 = .ok (.aload_n 0, 1) := by decide +kernel
theorem dX5_middleOf_22 : decode cX5_middleOf 22 = .ok (.getfield 9, 3) := by decide +kernel
theorem dX5_middleOf_25 : decode cX5_middleOf 25 = .ok (.iload_n 3, 1) := by decide +kernel
theorem dX5_middleOf_26 : decode cX5_middleOf 26 = .ok (.laload, 1) := by decide +kernel
theorem dX5_middleOf_27 : decode cX5_middleOf 27 = .ok (.goto 4, 3) := by decide +kernel
set_option maxRecDepth 100000 in
def fn_wk_X5_middleOf (mi_f : Nat → Int64) (ch : Int32) (k : Int32) (β : Type) (k_ : Int64 → β) : β := (if (((ch &&& 1) * 3) + k) < 0 then (k_ 0) else (if 6 ≤ (((ch &&& 1) * 3) + k) then (k_ 0) else (k_ (mi_f (Int32.toNatClampNeg (((ch &&& 1) * 3) + k))))))
set_option maxRecDepth 100000 in
theorem fn_wk_X5_middleOf_s {mi_f : Nat → Int64} {ch : Int32} {k : Int32} {β : Type} {k_ : Int64 → β} : fn_wk_X5_middleOf mi_f ch k β k_ = (if (((ch &&& 1) * 3) + k) < 0 then (k_ 0) else (if 6 ≤ (((ch &&& 1) * 3) + k) then (k_ 0) else (k_ (mi_f (Int32.toNatClampNeg (((ch &&& 1) * 3) + k)))))) := rfl
set_option maxRecDepth 100000 in
set_option maxHeartbeats 4000000 in
theorem wk_X5_middleOf (E : g_E) (md : Nat) (mi : Nat) (md_1 : Int64) (md_2 : Int64) (mi_f : Nat → Int64) (ch : Int32) (k : Int32)  : Ev E MX5_middleOf 0 0 0 0 [.ref md, .int ch, .int k] [(md, .inr (5, [.ref mi, .long md_1, .long md_2])), (mi, .inl (E.2.2.1 3, 6, .inr (.inl mi_f)))] (fun v_ w_ => ∃ zr : Int64, (∀ (β : Type) (k_ : Int64 → β), fn_wk_X5_middleOf mi_f ch k β k_ = k_ zr) ∧ v_ = some (.long zr) ∧ w_ = [(md, .inr (5, [.ref mi, .long md_1, .long md_2])), (mi, .inl (E.2.2.1 3, 6, .inr (.inl mi_f)))]) := by
  refine Ev.intro (by decide) (Nat.le_of_ble_eq_true rfl) ?_
  intro X B hr hI
  have B : Bd E X cX5_middleOf RX5 4 0 0 0 0 := B
  have hr : Rt E X (some .long) 0 0 (fun v_ w_ => ∃ zr : Int64, (∀ (β : Type) (k_ : Int64 → β), fn_wk_X5_middleOf mi_f ch k β k_ = k_ zr) ∧ v_ = some (.long zr) ∧ w_ = [(md, .inr (5, [.ref mi, .long md_1, .long md_2])), (mi, .inl (E.2.2.1 3, 6, .inr (.inl mi_f)))]) := hr
  have e_ := fun (β : Type) (k_ : Int64 → β) => fn_wk_X5_middleOf_s (β := β) (k_ := k_) (mi_f := mi_f) (ch := ch) (k := k)
  show G E X 4 [(md, .inr (5, [.ref mi, .long md_1, .long md_2])), (mi, .inl (E.2.2.1 3, 6, .inr (.inl mi_f)))] 0 0 [(0, .ref md), (1, .int ch), (2, .int k)] 0 []
  refine g_iload_n B dX5_middleOf_0 rfl 1 rfl ?_
  refine g_iconst (v := 1) B dX5_middleOf_1 (by decide) ?_
  refine g_iand B dX5_middleOf_2 ?_
  refine g_iconst (v := 3) B dX5_middleOf_3 (by decide) ?_
  refine g_imul B dX5_middleOf_4 ?_
  refine g_iload_n B dX5_middleOf_5 rfl 2 rfl ?_
  refine g_iadd B dX5_middleOf_6 ?_
  refine g_istore_n (lv' := [(3, .int (((ch &&& 1) * 3) + k)), (0, .ref md), (1, .int ch), (2, .int k)]) B dX5_middleOf_7 rfl (by decide) rfl ?_
  refine g_iload_n B dX5_middleOf_8 rfl 0 rfl ?_
  refine g_if_lt (tgt := 30) B dX5_middleOf_9 (by decide) (fun c9_325 => ?_) (fun c9_325 => ?_)
  · replace e_ := fun β k_ => (e_ β k_).trans (if_pos c9_325)
    refine g_lconst (v := 0) B dX5_middleOf_30 (by decide) ?_
    exact g_lret B hr dX5_middleOf_31 (by decide) (by decide) ⟨0, e_, rfl, rfl⟩
  · replace e_ := fun β k_ => (e_ β k_).trans (if_neg c9_325)
    refine g_iload_n B dX5_middleOf_12 rfl 0 rfl ?_
    refine g_aload_n B dX5_middleOf_13 rfl 1 rfl ?_
    refine g_get B 0 0 fl_X5_9 rfl rfl dX5_middleOf_14 ?_
    refine g_alen (v := nI 6) B 1 (by decide) rfl rfl dX5_middleOf_17 ?_
    refine g_ri (x' := 6) (by decide) ?_
    refine g_icmp_ge (tgt := 30) B dX5_middleOf_18 (by decide) (fun c18_326 => ?_) (fun c18_326 => ?_)
    · replace e_ := fun β k_ => (e_ β k_).trans (if_pos c18_326)
      refine g_lconst (v := 0) B dX5_middleOf_30 (by decide) ?_
      exact g_lret B hr dX5_middleOf_31 (by decide) (by decide) ⟨0, e_, rfl, rfl⟩
    · replace e_ := fun β k_ => (e_ β k_).trans (if_neg c18_326)
      refine g_aload_n B dX5_middleOf_21 rfl 1 rfl ?_
      refine g_get B 0 0 fl_X5_9 rfl rfl dX5_middleOf_22 ?_
      refine g_iload_n B dX5_middleOf_25 rfl 0 rfl ?_
      refine g_lald B 1 rfl (in_lt (by decide) c9_325 (o_2 c18_326)) dX5_middleOf_26 ?_
      refine g_goto (tgt := 31) B dX5_middleOf_27 (by decide) ?_
      exact g_lret B hr dX5_middleOf_31 (by decide) (by decide) ⟨(mi_f (Int32.toNatClampNeg (((ch &&& 1) * 3) + k))), e_, rfl, rfl⟩
abbrev MX5_isQuiet : g_M := (yX5_isQuiet, cX5_isQuiet, 2, (some .boolean))
theorem dX5_isQuiet_0 : decode cX5_isQuiet 0 = .ok (.aload_n 0, 1) := by decide +kernel
theorem dX5_isQuiet_1 : decode cX5_isQuiet 1 = .ok (.iconst 0, 1) := by decide +kernel
theorem dX5_isQuiet_2 : decode cX5_isQuiet 2 = .ok (.iconst 0, 1) := by decide +kernel
theorem dX5_isQuiet_3 : decode cX5_isQuiet 3 = .ok (.invokevirtual 28, 3) := by decide +kernel
theorem w_ml_X5_28 : Cond.methodLink RX5 28 yX5_middleOf ∈ g_tbl := g_tbl_in 558 (by decide +kernel) (by decide +kernel)
theorem w_cd_X5_middleOf : g_cw MX5_middleOf ∈ g_tbl := g_tbl_in 561 (by decide +kernel) (by decide +kernel)
theorem cl_X5_28 : CL RX5 28 2 MX5_middleOf := ⟨w_ml_X5_28, w_cd_X5_middleOf, w_ini_X5, by decide +kernel, by decide +kernel, by decide +kernel⟩
theorem w_im_X5_middleOf : Cond.instanceMethod yX5_middleOf ∈ g_tbl := g_tbl_in 559 (by decide +kernel) (by decide +kernel)
theorem w_se_X5_middleOf : Cond.selects RX5 yX5_middleOf yX5_middleOf ∈ g_tbl := g_tbl_in 560 (by decide +kernel) (by decide +kernel)
theorem dX5_isQuiet_6 : decode cX5_isQuiet 6 = .ok (.lconst 0, 1) := by decide +kernel
theorem dX5_isQuiet_7 : decode cX5_isQuiet 7 = .ok (.lcmp, 1) := by decide +kernel
theorem dX5_isQuiet_8 : decode cX5_isQuiet 8 = .ok (.ifCond .ne 23, 3) := by decide +kernel
theorem dX5_isQuiet_31 : decode cX5_isQuiet 31 = .ok (.iconst 0, 1) := by decide +kernel
theorem dX5_isQuiet_32 : decode cX5_isQuiet 32 = .ok (.ireturn, 1) := by decide +kernel
theorem dX5_isQuiet_11 : decode cX5_isQuiet 11 = .ok (.iload_n 1, 1) := by decide +kernel
theorem dX5_isQuiet_12 : decode cX5_isQuiet 12 = .ok (.iconst 2, 1) := by decide +kernel
theorem dX5_isQuiet_13 : decode cX5_isQuiet 13 = .ok (.if_icmp .lt 14, 3) := by decide +kernel
theorem dX5_isQuiet_27 : decode cX5_isQuiet 27 = .ok (.iconst 1, 1) := by decide +kernel
theorem dX5_isQuiet_28 : decode cX5_isQuiet 28 = .ok (.goto 4, 3) := by decide +kernel
theorem dX5_isQuiet_16 : decode cX5_isQuiet 16 = .ok (.aload_n 0, 1) := by decide +kernel
theorem dX5_isQuiet_17 : decode cX5_isQuiet 17 = .ok (.iconst 1, 1) := by decide +kernel
theorem dX5_isQuiet_18 : decode cX5_isQuiet 18 = .ok (.iconst 0, 1) := by decide +kernel
theorem dX5_isQuiet_19 : decode cX5_isQuiet 19 = .ok (.invokevirtual 28, 3) := by decide +kernel
theorem dX5_isQuiet_22 : decode cX5_isQuiet 22 = .ok (.lconst 0, 1) := by decide +kernel
theorem dX5_isQuiet_23 : decode cX5_isQuiet 23 = .ok (.lcmp, 1) := by decide +kernel
theorem dX5_isQuiet_24 : decode cX5_isQuiet 24 = .ok (.ifCond .ne 7, 3) := by decide +kernel
set_option maxRecDepth 100000 in
def fn_wk_X5_isQuiet (mi_f : Nat → Int64) (co : Int32) (β : Type) (k_ : Int32 → β) : β := (fn_wk_X5_middleOf mi_f 0 0 β (fun zr_327 => (if (lg_cmp zr_327 0) = 0 then (if co < 2 then (k_ 1) else (fn_wk_X5_middleOf mi_f 1 0 β (fun zr_331 => (if (lg_cmp zr_331 0) = 0 then (k_ 1) else (k_ 0))))) else (k_ 0))))
set_option maxRecDepth 100000 in
theorem fn_wk_X5_isQuiet_s {mi_f : Nat → Int64} {co : Int32} {β : Type} {k_ : Int32 → β} : fn_wk_X5_isQuiet mi_f co β k_ = (fn_wk_X5_middleOf mi_f 0 0 β (fun zr_327 => (if (lg_cmp zr_327 0) = 0 then (if co < 2 then (k_ 1) else (fn_wk_X5_middleOf mi_f 1 0 β (fun zr_331 => (if (lg_cmp zr_331 0) = 0 then (k_ 1) else (k_ 0))))) else (k_ 0)))) := rfl
set_option maxRecDepth 100000 in
set_option maxHeartbeats 4000000 in
theorem wk_X5_isQuiet (E : g_E) (md : Nat) (mi : Nat) (md_1 : Int64) (md_2 : Int64) (mi_f : Nat → Int64) (co : Int32)  : Ev E MX5_isQuiet 1 23 0 0 [.ref md, .int co] [(md, .inr (5, [.ref mi, .long md_1, .long md_2])), (mi, .inl (E.2.2.1 3, 6, .inr (.inl mi_f)))] (fun v_ w_ => ∃ zr : Int32, (zr = 0 ∨ zr = 1) ∧ (∀ (β : Type) (k_ : Int32 → β), fn_wk_X5_isQuiet mi_f co β k_ = k_ zr) ∧ v_ = some (.int zr) ∧ w_ = [(md, .inr (5, [.ref mi, .long md_1, .long md_2])), (mi, .inl (E.2.2.1 3, 6, .inr (.inl mi_f)))]) := by
  refine Ev.intro (by decide) (Nat.le_of_ble_eq_true rfl) ?_
  intro X B hr hI
  have B : Bd E X cX5_isQuiet RX5 2 1 23 0 0 := B
  have hr : Rt E X (some .boolean) 0 0 (fun v_ w_ => ∃ zr : Int32, (zr = 0 ∨ zr = 1) ∧ (∀ (β : Type) (k_ : Int32 → β), fn_wk_X5_isQuiet mi_f co β k_ = k_ zr) ∧ v_ = some (.int zr) ∧ w_ = [(md, .inr (5, [.ref mi, .long md_1, .long md_2])), (mi, .inl (E.2.2.1 3, 6, .inr (.inl mi_f)))]) := hr
  have e_ := fun (β : Type) (k_ : Int32 → β) => fn_wk_X5_isQuiet_s (β := β) (k_ := k_) (mi_f := mi_f) (co := co)
  show G E X 2 [(md, .inr (5, [.ref mi, .long md_1, .long md_2])), (mi, .inl (E.2.2.1 3, 6, .inr (.inl mi_f)))] 0 0 [(0, .ref md), (1, .int co)] 0 []
  refine g_aload_n B dX5_isQuiet_0 rfl 0 rfl ?_
  refine g_iconst (v := 0) B dX5_isQuiet_1 (by decide) ?_
  refine g_iconst (v := 0) B dX5_isQuiet_2 (by decide) ?_
  refine g_callV (st := []) (As := [.int 0, .int 0]) (wr := []) (nc' := 0) (ns' := 0) B cl_X5_28 w_im_X5_middleOf w_se_X5_middleOf (wk_X5_middleOf E md mi md_1 md_2 mi_f 0 0 ) rfl [0, 1] [] rfl rfl (by decide) (by decide) (by decide) 0 rfl (fun q h => by cases h; rfl) rfl ⟨by decide, by decide⟩ rfl rfl (by decide) (by decide) rfl (Nat.le_of_ble_eq_true rfl) dX5_isQuiet_3 (fun v w hq => ?_)
  obtain ⟨zr_327, hz_328, rfl, rfl⟩ := hq
  replace e_ := fun β k_ => (e_ β k_).trans (hz_328 β _)
  show G E X 2 [(md, .inr (5, [.ref mi, .long md_1, .long md_2])), (mi, .inl (E.2.2.1 3, 6, .inr (.inl mi_f)))] 0 0 [(0, .ref md), (1, .int co)] 6 [.long zr_327]
  refine g_lconst (v := 0) B dX5_isQuiet_6 (by decide) ?_
  refine g_lcmp B dX5_isQuiet_7 ?_
  refine g_if_ne (tgt := 31) B dX5_isQuiet_8 (by decide) (fun c8_329 => ?_) (fun c8_329 => ?_)
  · replace e_ := fun β k_ => (e_ β k_).trans (if_neg c8_329)
    refine g_iconst (v := 0) B dX5_isQuiet_31 (by decide) ?_
    exact g_zret B hr (by decide) dX5_isQuiet_32 (by decide) (by decide) ⟨0, (Or.inl rfl), e_, rfl, rfl⟩
  · replace e_ := fun β k_ => (e_ β k_).trans (if_pos c8_329)
    refine g_iload_n B dX5_isQuiet_11 rfl 1 rfl ?_
    refine g_iconst (v := 2) B dX5_isQuiet_12 (by decide) ?_
    refine g_icmp_lt (tgt := 27) B dX5_isQuiet_13 (by decide) (fun c13_330 => ?_) (fun c13_330 => ?_)
    · replace e_ := fun β k_ => (e_ β k_).trans (if_pos c13_330)
      refine g_iconst (v := 1) B dX5_isQuiet_27 (by decide) ?_
      refine g_goto (tgt := 32) B dX5_isQuiet_28 (by decide) ?_
      exact g_zret B hr (by decide) dX5_isQuiet_32 (by decide) (by decide) ⟨1, (Or.inr rfl), e_, rfl, rfl⟩
    · replace e_ := fun β k_ => (e_ β k_).trans (if_neg c13_330)
      refine g_aload_n B dX5_isQuiet_16 rfl 0 rfl ?_
      refine g_iconst (v := 1) B dX5_isQuiet_17 (by decide) ?_
      refine g_iconst (v := 0) B dX5_isQuiet_18 (by decide) ?_
      refine g_callV (st := []) (As := [.int 1, .int 0]) (wr := []) (nc' := 0) (ns' := 0) B cl_X5_28 w_im_X5_middleOf w_se_X5_middleOf (wk_X5_middleOf E md mi md_1 md_2 mi_f 1 0 ) rfl [0, 1] [] rfl rfl (by decide) (by decide) (by decide) 0 rfl (fun q h => by cases h; rfl) rfl ⟨by decide, by decide⟩ rfl rfl (by decide) (by decide) rfl (Nat.le_of_ble_eq_true rfl) dX5_isQuiet_19 (fun v w hq => ?_)
      obtain ⟨zr_331, hz_332, rfl, rfl⟩ := hq
      replace e_ := fun β k_ => (e_ β k_).trans (hz_332 β _)
      show G E X 2 [(md, .inr (5, [.ref mi, .long md_1, .long md_2])), (mi, .inl (E.2.2.1 3, 6, .inr (.inl mi_f)))] 0 0 [(0, .ref md), (1, .int co)] 22 [.long zr_331]
      refine g_lconst (v := 0) B dX5_isQuiet_22 (by decide) ?_
      refine g_lcmp B dX5_isQuiet_23 ?_
      refine g_if_ne (tgt := 31) B dX5_isQuiet_24 (by decide) (fun c24_333 => ?_) (fun c24_333 => ?_)
      · replace e_ := fun β k_ => (e_ β k_).trans (if_neg c24_333)
        refine g_iconst (v := 0) B dX5_isQuiet_31 (by decide) ?_
        exact g_zret B hr (by decide) dX5_isQuiet_32 (by decide) (by decide) ⟨0, (Or.inl rfl), e_, rfl, rfl⟩
      · replace e_ := fun β k_ => (e_ β k_).trans (if_pos c24_333)
        refine g_iconst (v := 1) B dX5_isQuiet_27 (by decide) ?_
        refine g_goto (tgt := 32) B dX5_isQuiet_28 (by decide) ?_
        exact g_zret B hr (by decide) dX5_isQuiet_32 (by decide) (by decide) ⟨1, (Or.inr rfl), e_, rfl, rfl⟩
abbrev MX5_share : g_M := (yX5_share, cX5_share, 3, (some .long))
theorem dX5_share_0 : decode cX5_share 0 = .ok (.aload_n 0, 1) := by decide +kernel
theorem dX5_share_1 : decode cX5_share 1 = .ok (.iload_n 1, 1) := by decide +kernel
theorem dX5_share_2 : decode cX5_share 2 = .ok (.iload_n 2, 1) := by decide +kernel
theorem dX5_share_3 : decode cX5_share 3 = .ok (.invokevirtual 28, 3) := by decide +kernel
theorem dX5_share_6 : decode cX5_share 6 = .ok (.iconst 4, 1) := by decide +kernel
theorem dX5_share_7 : decode cX5_share 7 = .ok (.lshr, 1) := by decide +kernel
theorem dX5_share_8 : decode cX5_share 8 = .ok (.lconst 1, 1) := by decide +kernel
theorem dX5_share_9 : decode cX5_share 9 = .ok (.ladd, 1) := by decide +kernel
theorem dX5_share_10 : decode cX5_share 10 = .ok (.lreturn, 1) := by decide +kernel
set_option maxRecDepth 100000 in
def fn_wk_X5_share (mi_f : Nat → Int64) (ch : Int32) (k : Int32) (β : Type) (k_ : Int64 → β) : β := (fn_wk_X5_middleOf mi_f ch k β (fun zr_334 => (k_ ((zr_334 >>> (Int32.toInt64 4 &&& 63)) + 1))))
set_option maxRecDepth 100000 in
theorem fn_wk_X5_share_s {mi_f : Nat → Int64} {ch : Int32} {k : Int32} {β : Type} {k_ : Int64 → β} : fn_wk_X5_share mi_f ch k β k_ = (fn_wk_X5_middleOf mi_f ch k β (fun zr_334 => (k_ ((zr_334 >>> (Int32.toInt64 4 &&& 63)) + 1)))) := rfl
set_option maxRecDepth 100000 in
set_option maxHeartbeats 4000000 in
theorem wk_X5_share (E : g_E) (md : Nat) (mi : Nat) (md_1 : Int64) (md_2 : Int64) (mi_f : Nat → Int64) (ch : Int32) (k : Int32)  : Ev E MX5_share 1 23 0 0 [.ref md, .int ch, .int k] [(md, .inr (5, [.ref mi, .long md_1, .long md_2])), (mi, .inl (E.2.2.1 3, 6, .inr (.inl mi_f)))] (fun v_ w_ => ∃ zr : Int64, (∀ (β : Type) (k_ : Int64 → β), fn_wk_X5_share mi_f ch k β k_ = k_ zr) ∧ v_ = some (.long zr) ∧ w_ = [(md, .inr (5, [.ref mi, .long md_1, .long md_2])), (mi, .inl (E.2.2.1 3, 6, .inr (.inl mi_f)))]) := by
  refine Ev.intro (by decide) (Nat.le_of_ble_eq_true rfl) ?_
  intro X B hr hI
  have B : Bd E X cX5_share RX5 3 1 23 0 0 := B
  have hr : Rt E X (some .long) 0 0 (fun v_ w_ => ∃ zr : Int64, (∀ (β : Type) (k_ : Int64 → β), fn_wk_X5_share mi_f ch k β k_ = k_ zr) ∧ v_ = some (.long zr) ∧ w_ = [(md, .inr (5, [.ref mi, .long md_1, .long md_2])), (mi, .inl (E.2.2.1 3, 6, .inr (.inl mi_f)))]) := hr
  have e_ := fun (β : Type) (k_ : Int64 → β) => fn_wk_X5_share_s (β := β) (k_ := k_) (mi_f := mi_f) (ch := ch) (k := k)
  show G E X 3 [(md, .inr (5, [.ref mi, .long md_1, .long md_2])), (mi, .inl (E.2.2.1 3, 6, .inr (.inl mi_f)))] 0 0 [(0, .ref md), (1, .int ch), (2, .int k)] 0 []
  refine g_aload_n B dX5_share_0 rfl 0 rfl ?_
  refine g_iload_n B dX5_share_1 rfl 1 rfl ?_
  refine g_iload_n B dX5_share_2 rfl 2 rfl ?_
  refine g_callV (st := []) (As := [.int ch, .int k]) (wr := []) (nc' := 0) (ns' := 0) B cl_X5_28 w_im_X5_middleOf w_se_X5_middleOf (wk_X5_middleOf E md mi md_1 md_2 mi_f ch k ) rfl [0, 1] [] rfl rfl (by decide) (by decide) (by decide) 0 rfl (fun q h => by cases h; rfl) rfl ⟨by decide, by decide⟩ rfl rfl (by decide) (by decide) rfl (Nat.le_of_ble_eq_true rfl) dX5_share_3 (fun v w hq => ?_)
  obtain ⟨zr_334, hz_335, rfl, rfl⟩ := hq
  replace e_ := fun β k_ => (e_ β k_).trans (hz_335 β _)
  show G E X 3 [(md, .inr (5, [.ref mi, .long md_1, .long md_2])), (mi, .inl (E.2.2.1 3, 6, .inr (.inl mi_f)))] 0 0 [(0, .ref md), (1, .int ch), (2, .int k)] 6 [.long zr_334]
  refine g_iconst (v := 4) B dX5_share_6 (by decide) ?_
  refine g_lshr B dX5_share_7 ?_
  refine g_lconst (v := 1) B dX5_share_8 (by decide) ?_
  refine g_ladd B dX5_share_9 ?_
  exact g_lret B hr dX5_share_10 (by decide) (by decide) ⟨((zr_334 >>> (Int32.toInt64 4 &&& 63)) + 1), e_, rfl, rfl⟩
abbrev MX5_onesOf : g_M := (yX5_onesOf, cX5_onesOf, 10, (some .long))
theorem dX5_onesOf_0 : decode cX5_onesOf 0 = .ok (.aload_n 0, 1) := by decide +kernel
theorem dX5_onesOf_1 : decode cX5_onesOf 1 = .ok (.iload_n 1, 1) := by decide +kernel
theorem dX5_onesOf_2 : decode cX5_onesOf 2 = .ok (.iconst 0, 1) := by decide +kernel
theorem dX5_onesOf_3 : decode cX5_onesOf 3 = .ok (.invokevirtual 32, 3) := by decide +kernel
theorem w_ml_X5_32 : Cond.methodLink RX5 32 yX5_share ∈ g_tbl := g_tbl_in 603 (by decide +kernel) (by decide +kernel)
theorem w_cd_X5_share : g_cw MX5_share ∈ g_tbl := g_tbl_in 606 (by decide +kernel) (by decide +kernel)
theorem cl_X5_32 : CL RX5 32 2 MX5_share := ⟨w_ml_X5_32, w_cd_X5_share, w_ini_X5, by decide +kernel, by decide +kernel, by decide +kernel⟩
theorem w_im_X5_share : Cond.instanceMethod yX5_share ∈ g_tbl := g_tbl_in 605 (by decide +kernel) (by decide +kernel)
theorem w_se_X5_share : Cond.selects RX5 yX5_share yX5_share ∈ g_tbl := g_tbl_in 13 (by decide +kernel) (by decide +kernel)
theorem dX5_onesOf_6 : decode cX5_onesOf 6 = .ok (.lstore 4, 2) := by decide +kernel
theorem dX5_onesOf_8 : decode cX5_onesOf 8 = .ok (.lload 4, 2) := by decide +kernel
theorem dX5_onesOf_10 : decode cX5_onesOf 10 = .ok (.aload_n 0, 1) := by decide +kernel
theorem dX5_onesOf_11 : decode cX5_onesOf 11 = .ok (.iload_n 1, 1) := by decide +kernel
theorem dX5_onesOf_12 : decode cX5_onesOf 12 = .ok (.iconst 1, 1) := by decide +kernel
theorem dX5_onesOf_13 : decode cX5_onesOf 13 = .ok (.invokevirtual 32, 3) := by decide +kernel
theorem dX5_onesOf_16 : decode cX5_onesOf 16 = .ok (.ladd, 1) := by decide +kernel
theorem dX5_onesOf_17 : decode cX5_onesOf 17 = .ok (.lstore 6, 2) := by decide +kernel
theorem dX5_onesOf_19 : decode cX5_onesOf 19 = .ok (.lload_n 2, 1) := by decide +kernel
theorem dX5_onesOf_20 : decode cX5_onesOf 20 = .ok (.lload 4, 2) := by decide +kernel
theorem dX5_onesOf_22 : decode cX5_onesOf 22 = .ok (.lcmp, 1) := by decide +kernel
theorem dX5_onesOf_23 : decode cX5_onesOf 23 = .ok (.ifCond .ge 5, 3) := by decide +kernel
theorem dX5_onesOf_28 : decode cX5_onesOf 28 = .ok (.lload_n 2, 1) := by decide +kernel
theorem dX5_onesOf_29 : decode cX5_onesOf 29 = .ok (.lload 6, 2) := by decide +kernel
theorem dX5_onesOf_31 : decode cX5_onesOf 31 = .ok (.lcmp, 1) := by decide +kernel
theorem dX5_onesOf_32 : decode cX5_onesOf 32 = .ok (.ifCond .ge 5, 3) := by decide +kernel
theorem dX5_onesOf_37 : decode cX5_onesOf 37 = .ok (.aload_n 0, 1) := by decide +kernel
theorem dX5_onesOf_38 : decode cX5_onesOf 38 = .ok (.iload_n 1, 1) := by decide +kernel
theorem dX5_onesOf_39 : decode cX5_onesOf 39 = .ok (.iconst 2, 1) := by decide +kernel
theorem dX5_onesOf_40 : decode cX5_onesOf 40 = .ok (.invokevirtual 32, 3) := by decide +kernel
theorem dX5_onesOf_43 : decode cX5_onesOf 43 = .ok (.lstore 8, 2) := by decide +kernel
theorem dX5_onesOf_45 : decode cX5_onesOf 45 = .ok (.lload 8, 2) := by decide +kernel
theorem dX5_onesOf_47 : decode cX5_onesOf 47 = .ok (.lconst 0, 1) := by decide +kernel
theorem dX5_onesOf_48 : decode cX5_onesOf 48 = .ok (.lcmp, 1) := by decide +kernel
theorem dX5_onesOf_49 : decode cX5_onesOf 49 = .ok (.ifCond .le 17, 3) := by decide +kernel
theorem dX5_onesOf_66 : decode cX5_onesOf 66 = .ok (.ldc2_w 35, 3) := by decide +kernel
theorem w_k_X5_35 : Cond.constantLong RX5 35 2 ∈ g_tbl := g_tbl_in 607 (by decide +kernel) (by decide +kernel)
theorem dX5_onesOf_69 : decode cX5_onesOf 69 = .ok (.lreturn, 1) := by decide +kernel
theorem dX5_onesOf_52 : decode cX5_onesOf 52 = .ok (.ldc2_w 35, 3) := by decide +kernel
theorem dX5_onesOf_55 : decode cX5_onesOf 55 = .ok (.lload_n 2, 1) := by decide +kernel
theorem dX5_onesOf_56 : decode cX5_onesOf 56 = .ok (.lload 6, 2) := by decide +kernel
theorem dX5_onesOf_58 : decode cX5_onesOf 58 = .ok (.lsub, 1) := by decide +kernel
theorem dX5_onesOf_59 : decode cX5_onesOf 59 = .ok (.lload 8, 2) := by decide +kernel
theorem dX5_onesOf_61 : decode cX5_onesOf 61 = .ok (.ldiv, 1) := by decide +kernel
theorem dX5_onesOf_62 : decode cX5_onesOf 62 = .ok (.ladd, 1) := by decide +kernel
theorem dX5_onesOf_63 : decode cX5_onesOf 63 = .ok (.goto 6, 3) := by decide +kernel
theorem dX5_onesOf_35 : decode cX5_onesOf 35 = .ok (.lconst 1, 1) := by decide +kernel
theorem dX5_onesOf_36 : decode cX5_onesOf 36 = .ok (.lreturn, 1) := by decide +kernel
theorem dX5_onesOf_26 : decode cX5_onesOf 26 = .ok (.lconst 0, 1) := by decide +kernel
theorem dX5_onesOf_27 : decode cX5_onesOf 27 = .ok (.lreturn, 1) := by decide +kernel
set_option maxRecDepth 100000 in
def fn_wk_X5_onesOf (mi_f : Nat → Int64) (ch : Int32) (v : Int64) (β : Type) (k_ : Int64 → β) : β := (fn_wk_X5_share mi_f ch 0 β (fun zr_336 => (fn_wk_X5_share mi_f ch 1 β (fun zr_338 => (if 0 ≤ (lg_cmp v zr_336) then (if 0 ≤ (lg_cmp v (zr_336 + zr_338)) then (fn_wk_X5_share mi_f ch 2 β (fun zr_342 => (if (lg_cmp zr_342 0) ≤ 0 then (k_ 2) else (k_ (2 + ((v - (zr_336 + zr_338)) / zr_342)))))) else (k_ 1)) else (k_ 0))))))
set_option maxRecDepth 100000 in
theorem fn_wk_X5_onesOf_s {mi_f : Nat → Int64} {ch : Int32} {v : Int64} {β : Type} {k_ : Int64 → β} : fn_wk_X5_onesOf mi_f ch v β k_ = (fn_wk_X5_share mi_f ch 0 β (fun zr_336 => (fn_wk_X5_share mi_f ch 1 β (fun zr_338 => (if 0 ≤ (lg_cmp v zr_336) then (if 0 ≤ (lg_cmp v (zr_336 + zr_338)) then (fn_wk_X5_share mi_f ch 2 β (fun zr_342 => (if (lg_cmp zr_342 0) ≤ 0 then (k_ 2) else (k_ (2 + ((v - (zr_336 + zr_338)) / zr_342)))))) else (k_ 1)) else (k_ 0)))))) := rfl
set_option maxRecDepth 100000 in
set_option maxHeartbeats 4000000 in
theorem wk_X5_onesOf (E : g_E) (md : Nat) (mi : Nat) (md_1 : Int64) (md_2 : Int64) (mi_f : Nat → Int64) (ch : Int32) (v : Int64)  : Ev E MX5_onesOf 2 45 0 0 [.ref md, .int ch, .long v] [(md, .inr (5, [.ref mi, .long md_1, .long md_2])), (mi, .inl (E.2.2.1 3, 6, .inr (.inl mi_f)))] (fun v_ w_ => ∃ zr : Int64, (∀ (β : Type) (k_ : Int64 → β), fn_wk_X5_onesOf mi_f ch v β k_ = k_ zr) ∧ v_ = some (.long zr) ∧ w_ = [(md, .inr (5, [.ref mi, .long md_1, .long md_2])), (mi, .inl (E.2.2.1 3, 6, .inr (.inl mi_f)))]) := by
  refine Ev.intro (by decide) (Nat.le_of_ble_eq_true rfl) ?_
  intro X B hr hI
  have B : Bd E X cX5_onesOf RX5 10 2 45 0 0 := B
  have hr : Rt E X (some .long) 0 0 (fun v_ w_ => ∃ zr : Int64, (∀ (β : Type) (k_ : Int64 → β), fn_wk_X5_onesOf mi_f ch v β k_ = k_ zr) ∧ v_ = some (.long zr) ∧ w_ = [(md, .inr (5, [.ref mi, .long md_1, .long md_2])), (mi, .inl (E.2.2.1 3, 6, .inr (.inl mi_f)))]) := hr
  have e_ := fun (β : Type) (k_ : Int64 → β) => fn_wk_X5_onesOf_s (β := β) (k_ := k_) (mi_f := mi_f) (ch := ch) (v := v)
  show G E X 10 [(md, .inr (5, [.ref mi, .long md_1, .long md_2])), (mi, .inl (E.2.2.1 3, 6, .inr (.inl mi_f)))] 0 0 [(0, .ref md), (1, .int ch), (2, .long v)] 0 []
  refine g_aload_n B dX5_onesOf_0 rfl 0 rfl ?_
  refine g_iload_n B dX5_onesOf_1 rfl 1 rfl ?_
  refine g_iconst (v := 0) B dX5_onesOf_2 (by decide) ?_
  refine g_callV (st := []) (As := [.int ch, .int 0]) (wr := []) (nc' := 0) (ns' := 0) B cl_X5_32 w_im_X5_share w_se_X5_share (wk_X5_share E md mi md_1 md_2 mi_f ch 0 ) rfl [0, 1] [] rfl rfl (by decide) (by decide) (by decide) 0 rfl (fun q h => by cases h; rfl) rfl ⟨by decide, by decide⟩ rfl rfl (by decide) (by decide) rfl (Nat.le_of_ble_eq_true rfl) dX5_onesOf_3 (fun v w hq => ?_)
  obtain ⟨zr_336, hz_337, rfl, rfl⟩ := hq
  replace e_ := fun β k_ => (e_ β k_).trans (hz_337 β _)
  show G E X 10 [(md, .inr (5, [.ref mi, .long md_1, .long md_2])), (mi, .inl (E.2.2.1 3, 6, .inr (.inl mi_f)))] 0 0 [(0, .ref md), (1, .int ch), (2, .long v)] 6 [.long zr_336]
  refine g_lstore (lv' := [(4, .long zr_336), (0, .ref md), (1, .int ch), (2, .long v)]) B dX5_onesOf_6 (by decide) rfl ?_
  refine g_lload B dX5_onesOf_8 0 rfl ?_
  refine g_aload_n B dX5_onesOf_10 rfl 1 rfl ?_
  refine g_iload_n B dX5_onesOf_11 rfl 2 rfl ?_
  refine g_iconst (v := 1) B dX5_onesOf_12 (by decide) ?_
  refine g_callV (st := [.long zr_336]) (As := [.int ch, .int 1]) (wr := []) (nc' := 0) (ns' := 0) B cl_X5_32 w_im_X5_share w_se_X5_share (wk_X5_share E md mi md_1 md_2 mi_f ch 1 ) rfl [0, 1] [] rfl rfl (by decide) (by decide) (by decide) 0 rfl (fun q h => by cases h; rfl) rfl ⟨by decide, by decide⟩ rfl rfl (by decide) (by decide) rfl (Nat.le_of_ble_eq_true rfl) dX5_onesOf_13 (fun v w hq => ?_)
  obtain ⟨zr_338, hz_339, rfl, rfl⟩ := hq
  replace e_ := fun β k_ => (e_ β k_).trans (hz_339 β _)
  show G E X 10 [(md, .inr (5, [.ref mi, .long md_1, .long md_2])), (mi, .inl (E.2.2.1 3, 6, .inr (.inl mi_f)))] 0 0 [(4, .long zr_336), (0, .ref md), (1, .int ch), (2, .long v)] 16 [.long zr_338, .long zr_336]
  refine g_ladd B dX5_onesOf_16 ?_
  refine g_lstore (lv' := [(6, .long (zr_336 + zr_338)), (4, .long zr_336), (0, .ref md), (1, .int ch), (2, .long v)]) B dX5_onesOf_17 (by decide) rfl ?_
  refine g_lload_n B dX5_onesOf_19 rfl 4 rfl ?_
  refine g_lload B dX5_onesOf_20 1 rfl ?_
  refine g_lcmp B dX5_onesOf_22 ?_
  refine g_if_ge (tgt := 28) B dX5_onesOf_23 (by decide) (fun c23_340 => ?_) (fun c23_340 => ?_)
  · replace e_ := fun β k_ => (e_ β k_).trans (if_pos c23_340)
    refine g_lload_n B dX5_onesOf_28 rfl 4 rfl ?_
    refine g_lload B dX5_onesOf_29 0 rfl ?_
    refine g_lcmp B dX5_onesOf_31 ?_
    refine g_if_ge (tgt := 37) B dX5_onesOf_32 (by decide) (fun c32_341 => ?_) (fun c32_341 => ?_)
    · replace e_ := fun β k_ => (e_ β k_).trans (if_pos c32_341)
      refine g_aload_n B dX5_onesOf_37 rfl 2 rfl ?_
      refine g_iload_n B dX5_onesOf_38 rfl 3 rfl ?_
      refine g_iconst (v := 2) B dX5_onesOf_39 (by decide) ?_
      refine g_callV (st := []) (As := [.int ch, .int 2]) (wr := []) (nc' := 0) (ns' := 0) B cl_X5_32 w_im_X5_share w_se_X5_share (wk_X5_share E md mi md_1 md_2 mi_f ch 2 ) rfl [0, 1] [] rfl rfl (by decide) (by decide) (by decide) 0 rfl (fun q h => by cases h; rfl) rfl ⟨by decide, by decide⟩ rfl rfl (by decide) (by decide) rfl (Nat.le_of_ble_eq_true rfl) dX5_onesOf_40 (fun v w hq => ?_)
      obtain ⟨zr_342, hz_343, rfl, rfl⟩ := hq
      replace e_ := fun β k_ => (e_ β k_).trans (hz_343 β _)
      show G E X 10 [(md, .inr (5, [.ref mi, .long md_1, .long md_2])), (mi, .inl (E.2.2.1 3, 6, .inr (.inl mi_f)))] 0 0 [(6, .long (zr_336 + zr_338)), (4, .long zr_336), (0, .ref md), (1, .int ch), (2, .long v)] 43 [.long zr_342]
      refine g_lstore (lv' := [(8, .long zr_342), (6, .long (zr_336 + zr_338)), (4, .long zr_336), (0, .ref md), (1, .int ch), (2, .long v)]) B dX5_onesOf_43 (by decide) rfl ?_
      refine g_lload B dX5_onesOf_45 0 rfl ?_
      refine g_lconst (v := 0) B dX5_onesOf_47 (by decide) ?_
      refine g_lcmp B dX5_onesOf_48 ?_
      refine g_if_le (tgt := 66) B dX5_onesOf_49 (by decide) (fun c49_344 => ?_) (fun c49_344 => ?_)
      · replace e_ := fun β k_ => (e_ β k_).trans (if_pos c49_344)
        refine g_ldc2 (v := 2) B w_k_X5_35 dX5_onesOf_66 ?_
        exact g_lret B hr dX5_onesOf_69 (by decide) (by decide) ⟨2, e_, rfl, rfl⟩
      · replace e_ := fun β k_ => (e_ β k_).trans (if_neg c49_344)
        refine g_ldc2 (v := 2) B w_k_X5_35 dX5_onesOf_52 ?_
        refine g_lload_n B dX5_onesOf_55 rfl 5 rfl ?_
        refine g_lload B dX5_onesOf_56 1 rfl ?_
        refine g_lsub B dX5_onesOf_58 ?_
        refine g_lload B dX5_onesOf_59 0 rfl ?_
        refine g_ldiv B dX5_onesOf_61 (cmp_ne c49_344) ?_
        refine g_ladd B dX5_onesOf_62 ?_
        refine g_goto (tgt := 69) B dX5_onesOf_63 (by decide) ?_
        exact g_lret B hr dX5_onesOf_69 (by decide) (by decide) ⟨(2 + ((v - (zr_336 + zr_338)) / zr_342)), e_, rfl, rfl⟩
    · replace e_ := fun β k_ => (e_ β k_).trans (if_neg c32_341)
      refine g_lconst (v := 1) B dX5_onesOf_35 (by decide) ?_
      exact g_lret B hr dX5_onesOf_36 (by decide) (by decide) ⟨1, e_, rfl, rfl⟩
  · replace e_ := fun β k_ => (e_ β k_).trans (if_neg c23_340)
    refine g_lconst (v := 0) B dX5_onesOf_26 (by decide) ?_
    exact g_lret B hr dX5_onesOf_27 (by decide) (by decide) ⟨0, e_, rfl, rfl⟩
abbrev MX5_mid : g_M := (yX5_mid, cX5_mid, 1, (some .long))
theorem dX5_mid_0 : decode cX5_mid 0 = .ok (.aload_n 0, 1) := by decide +kernel
theorem dX5_mid_1 : decode cX5_mid 1 = .ok (.getfield 15, 3) := by decide +kernel
theorem dX5_mid_4 : decode cX5_mid 4 = .ok (.aload_n 0, 1) := by decide +kernel
theorem dX5_mid_5 : decode cX5_mid 5 = .ok (.getfield 19, 3) := by decide +kernel
theorem dX5_mid_8 : decode cX5_mid 8 = .ok (.ladd, 1) := by decide +kernel
theorem dX5_mid_9 : decode cX5_mid 9 = .ok (.lconst 1, 1) := by decide +kernel
theorem dX5_mid_10 : decode cX5_mid 10 = .ok (.ladd, 1) := by decide +kernel
theorem dX5_mid_11 : decode cX5_mid 11 = .ok (.iconst 1, 1) := by decide +kernel
theorem dX5_mid_12 : decode cX5_mid 12 = .ok (.lshr, 1) := by decide +kernel
theorem dX5_mid_13 : decode cX5_mid 13 = .ok (.lreturn, 1) := by decide +kernel
set_option maxRecDepth 100000 in
def fn_wk_X5_mid (md_1 : Int64) (md_2 : Int64) (β : Type) (k_ : Int64 → β) : β := (k_ (((md_1 + md_2) + 1) >>> (Int32.toInt64 1 &&& 63)))
set_option maxRecDepth 100000 in
theorem fn_wk_X5_mid_s {md_1 : Int64} {md_2 : Int64} {β : Type} {k_ : Int64 → β} : fn_wk_X5_mid md_1 md_2 β k_ = (k_ (((md_1 + md_2) + 1) >>> (Int32.toInt64 1 &&& 63))) := rfl
set_option maxRecDepth 100000 in
set_option maxHeartbeats 4000000 in
theorem wk_X5_mid (E : g_E) (md : Nat) (mi : Nat) (md_1 : Int64) (md_2 : Int64) (mi_f : Nat → Int64)  : Ev E MX5_mid 0 0 0 0 [.ref md] [(md, .inr (5, [.ref mi, .long md_1, .long md_2])), (mi, .inl (E.2.2.1 3, 6, .inr (.inl mi_f)))] (fun v_ w_ => ∃ zr : Int64, (∀ (β : Type) (k_ : Int64 → β), fn_wk_X5_mid md_1 md_2 β k_ = k_ zr) ∧ v_ = some (.long zr) ∧ w_ = [(md, .inr (5, [.ref mi, .long md_1, .long md_2])), (mi, .inl (E.2.2.1 3, 6, .inr (.inl mi_f)))]) := by
  refine Ev.intro (by decide) (Nat.le_of_ble_eq_true rfl) ?_
  intro X B hr hI
  have B : Bd E X cX5_mid RX5 1 0 0 0 0 := B
  have hr : Rt E X (some .long) 0 0 (fun v_ w_ => ∃ zr : Int64, (∀ (β : Type) (k_ : Int64 → β), fn_wk_X5_mid md_1 md_2 β k_ = k_ zr) ∧ v_ = some (.long zr) ∧ w_ = [(md, .inr (5, [.ref mi, .long md_1, .long md_2])), (mi, .inl (E.2.2.1 3, 6, .inr (.inl mi_f)))]) := hr
  have e_ := fun (β : Type) (k_ : Int64 → β) => fn_wk_X5_mid_s (β := β) (k_ := k_) (md_1 := md_1) (md_2 := md_2)
  show G E X 1 [(md, .inr (5, [.ref mi, .long md_1, .long md_2])), (mi, .inl (E.2.2.1 3, 6, .inr (.inl mi_f)))] 0 0 [(0, .ref md)] 0 []
  refine g_aload_n B dX5_mid_0 rfl 0 rfl ?_
  refine g_get B 0 1 fl_X5_15 rfl rfl dX5_mid_1 ?_
  refine g_aload_n B dX5_mid_4 rfl 0 rfl ?_
  refine g_get B 0 2 fl_X5_19 rfl rfl dX5_mid_5 ?_
  refine g_ladd B dX5_mid_8 ?_
  refine g_lconst (v := 1) B dX5_mid_9 (by decide) ?_
  refine g_ladd B dX5_mid_10 ?_
  refine g_iconst (v := 1) B dX5_mid_11 (by decide) ?_
  refine g_lshr B dX5_mid_12 ?_
  exact g_lret B hr dX5_mid_13 (by decide) (by decide) ⟨(((md_1 + md_2) + 1) >>> (Int32.toInt64 1 &&& 63)), e_, rfl, rfl⟩
abbrev MX5_halve : g_M := (yX5_halve, cX5_halve, 2, none)
theorem dX5_halve_0 : decode cX5_halve 0 = .ok (.iload_n 1, 1) := by decide +kernel
theorem dX5_halve_1 : decode cX5_halve 1 = .ok (.ifCond .eq 14, 3) := by decide +kernel
theorem dX5_halve_15 : decode cX5_halve 15 = .ok (.aload_n 0, 1) := by decide +kernel
theorem dX5_halve_16 : decode cX5_halve 16 = .ok (.aload_n 0, 1) := by decide +kernel
theorem dX5_halve_17 : decode cX5_halve 17 = .ok (.invokevirtual 41, 3) := by decide +kernel
theorem w_ml_X5_41 : Cond.methodLink RX5 41 yX5_mid ∈ g_tbl := g_tbl_in 646 (by decide +kernel) (by decide +kernel)
theorem w_cd_X5_mid : g_cw MX5_mid ∈ g_tbl := g_tbl_in 640 (by decide +kernel) (by decide +kernel)
theorem cl_X5_41 : CL RX5 41 0 MX5_mid := ⟨w_ml_X5_41, w_cd_X5_mid, w_ini_X5, by decide +kernel, by decide +kernel, by decide +kernel⟩
theorem w_im_X5_mid : Cond.instanceMethod yX5_mid ∈ g_tbl := g_tbl_in 638 (by decide +kernel) (by decide +kernel)
theorem w_se_X5_mid : Cond.selects RX5 yX5_mid yX5_mid ∈ g_tbl := g_tbl_in 639 (by decide +kernel) (by decide +kernel)
theorem dX5_halve_20 : decode cX5_halve 20 = .ok (.lconst 1, 1) := by decide +kernel
theorem dX5_halve_21 : decode cX5_halve 21 = .ok (.lsub, 1) := by decide +kernel
theorem dX5_halve_22 : decode cX5_halve 22 = .ok (.putfield 19, 3) := by decide +kernel
theorem dX5_halve_25 : decode cX5_halve 25 = .ok (.return_, 1) := by decide +kernel
theorem dX5_halve_4 : decode cX5_halve 4 = .ok (.aload_n 0, 1) := by decide +kernel
theorem dX5_halve_5 : decode cX5_halve 5 = .ok (.aload_n 0, 1) := by decide +kernel
theorem dX5_halve_6 : decode cX5_halve 6 = .ok (.invokevirtual 41, 3) := by decide +kernel
theorem dX5_halve_9 : decode cX5_halve 9 = .ok (.putfield 15, 3) := by decide +kernel
theorem dX5_halve_12 : decode cX5_halve 12 = .ok (.goto 13, 3) := by decide +kernel
set_option maxRecDepth 100000 in
def fn_wk_X5_halve (md_1 : Int64) (md_2 : Int64) (u : Int32) (β : Type) (k_ : Int64 → Int64 → β) : β := (if u = 0 then (fn_wk_X5_mid md_1 md_2 β (fun zr_346 => (k_ md_1 (zr_346 - 1)))) else (fn_wk_X5_mid md_1 md_2 β (fun zr_348 => (k_ zr_348 md_2))))
set_option maxRecDepth 100000 in
theorem fn_wk_X5_halve_s {md_1 : Int64} {md_2 : Int64} {u : Int32} {β : Type} {k_ : Int64 → Int64 → β} : fn_wk_X5_halve md_1 md_2 u β k_ = (if u = 0 then (fn_wk_X5_mid md_1 md_2 β (fun zr_346 => (k_ md_1 (zr_346 - 1)))) else (fn_wk_X5_mid md_1 md_2 β (fun zr_348 => (k_ zr_348 md_2)))) := rfl
set_option maxRecDepth 100000 in
set_option maxHeartbeats 4000000 in
theorem wk_X5_halve (E : g_E) (md : Nat) (mi : Nat) (mi_f : Nat → Int64) (md_1 : Int64) (md_2 : Int64) (u : Int32)  : Ev E MX5_halve 1 20 0 0 [.ref md, .int u] [(md, .inr (5, [.ref mi, .long md_1, .long md_2])), (mi, .inl (E.2.2.1 3, 6, .inr (.inl mi_f)))] (fun v_ w_ => ∃ zmd_1 : Int64, ∃ zmd_2 : Int64, (∀ (β : Type) (k_ : Int64 → Int64 → β), fn_wk_X5_halve md_1 md_2 u β k_ = k_ zmd_1 zmd_2) ∧ v_ = none ∧ w_ = [(md, .inr (5, [.ref mi, .long zmd_1, .long zmd_2])), (mi, .inl (E.2.2.1 3, 6, .inr (.inl mi_f)))]) := by
  refine Ev.intro (by decide) (Nat.le_of_ble_eq_true rfl) ?_
  intro X B hr hI
  have B : Bd E X cX5_halve RX5 2 1 20 0 0 := B
  have hr : Rt E X none 0 0 (fun v_ w_ => ∃ zmd_1 : Int64, ∃ zmd_2 : Int64, (∀ (β : Type) (k_ : Int64 → Int64 → β), fn_wk_X5_halve md_1 md_2 u β k_ = k_ zmd_1 zmd_2) ∧ v_ = none ∧ w_ = [(md, .inr (5, [.ref mi, .long zmd_1, .long zmd_2])), (mi, .inl (E.2.2.1 3, 6, .inr (.inl mi_f)))]) := hr
  have e_ := fun (β : Type) (k_ : Int64 → Int64 → β) => fn_wk_X5_halve_s (β := β) (k_ := k_) (md_1 := md_1) (md_2 := md_2) (u := u)
  show G E X 2 [(md, .inr (5, [.ref mi, .long md_1, .long md_2])), (mi, .inl (E.2.2.1 3, 6, .inr (.inl mi_f)))] 0 0 [(0, .ref md), (1, .int u)] 0 []
  refine g_iload_n B dX5_halve_0 rfl 1 rfl ?_
  refine g_if_eq (tgt := 15) B dX5_halve_1 (by decide) (fun c1_345 => ?_) (fun c1_345 => ?_)
  · replace e_ := fun β k_ => (e_ β k_).trans (if_pos c1_345)
    refine g_aload_n B dX5_halve_15 rfl 0 rfl ?_
    refine g_aload_n B dX5_halve_16 rfl 0 rfl ?_
    refine g_callV (st := [.ref md]) (As := []) (wr := []) (nc' := 0) (ns' := 0) B cl_X5_41 w_im_X5_mid w_se_X5_mid (wk_X5_mid E md mi md_1 md_2 mi_f ) rfl [0, 1] [] rfl rfl (by decide) (by decide) (by decide) 0 rfl (fun q h => by cases h; rfl) rfl ⟨by decide, by decide⟩ rfl rfl (by decide) (by decide) rfl (Nat.le_of_ble_eq_true rfl) dX5_halve_17 (fun v w hq => ?_)
    obtain ⟨zr_346, hz_347, rfl, rfl⟩ := hq
    replace e_ := fun β k_ => (e_ β k_).trans (hz_347 β _)
    show G E X 2 [(md, .inr (5, [.ref mi, .long md_1, .long md_2])), (mi, .inl (E.2.2.1 3, 6, .inr (.inl mi_f)))] 0 0 [(0, .ref md), (1, .int u)] 20 [.long zr_346, .ref md]
    refine g_lconst (v := 1) B dX5_halve_20 (by decide) ?_
    refine g_lsub B dX5_halve_21 ?_
    refine g_put (ws' := [(md, .inr (5, [.ref mi, .long md_1, .long (zr_346 - 1)])), (mi, .inl (E.2.2.1 3, 6, .inr (.inl mi_f)))]) B 0 2 fl_X5_19 pf_X5_2 rfl (Nat.le_of_ble_eq_true rfl) rfl rfl rfl dX5_halve_22 ?_
    exact g_vret B hr dX5_halve_25 (by decide) (by decide) ⟨md_1, (zr_346 - 1), e_, rfl, rfl⟩
  · replace e_ := fun β k_ => (e_ β k_).trans (if_neg c1_345)
    refine g_aload_n B dX5_halve_4 rfl 0 rfl ?_
    refine g_aload_n B dX5_halve_5 rfl 0 rfl ?_
    refine g_callV (st := [.ref md]) (As := []) (wr := []) (nc' := 0) (ns' := 0) B cl_X5_41 w_im_X5_mid w_se_X5_mid (wk_X5_mid E md mi md_1 md_2 mi_f ) rfl [0, 1] [] rfl rfl (by decide) (by decide) (by decide) 0 rfl (fun q h => by cases h; rfl) rfl ⟨by decide, by decide⟩ rfl rfl (by decide) (by decide) rfl (Nat.le_of_ble_eq_true rfl) dX5_halve_6 (fun v w hq => ?_)
    obtain ⟨zr_348, hz_349, rfl, rfl⟩ := hq
    replace e_ := fun β k_ => (e_ β k_).trans (hz_349 β _)
    show G E X 2 [(md, .inr (5, [.ref mi, .long md_1, .long md_2])), (mi, .inl (E.2.2.1 3, 6, .inr (.inl mi_f)))] 0 0 [(0, .ref md), (1, .int u)] 9 [.long zr_348, .ref md]
    refine g_put (ws' := [(md, .inr (5, [.ref mi, .long zr_348, .long md_2])), (mi, .inl (E.2.2.1 3, 6, .inr (.inl mi_f)))]) B 0 1 fl_X5_15 pf_X5_1 rfl (Nat.le_of_ble_eq_true rfl) rfl rfl rfl dX5_halve_9 ?_
    refine g_goto (tgt := 25) B dX5_halve_12 (by decide) ?_
    exact g_vret B hr dX5_halve_25 (by decide) (by decide) ⟨zr_348, md_2, e_, rfl, rfl⟩
abbrev MX5_near : g_M := (yX5_near, cX5_near, 3, (some .int))
theorem dX5_near_0 : decode cX5_near 0 = .ok (.aload_n 0, 1) := by decide +kernel
theorem dX5_near_1 : decode cX5_near 1 = .ok (.invokevirtual 41, 3) := by decide +kernel
theorem dX5_near_4 : decode cX5_near 4 = .ok (.ldc2_w 45, 3) := by decide +kernel
theorem w_k_X5_45 : Cond.constantLong RX5 45 2147483647 ∈ g_tbl := g_tbl_in 655 (by decide +kernel) (by decide +kernel)
theorem dX5_near_7 : decode cX5_near 7 = .ok (.invokestatic 47, 3) := by decide +kernel
theorem w_mlm_X5_47 : Cond.methodLink RX5 47 Lib.MathLoose.min_long.x ∈ g_tbl := g_tbl_in 656 (by decide +kernel) (by decide +kernel)
theorem w_smm_min_JJ_J : Cond.static Lib.MathLoose.min_long.x ∈ g_tbl := g_tbl_in 614 (by decide +kernel) (by decide +kernel)
theorem w_cdm_min_JJ_J : Cond.code Lib.MathLoose.min_long.x Lib.MathLoose.min_long.code 4 (some .long) ∈ g_tbl := g_tbl_in 615 (by decide +kernel) (by decide +kernel)
theorem dX5_near_10 : decode cX5_near 10 = .ok (.l2i, 1) := by decide +kernel
theorem dX5_near_11 : decode cX5_near 11 = .ok (.istore_n 2, 1) := by decide +kernel
theorem dX5_near_12 : decode cX5_near 12 = .ok (.iload_n 1, 1) := by decide +kernel
theorem dX5_near_13 : decode cX5_near 13 = .ok (.ifCond .eq 9, 3) := by decide +kernel
theorem dX5_near_22 : decode cX5_near 22 = .ok (.iload_n 2, 1) := by decide +kernel
theorem dX5_near_23 : decode cX5_near 23 = .ok (.ireturn, 1) := by decide +kernel
theorem dX5_near_16 : decode cX5_near 16 = .ok (.iconst (-1), 1) := by decide +kernel
theorem dX5_near_17 : decode cX5_near 17 = .ok (.iload_n 2, 1) := by decide +kernel
theorem dX5_near_18 : decode cX5_near 18 = .ok (.isub, 1) := by decide +kernel
theorem dX5_near_19 : decode cX5_near 19 = .ok (.goto 4, 3) := by decide +kernel
set_option maxRecDepth 100000 in
def fn_wk_X5_near (md_1 : Int64) (md_2 : Int64) (be : Int32) (β : Type) (k_ : Int32 → β) : β := (fn_wk_X5_mid md_1 md_2 β (fun zr_350 => (if be = 0 then (k_ (Int64.toInt32 (if 2147483647 < zr_350 then 2147483647 else zr_350))) else (k_ ((-1) - (Int64.toInt32 (if 2147483647 < zr_350 then 2147483647 else zr_350)))))))
set_option maxRecDepth 100000 in
theorem fn_wk_X5_near_s {md_1 : Int64} {md_2 : Int64} {be : Int32} {β : Type} {k_ : Int32 → β} : fn_wk_X5_near md_1 md_2 be β k_ = (fn_wk_X5_mid md_1 md_2 β (fun zr_350 => (if be = 0 then (k_ (Int64.toInt32 (if 2147483647 < zr_350 then 2147483647 else zr_350))) else (k_ ((-1) - (Int64.toInt32 (if 2147483647 < zr_350 then 2147483647 else zr_350))))))) := rfl
set_option maxRecDepth 100000 in
set_option maxHeartbeats 4000000 in
theorem wk_X5_near (E : g_E) (md : Nat) (mi : Nat) (md_1 : Int64) (md_2 : Int64) (mi_f : Nat → Int64) (be : Int32)  : Ev E MX5_near 1 23 0 0 [.ref md, .int be] [(md, .inr (5, [.ref mi, .long md_1, .long md_2])), (mi, .inl (E.2.2.1 3, 6, .inr (.inl mi_f)))] (fun v_ w_ => ∃ zr : Int32, (∀ (β : Type) (k_ : Int32 → β), fn_wk_X5_near md_1 md_2 be β k_ = k_ zr) ∧ v_ = some (.int zr) ∧ w_ = [(md, .inr (5, [.ref mi, .long md_1, .long md_2])), (mi, .inl (E.2.2.1 3, 6, .inr (.inl mi_f)))]) := by
  refine Ev.intro (by decide) (Nat.le_of_ble_eq_true rfl) ?_
  intro X B hr hI
  have B : Bd E X cX5_near RX5 3 1 23 0 0 := B
  have hr : Rt E X (some .int) 0 0 (fun v_ w_ => ∃ zr : Int32, (∀ (β : Type) (k_ : Int32 → β), fn_wk_X5_near md_1 md_2 be β k_ = k_ zr) ∧ v_ = some (.int zr) ∧ w_ = [(md, .inr (5, [.ref mi, .long md_1, .long md_2])), (mi, .inl (E.2.2.1 3, 6, .inr (.inl mi_f)))]) := hr
  have e_ := fun (β : Type) (k_ : Int32 → β) => fn_wk_X5_near_s (β := β) (k_ := k_) (md_1 := md_1) (md_2 := md_2) (be := be)
  show G E X 3 [(md, .inr (5, [.ref mi, .long md_1, .long md_2])), (mi, .inl (E.2.2.1 3, 6, .inr (.inl mi_f)))] 0 0 [(0, .ref md), (1, .int be)] 0 []
  refine g_aload_n B dX5_near_0 rfl 0 rfl ?_
  refine g_callV (st := []) (As := []) (wr := []) (nc' := 0) (ns' := 0) B cl_X5_41 w_im_X5_mid w_se_X5_mid (wk_X5_mid E md mi md_1 md_2 mi_f ) rfl [0, 1] [] rfl rfl (by decide) (by decide) (by decide) 0 rfl (fun q h => by cases h; rfl) rfl ⟨by decide, by decide⟩ rfl rfl (by decide) (by decide) rfl (Nat.le_of_ble_eq_true rfl) dX5_near_1 (fun v w hq => ?_)
  obtain ⟨zr_350, hz_351, rfl, rfl⟩ := hq
  replace e_ := fun β k_ => (e_ β k_).trans (hz_351 β _)
  show G E X 3 [(md, .inr (5, [.ref mi, .long md_1, .long md_2])), (mi, .inl (E.2.2.1 3, 6, .inr (.inl mi_f)))] 0 0 [(0, .ref md), (1, .int be)] 4 [.long zr_350]
  refine g_ldc2 (v := 2147483647) B w_k_X5_45 dX5_near_4 ?_
  refine g_mminl B w_mlm_X5_47 w_smm_min_JJ_J w_ini_Math w_cdm_min_JJ_J (by decide) (Nat.le_of_ble_eq_true rfl) (by decide) (by decide) dX5_near_7 ?_
  refine g_l2i B dX5_near_10 ?_
  refine g_istore_n (lv' := [(2, .int (Int64.toInt32 (if 2147483647 < zr_350 then 2147483647 else zr_350))), (0, .ref md), (1, .int be)]) B dX5_near_11 rfl (by decide) rfl ?_
  refine g_iload_n B dX5_near_12 rfl 2 rfl ?_
  refine g_if_eq (tgt := 22) B dX5_near_13 (by decide) (fun c13_352 => ?_) (fun c13_352 => ?_)
  · replace e_ := fun β k_ => (e_ β k_).trans (if_pos c13_352)
    refine g_iload_n B dX5_near_22 rfl 0 rfl ?_
    exact g_iret B hr dX5_near_23 (by decide) (by decide) ⟨(Int64.toInt32 (if 2147483647 < zr_350 then 2147483647 else zr_350)), e_, rfl, rfl⟩
  · replace e_ := fun β k_ => (e_ β k_).trans (if_neg c13_352)
    refine g_iconst (v := (-1)) B dX5_near_16 (by decide) ?_
    refine g_iload_n B dX5_near_17 rfl 0 rfl ?_
    refine g_isub B dX5_near_18 ?_
    refine g_goto (tgt := 23) B dX5_near_19 (by decide) ?_
    exact g_iret B hr dX5_near_23 (by decide) (by decide) ⟨((-1) - (Int64.toInt32 (if 2147483647 < zr_350 then 2147483647 else zr_350))), e_, rfl, rfl⟩
abbrev MX5_move : g_M := (yX5_move, cX5_move, 7, none)
theorem dX5_move_0 : decode cX5_move 0 = .ok (.iload_n 1, 1) := by decide +kernel
theorem dX5_move_1 : decode cX5_move 1 = .ok (.iconst 1, 1) := by decide +kernel
theorem dX5_move_2 : decode cX5_move 2 = .ok (.iand, 1) := by decide +kernel
theorem dX5_move_3 : decode cX5_move 3 = .ok (.iconst 3, 1) := by decide +kernel
theorem dX5_move_4 : decode cX5_move 4 = .ok (.imul, 1) := by decide +kernel
theorem dX5_move_5 : decode cX5_move 5 = .ok (.iload_n 2, 1) := by decide +kernel
theorem dX5_move_6 : decode cX5_move 6 = .ok (.iadd, 1) := by decide +kernel
theorem dX5_move_7 : decode cX5_move 7 = .ok (.istore 4, 2) := by decide +kernel
theorem dX5_move_9 : decode cX5_move 9 = .ok (.iload 4, 2) := by decide +kernel
theorem dX5_move_11 : decode cX5_move 11 = .ok (.ifCond .lt 13, 3) := by decide +kernel
theorem dX5_move_24 : decode cX5_move 24 = .ok (.return_, 1) := by decide +kernel
theorem dX5_move_14 : decode cX5_move 14 = .ok (.iload 4, 2) := by decide +kernel
theorem dX5_move_16 : decode cX5_move 16 = .ok (.aload_n 0, 1) := by decide +kernel
theorem dX5_move_17 : decode cX5_move 17 = .ok (.getfield 9, 3) := by decide +kernel
theorem dX5_move_20 : decode cX5_move 20 = .ok (.arraylength, 1) := by decide +kernel
theorem dX5_move_21 : decode cX5_move 21 = .ok (.if_icmp .lt 4, 3) := by decide +kernel
theorem dX5_move_25 : decode cX5_move 25 = .ok (.sipush 128, 3) := by decide +kernel
theorem dX5_move_28 : decode cX5_move 28 = .ok (.iload_n 2, 1) := by decide +kernel
theorem dX5_move_29 : decode cX5_move 29 = .ok (.ishr, 1) := by decide +kernel
theorem dX5_move_30 : decode cX5_move 30 = .ok (.i2l, 1) := by decide +kernel
theorem dX5_move_31 : decode cX5_move 31 = .ok (.lstore 5, 2) := by decide +kernel
theorem dX5_move_33 : decode cX5_move 33 = .ok (.iload_n 3, 1) := by decide +kernel
theorem dX5_move_34 : decode cX5_move 34 = .ok (.ifCond .eq 35, 3) := by decide +kernel
theorem dX5_move_69 : decode cX5_move 69 = .ok (.aload_n 0, 1) := by decide +kernel
theorem dX5_move_70 : decode cX5_move 70 = .ok (.getfield 9, 3) := by decide +kernel
theorem dX5_move_73 : decode cX5_move 73 = .ok (.iload 4, 2) := by decide +kernel
theorem dX5_move_75 : decode cX5_move 75 = .ok (.dup2, 1) := by decide +kernel
theorem dX5_move_76 : decode cX5_move 76 = .ok (.laload, 1) := by decide +kernel
theorem dX5_move_77 : decode cX5_move 77 = .ok (.aload_n 0, 1) := by decide +kernel
theorem dX5_move_78 : decode cX5_move 78 = .ok (.getfield 9, 3) := by decide +kernel
theorem dX5_move_81 : decode cX5_move 81 = .ok (.iload 4, 2) := by decide +kernel
theorem dX5_move_83 : decode cX5_move 83 = .ok (.laload, 1) := by decide +kernel
theorem dX5_move_84 : decode cX5_move 84 = .ok (.lload 5, 2) := by decide +kernel
theorem dX5_move_86 : decode cX5_move 86 = .ok (.ladd, 1) := by decide +kernel
theorem dX5_move_87 : decode cX5_move 87 = .ok (.ldc2_w 35, 3) := by decide +kernel
theorem dX5_move_90 : decode cX5_move 90 = .ok (.lsub, 1) := by decide +kernel
theorem dX5_move_91 : decode cX5_move 91 = .ok (.bipush 7, 2) := by decide +kernel
theorem dX5_move_93 : decode cX5_move 93 = .ok (.iload_n 2, 1) := by decide +kernel
theorem dX5_move_94 : decode cX5_move 94 = .ok (.isub, 1) := by decide +kernel
theorem dX5_move_95 : decode cX5_move 95 = .ok (.lshr, 1) := by decide +kernel
theorem dX5_move_96 : decode cX5_move 96 = .ok (.ldc2_w 35, 3) := by decide +kernel
theorem dX5_move_99 : decode cX5_move 99 = .ok (.lmul, 1) := by decide +kernel
theorem dX5_move_100 : decode cX5_move 100 = .ok (.lsub, 1) := by decide +kernel
theorem dX5_move_101 : decode cX5_move 101 = .ok (.lastore, 1) := by decide +kernel
theorem dX5_move_102 : decode cX5_move 102 = .ok (.return_, 1) := by decide +kernel
theorem dX5_move_37 : decode cX5_move 37 = .ok (.aload_n 0, 1) := by decide +kernel
theorem dX5_move_38 : decode cX5_move 38 = .ok (.getfield 9, 3) := by decide +kernel
theorem dX5_move_41 : decode cX5_move 41 = .ok (.iload 4, 2) := by decide +kernel
theorem dX5_move_43 : decode cX5_move 43 = .ok (.dup2, 1) := by decide +kernel
theorem dX5_move_44 : decode cX5_move 44 = .ok (.laload, 1) := by decide +kernel
theorem dX5_move_45 : decode cX5_move 45 = .ok (.aload_n 0, 1) := by decide +kernel
theorem dX5_move_46 : decode cX5_move 46 = .ok (.getfield 9, 3) := by decide +kernel
theorem dX5_move_49 : decode cX5_move 49 = .ok (.iload 4, 2) := by decide +kernel
theorem dX5_move_51 : decode cX5_move 51 = .ok (.laload, 1) := by decide +kernel
theorem dX5_move_52 : decode cX5_move 52 = .ok (.lload 5, 2) := by decide +kernel
theorem dX5_move_54 : decode cX5_move 54 = .ok (.ladd, 1) := by decide +kernel
theorem dX5_move_55 : decode cX5_move 55 = .ok (.bipush 7, 2) := by decide +kernel
theorem dX5_move_57 : decode cX5_move 57 = .ok (.iload_n 2, 1) := by decide +kernel
theorem dX5_move_58 : decode cX5_move 58 = .ok (.isub, 1) := by decide +kernel
theorem dX5_move_59 : decode cX5_move 59 = .ok (.lshr, 1) := by decide +kernel
theorem dX5_move_60 : decode cX5_move 60 = .ok (.ldc2_w 53, 3) := by decide +kernel
theorem w_k_X5_53 : Cond.constantLong RX5 53 5 ∈ g_tbl := g_tbl_in 636 (by decide +kernel) (by decide +kernel)
theorem dX5_move_63 : decode cX5_move 63 = .ok (.lmul, 1) := by decide +kernel
theorem dX5_move_64 : decode cX5_move 64 = .ok (.ladd, 1) := by decide +kernel
theorem dX5_move_65 : decode cX5_move 65 = .ok (.lastore, 1) := by decide +kernel
theorem dX5_move_66 : decode cX5_move 66 = .ok (.goto 36, 3) := by decide +kernel
set_option maxRecDepth 100000 in
def fn_wk_X5_move (mi_f : Nat → Int64) (ch : Int32) (k : Int32) (ri : Int32) (β : Type) (k_ : (Nat → Int64) → β) : β := (if (((ch &&& 1) * 3) + k) < 0 then (k_ mi_f) else (if (((ch &&& 1) * 3) + k) < 6 then (if ri = 0 then (fnL ((mi_f (Int32.toNatClampNeg (((ch &&& 1) * 3) + k))) - (((((mi_f (Int32.toNatClampNeg (((ch &&& 1) * 3) + k))) + (Int32.toInt64 ((128 : Int32) >>> (k &&& 31)))) - 2) >>> (Int32.toInt64 (7 - k) &&& 63)) * 2)) (fun x_356 => (k_ (vp_updL mi_f (Int32.toNatClampNeg (((ch &&& 1) * 3) + k)) x_356)))) else (fnL ((mi_f (Int32.toNatClampNeg (((ch &&& 1) * 3) + k))) + ((((mi_f (Int32.toNatClampNeg (((ch &&& 1) * 3) + k))) + (Int32.toInt64 ((128 : Int32) >>> (k &&& 31)))) >>> (Int32.toInt64 (7 - k) &&& 63)) * 5)) (fun x_357 => (k_ (vp_updL mi_f (Int32.toNatClampNeg (((ch &&& 1) * 3) + k)) x_357))))) else (k_ mi_f)))
set_option maxRecDepth 100000 in
theorem fn_wk_X5_move_s {mi_f : Nat → Int64} {ch : Int32} {k : Int32} {ri : Int32} {β : Type} {k_ : (Nat → Int64) → β} : fn_wk_X5_move mi_f ch k ri β k_ = (if (((ch &&& 1) * 3) + k) < 0 then (k_ mi_f) else (if (((ch &&& 1) * 3) + k) < 6 then (if ri = 0 then (fnL ((mi_f (Int32.toNatClampNeg (((ch &&& 1) * 3) + k))) - (((((mi_f (Int32.toNatClampNeg (((ch &&& 1) * 3) + k))) + (Int32.toInt64 ((128 : Int32) >>> (k &&& 31)))) - 2) >>> (Int32.toInt64 (7 - k) &&& 63)) * 2)) (fun x_356 => (k_ (vp_updL mi_f (Int32.toNatClampNeg (((ch &&& 1) * 3) + k)) x_356)))) else (fnL ((mi_f (Int32.toNatClampNeg (((ch &&& 1) * 3) + k))) + ((((mi_f (Int32.toNatClampNeg (((ch &&& 1) * 3) + k))) + (Int32.toInt64 ((128 : Int32) >>> (k &&& 31)))) >>> (Int32.toInt64 (7 - k) &&& 63)) * 5)) (fun x_357 => (k_ (vp_updL mi_f (Int32.toNatClampNeg (((ch &&& 1) * 3) + k)) x_357))))) else (k_ mi_f))) := rfl
set_option maxRecDepth 100000 in
set_option maxHeartbeats 4000000 in
theorem wk_X5_move (E : g_E) (md : Nat) (mi : Nat) (md_1 : Int64) (md_2 : Int64) (mi_f : Nat → Int64) (ch : Int32) (k : Int32) (ri : Int32)  : Ev E MX5_move 0 0 0 0 [.ref md, .int ch, .int k, .int ri] [(md, .inr (5, [.ref mi, .long md_1, .long md_2])), (mi, .inl (E.2.2.1 3, 6, .inr (.inl mi_f)))] (fun v_ w_ => ∃ zmi_f : Nat → Int64, (∀ (β : Type) (k_ : (Nat → Int64) → β), fn_wk_X5_move mi_f ch k ri β k_ = k_ zmi_f) ∧ v_ = none ∧ w_ = [(md, .inr (5, [.ref mi, .long md_1, .long md_2])), (mi, .inl (E.2.2.1 3, 6, .inr (.inl zmi_f)))]) := by
  refine Ev.intro (by decide) (Nat.le_of_ble_eq_true rfl) ?_
  intro X B hr hI
  have B : Bd E X cX5_move RX5 7 0 0 0 0 := B
  have hr : Rt E X none 0 0 (fun v_ w_ => ∃ zmi_f : Nat → Int64, (∀ (β : Type) (k_ : (Nat → Int64) → β), fn_wk_X5_move mi_f ch k ri β k_ = k_ zmi_f) ∧ v_ = none ∧ w_ = [(md, .inr (5, [.ref mi, .long md_1, .long md_2])), (mi, .inl (E.2.2.1 3, 6, .inr (.inl zmi_f)))]) := hr
  have e_ := fun (β : Type) (k_ : (Nat → Int64) → β) => fn_wk_X5_move_s (β := β) (k_ := k_) (mi_f := mi_f) (ch := ch) (k := k) (ri := ri)
  show G E X 7 [(md, .inr (5, [.ref mi, .long md_1, .long md_2])), (mi, .inl (E.2.2.1 3, 6, .inr (.inl mi_f)))] 0 0 [(0, .ref md), (1, .int ch), (2, .int k), (3, .int ri)] 0 []
  refine g_iload_n B dX5_move_0 rfl 1 rfl ?_
  refine g_iconst (v := 1) B dX5_move_1 (by decide) ?_
  refine g_iand B dX5_move_2 ?_
  refine g_iconst (v := 3) B dX5_move_3 (by decide) ?_
  refine g_imul B dX5_move_4 ?_
  refine g_iload_n B dX5_move_5 rfl 2 rfl ?_
  refine g_iadd B dX5_move_6 ?_
  refine g_istore (lv' := [(4, .int (((ch &&& 1) * 3) + k)), (0, .ref md), (1, .int ch), (2, .int k), (3, .int ri)]) B dX5_move_7 (by decide) rfl ?_
  refine g_iload B dX5_move_9 0 rfl ?_
  refine g_if_lt (tgt := 24) B dX5_move_11 (by decide) (fun c11_353 => ?_) (fun c11_353 => ?_)
  · replace e_ := fun β k_ => (e_ β k_).trans (if_pos c11_353)
    exact g_vret B hr dX5_move_24 (by decide) (by decide) ⟨mi_f, e_, rfl, rfl⟩
  · replace e_ := fun β k_ => (e_ β k_).trans (if_neg c11_353)
    refine g_iload B dX5_move_14 0 rfl ?_
    refine g_aload_n B dX5_move_16 rfl 1 rfl ?_
    refine g_get B 0 0 fl_X5_9 rfl rfl dX5_move_17 ?_
    refine g_alen (v := nI 6) B 1 (by decide) rfl rfl dX5_move_20 ?_
    refine g_ri (x' := 6) (by decide) ?_
    refine g_icmp_lt (tgt := 25) B dX5_move_21 (by decide) (fun c21_354 => ?_) (fun c21_354 => ?_)
    · replace e_ := fun β k_ => (e_ β k_).trans (if_pos c21_354)
      refine g_sipush (v := 128) B dX5_move_25 (by decide) ?_
      refine g_iload_n B dX5_move_28 rfl 3 rfl ?_
      refine g_ishr B dX5_move_29 ?_
      refine g_i2l B dX5_move_30 ?_
      refine g_lstore (lv' := [(5, .long (Int32.toInt64 ((128 : Int32) >>> (k &&& 31)))), (4, .int (((ch &&& 1) * 3) + k)), (0, .ref md), (1, .int ch), (2, .int k), (3, .int ri)]) B dX5_move_31 (by decide) rfl ?_
      refine g_iload_n B dX5_move_33 rfl 5 rfl ?_
      refine g_if_eq (tgt := 69) B dX5_move_34 (by decide) (fun c34_355 => ?_) (fun c34_355 => ?_)
      · replace e_ := fun β k_ => (e_ β k_).trans (if_pos c34_355)
        refine g_aload_n B dX5_move_69 rfl 2 rfl ?_
        refine g_get B 0 0 fl_X5_9 rfl rfl dX5_move_70 ?_
        refine g_iload B dX5_move_73 1 rfl ?_
        refine g_dup2_11 B dX5_move_75 rfl rfl ?_
        refine g_lald B 1 rfl (in_lt (by decide) c11_353 c21_354) dX5_move_76 ?_
        refine g_aload_n B dX5_move_77 rfl 2 rfl ?_
        refine g_get B 0 0 fl_X5_9 rfl rfl dX5_move_78 ?_
        refine g_iload B dX5_move_81 1 rfl ?_
        refine g_lald B 1 rfl (in_lt (by decide) c11_353 c21_354) dX5_move_83 ?_
        refine g_lload B dX5_move_84 0 rfl ?_
        refine g_ladd B dX5_move_86 ?_
        refine g_ldc2 (v := 2) B w_k_X5_35 dX5_move_87 ?_
        refine g_lsub B dX5_move_90 ?_
        refine g_bipush (v := 7) B dX5_move_91 (by decide) ?_
        refine g_iload_n B dX5_move_93 rfl 4 rfl ?_
        refine g_isub B dX5_move_94 ?_
        refine g_lshr B dX5_move_95 ?_
        refine g_ldc2 (v := 2) B w_k_X5_35 dX5_move_96 ?_
        refine g_lmul B dX5_move_99 ?_
        refine g_lsub B dX5_move_100 ?_
        refine g_topl (fun x_356 ex_356 => ?_)
        replace e_ := fun β k_ => (e_ β k_).trans (fnL_eq (x := x_356) ex_356.symm _)
        refine g_last (ws' := [(md, .inr (5, [.ref mi, .long md_1, .long md_2])), (mi, .inl (E.2.2.1 3, 6, .inr (.inl (vp_updL mi_f (Int32.toNatClampNeg (((ch &&& 1) * 3) + k)) x_356))))]) B 1 rfl (in_lt (by decide) c11_353 c21_354) rfl dX5_move_101 ?_
        exact g_vret B hr dX5_move_102 (by decide) (by decide) ⟨(vp_updL mi_f (Int32.toNatClampNeg (((ch &&& 1) * 3) + k)) x_356), e_, rfl, rfl⟩
      · replace e_ := fun β k_ => (e_ β k_).trans (if_neg c34_355)
        refine g_aload_n B dX5_move_37 rfl 2 rfl ?_
        refine g_get B 0 0 fl_X5_9 rfl rfl dX5_move_38 ?_
        refine g_iload B dX5_move_41 1 rfl ?_
        refine g_dup2_11 B dX5_move_43 rfl rfl ?_
        refine g_lald B 1 rfl (in_lt (by decide) c11_353 c21_354) dX5_move_44 ?_
        refine g_aload_n B dX5_move_45 rfl 2 rfl ?_
        refine g_get B 0 0 fl_X5_9 rfl rfl dX5_move_46 ?_
        refine g_iload B dX5_move_49 1 rfl ?_
        refine g_lald B 1 rfl (in_lt (by decide) c11_353 c21_354) dX5_move_51 ?_
        refine g_lload B dX5_move_52 0 rfl ?_
        refine g_ladd B dX5_move_54 ?_
        refine g_bipush (v := 7) B dX5_move_55 (by decide) ?_
        refine g_iload_n B dX5_move_57 rfl 4 rfl ?_
        refine g_isub B dX5_move_58 ?_
        refine g_lshr B dX5_move_59 ?_
        refine g_ldc2 (v := 5) B w_k_X5_53 dX5_move_60 ?_
        refine g_lmul B dX5_move_63 ?_
        refine g_ladd B dX5_move_64 ?_
        refine g_topl (fun x_357 ex_357 => ?_)
        replace e_ := fun β k_ => (e_ β k_).trans (fnL_eq (x := x_357) ex_357.symm _)
        refine g_last (ws' := [(md, .inr (5, [.ref mi, .long md_1, .long md_2])), (mi, .inl (E.2.2.1 3, 6, .inr (.inl (vp_updL mi_f (Int32.toNatClampNeg (((ch &&& 1) * 3) + k)) x_357))))]) B 1 rfl (in_lt (by decide) c11_353 c21_354) rfl dX5_move_65 ?_
        refine g_goto (tgt := 102) B dX5_move_66 (by decide) ?_
        exact g_vret B hr dX5_move_102 (by decide) (by decide) ⟨(vp_updL mi_f (Int32.toNatClampNeg (((ch &&& 1) * 3) + k)) x_357), e_, rfl, rfl⟩
    · replace e_ := fun β k_ => (e_ β k_).trans (if_neg c21_354)
      exact g_vret B hr dX5_move_24 (by decide) (by decide) ⟨mi_f, e_, rfl, rfl⟩
abbrev MX5_bound : g_M := (yX5_bound, cX5_bound, 11, none)
theorem dX5_bound_0 : decode cX5_bound 0 = .ok (.aload_n 0, 1) := by decide +kernel
theorem dX5_bound_1 : decode cX5_bound 1 = .ok (.iload_n 1, 1) := by decide +kernel
theorem dX5_bound_2 : decode cX5_bound 2 = .ok (.iconst 0, 1) := by decide +kernel
theorem dX5_bound_3 : decode cX5_bound 3 = .ok (.invokevirtual 32, 3) := by decide +kernel
theorem dX5_bound_6 : decode cX5_bound 6 = .ok (.lstore 4, 2) := by decide +kernel
theorem dX5_bound_8 : decode cX5_bound 8 = .ok (.lload 4, 2) := by decide +kernel
theorem dX5_bound_10 : decode cX5_bound 10 = .ok (.aload_n 0, 1) := by decide +kernel
theorem dX5_bound_11 : decode cX5_bound 11 = .ok (.iload_n 1, 1) := by decide +kernel
theorem dX5_bound_12 : decode cX5_bound 12 = .ok (.iconst 1, 1) := by decide +kernel
theorem dX5_bound_13 : decode cX5_bound 13 = .ok (.invokevirtual 32, 3) := by decide +kernel
theorem dX5_bound_16 : decode cX5_bound 16 = .ok (.ladd, 1) := by decide +kernel
theorem dX5_bound_17 : decode cX5_bound 17 = .ok (.lstore 6, 2) := by decide +kernel
theorem dX5_bound_19 : decode cX5_bound 19 = .ok (.aload_n 0, 1) := by decide +kernel
theorem dX5_bound_20 : decode cX5_bound 20 = .ok (.iload_n 1, 1) := by decide +kernel
theorem dX5_bound_21 : decode cX5_bound 21 = .ok (.iconst 2, 1) := by decide +kernel
theorem dX5_bound_22 : decode cX5_bound 22 = .ok (.invokevirtual 32, 3) := by decide +kernel
theorem dX5_bound_25 : decode cX5_bound 25 = .ok (.lstore 8, 2) := by decide +kernel
theorem dX5_bound_27 : decode cX5_bound 27 = .ok (.lload_n 2, 1) := by decide +kernel
theorem dX5_bound_28 : decode cX5_bound 28 = .ok (.lconst 0, 1) := by decide +kernel
theorem dX5_bound_29 : decode cX5_bound 29 = .ok (.lcmp, 1) := by decide +kernel
theorem dX5_bound_30 : decode cX5_bound 30 = .ok (.ifCond .ne 19, 3) := by decide +kernel
theorem dX5_bound_49 : decode cX5_bound 49 = .ok (.lload_n 2, 1) := by decide +kernel
theorem dX5_bound_50 : decode cX5_bound 50 = .ok (.lconst 1, 1) := by decide +kernel
theorem dX5_bound_51 : decode cX5_bound 51 = .ok (.lcmp, 1) := by decide +kernel
theorem dX5_bound_52 : decode cX5_bound 52 = .ok (.ifCond .ne 20, 3) := by decide +kernel
theorem dX5_bound_72 : decode cX5_bound 72 = .ok (.aload_n 0, 1) := by decide +kernel
theorem dX5_bound_73 : decode cX5_bound 73 = .ok (.lload 6, 2) := by decide +kernel
theorem dX5_bound_75 : decode cX5_bound 75 = .ok (.lload_n 2, 1) := by decide +kernel
theorem dX5_bound_76 : decode cX5_bound 76 = .ok (.ldc2_w 35, 3) := by decide +kernel
theorem dX5_bound_79 : decode cX5_bound 79 = .ok (.lsub, 1) := by decide +kernel
theorem dX5_bound_80 : decode cX5_bound 80 = .ok (.lload 8, 2) := by decide +kernel
theorem dX5_bound_82 : decode cX5_bound 82 = .ok (.lmul, 1) := by decide +kernel
theorem dX5_bound_83 : decode cX5_bound 83 = .ok (.ladd, 1) := by decide +kernel
theorem dX5_bound_84 : decode cX5_bound 84 = .ok (.putfield 15, 3) := by decide +kernel
theorem dX5_bound_87 : decode cX5_bound 87 = .ok (.aload_n 0, 1) := by decide +kernel
theorem dX5_bound_88 : decode cX5_bound 88 = .ok (.aload_n 0, 1) := by decide +kernel
theorem dX5_bound_89 : decode cX5_bound 89 = .ok (.getfield 15, 3) := by decide +kernel
theorem dX5_bound_92 : decode cX5_bound 92 = .ok (.lload 8, 2) := by decide +kernel
theorem dX5_bound_94 : decode cX5_bound 94 = .ok (.ladd, 1) := by decide +kernel
theorem dX5_bound_95 : decode cX5_bound 95 = .ok (.lconst 1, 1) := by decide +kernel
theorem dX5_bound_96 : decode cX5_bound 96 = .ok (.lsub, 1) := by decide +kernel
theorem dX5_bound_97 : decode cX5_bound 97 = .ok (.putfield 19, 3) := by decide +kernel
theorem dX5_bound_100 : decode cX5_bound 100 = .ok (.iconst 0, 1) := by decide +kernel
theorem dX5_bound_101 : decode cX5_bound 101 = .ok (.istore 10, 2) := by decide +kernel
theorem dX5_bound_103 : decode cX5_bound 103 = .ok (.iload 10, 2) := by decide +kernel
theorem dX5_bound_105 : decode cX5_bound 105 = .ok (.iconst 3, 1) := by decide +kernel
theorem dX5_bound_106 : decode cX5_bound 106 = .ok (.if_icmp .ge 37, 3) := by decide +kernel
theorem dX5_bound_109 : decode cX5_bound 109 = .ok (.iload 10, 2) := by decide +kernel
theorem dX5_bound_111 : decode cX5_bound 111 = .ok (.i2l, 1) := by decide +kernel
theorem dX5_bound_112 : decode cX5_bound 112 = .ok (.lload_n 2, 1) := by decide +kernel
theorem dX5_bound_113 : decode cX5_bound 113 = .ok (.lcmp, 1) := by decide +kernel
theorem dX5_bound_114 : decode cX5_bound 114 = .ok (.ifCond .gt 29, 3) := by decide +kernel
theorem dX5_bound_117 : decode cX5_bound 117 = .ok (.aload_n 0, 1) := by decide +kernel
theorem dX5_bound_118 : decode cX5_bound 118 = .ok (.iload_n 1, 1) := by decide +kernel
theorem dX5_bound_119 : decode cX5_bound 119 = .ok (.iload 10, 2) := by decide +kernel
theorem dX5_bound_121 : decode cX5_bound 121 = .ok (.lload_n 2, 1) := by decide +kernel
theorem dX5_bound_122 : decode cX5_bound 122 = .ok (.iload 10, 2) := by decide +kernel
theorem dX5_bound_124 : decode cX5_bound 124 = .ok (.i2l, 1) := by decide +kernel
theorem dX5_bound_125 : decode cX5_bound 125 = .ok (.lcmp, 1) := by decide +kernel
theorem dX5_bound_126 : decode cX5_bound 126 = .ok (.ifCond .le 7, 3) := by decide +kernel
theorem dX5_bound_133 : decode cX5_bound 133 = .ok (.iconst 0, 1) := by decide +kernel
theorem dX5_bound_134 : decode cX5_bound 134 = .ok (.invokevirtual 37, 3) := by decide +kernel
theorem w_ml_X5_37 : Cond.methodLink RX5 37 yX5_move ∈ g_tbl := g_tbl_in 632 (by decide +kernel) (by decide +kernel)
theorem w_cd_X5_move : g_cw MX5_move ∈ g_tbl := g_tbl_in 635 (by decide +kernel) (by decide +kernel)
theorem cl_X5_37 : CL RX5 37 3 MX5_move := ⟨w_ml_X5_37, w_cd_X5_move, w_ini_X5, by decide +kernel, by decide +kernel, by decide +kernel⟩
theorem w_im_X5_move : Cond.instanceMethod yX5_move ∈ g_tbl := g_tbl_in 634 (by decide +kernel) (by decide +kernel)
theorem w_se_X5_move : Cond.selects RX5 yX5_move yX5_move ∈ g_tbl := g_tbl_in 14 (by decide +kernel) (by decide +kernel)
theorem dX5_bound_137 : decode cX5_bound 137 = .ok (.iinc 10 1, 3) := by decide +kernel
theorem dX5_bound_140 : decode cX5_bound 140 = .ok (.goto (-37), 3) := by decide +kernel
theorem dX5_bound_129 : decode cX5_bound 129 = .ok (.iconst 1, 1) := by decide +kernel
theorem dX5_bound_130 : decode cX5_bound 130 = .ok (.goto 4, 3) := by decide +kernel
set_option maxRecDepth 100000 in
def lf_wk_X5_bound_103  (β : Type) (kx_ : Int64 → Int64 → (Nat → Int64) → Int32 → Int64 → Int64 → Int64 → Int64 → Int32 → β)  : Nat → Int64 → Int64 → (Nat → Int64) → Int32 → Int64 → Int64 → Int64 → Int64 → Int32 → β
  | 0, md_1, md_2, mi_f, l1, l2, l4, l6, l8, l10 => kx_ md_1 md_2 mi_f l1 l2 l4 l6 l8 l10
  | fuel + 1, md_1, md_2, mi_f, l1, l2, l4, l6, l8, l10 => (if 3 ≤ l10 then (kx_ md_1 md_2 mi_f l1 l2 l4 l6 l8 l10) else (if 0 < (lg_cmp (Int32.toInt64 l10) l2) then (kx_ md_1 md_2 mi_f l1 l2 l4 l6 l8 l10) else (if (lg_cmp l2 (Int32.toInt64 l10)) ≤ 0 then (fn_wk_X5_move mi_f l1 l10 0 β (fun zmi_f_369 => (lf_wk_X5_bound_103  β kx_ fuel md_1 md_2 zmi_f_369 l1 l2 l4 l6 l8 (l10 + 1)))) else (fn_wk_X5_move mi_f l1 l10 1 β (fun zmi_f_371 => (lf_wk_X5_bound_103  β kx_ fuel md_1 md_2 zmi_f_371 l1 l2 l4 l6 l8 (l10 + 1)))))))
set_option maxRecDepth 100000 in
theorem lf_wk_X5_bound_103_s  {β : Type} {kx_ : Int64 → Int64 → (Nat → Int64) → Int32 → Int64 → Int64 → Int64 → Int64 → Int32 → β}  {fuel : Nat} {md_1 : Int64} {md_2 : Int64} {mi_f : Nat → Int64} {l1 : Int32} {l2 : Int64} {l4 : Int64} {l6 : Int64} {l8 : Int64} {l10 : Int32} : lf_wk_X5_bound_103  β kx_  (fuel + 1) md_1 md_2 mi_f l1 l2 l4 l6 l8 l10 = (if 3 ≤ l10 then (kx_ md_1 md_2 mi_f l1 l2 l4 l6 l8 l10) else (if 0 < (lg_cmp (Int32.toInt64 l10) l2) then (kx_ md_1 md_2 mi_f l1 l2 l4 l6 l8 l10) else (if (lg_cmp l2 (Int32.toInt64 l10)) ≤ 0 then (fn_wk_X5_move mi_f l1 l10 0 β (fun zmi_f_369 => (lf_wk_X5_bound_103  β kx_ fuel md_1 md_2 zmi_f_369 l1 l2 l4 l6 l8 (l10 + 1)))) else (fn_wk_X5_move mi_f l1 l10 1 β (fun zmi_f_371 => (lf_wk_X5_bound_103  β kx_ fuel md_1 md_2 zmi_f_371 l1 l2 l4 l6 l8 (l10 + 1))))))) := rfl
set_option maxRecDepth 100000 in
set_option maxHeartbeats 4000000 in
theorem lp_wk_X5_bound_103 (E : g_E) (md : Nat) (mi : Nat)  {X : g_X} {rr : (β : Type) → (Int64 → Int64 → (Nat → Int64) → β) → β} (kx_ : (β : Type) → (Int64 → Int64 → (Nat → Int64) → β) → Int64 → Int64 → (Nat → Int64) → Int32 → Int64 → Int64 → Int64 → Int64 → Int32 → β) (B : Bd E X cX5_bound RX5 11 2 45 0 0) (hr : Rt E X none 0 0 (fun v_ w_ => ∃ zmd_1 : Int64, ∃ zmd_2 : Int64, ∃ zmi_f : Nat → Int64, (∀ (β : Type) (k_ : Int64 → Int64 → (Nat → Int64) → β), rr β k_ = k_ zmd_1 zmd_2 zmi_f) ∧ v_ = none ∧ w_ = [(md, .inr (5, [.ref mi, .long zmd_1, .long zmd_2])), (mi, .inl (E.2.2.1 3, 6, .inr (.inl zmi_f)))])) (K : ∀ (md_1 : Int64) (md_2 : Int64) (mi_f : Nat → Int64) (l1 : Int32) (l2 : Int64) (l4 : Int64) (l6 : Int64) (l8 : Int64) (l10 : Int32), (∀ (β : Type) (k_ : Int64 → Int64 → (Nat → Int64) → β), rr β k_ = kx_ β k_ md_1 md_2 mi_f l1 l2 l4 l6 l8 l10) → G E X 11 [(md, .inr (5, [.ref mi, .long md_1, .long md_2])), (mi, .inl (E.2.2.1 3, 6, .inr (.inl mi_f)))] 0 0 [(0, .ref md), (1, .int l1), (2, .long l2), (4, .long l4), (6, .long l6), (8, .long l8), (10, .int l10)] 143 []) : ∀ (n : Nat) (md_1 : Int64) (md_2 : Int64) (mi_f : Nat → Int64) (l1 : Int32) (l2 : Int64) (l4 : Int64) (l6 : Int64) (l8 : Int64) (l10 : Int32), (Int32.toInt 3 - Int32.toInt l10).toNat < n → (∀ (β : Type) (k_ : Int64 → Int64 → (Nat → Int64) → β), rr β k_ = lf_wk_X5_bound_103  β (kx_ β k_) n md_1 md_2 mi_f l1 l2 l4 l6 l8 l10) → G E X 11 [(md, .inr (5, [.ref mi, .long md_1, .long md_2])), (mi, .inl (E.2.2.1 3, 6, .inr (.inl mi_f)))] 0 0 [(0, .ref md), (1, .int l1), (2, .long l2), (4, .long l4), (6, .long l6), (8, .long l8), (10, .int l10)] 103 [] := by
  intro n
  induction n with
  | zero => intro md_1 md_2 mi_f l1 l2 l4 l6 l8 l10 h _; exact absurd h (Nat.not_lt_zero _)
  | succ n ih =>
    intro md_1 md_2 mi_f l1 l2 l4 l6 l8 l10 hm e_
    replace e_ := fun β k_ => (e_ β k_).trans lf_wk_X5_bound_103_s
    refine g_iload B dX5_bound_103 6 rfl ?_
    refine g_iconst (v := 3) B dX5_bound_105 (by decide) ?_
    refine g_icmp_ge (tgt := 143) B dX5_bound_106 (by decide) (fun c106_366 => ?_) (fun c106_366 => ?_)
    · replace e_ := fun β k_ => (e_ β k_).trans (if_pos c106_366)
      exact K md_1 md_2 mi_f l1 l2 l4 l6 l8 l10 e_
    · replace e_ := fun β k_ => (e_ β k_).trans (if_neg c106_366)
      refine g_iload B dX5_bound_109 6 rfl ?_
      refine g_i2l B dX5_bound_111 ?_
      refine g_lload_n B dX5_bound_112 rfl 2 rfl ?_
      refine g_lcmp B dX5_bound_113 ?_
      refine g_if_gt (tgt := 143) B dX5_bound_114 (by decide) (fun c114_367 => ?_) (fun c114_367 => ?_)
      · replace e_ := fun β k_ => (e_ β k_).trans (if_pos c114_367)
        exact K md_1 md_2 mi_f l1 l2 l4 l6 l8 l10 e_
      · replace e_ := fun β k_ => (e_ β k_).trans (if_neg c114_367)
        refine g_aload_n B dX5_bound_117 rfl 0 rfl ?_
        refine g_iload_n B dX5_bound_118 rfl 1 rfl ?_
        refine g_iload B dX5_bound_119 6 rfl ?_
        refine g_lload_n B dX5_bound_121 rfl 2 rfl ?_
        refine g_iload B dX5_bound_122 6 rfl ?_
        refine g_i2l B dX5_bound_124 ?_
        refine g_lcmp B dX5_bound_125 ?_
        refine g_if_le (tgt := 133) B dX5_bound_126 (by decide) (fun c126_368 => ?_) (fun c126_368 => ?_)
        · replace e_ := fun β k_ => (e_ β k_).trans (if_pos c126_368)
          refine g_iconst (v := 0) B dX5_bound_133 (by decide) ?_
          refine g_callV (st := []) (As := [.int l1, .int l10, .int 0]) (wr := []) (nc' := 0) (ns' := 0) B cl_X5_37 w_im_X5_move w_se_X5_move (wk_X5_move E md mi md_1 md_2 mi_f l1 l10 0 ) rfl [0, 1] [] rfl rfl (by decide) (by decide) (by decide) 0 rfl (fun q h => by cases h; rfl) rfl ⟨by decide, by decide⟩ rfl rfl (by decide) (by decide) rfl (Nat.le_of_ble_eq_true rfl) dX5_bound_134 (fun v w hq => ?_)
          obtain ⟨zmi_f_369, hz_370, rfl, rfl⟩ := hq
          replace e_ := fun β k_ => (e_ β k_).trans (hz_370 β _)
          show G E X 11 [(md, .inr (5, [.ref mi, .long md_1, .long md_2])), (mi, .inl (E.2.2.1 3, 6, .inr (.inl zmi_f_369)))] 0 0 [(0, .ref md), (1, .int l1), (2, .long l2), (4, .long l4), (6, .long l6), (8, .long l8), (10, .int l10)] 137 []
          refine g_iinc (v := (l10 + 1)) (lv' := [(10, .int (l10 + 1)), (0, .ref md), (1, .int l1), (2, .long l2), (4, .long l4), (6, .long l6), (8, .long l8)]) B dX5_bound_137 6 rfl rfl (by decide) rfl ?_
          refine g_goto (tgt := 103) B dX5_bound_140 (by decide) ?_
          refine g_lvsub (lv' := [(0, .ref md), (1, .int l1), (2, .long l2), (4, .long l4), (6, .long l6), (8, .long l8), (10, .int (l10 + 1))]) [1, 2, 3, 4, 5, 6, 0] rfl ?_
          exact ih md_1 md_2 zmi_f_369 l1 l2 l4 l6 l8 (l10 + 1)  (Nat.lt_of_lt_of_le (st_up (o_2 c106_366)) (Nat.le_of_lt_succ hm)) e_
        · replace e_ := fun β k_ => (e_ β k_).trans (if_neg c126_368)
          refine g_iconst (v := 1) B dX5_bound_129 (by decide) ?_
          refine g_goto (tgt := 134) B dX5_bound_130 (by decide) ?_
          refine g_callV (st := []) (As := [.int l1, .int l10, .int 1]) (wr := []) (nc' := 0) (ns' := 0) B cl_X5_37 w_im_X5_move w_se_X5_move (wk_X5_move E md mi md_1 md_2 mi_f l1 l10 1 ) rfl [0, 1] [] rfl rfl (by decide) (by decide) (by decide) 0 rfl (fun q h => by cases h; rfl) rfl ⟨by decide, by decide⟩ rfl rfl (by decide) (by decide) rfl (Nat.le_of_ble_eq_true rfl) dX5_bound_134 (fun v w hq => ?_)
          obtain ⟨zmi_f_371, hz_372, rfl, rfl⟩ := hq
          replace e_ := fun β k_ => (e_ β k_).trans (hz_372 β _)
          show G E X 11 [(md, .inr (5, [.ref mi, .long md_1, .long md_2])), (mi, .inl (E.2.2.1 3, 6, .inr (.inl zmi_f_371)))] 0 0 [(0, .ref md), (1, .int l1), (2, .long l2), (4, .long l4), (6, .long l6), (8, .long l8), (10, .int l10)] 137 []
          refine g_iinc (v := (l10 + 1)) (lv' := [(10, .int (l10 + 1)), (0, .ref md), (1, .int l1), (2, .long l2), (4, .long l4), (6, .long l6), (8, .long l8)]) B dX5_bound_137 6 rfl rfl (by decide) rfl ?_
          refine g_goto (tgt := 103) B dX5_bound_140 (by decide) ?_
          refine g_lvsub (lv' := [(0, .ref md), (1, .int l1), (2, .long l2), (4, .long l4), (6, .long l6), (8, .long l8), (10, .int (l10 + 1))]) [1, 2, 3, 4, 5, 6, 0] rfl ?_
          exact ih md_1 md_2 zmi_f_371 l1 l2 l4 l6 l8 (l10 + 1)  (Nat.lt_of_lt_of_le (st_up (o_2 c106_366)) (Nat.le_of_lt_succ hm)) e_
theorem dX5_bound_143 : decode cX5_bound 143 = .ok (.return_, 1) := by decide +kernel
theorem dX5_bound_55 : decode cX5_bound 55 = .ok (.aload_n 0, 1) := by decide +kernel
theorem dX5_bound_56 : decode cX5_bound 56 = .ok (.lload 4, 2) := by decide +kernel
theorem dX5_bound_58 : decode cX5_bound 58 = .ok (.putfield 15, 3) := by decide +kernel
theorem dX5_bound_61 : decode cX5_bound 61 = .ok (.aload_n 0, 1) := by decide +kernel
theorem dX5_bound_62 : decode cX5_bound 62 = .ok (.lload 6, 2) := by decide +kernel
theorem dX5_bound_64 : decode cX5_bound 64 = .ok (.lconst 1, 1) := by decide +kernel
theorem dX5_bound_65 : decode cX5_bound 65 = .ok (.lsub, 1) := by decide +kernel
theorem dX5_bound_66 : decode cX5_bound 66 = .ok (.putfield 19, 3) := by decide +kernel
theorem dX5_bound_69 : decode cX5_bound 69 = .ok (.goto 31, 3) := by decide +kernel
theorem dX5_bound_33 : decode cX5_bound 33 = .ok (.aload_n 0, 1) := by decide +kernel
theorem dX5_bound_34 : decode cX5_bound 34 = .ok (.lconst 0, 1) := by decide +kernel
theorem dX5_bound_35 : decode cX5_bound 35 = .ok (.putfield 15, 3) := by decide +kernel
theorem dX5_bound_38 : decode cX5_bound 38 = .ok (.aload_n 0, 1) := by decide +kernel
theorem dX5_bound_39 : decode cX5_bound 39 = .ok (.lload 4, 2) := by decide +kernel
theorem dX5_bound_41 : decode cX5_bound 41 = .ok (.lconst 1, 1) := by decide +kernel
theorem dX5_bound_42 : decode cX5_bound 42 = .ok (.lsub, 1) := by decide +kernel
theorem dX5_bound_43 : decode cX5_bound 43 = .ok (.putfield 19, 3) := by decide +kernel
theorem dX5_bound_46 : decode cX5_bound 46 = .ok (.goto 54, 3) := by decide +kernel
set_option maxRecDepth 100000 in
def fn_wk_X5_bound (mi_f : Nat → Int64) (ch : Int32) (on : Int64) (β : Type) (k_ : Int64 → Int64 → (Nat → Int64) → β) : β := (fn_wk_X5_share mi_f ch 0 β (fun zr_358 => (fn_wk_X5_share mi_f ch 1 β (fun zr_360 => (fn_wk_X5_share mi_f ch 2 β (fun zr_362 => (if (lg_cmp on 0) = 0 then (lf_wk_X5_bound_103  β (fun y_375md_1 y_375md_2 y_375mi_f y_375l1 y_375l2 y_375l4 y_375l6 y_375l8 y_375l10 => (k_ y_375md_1 y_375md_2 y_375mi_f)) ((Int32.toInt 3 - Int32.toInt 0).toNat + 1) 0 (zr_358 - 1) mi_f ch on zr_358 (zr_358 + zr_360) zr_362 0) else (if (lg_cmp on 1) = 0 then (lf_wk_X5_bound_103  β (fun y_374md_1 y_374md_2 y_374mi_f y_374l1 y_374l2 y_374l4 y_374l6 y_374l8 y_374l10 => (k_ y_374md_1 y_374md_2 y_374mi_f)) ((Int32.toInt 3 - Int32.toInt 0).toNat + 1) zr_358 ((zr_358 + zr_360) - 1) mi_f ch on zr_358 (zr_358 + zr_360) zr_362 0) else (lf_wk_X5_bound_103  β (fun y_373md_1 y_373md_2 y_373mi_f y_373l1 y_373l2 y_373l4 y_373l6 y_373l8 y_373l10 => (k_ y_373md_1 y_373md_2 y_373mi_f)) ((Int32.toInt 3 - Int32.toInt 0).toNat + 1) ((zr_358 + zr_360) + ((on - 2) * zr_362)) ((((zr_358 + zr_360) + ((on - 2) * zr_362)) + zr_362) - 1) mi_f ch on zr_358 (zr_358 + zr_360) zr_362 0)))))))))
set_option maxRecDepth 100000 in
theorem fn_wk_X5_bound_s {mi_f : Nat → Int64} {ch : Int32} {on : Int64} {β : Type} {k_ : Int64 → Int64 → (Nat → Int64) → β} : fn_wk_X5_bound mi_f ch on β k_ = (fn_wk_X5_share mi_f ch 0 β (fun zr_358 => (fn_wk_X5_share mi_f ch 1 β (fun zr_360 => (fn_wk_X5_share mi_f ch 2 β (fun zr_362 => (if (lg_cmp on 0) = 0 then (lf_wk_X5_bound_103  β (fun y_375md_1 y_375md_2 y_375mi_f y_375l1 y_375l2 y_375l4 y_375l6 y_375l8 y_375l10 => (k_ y_375md_1 y_375md_2 y_375mi_f)) ((Int32.toInt 3 - Int32.toInt 0).toNat + 1) 0 (zr_358 - 1) mi_f ch on zr_358 (zr_358 + zr_360) zr_362 0) else (if (lg_cmp on 1) = 0 then (lf_wk_X5_bound_103  β (fun y_374md_1 y_374md_2 y_374mi_f y_374l1 y_374l2 y_374l4 y_374l6 y_374l8 y_374l10 => (k_ y_374md_1 y_374md_2 y_374mi_f)) ((Int32.toInt 3 - Int32.toInt 0).toNat + 1) zr_358 ((zr_358 + zr_360) - 1) mi_f ch on zr_358 (zr_358 + zr_360) zr_362 0) else (lf_wk_X5_bound_103  β (fun y_373md_1 y_373md_2 y_373mi_f y_373l1 y_373l2 y_373l4 y_373l6 y_373l8 y_373l10 => (k_ y_373md_1 y_373md_2 y_373mi_f)) ((Int32.toInt 3 - Int32.toInt 0).toNat + 1) ((zr_358 + zr_360) + ((on - 2) * zr_362)) ((((zr_358 + zr_360) + ((on - 2) * zr_362)) + zr_362) - 1) mi_f ch on zr_358 (zr_358 + zr_360) zr_362 0))))))))) := rfl
set_option maxRecDepth 100000 in
set_option maxHeartbeats 4000000 in
theorem wk_X5_bound (E : g_E) (md : Nat) (mi : Nat) (md_1 : Int64) (md_2 : Int64) (mi_f : Nat → Int64) (ch : Int32) (on : Int64)  : Ev E MX5_bound 2 45 0 0 [.ref md, .int ch, .long on] [(md, .inr (5, [.ref mi, .long md_1, .long md_2])), (mi, .inl (E.2.2.1 3, 6, .inr (.inl mi_f)))] (fun v_ w_ => ∃ zmd_1 : Int64, ∃ zmd_2 : Int64, ∃ zmi_f : Nat → Int64, (∀ (β : Type) (k_ : Int64 → Int64 → (Nat → Int64) → β), fn_wk_X5_bound mi_f ch on β k_ = k_ zmd_1 zmd_2 zmi_f) ∧ v_ = none ∧ w_ = [(md, .inr (5, [.ref mi, .long zmd_1, .long zmd_2])), (mi, .inl (E.2.2.1 3, 6, .inr (.inl zmi_f)))]) := by
  refine Ev.intro (by decide) (Nat.le_of_ble_eq_true rfl) ?_
  intro X B hr hI
  have B : Bd E X cX5_bound RX5 11 2 45 0 0 := B
  have hr : Rt E X none 0 0 (fun v_ w_ => ∃ zmd_1 : Int64, ∃ zmd_2 : Int64, ∃ zmi_f : Nat → Int64, (∀ (β : Type) (k_ : Int64 → Int64 → (Nat → Int64) → β), fn_wk_X5_bound mi_f ch on β k_ = k_ zmd_1 zmd_2 zmi_f) ∧ v_ = none ∧ w_ = [(md, .inr (5, [.ref mi, .long zmd_1, .long zmd_2])), (mi, .inl (E.2.2.1 3, 6, .inr (.inl zmi_f)))]) := hr
  have e_ := fun (β : Type) (k_ : Int64 → Int64 → (Nat → Int64) → β) => fn_wk_X5_bound_s (β := β) (k_ := k_) (mi_f := mi_f) (ch := ch) (on := on)
  show G E X 11 [(md, .inr (5, [.ref mi, .long md_1, .long md_2])), (mi, .inl (E.2.2.1 3, 6, .inr (.inl mi_f)))] 0 0 [(0, .ref md), (1, .int ch), (2, .long on)] 0 []
  refine g_aload_n B dX5_bound_0 rfl 0 rfl ?_
  refine g_iload_n B dX5_bound_1 rfl 1 rfl ?_
  refine g_iconst (v := 0) B dX5_bound_2 (by decide) ?_
  refine g_callV (st := []) (As := [.int ch, .int 0]) (wr := []) (nc' := 0) (ns' := 0) B cl_X5_32 w_im_X5_share w_se_X5_share (wk_X5_share E md mi md_1 md_2 mi_f ch 0 ) rfl [0, 1] [] rfl rfl (by decide) (by decide) (by decide) 0 rfl (fun q h => by cases h; rfl) rfl ⟨by decide, by decide⟩ rfl rfl (by decide) (by decide) rfl (Nat.le_of_ble_eq_true rfl) dX5_bound_3 (fun v w hq => ?_)
  obtain ⟨zr_358, hz_359, rfl, rfl⟩ := hq
  replace e_ := fun β k_ => (e_ β k_).trans (hz_359 β _)
  show G E X 11 [(md, .inr (5, [.ref mi, .long md_1, .long md_2])), (mi, .inl (E.2.2.1 3, 6, .inr (.inl mi_f)))] 0 0 [(0, .ref md), (1, .int ch), (2, .long on)] 6 [.long zr_358]
  refine g_lstore (lv' := [(4, .long zr_358), (0, .ref md), (1, .int ch), (2, .long on)]) B dX5_bound_6 (by decide) rfl ?_
  refine g_lload B dX5_bound_8 0 rfl ?_
  refine g_aload_n B dX5_bound_10 rfl 1 rfl ?_
  refine g_iload_n B dX5_bound_11 rfl 2 rfl ?_
  refine g_iconst (v := 1) B dX5_bound_12 (by decide) ?_
  refine g_callV (st := [.long zr_358]) (As := [.int ch, .int 1]) (wr := []) (nc' := 0) (ns' := 0) B cl_X5_32 w_im_X5_share w_se_X5_share (wk_X5_share E md mi md_1 md_2 mi_f ch 1 ) rfl [0, 1] [] rfl rfl (by decide) (by decide) (by decide) 0 rfl (fun q h => by cases h; rfl) rfl ⟨by decide, by decide⟩ rfl rfl (by decide) (by decide) rfl (Nat.le_of_ble_eq_true rfl) dX5_bound_13 (fun v w hq => ?_)
  obtain ⟨zr_360, hz_361, rfl, rfl⟩ := hq
  replace e_ := fun β k_ => (e_ β k_).trans (hz_361 β _)
  show G E X 11 [(md, .inr (5, [.ref mi, .long md_1, .long md_2])), (mi, .inl (E.2.2.1 3, 6, .inr (.inl mi_f)))] 0 0 [(4, .long zr_358), (0, .ref md), (1, .int ch), (2, .long on)] 16 [.long zr_360, .long zr_358]
  refine g_ladd B dX5_bound_16 ?_
  refine g_lstore (lv' := [(6, .long (zr_358 + zr_360)), (4, .long zr_358), (0, .ref md), (1, .int ch), (2, .long on)]) B dX5_bound_17 (by decide) rfl ?_
  refine g_aload_n B dX5_bound_19 rfl 2 rfl ?_
  refine g_iload_n B dX5_bound_20 rfl 3 rfl ?_
  refine g_iconst (v := 2) B dX5_bound_21 (by decide) ?_
  refine g_callV (st := []) (As := [.int ch, .int 2]) (wr := []) (nc' := 0) (ns' := 0) B cl_X5_32 w_im_X5_share w_se_X5_share (wk_X5_share E md mi md_1 md_2 mi_f ch 2 ) rfl [0, 1] [] rfl rfl (by decide) (by decide) (by decide) 0 rfl (fun q h => by cases h; rfl) rfl ⟨by decide, by decide⟩ rfl rfl (by decide) (by decide) rfl (Nat.le_of_ble_eq_true rfl) dX5_bound_22 (fun v w hq => ?_)
  obtain ⟨zr_362, hz_363, rfl, rfl⟩ := hq
  replace e_ := fun β k_ => (e_ β k_).trans (hz_363 β _)
  show G E X 11 [(md, .inr (5, [.ref mi, .long md_1, .long md_2])), (mi, .inl (E.2.2.1 3, 6, .inr (.inl mi_f)))] 0 0 [(6, .long (zr_358 + zr_360)), (4, .long zr_358), (0, .ref md), (1, .int ch), (2, .long on)] 25 [.long zr_362]
  refine g_lstore (lv' := [(8, .long zr_362), (6, .long (zr_358 + zr_360)), (4, .long zr_358), (0, .ref md), (1, .int ch), (2, .long on)]) B dX5_bound_25 (by decide) rfl ?_
  refine g_lload_n B dX5_bound_27 rfl 5 rfl ?_
  refine g_lconst (v := 0) B dX5_bound_28 (by decide) ?_
  refine g_lcmp B dX5_bound_29 ?_
  refine g_if_ne (tgt := 49) B dX5_bound_30 (by decide) (fun c30_364 => ?_) (fun c30_364 => ?_)
  · replace e_ := fun β k_ => (e_ β k_).trans (if_neg c30_364)
    refine g_lload_n B dX5_bound_49 rfl 5 rfl ?_
    refine g_lconst (v := 1) B dX5_bound_50 (by decide) ?_
    refine g_lcmp B dX5_bound_51 ?_
    refine g_if_ne (tgt := 72) B dX5_bound_52 (by decide) (fun c52_365 => ?_) (fun c52_365 => ?_)
    · replace e_ := fun β k_ => (e_ β k_).trans (if_neg c52_365)
      refine g_aload_n B dX5_bound_72 rfl 3 rfl ?_
      refine g_lload B dX5_bound_73 1 rfl ?_
      refine g_lload_n B dX5_bound_75 rfl 5 rfl ?_
      refine g_ldc2 (v := 2) B w_k_X5_35 dX5_bound_76 ?_
      refine g_lsub B dX5_bound_79 ?_
      refine g_lload B dX5_bound_80 0 rfl ?_
      refine g_lmul B dX5_bound_82 ?_
      refine g_ladd B dX5_bound_83 ?_
      refine g_put (ws' := [(md, .inr (5, [.ref mi, .long ((zr_358 + zr_360) + ((on - 2) * zr_362)), .long md_2])), (mi, .inl (E.2.2.1 3, 6, .inr (.inl mi_f)))]) B 0 1 fl_X5_15 pf_X5_1 rfl (Nat.le_of_ble_eq_true rfl) rfl rfl rfl dX5_bound_84 ?_
      refine g_aload_n B dX5_bound_87 rfl 3 rfl ?_
      refine g_aload_n B dX5_bound_88 rfl 3 rfl ?_
      refine g_get B 0 1 fl_X5_15 rfl rfl dX5_bound_89 ?_
      refine g_lload B dX5_bound_92 0 rfl ?_
      refine g_ladd B dX5_bound_94 ?_
      refine g_lconst (v := 1) B dX5_bound_95 (by decide) ?_
      refine g_lsub B dX5_bound_96 ?_
      refine g_put (ws' := [(md, .inr (5, [.ref mi, .long ((zr_358 + zr_360) + ((on - 2) * zr_362)), .long ((((zr_358 + zr_360) + ((on - 2) * zr_362)) + zr_362) - 1)])), (mi, .inl (E.2.2.1 3, 6, .inr (.inl mi_f)))]) B 0 2 fl_X5_19 pf_X5_2 rfl (Nat.le_of_ble_eq_true rfl) rfl rfl rfl dX5_bound_97 ?_
      refine g_iconst (v := 0) B dX5_bound_100 (by decide) ?_
      refine g_istore (lv' := [(10, .int 0), (8, .long zr_362), (6, .long (zr_358 + zr_360)), (4, .long zr_358), (0, .ref md), (1, .int ch), (2, .long on)]) B dX5_bound_101 (by decide) rfl ?_
      refine g_lvsub (lv' := [(0, .ref md), (1, .int ch), (2, .long on), (4, .long zr_358), (6, .long (zr_358 + zr_360)), (8, .long zr_362), (10, .int 0)]) [4, 5, 6, 3, 2, 1, 0] rfl ?_
      refine lp_wk_X5_bound_103 E md mi  _ B hr (fun y_373md_1 y_373md_2 y_373mi_f y_373l1 y_373l2 y_373l4 y_373l6 y_373l8 y_373l10 e_ => ?_) _ ((zr_358 + zr_360) + ((on - 2) * zr_362)) ((((zr_358 + zr_360) + ((on - 2) * zr_362)) + zr_362) - 1) mi_f ch on zr_358 (zr_358 + zr_360) zr_362 0  (Nat.lt_succ_self _) e_
      exact g_vret B hr dX5_bound_143 (by decide) (by decide) ⟨y_373md_1, y_373md_2, y_373mi_f, e_, rfl, rfl⟩
    · replace e_ := fun β k_ => (e_ β k_).trans (if_pos c52_365)
      refine g_aload_n B dX5_bound_55 rfl 3 rfl ?_
      refine g_lload B dX5_bound_56 2 rfl ?_
      refine g_put (ws' := [(md, .inr (5, [.ref mi, .long zr_358, .long md_2])), (mi, .inl (E.2.2.1 3, 6, .inr (.inl mi_f)))]) B 0 1 fl_X5_15 pf_X5_1 rfl (Nat.le_of_ble_eq_true rfl) rfl rfl rfl dX5_bound_58 ?_
      refine g_aload_n B dX5_bound_61 rfl 3 rfl ?_
      refine g_lload B dX5_bound_62 1 rfl ?_
      refine g_lconst (v := 1) B dX5_bound_64 (by decide) ?_
      refine g_lsub B dX5_bound_65 ?_
      refine g_put (ws' := [(md, .inr (5, [.ref mi, .long zr_358, .long ((zr_358 + zr_360) - 1)])), (mi, .inl (E.2.2.1 3, 6, .inr (.inl mi_f)))]) B 0 2 fl_X5_19 pf_X5_2 rfl (Nat.le_of_ble_eq_true rfl) rfl rfl rfl dX5_bound_66 ?_
      refine g_goto (tgt := 100) B dX5_bound_69 (by decide) ?_
      refine g_iconst (v := 0) B dX5_bound_100 (by decide) ?_
      refine g_istore (lv' := [(10, .int 0), (8, .long zr_362), (6, .long (zr_358 + zr_360)), (4, .long zr_358), (0, .ref md), (1, .int ch), (2, .long on)]) B dX5_bound_101 (by decide) rfl ?_
      refine g_lvsub (lv' := [(0, .ref md), (1, .int ch), (2, .long on), (4, .long zr_358), (6, .long (zr_358 + zr_360)), (8, .long zr_362), (10, .int 0)]) [4, 5, 6, 3, 2, 1, 0] rfl ?_
      refine lp_wk_X5_bound_103 E md mi  _ B hr (fun y_374md_1 y_374md_2 y_374mi_f y_374l1 y_374l2 y_374l4 y_374l6 y_374l8 y_374l10 e_ => ?_) _ zr_358 ((zr_358 + zr_360) - 1) mi_f ch on zr_358 (zr_358 + zr_360) zr_362 0  (Nat.lt_succ_self _) e_
      exact g_vret B hr dX5_bound_143 (by decide) (by decide) ⟨y_374md_1, y_374md_2, y_374mi_f, e_, rfl, rfl⟩
  · replace e_ := fun β k_ => (e_ β k_).trans (if_pos c30_364)
    refine g_aload_n B dX5_bound_33 rfl 3 rfl ?_
    refine g_lconst (v := 0) B dX5_bound_34 (by decide) ?_
    refine g_put (ws' := [(md, .inr (5, [.ref mi, .long 0, .long md_2])), (mi, .inl (E.2.2.1 3, 6, .inr (.inl mi_f)))]) B 0 1 fl_X5_15 pf_X5_1 rfl (Nat.le_of_ble_eq_true rfl) rfl rfl rfl dX5_bound_35 ?_
    refine g_aload_n B dX5_bound_38 rfl 3 rfl ?_
    refine g_lload B dX5_bound_39 2 rfl ?_
    refine g_lconst (v := 1) B dX5_bound_41 (by decide) ?_
    refine g_lsub B dX5_bound_42 ?_
    refine g_put (ws' := [(md, .inr (5, [.ref mi, .long 0, .long (zr_358 - 1)])), (mi, .inl (E.2.2.1 3, 6, .inr (.inl mi_f)))]) B 0 2 fl_X5_19 pf_X5_2 rfl (Nat.le_of_ble_eq_true rfl) rfl rfl rfl dX5_bound_43 ?_
    refine g_goto (tgt := 100) B dX5_bound_46 (by decide) ?_
    refine g_iconst (v := 0) B dX5_bound_100 (by decide) ?_
    refine g_istore (lv' := [(10, .int 0), (8, .long zr_362), (6, .long (zr_358 + zr_360)), (4, .long zr_358), (0, .ref md), (1, .int ch), (2, .long on)]) B dX5_bound_101 (by decide) rfl ?_
    refine g_lvsub (lv' := [(0, .ref md), (1, .int ch), (2, .long on), (4, .long zr_358), (6, .long (zr_358 + zr_360)), (8, .long zr_362), (10, .int 0)]) [4, 5, 6, 3, 2, 1, 0] rfl ?_
    refine lp_wk_X5_bound_103 E md mi  _ B hr (fun y_375md_1 y_375md_2 y_375mi_f y_375l1 y_375l2 y_375l4 y_375l6 y_375l8 y_375l10 e_ => ?_) _ 0 (zr_358 - 1) mi_f ch on zr_358 (zr_358 + zr_360) zr_362 0  (Nat.lt_succ_self _) e_
    exact g_vret B hr dX5_bound_143 (by decide) (by decide) ⟨y_375md_1, y_375md_2, y_375mi_f, e_, rfl, rfl⟩
