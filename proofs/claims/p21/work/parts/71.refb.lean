abbrev MX11_base : g_M := (yX11_base, cX11_base, 6, (some .int))
theorem dX11_base_0 : decode cX11_base 0 = .ok (.aload_n 0, 1) := by decide +kernel
theorem dX11_base_1 : decode cX11_base 1 = .ok (.getfield 42, 3) := by decide +kernel
theorem dX11_base_4 : decode cX11_base 4 = .ok (.iload_n 1, 1) := by decide +kernel
theorem dX11_base_5 : decode cX11_base 5 = .ok (.iaload, 1) := by decide +kernel
theorem dX11_base_6 : decode cX11_base 6 = .ok (.istore_n 3, 1) := by decide +kernel
theorem dX11_base_7 : decode cX11_base 7 = .ok (.iload_n 3, 1) := by decide +kernel
theorem dX11_base_8 : decode cX11_base 8 = .ok (.ifCond .le 19, 3) := by decide +kernel
theorem dX11_base_27 : decode cX11_base 27 = .ok (.aload_n 0, 1) := by decide +kernel
theorem dX11_base_28 : decode cX11_base 28 = .ok (.iload_n 1, 1) := by decide +kernel
theorem dX11_base_29 : decode cX11_base 29 = .ok (.iload_n 2, 1) := by decide +kernel
theorem dX11_base_30 : decode cX11_base 30 = .ok (.iconst 0, 1) := by decide +kernel
theorem dX11_base_31 : decode cX11_base 31 = .ok (.invokevirtual 114, 3) := by decide +kernel
theorem w_ml_X11_114 : Cond.methodLink RX11 114 yX11_input ∈ g_tbl := g_tbl_in 1087 (by decide +kernel) (by decide +kernel)
theorem w_cd_X11_input : g_cw MX11_input ∈ g_tbl := g_tbl_in 1090 (by decide +kernel) (by decide +kernel)
theorem w_ini_X11 : Cond.initialized RX11 ∈ g_tbl := g_tbl_in 80 (by decide +kernel) (by decide +kernel)
theorem cl_X11_114 : CL RX11 114 3 MX11_input := ⟨w_ml_X11_114, w_cd_X11_input, w_ini_X11, by decide +kernel, by decide +kernel, by decide +kernel⟩
theorem w_im_X11_input : Cond.instanceMethod yX11_input ∈ g_tbl := g_tbl_in 1089 (by decide +kernel) (by decide +kernel)
theorem w_se_X11_input : Cond.selects RX11 yX11_input yX11_input ∈ g_tbl := g_tbl_in 38 (by decide +kernel) (by decide +kernel)
theorem dX11_base_34 : decode cX11_base 34 = .ok (.istore 4, 2) := by decide +kernel
theorem dX11_base_36 : decode cX11_base 36 = .ok (.aload_n 0, 1) := by decide +kernel
theorem dX11_base_37 : decode cX11_base 37 = .ok (.iload_n 1, 1) := by decide +kernel
theorem dX11_base_38 : decode cX11_base 38 = .ok (.iload_n 2, 1) := by decide +kernel
theorem dX11_base_39 : decode cX11_base 39 = .ok (.iconst 1, 1) := by decide +kernel
theorem dX11_base_40 : decode cX11_base 40 = .ok (.invokevirtual 114, 3) := by decide +kernel
theorem dX11_base_43 : decode cX11_base 43 = .ok (.istore 5, 2) := by decide +kernel
theorem dX11_base_45 : decode cX11_base 45 = .ok (.iload_n 3, 1) := by decide +kernel
theorem dX11_base_46 : decode cX11_base 46 = .ok (.bipush 17, 2) := by decide +kernel
theorem dX11_base_48 : decode cX11_base 48 = .ok (.if_icmp .ne 11, 3) := by decide +kernel
theorem dX11_base_59 : decode cX11_base 59 = .ok (.iload_n 3, 1) := by decide +kernel
theorem dX11_base_60 : decode cX11_base 60 = .ok (.bipush 18, 2) := by decide +kernel
theorem dX11_base_62 : decode cX11_base 62 = .ok (.if_icmp .ne 14, 3) := by decide +kernel
theorem dX11_base_76 : decode cX11_base 76 = .ok (.aload_n 0, 1) := by decide +kernel
theorem dX11_base_77 : decode cX11_base 77 = .ok (.getfield 118, 3) := by decide +kernel
theorem w_fl_X11_118 : Cond.fieldLink RX11 118 (TX11 15).1 (TX11 15).2.1 (TX11 15).2.2.1 ∈ g_tbl := g_tbl_in 895 (by decide +kernel) (by decide +kernel)
theorem fl_X11_118 : FL RX11 118 11 15 := ⟨RX11, TX11, 50, rfl, by decide, inX_X11, w_fl_X11_118⟩
theorem dX11_base_80 : decode cX11_base 80 = .ok (.iconst 1, 1) := by decide +kernel
theorem dX11_base_81 : decode cX11_base 81 = .ok (.if_icmp .ne 5, 3) := by decide +kernel
theorem dX11_base_86 : decode cX11_base 86 = .ok (.iload_n 2, 1) := by decide +kernel
theorem dX11_base_87 : decode cX11_base 87 = .ok (.ifCond .ne 11, 3) := by decide +kernel
theorem dX11_base_98 : decode cX11_base 98 = .ok (.aload_n 0, 1) := by decide +kernel
theorem dX11_base_99 : decode cX11_base 99 = .ok (.iload_n 1, 1) := by decide +kernel
theorem dX11_base_100 : decode cX11_base 100 = .ok (.iconst 0, 1) := by decide +kernel
theorem dX11_base_101 : decode cX11_base 101 = .ok (.iload_n 3, 1) := by decide +kernel
theorem dX11_base_102 : decode cX11_base 102 = .ok (.iconst (-1), 1) := by decide +kernel
theorem dX11_base_103 : decode cX11_base 103 = .ok (.if_icmp .ne 7, 3) := by decide +kernel
theorem dX11_base_110 : decode cX11_base 110 = .ok (.iconst 1, 1) := by decide +kernel
theorem dX11_base_111 : decode cX11_base 111 = .ok (.invokevirtual 114, 3) := by decide +kernel
theorem dX11_base_114 : decode cX11_base 114 = .ok (.ireturn, 1) := by decide +kernel
theorem dX11_base_106 : decode cX11_base 106 = .ok (.iconst 0, 1) := by decide +kernel
theorem dX11_base_107 : decode cX11_base 107 = .ok (.goto 4, 3) := by decide +kernel
theorem dX11_base_90 : decode cX11_base 90 = .ok (.aload_n 0, 1) := by decide +kernel
theorem dX11_base_91 : decode cX11_base 91 = .ok (.iload_n 1, 1) := by decide +kernel
theorem dX11_base_92 : decode cX11_base 92 = .ok (.iconst 1, 1) := by decide +kernel
theorem dX11_base_93 : decode cX11_base 93 = .ok (.iconst 0, 1) := by decide +kernel
theorem dX11_base_94 : decode cX11_base 94 = .ok (.invokevirtual 114, 3) := by decide +kernel
theorem dX11_base_97 : decode cX11_base 97 = .ok (.ireturn, 1) := by decide +kernel
theorem dX11_base_84 : decode cX11_base 84 = .ok (.iconst 0, 1) := by decide +kernel
theorem dX11_base_85 : decode cX11_base 85 = .ok (.ireturn, 1) := by decide +kernel
theorem dX11_base_65 : decode cX11_base 65 = .ok (.iload 4, 2) := by decide +kernel
theorem dX11_base_67 : decode cX11_base 67 = .ok (.iload 4, 2) := by decide +kernel
theorem dX11_base_69 : decode cX11_base 69 = .ok (.iload 5, 2) := by decide +kernel
theorem dX11_base_71 : decode cX11_base 71 = .ok (.isub, 1) := by decide +kernel
theorem dX11_base_72 : decode cX11_base 72 = .ok (.iconst 1, 1) := by decide +kernel
theorem dX11_base_73 : decode cX11_base 73 = .ok (.ishr, 1) := by decide +kernel
theorem dX11_base_74 : decode cX11_base 74 = .ok (.iadd, 1) := by decide +kernel
theorem dX11_base_75 : decode cX11_base 75 = .ok (.ireturn, 1) := by decide +kernel
theorem dX11_base_51 : decode cX11_base 51 = .ok (.iconst 2, 1) := by decide +kernel
theorem dX11_base_52 : decode cX11_base 52 = .ok (.iload 4, 2) := by decide +kernel
theorem dX11_base_54 : decode cX11_base 54 = .ok (.imul, 1) := by decide +kernel
theorem dX11_base_55 : decode cX11_base 55 = .ok (.iload 5, 2) := by decide +kernel
theorem dX11_base_57 : decode cX11_base 57 = .ok (.isub, 1) := by decide +kernel
theorem dX11_base_58 : decode cX11_base 58 = .ok (.ireturn, 1) := by decide +kernel
theorem dX11_base_11 : decode cX11_base 11 = .ok (.iload_n 3, 1) := by decide +kernel
theorem dX11_base_12 : decode cX11_base 12 = .ok (.bipush 9, 2) := by decide +kernel
theorem dX11_base_14 : decode cX11_base 14 = .ok (.if_icmp .ge 13, 3) := by decide +kernel
theorem dX11_base_17 : decode cX11_base 17 = .ok (.aload_n 0, 1) := by decide +kernel
theorem dX11_base_18 : decode cX11_base 18 = .ok (.iload_n 1, 1) := by decide +kernel
theorem dX11_base_19 : decode cX11_base 19 = .ok (.iload_n 2, 1) := by decide +kernel
theorem dX11_base_20 : decode cX11_base 20 = .ok (.iload_n 3, 1) := by decide +kernel
theorem dX11_base_21 : decode cX11_base 21 = .ok (.iconst 1, 1) := by decide +kernel
theorem dX11_base_22 : decode cX11_base 22 = .ok (.isub, 1) := by decide +kernel
theorem dX11_base_23 : decode cX11_base 23 = .ok (.invokevirtual 114, 3) := by decide +kernel
theorem dX11_base_26 : decode cX11_base 26 = .ok (.ireturn, 1) := by decide +kernel
set_option maxRecDepth 100000 in
def fn_wr_X11_base (m_15 : Nat) (r16_f : Nat → Int32) (r19_f : Nat → Int32) (pa : Nat) (ch : Nat) (β : Type) (k_ : Int32 → β) : β := (fnL (r16_f pa) (fun x_2117 => (if x_2117 ≤ 0 then (fn_wr_X11_input r19_f pa ch 0 β (fun zr_2119 => (fn_wr_X11_input r19_f pa ch 1 β (fun zr_2121 => (if x_2117 = 17 then (k_ ((2 * zr_2119) - zr_2121)) else (if x_2117 = 18 then (k_ (zr_2119 + ((zr_2119 - zr_2121) >>> (1 &&& 31)))) else (if m_15 = 1 then (k_ 0) else (if ch = 0 then (fn_wr_X11_input r19_f pa 1 0 β (fun zr_2136 => (k_ zr_2136))) else (if x_2117 = (-1) then (fn_wr_X11_input r19_f pa 0 0 β (fun zr_2134 => (k_ zr_2134))) else (fn_wr_X11_input r19_f pa 0 1 β (fun zr_2132 => (k_ zr_2132)))))))))))) else (if 9 ≤ x_2117 then (fn_wr_X11_input r19_f pa ch 0 β (fun zr_2139 => (fn_wr_X11_input r19_f pa ch 1 β (fun zr_2141 => (if x_2117 = 17 then (k_ ((2 * zr_2139) - zr_2141)) else (if x_2117 = 18 then (k_ (zr_2139 + ((zr_2139 - zr_2141) >>> (1 &&& 31)))) else (if m_15 = 1 then (k_ 0) else (if ch = 0 then (fn_wr_X11_input r19_f pa 1 0 β (fun zr_2156 => (k_ zr_2156))) else (if x_2117 = (-1) then (fn_wr_X11_input r19_f pa 0 0 β (fun zr_2154 => (k_ zr_2154))) else (fn_wr_X11_input r19_f pa 0 1 β (fun zr_2152 => (k_ zr_2152)))))))))))) else (fnL (Int32.toNatClampNeg x_2117) (fun j_2158 => (fn_wr_X11_input r19_f pa ch (j_2158 - 1) β (fun zr_2159 => (k_ zr_2159)))))))))
set_option maxRecDepth 100000 in
theorem fn_wr_X11_base_s {m_15 : Nat} {r16_f : Nat → Int32} {r19_f : Nat → Int32} {pa : Nat} {ch : Nat} {β : Type} {k_ : Int32 → β} : fn_wr_X11_base m_15 r16_f r19_f pa ch β k_ = (fnL (r16_f pa) (fun x_2117 => (if x_2117 ≤ 0 then (fn_wr_X11_input r19_f pa ch 0 β (fun zr_2119 => (fn_wr_X11_input r19_f pa ch 1 β (fun zr_2121 => (if x_2117 = 17 then (k_ ((2 * zr_2119) - zr_2121)) else (if x_2117 = 18 then (k_ (zr_2119 + ((zr_2119 - zr_2121) >>> (1 &&& 31)))) else (if m_15 = 1 then (k_ 0) else (if ch = 0 then (fn_wr_X11_input r19_f pa 1 0 β (fun zr_2136 => (k_ zr_2136))) else (if x_2117 = (-1) then (fn_wr_X11_input r19_f pa 0 0 β (fun zr_2134 => (k_ zr_2134))) else (fn_wr_X11_input r19_f pa 0 1 β (fun zr_2132 => (k_ zr_2132)))))))))))) else (if 9 ≤ x_2117 then (fn_wr_X11_input r19_f pa ch 0 β (fun zr_2139 => (fn_wr_X11_input r19_f pa ch 1 β (fun zr_2141 => (if x_2117 = 17 then (k_ ((2 * zr_2139) - zr_2141)) else (if x_2117 = 18 then (k_ (zr_2139 + ((zr_2139 - zr_2141) >>> (1 &&& 31)))) else (if m_15 = 1 then (k_ 0) else (if ch = 0 then (fn_wr_X11_input r19_f pa 1 0 β (fun zr_2156 => (k_ zr_2156))) else (if x_2117 = (-1) then (fn_wr_X11_input r19_f pa 0 0 β (fun zr_2154 => (k_ zr_2154))) else (fn_wr_X11_input r19_f pa 0 1 β (fun zr_2152 => (k_ zr_2152)))))))))))) else (fnL (Int32.toNatClampNeg x_2117) (fun j_2158 => (fn_wr_X11_input r19_f pa ch (j_2158 - 1) β (fun zr_2159 => (k_ zr_2159))))))))) := rfl
set_option maxRecDepth 100000 in
set_option maxHeartbeats 4000000 in
theorem wr_X11_base (E : g_E) (m : Nat) (r : Nat → Nat) (m_1 : Nat) (m_4 : Nat) (m_9 : Nat) (m_10 : Nat) (m_14 : Nat) (m_15 : Nat) (m_25 : Int32) (m_26 : Int32) (m_27 : Int64) (m_28 : Nat) (m_29 : Nat) (m_31 : Nat) (m_32 : Nat) (m_33 : Nat) (m_35 : Nat) (m_36 : Nat) (m_37 : Int32) (m_38 : Nat) (m_39 : Int32) (m_40 : Int32) (m_42 : Nat) (r16_f : Nat → Int32) (r19_f : Nat → Int32) (pa : Nat) (ch : Nat) (h0 : pa < 8) (h1 : ch < 2) (hb0 : m_15 ≤ 2) : Ev E MX11_base 1 23 0 0 [.ref m, .int (nI pa), .int (nI ch)] [(m, .inr (11, mkF r m_1 m_4 m_9 m_10 m_14 m_15 m_25 m_26 m_27 m_28 m_29 m_31 m_32 m_33 m_35 m_36 m_37 m_38 m_39 m_40 m_42)), ((r 16), .inl (E.2.2.1 0, 8, .inl r16_f)), ((r 19), .inl (E.2.2.1 0, 128, .inl r19_f))] (fun v_ w_ => ∃ zr : Int32, (∀ (β : Type) (k_ : Int32 → β), fn_wr_X11_base m_15 r16_f r19_f pa ch β k_ = k_ zr) ∧ v_ = some (.int zr) ∧ w_ = [(m, .inr (11, mkF r m_1 m_4 m_9 m_10 m_14 m_15 m_25 m_26 m_27 m_28 m_29 m_31 m_32 m_33 m_35 m_36 m_37 m_38 m_39 m_40 m_42)), ((r 16), .inl (E.2.2.1 0, 8, .inl r16_f)), ((r 19), .inl (E.2.2.1 0, 128, .inl r19_f))]) := by
  refine Ev.intro (by decide) (Nat.le_of_ble_eq_true rfl) ?_
  intro X B hr hI
  have B : Bd E X cX11_base RX11 6 1 23 0 0 := B
  have hr : Rt E X (some .int) 0 0 (fun v_ w_ => ∃ zr : Int32, (∀ (β : Type) (k_ : Int32 → β), fn_wr_X11_base m_15 r16_f r19_f pa ch β k_ = k_ zr) ∧ v_ = some (.int zr) ∧ w_ = [(m, .inr (11, mkF r m_1 m_4 m_9 m_10 m_14 m_15 m_25 m_26 m_27 m_28 m_29 m_31 m_32 m_33 m_35 m_36 m_37 m_38 m_39 m_40 m_42)), ((r 16), .inl (E.2.2.1 0, 8, .inl r16_f)), ((r 19), .inl (E.2.2.1 0, 128, .inl r19_f))]) := hr
  have e_ := fun (β : Type) (k_ : Int32 → β) => fn_wr_X11_base_s (β := β) (k_ := k_) (m_15 := m_15) (r16_f := r16_f) (r19_f := r19_f) (pa := pa) (ch := ch)
  show G E X 6 [(m, .inr (11, mkF r m_1 m_4 m_9 m_10 m_14 m_15 m_25 m_26 m_27 m_28 m_29 m_31 m_32 m_33 m_35 m_36 m_37 m_38 m_39 m_40 m_42)), ((r 16), .inl (E.2.2.1 0, 8, .inl r16_f)), ((r 19), .inl (E.2.2.1 0, 128, .inl r19_f))] 0 0 [(0, .ref m), (1, .int (nI pa)), (2, .int (nI ch))] 0 []
  refine g_aload_n B dX11_base_0 rfl 0 rfl ?_
  refine g_get B 0 16 fl_X11_42 rfl mf_16 dX11_base_1 ?_
  refine g_iload_n B dX11_base_4 rfl 1 rfl ?_
  refine g_iald B 1 rfl (vp_in_nI (by omega) (by omega)) dX11_base_5 ?_
  refine g_ri (x' := (r16_f pa)) (congrArg r16_f (nI_clamp (n := pa) (by omega))) ?_
  refine g_topi (fun x_2117 ex_2117 => ?_)
  replace e_ := fun β k_ => (e_ β k_).trans (fnL_eq (x := x_2117) ex_2117.symm _)
  refine g_istore_n (lv' := [(3, .int x_2117), (0, .ref m), (1, .int (nI pa)), (2, .int (nI ch))]) B dX11_base_6 rfl (by decide) rfl ?_
  refine g_iload_n B dX11_base_7 rfl 0 rfl ?_
  refine g_if_le (tgt := 27) B dX11_base_8 (by decide) (fun c8_2118 => ?_) (fun c8_2118 => ?_)
  · replace e_ := fun β k_ => (e_ β k_).trans (if_pos c8_2118)
    refine g_aload_n B dX11_base_27 rfl 1 rfl ?_
    refine g_iload_n B dX11_base_28 rfl 2 rfl ?_
    refine g_iload_n B dX11_base_29 rfl 3 rfl ?_
    refine g_iconst (v := 0) B dX11_base_30 (by decide) ?_
    refine g_callV (st := []) (As := [.int (nI pa), .int (nI ch), .int 0]) (wr := [((r 16), .inl (E.2.2.1 0, 8, .inl r16_f))]) (nc' := 0) (ns' := 0) B cl_X11_114 w_im_X11_input w_se_X11_input (wr_X11_input E m r m_1 m_4 m_9 m_10 m_14 m_15 m_25 m_26 m_27 m_28 m_29 m_31 m_32 m_33 m_35 m_36 m_37 m_38 m_39 m_40 m_42 r19_f pa ch 0 (by first | assumption | omega | decide | exact hCF _ (by omega)) (by first | assumption | omega | decide | exact hCF _ (by omega)) (by first | assumption | omega | decide | exact hCF _ (by omega))) rfl [0, 2] [1] rfl rfl (by decide) (by decide) (by decide) 0 rfl (fun q h => by cases h; rfl) rfl ⟨by decide, by decide⟩ rfl rfl (by decide) (by decide) rfl (Nat.le_of_ble_eq_true rfl) dX11_base_31 (fun v w hq => ?_)
    obtain ⟨zr_2119, hz_2120, rfl, rfl⟩ := hq
    replace e_ := fun β k_ => (e_ β k_).trans (hz_2120 β _)
    show G E X 6 [((r 16), .inl (E.2.2.1 0, 8, .inl r16_f)), (m, .inr (11, mkF r m_1 m_4 m_9 m_10 m_14 m_15 m_25 m_26 m_27 m_28 m_29 m_31 m_32 m_33 m_35 m_36 m_37 m_38 m_39 m_40 m_42)), ((r 19), .inl (E.2.2.1 0, 128, .inl r19_f))] 0 0 [(3, .int x_2117), (0, .ref m), (1, .int (nI pa)), (2, .int (nI ch))] 34 [.int zr_2119]
    refine g_istore (lv' := [(4, .int zr_2119), (3, .int x_2117), (0, .ref m), (1, .int (nI pa)), (2, .int (nI ch))]) B dX11_base_34 (by decide) rfl ?_
    refine g_aload_n B dX11_base_36 rfl 2 rfl ?_
    refine g_iload_n B dX11_base_37 rfl 3 rfl ?_
    refine g_iload_n B dX11_base_38 rfl 4 rfl ?_
    refine g_iconst (v := 1) B dX11_base_39 (by decide) ?_
    refine g_callV (st := []) (As := [.int (nI pa), .int (nI ch), .int 1]) (wr := [((r 16), .inl (E.2.2.1 0, 8, .inl r16_f))]) (nc' := 0) (ns' := 0) B cl_X11_114 w_im_X11_input w_se_X11_input (wr_X11_input E m r m_1 m_4 m_9 m_10 m_14 m_15 m_25 m_26 m_27 m_28 m_29 m_31 m_32 m_33 m_35 m_36 m_37 m_38 m_39 m_40 m_42 r19_f pa ch 1 (by first | assumption | omega | decide | exact hCF _ (by omega)) (by first | assumption | omega | decide | exact hCF _ (by omega)) (by first | assumption | omega | decide | exact hCF _ (by omega))) rfl [1, 2] [0] rfl rfl (by decide) (by decide) (by decide) 0 rfl (fun q h => by cases h; rfl) rfl ⟨by decide, by decide⟩ rfl rfl (by decide) (by decide) rfl (Nat.le_of_ble_eq_true rfl) dX11_base_40 (fun v w hq => ?_)
    obtain ⟨zr_2121, hz_2122, rfl, rfl⟩ := hq
    replace e_ := fun β k_ => (e_ β k_).trans (hz_2122 β _)
    show G E X 6 [((r 16), .inl (E.2.2.1 0, 8, .inl r16_f)), (m, .inr (11, mkF r m_1 m_4 m_9 m_10 m_14 m_15 m_25 m_26 m_27 m_28 m_29 m_31 m_32 m_33 m_35 m_36 m_37 m_38 m_39 m_40 m_42)), ((r 19), .inl (E.2.2.1 0, 128, .inl r19_f))] 0 0 [(4, .int zr_2119), (3, .int x_2117), (0, .ref m), (1, .int (nI pa)), (2, .int (nI ch))] 43 [.int zr_2121]
    refine g_istore (lv' := [(5, .int zr_2121), (4, .int zr_2119), (3, .int x_2117), (0, .ref m), (1, .int (nI pa)), (2, .int (nI ch))]) B dX11_base_43 (by decide) rfl ?_
    refine g_iload_n B dX11_base_45 rfl 2 rfl ?_
    refine g_bipush (v := 17) B dX11_base_46 (by decide) ?_
    refine g_icmp_ne (tgt := 59) B dX11_base_48 (by decide) (fun c48_2123 => ?_) (fun c48_2123 => ?_)
    · replace e_ := fun β k_ => (e_ β k_).trans (if_neg c48_2123)
      refine g_iload_n B dX11_base_59 rfl 2 rfl ?_
      refine g_bipush (v := 18) B dX11_base_60 (by decide) ?_
      refine g_icmp_ne (tgt := 76) B dX11_base_62 (by decide) (fun c62_2124 => ?_) (fun c62_2124 => ?_)
      · replace e_ := fun β k_ => (e_ β k_).trans (if_neg c62_2124)
        refine g_aload_n B dX11_base_76 rfl 3 rfl ?_
        refine g_get B 1 15 fl_X11_118 rfl mf_15 dX11_base_77 ?_
        refine g_iconst (v := 1) B dX11_base_80 (by decide) ?_
        refine g_icmp_ne (tgt := 86) B dX11_base_81 (by decide) (fun c81_2125 => ?_) (fun c81_2125 => ?_)
        · have hn_2126 : ¬ m_15 = 1 := fun q => c81_2125 ((nI_eq (a := m_15) (b := 1) (by omega) (by omega)).mpr q)
          replace e_ := fun β k_ => (e_ β k_).trans (if_neg hn_2126)
          refine g_iload_n B dX11_base_86 rfl 5 rfl ?_
          refine g_if_ne (tgt := 98) B dX11_base_87 (by decide) (fun c87_2128 => ?_) (fun c87_2128 => ?_)
          · have hn_2129 : ¬ ch = 0 := fun q => c87_2128 ((nI_eq (a := ch) (b := 0) (by omega) (by omega)).mpr q)
            replace e_ := fun β k_ => (e_ β k_).trans (if_neg hn_2129)
            refine g_aload_n B dX11_base_98 rfl 3 rfl ?_
            refine g_iload_n B dX11_base_99 rfl 4 rfl ?_
            refine g_iconst (v := 0) B dX11_base_100 (by decide) ?_
            refine g_iload_n B dX11_base_101 rfl 2 rfl ?_
            refine g_iconst (v := (-1)) B dX11_base_102 (by decide) ?_
            refine g_icmp_ne (tgt := 110) B dX11_base_103 (by decide) (fun c103_2131 => ?_) (fun c103_2131 => ?_)
            · replace e_ := fun β k_ => (e_ β k_).trans (if_neg c103_2131)
              refine g_iconst (v := 1) B dX11_base_110 (by decide) ?_
              refine g_callV (st := []) (As := [.int (nI pa), .int 0, .int 1]) (wr := [((r 16), .inl (E.2.2.1 0, 8, .inl r16_f))]) (nc' := 0) (ns' := 0) B cl_X11_114 w_im_X11_input w_se_X11_input (wr_X11_input E m r m_1 m_4 m_9 m_10 m_14 m_15 m_25 m_26 m_27 m_28 m_29 m_31 m_32 m_33 m_35 m_36 m_37 m_38 m_39 m_40 m_42 r19_f pa 0 1 (by first | assumption | omega | decide | exact hCF _ (by omega)) (by first | assumption | omega | decide | exact hCF _ (by omega)) (by first | assumption | omega | decide | exact hCF _ (by omega))) rfl [1, 2] [0] rfl rfl (by decide) (by decide) (by decide) 0 rfl (fun q h => by cases h; rfl) rfl ⟨by decide, by decide⟩ rfl rfl (by decide) (by decide) rfl (Nat.le_of_ble_eq_true rfl) dX11_base_111 (fun v w hq => ?_)
              obtain ⟨zr_2132, hz_2133, rfl, rfl⟩ := hq
              replace e_ := fun β k_ => (e_ β k_).trans (hz_2133 β _)
              show G E X 6 [((r 16), .inl (E.2.2.1 0, 8, .inl r16_f)), (m, .inr (11, mkF r m_1 m_4 m_9 m_10 m_14 m_15 m_25 m_26 m_27 m_28 m_29 m_31 m_32 m_33 m_35 m_36 m_37 m_38 m_39 m_40 m_42)), ((r 19), .inl (E.2.2.1 0, 128, .inl r19_f))] 0 0 [(5, .int zr_2121), (4, .int zr_2119), (3, .int x_2117), (0, .ref m), (1, .int (nI pa)), (2, .int (nI ch))] 114 [.int zr_2132]
              refine g_sub (ws' := [(m, .inr (11, mkF r m_1 m_4 m_9 m_10 m_14 m_15 m_25 m_26 m_27 m_28 m_29 m_31 m_32 m_33 m_35 m_36 m_37 m_38 m_39 m_40 m_42)), ((r 16), .inl (E.2.2.1 0, 8, .inl r16_f)), ((r 19), .inl (E.2.2.1 0, 128, .inl r19_f))]) [1, 0, 2] (by decide) rfl ?_
              exact g_iret B hr dX11_base_114 (by decide) (by decide) ⟨zr_2132, e_, rfl, rfl⟩
            · replace e_ := fun β k_ => (e_ β k_).trans (if_pos c103_2131)
              refine g_iconst (v := 0) B dX11_base_106 (by decide) ?_
              refine g_goto (tgt := 111) B dX11_base_107 (by decide) ?_
              refine g_callV (st := []) (As := [.int (nI pa), .int 0, .int 0]) (wr := [((r 16), .inl (E.2.2.1 0, 8, .inl r16_f))]) (nc' := 0) (ns' := 0) B cl_X11_114 w_im_X11_input w_se_X11_input (wr_X11_input E m r m_1 m_4 m_9 m_10 m_14 m_15 m_25 m_26 m_27 m_28 m_29 m_31 m_32 m_33 m_35 m_36 m_37 m_38 m_39 m_40 m_42 r19_f pa 0 0 (by first | assumption | omega | decide | exact hCF _ (by omega)) (by first | assumption | omega | decide | exact hCF _ (by omega)) (by first | assumption | omega | decide | exact hCF _ (by omega))) rfl [1, 2] [0] rfl rfl (by decide) (by decide) (by decide) 0 rfl (fun q h => by cases h; rfl) rfl ⟨by decide, by decide⟩ rfl rfl (by decide) (by decide) rfl (Nat.le_of_ble_eq_true rfl) dX11_base_111 (fun v w hq => ?_)
              obtain ⟨zr_2134, hz_2135, rfl, rfl⟩ := hq
              replace e_ := fun β k_ => (e_ β k_).trans (hz_2135 β _)
              show G E X 6 [((r 16), .inl (E.2.2.1 0, 8, .inl r16_f)), (m, .inr (11, mkF r m_1 m_4 m_9 m_10 m_14 m_15 m_25 m_26 m_27 m_28 m_29 m_31 m_32 m_33 m_35 m_36 m_37 m_38 m_39 m_40 m_42)), ((r 19), .inl (E.2.2.1 0, 128, .inl r19_f))] 0 0 [(5, .int zr_2121), (4, .int zr_2119), (3, .int x_2117), (0, .ref m), (1, .int (nI pa)), (2, .int (nI ch))] 114 [.int zr_2134]
              refine g_sub (ws' := [(m, .inr (11, mkF r m_1 m_4 m_9 m_10 m_14 m_15 m_25 m_26 m_27 m_28 m_29 m_31 m_32 m_33 m_35 m_36 m_37 m_38 m_39 m_40 m_42)), ((r 16), .inl (E.2.2.1 0, 8, .inl r16_f)), ((r 19), .inl (E.2.2.1 0, 128, .inl r19_f))]) [1, 0, 2] (by decide) rfl ?_
              exact g_iret B hr dX11_base_114 (by decide) (by decide) ⟨zr_2134, e_, rfl, rfl⟩
          · have hn_2130 : ch = 0 := (nI_eq (a := ch) (b := 0) (by omega) (by omega)).mp c87_2128
            replace e_ := fun β k_ => (e_ β k_).trans (if_pos hn_2130)
            refine g_aload_n B dX11_base_90 rfl 3 rfl ?_
            refine g_iload_n B dX11_base_91 rfl 4 rfl ?_
            refine g_iconst (v := 1) B dX11_base_92 (by decide) ?_
            refine g_iconst (v := 0) B dX11_base_93 (by decide) ?_
            refine g_callV (st := []) (As := [.int (nI pa), .int 1, .int 0]) (wr := [((r 16), .inl (E.2.2.1 0, 8, .inl r16_f))]) (nc' := 0) (ns' := 0) B cl_X11_114 w_im_X11_input w_se_X11_input (wr_X11_input E m r m_1 m_4 m_9 m_10 m_14 m_15 m_25 m_26 m_27 m_28 m_29 m_31 m_32 m_33 m_35 m_36 m_37 m_38 m_39 m_40 m_42 r19_f pa 1 0 (by first | assumption | omega | decide | exact hCF _ (by omega)) (by first | assumption | omega | decide | exact hCF _ (by omega)) (by first | assumption | omega | decide | exact hCF _ (by omega))) rfl [1, 2] [0] rfl rfl (by decide) (by decide) (by decide) 0 rfl (fun q h => by cases h; rfl) rfl ⟨by decide, by decide⟩ rfl rfl (by decide) (by decide) rfl (Nat.le_of_ble_eq_true rfl) dX11_base_94 (fun v w hq => ?_)
            obtain ⟨zr_2136, hz_2137, rfl, rfl⟩ := hq
            replace e_ := fun β k_ => (e_ β k_).trans (hz_2137 β _)
            show G E X 6 [((r 16), .inl (E.2.2.1 0, 8, .inl r16_f)), (m, .inr (11, mkF r m_1 m_4 m_9 m_10 m_14 m_15 m_25 m_26 m_27 m_28 m_29 m_31 m_32 m_33 m_35 m_36 m_37 m_38 m_39 m_40 m_42)), ((r 19), .inl (E.2.2.1 0, 128, .inl r19_f))] 0 0 [(5, .int zr_2121), (4, .int zr_2119), (3, .int x_2117), (0, .ref m), (1, .int (nI pa)), (2, .int (nI ch))] 97 [.int zr_2136]
            refine g_sub (ws' := [(m, .inr (11, mkF r m_1 m_4 m_9 m_10 m_14 m_15 m_25 m_26 m_27 m_28 m_29 m_31 m_32 m_33 m_35 m_36 m_37 m_38 m_39 m_40 m_42)), ((r 16), .inl (E.2.2.1 0, 8, .inl r16_f)), ((r 19), .inl (E.2.2.1 0, 128, .inl r19_f))]) [1, 0, 2] (by decide) rfl ?_
            exact g_iret B hr dX11_base_97 (by decide) (by decide) ⟨zr_2136, e_, rfl, rfl⟩
        · have hn_2127 : m_15 = 1 := (nI_eq (a := m_15) (b := 1) (by omega) (by omega)).mp c81_2125
          replace e_ := fun β k_ => (e_ β k_).trans (if_pos hn_2127)
          refine g_iconst (v := 0) B dX11_base_84 (by decide) ?_
          refine g_sub (ws' := [(m, .inr (11, mkF r m_1 m_4 m_9 m_10 m_14 m_15 m_25 m_26 m_27 m_28 m_29 m_31 m_32 m_33 m_35 m_36 m_37 m_38 m_39 m_40 m_42)), ((r 16), .inl (E.2.2.1 0, 8, .inl r16_f)), ((r 19), .inl (E.2.2.1 0, 128, .inl r19_f))]) [1, 0, 2] (by decide) rfl ?_
          exact g_iret B hr dX11_base_85 (by decide) (by decide) ⟨0, e_, rfl, rfl⟩
      · replace e_ := fun β k_ => (e_ β k_).trans (if_pos c62_2124)
        refine g_iload B dX11_base_65 1 rfl ?_
        refine g_iload B dX11_base_67 1 rfl ?_
        refine g_iload B dX11_base_69 0 rfl ?_
        refine g_isub B dX11_base_71 ?_
        refine g_iconst (v := 1) B dX11_base_72 (by decide) ?_
        refine g_ishr B dX11_base_73 ?_
        refine g_iadd B dX11_base_74 ?_
        refine g_sub (ws' := [(m, .inr (11, mkF r m_1 m_4 m_9 m_10 m_14 m_15 m_25 m_26 m_27 m_28 m_29 m_31 m_32 m_33 m_35 m_36 m_37 m_38 m_39 m_40 m_42)), ((r 16), .inl (E.2.2.1 0, 8, .inl r16_f)), ((r 19), .inl (E.2.2.1 0, 128, .inl r19_f))]) [1, 0, 2] (by decide) rfl ?_
        exact g_iret B hr dX11_base_75 (by decide) (by decide) ⟨(zr_2119 + ((zr_2119 - zr_2121) >>> (1 &&& 31))), e_, rfl, rfl⟩
    · replace e_ := fun β k_ => (e_ β k_).trans (if_pos c48_2123)
      refine g_iconst (v := 2) B dX11_base_51 (by decide) ?_
      refine g_iload B dX11_base_52 1 rfl ?_
      refine g_imul B dX11_base_54 ?_
      refine g_iload B dX11_base_55 0 rfl ?_
      refine g_isub B dX11_base_57 ?_
      refine g_sub (ws' := [(m, .inr (11, mkF r m_1 m_4 m_9 m_10 m_14 m_15 m_25 m_26 m_27 m_28 m_29 m_31 m_32 m_33 m_35 m_36 m_37 m_38 m_39 m_40 m_42)), ((r 16), .inl (E.2.2.1 0, 8, .inl r16_f)), ((r 19), .inl (E.2.2.1 0, 128, .inl r19_f))]) [1, 0, 2] (by decide) rfl ?_
      exact g_iret B hr dX11_base_58 (by decide) (by decide) ⟨((2 * zr_2119) - zr_2121), e_, rfl, rfl⟩
  · replace e_ := fun β k_ => (e_ β k_).trans (if_neg c8_2118)
    refine g_iload_n B dX11_base_11 rfl 0 rfl ?_
    refine g_bipush (v := 9) B dX11_base_12 (by decide) ?_
    refine g_icmp_ge (tgt := 27) B dX11_base_14 (by decide) (fun c14_2138 => ?_) (fun c14_2138 => ?_)
    · replace e_ := fun β k_ => (e_ β k_).trans (if_pos c14_2138)
      refine g_aload_n B dX11_base_27 rfl 1 rfl ?_
      refine g_iload_n B dX11_base_28 rfl 2 rfl ?_
      refine g_iload_n B dX11_base_29 rfl 3 rfl ?_
      refine g_iconst (v := 0) B dX11_base_30 (by decide) ?_
      refine g_callV (st := []) (As := [.int (nI pa), .int (nI ch), .int 0]) (wr := [((r 16), .inl (E.2.2.1 0, 8, .inl r16_f))]) (nc' := 0) (ns' := 0) B cl_X11_114 w_im_X11_input w_se_X11_input (wr_X11_input E m r m_1 m_4 m_9 m_10 m_14 m_15 m_25 m_26 m_27 m_28 m_29 m_31 m_32 m_33 m_35 m_36 m_37 m_38 m_39 m_40 m_42 r19_f pa ch 0 (by first | assumption | omega | decide | exact hCF _ (by omega)) (by first | assumption | omega | decide | exact hCF _ (by omega)) (by first | assumption | omega | decide | exact hCF _ (by omega))) rfl [0, 2] [1] rfl rfl (by decide) (by decide) (by decide) 0 rfl (fun q h => by cases h; rfl) rfl ⟨by decide, by decide⟩ rfl rfl (by decide) (by decide) rfl (Nat.le_of_ble_eq_true rfl) dX11_base_31 (fun v w hq => ?_)
      obtain ⟨zr_2139, hz_2140, rfl, rfl⟩ := hq
      replace e_ := fun β k_ => (e_ β k_).trans (hz_2140 β _)
      show G E X 6 [((r 16), .inl (E.2.2.1 0, 8, .inl r16_f)), (m, .inr (11, mkF r m_1 m_4 m_9 m_10 m_14 m_15 m_25 m_26 m_27 m_28 m_29 m_31 m_32 m_33 m_35 m_36 m_37 m_38 m_39 m_40 m_42)), ((r 19), .inl (E.2.2.1 0, 128, .inl r19_f))] 0 0 [(3, .int x_2117), (0, .ref m), (1, .int (nI pa)), (2, .int (nI ch))] 34 [.int zr_2139]
      refine g_istore (lv' := [(4, .int zr_2139), (3, .int x_2117), (0, .ref m), (1, .int (nI pa)), (2, .int (nI ch))]) B dX11_base_34 (by decide) rfl ?_
      refine g_aload_n B dX11_base_36 rfl 2 rfl ?_
      refine g_iload_n B dX11_base_37 rfl 3 rfl ?_
      refine g_iload_n B dX11_base_38 rfl 4 rfl ?_
      refine g_iconst (v := 1) B dX11_base_39 (by decide) ?_
      refine g_callV (st := []) (As := [.int (nI pa), .int (nI ch), .int 1]) (wr := [((r 16), .inl (E.2.2.1 0, 8, .inl r16_f))]) (nc' := 0) (ns' := 0) B cl_X11_114 w_im_X11_input w_se_X11_input (wr_X11_input E m r m_1 m_4 m_9 m_10 m_14 m_15 m_25 m_26 m_27 m_28 m_29 m_31 m_32 m_33 m_35 m_36 m_37 m_38 m_39 m_40 m_42 r19_f pa ch 1 (by first | assumption | omega | decide | exact hCF _ (by omega)) (by first | assumption | omega | decide | exact hCF _ (by omega)) (by first | assumption | omega | decide | exact hCF _ (by omega))) rfl [1, 2] [0] rfl rfl (by decide) (by decide) (by decide) 0 rfl (fun q h => by cases h; rfl) rfl ⟨by decide, by decide⟩ rfl rfl (by decide) (by decide) rfl (Nat.le_of_ble_eq_true rfl) dX11_base_40 (fun v w hq => ?_)
      obtain ⟨zr_2141, hz_2142, rfl, rfl⟩ := hq
      replace e_ := fun β k_ => (e_ β k_).trans (hz_2142 β _)
      show G E X 6 [((r 16), .inl (E.2.2.1 0, 8, .inl r16_f)), (m, .inr (11, mkF r m_1 m_4 m_9 m_10 m_14 m_15 m_25 m_26 m_27 m_28 m_29 m_31 m_32 m_33 m_35 m_36 m_37 m_38 m_39 m_40 m_42)), ((r 19), .inl (E.2.2.1 0, 128, .inl r19_f))] 0 0 [(4, .int zr_2139), (3, .int x_2117), (0, .ref m), (1, .int (nI pa)), (2, .int (nI ch))] 43 [.int zr_2141]
      refine g_istore (lv' := [(5, .int zr_2141), (4, .int zr_2139), (3, .int x_2117), (0, .ref m), (1, .int (nI pa)), (2, .int (nI ch))]) B dX11_base_43 (by decide) rfl ?_
      refine g_iload_n B dX11_base_45 rfl 2 rfl ?_
      refine g_bipush (v := 17) B dX11_base_46 (by decide) ?_
      refine g_icmp_ne (tgt := 59) B dX11_base_48 (by decide) (fun c48_2143 => ?_) (fun c48_2143 => ?_)
      · replace e_ := fun β k_ => (e_ β k_).trans (if_neg c48_2143)
        refine g_iload_n B dX11_base_59 rfl 2 rfl ?_
        refine g_bipush (v := 18) B dX11_base_60 (by decide) ?_
        refine g_icmp_ne (tgt := 76) B dX11_base_62 (by decide) (fun c62_2144 => ?_) (fun c62_2144 => ?_)
        · replace e_ := fun β k_ => (e_ β k_).trans (if_neg c62_2144)
          refine g_aload_n B dX11_base_76 rfl 3 rfl ?_
          refine g_get B 1 15 fl_X11_118 rfl mf_15 dX11_base_77 ?_
          refine g_iconst (v := 1) B dX11_base_80 (by decide) ?_
          refine g_icmp_ne (tgt := 86) B dX11_base_81 (by decide) (fun c81_2145 => ?_) (fun c81_2145 => ?_)
          · have hn_2146 : ¬ m_15 = 1 := fun q => c81_2145 ((nI_eq (a := m_15) (b := 1) (by omega) (by omega)).mpr q)
            replace e_ := fun β k_ => (e_ β k_).trans (if_neg hn_2146)
            refine g_iload_n B dX11_base_86 rfl 5 rfl ?_
            refine g_if_ne (tgt := 98) B dX11_base_87 (by decide) (fun c87_2148 => ?_) (fun c87_2148 => ?_)
            · have hn_2149 : ¬ ch = 0 := fun q => c87_2148 ((nI_eq (a := ch) (b := 0) (by omega) (by omega)).mpr q)
              replace e_ := fun β k_ => (e_ β k_).trans (if_neg hn_2149)
              refine g_aload_n B dX11_base_98 rfl 3 rfl ?_
              refine g_iload_n B dX11_base_99 rfl 4 rfl ?_
              refine g_iconst (v := 0) B dX11_base_100 (by decide) ?_
              refine g_iload_n B dX11_base_101 rfl 2 rfl ?_
              refine g_iconst (v := (-1)) B dX11_base_102 (by decide) ?_
              refine g_icmp_ne (tgt := 110) B dX11_base_103 (by decide) (fun c103_2151 => ?_) (fun c103_2151 => ?_)
              · replace e_ := fun β k_ => (e_ β k_).trans (if_neg c103_2151)
                refine g_iconst (v := 1) B dX11_base_110 (by decide) ?_
                refine g_callV (st := []) (As := [.int (nI pa), .int 0, .int 1]) (wr := [((r 16), .inl (E.2.2.1 0, 8, .inl r16_f))]) (nc' := 0) (ns' := 0) B cl_X11_114 w_im_X11_input w_se_X11_input (wr_X11_input E m r m_1 m_4 m_9 m_10 m_14 m_15 m_25 m_26 m_27 m_28 m_29 m_31 m_32 m_33 m_35 m_36 m_37 m_38 m_39 m_40 m_42 r19_f pa 0 1 (by first | assumption | omega | decide | exact hCF _ (by omega)) (by first | assumption | omega | decide | exact hCF _ (by omega)) (by first | assumption | omega | decide | exact hCF _ (by omega))) rfl [1, 2] [0] rfl rfl (by decide) (by decide) (by decide) 0 rfl (fun q h => by cases h; rfl) rfl ⟨by decide, by decide⟩ rfl rfl (by decide) (by decide) rfl (Nat.le_of_ble_eq_true rfl) dX11_base_111 (fun v w hq => ?_)
                obtain ⟨zr_2152, hz_2153, rfl, rfl⟩ := hq
                replace e_ := fun β k_ => (e_ β k_).trans (hz_2153 β _)
                show G E X 6 [((r 16), .inl (E.2.2.1 0, 8, .inl r16_f)), (m, .inr (11, mkF r m_1 m_4 m_9 m_10 m_14 m_15 m_25 m_26 m_27 m_28 m_29 m_31 m_32 m_33 m_35 m_36 m_37 m_38 m_39 m_40 m_42)), ((r 19), .inl (E.2.2.1 0, 128, .inl r19_f))] 0 0 [(5, .int zr_2141), (4, .int zr_2139), (3, .int x_2117), (0, .ref m), (1, .int (nI pa)), (2, .int (nI ch))] 114 [.int zr_2152]
                refine g_sub (ws' := [(m, .inr (11, mkF r m_1 m_4 m_9 m_10 m_14 m_15 m_25 m_26 m_27 m_28 m_29 m_31 m_32 m_33 m_35 m_36 m_37 m_38 m_39 m_40 m_42)), ((r 16), .inl (E.2.2.1 0, 8, .inl r16_f)), ((r 19), .inl (E.2.2.1 0, 128, .inl r19_f))]) [1, 0, 2] (by decide) rfl ?_
                exact g_iret B hr dX11_base_114 (by decide) (by decide) ⟨zr_2152, e_, rfl, rfl⟩
              · replace e_ := fun β k_ => (e_ β k_).trans (if_pos c103_2151)
                refine g_iconst (v := 0) B dX11_base_106 (by decide) ?_
                refine g_goto (tgt := 111) B dX11_base_107 (by decide) ?_
                refine g_callV (st := []) (As := [.int (nI pa), .int 0, .int 0]) (wr := [((r 16), .inl (E.2.2.1 0, 8, .inl r16_f))]) (nc' := 0) (ns' := 0) B cl_X11_114 w_im_X11_input w_se_X11_input (wr_X11_input E m r m_1 m_4 m_9 m_10 m_14 m_15 m_25 m_26 m_27 m_28 m_29 m_31 m_32 m_33 m_35 m_36 m_37 m_38 m_39 m_40 m_42 r19_f pa 0 0 (by first | assumption | omega | decide | exact hCF _ (by omega)) (by first | assumption | omega | decide | exact hCF _ (by omega)) (by first | assumption | omega | decide | exact hCF _ (by omega))) rfl [1, 2] [0] rfl rfl (by decide) (by decide) (by decide) 0 rfl (fun q h => by cases h; rfl) rfl ⟨by decide, by decide⟩ rfl rfl (by decide) (by decide) rfl (Nat.le_of_ble_eq_true rfl) dX11_base_111 (fun v w hq => ?_)
                obtain ⟨zr_2154, hz_2155, rfl, rfl⟩ := hq
                replace e_ := fun β k_ => (e_ β k_).trans (hz_2155 β _)
                show G E X 6 [((r 16), .inl (E.2.2.1 0, 8, .inl r16_f)), (m, .inr (11, mkF r m_1 m_4 m_9 m_10 m_14 m_15 m_25 m_26 m_27 m_28 m_29 m_31 m_32 m_33 m_35 m_36 m_37 m_38 m_39 m_40 m_42)), ((r 19), .inl (E.2.2.1 0, 128, .inl r19_f))] 0 0 [(5, .int zr_2141), (4, .int zr_2139), (3, .int x_2117), (0, .ref m), (1, .int (nI pa)), (2, .int (nI ch))] 114 [.int zr_2154]
                refine g_sub (ws' := [(m, .inr (11, mkF r m_1 m_4 m_9 m_10 m_14 m_15 m_25 m_26 m_27 m_28 m_29 m_31 m_32 m_33 m_35 m_36 m_37 m_38 m_39 m_40 m_42)), ((r 16), .inl (E.2.2.1 0, 8, .inl r16_f)), ((r 19), .inl (E.2.2.1 0, 128, .inl r19_f))]) [1, 0, 2] (by decide) rfl ?_
                exact g_iret B hr dX11_base_114 (by decide) (by decide) ⟨zr_2154, e_, rfl, rfl⟩
            · have hn_2150 : ch = 0 := (nI_eq (a := ch) (b := 0) (by omega) (by omega)).mp c87_2148
              replace e_ := fun β k_ => (e_ β k_).trans (if_pos hn_2150)
              refine g_aload_n B dX11_base_90 rfl 3 rfl ?_
              refine g_iload_n B dX11_base_91 rfl 4 rfl ?_
              refine g_iconst (v := 1) B dX11_base_92 (by decide) ?_
              refine g_iconst (v := 0) B dX11_base_93 (by decide) ?_
              refine g_callV (st := []) (As := [.int (nI pa), .int 1, .int 0]) (wr := [((r 16), .inl (E.2.2.1 0, 8, .inl r16_f))]) (nc' := 0) (ns' := 0) B cl_X11_114 w_im_X11_input w_se_X11_input (wr_X11_input E m r m_1 m_4 m_9 m_10 m_14 m_15 m_25 m_26 m_27 m_28 m_29 m_31 m_32 m_33 m_35 m_36 m_37 m_38 m_39 m_40 m_42 r19_f pa 1 0 (by first | assumption | omega | decide | exact hCF _ (by omega)) (by first | assumption | omega | decide | exact hCF _ (by omega)) (by first | assumption | omega | decide | exact hCF _ (by omega))) rfl [1, 2] [0] rfl rfl (by decide) (by decide) (by decide) 0 rfl (fun q h => by cases h; rfl) rfl ⟨by decide, by decide⟩ rfl rfl (by decide) (by decide) rfl (Nat.le_of_ble_eq_true rfl) dX11_base_94 (fun v w hq => ?_)
              obtain ⟨zr_2156, hz_2157, rfl, rfl⟩ := hq
              replace e_ := fun β k_ => (e_ β k_).trans (hz_2157 β _)
              show G E X 6 [((r 16), .inl (E.2.2.1 0, 8, .inl r16_f)), (m, .inr (11, mkF r m_1 m_4 m_9 m_10 m_14 m_15 m_25 m_26 m_27 m_28 m_29 m_31 m_32 m_33 m_35 m_36 m_37 m_38 m_39 m_40 m_42)), ((r 19), .inl (E.2.2.1 0, 128, .inl r19_f))] 0 0 [(5, .int zr_2141), (4, .int zr_2139), (3, .int x_2117), (0, .ref m), (1, .int (nI pa)), (2, .int (nI ch))] 97 [.int zr_2156]
              refine g_sub (ws' := [(m, .inr (11, mkF r m_1 m_4 m_9 m_10 m_14 m_15 m_25 m_26 m_27 m_28 m_29 m_31 m_32 m_33 m_35 m_36 m_37 m_38 m_39 m_40 m_42)), ((r 16), .inl (E.2.2.1 0, 8, .inl r16_f)), ((r 19), .inl (E.2.2.1 0, 128, .inl r19_f))]) [1, 0, 2] (by decide) rfl ?_
              exact g_iret B hr dX11_base_97 (by decide) (by decide) ⟨zr_2156, e_, rfl, rfl⟩
          · have hn_2147 : m_15 = 1 := (nI_eq (a := m_15) (b := 1) (by omega) (by omega)).mp c81_2145
            replace e_ := fun β k_ => (e_ β k_).trans (if_pos hn_2147)
            refine g_iconst (v := 0) B dX11_base_84 (by decide) ?_
            refine g_sub (ws' := [(m, .inr (11, mkF r m_1 m_4 m_9 m_10 m_14 m_15 m_25 m_26 m_27 m_28 m_29 m_31 m_32 m_33 m_35 m_36 m_37 m_38 m_39 m_40 m_42)), ((r 16), .inl (E.2.2.1 0, 8, .inl r16_f)), ((r 19), .inl (E.2.2.1 0, 128, .inl r19_f))]) [1, 0, 2] (by decide) rfl ?_
            exact g_iret B hr dX11_base_85 (by decide) (by decide) ⟨0, e_, rfl, rfl⟩
        · replace e_ := fun β k_ => (e_ β k_).trans (if_pos c62_2144)
          refine g_iload B dX11_base_65 1 rfl ?_
          refine g_iload B dX11_base_67 1 rfl ?_
          refine g_iload B dX11_base_69 0 rfl ?_
          refine g_isub B dX11_base_71 ?_
          refine g_iconst (v := 1) B dX11_base_72 (by decide) ?_
          refine g_ishr B dX11_base_73 ?_
          refine g_iadd B dX11_base_74 ?_
          refine g_sub (ws' := [(m, .inr (11, mkF r m_1 m_4 m_9 m_10 m_14 m_15 m_25 m_26 m_27 m_28 m_29 m_31 m_32 m_33 m_35 m_36 m_37 m_38 m_39 m_40 m_42)), ((r 16), .inl (E.2.2.1 0, 8, .inl r16_f)), ((r 19), .inl (E.2.2.1 0, 128, .inl r19_f))]) [1, 0, 2] (by decide) rfl ?_
          exact g_iret B hr dX11_base_75 (by decide) (by decide) ⟨(zr_2139 + ((zr_2139 - zr_2141) >>> (1 &&& 31))), e_, rfl, rfl⟩
      · replace e_ := fun β k_ => (e_ β k_).trans (if_pos c48_2143)
        refine g_iconst (v := 2) B dX11_base_51 (by decide) ?_
        refine g_iload B dX11_base_52 1 rfl ?_
        refine g_imul B dX11_base_54 ?_
        refine g_iload B dX11_base_55 0 rfl ?_
        refine g_isub B dX11_base_57 ?_
        refine g_sub (ws' := [(m, .inr (11, mkF r m_1 m_4 m_9 m_10 m_14 m_15 m_25 m_26 m_27 m_28 m_29 m_31 m_32 m_33 m_35 m_36 m_37 m_38 m_39 m_40 m_42)), ((r 16), .inl (E.2.2.1 0, 8, .inl r16_f)), ((r 19), .inl (E.2.2.1 0, 128, .inl r19_f))]) [1, 0, 2] (by decide) rfl ?_
        exact g_iret B hr dX11_base_58 (by decide) (by decide) ⟨((2 * zr_2139) - zr_2141), e_, rfl, rfl⟩
    · replace e_ := fun β k_ => (e_ β k_).trans (if_neg c14_2138)
      obtain ⟨j_2158, hj_2158, rfl⟩ := ix_lt (n := 9) (by omega) (fun q => Int32.lt_irrefl (Int32.lt_trans q (o_2 c8_2118))) (o_2 c14_2138)
      have h1j_2158 : 0 < j_2158 := (nI_ltI (a := 0) (b := j_2158) (by omega) (by omega)).mp (o_2 c8_2118)
      replace e_ := fun β k_ => (e_ β k_).trans (fnL_eq (x := j_2158) (nI_clamp (by omega)) _)
      refine g_aload_n B dX11_base_17 rfl 1 rfl ?_
      refine g_iload_n B dX11_base_18 rfl 2 rfl ?_
      refine g_iload_n B dX11_base_19 rfl 3 rfl ?_
      refine g_iload_n B dX11_base_20 rfl 0 rfl ?_
      refine g_iconst (v := 1) B dX11_base_21 (by decide) ?_
      refine g_isub B dX11_base_22 ?_
      refine g_ri (x' := nI (j_2158 - 1)) (pk_sub (a := j_2158) (b := 1) (by omega)) ?_
      refine g_callV (st := []) (As := [.int (nI pa), .int (nI ch), .int (nI (j_2158 - 1))]) (wr := [((r 16), .inl (E.2.2.1 0, 8, .inl r16_f))]) (nc' := 0) (ns' := 0) B cl_X11_114 w_im_X11_input w_se_X11_input (wr_X11_input E m r m_1 m_4 m_9 m_10 m_14 m_15 m_25 m_26 m_27 m_28 m_29 m_31 m_32 m_33 m_35 m_36 m_37 m_38 m_39 m_40 m_42 r19_f pa ch (j_2158 - 1) (by first | assumption | omega | decide | exact hCF _ (by omega)) (by first | assumption | omega | decide | exact hCF _ (by omega)) (by first | assumption | omega | decide | exact hCF _ (by omega))) rfl [0, 2] [1] rfl rfl (by decide) (by decide) (by decide) 0 rfl (fun q h => by cases h; rfl) rfl ⟨by decide, by decide⟩ rfl rfl (by decide) (by decide) rfl (Nat.le_of_ble_eq_true rfl) dX11_base_23 (fun v w hq => ?_)
      obtain ⟨zr_2159, hz_2160, rfl, rfl⟩ := hq
      replace e_ := fun β k_ => (e_ β k_).trans (hz_2160 β _)
      show G E X 6 [((r 16), .inl (E.2.2.1 0, 8, .inl r16_f)), (m, .inr (11, mkF r m_1 m_4 m_9 m_10 m_14 m_15 m_25 m_26 m_27 m_28 m_29 m_31 m_32 m_33 m_35 m_36 m_37 m_38 m_39 m_40 m_42)), ((r 19), .inl (E.2.2.1 0, 128, .inl r19_f))] 0 0 [(3, .int (nI j_2158)), (0, .ref m), (1, .int (nI pa)), (2, .int (nI ch))] 26 [.int zr_2159]
      refine g_sub (ws' := [(m, .inr (11, mkF r m_1 m_4 m_9 m_10 m_14 m_15 m_25 m_26 m_27 m_28 m_29 m_31 m_32 m_33 m_35 m_36 m_37 m_38 m_39 m_40 m_42)), ((r 16), .inl (E.2.2.1 0, 8, .inl r16_f)), ((r 19), .inl (E.2.2.1 0, 128, .inl r19_f))]) [1, 0, 2] (by decide) rfl ?_
      exact g_iret B hr dX11_base_26 (by decide) (by decide) ⟨zr_2159, e_, rfl, rfl⟩
abbrev MX11_foretells : g_M := (yX11_foretells, cX11_foretells, 4, (some .int))
theorem dX11_foretells_0 : decode cX11_foretells 0 = .ok (.iconst 0, 1) := by decide +kernel
theorem dX11_foretells_1 : decode cX11_foretells 1 = .ok (.istore_n 2, 1) := by decide +kernel
theorem dX11_foretells_2 : decode cX11_foretells 2 = .ok (.iconst 0, 1) := by decide +kernel
theorem dX11_foretells_3 : decode cX11_foretells 3 = .ok (.istore_n 3, 1) := by decide +kernel
theorem dX11_foretells_4 : decode cX11_foretells 4 = .ok (.iload_n 3, 1) := by decide +kernel
theorem dX11_foretells_5 : decode cX11_foretells 5 = .ok (.aload_n 0, 1) := by decide +kernel
theorem dX11_foretells_6 : decode cX11_foretells 6 = .ok (.getfield 121, 3) := by decide +kernel
theorem w_fl_X11_121 : Cond.fieldLink RX11 121 (TX11 14).1 (TX11 14).2.1 (TX11 14).2.2.1 ∈ g_tbl := g_tbl_in 894 (by decide +kernel) (by decide +kernel)
theorem fl_X11_121 : FL RX11 121 11 14 := ⟨RX11, TX11, 50, rfl, by decide, inX_X11, w_fl_X11_121⟩
theorem dX11_foretells_9 : decode cX11_foretells 9 = .ok (.if_icmp .ge 63, 3) := by decide +kernel
theorem dX11_foretells_12 : decode cX11_foretells 12 = .ok (.aload_n 0, 1) := by decide +kernel
theorem dX11_foretells_13 : decode cX11_foretells 13 = .ok (.getfield 57, 3) := by decide +kernel
theorem dX11_foretells_16 : decode cX11_foretells 16 = .ok (.iload_n 3, 1) := by decide +kernel
theorem dX11_foretells_17 : decode cX11_foretells 17 = .ok (.aload_n 0, 1) := by decide +kernel
theorem dX11_foretells_18 : decode cX11_foretells 18 = .ok (.iload_n 3, 1) := by decide +kernel
theorem dX11_foretells_19 : decode cX11_foretells 19 = .ok (.iload_n 1, 1) := by decide +kernel
theorem dX11_foretells_20 : decode cX11_foretells 20 = .ok (.invokevirtual 124, 3) := by decide +kernel
theorem w_ml_X11_124 : Cond.methodLink RX11 124 yX11_base ∈ g_tbl := g_tbl_in 1083 (by decide +kernel) (by decide +kernel)
theorem w_cd_X11_base : g_cw MX11_base ∈ g_tbl := g_tbl_in 1086 (by decide +kernel) (by decide +kernel)
theorem cl_X11_124 : CL RX11 124 2 MX11_base := ⟨w_ml_X11_124, w_cd_X11_base, w_ini_X11, by decide +kernel, by decide +kernel, by decide +kernel⟩
theorem w_im_X11_base : Cond.instanceMethod yX11_base ∈ g_tbl := g_tbl_in 1085 (by decide +kernel) (by decide +kernel)
theorem w_se_X11_base : Cond.selects RX11 yX11_base yX11_base ∈ g_tbl := g_tbl_in 37 (by decide +kernel) (by decide +kernel)
theorem dX11_foretells_23 : decode cX11_foretells 23 = .ok (.iastore, 1) := by decide +kernel
theorem dX11_foretells_24 : decode cX11_foretells 24 = .ok (.aload_n 0, 1) := by decide +kernel
theorem dX11_foretells_25 : decode cX11_foretells 25 = .ok (.getfield 54, 3) := by decide +kernel
theorem dX11_foretells_28 : decode cX11_foretells 28 = .ok (.iload_n 3, 1) := by decide +kernel
theorem dX11_foretells_29 : decode cX11_foretells 29 = .ok (.aload_n 0, 1) := by decide +kernel
theorem dX11_foretells_30 : decode cX11_foretells 30 = .ok (.getfield 48, 3) := by decide +kernel
theorem dX11_foretells_33 : decode cX11_foretells 33 = .ok (.iconst 2, 1) := by decide +kernel
theorem dX11_foretells_34 : decode cX11_foretells 34 = .ok (.iload_n 3, 1) := by decide +kernel
theorem dX11_foretells_35 : decode cX11_foretells 35 = .ok (.imul, 1) := by decide +kernel
theorem dX11_foretells_36 : decode cX11_foretells 36 = .ok (.iload_n 1, 1) := by decide +kernel
theorem dX11_foretells_37 : decode cX11_foretells 37 = .ok (.iadd, 1) := by decide +kernel
theorem dX11_foretells_38 : decode cX11_foretells 38 = .ok (.iaload, 1) := by decide +kernel
theorem dX11_foretells_39 : decode cX11_foretells 39 = .ok (.i2l, 1) := by decide +kernel
theorem dX11_foretells_40 : decode cX11_foretells 40 = .ok (.aload_n 0, 1) := by decide +kernel
theorem dX11_foretells_41 : decode cX11_foretells 41 = .ok (.getfield 57, 3) := by decide +kernel
theorem dX11_foretells_44 : decode cX11_foretells 44 = .ok (.iload_n 3, 1) := by decide +kernel
theorem dX11_foretells_45 : decode cX11_foretells 45 = .ok (.iaload, 1) := by decide +kernel
theorem dX11_foretells_46 : decode cX11_foretells 46 = .ok (.i2l, 1) := by decide +kernel
theorem dX11_foretells_47 : decode cX11_foretells 47 = .ok (.lmul, 1) := by decide +kernel
theorem dX11_foretells_48 : decode cX11_foretells 48 = .ok (.ldc2_w 128, 3) := by decide +kernel
theorem w_k_X11_128 : Cond.constantLong RX11 128 512 ∈ g_tbl := g_tbl_in 1091 (by decide +kernel) (by decide +kernel)
theorem dX11_foretells_51 : decode cX11_foretells 51 = .ok (.ladd, 1) := by decide +kernel
theorem dX11_foretells_52 : decode cX11_foretells 52 = .ok (.bipush 10, 2) := by decide +kernel
theorem dX11_foretells_54 : decode cX11_foretells 54 = .ok (.lshr, 1) := by decide +kernel
theorem dX11_foretells_55 : decode cX11_foretells 55 = .ok (.l2i, 1) := by decide +kernel
theorem dX11_foretells_56 : decode cX11_foretells 56 = .ok (.iastore, 1) := by decide +kernel
theorem dX11_foretells_57 : decode cX11_foretells 57 = .ok (.iload_n 2, 1) := by decide +kernel
theorem dX11_foretells_58 : decode cX11_foretells 58 = .ok (.aload_n 0, 1) := by decide +kernel
theorem dX11_foretells_59 : decode cX11_foretells 59 = .ok (.getfield 54, 3) := by decide +kernel
theorem dX11_foretells_62 : decode cX11_foretells 62 = .ok (.iload_n 3, 1) := by decide +kernel
theorem dX11_foretells_63 : decode cX11_foretells 63 = .ok (.iaload, 1) := by decide +kernel
theorem dX11_foretells_64 : decode cX11_foretells 64 = .ok (.iadd, 1) := by decide +kernel
theorem dX11_foretells_65 : decode cX11_foretells 65 = .ok (.istore_n 2, 1) := by decide +kernel
theorem dX11_foretells_66 : decode cX11_foretells 66 = .ok (.iinc 3 1, 3) := by decide +kernel
theorem dX11_foretells_69 : decode cX11_foretells 69 = .ok (.goto (-65), 3) := by decide +kernel
set_option maxRecDepth 100000 in
def lf_wr_X11_foretells_4 (m_14 : Nat) (m_15 : Nat) (r16_f : Nat → Int32) (r19_f : Nat → Int32) (r18_f : Nat → Int32) (ch : Nat) (β : Type) (kx_ : (Nat → Int32) → (Nat → Int32) → Int32 → Nat → β)  : Nat → (Nat → Int32) → (Nat → Int32) → Int32 → Nat → β
  | 0, pr21_f, pr20_f, l2, l3 => kx_ pr21_f pr20_f l2 l3
  | fuel + 1, pr21_f, pr20_f, l2, l3 => (if m_14 ≤ l3 then (kx_ pr21_f pr20_f l2 l3) else (fn_wr_X11_base m_15 r16_f r19_f l3 ch β (fun zr_2164 => (fnL (Int64.toInt32 ((((Int32.toInt64 (r18_f ((2 * l3) + ch))) * (Int32.toInt64 zr_2164)) + 512) >>> (Int32.toInt64 10 &&& 63))) (fun x_2166 => (lf_wr_X11_foretells_4 m_14 m_15 r16_f r19_f r18_f ch β kx_ fuel (upd pr21_f l3 zr_2164) (upd pr20_f l3 x_2166) (l2 + x_2166) (l3 + 1)))))))
set_option maxRecDepth 100000 in
theorem lf_wr_X11_foretells_4_s {m_14 : Nat} {m_15 : Nat} {r16_f : Nat → Int32} {r19_f : Nat → Int32} {r18_f : Nat → Int32} {ch : Nat} {β : Type} {kx_ : (Nat → Int32) → (Nat → Int32) → Int32 → Nat → β}  {fuel : Nat} {pr21_f : Nat → Int32} {pr20_f : Nat → Int32} {l2 : Int32} {l3 : Nat} : lf_wr_X11_foretells_4 m_14 m_15 r16_f r19_f r18_f ch β kx_  (fuel + 1) pr21_f pr20_f l2 l3 = (if m_14 ≤ l3 then (kx_ pr21_f pr20_f l2 l3) else (fn_wr_X11_base m_15 r16_f r19_f l3 ch β (fun zr_2164 => (fnL (Int64.toInt32 ((((Int32.toInt64 (r18_f ((2 * l3) + ch))) * (Int32.toInt64 zr_2164)) + 512) >>> (Int32.toInt64 10 &&& 63))) (fun x_2166 => (lf_wr_X11_foretells_4 m_14 m_15 r16_f r19_f r18_f ch β kx_ fuel (upd pr21_f l3 zr_2164) (upd pr20_f l3 x_2166) (l2 + x_2166) (l3 + 1))))))) := rfl
set_option maxRecDepth 100000 in
set_option maxHeartbeats 4000000 in
theorem lp_wr_X11_foretells_4 (E : g_E) (m : Nat) (r : Nat → Nat) (m_1 : Nat) (m_4 : Nat) (m_9 : Nat) (m_10 : Nat) (m_14 : Nat) (m_15 : Nat) (m_25 : Int32) (m_26 : Int32) (m_27 : Int64) (m_28 : Nat) (m_29 : Nat) (m_31 : Nat) (m_32 : Nat) (m_33 : Nat) (m_35 : Nat) (m_36 : Nat) (m_37 : Int32) (m_38 : Nat) (m_39 : Int32) (m_40 : Int32) (m_42 : Nat) (r16_f : Nat → Int32) (r19_f : Nat → Int32) (r18_f : Nat → Int32) (r21_f : Nat → Int32) (r20_f : Nat → Int32) (ch : Nat) (h0 : ch < 2) (h1 : m_14 ≤ 8) (hb0 : m_15 ≤ 2)   {X : g_X} {rr : (β : Type) → ((Nat → Int32) → (Nat → Int32) → Int32 → β) → β} (kx_ : (β : Type) → ((Nat → Int32) → (Nat → Int32) → Int32 → β) → (Nat → Int32) → (Nat → Int32) → Int32 → Nat → β) (B : Bd E X cX11_foretells RX11 4 2 48 0 0) (hr : Rt E X (some .int) 0 0 (fun v_ w_ => ∃ zr21_f : Nat → Int32, ∃ zr20_f : Nat → Int32, ∃ zr : Int32, (∀ (β : Type) (k_ : (Nat → Int32) → (Nat → Int32) → Int32 → β), rr β k_ = k_ zr21_f zr20_f zr) ∧ v_ = some (.int zr) ∧ w_ = [(m, .inr (11, mkF r m_1 m_4 m_9 m_10 m_14 m_15 m_25 m_26 m_27 m_28 m_29 m_31 m_32 m_33 m_35 m_36 m_37 m_38 m_39 m_40 m_42)), ((r 16), .inl (E.2.2.1 0, 8, .inl r16_f)), ((r 19), .inl (E.2.2.1 0, 128, .inl r19_f)), ((r 18), .inl (E.2.2.1 0, 16, .inl r18_f)), ((r 21), .inl (E.2.2.1 0, 8, .inl zr21_f)), ((r 20), .inl (E.2.2.1 0, 8, .inl zr20_f))])) (K : ∀ (pr21_f : Nat → Int32) (pr20_f : Nat → Int32) (l2 : Int32) (l3 : Nat), (l3 ≤ 8) → (∀ (β : Type) (k_ : (Nat → Int32) → (Nat → Int32) → Int32 → β), rr β k_ = kx_ β k_ pr21_f pr20_f l2 l3) → G E X 4 [(m, .inr (11, mkF r m_1 m_4 m_9 m_10 m_14 m_15 m_25 m_26 m_27 m_28 m_29 m_31 m_32 m_33 m_35 m_36 m_37 m_38 m_39 m_40 m_42)), ((r 16), .inl (E.2.2.1 0, 8, .inl r16_f)), ((r 19), .inl (E.2.2.1 0, 128, .inl r19_f)), ((r 18), .inl (E.2.2.1 0, 16, .inl r18_f)), ((r 21), .inl (E.2.2.1 0, 8, .inl pr21_f)), ((r 20), .inl (E.2.2.1 0, 8, .inl pr20_f))] 0 0 [(0, .ref m), (1, .int (nI ch)), (2, .int l2), (3, .int (nI l3))] 72 []) : ∀ (fuel : Nat) (pr21_f : Nat → Int32) (pr20_f : Nat → Int32) (l2 : Int32) (l3 : Nat), (l3 ≤ 8) → (8 - l3) < fuel → (∀ (β : Type) (k_ : (Nat → Int32) → (Nat → Int32) → Int32 → β), rr β k_ = lf_wr_X11_foretells_4 m_14 m_15 r16_f r19_f r18_f ch β (kx_ β k_) fuel pr21_f pr20_f l2 l3) → G E X 4 [(m, .inr (11, mkF r m_1 m_4 m_9 m_10 m_14 m_15 m_25 m_26 m_27 m_28 m_29 m_31 m_32 m_33 m_35 m_36 m_37 m_38 m_39 m_40 m_42)), ((r 16), .inl (E.2.2.1 0, 8, .inl r16_f)), ((r 19), .inl (E.2.2.1 0, 128, .inl r19_f)), ((r 18), .inl (E.2.2.1 0, 16, .inl r18_f)), ((r 21), .inl (E.2.2.1 0, 8, .inl pr21_f)), ((r 20), .inl (E.2.2.1 0, 8, .inl pr20_f))] 0 0 [(0, .ref m), (1, .int (nI ch)), (2, .int l2), (3, .int (nI l3))] 4 [] := by
  intro fuel
  induction fuel with
  | zero => intro pr21_f pr20_f l2 l3 _ h _; exact absurd h (Nat.not_lt_zero _)
  | succ fuel ih =>
    intro pr21_f pr20_f l2 l3 hv0 hm e_
    replace e_ := fun β k_ => (e_ β k_).trans lf_wr_X11_foretells_4_s
    refine g_iload_n B dX11_foretells_4 rfl 3 rfl ?_
    refine g_aload_n B dX11_foretells_5 rfl 0 rfl ?_
    refine g_get B 0 14 fl_X11_121 rfl mf_14 dX11_foretells_6 ?_
    refine g_icmp_ge (tgt := 72) B dX11_foretells_9 (by decide) (fun c9_2161 => ?_) (fun c9_2161 => ?_)
    · have hn_2162 : m_14 ≤ l3 := (nI_leI (a := m_14) (b := l3) (by omega) (by omega)).mp c9_2161
      replace e_ := fun β k_ => (e_ β k_).trans (if_pos hn_2162)
      exact K pr21_f pr20_f l2 l3 (by first | assumption | omega | decide | exact hCF _ (by omega)) e_
    · have hn_2163 : l3 < m_14 := Nat.not_le.mp (fun q => c9_2161 ((nI_leI (a := m_14) (b := l3) (by omega) (by omega)).mpr q))
      replace e_ := fun β k_ => (e_ β k_).trans (if_neg (Nat.not_le.mpr hn_2163))
      refine g_aload_n B dX11_foretells_12 rfl 0 rfl ?_
      refine g_get B 0 21 fl_X11_57 rfl mf_21 dX11_foretells_13 ?_
      refine g_iload_n B dX11_foretells_16 rfl 3 rfl ?_
      refine g_aload_n B dX11_foretells_17 rfl 0 rfl ?_
      refine g_iload_n B dX11_foretells_18 rfl 3 rfl ?_
      refine g_iload_n B dX11_foretells_19 rfl 1 rfl ?_
      refine g_callV (st := [.int (nI l3), .ref (r 21)]) (As := [.int (nI l3), .int (nI ch)]) (wr := [((r 18), .inl (E.2.2.1 0, 16, .inl r18_f)), ((r 21), .inl (E.2.2.1 0, 8, .inl pr21_f)), ((r 20), .inl (E.2.2.1 0, 8, .inl pr20_f))]) (nc' := 0) (ns' := 0) B cl_X11_124 w_im_X11_base w_se_X11_base (wr_X11_base E m r m_1 m_4 m_9 m_10 m_14 m_15 m_25 m_26 m_27 m_28 m_29 m_31 m_32 m_33 m_35 m_36 m_37 m_38 m_39 m_40 m_42 r16_f r19_f l3 ch (by first | assumption | omega | decide | exact hCF _ (by omega)) (by first | assumption | omega | decide | exact hCF _ (by omega)) (by first | assumption | omega | decide | exact hCF _ (by omega))) rfl [0, 1, 2] [3, 4, 5] rfl rfl (by decide) (by decide) (by decide) 0 rfl (fun q h => by cases h; rfl) rfl ⟨by decide, by decide⟩ rfl rfl (by decide) (by decide) rfl (Nat.le_of_ble_eq_true rfl) dX11_foretells_20 (fun v w hq => ?_)
      obtain ⟨zr_2164, hz_2165, rfl, rfl⟩ := hq
      replace e_ := fun β k_ => (e_ β k_).trans (hz_2165 β _)
      show G E X 4 [((r 18), .inl (E.2.2.1 0, 16, .inl r18_f)), ((r 21), .inl (E.2.2.1 0, 8, .inl pr21_f)), ((r 20), .inl (E.2.2.1 0, 8, .inl pr20_f)), (m, .inr (11, mkF r m_1 m_4 m_9 m_10 m_14 m_15 m_25 m_26 m_27 m_28 m_29 m_31 m_32 m_33 m_35 m_36 m_37 m_38 m_39 m_40 m_42)), ((r 16), .inl (E.2.2.1 0, 8, .inl r16_f)), ((r 19), .inl (E.2.2.1 0, 128, .inl r19_f))] 0 0 [(0, .ref m), (1, .int (nI ch)), (2, .int l2), (3, .int (nI l3))] 23 [.int zr_2164, .int (nI l3), .ref (r 21)]
      refine g_iast (ws' := [((r 18), .inl (E.2.2.1 0, 16, .inl r18_f)), ((r 21), .inl (E.2.2.1 0, 8, .inl (upd pr21_f l3 zr_2164))), ((r 20), .inl (E.2.2.1 0, 8, .inl pr20_f)), (m, .inr (11, mkF r m_1 m_4 m_9 m_10 m_14 m_15 m_25 m_26 m_27 m_28 m_29 m_31 m_32 m_33 m_35 m_36 m_37 m_38 m_39 m_40 m_42)), ((r 16), .inl (E.2.2.1 0, 8, .inl r16_f)), ((r 19), .inl (E.2.2.1 0, 128, .inl r19_f))]) B 1 rfl (vp_in_nI (by omega) (by omega)) (by rw [nI_clamp (n := l3) (by omega)]; rfl) dX11_foretells_23 ?_
      refine g_aload_n B dX11_foretells_24 rfl 0 rfl ?_
      refine g_get B 3 20 fl_X11_54 rfl mf_20 dX11_foretells_25 ?_
      refine g_iload_n B dX11_foretells_28 rfl 3 rfl ?_
      refine g_aload_n B dX11_foretells_29 rfl 0 rfl ?_
      refine g_get B 3 18 fl_X11_48 rfl mf_18 dX11_foretells_30 ?_
      refine g_iconst (v := 2) B dX11_foretells_33 (by decide) ?_
      refine g_iload_n B dX11_foretells_34 rfl 3 rfl ?_
      refine g_imul B dX11_foretells_35 ?_
      refine g_ri (x' := nI (2 * l3)) (pk_mul 2 l3) ?_
      refine g_iload_n B dX11_foretells_36 rfl 1 rfl ?_
      refine g_iadd B dX11_foretells_37 ?_
      refine g_ri (x' := nI ((2 * l3) + ch)) (nI_add (2 * l3) ch) ?_
      refine g_iald B 0 rfl (vp_in_nI (by omega) (by omega)) dX11_foretells_38 ?_
      refine g_ri (x' := (r18_f ((2 * l3) + ch))) (congrArg r18_f (nI_clamp (n := ((2 * l3) + ch)) (by omega))) ?_
      refine g_i2l B dX11_foretells_39 ?_
      refine g_aload_n B dX11_foretells_40 rfl 0 rfl ?_
      refine g_get B 3 21 fl_X11_57 rfl mf_21 dX11_foretells_41 ?_
      refine g_iload_n B dX11_foretells_44 rfl 3 rfl ?_
      refine g_iald B 1 rfl (vp_in_nI (by omega) (by omega)) dX11_foretells_45 ?_
      refine g_ri (x' := zr_2164) (by rw [nI_clamp (n := l3) (by omega)]; exact pk_us) ?_
      refine g_i2l B dX11_foretells_46 ?_
      refine g_lmul B dX11_foretells_47 ?_
      refine g_ldc2 (v := 512) B w_k_X11_128 dX11_foretells_48 ?_
      refine g_ladd B dX11_foretells_51 ?_
      refine g_bipush (v := 10) B dX11_foretells_52 (by decide) ?_
      refine g_lshr B dX11_foretells_54 ?_
      refine g_l2i B dX11_foretells_55 ?_
      refine g_topi (fun x_2166 ex_2166 => ?_)
      replace e_ := fun β k_ => (e_ β k_).trans (fnL_eq (x := x_2166) ex_2166.symm _)
      refine g_iast (ws' := [((r 18), .inl (E.2.2.1 0, 16, .inl r18_f)), ((r 21), .inl (E.2.2.1 0, 8, .inl (upd pr21_f l3 zr_2164))), ((r 20), .inl (E.2.2.1 0, 8, .inl (upd pr20_f l3 x_2166))), (m, .inr (11, mkF r m_1 m_4 m_9 m_10 m_14 m_15 m_25 m_26 m_27 m_28 m_29 m_31 m_32 m_33 m_35 m_36 m_37 m_38 m_39 m_40 m_42)), ((r 16), .inl (E.2.2.1 0, 8, .inl r16_f)), ((r 19), .inl (E.2.2.1 0, 128, .inl r19_f))]) B 2 rfl (vp_in_nI (by omega) (by omega)) (by rw [nI_clamp (n := l3) (by omega)]; rfl) dX11_foretells_56 ?_
      refine g_iload_n B dX11_foretells_57 rfl 2 rfl ?_
      refine g_aload_n B dX11_foretells_58 rfl 0 rfl ?_
      refine g_get B 3 20 fl_X11_54 rfl mf_20 dX11_foretells_59 ?_
      refine g_iload_n B dX11_foretells_62 rfl 3 rfl ?_
      refine g_iald B 2 rfl (vp_in_nI (by omega) (by omega)) dX11_foretells_63 ?_
      refine g_ri (x' := x_2166) (by rw [nI_clamp (n := l3) (by omega)]; exact pk_us) ?_
      refine g_iadd B dX11_foretells_64 ?_
      refine g_istore_n (lv' := [(2, .int (l2 + x_2166)), (0, .ref m), (1, .int (nI ch)), (3, .int (nI l3))]) B dX11_foretells_65 rfl (by decide) rfl ?_
      refine g_iinc (v := nI (l3 + 1)) (lv' := [(3, .int (nI (l3 + 1))), (2, .int (l2 + x_2166)), (0, .ref m), (1, .int (nI ch))]) B dX11_foretells_66 3 rfl (nI_add l3 1) (by decide) rfl ?_
      refine g_goto (tgt := 4) B dX11_foretells_69 (by decide) ?_
      refine g_sub (ws' := [(m, .inr (11, mkF r m_1 m_4 m_9 m_10 m_14 m_15 m_25 m_26 m_27 m_28 m_29 m_31 m_32 m_33 m_35 m_36 m_37 m_38 m_39 m_40 m_42)), ((r 16), .inl (E.2.2.1 0, 8, .inl r16_f)), ((r 19), .inl (E.2.2.1 0, 128, .inl r19_f)), ((r 18), .inl (E.2.2.1 0, 16, .inl r18_f)), ((r 21), .inl (E.2.2.1 0, 8, .inl (upd pr21_f l3 zr_2164))), ((r 20), .inl (E.2.2.1 0, 8, .inl (upd pr20_f l3 x_2166)))]) [3, 4, 5, 0, 1, 2] (by decide) rfl ?_
      refine g_lvsub (lv' := [(0, .ref m), (1, .int (nI ch)), (2, .int (l2 + x_2166)), (3, .int (nI (l3 + 1)))]) [2, 3, 1, 0] rfl ?_
      exact ih (upd pr21_f l3 zr_2164) (upd pr20_f l3 x_2166) (l2 + x_2166) (l3 + 1) (by first | assumption | omega | decide | exact hCF _ (by omega)) (by omega) e_
theorem dX11_foretells_72 : decode cX11_foretells 72 = .ok (.iload_n 2, 1) := by decide +kernel
theorem dX11_foretells_73 : decode cX11_foretells 73 = .ok (.ireturn, 1) := by decide +kernel
set_option maxRecDepth 100000 in
def fn_wr_X11_foretells (m_14 : Nat) (m_15 : Nat) (r16_f : Nat → Int32) (r19_f : Nat → Int32) (r18_f : Nat → Int32) (r21_f : Nat → Int32) (r20_f : Nat → Int32) (ch : Nat) (β : Type) (k_ : (Nat → Int32) → (Nat → Int32) → Int32 → β) : β := (lf_wr_X11_foretells_4 m_14 m_15 r16_f r19_f r18_f ch β (fun y_2167pr21_f y_2167pr20_f y_2167l2 y_2167l3 => (k_ y_2167pr21_f y_2167pr20_f y_2167l2)) ((8 - 0) + 1) r21_f r20_f 0 0)
set_option maxRecDepth 100000 in
theorem fn_wr_X11_foretells_s {m_14 : Nat} {m_15 : Nat} {r16_f : Nat → Int32} {r19_f : Nat → Int32} {r18_f : Nat → Int32} {r21_f : Nat → Int32} {r20_f : Nat → Int32} {ch : Nat} {β : Type} {k_ : (Nat → Int32) → (Nat → Int32) → Int32 → β} : fn_wr_X11_foretells m_14 m_15 r16_f r19_f r18_f r21_f r20_f ch β k_ = (lf_wr_X11_foretells_4 m_14 m_15 r16_f r19_f r18_f ch β (fun y_2167pr21_f y_2167pr20_f y_2167l2 y_2167l3 => (k_ y_2167pr21_f y_2167pr20_f y_2167l2)) ((8 - 0) + 1) r21_f r20_f 0 0) := rfl
set_option maxRecDepth 100000 in
set_option maxHeartbeats 4000000 in
theorem wr_X11_foretells (E : g_E) (m : Nat) (r : Nat → Nat) (m_1 : Nat) (m_4 : Nat) (m_9 : Nat) (m_10 : Nat) (m_14 : Nat) (m_15 : Nat) (m_25 : Int32) (m_26 : Int32) (m_27 : Int64) (m_28 : Nat) (m_29 : Nat) (m_31 : Nat) (m_32 : Nat) (m_33 : Nat) (m_35 : Nat) (m_36 : Nat) (m_37 : Int32) (m_38 : Nat) (m_39 : Int32) (m_40 : Int32) (m_42 : Nat) (r16_f : Nat → Int32) (r19_f : Nat → Int32) (r18_f : Nat → Int32) (r21_f : Nat → Int32) (r20_f : Nat → Int32) (ch : Nat) (h0 : ch < 2) (h1 : m_14 ≤ 8) (hb0 : m_15 ≤ 2) : Ev E MX11_foretells 2 48 0 0 [.ref m, .int (nI ch)] [(m, .inr (11, mkF r m_1 m_4 m_9 m_10 m_14 m_15 m_25 m_26 m_27 m_28 m_29 m_31 m_32 m_33 m_35 m_36 m_37 m_38 m_39 m_40 m_42)), ((r 16), .inl (E.2.2.1 0, 8, .inl r16_f)), ((r 19), .inl (E.2.2.1 0, 128, .inl r19_f)), ((r 18), .inl (E.2.2.1 0, 16, .inl r18_f)), ((r 21), .inl (E.2.2.1 0, 8, .inl r21_f)), ((r 20), .inl (E.2.2.1 0, 8, .inl r20_f))] (fun v_ w_ => ∃ zr21_f : Nat → Int32, ∃ zr20_f : Nat → Int32, ∃ zr : Int32, (∀ (β : Type) (k_ : (Nat → Int32) → (Nat → Int32) → Int32 → β), fn_wr_X11_foretells m_14 m_15 r16_f r19_f r18_f r21_f r20_f ch β k_ = k_ zr21_f zr20_f zr) ∧ v_ = some (.int zr) ∧ w_ = [(m, .inr (11, mkF r m_1 m_4 m_9 m_10 m_14 m_15 m_25 m_26 m_27 m_28 m_29 m_31 m_32 m_33 m_35 m_36 m_37 m_38 m_39 m_40 m_42)), ((r 16), .inl (E.2.2.1 0, 8, .inl r16_f)), ((r 19), .inl (E.2.2.1 0, 128, .inl r19_f)), ((r 18), .inl (E.2.2.1 0, 16, .inl r18_f)), ((r 21), .inl (E.2.2.1 0, 8, .inl zr21_f)), ((r 20), .inl (E.2.2.1 0, 8, .inl zr20_f))]) := by
  refine Ev.intro (by decide) (Nat.le_of_ble_eq_true rfl) ?_
  intro X B hr hI
  have B : Bd E X cX11_foretells RX11 4 2 48 0 0 := B
  have hr : Rt E X (some .int) 0 0 (fun v_ w_ => ∃ zr21_f : Nat → Int32, ∃ zr20_f : Nat → Int32, ∃ zr : Int32, (∀ (β : Type) (k_ : (Nat → Int32) → (Nat → Int32) → Int32 → β), fn_wr_X11_foretells m_14 m_15 r16_f r19_f r18_f r21_f r20_f ch β k_ = k_ zr21_f zr20_f zr) ∧ v_ = some (.int zr) ∧ w_ = [(m, .inr (11, mkF r m_1 m_4 m_9 m_10 m_14 m_15 m_25 m_26 m_27 m_28 m_29 m_31 m_32 m_33 m_35 m_36 m_37 m_38 m_39 m_40 m_42)), ((r 16), .inl (E.2.2.1 0, 8, .inl r16_f)), ((r 19), .inl (E.2.2.1 0, 128, .inl r19_f)), ((r 18), .inl (E.2.2.1 0, 16, .inl r18_f)), ((r 21), .inl (E.2.2.1 0, 8, .inl zr21_f)), ((r 20), .inl (E.2.2.1 0, 8, .inl zr20_f))]) := hr
  have e_ := fun (β : Type) (k_ : (Nat → Int32) → (Nat → Int32) → Int32 → β) => fn_wr_X11_foretells_s (β := β) (k_ := k_) (m_14 := m_14) (m_15 := m_15) (r16_f := r16_f) (r19_f := r19_f) (r18_f := r18_f) (r21_f := r21_f) (r20_f := r20_f) (ch := ch)
  show G E X 4 [(m, .inr (11, mkF r m_1 m_4 m_9 m_10 m_14 m_15 m_25 m_26 m_27 m_28 m_29 m_31 m_32 m_33 m_35 m_36 m_37 m_38 m_39 m_40 m_42)), ((r 16), .inl (E.2.2.1 0, 8, .inl r16_f)), ((r 19), .inl (E.2.2.1 0, 128, .inl r19_f)), ((r 18), .inl (E.2.2.1 0, 16, .inl r18_f)), ((r 21), .inl (E.2.2.1 0, 8, .inl r21_f)), ((r 20), .inl (E.2.2.1 0, 8, .inl r20_f))] 0 0 [(0, .ref m), (1, .int (nI ch))] 0 []
  refine g_iconst (v := 0) B dX11_foretells_0 (by decide) ?_
  refine g_istore_n (lv' := [(2, .int 0), (0, .ref m), (1, .int (nI ch))]) B dX11_foretells_1 rfl (by decide) rfl ?_
  refine g_iconst (v := 0) B dX11_foretells_2 (by decide) ?_
  refine g_istore_n (lv' := [(3, .int 0), (2, .int 0), (0, .ref m), (1, .int (nI ch))]) B dX11_foretells_3 rfl (by decide) rfl ?_
  refine g_lvsub (lv' := [(0, .ref m), (1, .int (nI ch)), (2, .int 0), (3, .int 0)]) [2, 3, 1, 0] rfl ?_
  refine lp_wr_X11_foretells_4 E m r m_1 m_4 m_9 m_10 m_14 m_15 m_25 m_26 m_27 m_28 m_29 m_31 m_32 m_33 m_35 m_36 m_37 m_38 m_39 m_40 m_42 r16_f r19_f r18_f r21_f r20_f ch h0 h1 hb0   _ B hr (fun y_2167pr21_f y_2167pr20_f y_2167l2 y_2167l3 y_2167k0 e_ => ?_) _ r21_f r20_f 0 0 (by first | assumption | omega | decide | exact hCF _ (by omega)) (Nat.lt_succ_self _) e_
  show G E X 4 [(m, .inr (11, mkF r m_1 m_4 m_9 m_10 m_14 m_15 m_25 m_26 m_27 m_28 m_29 m_31 m_32 m_33 m_35 m_36 m_37 m_38 m_39 m_40 m_42)), ((r 16), .inl (E.2.2.1 0, 8, .inl r16_f)), ((r 19), .inl (E.2.2.1 0, 128, .inl r19_f)), ((r 18), .inl (E.2.2.1 0, 16, .inl r18_f)), ((r 21), .inl (E.2.2.1 0, 8, .inl y_2167pr21_f)), ((r 20), .inl (E.2.2.1 0, 8, .inl y_2167pr20_f))] 0 0 [(0, .ref m), (1, .int (nI ch)), (2, .int y_2167l2), (3, .int (nI y_2167l3))] 72 []
  refine g_iload_n B dX11_foretells_72 rfl 2 rfl ?_
  exact g_iret B hr dX11_foretells_73 (by decide) (by decide) ⟨y_2167pr21_f, y_2167pr20_f, y_2167l2, e_, rfl, rfl⟩
abbrev MX11_learns : g_M := (yX11_learns, cX11_learns, 9, (some .int))
theorem dX11_learns_0 : decode cX11_learns 0 = .ok (.iload_n 2, 1) := by decide +kernel
theorem dX11_learns_1 : decode cX11_learns 1 = .ok (.istore_n 3, 1) := by decide +kernel
theorem dX11_learns_2 : decode cX11_learns 2 = .ok (.aload_n 0, 1) := by decide +kernel
theorem dX11_learns_3 : decode cX11_learns 3 = .ok (.getfield 121, 3) := by decide +kernel
theorem dX11_learns_6 : decode cX11_learns 6 = .ok (.iconst 1, 1) := by decide +kernel
theorem dX11_learns_7 : decode cX11_learns 7 = .ok (.isub, 1) := by decide +kernel
theorem dX11_learns_8 : decode cX11_learns 8 = .ok (.istore 4, 2) := by decide +kernel
theorem dX11_learns_10 : decode cX11_learns 10 = .ok (.iload 4, 2) := by decide +kernel
theorem dX11_learns_12 : decode cX11_learns 12 = .ok (.ifCond .lt 190, 3) := by decide +kernel
theorem dX11_learns_15 : decode cX11_learns 15 = .ok (.iload_n 3, 1) := by decide +kernel
theorem dX11_learns_16 : decode cX11_learns 16 = .ok (.aload_n 0, 1) := by decide +kernel
theorem dX11_learns_17 : decode cX11_learns 17 = .ok (.getfield 54, 3) := by decide +kernel
theorem dX11_learns_20 : decode cX11_learns 20 = .ok (.iload 4, 2) := by decide +kernel
theorem dX11_learns_22 : decode cX11_learns 22 = .ok (.iaload, 1) := by decide +kernel
theorem dX11_learns_23 : decode cX11_learns 23 = .ok (.iadd, 1) := by decide +kernel
theorem dX11_learns_24 : decode cX11_learns 24 = .ok (.istore 5, 2) := by decide +kernel
theorem dX11_learns_26 : decode cX11_learns 26 = .ok (.iconst 2, 1) := by decide +kernel
theorem dX11_learns_27 : decode cX11_learns 27 = .ok (.iload 4, 2) := by decide +kernel
theorem dX11_learns_29 : decode cX11_learns 29 = .ok (.imul, 1) := by decide +kernel
theorem dX11_learns_30 : decode cX11_learns 30 = .ok (.iload_n 1, 1) := by decide +kernel
theorem dX11_learns_31 : decode cX11_learns 31 = .ok (.iadd, 1) := by decide +kernel
theorem dX11_learns_32 : decode cX11_learns 32 = .ok (.istore 6, 2) := by decide +kernel
theorem dX11_learns_34 : decode cX11_learns 34 = .ok (.aload_n 0, 1) := by decide +kernel
theorem dX11_learns_35 : decode cX11_learns 35 = .ok (.getfield 57, 3) := by decide +kernel
theorem dX11_learns_38 : decode cX11_learns 38 = .ok (.iload 4, 2) := by decide +kernel
theorem dX11_learns_40 : decode cX11_learns 40 = .ok (.iaload, 1) := by decide +kernel
theorem dX11_learns_41 : decode cX11_learns 41 = .ok (.ifCond .eq 99, 3) := by decide +kernel
theorem dX11_learns_140 : decode cX11_learns 140 = .ok (.bipush 8, 2) := by decide +kernel
theorem dX11_learns_142 : decode cX11_learns 142 = .ok (.iload 6, 2) := by decide +kernel
theorem dX11_learns_144 : decode cX11_learns 144 = .ok (.imul, 1) := by decide +kernel
theorem dX11_learns_145 : decode cX11_learns 145 = .ok (.istore 7, 2) := by decide +kernel
theorem dX11_learns_147 : decode cX11_learns 147 = .ok (.bipush 7, 2) := by decide +kernel
theorem dX11_learns_149 : decode cX11_learns 149 = .ok (.istore 8, 2) := by decide +kernel
theorem dX11_learns_151 : decode cX11_learns 151 = .ok (.iload 8, 2) := by decide +kernel
theorem dX11_learns_153 : decode cX11_learns 153 = .ok (.ifCond .le 31, 3) := by decide +kernel
theorem dX11_learns_156 : decode cX11_learns 156 = .ok (.aload_n 0, 1) := by decide +kernel
theorem dX11_learns_157 : decode cX11_learns 157 = .ok (.getfield 51, 3) := by decide +kernel
theorem dX11_learns_160 : decode cX11_learns 160 = .ok (.iload 7, 2) := by decide +kernel
theorem dX11_learns_162 : decode cX11_learns 162 = .ok (.iload 8, 2) := by decide +kernel
theorem dX11_learns_164 : decode cX11_learns 164 = .ok (.iadd, 1) := by decide +kernel
theorem dX11_learns_165 : decode cX11_learns 165 = .ok (.aload_n 0, 1) := by decide +kernel
theorem dX11_learns_166 : decode cX11_learns 166 = .ok (.getfield 51, 3) := by decide +kernel
theorem dX11_learns_169 : decode cX11_learns 169 = .ok (.iload 7, 2) := by decide +kernel
theorem dX11_learns_171 : decode cX11_learns 171 = .ok (.iload 8, 2) := by decide +kernel
theorem dX11_learns_173 : decode cX11_learns 173 = .ok (.iadd, 1) := by decide +kernel
theorem dX11_learns_174 : decode cX11_learns 174 = .ok (.iconst 1, 1) := by decide +kernel
theorem dX11_learns_175 : decode cX11_learns 175 = .ok (.isub, 1) := by decide +kernel
theorem dX11_learns_176 : decode cX11_learns 176 = .ok (.iaload, 1) := by decide +kernel
theorem dX11_learns_177 : decode cX11_learns 177 = .ok (.iastore, 1) := by decide +kernel
theorem dX11_learns_178 : decode cX11_learns 178 = .ok (.iinc 8 (-1), 3) := by decide +kernel
theorem dX11_learns_181 : decode cX11_learns 181 = .ok (.goto (-30), 3) := by decide +kernel
set_option maxRecDepth 100000 in
def lf_wr_X11_learns_151 (l7 : Nat) (β : Type) (kx_ : (Nat → Int32) → Nat → β)  : Nat → (Nat → Int32) → Nat → β
  | 0, pr19_f, l8 => kx_ pr19_f l8
  | fuel + 1, pr19_f, l8 => (if l8 ≤ 0 then (kx_ pr19_f l8) else (lf_wr_X11_learns_151 l7 β kx_ fuel (upd pr19_f (l7 + l8) (pr19_f ((l7 + l8) - 1))) (l8 - 1)))
set_option maxRecDepth 100000 in
theorem lf_wr_X11_learns_151_s {l7 : Nat} {β : Type} {kx_ : (Nat → Int32) → Nat → β}  {fuel : Nat} {pr19_f : Nat → Int32} {l8 : Nat} : lf_wr_X11_learns_151 l7 β kx_  (fuel + 1) pr19_f l8 = (if l8 ≤ 0 then (kx_ pr19_f l8) else (lf_wr_X11_learns_151 l7 β kx_ fuel (upd pr19_f (l7 + l8) (pr19_f ((l7 + l8) - 1))) (l8 - 1))) := rfl
set_option maxRecDepth 100000 in
set_option maxHeartbeats 4000000 in
theorem lp_wr_X11_learns_151 (E : g_E) (m : Nat) (r : Nat → Nat) (m_1 : Nat) (m_4 : Nat) (m_9 : Nat) (m_10 : Nat) (m_14 : Nat) (m_15 : Nat) (m_25 : Int32) (m_26 : Int32) (m_27 : Int64) (m_28 : Nat) (m_29 : Nat) (m_31 : Nat) (m_32 : Nat) (m_33 : Nat) (m_35 : Nat) (m_36 : Nat) (m_37 : Int32) (m_38 : Nat) (m_39 : Int32) (m_40 : Int32) (m_42 : Nat) (r20_f : Nat → Int32) (r21_f : Nat → Int32) (r18_f : Nat → Int32) (r17_f : Nat → Int32) (r19_f : Nat → Int32) (ch : Nat) (re : Int32) (h0 : ch < 2) (h1 : m_14 ≤ 8) (pr18_f : Nat → Int32) (l4 : Nat) (l5 : Int32) (l7 : Nat) (hf0 : l7 ≤ 120) {X : g_X} {rr : (β : Type) → ((Nat → Int32) → (Nat → Int32) → Int32 → β) → β} (kx_ : (β : Type) → ((Nat → Int32) → (Nat → Int32) → Int32 → β) → (Nat → Int32) → Nat → β) (B : Bd E X cX11_learns RX11 9 0 0 0 0) (hr : Rt E X (some .int) 0 0 (fun v_ w_ => ∃ zr18_f : Nat → Int32, ∃ zr19_f : Nat → Int32, ∃ zr : Int32, (∀ (β : Type) (k_ : (Nat → Int32) → (Nat → Int32) → Int32 → β), rr β k_ = k_ zr18_f zr19_f zr) ∧ v_ = some (.int zr) ∧ w_ = [(m, .inr (11, mkF r m_1 m_4 m_9 m_10 m_14 m_15 m_25 m_26 m_27 m_28 m_29 m_31 m_32 m_33 m_35 m_36 m_37 m_38 m_39 m_40 m_42)), ((r 20), .inl (E.2.2.1 0, 8, .inl r20_f)), ((r 21), .inl (E.2.2.1 0, 8, .inl r21_f)), ((r 18), .inl (E.2.2.1 0, 16, .inl zr18_f)), ((r 17), .inl (E.2.2.1 0, 8, .inl r17_f)), ((r 19), .inl (E.2.2.1 0, 128, .inl zr19_f))])) (K : ∀ (pr19_f : Nat → Int32) (l8 : Nat), (l8 ≤ 7) → (∀ (β : Type) (k_ : (Nat → Int32) → (Nat → Int32) → Int32 → β), rr β k_ = kx_ β k_ pr19_f l8) → G E X 9 [(m, .inr (11, mkF r m_1 m_4 m_9 m_10 m_14 m_15 m_25 m_26 m_27 m_28 m_29 m_31 m_32 m_33 m_35 m_36 m_37 m_38 m_39 m_40 m_42)), ((r 20), .inl (E.2.2.1 0, 8, .inl r20_f)), ((r 21), .inl (E.2.2.1 0, 8, .inl r21_f)), ((r 18), .inl (E.2.2.1 0, 16, .inl pr18_f)), ((r 17), .inl (E.2.2.1 0, 8, .inl r17_f)), ((r 19), .inl (E.2.2.1 0, 128, .inl pr19_f))] 0 0 [(0, .ref m), (1, .int (nI ch)), (4, .int (nI l4)), (5, .int l5), (7, .int (nI l7)), (8, .int (nI l8))] 184 []) : ∀ (fuel : Nat) (pr19_f : Nat → Int32) (l8 : Nat), (l8 ≤ 7) → (l8) < fuel → (∀ (β : Type) (k_ : (Nat → Int32) → (Nat → Int32) → Int32 → β), rr β k_ = lf_wr_X11_learns_151 l7 β (kx_ β k_) fuel pr19_f l8) → G E X 9 [(m, .inr (11, mkF r m_1 m_4 m_9 m_10 m_14 m_15 m_25 m_26 m_27 m_28 m_29 m_31 m_32 m_33 m_35 m_36 m_37 m_38 m_39 m_40 m_42)), ((r 20), .inl (E.2.2.1 0, 8, .inl r20_f)), ((r 21), .inl (E.2.2.1 0, 8, .inl r21_f)), ((r 18), .inl (E.2.2.1 0, 16, .inl pr18_f)), ((r 17), .inl (E.2.2.1 0, 8, .inl r17_f)), ((r 19), .inl (E.2.2.1 0, 128, .inl pr19_f))] 0 0 [(0, .ref m), (1, .int (nI ch)), (4, .int (nI l4)), (5, .int l5), (7, .int (nI l7)), (8, .int (nI l8))] 151 [] := by
  intro fuel
  induction fuel with
  | zero => intro pr19_f l8 _ h _; exact absurd h (Nat.not_lt_zero _)
  | succ fuel ih =>
    intro pr19_f l8 hv0 hm e_
    replace e_ := fun β k_ => (e_ β k_).trans lf_wr_X11_learns_151_s
    refine g_iload B dX11_learns_151 5 rfl ?_
    refine g_if_le (tgt := 184) B dX11_learns_153 (by decide) (fun c153_2172 => ?_) (fun c153_2172 => ?_)
    · have hn_2173 : l8 ≤ 0 := (nI_leI (a := l8) (b := 0) (by omega) (by omega)).mp c153_2172
      replace e_ := fun β k_ => (e_ β k_).trans (if_pos hn_2173)
      exact K pr19_f l8 (by first | assumption | omega | decide | exact hCF _ (by omega)) e_
    · have hn_2174 : 0 < l8 := Nat.not_le.mp (fun q => c153_2172 ((nI_leI (a := l8) (b := 0) (by omega) (by omega)).mpr q))
      replace e_ := fun β k_ => (e_ β k_).trans (if_neg (Nat.not_le.mpr hn_2174))
      refine g_aload_n B dX11_learns_156 rfl 0 rfl ?_
      refine g_get B 0 19 fl_X11_51 rfl mf_19 dX11_learns_157 ?_
      refine g_iload B dX11_learns_160 4 rfl ?_
      refine g_iload B dX11_learns_162 5 rfl ?_
      refine g_iadd B dX11_learns_164 ?_
      refine g_ri (x' := nI (l7 + l8)) (nI_add l7 l8) ?_
      refine g_aload_n B dX11_learns_165 rfl 0 rfl ?_
      refine g_get B 0 19 fl_X11_51 rfl mf_19 dX11_learns_166 ?_
      refine g_iload B dX11_learns_169 4 rfl ?_
      refine g_iload B dX11_learns_171 5 rfl ?_
      refine g_iadd B dX11_learns_173 ?_
      refine g_ri (x' := nI (l7 + l8)) (nI_add l7 l8) ?_
      refine g_iconst (v := 1) B dX11_learns_174 (by decide) ?_
      refine g_isub B dX11_learns_175 ?_
      refine g_ri (x' := nI ((l7 + l8) - 1)) (pk_sub (a := (l7 + l8)) (b := 1) (by omega)) ?_
      refine g_iald B 5 rfl (vp_in_nI (by omega) (by omega)) dX11_learns_176 ?_
      refine g_ri (x' := (pr19_f ((l7 + l8) - 1))) (congrArg pr19_f (nI_clamp (n := ((l7 + l8) - 1)) (by omega))) ?_
      refine g_iast (ws' := [(m, .inr (11, mkF r m_1 m_4 m_9 m_10 m_14 m_15 m_25 m_26 m_27 m_28 m_29 m_31 m_32 m_33 m_35 m_36 m_37 m_38 m_39 m_40 m_42)), ((r 20), .inl (E.2.2.1 0, 8, .inl r20_f)), ((r 21), .inl (E.2.2.1 0, 8, .inl r21_f)), ((r 18), .inl (E.2.2.1 0, 16, .inl pr18_f)), ((r 17), .inl (E.2.2.1 0, 8, .inl r17_f)), ((r 19), .inl (E.2.2.1 0, 128, .inl (upd pr19_f (l7 + l8) (pr19_f ((l7 + l8) - 1)))))]) B 5 rfl (vp_in_nI (by omega) (by omega)) (by rw [nI_clamp (n := (l7 + l8)) (by omega)]; rfl) dX11_learns_177 ?_
      refine g_iinc (v := nI (l8 - 1)) (lv' := [(8, .int (nI (l8 - 1))), (0, .ref m), (1, .int (nI ch)), (4, .int (nI l4)), (5, .int l5), (7, .int (nI l7))]) B dX11_learns_178 5 rfl (nI_dec (a := l8) (by omega)) (by decide) rfl ?_
      refine g_goto (tgt := 151) B dX11_learns_181 (by decide) ?_
      refine g_lvsub (lv' := [(0, .ref m), (1, .int (nI ch)), (4, .int (nI l4)), (5, .int l5), (7, .int (nI l7)), (8, .int (nI (l8 - 1)))]) [1, 2, 3, 4, 5, 0] rfl ?_
      exact ih (upd pr19_f (l7 + l8) (pr19_f ((l7 + l8) - 1))) (l8 - 1) (by first | assumption | omega | decide | exact hCF _ (by omega)) (by omega) e_
theorem dX11_learns_184 : decode cX11_learns 184 = .ok (.aload_n 0, 1) := by decide +kernel
theorem dX11_learns_185 : decode cX11_learns 185 = .ok (.getfield 51, 3) := by decide +kernel
theorem dX11_learns_188 : decode cX11_learns 188 = .ok (.iload 7, 2) := by decide +kernel
theorem dX11_learns_190 : decode cX11_learns 190 = .ok (.iload 5, 2) := by decide +kernel
theorem dX11_learns_192 : decode cX11_learns 192 = .ok (.iastore, 1) := by decide +kernel
theorem dX11_learns_193 : decode cX11_learns 193 = .ok (.iload 5, 2) := by decide +kernel
theorem dX11_learns_195 : decode cX11_learns 195 = .ok (.istore_n 3, 1) := by decide +kernel
theorem dX11_learns_196 : decode cX11_learns 196 = .ok (.iinc 4 (-1), 3) := by decide +kernel
theorem dX11_learns_199 : decode cX11_learns 199 = .ok (.goto (-189), 3) := by decide +kernel
theorem dX11_learns_44 : decode cX11_learns 44 = .ok (.iload_n 3, 1) := by decide +kernel
theorem dX11_learns_45 : decode cX11_learns 45 = .ok (.ifCond .eq 95, 3) := by decide +kernel
theorem dX11_learns_48 : decode cX11_learns 48 = .ok (.aload_n 0, 1) := by decide +kernel
theorem dX11_learns_49 : decode cX11_learns 49 = .ok (.getfield 48, 3) := by decide +kernel
theorem dX11_learns_52 : decode cX11_learns 52 = .ok (.iload 6, 2) := by decide +kernel
theorem dX11_learns_54 : decode cX11_learns 54 = .ok (.iaload, 1) := by decide +kernel
theorem dX11_learns_55 : decode cX11_learns 55 = .ok (.aload_n 0, 1) := by decide +kernel
theorem dX11_learns_56 : decode cX11_learns 56 = .ok (.getfield 57, 3) := by decide +kernel
theorem dX11_learns_59 : decode cX11_learns 59 = .ok (.iload 4, 2) := by decide +kernel
theorem dX11_learns_61 : decode cX11_learns 61 = .ok (.iaload, 1) := by decide +kernel
theorem dX11_learns_62 : decode cX11_learns 62 = .ok (.ifCond .ge 7, 3) := by decide +kernel
theorem dX11_learns_69 : decode cX11_learns 69 = .ok (.iconst 0, 1) := by decide +kernel
theorem dX11_learns_70 : decode cX11_learns 70 = .ok (.iload_n 3, 1) := by decide +kernel
theorem dX11_learns_71 : decode cX11_learns 71 = .ok (.ifCond .ge 7, 3) := by decide +kernel
theorem dX11_learns_78 : decode cX11_learns 78 = .ok (.iconst 0, 1) := by decide +kernel
theorem dX11_learns_79 : decode cX11_learns 79 = .ok (.if_icmp .ne 13, 3) := by decide +kernel
theorem dX11_learns_82 : decode cX11_learns 82 = .ok (.aload_n 0, 1) := by decide +kernel
theorem dX11_learns_83 : decode cX11_learns 83 = .ok (.getfield 45, 3) := by decide +kernel
theorem dX11_learns_86 : decode cX11_learns 86 = .ok (.iload 4, 2) := by decide +kernel
theorem dX11_learns_88 : decode cX11_learns 88 = .ok (.iaload, 1) := by decide +kernel
theorem dX11_learns_89 : decode cX11_learns 89 = .ok (.goto 11, 3) := by decide +kernel
theorem dX11_learns_100 : decode cX11_learns 100 = .ok (.iadd, 1) := by decide +kernel
theorem dX11_learns_101 : decode cX11_learns 101 = .ok (.istore 7, 2) := by decide +kernel
theorem dX11_learns_103 : decode cX11_learns 103 = .ok (.aload_n 0, 1) := by decide +kernel
theorem dX11_learns_104 : decode cX11_learns 104 = .ok (.getfield 48, 3) := by decide +kernel
theorem dX11_learns_107 : decode cX11_learns 107 = .ok (.iload 6, 2) := by decide +kernel
theorem dX11_learns_109 : decode cX11_learns 109 = .ok (.iload 7, 2) := by decide +kernel
theorem dX11_learns_111 : decode cX11_learns 111 = .ok (.sipush 1024, 3) := by decide +kernel
theorem dX11_learns_114 : decode cX11_learns 114 = .ok (.if_icmp .le 9, 3) := by decide +kernel
theorem dX11_learns_123 : decode cX11_learns 123 = .ok (.iload 7, 2) := by decide +kernel
theorem dX11_learns_125 : decode cX11_learns 125 = .ok (.sipush (-1024), 3) := by decide +kernel
theorem dX11_learns_128 : decode cX11_learns 128 = .ok (.if_icmp .ge 9, 3) := by decide +kernel
theorem dX11_learns_137 : decode cX11_learns 137 = .ok (.iload 7, 2) := by decide +kernel
theorem dX11_learns_139 : decode cX11_learns 139 = .ok (.iastore, 1) := by decide +kernel
theorem dX11_learns_131 : decode cX11_learns 131 = .ok (.sipush (-1024), 3) := by decide +kernel
theorem dX11_learns_134 : decode cX11_learns 134 = .ok (.goto 5, 3) := by decide +kernel
theorem dX11_learns_117 : decode cX11_learns 117 = .ok (.sipush 1024, 3) := by decide +kernel
theorem dX11_learns_120 : decode cX11_learns 120 = .ok (.goto 19, 3) := by decide +kernel
theorem dX11_learns_74 : decode cX11_learns 74 = .ok (.iconst 1, 1) := by decide +kernel
theorem dX11_learns_75 : decode cX11_learns 75 = .ok (.goto 4, 3) := by decide +kernel
theorem dX11_learns_92 : decode cX11_learns 92 = .ok (.aload_n 0, 1) := by decide +kernel
theorem dX11_learns_93 : decode cX11_learns 93 = .ok (.getfield 45, 3) := by decide +kernel
theorem dX11_learns_96 : decode cX11_learns 96 = .ok (.iload 4, 2) := by decide +kernel
theorem dX11_learns_98 : decode cX11_learns 98 = .ok (.iaload, 1) := by decide +kernel
theorem dX11_learns_99 : decode cX11_learns 99 = .ok (.ineg, 1) := by decide +kernel
theorem dX11_learns_65 : decode cX11_learns 65 = .ok (.iconst 1, 1) := by decide +kernel
theorem dX11_learns_66 : decode cX11_learns 66 = .ok (.goto 4, 3) := by decide +kernel
set_option maxRecDepth 100000 in
def lf_wr_X11_learns_10 (r20_f : Nat → Int32) (r21_f : Nat → Int32) (r17_f : Nat → Int32) (ch : Nat) (β : Type) (kx_ : (Nat → Int32) → (Nat → Int32) → Int32 → Nat → β)  : Nat → (Nat → Int32) → (Nat → Int32) → Int32 → Nat → β
  | 0, pr18_f, pr19_f, l3, l4 => kx_ pr18_f pr19_f l3 l4
  | fuel + 1, pr18_f, pr19_f, l3, l4 => (if l4 < 1 then (kx_ pr18_f pr19_f l3 l4) else (fnL (l4 - 1) (fun j_2169 => (if (r21_f j_2169) = 0 then (lf_wr_X11_learns_151 (8 * ((2 * j_2169) + ch)) β (fun y_2175pr19_f y_2175l8 => (lf_wr_X11_learns_10 r20_f r21_f r17_f ch β kx_ fuel pr18_f (upd y_2175pr19_f (8 * ((2 * j_2169) + ch)) (l3 + (r20_f j_2169))) (l3 + (r20_f j_2169)) j_2169)) ((7) + 1) pr19_f 7) else (if l3 = 0 then (lf_wr_X11_learns_151 (8 * ((2 * j_2169) + ch)) β (fun y_2177pr19_f y_2177l8 => (lf_wr_X11_learns_10 r20_f r21_f r17_f ch β kx_ fuel pr18_f (upd y_2177pr19_f (8 * ((2 * j_2169) + ch)) (l3 + (r20_f j_2169))) (l3 + (r20_f j_2169)) j_2169)) ((7) + 1) pr19_f 7) else (if 0 ≤ (r21_f j_2169) then (if 0 ≤ l3 then (fnL ((pr18_f ((2 * j_2169) + ch)) + (r17_f j_2169)) (fun x_2180 => (if x_2180 ≤ 1024 then (if (-1024) ≤ x_2180 then (lf_wr_X11_learns_151 (8 * ((2 * j_2169) + ch)) β (fun y_2183pr19_f y_2183l8 => (lf_wr_X11_learns_10 r20_f r21_f r17_f ch β kx_ fuel (upd pr18_f ((2 * j_2169) + ch) x_2180) (upd y_2183pr19_f (8 * ((2 * j_2169) + ch)) (l3 + (r20_f j_2169))) (l3 + (r20_f j_2169)) j_2169)) ((7) + 1) pr19_f 7) else (lf_wr_X11_learns_151 (8 * ((2 * j_2169) + ch)) β (fun y_2184pr19_f y_2184l8 => (lf_wr_X11_learns_10 r20_f r21_f r17_f ch β kx_ fuel (upd pr18_f ((2 * j_2169) + ch) (-1024)) (upd y_2184pr19_f (8 * ((2 * j_2169) + ch)) (l3 + (r20_f j_2169))) (l3 + (r20_f j_2169)) j_2169)) ((7) + 1) pr19_f 7)) else (lf_wr_X11_learns_151 (8 * ((2 * j_2169) + ch)) β (fun y_2185pr19_f y_2185l8 => (lf_wr_X11_learns_10 r20_f r21_f r17_f ch β kx_ fuel (upd pr18_f ((2 * j_2169) + ch) 1024) (upd y_2185pr19_f (8 * ((2 * j_2169) + ch)) (l3 + (r20_f j_2169))) (l3 + (r20_f j_2169)) j_2169)) ((7) + 1) pr19_f 7)))) else (fnL ((pr18_f ((2 * j_2169) + ch)) + (-(r17_f j_2169))) (fun x_2186 => (if x_2186 ≤ 1024 then (if (-1024) ≤ x_2186 then (lf_wr_X11_learns_151 (8 * ((2 * j_2169) + ch)) β (fun y_2189pr19_f y_2189l8 => (lf_wr_X11_learns_10 r20_f r21_f r17_f ch β kx_ fuel (upd pr18_f ((2 * j_2169) + ch) x_2186) (upd y_2189pr19_f (8 * ((2 * j_2169) + ch)) (l3 + (r20_f j_2169))) (l3 + (r20_f j_2169)) j_2169)) ((7) + 1) pr19_f 7) else (lf_wr_X11_learns_151 (8 * ((2 * j_2169) + ch)) β (fun y_2190pr19_f y_2190l8 => (lf_wr_X11_learns_10 r20_f r21_f r17_f ch β kx_ fuel (upd pr18_f ((2 * j_2169) + ch) (-1024)) (upd y_2190pr19_f (8 * ((2 * j_2169) + ch)) (l3 + (r20_f j_2169))) (l3 + (r20_f j_2169)) j_2169)) ((7) + 1) pr19_f 7)) else (lf_wr_X11_learns_151 (8 * ((2 * j_2169) + ch)) β (fun y_2191pr19_f y_2191l8 => (lf_wr_X11_learns_10 r20_f r21_f r17_f ch β kx_ fuel (upd pr18_f ((2 * j_2169) + ch) 1024) (upd y_2191pr19_f (8 * ((2 * j_2169) + ch)) (l3 + (r20_f j_2169))) (l3 + (r20_f j_2169)) j_2169)) ((7) + 1) pr19_f 7))))) else (if 0 ≤ l3 then (fnL ((pr18_f ((2 * j_2169) + ch)) + (-(r17_f j_2169))) (fun x_2193 => (if x_2193 ≤ 1024 then (if (-1024) ≤ x_2193 then (lf_wr_X11_learns_151 (8 * ((2 * j_2169) + ch)) β (fun y_2196pr19_f y_2196l8 => (lf_wr_X11_learns_10 r20_f r21_f r17_f ch β kx_ fuel (upd pr18_f ((2 * j_2169) + ch) x_2193) (upd y_2196pr19_f (8 * ((2 * j_2169) + ch)) (l3 + (r20_f j_2169))) (l3 + (r20_f j_2169)) j_2169)) ((7) + 1) pr19_f 7) else (lf_wr_X11_learns_151 (8 * ((2 * j_2169) + ch)) β (fun y_2197pr19_f y_2197l8 => (lf_wr_X11_learns_10 r20_f r21_f r17_f ch β kx_ fuel (upd pr18_f ((2 * j_2169) + ch) (-1024)) (upd y_2197pr19_f (8 * ((2 * j_2169) + ch)) (l3 + (r20_f j_2169))) (l3 + (r20_f j_2169)) j_2169)) ((7) + 1) pr19_f 7)) else (lf_wr_X11_learns_151 (8 * ((2 * j_2169) + ch)) β (fun y_2198pr19_f y_2198l8 => (lf_wr_X11_learns_10 r20_f r21_f r17_f ch β kx_ fuel (upd pr18_f ((2 * j_2169) + ch) 1024) (upd y_2198pr19_f (8 * ((2 * j_2169) + ch)) (l3 + (r20_f j_2169))) (l3 + (r20_f j_2169)) j_2169)) ((7) + 1) pr19_f 7)))) else (fnL ((pr18_f ((2 * j_2169) + ch)) + (r17_f j_2169)) (fun x_2199 => (if x_2199 ≤ 1024 then (if (-1024) ≤ x_2199 then (lf_wr_X11_learns_151 (8 * ((2 * j_2169) + ch)) β (fun y_2202pr19_f y_2202l8 => (lf_wr_X11_learns_10 r20_f r21_f r17_f ch β kx_ fuel (upd pr18_f ((2 * j_2169) + ch) x_2199) (upd y_2202pr19_f (8 * ((2 * j_2169) + ch)) (l3 + (r20_f j_2169))) (l3 + (r20_f j_2169)) j_2169)) ((7) + 1) pr19_f 7) else (lf_wr_X11_learns_151 (8 * ((2 * j_2169) + ch)) β (fun y_2203pr19_f y_2203l8 => (lf_wr_X11_learns_10 r20_f r21_f r17_f ch β kx_ fuel (upd pr18_f ((2 * j_2169) + ch) (-1024)) (upd y_2203pr19_f (8 * ((2 * j_2169) + ch)) (l3 + (r20_f j_2169))) (l3 + (r20_f j_2169)) j_2169)) ((7) + 1) pr19_f 7)) else (lf_wr_X11_learns_151 (8 * ((2 * j_2169) + ch)) β (fun y_2204pr19_f y_2204l8 => (lf_wr_X11_learns_10 r20_f r21_f r17_f ch β kx_ fuel (upd pr18_f ((2 * j_2169) + ch) 1024) (upd y_2204pr19_f (8 * ((2 * j_2169) + ch)) (l3 + (r20_f j_2169))) (l3 + (r20_f j_2169)) j_2169)) ((7) + 1) pr19_f 7)))))))))))
set_option maxRecDepth 100000 in
theorem lf_wr_X11_learns_10_s {r20_f : Nat → Int32} {r21_f : Nat → Int32} {r17_f : Nat → Int32} {ch : Nat} {β : Type} {kx_ : (Nat → Int32) → (Nat → Int32) → Int32 → Nat → β}  {fuel : Nat} {pr18_f : Nat → Int32} {pr19_f : Nat → Int32} {l3 : Int32} {l4 : Nat} : lf_wr_X11_learns_10 r20_f r21_f r17_f ch β kx_  (fuel + 1) pr18_f pr19_f l3 l4 = (if l4 < 1 then (kx_ pr18_f pr19_f l3 l4) else (fnL (l4 - 1) (fun j_2169 => (if (r21_f j_2169) = 0 then (lf_wr_X11_learns_151 (8 * ((2 * j_2169) + ch)) β (fun y_2175pr19_f y_2175l8 => (lf_wr_X11_learns_10 r20_f r21_f r17_f ch β kx_ fuel pr18_f (upd y_2175pr19_f (8 * ((2 * j_2169) + ch)) (l3 + (r20_f j_2169))) (l3 + (r20_f j_2169)) j_2169)) ((7) + 1) pr19_f 7) else (if l3 = 0 then (lf_wr_X11_learns_151 (8 * ((2 * j_2169) + ch)) β (fun y_2177pr19_f y_2177l8 => (lf_wr_X11_learns_10 r20_f r21_f r17_f ch β kx_ fuel pr18_f (upd y_2177pr19_f (8 * ((2 * j_2169) + ch)) (l3 + (r20_f j_2169))) (l3 + (r20_f j_2169)) j_2169)) ((7) + 1) pr19_f 7) else (if 0 ≤ (r21_f j_2169) then (if 0 ≤ l3 then (fnL ((pr18_f ((2 * j_2169) + ch)) + (r17_f j_2169)) (fun x_2180 => (if x_2180 ≤ 1024 then (if (-1024) ≤ x_2180 then (lf_wr_X11_learns_151 (8 * ((2 * j_2169) + ch)) β (fun y_2183pr19_f y_2183l8 => (lf_wr_X11_learns_10 r20_f r21_f r17_f ch β kx_ fuel (upd pr18_f ((2 * j_2169) + ch) x_2180) (upd y_2183pr19_f (8 * ((2 * j_2169) + ch)) (l3 + (r20_f j_2169))) (l3 + (r20_f j_2169)) j_2169)) ((7) + 1) pr19_f 7) else (lf_wr_X11_learns_151 (8 * ((2 * j_2169) + ch)) β (fun y_2184pr19_f y_2184l8 => (lf_wr_X11_learns_10 r20_f r21_f r17_f ch β kx_ fuel (upd pr18_f ((2 * j_2169) + ch) (-1024)) (upd y_2184pr19_f (8 * ((2 * j_2169) + ch)) (l3 + (r20_f j_2169))) (l3 + (r20_f j_2169)) j_2169)) ((7) + 1) pr19_f 7)) else (lf_wr_X11_learns_151 (8 * ((2 * j_2169) + ch)) β (fun y_2185pr19_f y_2185l8 => (lf_wr_X11_learns_10 r20_f r21_f r17_f ch β kx_ fuel (upd pr18_f ((2 * j_2169) + ch) 1024) (upd y_2185pr19_f (8 * ((2 * j_2169) + ch)) (l3 + (r20_f j_2169))) (l3 + (r20_f j_2169)) j_2169)) ((7) + 1) pr19_f 7)))) else (fnL ((pr18_f ((2 * j_2169) + ch)) + (-(r17_f j_2169))) (fun x_2186 => (if x_2186 ≤ 1024 then (if (-1024) ≤ x_2186 then (lf_wr_X11_learns_151 (8 * ((2 * j_2169) + ch)) β (fun y_2189pr19_f y_2189l8 => (lf_wr_X11_learns_10 r20_f r21_f r17_f ch β kx_ fuel (upd pr18_f ((2 * j_2169) + ch) x_2186) (upd y_2189pr19_f (8 * ((2 * j_2169) + ch)) (l3 + (r20_f j_2169))) (l3 + (r20_f j_2169)) j_2169)) ((7) + 1) pr19_f 7) else (lf_wr_X11_learns_151 (8 * ((2 * j_2169) + ch)) β (fun y_2190pr19_f y_2190l8 => (lf_wr_X11_learns_10 r20_f r21_f r17_f ch β kx_ fuel (upd pr18_f ((2 * j_2169) + ch) (-1024)) (upd y_2190pr19_f (8 * ((2 * j_2169) + ch)) (l3 + (r20_f j_2169))) (l3 + (r20_f j_2169)) j_2169)) ((7) + 1) pr19_f 7)) else (lf_wr_X11_learns_151 (8 * ((2 * j_2169) + ch)) β (fun y_2191pr19_f y_2191l8 => (lf_wr_X11_learns_10 r20_f r21_f r17_f ch β kx_ fuel (upd pr18_f ((2 * j_2169) + ch) 1024) (upd y_2191pr19_f (8 * ((2 * j_2169) + ch)) (l3 + (r20_f j_2169))) (l3 + (r20_f j_2169)) j_2169)) ((7) + 1) pr19_f 7))))) else (if 0 ≤ l3 then (fnL ((pr18_f ((2 * j_2169) + ch)) + (-(r17_f j_2169))) (fun x_2193 => (if x_2193 ≤ 1024 then (if (-1024) ≤ x_2193 then (lf_wr_X11_learns_151 (8 * ((2 * j_2169) + ch)) β (fun y_2196pr19_f y_2196l8 => (lf_wr_X11_learns_10 r20_f r21_f r17_f ch β kx_ fuel (upd pr18_f ((2 * j_2169) + ch) x_2193) (upd y_2196pr19_f (8 * ((2 * j_2169) + ch)) (l3 + (r20_f j_2169))) (l3 + (r20_f j_2169)) j_2169)) ((7) + 1) pr19_f 7) else (lf_wr_X11_learns_151 (8 * ((2 * j_2169) + ch)) β (fun y_2197pr19_f y_2197l8 => (lf_wr_X11_learns_10 r20_f r21_f r17_f ch β kx_ fuel (upd pr18_f ((2 * j_2169) + ch) (-1024)) (upd y_2197pr19_f (8 * ((2 * j_2169) + ch)) (l3 + (r20_f j_2169))) (l3 + (r20_f j_2169)) j_2169)) ((7) + 1) pr19_f 7)) else (lf_wr_X11_learns_151 (8 * ((2 * j_2169) + ch)) β (fun y_2198pr19_f y_2198l8 => (lf_wr_X11_learns_10 r20_f r21_f r17_f ch β kx_ fuel (upd pr18_f ((2 * j_2169) + ch) 1024) (upd y_2198pr19_f (8 * ((2 * j_2169) + ch)) (l3 + (r20_f j_2169))) (l3 + (r20_f j_2169)) j_2169)) ((7) + 1) pr19_f 7)))) else (fnL ((pr18_f ((2 * j_2169) + ch)) + (r17_f j_2169)) (fun x_2199 => (if x_2199 ≤ 1024 then (if (-1024) ≤ x_2199 then (lf_wr_X11_learns_151 (8 * ((2 * j_2169) + ch)) β (fun y_2202pr19_f y_2202l8 => (lf_wr_X11_learns_10 r20_f r21_f r17_f ch β kx_ fuel (upd pr18_f ((2 * j_2169) + ch) x_2199) (upd y_2202pr19_f (8 * ((2 * j_2169) + ch)) (l3 + (r20_f j_2169))) (l3 + (r20_f j_2169)) j_2169)) ((7) + 1) pr19_f 7) else (lf_wr_X11_learns_151 (8 * ((2 * j_2169) + ch)) β (fun y_2203pr19_f y_2203l8 => (lf_wr_X11_learns_10 r20_f r21_f r17_f ch β kx_ fuel (upd pr18_f ((2 * j_2169) + ch) (-1024)) (upd y_2203pr19_f (8 * ((2 * j_2169) + ch)) (l3 + (r20_f j_2169))) (l3 + (r20_f j_2169)) j_2169)) ((7) + 1) pr19_f 7)) else (lf_wr_X11_learns_151 (8 * ((2 * j_2169) + ch)) β (fun y_2204pr19_f y_2204l8 => (lf_wr_X11_learns_10 r20_f r21_f r17_f ch β kx_ fuel (upd pr18_f ((2 * j_2169) + ch) 1024) (upd y_2204pr19_f (8 * ((2 * j_2169) + ch)) (l3 + (r20_f j_2169))) (l3 + (r20_f j_2169)) j_2169)) ((7) + 1) pr19_f 7))))))))))) := rfl
set_option maxRecDepth 100000 in
set_option maxHeartbeats 4000000 in
theorem lp_wr_X11_learns_10 (E : g_E) (m : Nat) (r : Nat → Nat) (m_1 : Nat) (m_4 : Nat) (m_9 : Nat) (m_10 : Nat) (m_14 : Nat) (m_15 : Nat) (m_25 : Int32) (m_26 : Int32) (m_27 : Int64) (m_28 : Nat) (m_29 : Nat) (m_31 : Nat) (m_32 : Nat) (m_33 : Nat) (m_35 : Nat) (m_36 : Nat) (m_37 : Int32) (m_38 : Nat) (m_39 : Int32) (m_40 : Int32) (m_42 : Nat) (r20_f : Nat → Int32) (r21_f : Nat → Int32) (r18_f : Nat → Int32) (r17_f : Nat → Int32) (r19_f : Nat → Int32) (ch : Nat) (re : Int32) (h0 : ch < 2) (h1 : m_14 ≤ 8)   {X : g_X} {rr : (β : Type) → ((Nat → Int32) → (Nat → Int32) → Int32 → β) → β} (kx_ : (β : Type) → ((Nat → Int32) → (Nat → Int32) → Int32 → β) → (Nat → Int32) → (Nat → Int32) → Int32 → Nat → β) (B : Bd E X cX11_learns RX11 9 0 0 0 0) (hr : Rt E X (some .int) 0 0 (fun v_ w_ => ∃ zr18_f : Nat → Int32, ∃ zr19_f : Nat → Int32, ∃ zr : Int32, (∀ (β : Type) (k_ : (Nat → Int32) → (Nat → Int32) → Int32 → β), rr β k_ = k_ zr18_f zr19_f zr) ∧ v_ = some (.int zr) ∧ w_ = [(m, .inr (11, mkF r m_1 m_4 m_9 m_10 m_14 m_15 m_25 m_26 m_27 m_28 m_29 m_31 m_32 m_33 m_35 m_36 m_37 m_38 m_39 m_40 m_42)), ((r 20), .inl (E.2.2.1 0, 8, .inl r20_f)), ((r 21), .inl (E.2.2.1 0, 8, .inl r21_f)), ((r 18), .inl (E.2.2.1 0, 16, .inl zr18_f)), ((r 17), .inl (E.2.2.1 0, 8, .inl r17_f)), ((r 19), .inl (E.2.2.1 0, 128, .inl zr19_f))])) (K : ∀ (pr18_f : Nat → Int32) (pr19_f : Nat → Int32) (l3 : Int32) (l4 : Nat), (l4 ≤ 8) → (∀ (β : Type) (k_ : (Nat → Int32) → (Nat → Int32) → Int32 → β), rr β k_ = kx_ β k_ pr18_f pr19_f l3 l4) → G E X 9 [(m, .inr (11, mkF r m_1 m_4 m_9 m_10 m_14 m_15 m_25 m_26 m_27 m_28 m_29 m_31 m_32 m_33 m_35 m_36 m_37 m_38 m_39 m_40 m_42)), ((r 20), .inl (E.2.2.1 0, 8, .inl r20_f)), ((r 21), .inl (E.2.2.1 0, 8, .inl r21_f)), ((r 18), .inl (E.2.2.1 0, 16, .inl pr18_f)), ((r 17), .inl (E.2.2.1 0, 8, .inl r17_f)), ((r 19), .inl (E.2.2.1 0, 128, .inl pr19_f))] 0 0 [(0, .ref m), (1, .int (nI ch)), (3, .int l3), (4, .int (nI l4 - 1))] 202 []) : ∀ (fuel : Nat) (pr18_f : Nat → Int32) (pr19_f : Nat → Int32) (l3 : Int32) (l4 : Nat), (l4 ≤ 8) → (l4) < fuel → (∀ (β : Type) (k_ : (Nat → Int32) → (Nat → Int32) → Int32 → β), rr β k_ = lf_wr_X11_learns_10 r20_f r21_f r17_f ch β (kx_ β k_) fuel pr18_f pr19_f l3 l4) → G E X 9 [(m, .inr (11, mkF r m_1 m_4 m_9 m_10 m_14 m_15 m_25 m_26 m_27 m_28 m_29 m_31 m_32 m_33 m_35 m_36 m_37 m_38 m_39 m_40 m_42)), ((r 20), .inl (E.2.2.1 0, 8, .inl r20_f)), ((r 21), .inl (E.2.2.1 0, 8, .inl r21_f)), ((r 18), .inl (E.2.2.1 0, 16, .inl pr18_f)), ((r 17), .inl (E.2.2.1 0, 8, .inl r17_f)), ((r 19), .inl (E.2.2.1 0, 128, .inl pr19_f))] 0 0 [(0, .ref m), (1, .int (nI ch)), (3, .int l3), (4, .int (nI l4 - 1))] 10 [] := by
  intro fuel
  induction fuel with
  | zero => intro pr18_f pr19_f l3 l4 _ h _; exact absurd h (Nat.not_lt_zero _)
  | succ fuel ih =>
    intro pr18_f pr19_f l3 l4 hv0 hm e_
    replace e_ := fun β k_ => (e_ β k_).trans lf_wr_X11_learns_10_s
    refine g_iload B dX11_learns_10 3 rfl ?_
    refine g_if_lt (tgt := 202) B dX11_learns_12 (by decide) (fun c12_2168 => ?_) (fun c12_2168 => ?_)
    · have hn_2170 : l4 < 1 := (dn_lt (l := l4) (by omega)).mp c12_2168
      replace e_ := fun β k_ => (e_ β k_).trans (if_pos hn_2170)
      exact K pr18_f pr19_f l3 l4 (by first | assumption | omega | decide | exact hCF _ (by omega)) e_
    · obtain ⟨j_2169, rfl⟩ : ∃ j_2169, l4 = j_2169 + 1 := ⟨l4 - 1, by have hq : ¬ l4 < 1 := fun q => c12_2168 ((dn_lt (l := l4) (by omega)).mpr q); omega⟩
      rw [nI_pred j_2169]
      replace e_ := fun β k_ => (e_ β k_).trans (if_neg (by omega))
      replace e_ := fun β k_ => (e_ β k_).trans (fnL_eq rfl _)
      refine g_iload_n B dX11_learns_15 rfl 2 rfl ?_
      refine g_aload_n B dX11_learns_16 rfl 0 rfl ?_
      refine g_get B 0 20 fl_X11_54 rfl mf_20 dX11_learns_17 ?_
      refine g_iload B dX11_learns_20 3 rfl ?_
      refine g_iald B 1 rfl (vp_in_nI (by omega) (by omega)) dX11_learns_22 ?_
      refine g_ri (x' := (r20_f j_2169)) (congrArg r20_f (nI_clamp (n := j_2169) (by omega))) ?_
      refine g_iadd B dX11_learns_23 ?_
      refine g_istore (lv' := [(5, .int (l3 + (r20_f j_2169))), (0, .ref m), (1, .int (nI ch)), (3, .int l3), (4, .int (nI j_2169))]) B dX11_learns_24 (by decide) rfl ?_
      refine g_iconst (v := 2) B dX11_learns_26 (by decide) ?_
      refine g_iload B dX11_learns_27 4 rfl ?_
      refine g_imul B dX11_learns_29 ?_
      refine g_ri (x' := nI (2 * j_2169)) (pk_mul 2 j_2169) ?_
      refine g_iload_n B dX11_learns_30 rfl 2 rfl ?_
      refine g_iadd B dX11_learns_31 ?_
      refine g_ri (x' := nI ((2 * j_2169) + ch)) (nI_add (2 * j_2169) ch) ?_
      refine g_istore (lv' := [(6, .int (nI ((2 * j_2169) + ch))), (5, .int (l3 + (r20_f j_2169))), (0, .ref m), (1, .int (nI ch)), (3, .int l3), (4, .int (nI j_2169))]) B dX11_learns_32 (by decide) rfl ?_
      refine g_aload_n B dX11_learns_34 rfl 2 rfl ?_
      refine g_get B 0 21 fl_X11_57 rfl mf_21 dX11_learns_35 ?_
      refine g_iload B dX11_learns_38 5 rfl ?_
      refine g_iald B 2 rfl (vp_in_nI (by omega) (by omega)) dX11_learns_40 ?_
      refine g_ri (x' := (r21_f j_2169)) (congrArg r21_f (nI_clamp (n := j_2169) (by omega))) ?_
      refine g_if_eq (tgt := 140) B dX11_learns_41 (by decide) (fun c41_2171 => ?_) (fun c41_2171 => ?_)
      · replace e_ := fun β k_ => (e_ β k_).trans (if_pos c41_2171)
        refine g_bipush (v := 8) B dX11_learns_140 (by decide) ?_
        refine g_iload B dX11_learns_142 0 rfl ?_
        refine g_imul B dX11_learns_144 ?_
        refine g_ri (x' := nI (8 * ((2 * j_2169) + ch))) (pk_mul 8 ((2 * j_2169) + ch)) ?_
        refine g_istore (lv' := [(7, .int (nI (8 * ((2 * j_2169) + ch)))), (6, .int (nI ((2 * j_2169) + ch))), (5, .int (l3 + (r20_f j_2169))), (0, .ref m), (1, .int (nI ch)), (3, .int l3), (4, .int (nI j_2169))]) B dX11_learns_145 (by decide) rfl ?_
        refine g_bipush (v := 7) B dX11_learns_147 (by decide) ?_
        refine g_istore (lv' := [(8, .int 7), (7, .int (nI (8 * ((2 * j_2169) + ch)))), (6, .int (nI ((2 * j_2169) + ch))), (5, .int (l3 + (r20_f j_2169))), (0, .ref m), (1, .int (nI ch)), (3, .int l3), (4, .int (nI j_2169))]) B dX11_learns_149 (by decide) rfl ?_
        refine g_lvsub (lv' := [(0, .ref m), (1, .int (nI ch)), (4, .int (nI j_2169)), (5, .int (l3 + (r20_f j_2169))), (7, .int (nI (8 * ((2 * j_2169) + ch)))), (8, .int 7)]) [4, 5, 7, 3, 1, 0] rfl ?_
        refine lp_wr_X11_learns_151 E m r m_1 m_4 m_9 m_10 m_14 m_15 m_25 m_26 m_27 m_28 m_29 m_31 m_32 m_33 m_35 m_36 m_37 m_38 m_39 m_40 m_42 r20_f r21_f r18_f r17_f r19_f ch re h0 h1 pr18_f j_2169 (l3 + (r20_f j_2169)) (8 * ((2 * j_2169) + ch)) (by first | assumption | omega | decide | exact hCF _ (by omega)) _ B hr (fun y_2175pr19_f y_2175l8 y_2175k0 e_ => ?_) _ pr19_f 7 (by first | assumption | omega | decide | exact hCF _ (by omega)) (Nat.lt_succ_self _) e_
        show G E X 9 [(m, .inr (11, mkF r m_1 m_4 m_9 m_10 m_14 m_15 m_25 m_26 m_27 m_28 m_29 m_31 m_32 m_33 m_35 m_36 m_37 m_38 m_39 m_40 m_42)), ((r 20), .inl (E.2.2.1 0, 8, .inl r20_f)), ((r 21), .inl (E.2.2.1 0, 8, .inl r21_f)), ((r 18), .inl (E.2.2.1 0, 16, .inl pr18_f)), ((r 17), .inl (E.2.2.1 0, 8, .inl r17_f)), ((r 19), .inl (E.2.2.1 0, 128, .inl y_2175pr19_f))] 0 0 [(0, .ref m), (1, .int (nI ch)), (4, .int (nI j_2169)), (5, .int (l3 + (r20_f j_2169))), (7, .int (nI (8 * ((2 * j_2169) + ch)))), (8, .int (nI y_2175l8))] 184 []
        refine g_aload_n B dX11_learns_184 rfl 0 rfl ?_
        refine g_get B 0 19 fl_X11_51 rfl mf_19 dX11_learns_185 ?_
        refine g_iload B dX11_learns_188 4 rfl ?_
        refine g_iload B dX11_learns_190 3 rfl ?_
        refine g_iast (ws' := [(m, .inr (11, mkF r m_1 m_4 m_9 m_10 m_14 m_15 m_25 m_26 m_27 m_28 m_29 m_31 m_32 m_33 m_35 m_36 m_37 m_38 m_39 m_40 m_42)), ((r 20), .inl (E.2.2.1 0, 8, .inl r20_f)), ((r 21), .inl (E.2.2.1 0, 8, .inl r21_f)), ((r 18), .inl (E.2.2.1 0, 16, .inl pr18_f)), ((r 17), .inl (E.2.2.1 0, 8, .inl r17_f)), ((r 19), .inl (E.2.2.1 0, 128, .inl (upd y_2175pr19_f (8 * ((2 * j_2169) + ch)) (l3 + (r20_f j_2169)))))]) B 5 rfl (vp_in_nI (by omega) (by omega)) (by rw [nI_clamp (n := (8 * ((2 * j_2169) + ch))) (by omega)]; rfl) dX11_learns_192 ?_
        refine g_iload B dX11_learns_193 3 rfl ?_
        refine g_istore_n (lv' := [(3, .int (l3 + (r20_f j_2169))), (0, .ref m), (1, .int (nI ch)), (4, .int (nI j_2169)), (5, .int (l3 + (r20_f j_2169))), (7, .int (nI (8 * ((2 * j_2169) + ch)))), (8, .int (nI y_2175l8))]) B dX11_learns_195 rfl (by decide) rfl ?_
        refine g_iinc (v := (nI j_2169 - 1)) (lv' := [(4, .int (nI j_2169 - 1)), (3, .int (l3 + (r20_f j_2169))), (0, .ref m), (1, .int (nI ch)), (5, .int (l3 + (r20_f j_2169))), (7, .int (nI (8 * ((2 * j_2169) + ch)))), (8, .int (nI y_2175l8))]) B dX11_learns_196 3 rfl (i_m1 _) (by decide) rfl ?_
        refine g_goto (tgt := 10) B dX11_learns_199 (by decide) ?_
        refine g_lvsub (lv' := [(0, .ref m), (1, .int (nI ch)), (3, .int (l3 + (r20_f j_2169))), (4, .int (nI j_2169 - 1))]) [2, 3, 1, 0] rfl ?_
        exact ih pr18_f (upd y_2175pr19_f (8 * ((2 * j_2169) + ch)) (l3 + (r20_f j_2169))) (l3 + (r20_f j_2169)) j_2169 (by first | assumption | omega | decide | exact hCF _ (by omega)) (by omega) e_
      · replace e_ := fun β k_ => (e_ β k_).trans (if_neg c41_2171)
        refine g_iload_n B dX11_learns_44 rfl 4 rfl ?_
        refine g_if_eq (tgt := 140) B dX11_learns_45 (by decide) (fun c45_2176 => ?_) (fun c45_2176 => ?_)
        · replace e_ := fun β k_ => (e_ β k_).trans (if_pos c45_2176)
          refine g_bipush (v := 8) B dX11_learns_140 (by decide) ?_
          refine g_iload B dX11_learns_142 0 rfl ?_
          refine g_imul B dX11_learns_144 ?_
          refine g_ri (x' := nI (8 * ((2 * j_2169) + ch))) (pk_mul 8 ((2 * j_2169) + ch)) ?_
          refine g_istore (lv' := [(7, .int (nI (8 * ((2 * j_2169) + ch)))), (6, .int (nI ((2 * j_2169) + ch))), (5, .int (l3 + (r20_f j_2169))), (0, .ref m), (1, .int (nI ch)), (3, .int l3), (4, .int (nI j_2169))]) B dX11_learns_145 (by decide) rfl ?_
          refine g_bipush (v := 7) B dX11_learns_147 (by decide) ?_
          refine g_istore (lv' := [(8, .int 7), (7, .int (nI (8 * ((2 * j_2169) + ch)))), (6, .int (nI ((2 * j_2169) + ch))), (5, .int (l3 + (r20_f j_2169))), (0, .ref m), (1, .int (nI ch)), (3, .int l3), (4, .int (nI j_2169))]) B dX11_learns_149 (by decide) rfl ?_
          refine g_lvsub (lv' := [(0, .ref m), (1, .int (nI ch)), (4, .int (nI j_2169)), (5, .int (l3 + (r20_f j_2169))), (7, .int (nI (8 * ((2 * j_2169) + ch)))), (8, .int 7)]) [4, 5, 7, 3, 1, 0] rfl ?_
          refine lp_wr_X11_learns_151 E m r m_1 m_4 m_9 m_10 m_14 m_15 m_25 m_26 m_27 m_28 m_29 m_31 m_32 m_33 m_35 m_36 m_37 m_38 m_39 m_40 m_42 r20_f r21_f r18_f r17_f r19_f ch re h0 h1 pr18_f j_2169 (l3 + (r20_f j_2169)) (8 * ((2 * j_2169) + ch)) (by first | assumption | omega | decide | exact hCF _ (by omega)) _ B hr (fun y_2177pr19_f y_2177l8 y_2177k0 e_ => ?_) _ pr19_f 7 (by first | assumption | omega | decide | exact hCF _ (by omega)) (Nat.lt_succ_self _) e_
          show G E X 9 [(m, .inr (11, mkF r m_1 m_4 m_9 m_10 m_14 m_15 m_25 m_26 m_27 m_28 m_29 m_31 m_32 m_33 m_35 m_36 m_37 m_38 m_39 m_40 m_42)), ((r 20), .inl (E.2.2.1 0, 8, .inl r20_f)), ((r 21), .inl (E.2.2.1 0, 8, .inl r21_f)), ((r 18), .inl (E.2.2.1 0, 16, .inl pr18_f)), ((r 17), .inl (E.2.2.1 0, 8, .inl r17_f)), ((r 19), .inl (E.2.2.1 0, 128, .inl y_2177pr19_f))] 0 0 [(0, .ref m), (1, .int (nI ch)), (4, .int (nI j_2169)), (5, .int (l3 + (r20_f j_2169))), (7, .int (nI (8 * ((2 * j_2169) + ch)))), (8, .int (nI y_2177l8))] 184 []
          refine g_aload_n B dX11_learns_184 rfl 0 rfl ?_
          refine g_get B 0 19 fl_X11_51 rfl mf_19 dX11_learns_185 ?_
          refine g_iload B dX11_learns_188 4 rfl ?_
          refine g_iload B dX11_learns_190 3 rfl ?_
          refine g_iast (ws' := [(m, .inr (11, mkF r m_1 m_4 m_9 m_10 m_14 m_15 m_25 m_26 m_27 m_28 m_29 m_31 m_32 m_33 m_35 m_36 m_37 m_38 m_39 m_40 m_42)), ((r 20), .inl (E.2.2.1 0, 8, .inl r20_f)), ((r 21), .inl (E.2.2.1 0, 8, .inl r21_f)), ((r 18), .inl (E.2.2.1 0, 16, .inl pr18_f)), ((r 17), .inl (E.2.2.1 0, 8, .inl r17_f)), ((r 19), .inl (E.2.2.1 0, 128, .inl (upd y_2177pr19_f (8 * ((2 * j_2169) + ch)) (l3 + (r20_f j_2169)))))]) B 5 rfl (vp_in_nI (by omega) (by omega)) (by rw [nI_clamp (n := (8 * ((2 * j_2169) + ch))) (by omega)]; rfl) dX11_learns_192 ?_
          refine g_iload B dX11_learns_193 3 rfl ?_
          refine g_istore_n (lv' := [(3, .int (l3 + (r20_f j_2169))), (0, .ref m), (1, .int (nI ch)), (4, .int (nI j_2169)), (5, .int (l3 + (r20_f j_2169))), (7, .int (nI (8 * ((2 * j_2169) + ch)))), (8, .int (nI y_2177l8))]) B dX11_learns_195 rfl (by decide) rfl ?_
          refine g_iinc (v := (nI j_2169 - 1)) (lv' := [(4, .int (nI j_2169 - 1)), (3, .int (l3 + (r20_f j_2169))), (0, .ref m), (1, .int (nI ch)), (5, .int (l3 + (r20_f j_2169))), (7, .int (nI (8 * ((2 * j_2169) + ch)))), (8, .int (nI y_2177l8))]) B dX11_learns_196 3 rfl (i_m1 _) (by decide) rfl ?_
          refine g_goto (tgt := 10) B dX11_learns_199 (by decide) ?_
          refine g_lvsub (lv' := [(0, .ref m), (1, .int (nI ch)), (3, .int (l3 + (r20_f j_2169))), (4, .int (nI j_2169 - 1))]) [2, 3, 1, 0] rfl ?_
          exact ih pr18_f (upd y_2177pr19_f (8 * ((2 * j_2169) + ch)) (l3 + (r20_f j_2169))) (l3 + (r20_f j_2169)) j_2169 (by first | assumption | omega | decide | exact hCF _ (by omega)) (by omega) e_
        · replace e_ := fun β k_ => (e_ β k_).trans (if_neg c45_2176)
          refine g_aload_n B dX11_learns_48 rfl 2 rfl ?_
          refine g_get B 0 18 fl_X11_48 rfl mf_18 dX11_learns_49 ?_
          refine g_iload B dX11_learns_52 0 rfl ?_
          refine g_iald B 3 rfl (vp_in_nI (by omega) (by omega)) dX11_learns_54 ?_
          refine g_ri (x' := (pr18_f ((2 * j_2169) + ch))) (congrArg pr18_f (nI_clamp (n := ((2 * j_2169) + ch)) (by omega))) ?_
          refine g_aload_n B dX11_learns_55 rfl 2 rfl ?_
          refine g_get B 0 21 fl_X11_57 rfl mf_21 dX11_learns_56 ?_
          refine g_iload B dX11_learns_59 5 rfl ?_
          refine g_iald B 2 rfl (vp_in_nI (by omega) (by omega)) dX11_learns_61 ?_
          refine g_ri (x' := (r21_f j_2169)) (congrArg r21_f (nI_clamp (n := j_2169) (by omega))) ?_
          refine g_if_ge (tgt := 69) B dX11_learns_62 (by decide) (fun c62_2178 => ?_) (fun c62_2178 => ?_)
          · replace e_ := fun β k_ => (e_ β k_).trans (if_pos c62_2178)
            refine g_iconst (v := 0) B dX11_learns_69 (by decide) ?_
            refine g_iload_n B dX11_learns_70 rfl 4 rfl ?_
            refine g_if_ge (tgt := 78) B dX11_learns_71 (by decide) (fun c71_2179 => ?_) (fun c71_2179 => ?_)
            · replace e_ := fun β k_ => (e_ β k_).trans (if_pos c71_2179)
              refine g_iconst (v := 0) B dX11_learns_78 (by decide) ?_
              refine g_icmp_ne (tgt := 92) B dX11_learns_79 (by decide) (fun h => absurd (by decide) h) (fun c79 => ?_)
              refine g_aload_n B dX11_learns_82 rfl 2 rfl ?_
              refine g_get B 0 17 fl_X11_45 rfl mf_17 dX11_learns_83 ?_
              refine g_iload B dX11_learns_86 5 rfl ?_
              refine g_iald B 4 rfl (vp_in_nI (by omega) (by omega)) dX11_learns_88 ?_
              refine g_ri (x' := (r17_f j_2169)) (congrArg r17_f (nI_clamp (n := j_2169) (by omega))) ?_
              refine g_goto (tgt := 100) B dX11_learns_89 (by decide) ?_
              refine g_iadd B dX11_learns_100 ?_
              refine g_topi (fun x_2180 ex_2180 => ?_)
              replace e_ := fun β k_ => (e_ β k_).trans (fnL_eq (x := x_2180) ex_2180.symm _)
              refine g_istore (lv' := [(7, .int x_2180), (6, .int (nI ((2 * j_2169) + ch))), (5, .int (l3 + (r20_f j_2169))), (0, .ref m), (1, .int (nI ch)), (3, .int l3), (4, .int (nI j_2169))]) B dX11_learns_101 (by decide) rfl ?_
              refine g_aload_n B dX11_learns_103 rfl 3 rfl ?_
              refine g_get B 0 18 fl_X11_48 rfl mf_18 dX11_learns_104 ?_
              refine g_iload B dX11_learns_107 1 rfl ?_
              refine g_iload B dX11_learns_109 0 rfl ?_
              refine g_sipush (v := 1024) B dX11_learns_111 (by decide) ?_
              refine g_icmp_le (tgt := 123) B dX11_learns_114 (by decide) (fun c114_2181 => ?_) (fun c114_2181 => ?_)
              · replace e_ := fun β k_ => (e_ β k_).trans (if_pos c114_2181)
                refine g_iload B dX11_learns_123 0 rfl ?_
                refine g_sipush (v := (-1024)) B dX11_learns_125 (by decide) ?_
                refine g_icmp_ge (tgt := 137) B dX11_learns_128 (by decide) (fun c128_2182 => ?_) (fun c128_2182 => ?_)
                · replace e_ := fun β k_ => (e_ β k_).trans (if_pos c128_2182)
                  refine g_iload B dX11_learns_137 0 rfl ?_
                  refine g_iast (ws' := [(m, .inr (11, mkF r m_1 m_4 m_9 m_10 m_14 m_15 m_25 m_26 m_27 m_28 m_29 m_31 m_32 m_33 m_35 m_36 m_37 m_38 m_39 m_40 m_42)), ((r 20), .inl (E.2.2.1 0, 8, .inl r20_f)), ((r 21), .inl (E.2.2.1 0, 8, .inl r21_f)), ((r 18), .inl (E.2.2.1 0, 16, .inl (upd pr18_f ((2 * j_2169) + ch) x_2180))), ((r 17), .inl (E.2.2.1 0, 8, .inl r17_f)), ((r 19), .inl (E.2.2.1 0, 128, .inl pr19_f))]) B 3 rfl (vp_in_nI (by omega) (by omega)) (by rw [nI_clamp (n := ((2 * j_2169) + ch)) (by omega)]; rfl) dX11_learns_139 ?_
                  refine g_bipush (v := 8) B dX11_learns_140 (by decide) ?_
                  refine g_iload B dX11_learns_142 1 rfl ?_
                  refine g_imul B dX11_learns_144 ?_
                  refine g_ri (x' := nI (8 * ((2 * j_2169) + ch))) (pk_mul 8 ((2 * j_2169) + ch)) ?_
                  refine g_istore (lv' := [(7, .int (nI (8 * ((2 * j_2169) + ch)))), (6, .int (nI ((2 * j_2169) + ch))), (5, .int (l3 + (r20_f j_2169))), (0, .ref m), (1, .int (nI ch)), (3, .int l3), (4, .int (nI j_2169))]) B dX11_learns_145 (by decide) rfl ?_
                  refine g_bipush (v := 7) B dX11_learns_147 (by decide) ?_
                  refine g_istore (lv' := [(8, .int 7), (7, .int (nI (8 * ((2 * j_2169) + ch)))), (6, .int (nI ((2 * j_2169) + ch))), (5, .int (l3 + (r20_f j_2169))), (0, .ref m), (1, .int (nI ch)), (3, .int l3), (4, .int (nI j_2169))]) B dX11_learns_149 (by decide) rfl ?_
                  refine g_lvsub (lv' := [(0, .ref m), (1, .int (nI ch)), (4, .int (nI j_2169)), (5, .int (l3 + (r20_f j_2169))), (7, .int (nI (8 * ((2 * j_2169) + ch)))), (8, .int 7)]) [4, 5, 7, 3, 1, 0] rfl ?_
                  refine lp_wr_X11_learns_151 E m r m_1 m_4 m_9 m_10 m_14 m_15 m_25 m_26 m_27 m_28 m_29 m_31 m_32 m_33 m_35 m_36 m_37 m_38 m_39 m_40 m_42 r20_f r21_f r18_f r17_f r19_f ch re h0 h1 (upd pr18_f ((2 * j_2169) + ch) x_2180) j_2169 (l3 + (r20_f j_2169)) (8 * ((2 * j_2169) + ch)) (by first | assumption | omega | decide | exact hCF _ (by omega)) _ B hr (fun y_2183pr19_f y_2183l8 y_2183k0 e_ => ?_) _ pr19_f 7 (by first | assumption | omega | decide | exact hCF _ (by omega)) (Nat.lt_succ_self _) e_
                  show G E X 9 [(m, .inr (11, mkF r m_1 m_4 m_9 m_10 m_14 m_15 m_25 m_26 m_27 m_28 m_29 m_31 m_32 m_33 m_35 m_36 m_37 m_38 m_39 m_40 m_42)), ((r 20), .inl (E.2.2.1 0, 8, .inl r20_f)), ((r 21), .inl (E.2.2.1 0, 8, .inl r21_f)), ((r 18), .inl (E.2.2.1 0, 16, .inl (upd pr18_f ((2 * j_2169) + ch) x_2180))), ((r 17), .inl (E.2.2.1 0, 8, .inl r17_f)), ((r 19), .inl (E.2.2.1 0, 128, .inl y_2183pr19_f))] 0 0 [(0, .ref m), (1, .int (nI ch)), (4, .int (nI j_2169)), (5, .int (l3 + (r20_f j_2169))), (7, .int (nI (8 * ((2 * j_2169) + ch)))), (8, .int (nI y_2183l8))] 184 []
                  refine g_aload_n B dX11_learns_184 rfl 0 rfl ?_
                  refine g_get B 0 19 fl_X11_51 rfl mf_19 dX11_learns_185 ?_
                  refine g_iload B dX11_learns_188 4 rfl ?_
                  refine g_iload B dX11_learns_190 3 rfl ?_
                  refine g_iast (ws' := [(m, .inr (11, mkF r m_1 m_4 m_9 m_10 m_14 m_15 m_25 m_26 m_27 m_28 m_29 m_31 m_32 m_33 m_35 m_36 m_37 m_38 m_39 m_40 m_42)), ((r 20), .inl (E.2.2.1 0, 8, .inl r20_f)), ((r 21), .inl (E.2.2.1 0, 8, .inl r21_f)), ((r 18), .inl (E.2.2.1 0, 16, .inl (upd pr18_f ((2 * j_2169) + ch) x_2180))), ((r 17), .inl (E.2.2.1 0, 8, .inl r17_f)), ((r 19), .inl (E.2.2.1 0, 128, .inl (upd y_2183pr19_f (8 * ((2 * j_2169) + ch)) (l3 + (r20_f j_2169)))))]) B 5 rfl (vp_in_nI (by omega) (by omega)) (by rw [nI_clamp (n := (8 * ((2 * j_2169) + ch))) (by omega)]; rfl) dX11_learns_192 ?_
                  refine g_iload B dX11_learns_193 3 rfl ?_
                  refine g_istore_n (lv' := [(3, .int (l3 + (r20_f j_2169))), (0, .ref m), (1, .int (nI ch)), (4, .int (nI j_2169)), (5, .int (l3 + (r20_f j_2169))), (7, .int (nI (8 * ((2 * j_2169) + ch)))), (8, .int (nI y_2183l8))]) B dX11_learns_195 rfl (by decide) rfl ?_
                  refine g_iinc (v := (nI j_2169 - 1)) (lv' := [(4, .int (nI j_2169 - 1)), (3, .int (l3 + (r20_f j_2169))), (0, .ref m), (1, .int (nI ch)), (5, .int (l3 + (r20_f j_2169))), (7, .int (nI (8 * ((2 * j_2169) + ch)))), (8, .int (nI y_2183l8))]) B dX11_learns_196 3 rfl (i_m1 _) (by decide) rfl ?_
                  refine g_goto (tgt := 10) B dX11_learns_199 (by decide) ?_
                  refine g_lvsub (lv' := [(0, .ref m), (1, .int (nI ch)), (3, .int (l3 + (r20_f j_2169))), (4, .int (nI j_2169 - 1))]) [2, 3, 1, 0] rfl ?_
                  exact ih (upd pr18_f ((2 * j_2169) + ch) x_2180) (upd y_2183pr19_f (8 * ((2 * j_2169) + ch)) (l3 + (r20_f j_2169))) (l3 + (r20_f j_2169)) j_2169 (by first | assumption | omega | decide | exact hCF _ (by omega)) (by omega) e_
                · replace e_ := fun β k_ => (e_ β k_).trans (if_neg c128_2182)
                  refine g_sipush (v := (-1024)) B dX11_learns_131 (by decide) ?_
                  refine g_goto (tgt := 139) B dX11_learns_134 (by decide) ?_
                  refine g_iast (ws' := [(m, .inr (11, mkF r m_1 m_4 m_9 m_10 m_14 m_15 m_25 m_26 m_27 m_28 m_29 m_31 m_32 m_33 m_35 m_36 m_37 m_38 m_39 m_40 m_42)), ((r 20), .inl (E.2.2.1 0, 8, .inl r20_f)), ((r 21), .inl (E.2.2.1 0, 8, .inl r21_f)), ((r 18), .inl (E.2.2.1 0, 16, .inl (upd pr18_f ((2 * j_2169) + ch) (-1024)))), ((r 17), .inl (E.2.2.1 0, 8, .inl r17_f)), ((r 19), .inl (E.2.2.1 0, 128, .inl pr19_f))]) B 3 rfl (vp_in_nI (by omega) (by omega)) (by rw [nI_clamp (n := ((2 * j_2169) + ch)) (by omega)]; rfl) dX11_learns_139 ?_
                  refine g_bipush (v := 8) B dX11_learns_140 (by decide) ?_
                  refine g_iload B dX11_learns_142 1 rfl ?_
                  refine g_imul B dX11_learns_144 ?_
                  refine g_ri (x' := nI (8 * ((2 * j_2169) + ch))) (pk_mul 8 ((2 * j_2169) + ch)) ?_
                  refine g_istore (lv' := [(7, .int (nI (8 * ((2 * j_2169) + ch)))), (6, .int (nI ((2 * j_2169) + ch))), (5, .int (l3 + (r20_f j_2169))), (0, .ref m), (1, .int (nI ch)), (3, .int l3), (4, .int (nI j_2169))]) B dX11_learns_145 (by decide) rfl ?_
                  refine g_bipush (v := 7) B dX11_learns_147 (by decide) ?_
                  refine g_istore (lv' := [(8, .int 7), (7, .int (nI (8 * ((2 * j_2169) + ch)))), (6, .int (nI ((2 * j_2169) + ch))), (5, .int (l3 + (r20_f j_2169))), (0, .ref m), (1, .int (nI ch)), (3, .int l3), (4, .int (nI j_2169))]) B dX11_learns_149 (by decide) rfl ?_
                  refine g_lvsub (lv' := [(0, .ref m), (1, .int (nI ch)), (4, .int (nI j_2169)), (5, .int (l3 + (r20_f j_2169))), (7, .int (nI (8 * ((2 * j_2169) + ch)))), (8, .int 7)]) [4, 5, 7, 3, 1, 0] rfl ?_
                  refine lp_wr_X11_learns_151 E m r m_1 m_4 m_9 m_10 m_14 m_15 m_25 m_26 m_27 m_28 m_29 m_31 m_32 m_33 m_35 m_36 m_37 m_38 m_39 m_40 m_42 r20_f r21_f r18_f r17_f r19_f ch re h0 h1 (upd pr18_f ((2 * j_2169) + ch) (-1024)) j_2169 (l3 + (r20_f j_2169)) (8 * ((2 * j_2169) + ch)) (by first | assumption | omega | decide | exact hCF _ (by omega)) _ B hr (fun y_2184pr19_f y_2184l8 y_2184k0 e_ => ?_) _ pr19_f 7 (by first | assumption | omega | decide | exact hCF _ (by omega)) (Nat.lt_succ_self _) e_
                  show G E X 9 [(m, .inr (11, mkF r m_1 m_4 m_9 m_10 m_14 m_15 m_25 m_26 m_27 m_28 m_29 m_31 m_32 m_33 m_35 m_36 m_37 m_38 m_39 m_40 m_42)), ((r 20), .inl (E.2.2.1 0, 8, .inl r20_f)), ((r 21), .inl (E.2.2.1 0, 8, .inl r21_f)), ((r 18), .inl (E.2.2.1 0, 16, .inl (upd pr18_f ((2 * j_2169) + ch) (-1024)))), ((r 17), .inl (E.2.2.1 0, 8, .inl r17_f)), ((r 19), .inl (E.2.2.1 0, 128, .inl y_2184pr19_f))] 0 0 [(0, .ref m), (1, .int (nI ch)), (4, .int (nI j_2169)), (5, .int (l3 + (r20_f j_2169))), (7, .int (nI (8 * ((2 * j_2169) + ch)))), (8, .int (nI y_2184l8))] 184 []
                  refine g_aload_n B dX11_learns_184 rfl 0 rfl ?_
                  refine g_get B 0 19 fl_X11_51 rfl mf_19 dX11_learns_185 ?_
                  refine g_iload B dX11_learns_188 4 rfl ?_
                  refine g_iload B dX11_learns_190 3 rfl ?_
                  refine g_iast (ws' := [(m, .inr (11, mkF r m_1 m_4 m_9 m_10 m_14 m_15 m_25 m_26 m_27 m_28 m_29 m_31 m_32 m_33 m_35 m_36 m_37 m_38 m_39 m_40 m_42)), ((r 20), .inl (E.2.2.1 0, 8, .inl r20_f)), ((r 21), .inl (E.2.2.1 0, 8, .inl r21_f)), ((r 18), .inl (E.2.2.1 0, 16, .inl (upd pr18_f ((2 * j_2169) + ch) (-1024)))), ((r 17), .inl (E.2.2.1 0, 8, .inl r17_f)), ((r 19), .inl (E.2.2.1 0, 128, .inl (upd y_2184pr19_f (8 * ((2 * j_2169) + ch)) (l3 + (r20_f j_2169)))))]) B 5 rfl (vp_in_nI (by omega) (by omega)) (by rw [nI_clamp (n := (8 * ((2 * j_2169) + ch))) (by omega)]; rfl) dX11_learns_192 ?_
                  refine g_iload B dX11_learns_193 3 rfl ?_
                  refine g_istore_n (lv' := [(3, .int (l3 + (r20_f j_2169))), (0, .ref m), (1, .int (nI ch)), (4, .int (nI j_2169)), (5, .int (l3 + (r20_f j_2169))), (7, .int (nI (8 * ((2 * j_2169) + ch)))), (8, .int (nI y_2184l8))]) B dX11_learns_195 rfl (by decide) rfl ?_
                  refine g_iinc (v := (nI j_2169 - 1)) (lv' := [(4, .int (nI j_2169 - 1)), (3, .int (l3 + (r20_f j_2169))), (0, .ref m), (1, .int (nI ch)), (5, .int (l3 + (r20_f j_2169))), (7, .int (nI (8 * ((2 * j_2169) + ch)))), (8, .int (nI y_2184l8))]) B dX11_learns_196 3 rfl (i_m1 _) (by decide) rfl ?_
                  refine g_goto (tgt := 10) B dX11_learns_199 (by decide) ?_
                  refine g_lvsub (lv' := [(0, .ref m), (1, .int (nI ch)), (3, .int (l3 + (r20_f j_2169))), (4, .int (nI j_2169 - 1))]) [2, 3, 1, 0] rfl ?_
                  exact ih (upd pr18_f ((2 * j_2169) + ch) (-1024)) (upd y_2184pr19_f (8 * ((2 * j_2169) + ch)) (l3 + (r20_f j_2169))) (l3 + (r20_f j_2169)) j_2169 (by first | assumption | omega | decide | exact hCF _ (by omega)) (by omega) e_
              · replace e_ := fun β k_ => (e_ β k_).trans (if_neg c114_2181)
                refine g_sipush (v := 1024) B dX11_learns_117 (by decide) ?_
                refine g_goto (tgt := 139) B dX11_learns_120 (by decide) ?_
                refine g_iast (ws' := [(m, .inr (11, mkF r m_1 m_4 m_9 m_10 m_14 m_15 m_25 m_26 m_27 m_28 m_29 m_31 m_32 m_33 m_35 m_36 m_37 m_38 m_39 m_40 m_42)), ((r 20), .inl (E.2.2.1 0, 8, .inl r20_f)), ((r 21), .inl (E.2.2.1 0, 8, .inl r21_f)), ((r 18), .inl (E.2.2.1 0, 16, .inl (upd pr18_f ((2 * j_2169) + ch) 1024))), ((r 17), .inl (E.2.2.1 0, 8, .inl r17_f)), ((r 19), .inl (E.2.2.1 0, 128, .inl pr19_f))]) B 3 rfl (vp_in_nI (by omega) (by omega)) (by rw [nI_clamp (n := ((2 * j_2169) + ch)) (by omega)]; rfl) dX11_learns_139 ?_
                refine g_bipush (v := 8) B dX11_learns_140 (by decide) ?_
                refine g_iload B dX11_learns_142 1 rfl ?_
                refine g_imul B dX11_learns_144 ?_
                refine g_ri (x' := nI (8 * ((2 * j_2169) + ch))) (pk_mul 8 ((2 * j_2169) + ch)) ?_
                refine g_istore (lv' := [(7, .int (nI (8 * ((2 * j_2169) + ch)))), (6, .int (nI ((2 * j_2169) + ch))), (5, .int (l3 + (r20_f j_2169))), (0, .ref m), (1, .int (nI ch)), (3, .int l3), (4, .int (nI j_2169))]) B dX11_learns_145 (by decide) rfl ?_
                refine g_bipush (v := 7) B dX11_learns_147 (by decide) ?_
                refine g_istore (lv' := [(8, .int 7), (7, .int (nI (8 * ((2 * j_2169) + ch)))), (6, .int (nI ((2 * j_2169) + ch))), (5, .int (l3 + (r20_f j_2169))), (0, .ref m), (1, .int (nI ch)), (3, .int l3), (4, .int (nI j_2169))]) B dX11_learns_149 (by decide) rfl ?_
                refine g_lvsub (lv' := [(0, .ref m), (1, .int (nI ch)), (4, .int (nI j_2169)), (5, .int (l3 + (r20_f j_2169))), (7, .int (nI (8 * ((2 * j_2169) + ch)))), (8, .int 7)]) [4, 5, 7, 3, 1, 0] rfl ?_
                refine lp_wr_X11_learns_151 E m r m_1 m_4 m_9 m_10 m_14 m_15 m_25 m_26 m_27 m_28 m_29 m_31 m_32 m_33 m_35 m_36 m_37 m_38 m_39 m_40 m_42 r20_f r21_f r18_f r17_f r19_f ch re h0 h1 (upd pr18_f ((2 * j_2169) + ch) 1024) j_2169 (l3 + (r20_f j_2169)) (8 * ((2 * j_2169) + ch)) (by first | assumption | omega | decide | exact hCF _ (by omega)) _ B hr (fun y_2185pr19_f y_2185l8 y_2185k0 e_ => ?_) _ pr19_f 7 (by first | assumption | omega | decide | exact hCF _ (by omega)) (Nat.lt_succ_self _) e_
                show G E X 9 [(m, .inr (11, mkF r m_1 m_4 m_9 m_10 m_14 m_15 m_25 m_26 m_27 m_28 m_29 m_31 m_32 m_33 m_35 m_36 m_37 m_38 m_39 m_40 m_42)), ((r 20), .inl (E.2.2.1 0, 8, .inl r20_f)), ((r 21), .inl (E.2.2.1 0, 8, .inl r21_f)), ((r 18), .inl (E.2.2.1 0, 16, .inl (upd pr18_f ((2 * j_2169) + ch) 1024))), ((r 17), .inl (E.2.2.1 0, 8, .inl r17_f)), ((r 19), .inl (E.2.2.1 0, 128, .inl y_2185pr19_f))] 0 0 [(0, .ref m), (1, .int (nI ch)), (4, .int (nI j_2169)), (5, .int (l3 + (r20_f j_2169))), (7, .int (nI (8 * ((2 * j_2169) + ch)))), (8, .int (nI y_2185l8))] 184 []
                refine g_aload_n B dX11_learns_184 rfl 0 rfl ?_
                refine g_get B 0 19 fl_X11_51 rfl mf_19 dX11_learns_185 ?_
                refine g_iload B dX11_learns_188 4 rfl ?_
                refine g_iload B dX11_learns_190 3 rfl ?_
                refine g_iast (ws' := [(m, .inr (11, mkF r m_1 m_4 m_9 m_10 m_14 m_15 m_25 m_26 m_27 m_28 m_29 m_31 m_32 m_33 m_35 m_36 m_37 m_38 m_39 m_40 m_42)), ((r 20), .inl (E.2.2.1 0, 8, .inl r20_f)), ((r 21), .inl (E.2.2.1 0, 8, .inl r21_f)), ((r 18), .inl (E.2.2.1 0, 16, .inl (upd pr18_f ((2 * j_2169) + ch) 1024))), ((r 17), .inl (E.2.2.1 0, 8, .inl r17_f)), ((r 19), .inl (E.2.2.1 0, 128, .inl (upd y_2185pr19_f (8 * ((2 * j_2169) + ch)) (l3 + (r20_f j_2169)))))]) B 5 rfl (vp_in_nI (by omega) (by omega)) (by rw [nI_clamp (n := (8 * ((2 * j_2169) + ch))) (by omega)]; rfl) dX11_learns_192 ?_
                refine g_iload B dX11_learns_193 3 rfl ?_
                refine g_istore_n (lv' := [(3, .int (l3 + (r20_f j_2169))), (0, .ref m), (1, .int (nI ch)), (4, .int (nI j_2169)), (5, .int (l3 + (r20_f j_2169))), (7, .int (nI (8 * ((2 * j_2169) + ch)))), (8, .int (nI y_2185l8))]) B dX11_learns_195 rfl (by decide) rfl ?_
                refine g_iinc (v := (nI j_2169 - 1)) (lv' := [(4, .int (nI j_2169 - 1)), (3, .int (l3 + (r20_f j_2169))), (0, .ref m), (1, .int (nI ch)), (5, .int (l3 + (r20_f j_2169))), (7, .int (nI (8 * ((2 * j_2169) + ch)))), (8, .int (nI y_2185l8))]) B dX11_learns_196 3 rfl (i_m1 _) (by decide) rfl ?_
                refine g_goto (tgt := 10) B dX11_learns_199 (by decide) ?_
                refine g_lvsub (lv' := [(0, .ref m), (1, .int (nI ch)), (3, .int (l3 + (r20_f j_2169))), (4, .int (nI j_2169 - 1))]) [2, 3, 1, 0] rfl ?_
                exact ih (upd pr18_f ((2 * j_2169) + ch) 1024) (upd y_2185pr19_f (8 * ((2 * j_2169) + ch)) (l3 + (r20_f j_2169))) (l3 + (r20_f j_2169)) j_2169 (by first | assumption | omega | decide | exact hCF _ (by omega)) (by omega) e_
            · replace e_ := fun β k_ => (e_ β k_).trans (if_neg c71_2179)
              refine g_iconst (v := 1) B dX11_learns_74 (by decide) ?_
              refine g_goto (tgt := 79) B dX11_learns_75 (by decide) ?_
              refine g_icmp_ne (tgt := 92) B dX11_learns_79 (by decide) (fun c79 => ?_) (fun h => absurd h (by decide))
              refine g_aload_n B dX11_learns_92 rfl 2 rfl ?_
              refine g_get B 0 17 fl_X11_45 rfl mf_17 dX11_learns_93 ?_
              refine g_iload B dX11_learns_96 5 rfl ?_
              refine g_iald B 4 rfl (vp_in_nI (by omega) (by omega)) dX11_learns_98 ?_
              refine g_ri (x' := (r17_f j_2169)) (congrArg r17_f (nI_clamp (n := j_2169) (by omega))) ?_
              refine g_ineg B dX11_learns_99 ?_
              refine g_iadd B dX11_learns_100 ?_
              refine g_topi (fun x_2186 ex_2186 => ?_)
              replace e_ := fun β k_ => (e_ β k_).trans (fnL_eq (x := x_2186) ex_2186.symm _)
              refine g_istore (lv' := [(7, .int x_2186), (6, .int (nI ((2 * j_2169) + ch))), (5, .int (l3 + (r20_f j_2169))), (0, .ref m), (1, .int (nI ch)), (3, .int l3), (4, .int (nI j_2169))]) B dX11_learns_101 (by decide) rfl ?_
              refine g_aload_n B dX11_learns_103 rfl 3 rfl ?_
              refine g_get B 0 18 fl_X11_48 rfl mf_18 dX11_learns_104 ?_
              refine g_iload B dX11_learns_107 1 rfl ?_
              refine g_iload B dX11_learns_109 0 rfl ?_
              refine g_sipush (v := 1024) B dX11_learns_111 (by decide) ?_
              refine g_icmp_le (tgt := 123) B dX11_learns_114 (by decide) (fun c114_2187 => ?_) (fun c114_2187 => ?_)
              · replace e_ := fun β k_ => (e_ β k_).trans (if_pos c114_2187)
                refine g_iload B dX11_learns_123 0 rfl ?_
                refine g_sipush (v := (-1024)) B dX11_learns_125 (by decide) ?_
                refine g_icmp_ge (tgt := 137) B dX11_learns_128 (by decide) (fun c128_2188 => ?_) (fun c128_2188 => ?_)
                · replace e_ := fun β k_ => (e_ β k_).trans (if_pos c128_2188)
                  refine g_iload B dX11_learns_137 0 rfl ?_
                  refine g_iast (ws' := [(m, .inr (11, mkF r m_1 m_4 m_9 m_10 m_14 m_15 m_25 m_26 m_27 m_28 m_29 m_31 m_32 m_33 m_35 m_36 m_37 m_38 m_39 m_40 m_42)), ((r 20), .inl (E.2.2.1 0, 8, .inl r20_f)), ((r 21), .inl (E.2.2.1 0, 8, .inl r21_f)), ((r 18), .inl (E.2.2.1 0, 16, .inl (upd pr18_f ((2 * j_2169) + ch) x_2186))), ((r 17), .inl (E.2.2.1 0, 8, .inl r17_f)), ((r 19), .inl (E.2.2.1 0, 128, .inl pr19_f))]) B 3 rfl (vp_in_nI (by omega) (by omega)) (by rw [nI_clamp (n := ((2 * j_2169) + ch)) (by omega)]; rfl) dX11_learns_139 ?_
                  refine g_bipush (v := 8) B dX11_learns_140 (by decide) ?_
                  refine g_iload B dX11_learns_142 1 rfl ?_
                  refine g_imul B dX11_learns_144 ?_
                  refine g_ri (x' := nI (8 * ((2 * j_2169) + ch))) (pk_mul 8 ((2 * j_2169) + ch)) ?_
                  refine g_istore (lv' := [(7, .int (nI (8 * ((2 * j_2169) + ch)))), (6, .int (nI ((2 * j_2169) + ch))), (5, .int (l3 + (r20_f j_2169))), (0, .ref m), (1, .int (nI ch)), (3, .int l3), (4, .int (nI j_2169))]) B dX11_learns_145 (by decide) rfl ?_
                  refine g_bipush (v := 7) B dX11_learns_147 (by decide) ?_
                  refine g_istore (lv' := [(8, .int 7), (7, .int (nI (8 * ((2 * j_2169) + ch)))), (6, .int (nI ((2 * j_2169) + ch))), (5, .int (l3 + (r20_f j_2169))), (0, .ref m), (1, .int (nI ch)), (3, .int l3), (4, .int (nI j_2169))]) B dX11_learns_149 (by decide) rfl ?_
                  refine g_lvsub (lv' := [(0, .ref m), (1, .int (nI ch)), (4, .int (nI j_2169)), (5, .int (l3 + (r20_f j_2169))), (7, .int (nI (8 * ((2 * j_2169) + ch)))), (8, .int 7)]) [4, 5, 7, 3, 1, 0] rfl ?_
                  refine lp_wr_X11_learns_151 E m r m_1 m_4 m_9 m_10 m_14 m_15 m_25 m_26 m_27 m_28 m_29 m_31 m_32 m_33 m_35 m_36 m_37 m_38 m_39 m_40 m_42 r20_f r21_f r18_f r17_f r19_f ch re h0 h1 (upd pr18_f ((2 * j_2169) + ch) x_2186) j_2169 (l3 + (r20_f j_2169)) (8 * ((2 * j_2169) + ch)) (by first | assumption | omega | decide | exact hCF _ (by omega)) _ B hr (fun y_2189pr19_f y_2189l8 y_2189k0 e_ => ?_) _ pr19_f 7 (by first | assumption | omega | decide | exact hCF _ (by omega)) (Nat.lt_succ_self _) e_
                  show G E X 9 [(m, .inr (11, mkF r m_1 m_4 m_9 m_10 m_14 m_15 m_25 m_26 m_27 m_28 m_29 m_31 m_32 m_33 m_35 m_36 m_37 m_38 m_39 m_40 m_42)), ((r 20), .inl (E.2.2.1 0, 8, .inl r20_f)), ((r 21), .inl (E.2.2.1 0, 8, .inl r21_f)), ((r 18), .inl (E.2.2.1 0, 16, .inl (upd pr18_f ((2 * j_2169) + ch) x_2186))), ((r 17), .inl (E.2.2.1 0, 8, .inl r17_f)), ((r 19), .inl (E.2.2.1 0, 128, .inl y_2189pr19_f))] 0 0 [(0, .ref m), (1, .int (nI ch)), (4, .int (nI j_2169)), (5, .int (l3 + (r20_f j_2169))), (7, .int (nI (8 * ((2 * j_2169) + ch)))), (8, .int (nI y_2189l8))] 184 []
                  refine g_aload_n B dX11_learns_184 rfl 0 rfl ?_
                  refine g_get B 0 19 fl_X11_51 rfl mf_19 dX11_learns_185 ?_
                  refine g_iload B dX11_learns_188 4 rfl ?_
                  refine g_iload B dX11_learns_190 3 rfl ?_
                  refine g_iast (ws' := [(m, .inr (11, mkF r m_1 m_4 m_9 m_10 m_14 m_15 m_25 m_26 m_27 m_28 m_29 m_31 m_32 m_33 m_35 m_36 m_37 m_38 m_39 m_40 m_42)), ((r 20), .inl (E.2.2.1 0, 8, .inl r20_f)), ((r 21), .inl (E.2.2.1 0, 8, .inl r21_f)), ((r 18), .inl (E.2.2.1 0, 16, .inl (upd pr18_f ((2 * j_2169) + ch) x_2186))), ((r 17), .inl (E.2.2.1 0, 8, .inl r17_f)), ((r 19), .inl (E.2.2.1 0, 128, .inl (upd y_2189pr19_f (8 * ((2 * j_2169) + ch)) (l3 + (r20_f j_2169)))))]) B 5 rfl (vp_in_nI (by omega) (by omega)) (by rw [nI_clamp (n := (8 * ((2 * j_2169) + ch))) (by omega)]; rfl) dX11_learns_192 ?_
                  refine g_iload B dX11_learns_193 3 rfl ?_
                  refine g_istore_n (lv' := [(3, .int (l3 + (r20_f j_2169))), (0, .ref m), (1, .int (nI ch)), (4, .int (nI j_2169)), (5, .int (l3 + (r20_f j_2169))), (7, .int (nI (8 * ((2 * j_2169) + ch)))), (8, .int (nI y_2189l8))]) B dX11_learns_195 rfl (by decide) rfl ?_
                  refine g_iinc (v := (nI j_2169 - 1)) (lv' := [(4, .int (nI j_2169 - 1)), (3, .int (l3 + (r20_f j_2169))), (0, .ref m), (1, .int (nI ch)), (5, .int (l3 + (r20_f j_2169))), (7, .int (nI (8 * ((2 * j_2169) + ch)))), (8, .int (nI y_2189l8))]) B dX11_learns_196 3 rfl (i_m1 _) (by decide) rfl ?_
                  refine g_goto (tgt := 10) B dX11_learns_199 (by decide) ?_
                  refine g_lvsub (lv' := [(0, .ref m), (1, .int (nI ch)), (3, .int (l3 + (r20_f j_2169))), (4, .int (nI j_2169 - 1))]) [2, 3, 1, 0] rfl ?_
                  exact ih (upd pr18_f ((2 * j_2169) + ch) x_2186) (upd y_2189pr19_f (8 * ((2 * j_2169) + ch)) (l3 + (r20_f j_2169))) (l3 + (r20_f j_2169)) j_2169 (by first | assumption | omega | decide | exact hCF _ (by omega)) (by omega) e_
                · replace e_ := fun β k_ => (e_ β k_).trans (if_neg c128_2188)
                  refine g_sipush (v := (-1024)) B dX11_learns_131 (by decide) ?_
                  refine g_goto (tgt := 139) B dX11_learns_134 (by decide) ?_
                  refine g_iast (ws' := [(m, .inr (11, mkF r m_1 m_4 m_9 m_10 m_14 m_15 m_25 m_26 m_27 m_28 m_29 m_31 m_32 m_33 m_35 m_36 m_37 m_38 m_39 m_40 m_42)), ((r 20), .inl (E.2.2.1 0, 8, .inl r20_f)), ((r 21), .inl (E.2.2.1 0, 8, .inl r21_f)), ((r 18), .inl (E.2.2.1 0, 16, .inl (upd pr18_f ((2 * j_2169) + ch) (-1024)))), ((r 17), .inl (E.2.2.1 0, 8, .inl r17_f)), ((r 19), .inl (E.2.2.1 0, 128, .inl pr19_f))]) B 3 rfl (vp_in_nI (by omega) (by omega)) (by rw [nI_clamp (n := ((2 * j_2169) + ch)) (by omega)]; rfl) dX11_learns_139 ?_
                  refine g_bipush (v := 8) B dX11_learns_140 (by decide) ?_
                  refine g_iload B dX11_learns_142 1 rfl ?_
                  refine g_imul B dX11_learns_144 ?_
                  refine g_ri (x' := nI (8 * ((2 * j_2169) + ch))) (pk_mul 8 ((2 * j_2169) + ch)) ?_
                  refine g_istore (lv' := [(7, .int (nI (8 * ((2 * j_2169) + ch)))), (6, .int (nI ((2 * j_2169) + ch))), (5, .int (l3 + (r20_f j_2169))), (0, .ref m), (1, .int (nI ch)), (3, .int l3), (4, .int (nI j_2169))]) B dX11_learns_145 (by decide) rfl ?_
                  refine g_bipush (v := 7) B dX11_learns_147 (by decide) ?_
                  refine g_istore (lv' := [(8, .int 7), (7, .int (nI (8 * ((2 * j_2169) + ch)))), (6, .int (nI ((2 * j_2169) + ch))), (5, .int (l3 + (r20_f j_2169))), (0, .ref m), (1, .int (nI ch)), (3, .int l3), (4, .int (nI j_2169))]) B dX11_learns_149 (by decide) rfl ?_
                  refine g_lvsub (lv' := [(0, .ref m), (1, .int (nI ch)), (4, .int (nI j_2169)), (5, .int (l3 + (r20_f j_2169))), (7, .int (nI (8 * ((2 * j_2169) + ch)))), (8, .int 7)]) [4, 5, 7, 3, 1, 0] rfl ?_
                  refine lp_wr_X11_learns_151 E m r m_1 m_4 m_9 m_10 m_14 m_15 m_25 m_26 m_27 m_28 m_29 m_31 m_32 m_33 m_35 m_36 m_37 m_38 m_39 m_40 m_42 r20_f r21_f r18_f r17_f r19_f ch re h0 h1 (upd pr18_f ((2 * j_2169) + ch) (-1024)) j_2169 (l3 + (r20_f j_2169)) (8 * ((2 * j_2169) + ch)) (by first | assumption | omega | decide | exact hCF _ (by omega)) _ B hr (fun y_2190pr19_f y_2190l8 y_2190k0 e_ => ?_) _ pr19_f 7 (by first | assumption | omega | decide | exact hCF _ (by omega)) (Nat.lt_succ_self _) e_
                  show G E X 9 [(m, .inr (11, mkF r m_1 m_4 m_9 m_10 m_14 m_15 m_25 m_26 m_27 m_28 m_29 m_31 m_32 m_33 m_35 m_36 m_37 m_38 m_39 m_40 m_42)), ((r 20), .inl (E.2.2.1 0, 8, .inl r20_f)), ((r 21), .inl (E.2.2.1 0, 8, .inl r21_f)), ((r 18), .inl (E.2.2.1 0, 16, .inl (upd pr18_f ((2 * j_2169) + ch) (-1024)))), ((r 17), .inl (E.2.2.1 0, 8, .inl r17_f)), ((r 19), .inl (E.2.2.1 0, 128, .inl y_2190pr19_f))] 0 0 [(0, .ref m), (1, .int (nI ch)), (4, .int (nI j_2169)), (5, .int (l3 + (r20_f j_2169))), (7, .int (nI (8 * ((2 * j_2169) + ch)))), (8, .int (nI y_2190l8))] 184 []
                  refine g_aload_n B dX11_learns_184 rfl 0 rfl ?_
                  refine g_get B 0 19 fl_X11_51 rfl mf_19 dX11_learns_185 ?_
                  refine g_iload B dX11_learns_188 4 rfl ?_
                  refine g_iload B dX11_learns_190 3 rfl ?_
                  refine g_iast (ws' := [(m, .inr (11, mkF r m_1 m_4 m_9 m_10 m_14 m_15 m_25 m_26 m_27 m_28 m_29 m_31 m_32 m_33 m_35 m_36 m_37 m_38 m_39 m_40 m_42)), ((r 20), .inl (E.2.2.1 0, 8, .inl r20_f)), ((r 21), .inl (E.2.2.1 0, 8, .inl r21_f)), ((r 18), .inl (E.2.2.1 0, 16, .inl (upd pr18_f ((2 * j_2169) + ch) (-1024)))), ((r 17), .inl (E.2.2.1 0, 8, .inl r17_f)), ((r 19), .inl (E.2.2.1 0, 128, .inl (upd y_2190pr19_f (8 * ((2 * j_2169) + ch)) (l3 + (r20_f j_2169)))))]) B 5 rfl (vp_in_nI (by omega) (by omega)) (by rw [nI_clamp (n := (8 * ((2 * j_2169) + ch))) (by omega)]; rfl) dX11_learns_192 ?_
                  refine g_iload B dX11_learns_193 3 rfl ?_
                  refine g_istore_n (lv' := [(3, .int (l3 + (r20_f j_2169))), (0, .ref m), (1, .int (nI ch)), (4, .int (nI j_2169)), (5, .int (l3 + (r20_f j_2169))), (7, .int (nI (8 * ((2 * j_2169) + ch)))), (8, .int (nI y_2190l8))]) B dX11_learns_195 rfl (by decide) rfl ?_
                  refine g_iinc (v := (nI j_2169 - 1)) (lv' := [(4, .int (nI j_2169 - 1)), (3, .int (l3 + (r20_f j_2169))), (0, .ref m), (1, .int (nI ch)), (5, .int (l3 + (r20_f j_2169))), (7, .int (nI (8 * ((2 * j_2169) + ch)))), (8, .int (nI y_2190l8))]) B dX11_learns_196 3 rfl (i_m1 _) (by decide) rfl ?_
                  refine g_goto (tgt := 10) B dX11_learns_199 (by decide) ?_
                  refine g_lvsub (lv' := [(0, .ref m), (1, .int (nI ch)), (3, .int (l3 + (r20_f j_2169))), (4, .int (nI j_2169 - 1))]) [2, 3, 1, 0] rfl ?_
                  exact ih (upd pr18_f ((2 * j_2169) + ch) (-1024)) (upd y_2190pr19_f (8 * ((2 * j_2169) + ch)) (l3 + (r20_f j_2169))) (l3 + (r20_f j_2169)) j_2169 (by first | assumption | omega | decide | exact hCF _ (by omega)) (by omega) e_
              · replace e_ := fun β k_ => (e_ β k_).trans (if_neg c114_2187)
                refine g_sipush (v := 1024) B dX11_learns_117 (by decide) ?_
                refine g_goto (tgt := 139) B dX11_learns_120 (by decide) ?_
                refine g_iast (ws' := [(m, .inr (11, mkF r m_1 m_4 m_9 m_10 m_14 m_15 m_25 m_26 m_27 m_28 m_29 m_31 m_32 m_33 m_35 m_36 m_37 m_38 m_39 m_40 m_42)), ((r 20), .inl (E.2.2.1 0, 8, .inl r20_f)), ((r 21), .inl (E.2.2.1 0, 8, .inl r21_f)), ((r 18), .inl (E.2.2.1 0, 16, .inl (upd pr18_f ((2 * j_2169) + ch) 1024))), ((r 17), .inl (E.2.2.1 0, 8, .inl r17_f)), ((r 19), .inl (E.2.2.1 0, 128, .inl pr19_f))]) B 3 rfl (vp_in_nI (by omega) (by omega)) (by rw [nI_clamp (n := ((2 * j_2169) + ch)) (by omega)]; rfl) dX11_learns_139 ?_
                refine g_bipush (v := 8) B dX11_learns_140 (by decide) ?_
                refine g_iload B dX11_learns_142 1 rfl ?_
                refine g_imul B dX11_learns_144 ?_
                refine g_ri (x' := nI (8 * ((2 * j_2169) + ch))) (pk_mul 8 ((2 * j_2169) + ch)) ?_
                refine g_istore (lv' := [(7, .int (nI (8 * ((2 * j_2169) + ch)))), (6, .int (nI ((2 * j_2169) + ch))), (5, .int (l3 + (r20_f j_2169))), (0, .ref m), (1, .int (nI ch)), (3, .int l3), (4, .int (nI j_2169))]) B dX11_learns_145 (by decide) rfl ?_
                refine g_bipush (v := 7) B dX11_learns_147 (by decide) ?_
                refine g_istore (lv' := [(8, .int 7), (7, .int (nI (8 * ((2 * j_2169) + ch)))), (6, .int (nI ((2 * j_2169) + ch))), (5, .int (l3 + (r20_f j_2169))), (0, .ref m), (1, .int (nI ch)), (3, .int l3), (4, .int (nI j_2169))]) B dX11_learns_149 (by decide) rfl ?_
                refine g_lvsub (lv' := [(0, .ref m), (1, .int (nI ch)), (4, .int (nI j_2169)), (5, .int (l3 + (r20_f j_2169))), (7, .int (nI (8 * ((2 * j_2169) + ch)))), (8, .int 7)]) [4, 5, 7, 3, 1, 0] rfl ?_
                refine lp_wr_X11_learns_151 E m r m_1 m_4 m_9 m_10 m_14 m_15 m_25 m_26 m_27 m_28 m_29 m_31 m_32 m_33 m_35 m_36 m_37 m_38 m_39 m_40 m_42 r20_f r21_f r18_f r17_f r19_f ch re h0 h1 (upd pr18_f ((2 * j_2169) + ch) 1024) j_2169 (l3 + (r20_f j_2169)) (8 * ((2 * j_2169) + ch)) (by first | assumption | omega | decide | exact hCF _ (by omega)) _ B hr (fun y_2191pr19_f y_2191l8 y_2191k0 e_ => ?_) _ pr19_f 7 (by first | assumption | omega | decide | exact hCF _ (by omega)) (Nat.lt_succ_self _) e_
                show G E X 9 [(m, .inr (11, mkF r m_1 m_4 m_9 m_10 m_14 m_15 m_25 m_26 m_27 m_28 m_29 m_31 m_32 m_33 m_35 m_36 m_37 m_38 m_39 m_40 m_42)), ((r 20), .inl (E.2.2.1 0, 8, .inl r20_f)), ((r 21), .inl (E.2.2.1 0, 8, .inl r21_f)), ((r 18), .inl (E.2.2.1 0, 16, .inl (upd pr18_f ((2 * j_2169) + ch) 1024))), ((r 17), .inl (E.2.2.1 0, 8, .inl r17_f)), ((r 19), .inl (E.2.2.1 0, 128, .inl y_2191pr19_f))] 0 0 [(0, .ref m), (1, .int (nI ch)), (4, .int (nI j_2169)), (5, .int (l3 + (r20_f j_2169))), (7, .int (nI (8 * ((2 * j_2169) + ch)))), (8, .int (nI y_2191l8))] 184 []
                refine g_aload_n B dX11_learns_184 rfl 0 rfl ?_
                refine g_get B 0 19 fl_X11_51 rfl mf_19 dX11_learns_185 ?_
                refine g_iload B dX11_learns_188 4 rfl ?_
                refine g_iload B dX11_learns_190 3 rfl ?_
                refine g_iast (ws' := [(m, .inr (11, mkF r m_1 m_4 m_9 m_10 m_14 m_15 m_25 m_26 m_27 m_28 m_29 m_31 m_32 m_33 m_35 m_36 m_37 m_38 m_39 m_40 m_42)), ((r 20), .inl (E.2.2.1 0, 8, .inl r20_f)), ((r 21), .inl (E.2.2.1 0, 8, .inl r21_f)), ((r 18), .inl (E.2.2.1 0, 16, .inl (upd pr18_f ((2 * j_2169) + ch) 1024))), ((r 17), .inl (E.2.2.1 0, 8, .inl r17_f)), ((r 19), .inl (E.2.2.1 0, 128, .inl (upd y_2191pr19_f (8 * ((2 * j_2169) + ch)) (l3 + (r20_f j_2169)))))]) B 5 rfl (vp_in_nI (by omega) (by omega)) (by rw [nI_clamp (n := (8 * ((2 * j_2169) + ch))) (by omega)]; rfl) dX11_learns_192 ?_
                refine g_iload B dX11_learns_193 3 rfl ?_
                refine g_istore_n (lv' := [(3, .int (l3 + (r20_f j_2169))), (0, .ref m), (1, .int (nI ch)), (4, .int (nI j_2169)), (5, .int (l3 + (r20_f j_2169))), (7, .int (nI (8 * ((2 * j_2169) + ch)))), (8, .int (nI y_2191l8))]) B dX11_learns_195 rfl (by decide) rfl ?_
                refine g_iinc (v := (nI j_2169 - 1)) (lv' := [(4, .int (nI j_2169 - 1)), (3, .int (l3 + (r20_f j_2169))), (0, .ref m), (1, .int (nI ch)), (5, .int (l3 + (r20_f j_2169))), (7, .int (nI (8 * ((2 * j_2169) + ch)))), (8, .int (nI y_2191l8))]) B dX11_learns_196 3 rfl (i_m1 _) (by decide) rfl ?_
                refine g_goto (tgt := 10) B dX11_learns_199 (by decide) ?_
                refine g_lvsub (lv' := [(0, .ref m), (1, .int (nI ch)), (3, .int (l3 + (r20_f j_2169))), (4, .int (nI j_2169 - 1))]) [2, 3, 1, 0] rfl ?_
                exact ih (upd pr18_f ((2 * j_2169) + ch) 1024) (upd y_2191pr19_f (8 * ((2 * j_2169) + ch)) (l3 + (r20_f j_2169))) (l3 + (r20_f j_2169)) j_2169 (by first | assumption | omega | decide | exact hCF _ (by omega)) (by omega) e_
          · replace e_ := fun β k_ => (e_ β k_).trans (if_neg c62_2178)
            refine g_iconst (v := 1) B dX11_learns_65 (by decide) ?_
            refine g_goto (tgt := 70) B dX11_learns_66 (by decide) ?_
            refine g_iload_n B dX11_learns_70 rfl 4 rfl ?_
            refine g_if_ge (tgt := 78) B dX11_learns_71 (by decide) (fun c71_2192 => ?_) (fun c71_2192 => ?_)
            · replace e_ := fun β k_ => (e_ β k_).trans (if_pos c71_2192)
              refine g_iconst (v := 0) B dX11_learns_78 (by decide) ?_
              refine g_icmp_ne (tgt := 92) B dX11_learns_79 (by decide) (fun c79 => ?_) (fun h => absurd h (by decide))
              refine g_aload_n B dX11_learns_92 rfl 2 rfl ?_
              refine g_get B 0 17 fl_X11_45 rfl mf_17 dX11_learns_93 ?_
              refine g_iload B dX11_learns_96 5 rfl ?_
              refine g_iald B 4 rfl (vp_in_nI (by omega) (by omega)) dX11_learns_98 ?_
              refine g_ri (x' := (r17_f j_2169)) (congrArg r17_f (nI_clamp (n := j_2169) (by omega))) ?_
              refine g_ineg B dX11_learns_99 ?_
              refine g_iadd B dX11_learns_100 ?_
              refine g_topi (fun x_2193 ex_2193 => ?_)
              replace e_ := fun β k_ => (e_ β k_).trans (fnL_eq (x := x_2193) ex_2193.symm _)
              refine g_istore (lv' := [(7, .int x_2193), (6, .int (nI ((2 * j_2169) + ch))), (5, .int (l3 + (r20_f j_2169))), (0, .ref m), (1, .int (nI ch)), (3, .int l3), (4, .int (nI j_2169))]) B dX11_learns_101 (by decide) rfl ?_
              refine g_aload_n B dX11_learns_103 rfl 3 rfl ?_
              refine g_get B 0 18 fl_X11_48 rfl mf_18 dX11_learns_104 ?_
              refine g_iload B dX11_learns_107 1 rfl ?_
              refine g_iload B dX11_learns_109 0 rfl ?_
              refine g_sipush (v := 1024) B dX11_learns_111 (by decide) ?_
              refine g_icmp_le (tgt := 123) B dX11_learns_114 (by decide) (fun c114_2194 => ?_) (fun c114_2194 => ?_)
              · replace e_ := fun β k_ => (e_ β k_).trans (if_pos c114_2194)
                refine g_iload B dX11_learns_123 0 rfl ?_
                refine g_sipush (v := (-1024)) B dX11_learns_125 (by decide) ?_
                refine g_icmp_ge (tgt := 137) B dX11_learns_128 (by decide) (fun c128_2195 => ?_) (fun c128_2195 => ?_)
                · replace e_ := fun β k_ => (e_ β k_).trans (if_pos c128_2195)
                  refine g_iload B dX11_learns_137 0 rfl ?_
                  refine g_iast (ws' := [(m, .inr (11, mkF r m_1 m_4 m_9 m_10 m_14 m_15 m_25 m_26 m_27 m_28 m_29 m_31 m_32 m_33 m_35 m_36 m_37 m_38 m_39 m_40 m_42)), ((r 20), .inl (E.2.2.1 0, 8, .inl r20_f)), ((r 21), .inl (E.2.2.1 0, 8, .inl r21_f)), ((r 18), .inl (E.2.2.1 0, 16, .inl (upd pr18_f ((2 * j_2169) + ch) x_2193))), ((r 17), .inl (E.2.2.1 0, 8, .inl r17_f)), ((r 19), .inl (E.2.2.1 0, 128, .inl pr19_f))]) B 3 rfl (vp_in_nI (by omega) (by omega)) (by rw [nI_clamp (n := ((2 * j_2169) + ch)) (by omega)]; rfl) dX11_learns_139 ?_
                  refine g_bipush (v := 8) B dX11_learns_140 (by decide) ?_
                  refine g_iload B dX11_learns_142 1 rfl ?_
                  refine g_imul B dX11_learns_144 ?_
                  refine g_ri (x' := nI (8 * ((2 * j_2169) + ch))) (pk_mul 8 ((2 * j_2169) + ch)) ?_
                  refine g_istore (lv' := [(7, .int (nI (8 * ((2 * j_2169) + ch)))), (6, .int (nI ((2 * j_2169) + ch))), (5, .int (l3 + (r20_f j_2169))), (0, .ref m), (1, .int (nI ch)), (3, .int l3), (4, .int (nI j_2169))]) B dX11_learns_145 (by decide) rfl ?_
                  refine g_bipush (v := 7) B dX11_learns_147 (by decide) ?_
                  refine g_istore (lv' := [(8, .int 7), (7, .int (nI (8 * ((2 * j_2169) + ch)))), (6, .int (nI ((2 * j_2169) + ch))), (5, .int (l3 + (r20_f j_2169))), (0, .ref m), (1, .int (nI ch)), (3, .int l3), (4, .int (nI j_2169))]) B dX11_learns_149 (by decide) rfl ?_
                  refine g_lvsub (lv' := [(0, .ref m), (1, .int (nI ch)), (4, .int (nI j_2169)), (5, .int (l3 + (r20_f j_2169))), (7, .int (nI (8 * ((2 * j_2169) + ch)))), (8, .int 7)]) [4, 5, 7, 3, 1, 0] rfl ?_
                  refine lp_wr_X11_learns_151 E m r m_1 m_4 m_9 m_10 m_14 m_15 m_25 m_26 m_27 m_28 m_29 m_31 m_32 m_33 m_35 m_36 m_37 m_38 m_39 m_40 m_42 r20_f r21_f r18_f r17_f r19_f ch re h0 h1 (upd pr18_f ((2 * j_2169) + ch) x_2193) j_2169 (l3 + (r20_f j_2169)) (8 * ((2 * j_2169) + ch)) (by first | assumption | omega | decide | exact hCF _ (by omega)) _ B hr (fun y_2196pr19_f y_2196l8 y_2196k0 e_ => ?_) _ pr19_f 7 (by first | assumption | omega | decide | exact hCF _ (by omega)) (Nat.lt_succ_self _) e_
                  show G E X 9 [(m, .inr (11, mkF r m_1 m_4 m_9 m_10 m_14 m_15 m_25 m_26 m_27 m_28 m_29 m_31 m_32 m_33 m_35 m_36 m_37 m_38 m_39 m_40 m_42)), ((r 20), .inl (E.2.2.1 0, 8, .inl r20_f)), ((r 21), .inl (E.2.2.1 0, 8, .inl r21_f)), ((r 18), .inl (E.2.2.1 0, 16, .inl (upd pr18_f ((2 * j_2169) + ch) x_2193))), ((r 17), .inl (E.2.2.1 0, 8, .inl r17_f)), ((r 19), .inl (E.2.2.1 0, 128, .inl y_2196pr19_f))] 0 0 [(0, .ref m), (1, .int (nI ch)), (4, .int (nI j_2169)), (5, .int (l3 + (r20_f j_2169))), (7, .int (nI (8 * ((2 * j_2169) + ch)))), (8, .int (nI y_2196l8))] 184 []
                  refine g_aload_n B dX11_learns_184 rfl 0 rfl ?_
                  refine g_get B 0 19 fl_X11_51 rfl mf_19 dX11_learns_185 ?_
                  refine g_iload B dX11_learns_188 4 rfl ?_
                  refine g_iload B dX11_learns_190 3 rfl ?_
                  refine g_iast (ws' := [(m, .inr (11, mkF r m_1 m_4 m_9 m_10 m_14 m_15 m_25 m_26 m_27 m_28 m_29 m_31 m_32 m_33 m_35 m_36 m_37 m_38 m_39 m_40 m_42)), ((r 20), .inl (E.2.2.1 0, 8, .inl r20_f)), ((r 21), .inl (E.2.2.1 0, 8, .inl r21_f)), ((r 18), .inl (E.2.2.1 0, 16, .inl (upd pr18_f ((2 * j_2169) + ch) x_2193))), ((r 17), .inl (E.2.2.1 0, 8, .inl r17_f)), ((r 19), .inl (E.2.2.1 0, 128, .inl (upd y_2196pr19_f (8 * ((2 * j_2169) + ch)) (l3 + (r20_f j_2169)))))]) B 5 rfl (vp_in_nI (by omega) (by omega)) (by rw [nI_clamp (n := (8 * ((2 * j_2169) + ch))) (by omega)]; rfl) dX11_learns_192 ?_
                  refine g_iload B dX11_learns_193 3 rfl ?_
                  refine g_istore_n (lv' := [(3, .int (l3 + (r20_f j_2169))), (0, .ref m), (1, .int (nI ch)), (4, .int (nI j_2169)), (5, .int (l3 + (r20_f j_2169))), (7, .int (nI (8 * ((2 * j_2169) + ch)))), (8, .int (nI y_2196l8))]) B dX11_learns_195 rfl (by decide) rfl ?_
                  refine g_iinc (v := (nI j_2169 - 1)) (lv' := [(4, .int (nI j_2169 - 1)), (3, .int (l3 + (r20_f j_2169))), (0, .ref m), (1, .int (nI ch)), (5, .int (l3 + (r20_f j_2169))), (7, .int (nI (8 * ((2 * j_2169) + ch)))), (8, .int (nI y_2196l8))]) B dX11_learns_196 3 rfl (i_m1 _) (by decide) rfl ?_
                  refine g_goto (tgt := 10) B dX11_learns_199 (by decide) ?_
                  refine g_lvsub (lv' := [(0, .ref m), (1, .int (nI ch)), (3, .int (l3 + (r20_f j_2169))), (4, .int (nI j_2169 - 1))]) [2, 3, 1, 0] rfl ?_
                  exact ih (upd pr18_f ((2 * j_2169) + ch) x_2193) (upd y_2196pr19_f (8 * ((2 * j_2169) + ch)) (l3 + (r20_f j_2169))) (l3 + (r20_f j_2169)) j_2169 (by first | assumption | omega | decide | exact hCF _ (by omega)) (by omega) e_
                · replace e_ := fun β k_ => (e_ β k_).trans (if_neg c128_2195)
                  refine g_sipush (v := (-1024)) B dX11_learns_131 (by decide) ?_
                  refine g_goto (tgt := 139) B dX11_learns_134 (by decide) ?_
                  refine g_iast (ws' := [(m, .inr (11, mkF r m_1 m_4 m_9 m_10 m_14 m_15 m_25 m_26 m_27 m_28 m_29 m_31 m_32 m_33 m_35 m_36 m_37 m_38 m_39 m_40 m_42)), ((r 20), .inl (E.2.2.1 0, 8, .inl r20_f)), ((r 21), .inl (E.2.2.1 0, 8, .inl r21_f)), ((r 18), .inl (E.2.2.1 0, 16, .inl (upd pr18_f ((2 * j_2169) + ch) (-1024)))), ((r 17), .inl (E.2.2.1 0, 8, .inl r17_f)), ((r 19), .inl (E.2.2.1 0, 128, .inl pr19_f))]) B 3 rfl (vp_in_nI (by omega) (by omega)) (by rw [nI_clamp (n := ((2 * j_2169) + ch)) (by omega)]; rfl) dX11_learns_139 ?_
                  refine g_bipush (v := 8) B dX11_learns_140 (by decide) ?_
                  refine g_iload B dX11_learns_142 1 rfl ?_
                  refine g_imul B dX11_learns_144 ?_
                  refine g_ri (x' := nI (8 * ((2 * j_2169) + ch))) (pk_mul 8 ((2 * j_2169) + ch)) ?_
                  refine g_istore (lv' := [(7, .int (nI (8 * ((2 * j_2169) + ch)))), (6, .int (nI ((2 * j_2169) + ch))), (5, .int (l3 + (r20_f j_2169))), (0, .ref m), (1, .int (nI ch)), (3, .int l3), (4, .int (nI j_2169))]) B dX11_learns_145 (by decide) rfl ?_
                  refine g_bipush (v := 7) B dX11_learns_147 (by decide) ?_
                  refine g_istore (lv' := [(8, .int 7), (7, .int (nI (8 * ((2 * j_2169) + ch)))), (6, .int (nI ((2 * j_2169) + ch))), (5, .int (l3 + (r20_f j_2169))), (0, .ref m), (1, .int (nI ch)), (3, .int l3), (4, .int (nI j_2169))]) B dX11_learns_149 (by decide) rfl ?_
                  refine g_lvsub (lv' := [(0, .ref m), (1, .int (nI ch)), (4, .int (nI j_2169)), (5, .int (l3 + (r20_f j_2169))), (7, .int (nI (8 * ((2 * j_2169) + ch)))), (8, .int 7)]) [4, 5, 7, 3, 1, 0] rfl ?_
                  refine lp_wr_X11_learns_151 E m r m_1 m_4 m_9 m_10 m_14 m_15 m_25 m_26 m_27 m_28 m_29 m_31 m_32 m_33 m_35 m_36 m_37 m_38 m_39 m_40 m_42 r20_f r21_f r18_f r17_f r19_f ch re h0 h1 (upd pr18_f ((2 * j_2169) + ch) (-1024)) j_2169 (l3 + (r20_f j_2169)) (8 * ((2 * j_2169) + ch)) (by first | assumption | omega | decide | exact hCF _ (by omega)) _ B hr (fun y_2197pr19_f y_2197l8 y_2197k0 e_ => ?_) _ pr19_f 7 (by first | assumption | omega | decide | exact hCF _ (by omega)) (Nat.lt_succ_self _) e_
                  show G E X 9 [(m, .inr (11, mkF r m_1 m_4 m_9 m_10 m_14 m_15 m_25 m_26 m_27 m_28 m_29 m_31 m_32 m_33 m_35 m_36 m_37 m_38 m_39 m_40 m_42)), ((r 20), .inl (E.2.2.1 0, 8, .inl r20_f)), ((r 21), .inl (E.2.2.1 0, 8, .inl r21_f)), ((r 18), .inl (E.2.2.1 0, 16, .inl (upd pr18_f ((2 * j_2169) + ch) (-1024)))), ((r 17), .inl (E.2.2.1 0, 8, .inl r17_f)), ((r 19), .inl (E.2.2.1 0, 128, .inl y_2197pr19_f))] 0 0 [(0, .ref m), (1, .int (nI ch)), (4, .int (nI j_2169)), (5, .int (l3 + (r20_f j_2169))), (7, .int (nI (8 * ((2 * j_2169) + ch)))), (8, .int (nI y_2197l8))] 184 []
                  refine g_aload_n B dX11_learns_184 rfl 0 rfl ?_
                  refine g_get B 0 19 fl_X11_51 rfl mf_19 dX11_learns_185 ?_
                  refine g_iload B dX11_learns_188 4 rfl ?_
                  refine g_iload B dX11_learns_190 3 rfl ?_
                  refine g_iast (ws' := [(m, .inr (11, mkF r m_1 m_4 m_9 m_10 m_14 m_15 m_25 m_26 m_27 m_28 m_29 m_31 m_32 m_33 m_35 m_36 m_37 m_38 m_39 m_40 m_42)), ((r 20), .inl (E.2.2.1 0, 8, .inl r20_f)), ((r 21), .inl (E.2.2.1 0, 8, .inl r21_f)), ((r 18), .inl (E.2.2.1 0, 16, .inl (upd pr18_f ((2 * j_2169) + ch) (-1024)))), ((r 17), .inl (E.2.2.1 0, 8, .inl r17_f)), ((r 19), .inl (E.2.2.1 0, 128, .inl (upd y_2197pr19_f (8 * ((2 * j_2169) + ch)) (l3 + (r20_f j_2169)))))]) B 5 rfl (vp_in_nI (by omega) (by omega)) (by rw [nI_clamp (n := (8 * ((2 * j_2169) + ch))) (by omega)]; rfl) dX11_learns_192 ?_
                  refine g_iload B dX11_learns_193 3 rfl ?_
                  refine g_istore_n (lv' := [(3, .int (l3 + (r20_f j_2169))), (0, .ref m), (1, .int (nI ch)), (4, .int (nI j_2169)), (5, .int (l3 + (r20_f j_2169))), (7, .int (nI (8 * ((2 * j_2169) + ch)))), (8, .int (nI y_2197l8))]) B dX11_learns_195 rfl (by decide) rfl ?_
                  refine g_iinc (v := (nI j_2169 - 1)) (lv' := [(4, .int (nI j_2169 - 1)), (3, .int (l3 + (r20_f j_2169))), (0, .ref m), (1, .int (nI ch)), (5, .int (l3 + (r20_f j_2169))), (7, .int (nI (8 * ((2 * j_2169) + ch)))), (8, .int (nI y_2197l8))]) B dX11_learns_196 3 rfl (i_m1 _) (by decide) rfl ?_
                  refine g_goto (tgt := 10) B dX11_learns_199 (by decide) ?_
                  refine g_lvsub (lv' := [(0, .ref m), (1, .int (nI ch)), (3, .int (l3 + (r20_f j_2169))), (4, .int (nI j_2169 - 1))]) [2, 3, 1, 0] rfl ?_
                  exact ih (upd pr18_f ((2 * j_2169) + ch) (-1024)) (upd y_2197pr19_f (8 * ((2 * j_2169) + ch)) (l3 + (r20_f j_2169))) (l3 + (r20_f j_2169)) j_2169 (by first | assumption | omega | decide | exact hCF _ (by omega)) (by omega) e_
              · replace e_ := fun β k_ => (e_ β k_).trans (if_neg c114_2194)
                refine g_sipush (v := 1024) B dX11_learns_117 (by decide) ?_
                refine g_goto (tgt := 139) B dX11_learns_120 (by decide) ?_
                refine g_iast (ws' := [(m, .inr (11, mkF r m_1 m_4 m_9 m_10 m_14 m_15 m_25 m_26 m_27 m_28 m_29 m_31 m_32 m_33 m_35 m_36 m_37 m_38 m_39 m_40 m_42)), ((r 20), .inl (E.2.2.1 0, 8, .inl r20_f)), ((r 21), .inl (E.2.2.1 0, 8, .inl r21_f)), ((r 18), .inl (E.2.2.1 0, 16, .inl (upd pr18_f ((2 * j_2169) + ch) 1024))), ((r 17), .inl (E.2.2.1 0, 8, .inl r17_f)), ((r 19), .inl (E.2.2.1 0, 128, .inl pr19_f))]) B 3 rfl (vp_in_nI (by omega) (by omega)) (by rw [nI_clamp (n := ((2 * j_2169) + ch)) (by omega)]; rfl) dX11_learns_139 ?_
                refine g_bipush (v := 8) B dX11_learns_140 (by decide) ?_
                refine g_iload B dX11_learns_142 1 rfl ?_
                refine g_imul B dX11_learns_144 ?_
                refine g_ri (x' := nI (8 * ((2 * j_2169) + ch))) (pk_mul 8 ((2 * j_2169) + ch)) ?_
                refine g_istore (lv' := [(7, .int (nI (8 * ((2 * j_2169) + ch)))), (6, .int (nI ((2 * j_2169) + ch))), (5, .int (l3 + (r20_f j_2169))), (0, .ref m), (1, .int (nI ch)), (3, .int l3), (4, .int (nI j_2169))]) B dX11_learns_145 (by decide) rfl ?_
                refine g_bipush (v := 7) B dX11_learns_147 (by decide) ?_
                refine g_istore (lv' := [(8, .int 7), (7, .int (nI (8 * ((2 * j_2169) + ch)))), (6, .int (nI ((2 * j_2169) + ch))), (5, .int (l3 + (r20_f j_2169))), (0, .ref m), (1, .int (nI ch)), (3, .int l3), (4, .int (nI j_2169))]) B dX11_learns_149 (by decide) rfl ?_
                refine g_lvsub (lv' := [(0, .ref m), (1, .int (nI ch)), (4, .int (nI j_2169)), (5, .int (l3 + (r20_f j_2169))), (7, .int (nI (8 * ((2 * j_2169) + ch)))), (8, .int 7)]) [4, 5, 7, 3, 1, 0] rfl ?_
                refine lp_wr_X11_learns_151 E m r m_1 m_4 m_9 m_10 m_14 m_15 m_25 m_26 m_27 m_28 m_29 m_31 m_32 m_33 m_35 m_36 m_37 m_38 m_39 m_40 m_42 r20_f r21_f r18_f r17_f r19_f ch re h0 h1 (upd pr18_f ((2 * j_2169) + ch) 1024) j_2169 (l3 + (r20_f j_2169)) (8 * ((2 * j_2169) + ch)) (by first | assumption | omega | decide | exact hCF _ (by omega)) _ B hr (fun y_2198pr19_f y_2198l8 y_2198k0 e_ => ?_) _ pr19_f 7 (by first | assumption | omega | decide | exact hCF _ (by omega)) (Nat.lt_succ_self _) e_
                show G E X 9 [(m, .inr (11, mkF r m_1 m_4 m_9 m_10 m_14 m_15 m_25 m_26 m_27 m_28 m_29 m_31 m_32 m_33 m_35 m_36 m_37 m_38 m_39 m_40 m_42)), ((r 20), .inl (E.2.2.1 0, 8, .inl r20_f)), ((r 21), .inl (E.2.2.1 0, 8, .inl r21_f)), ((r 18), .inl (E.2.2.1 0, 16, .inl (upd pr18_f ((2 * j_2169) + ch) 1024))), ((r 17), .inl (E.2.2.1 0, 8, .inl r17_f)), ((r 19), .inl (E.2.2.1 0, 128, .inl y_2198pr19_f))] 0 0 [(0, .ref m), (1, .int (nI ch)), (4, .int (nI j_2169)), (5, .int (l3 + (r20_f j_2169))), (7, .int (nI (8 * ((2 * j_2169) + ch)))), (8, .int (nI y_2198l8))] 184 []
                refine g_aload_n B dX11_learns_184 rfl 0 rfl ?_
                refine g_get B 0 19 fl_X11_51 rfl mf_19 dX11_learns_185 ?_
                refine g_iload B dX11_learns_188 4 rfl ?_
                refine g_iload B dX11_learns_190 3 rfl ?_
                refine g_iast (ws' := [(m, .inr (11, mkF r m_1 m_4 m_9 m_10 m_14 m_15 m_25 m_26 m_27 m_28 m_29 m_31 m_32 m_33 m_35 m_36 m_37 m_38 m_39 m_40 m_42)), ((r 20), .inl (E.2.2.1 0, 8, .inl r20_f)), ((r 21), .inl (E.2.2.1 0, 8, .inl r21_f)), ((r 18), .inl (E.2.2.1 0, 16, .inl (upd pr18_f ((2 * j_2169) + ch) 1024))), ((r 17), .inl (E.2.2.1 0, 8, .inl r17_f)), ((r 19), .inl (E.2.2.1 0, 128, .inl (upd y_2198pr19_f (8 * ((2 * j_2169) + ch)) (l3 + (r20_f j_2169)))))]) B 5 rfl (vp_in_nI (by omega) (by omega)) (by rw [nI_clamp (n := (8 * ((2 * j_2169) + ch))) (by omega)]; rfl) dX11_learns_192 ?_
                refine g_iload B dX11_learns_193 3 rfl ?_
                refine g_istore_n (lv' := [(3, .int (l3 + (r20_f j_2169))), (0, .ref m), (1, .int (nI ch)), (4, .int (nI j_2169)), (5, .int (l3 + (r20_f j_2169))), (7, .int (nI (8 * ((2 * j_2169) + ch)))), (8, .int (nI y_2198l8))]) B dX11_learns_195 rfl (by decide) rfl ?_
                refine g_iinc (v := (nI j_2169 - 1)) (lv' := [(4, .int (nI j_2169 - 1)), (3, .int (l3 + (r20_f j_2169))), (0, .ref m), (1, .int (nI ch)), (5, .int (l3 + (r20_f j_2169))), (7, .int (nI (8 * ((2 * j_2169) + ch)))), (8, .int (nI y_2198l8))]) B dX11_learns_196 3 rfl (i_m1 _) (by decide) rfl ?_
                refine g_goto (tgt := 10) B dX11_learns_199 (by decide) ?_
                refine g_lvsub (lv' := [(0, .ref m), (1, .int (nI ch)), (3, .int (l3 + (r20_f j_2169))), (4, .int (nI j_2169 - 1))]) [2, 3, 1, 0] rfl ?_
                exact ih (upd pr18_f ((2 * j_2169) + ch) 1024) (upd y_2198pr19_f (8 * ((2 * j_2169) + ch)) (l3 + (r20_f j_2169))) (l3 + (r20_f j_2169)) j_2169 (by first | assumption | omega | decide | exact hCF _ (by omega)) (by omega) e_
            · replace e_ := fun β k_ => (e_ β k_).trans (if_neg c71_2192)
              refine g_iconst (v := 1) B dX11_learns_74 (by decide) ?_
              refine g_goto (tgt := 79) B dX11_learns_75 (by decide) ?_
              refine g_icmp_ne (tgt := 92) B dX11_learns_79 (by decide) (fun h => absurd (by decide) h) (fun c79 => ?_)
              refine g_aload_n B dX11_learns_82 rfl 2 rfl ?_
              refine g_get B 0 17 fl_X11_45 rfl mf_17 dX11_learns_83 ?_
              refine g_iload B dX11_learns_86 5 rfl ?_
              refine g_iald B 4 rfl (vp_in_nI (by omega) (by omega)) dX11_learns_88 ?_
              refine g_ri (x' := (r17_f j_2169)) (congrArg r17_f (nI_clamp (n := j_2169) (by omega))) ?_
              refine g_goto (tgt := 100) B dX11_learns_89 (by decide) ?_
              refine g_iadd B dX11_learns_100 ?_
              refine g_topi (fun x_2199 ex_2199 => ?_)
              replace e_ := fun β k_ => (e_ β k_).trans (fnL_eq (x := x_2199) ex_2199.symm _)
              refine g_istore (lv' := [(7, .int x_2199), (6, .int (nI ((2 * j_2169) + ch))), (5, .int (l3 + (r20_f j_2169))), (0, .ref m), (1, .int (nI ch)), (3, .int l3), (4, .int (nI j_2169))]) B dX11_learns_101 (by decide) rfl ?_
              refine g_aload_n B dX11_learns_103 rfl 3 rfl ?_
              refine g_get B 0 18 fl_X11_48 rfl mf_18 dX11_learns_104 ?_
              refine g_iload B dX11_learns_107 1 rfl ?_
              refine g_iload B dX11_learns_109 0 rfl ?_
              refine g_sipush (v := 1024) B dX11_learns_111 (by decide) ?_
              refine g_icmp_le (tgt := 123) B dX11_learns_114 (by decide) (fun c114_2200 => ?_) (fun c114_2200 => ?_)
              · replace e_ := fun β k_ => (e_ β k_).trans (if_pos c114_2200)
                refine g_iload B dX11_learns_123 0 rfl ?_
                refine g_sipush (v := (-1024)) B dX11_learns_125 (by decide) ?_
                refine g_icmp_ge (tgt := 137) B dX11_learns_128 (by decide) (fun c128_2201 => ?_) (fun c128_2201 => ?_)
                · replace e_ := fun β k_ => (e_ β k_).trans (if_pos c128_2201)
                  refine g_iload B dX11_learns_137 0 rfl ?_
                  refine g_iast (ws' := [(m, .inr (11, mkF r m_1 m_4 m_9 m_10 m_14 m_15 m_25 m_26 m_27 m_28 m_29 m_31 m_32 m_33 m_35 m_36 m_37 m_38 m_39 m_40 m_42)), ((r 20), .inl (E.2.2.1 0, 8, .inl r20_f)), ((r 21), .inl (E.2.2.1 0, 8, .inl r21_f)), ((r 18), .inl (E.2.2.1 0, 16, .inl (upd pr18_f ((2 * j_2169) + ch) x_2199))), ((r 17), .inl (E.2.2.1 0, 8, .inl r17_f)), ((r 19), .inl (E.2.2.1 0, 128, .inl pr19_f))]) B 3 rfl (vp_in_nI (by omega) (by omega)) (by rw [nI_clamp (n := ((2 * j_2169) + ch)) (by omega)]; rfl) dX11_learns_139 ?_
                  refine g_bipush (v := 8) B dX11_learns_140 (by decide) ?_
                  refine g_iload B dX11_learns_142 1 rfl ?_
                  refine g_imul B dX11_learns_144 ?_
                  refine g_ri (x' := nI (8 * ((2 * j_2169) + ch))) (pk_mul 8 ((2 * j_2169) + ch)) ?_
                  refine g_istore (lv' := [(7, .int (nI (8 * ((2 * j_2169) + ch)))), (6, .int (nI ((2 * j_2169) + ch))), (5, .int (l3 + (r20_f j_2169))), (0, .ref m), (1, .int (nI ch)), (3, .int l3), (4, .int (nI j_2169))]) B dX11_learns_145 (by decide) rfl ?_
                  refine g_bipush (v := 7) B dX11_learns_147 (by decide) ?_
                  refine g_istore (lv' := [(8, .int 7), (7, .int (nI (8 * ((2 * j_2169) + ch)))), (6, .int (nI ((2 * j_2169) + ch))), (5, .int (l3 + (r20_f j_2169))), (0, .ref m), (1, .int (nI ch)), (3, .int l3), (4, .int (nI j_2169))]) B dX11_learns_149 (by decide) rfl ?_
                  refine g_lvsub (lv' := [(0, .ref m), (1, .int (nI ch)), (4, .int (nI j_2169)), (5, .int (l3 + (r20_f j_2169))), (7, .int (nI (8 * ((2 * j_2169) + ch)))), (8, .int 7)]) [4, 5, 7, 3, 1, 0] rfl ?_
                  refine lp_wr_X11_learns_151 E m r m_1 m_4 m_9 m_10 m_14 m_15 m_25 m_26 m_27 m_28 m_29 m_31 m_32 m_33 m_35 m_36 m_37 m_38 m_39 m_40 m_42 r20_f r21_f r18_f r17_f r19_f ch re h0 h1 (upd pr18_f ((2 * j_2169) + ch) x_2199) j_2169 (l3 + (r20_f j_2169)) (8 * ((2 * j_2169) + ch)) (by first | assumption | omega | decide | exact hCF _ (by omega)) _ B hr (fun y_2202pr19_f y_2202l8 y_2202k0 e_ => ?_) _ pr19_f 7 (by first | assumption | omega | decide | exact hCF _ (by omega)) (Nat.lt_succ_self _) e_
                  show G E X 9 [(m, .inr (11, mkF r m_1 m_4 m_9 m_10 m_14 m_15 m_25 m_26 m_27 m_28 m_29 m_31 m_32 m_33 m_35 m_36 m_37 m_38 m_39 m_40 m_42)), ((r 20), .inl (E.2.2.1 0, 8, .inl r20_f)), ((r 21), .inl (E.2.2.1 0, 8, .inl r21_f)), ((r 18), .inl (E.2.2.1 0, 16, .inl (upd pr18_f ((2 * j_2169) + ch) x_2199))), ((r 17), .inl (E.2.2.1 0, 8, .inl r17_f)), ((r 19), .inl (E.2.2.1 0, 128, .inl y_2202pr19_f))] 0 0 [(0, .ref m), (1, .int (nI ch)), (4, .int (nI j_2169)), (5, .int (l3 + (r20_f j_2169))), (7, .int (nI (8 * ((2 * j_2169) + ch)))), (8, .int (nI y_2202l8))] 184 []
                  refine g_aload_n B dX11_learns_184 rfl 0 rfl ?_
                  refine g_get B 0 19 fl_X11_51 rfl mf_19 dX11_learns_185 ?_
                  refine g_iload B dX11_learns_188 4 rfl ?_
                  refine g_iload B dX11_learns_190 3 rfl ?_
                  refine g_iast (ws' := [(m, .inr (11, mkF r m_1 m_4 m_9 m_10 m_14 m_15 m_25 m_26 m_27 m_28 m_29 m_31 m_32 m_33 m_35 m_36 m_37 m_38 m_39 m_40 m_42)), ((r 20), .inl (E.2.2.1 0, 8, .inl r20_f)), ((r 21), .inl (E.2.2.1 0, 8, .inl r21_f)), ((r 18), .inl (E.2.2.1 0, 16, .inl (upd pr18_f ((2 * j_2169) + ch) x_2199))), ((r 17), .inl (E.2.2.1 0, 8, .inl r17_f)), ((r 19), .inl (E.2.2.1 0, 128, .inl (upd y_2202pr19_f (8 * ((2 * j_2169) + ch)) (l3 + (r20_f j_2169)))))]) B 5 rfl (vp_in_nI (by omega) (by omega)) (by rw [nI_clamp (n := (8 * ((2 * j_2169) + ch))) (by omega)]; rfl) dX11_learns_192 ?_
                  refine g_iload B dX11_learns_193 3 rfl ?_
                  refine g_istore_n (lv' := [(3, .int (l3 + (r20_f j_2169))), (0, .ref m), (1, .int (nI ch)), (4, .int (nI j_2169)), (5, .int (l3 + (r20_f j_2169))), (7, .int (nI (8 * ((2 * j_2169) + ch)))), (8, .int (nI y_2202l8))]) B dX11_learns_195 rfl (by decide) rfl ?_
                  refine g_iinc (v := (nI j_2169 - 1)) (lv' := [(4, .int (nI j_2169 - 1)), (3, .int (l3 + (r20_f j_2169))), (0, .ref m), (1, .int (nI ch)), (5, .int (l3 + (r20_f j_2169))), (7, .int (nI (8 * ((2 * j_2169) + ch)))), (8, .int (nI y_2202l8))]) B dX11_learns_196 3 rfl (i_m1 _) (by decide) rfl ?_
                  refine g_goto (tgt := 10) B dX11_learns_199 (by decide) ?_
                  refine g_lvsub (lv' := [(0, .ref m), (1, .int (nI ch)), (3, .int (l3 + (r20_f j_2169))), (4, .int (nI j_2169 - 1))]) [2, 3, 1, 0] rfl ?_
                  exact ih (upd pr18_f ((2 * j_2169) + ch) x_2199) (upd y_2202pr19_f (8 * ((2 * j_2169) + ch)) (l3 + (r20_f j_2169))) (l3 + (r20_f j_2169)) j_2169 (by first | assumption | omega | decide | exact hCF _ (by omega)) (by omega) e_
                · replace e_ := fun β k_ => (e_ β k_).trans (if_neg c128_2201)
                  refine g_sipush (v := (-1024)) B dX11_learns_131 (by decide) ?_
                  refine g_goto (tgt := 139) B dX11_learns_134 (by decide) ?_
                  refine g_iast (ws' := [(m, .inr (11, mkF r m_1 m_4 m_9 m_10 m_14 m_15 m_25 m_26 m_27 m_28 m_29 m_31 m_32 m_33 m_35 m_36 m_37 m_38 m_39 m_40 m_42)), ((r 20), .inl (E.2.2.1 0, 8, .inl r20_f)), ((r 21), .inl (E.2.2.1 0, 8, .inl r21_f)), ((r 18), .inl (E.2.2.1 0, 16, .inl (upd pr18_f ((2 * j_2169) + ch) (-1024)))), ((r 17), .inl (E.2.2.1 0, 8, .inl r17_f)), ((r 19), .inl (E.2.2.1 0, 128, .inl pr19_f))]) B 3 rfl (vp_in_nI (by omega) (by omega)) (by rw [nI_clamp (n := ((2 * j_2169) + ch)) (by omega)]; rfl) dX11_learns_139 ?_
                  refine g_bipush (v := 8) B dX11_learns_140 (by decide) ?_
                  refine g_iload B dX11_learns_142 1 rfl ?_
                  refine g_imul B dX11_learns_144 ?_
                  refine g_ri (x' := nI (8 * ((2 * j_2169) + ch))) (pk_mul 8 ((2 * j_2169) + ch)) ?_
                  refine g_istore (lv' := [(7, .int (nI (8 * ((2 * j_2169) + ch)))), (6, .int (nI ((2 * j_2169) + ch))), (5, .int (l3 + (r20_f j_2169))), (0, .ref m), (1, .int (nI ch)), (3, .int l3), (4, .int (nI j_2169))]) B dX11_learns_145 (by decide) rfl ?_
                  refine g_bipush (v := 7) B dX11_learns_147 (by decide) ?_
                  refine g_istore (lv' := [(8, .int 7), (7, .int (nI (8 * ((2 * j_2169) + ch)))), (6, .int (nI ((2 * j_2169) + ch))), (5, .int (l3 + (r20_f j_2169))), (0, .ref m), (1, .int (nI ch)), (3, .int l3), (4, .int (nI j_2169))]) B dX11_learns_149 (by decide) rfl ?_
                  refine g_lvsub (lv' := [(0, .ref m), (1, .int (nI ch)), (4, .int (nI j_2169)), (5, .int (l3 + (r20_f j_2169))), (7, .int (nI (8 * ((2 * j_2169) + ch)))), (8, .int 7)]) [4, 5, 7, 3, 1, 0] rfl ?_
                  refine lp_wr_X11_learns_151 E m r m_1 m_4 m_9 m_10 m_14 m_15 m_25 m_26 m_27 m_28 m_29 m_31 m_32 m_33 m_35 m_36 m_37 m_38 m_39 m_40 m_42 r20_f r21_f r18_f r17_f r19_f ch re h0 h1 (upd pr18_f ((2 * j_2169) + ch) (-1024)) j_2169 (l3 + (r20_f j_2169)) (8 * ((2 * j_2169) + ch)) (by first | assumption | omega | decide | exact hCF _ (by omega)) _ B hr (fun y_2203pr19_f y_2203l8 y_2203k0 e_ => ?_) _ pr19_f 7 (by first | assumption | omega | decide | exact hCF _ (by omega)) (Nat.lt_succ_self _) e_
                  show G E X 9 [(m, .inr (11, mkF r m_1 m_4 m_9 m_10 m_14 m_15 m_25 m_26 m_27 m_28 m_29 m_31 m_32 m_33 m_35 m_36 m_37 m_38 m_39 m_40 m_42)), ((r 20), .inl (E.2.2.1 0, 8, .inl r20_f)), ((r 21), .inl (E.2.2.1 0, 8, .inl r21_f)), ((r 18), .inl (E.2.2.1 0, 16, .inl (upd pr18_f ((2 * j_2169) + ch) (-1024)))), ((r 17), .inl (E.2.2.1 0, 8, .inl r17_f)), ((r 19), .inl (E.2.2.1 0, 128, .inl y_2203pr19_f))] 0 0 [(0, .ref m), (1, .int (nI ch)), (4, .int (nI j_2169)), (5, .int (l3 + (r20_f j_2169))), (7, .int (nI (8 * ((2 * j_2169) + ch)))), (8, .int (nI y_2203l8))] 184 []
                  refine g_aload_n B dX11_learns_184 rfl 0 rfl ?_
                  refine g_get B 0 19 fl_X11_51 rfl mf_19 dX11_learns_185 ?_
                  refine g_iload B dX11_learns_188 4 rfl ?_
                  refine g_iload B dX11_learns_190 3 rfl ?_
                  refine g_iast (ws' := [(m, .inr (11, mkF r m_1 m_4 m_9 m_10 m_14 m_15 m_25 m_26 m_27 m_28 m_29 m_31 m_32 m_33 m_35 m_36 m_37 m_38 m_39 m_40 m_42)), ((r 20), .inl (E.2.2.1 0, 8, .inl r20_f)), ((r 21), .inl (E.2.2.1 0, 8, .inl r21_f)), ((r 18), .inl (E.2.2.1 0, 16, .inl (upd pr18_f ((2 * j_2169) + ch) (-1024)))), ((r 17), .inl (E.2.2.1 0, 8, .inl r17_f)), ((r 19), .inl (E.2.2.1 0, 128, .inl (upd y_2203pr19_f (8 * ((2 * j_2169) + ch)) (l3 + (r20_f j_2169)))))]) B 5 rfl (vp_in_nI (by omega) (by omega)) (by rw [nI_clamp (n := (8 * ((2 * j_2169) + ch))) (by omega)]; rfl) dX11_learns_192 ?_
                  refine g_iload B dX11_learns_193 3 rfl ?_
                  refine g_istore_n (lv' := [(3, .int (l3 + (r20_f j_2169))), (0, .ref m), (1, .int (nI ch)), (4, .int (nI j_2169)), (5, .int (l3 + (r20_f j_2169))), (7, .int (nI (8 * ((2 * j_2169) + ch)))), (8, .int (nI y_2203l8))]) B dX11_learns_195 rfl (by decide) rfl ?_
                  refine g_iinc (v := (nI j_2169 - 1)) (lv' := [(4, .int (nI j_2169 - 1)), (3, .int (l3 + (r20_f j_2169))), (0, .ref m), (1, .int (nI ch)), (5, .int (l3 + (r20_f j_2169))), (7, .int (nI (8 * ((2 * j_2169) + ch)))), (8, .int (nI y_2203l8))]) B dX11_learns_196 3 rfl (i_m1 _) (by decide) rfl ?_
                  refine g_goto (tgt := 10) B dX11_learns_199 (by decide) ?_
                  refine g_lvsub (lv' := [(0, .ref m), (1, .int (nI ch)), (3, .int (l3 + (r20_f j_2169))), (4, .int (nI j_2169 - 1))]) [2, 3, 1, 0] rfl ?_
                  exact ih (upd pr18_f ((2 * j_2169) + ch) (-1024)) (upd y_2203pr19_f (8 * ((2 * j_2169) + ch)) (l3 + (r20_f j_2169))) (l3 + (r20_f j_2169)) j_2169 (by first | assumption | omega | decide | exact hCF _ (by omega)) (by omega) e_
              · replace e_ := fun β k_ => (e_ β k_).trans (if_neg c114_2200)
                refine g_sipush (v := 1024) B dX11_learns_117 (by decide) ?_
                refine g_goto (tgt := 139) B dX11_learns_120 (by decide) ?_
                refine g_iast (ws' := [(m, .inr (11, mkF r m_1 m_4 m_9 m_10 m_14 m_15 m_25 m_26 m_27 m_28 m_29 m_31 m_32 m_33 m_35 m_36 m_37 m_38 m_39 m_40 m_42)), ((r 20), .inl (E.2.2.1 0, 8, .inl r20_f)), ((r 21), .inl (E.2.2.1 0, 8, .inl r21_f)), ((r 18), .inl (E.2.2.1 0, 16, .inl (upd pr18_f ((2 * j_2169) + ch) 1024))), ((r 17), .inl (E.2.2.1 0, 8, .inl r17_f)), ((r 19), .inl (E.2.2.1 0, 128, .inl pr19_f))]) B 3 rfl (vp_in_nI (by omega) (by omega)) (by rw [nI_clamp (n := ((2 * j_2169) + ch)) (by omega)]; rfl) dX11_learns_139 ?_
                refine g_bipush (v := 8) B dX11_learns_140 (by decide) ?_
                refine g_iload B dX11_learns_142 1 rfl ?_
                refine g_imul B dX11_learns_144 ?_
                refine g_ri (x' := nI (8 * ((2 * j_2169) + ch))) (pk_mul 8 ((2 * j_2169) + ch)) ?_
                refine g_istore (lv' := [(7, .int (nI (8 * ((2 * j_2169) + ch)))), (6, .int (nI ((2 * j_2169) + ch))), (5, .int (l3 + (r20_f j_2169))), (0, .ref m), (1, .int (nI ch)), (3, .int l3), (4, .int (nI j_2169))]) B dX11_learns_145 (by decide) rfl ?_
                refine g_bipush (v := 7) B dX11_learns_147 (by decide) ?_
                refine g_istore (lv' := [(8, .int 7), (7, .int (nI (8 * ((2 * j_2169) + ch)))), (6, .int (nI ((2 * j_2169) + ch))), (5, .int (l3 + (r20_f j_2169))), (0, .ref m), (1, .int (nI ch)), (3, .int l3), (4, .int (nI j_2169))]) B dX11_learns_149 (by decide) rfl ?_
                refine g_lvsub (lv' := [(0, .ref m), (1, .int (nI ch)), (4, .int (nI j_2169)), (5, .int (l3 + (r20_f j_2169))), (7, .int (nI (8 * ((2 * j_2169) + ch)))), (8, .int 7)]) [4, 5, 7, 3, 1, 0] rfl ?_
                refine lp_wr_X11_learns_151 E m r m_1 m_4 m_9 m_10 m_14 m_15 m_25 m_26 m_27 m_28 m_29 m_31 m_32 m_33 m_35 m_36 m_37 m_38 m_39 m_40 m_42 r20_f r21_f r18_f r17_f r19_f ch re h0 h1 (upd pr18_f ((2 * j_2169) + ch) 1024) j_2169 (l3 + (r20_f j_2169)) (8 * ((2 * j_2169) + ch)) (by first | assumption | omega | decide | exact hCF _ (by omega)) _ B hr (fun y_2204pr19_f y_2204l8 y_2204k0 e_ => ?_) _ pr19_f 7 (by first | assumption | omega | decide | exact hCF _ (by omega)) (Nat.lt_succ_self _) e_
                show G E X 9 [(m, .inr (11, mkF r m_1 m_4 m_9 m_10 m_14 m_15 m_25 m_26 m_27 m_28 m_29 m_31 m_32 m_33 m_35 m_36 m_37 m_38 m_39 m_40 m_42)), ((r 20), .inl (E.2.2.1 0, 8, .inl r20_f)), ((r 21), .inl (E.2.2.1 0, 8, .inl r21_f)), ((r 18), .inl (E.2.2.1 0, 16, .inl (upd pr18_f ((2 * j_2169) + ch) 1024))), ((r 17), .inl (E.2.2.1 0, 8, .inl r17_f)), ((r 19), .inl (E.2.2.1 0, 128, .inl y_2204pr19_f))] 0 0 [(0, .ref m), (1, .int (nI ch)), (4, .int (nI j_2169)), (5, .int (l3 + (r20_f j_2169))), (7, .int (nI (8 * ((2 * j_2169) + ch)))), (8, .int (nI y_2204l8))] 184 []
                refine g_aload_n B dX11_learns_184 rfl 0 rfl ?_
                refine g_get B 0 19 fl_X11_51 rfl mf_19 dX11_learns_185 ?_
                refine g_iload B dX11_learns_188 4 rfl ?_
                refine g_iload B dX11_learns_190 3 rfl ?_
                refine g_iast (ws' := [(m, .inr (11, mkF r m_1 m_4 m_9 m_10 m_14 m_15 m_25 m_26 m_27 m_28 m_29 m_31 m_32 m_33 m_35 m_36 m_37 m_38 m_39 m_40 m_42)), ((r 20), .inl (E.2.2.1 0, 8, .inl r20_f)), ((r 21), .inl (E.2.2.1 0, 8, .inl r21_f)), ((r 18), .inl (E.2.2.1 0, 16, .inl (upd pr18_f ((2 * j_2169) + ch) 1024))), ((r 17), .inl (E.2.2.1 0, 8, .inl r17_f)), ((r 19), .inl (E.2.2.1 0, 128, .inl (upd y_2204pr19_f (8 * ((2 * j_2169) + ch)) (l3 + (r20_f j_2169)))))]) B 5 rfl (vp_in_nI (by omega) (by omega)) (by rw [nI_clamp (n := (8 * ((2 * j_2169) + ch))) (by omega)]; rfl) dX11_learns_192 ?_
                refine g_iload B dX11_learns_193 3 rfl ?_
                refine g_istore_n (lv' := [(3, .int (l3 + (r20_f j_2169))), (0, .ref m), (1, .int (nI ch)), (4, .int (nI j_2169)), (5, .int (l3 + (r20_f j_2169))), (7, .int (nI (8 * ((2 * j_2169) + ch)))), (8, .int (nI y_2204l8))]) B dX11_learns_195 rfl (by decide) rfl ?_
                refine g_iinc (v := (nI j_2169 - 1)) (lv' := [(4, .int (nI j_2169 - 1)), (3, .int (l3 + (r20_f j_2169))), (0, .ref m), (1, .int (nI ch)), (5, .int (l3 + (r20_f j_2169))), (7, .int (nI (8 * ((2 * j_2169) + ch)))), (8, .int (nI y_2204l8))]) B dX11_learns_196 3 rfl (i_m1 _) (by decide) rfl ?_
                refine g_goto (tgt := 10) B dX11_learns_199 (by decide) ?_
                refine g_lvsub (lv' := [(0, .ref m), (1, .int (nI ch)), (3, .int (l3 + (r20_f j_2169))), (4, .int (nI j_2169 - 1))]) [2, 3, 1, 0] rfl ?_
                exact ih (upd pr18_f ((2 * j_2169) + ch) 1024) (upd y_2204pr19_f (8 * ((2 * j_2169) + ch)) (l3 + (r20_f j_2169))) (l3 + (r20_f j_2169)) j_2169 (by first | assumption | omega | decide | exact hCF _ (by omega)) (by omega) e_
theorem dX11_learns_202 : decode cX11_learns 202 = .ok (.iload_n 3, 1) := by decide +kernel
theorem dX11_learns_203 : decode cX11_learns 203 = .ok (.ireturn, 1) := by decide +kernel
set_option maxRecDepth 100000 in
def fn_wr_X11_learns (m_14 : Nat) (r20_f : Nat → Int32) (r21_f : Nat → Int32) (r18_f : Nat → Int32) (r17_f : Nat → Int32) (r19_f : Nat → Int32) (ch : Nat) (re : Int32) (β : Type) (k_ : (Nat → Int32) → (Nat → Int32) → Int32 → β) : β := (lf_wr_X11_learns_10 r20_f r21_f r17_f ch β (fun y_2205pr18_f y_2205pr19_f y_2205l3 y_2205l4 => (k_ y_2205pr18_f y_2205pr19_f y_2205l3)) ((m_14) + 1) r18_f r19_f re m_14)
set_option maxRecDepth 100000 in
theorem fn_wr_X11_learns_s {m_14 : Nat} {r20_f : Nat → Int32} {r21_f : Nat → Int32} {r18_f : Nat → Int32} {r17_f : Nat → Int32} {r19_f : Nat → Int32} {ch : Nat} {re : Int32} {β : Type} {k_ : (Nat → Int32) → (Nat → Int32) → Int32 → β} : fn_wr_X11_learns m_14 r20_f r21_f r18_f r17_f r19_f ch re β k_ = (lf_wr_X11_learns_10 r20_f r21_f r17_f ch β (fun y_2205pr18_f y_2205pr19_f y_2205l3 y_2205l4 => (k_ y_2205pr18_f y_2205pr19_f y_2205l3)) ((m_14) + 1) r18_f r19_f re m_14) := rfl
set_option maxRecDepth 100000 in
set_option maxHeartbeats 4000000 in
theorem wr_X11_learns (E : g_E) (m : Nat) (r : Nat → Nat) (m_1 : Nat) (m_4 : Nat) (m_9 : Nat) (m_10 : Nat) (m_14 : Nat) (m_15 : Nat) (m_25 : Int32) (m_26 : Int32) (m_27 : Int64) (m_28 : Nat) (m_29 : Nat) (m_31 : Nat) (m_32 : Nat) (m_33 : Nat) (m_35 : Nat) (m_36 : Nat) (m_37 : Int32) (m_38 : Nat) (m_39 : Int32) (m_40 : Int32) (m_42 : Nat) (r20_f : Nat → Int32) (r21_f : Nat → Int32) (r18_f : Nat → Int32) (r17_f : Nat → Int32) (r19_f : Nat → Int32) (ch : Nat) (re : Int32) (h0 : ch < 2) (h1 : m_14 ≤ 8) : Ev E MX11_learns 0 0 0 0 [.ref m, .int (nI ch), .int re] [(m, .inr (11, mkF r m_1 m_4 m_9 m_10 m_14 m_15 m_25 m_26 m_27 m_28 m_29 m_31 m_32 m_33 m_35 m_36 m_37 m_38 m_39 m_40 m_42)), ((r 20), .inl (E.2.2.1 0, 8, .inl r20_f)), ((r 21), .inl (E.2.2.1 0, 8, .inl r21_f)), ((r 18), .inl (E.2.2.1 0, 16, .inl r18_f)), ((r 17), .inl (E.2.2.1 0, 8, .inl r17_f)), ((r 19), .inl (E.2.2.1 0, 128, .inl r19_f))] (fun v_ w_ => ∃ zr18_f : Nat → Int32, ∃ zr19_f : Nat → Int32, ∃ zr : Int32, (∀ (β : Type) (k_ : (Nat → Int32) → (Nat → Int32) → Int32 → β), fn_wr_X11_learns m_14 r20_f r21_f r18_f r17_f r19_f ch re β k_ = k_ zr18_f zr19_f zr) ∧ v_ = some (.int zr) ∧ w_ = [(m, .inr (11, mkF r m_1 m_4 m_9 m_10 m_14 m_15 m_25 m_26 m_27 m_28 m_29 m_31 m_32 m_33 m_35 m_36 m_37 m_38 m_39 m_40 m_42)), ((r 20), .inl (E.2.2.1 0, 8, .inl r20_f)), ((r 21), .inl (E.2.2.1 0, 8, .inl r21_f)), ((r 18), .inl (E.2.2.1 0, 16, .inl zr18_f)), ((r 17), .inl (E.2.2.1 0, 8, .inl r17_f)), ((r 19), .inl (E.2.2.1 0, 128, .inl zr19_f))]) := by
  refine Ev.intro (by decide) (Nat.le_of_ble_eq_true rfl) ?_
  intro X B hr hI
  have B : Bd E X cX11_learns RX11 9 0 0 0 0 := B
  have hr : Rt E X (some .int) 0 0 (fun v_ w_ => ∃ zr18_f : Nat → Int32, ∃ zr19_f : Nat → Int32, ∃ zr : Int32, (∀ (β : Type) (k_ : (Nat → Int32) → (Nat → Int32) → Int32 → β), fn_wr_X11_learns m_14 r20_f r21_f r18_f r17_f r19_f ch re β k_ = k_ zr18_f zr19_f zr) ∧ v_ = some (.int zr) ∧ w_ = [(m, .inr (11, mkF r m_1 m_4 m_9 m_10 m_14 m_15 m_25 m_26 m_27 m_28 m_29 m_31 m_32 m_33 m_35 m_36 m_37 m_38 m_39 m_40 m_42)), ((r 20), .inl (E.2.2.1 0, 8, .inl r20_f)), ((r 21), .inl (E.2.2.1 0, 8, .inl r21_f)), ((r 18), .inl (E.2.2.1 0, 16, .inl zr18_f)), ((r 17), .inl (E.2.2.1 0, 8, .inl r17_f)), ((r 19), .inl (E.2.2.1 0, 128, .inl zr19_f))]) := hr
  have e_ := fun (β : Type) (k_ : (Nat → Int32) → (Nat → Int32) → Int32 → β) => fn_wr_X11_learns_s (β := β) (k_ := k_) (m_14 := m_14) (r20_f := r20_f) (r21_f := r21_f) (r18_f := r18_f) (r17_f := r17_f) (r19_f := r19_f) (ch := ch) (re := re)
  show G E X 9 [(m, .inr (11, mkF r m_1 m_4 m_9 m_10 m_14 m_15 m_25 m_26 m_27 m_28 m_29 m_31 m_32 m_33 m_35 m_36 m_37 m_38 m_39 m_40 m_42)), ((r 20), .inl (E.2.2.1 0, 8, .inl r20_f)), ((r 21), .inl (E.2.2.1 0, 8, .inl r21_f)), ((r 18), .inl (E.2.2.1 0, 16, .inl r18_f)), ((r 17), .inl (E.2.2.1 0, 8, .inl r17_f)), ((r 19), .inl (E.2.2.1 0, 128, .inl r19_f))] 0 0 [(0, .ref m), (1, .int (nI ch)), (2, .int re)] 0 []
  refine g_iload_n B dX11_learns_0 rfl 2 rfl ?_
  refine g_istore_n (lv' := [(3, .int re), (0, .ref m), (1, .int (nI ch)), (2, .int re)]) B dX11_learns_1 rfl (by decide) rfl ?_
  refine g_aload_n B dX11_learns_2 rfl 1 rfl ?_
  refine g_get B 0 14 fl_X11_121 rfl mf_14 dX11_learns_3 ?_
  refine g_iconst (v := 1) B dX11_learns_6 (by decide) ?_
  refine g_isub B dX11_learns_7 ?_
  refine g_istore (lv' := [(4, .int (nI m_14 - 1)), (3, .int re), (0, .ref m), (1, .int (nI ch)), (2, .int re)]) B dX11_learns_8 (by decide) rfl ?_
  refine g_lvsub (lv' := [(0, .ref m), (1, .int (nI ch)), (3, .int re), (4, .int (nI m_14 - 1))]) [2, 3, 1, 0] rfl ?_
  refine lp_wr_X11_learns_10 E m r m_1 m_4 m_9 m_10 m_14 m_15 m_25 m_26 m_27 m_28 m_29 m_31 m_32 m_33 m_35 m_36 m_37 m_38 m_39 m_40 m_42 r20_f r21_f r18_f r17_f r19_f ch re h0 h1   _ B hr (fun y_2205pr18_f y_2205pr19_f y_2205l3 y_2205l4 y_2205k0 e_ => ?_) _ r18_f r19_f re m_14 (by first | assumption | omega | decide | exact hCF _ (by omega)) (Nat.lt_succ_self _) e_
  show G E X 9 [(m, .inr (11, mkF r m_1 m_4 m_9 m_10 m_14 m_15 m_25 m_26 m_27 m_28 m_29 m_31 m_32 m_33 m_35 m_36 m_37 m_38 m_39 m_40 m_42)), ((r 20), .inl (E.2.2.1 0, 8, .inl r20_f)), ((r 21), .inl (E.2.2.1 0, 8, .inl r21_f)), ((r 18), .inl (E.2.2.1 0, 16, .inl y_2205pr18_f)), ((r 17), .inl (E.2.2.1 0, 8, .inl r17_f)), ((r 19), .inl (E.2.2.1 0, 128, .inl y_2205pr19_f))] 0 0 [(0, .ref m), (1, .int (nI ch)), (3, .int y_2205l3), (4, .int (nI y_2205l4 - 1))] 202 []
  refine g_iload_n B dX11_learns_202 rfl 2 rfl ?_
  exact g_iret B hr dX11_learns_203 (by decide) (by decide) ⟨y_2205pr18_f, y_2205pr19_f, y_2205l3, e_, rfl, rfl⟩
