abbrev MX11_crc : g_M := (yX11_crc, cX11_crc, 6, (some .int))
theorem dX11_crc_0 : decode cX11_crc 0 = .ok (.iconst (-1), 1) := by decide +kernel
theorem dX11_crc_1 : decode cX11_crc 1 = .ok (.istore_n 3, 1) := by decide +kernel
theorem dX11_crc_2 : decode cX11_crc 2 = .ok (.iconst 0, 1) := by decide +kernel
theorem dX11_crc_3 : decode cX11_crc 3 = .ok (.istore 4, 2) := by decide +kernel
theorem dX11_crc_5 : decode cX11_crc 5 = .ok (.iload 4, 2) := by decide +kernel
theorem dX11_crc_7 : decode cX11_crc 7 = .ok (.iload_n 2, 1) := by decide +kernel
theorem dX11_crc_8 : decode cX11_crc 8 = .ok (.if_icmp .ge 58, 3) := by decide +kernel
theorem dX11_crc_11 : decode cX11_crc 11 = .ok (.iload_n 3, 1) := by decide +kernel
theorem dX11_crc_12 : decode cX11_crc 12 = .ok (.aload_n 0, 1) := by decide +kernel
theorem dX11_crc_13 : decode cX11_crc 13 = .ok (.iload_n 1, 1) := by decide +kernel
theorem dX11_crc_14 : decode cX11_crc 14 = .ok (.iload 4, 2) := by decide +kernel
theorem dX11_crc_16 : decode cX11_crc 16 = .ok (.iadd, 1) := by decide +kernel
theorem dX11_crc_17 : decode cX11_crc 17 = .ok (.baload, 1) := by decide +kernel
theorem dX11_crc_18 : decode cX11_crc 18 = .ok (.sipush 255, 3) := by decide +kernel
theorem dX11_crc_21 : decode cX11_crc 21 = .ok (.iand, 1) := by decide +kernel
theorem dX11_crc_22 : decode cX11_crc 22 = .ok (.ixor, 1) := by decide +kernel
theorem dX11_crc_23 : decode cX11_crc 23 = .ok (.istore_n 3, 1) := by decide +kernel
theorem dX11_crc_24 : decode cX11_crc 24 = .ok (.iconst 0, 1) := by decide +kernel
theorem dX11_crc_25 : decode cX11_crc 25 = .ok (.istore 5, 2) := by decide +kernel
theorem dX11_crc_27 : decode cX11_crc 27 = .ok (.iload 5, 2) := by decide +kernel
theorem dX11_crc_29 : decode cX11_crc 29 = .ok (.bipush 8, 2) := by decide +kernel
theorem dX11_crc_31 : decode cX11_crc 31 = .ok (.if_icmp .ge 29, 3) := by decide +kernel
theorem dX11_crc_34 : decode cX11_crc 34 = .ok (.iload_n 3, 1) := by decide +kernel
theorem dX11_crc_35 : decode cX11_crc 35 = .ok (.iconst 1, 1) := by decide +kernel
theorem dX11_crc_36 : decode cX11_crc 36 = .ok (.iand, 1) := by decide +kernel
theorem dX11_crc_37 : decode cX11_crc 37 = .ok (.iconst 1, 1) := by decide +kernel
theorem dX11_crc_38 : decode cX11_crc 38 = .ok (.if_icmp .ne 12, 3) := by decide +kernel
theorem dX11_crc_50 : decode cX11_crc 50 = .ok (.iload_n 3, 1) := by decide +kernel
theorem dX11_crc_51 : decode cX11_crc 51 = .ok (.iconst 1, 1) := by decide +kernel
theorem dX11_crc_52 : decode cX11_crc 52 = .ok (.iushr, 1) := by decide +kernel
theorem dX11_crc_53 : decode cX11_crc 53 = .ok (.istore_n 3, 1) := by decide +kernel
theorem dX11_crc_54 : decode cX11_crc 54 = .ok (.iinc 5 1, 3) := by decide +kernel
theorem dX11_crc_57 : decode cX11_crc 57 = .ok (.goto (-30), 3) := by decide +kernel
theorem dX11_crc_41 : decode cX11_crc 41 = .ok (.iload_n 3, 1) := by decide +kernel
theorem dX11_crc_42 : decode cX11_crc 42 = .ok (.iconst 1, 1) := by decide +kernel
theorem dX11_crc_43 : decode cX11_crc 43 = .ok (.iushr, 1) := by decide +kernel
theorem dX11_crc_44 : decode cX11_crc 44 = .ok (.ldc 102, 2) := by decide +kernel
theorem w_k_X11_102 : Cond.constant RX11 102 (-306674912) ∈ g_tbl := g_tbl_in 1175 (by decide +kernel) (by decide +kernel)
theorem dX11_crc_46 : decode cX11_crc 46 = .ok (.ixor, 1) := by decide +kernel
theorem dX11_crc_47 : decode cX11_crc 47 = .ok (.goto 6, 3) := by decide +kernel
set_option maxRecDepth 100000 in
def lf_wr_X11_crc_27  (β : Type) (kx_ : Int32 → Nat → β)  : Nat → Int32 → Nat → β
  | 0, l3, l5 => kx_ l3 l5
  | fuel + 1, l3, l5 => (if 8 ≤ l5 then (kx_ l3 l5) else (if ((l3).toBitVec.toNat % 2) = 1 then (fnL (((Int32.toUInt32 l3 >>> (Int32.toUInt32 1 &&& Int32.toUInt32 31)).toInt32) ^^^ (-306674912)) (fun x_2858 => (lf_wr_X11_crc_27  β kx_ fuel x_2858 (l5 + 1)))) else (fnL ((Int32.toUInt32 l3 >>> (Int32.toUInt32 1 &&& Int32.toUInt32 31)).toInt32) (fun x_2857 => (lf_wr_X11_crc_27  β kx_ fuel x_2857 (l5 + 1))))))
set_option maxRecDepth 100000 in
theorem lf_wr_X11_crc_27_s  {β : Type} {kx_ : Int32 → Nat → β}  {fuel : Nat} {l3 : Int32} {l5 : Nat} : lf_wr_X11_crc_27  β kx_  (fuel + 1) l3 l5 = (if 8 ≤ l5 then (kx_ l3 l5) else (if ((l3).toBitVec.toNat % 2) = 1 then (fnL (((Int32.toUInt32 l3 >>> (Int32.toUInt32 1 &&& Int32.toUInt32 31)).toInt32) ^^^ (-306674912)) (fun x_2858 => (lf_wr_X11_crc_27  β kx_ fuel x_2858 (l5 + 1)))) else (fnL ((Int32.toUInt32 l3 >>> (Int32.toUInt32 1 &&& Int32.toUInt32 31)).toInt32) (fun x_2857 => (lf_wr_X11_crc_27  β kx_ fuel x_2857 (l5 + 1)))))) := rfl
set_option maxRecDepth 100000 in
set_option maxHeartbeats 4000000 in
theorem lp_wr_X11_crc_27 (E : g_E) (ta : Nat) (NT : Nat) (fo : Nat) (n : Nat) (tf : Nat → Int32) (h0 : fo + n ≤ NT) (h1 : NT < 2147483648) (l4 : Nat)  {X : g_X} {rr : (β : Type) → (Int32 → β) → β} (kx_ : (β : Type) → (Int32 → β) → Int32 → Nat → β) (B : Bd E X cX11_crc RX11 6 0 0 0 0) (hr : Rt E X (some .int) 0 0 (fun v_ w_ => ∃ zr : Int32, (∀ (β : Type) (k_ : Int32 → β), rr β k_ = k_ zr) ∧ v_ = some (.int zr) ∧ w_ = [(ta, .inl (E.2.2.1 1, NT, .inl (nb tf)))])) (K : ∀ (l3 : Int32) (l5 : Nat), (l5 ≤ 8) → (∀ (β : Type) (k_ : Int32 → β), rr β k_ = kx_ β k_ l3 l5) → G E X 6 [(ta, .inl (E.2.2.1 1, NT, .inl (nb tf)))] 0 0 [(0, .ref ta), (1, .int (nI fo)), (2, .int (nI n)), (3, .int l3), (4, .int (nI l4)), (5, .int (nI l5))] 60 []) : ∀ (fuel : Nat) (l3 : Int32) (l5 : Nat), (l5 ≤ 8) → (8 - l5) < fuel → (∀ (β : Type) (k_ : Int32 → β), rr β k_ = lf_wr_X11_crc_27  β (kx_ β k_) fuel l3 l5) → G E X 6 [(ta, .inl (E.2.2.1 1, NT, .inl (nb tf)))] 0 0 [(0, .ref ta), (1, .int (nI fo)), (2, .int (nI n)), (3, .int l3), (4, .int (nI l4)), (5, .int (nI l5))] 27 [] := by
  intro fuel
  induction fuel with
  | zero => intro l3 l5 _ h _; exact absurd h (Nat.not_lt_zero _)
  | succ fuel ih =>
    intro l3 l5 hv0 hm e_
    replace e_ := fun β k_ => (e_ β k_).trans lf_wr_X11_crc_27_s
    refine g_iload B dX11_crc_27 5 rfl ?_
    refine g_bipush (v := 8) B dX11_crc_29 (by decide) ?_
    refine g_icmp_ge (tgt := 60) B dX11_crc_31 (by decide) (fun c31_2851 => ?_) (fun c31_2851 => ?_)
    · have hn_2852 : 8 ≤ l5 := (nI_leI (a := 8) (b := l5) (by omega) (by omega)).mp c31_2851
      replace e_ := fun β k_ => (e_ β k_).trans (if_pos hn_2852)
      exact K l3 l5 (by first | assumption | omega | decide | exact hCF _ (by omega)) e_
    · have hn_2853 : l5 < 8 := Nat.not_le.mp (fun q => c31_2851 ((nI_leI (a := 8) (b := l5) (by omega) (by omega)).mpr q))
      replace e_ := fun β k_ => (e_ β k_).trans (if_neg (Nat.not_le.mpr hn_2853))
      refine g_iload_n B dX11_crc_34 rfl 3 rfl ?_
      refine g_iconst (v := 1) B dX11_crc_35 (by decide) ?_
      refine g_iand B dX11_crc_36 ?_
      refine g_ri (x' := nI ((l3).toBitVec.toNat % 2)) (pk_and l3 (m := 1) 1 (by decide)) ?_
      refine g_iconst (v := 1) B dX11_crc_37 (by decide) ?_
      refine g_icmp_ne (tgt := 50) B dX11_crc_38 (by decide) (fun c38_2854 => ?_) (fun c38_2854 => ?_)
      · have hn_2855 : ¬ ((l3).toBitVec.toNat % 2) = 1 := fun q => c38_2854 ((nI_eq (a := ((l3).toBitVec.toNat % 2)) (b := 1) (by omega) (by omega)).mpr q)
        replace e_ := fun β k_ => (e_ β k_).trans (if_neg hn_2855)
        refine g_iload_n B dX11_crc_50 rfl 3 rfl ?_
        refine g_iconst (v := 1) B dX11_crc_51 (by decide) ?_
        refine g_iushr B dX11_crc_52 ?_
        refine g_topi (fun x_2857 ex_2857 => ?_)
        replace e_ := fun β k_ => (e_ β k_).trans (fnL_eq (x := x_2857) ex_2857.symm _)
        refine g_istore_n (lv' := [(3, .int x_2857), (0, .ref ta), (1, .int (nI fo)), (2, .int (nI n)), (4, .int (nI l4)), (5, .int (nI l5))]) B dX11_crc_53 rfl (by decide) rfl ?_
        refine g_iinc (v := nI (l5 + 1)) (lv' := [(5, .int (nI (l5 + 1))), (3, .int x_2857), (0, .ref ta), (1, .int (nI fo)), (2, .int (nI n)), (4, .int (nI l4))]) B dX11_crc_54 5 rfl (nI_add l5 1) (by decide) rfl ?_
        refine g_goto (tgt := 27) B dX11_crc_57 (by decide) ?_
        refine g_lvsub (lv' := [(0, .ref ta), (1, .int (nI fo)), (2, .int (nI n)), (3, .int x_2857), (4, .int (nI l4)), (5, .int (nI (l5 + 1)))]) [2, 3, 4, 1, 5, 0] rfl ?_
        exact ih x_2857 (l5 + 1) (by first | assumption | omega | decide | exact hCF _ (by omega)) (by omega) e_
      · have hn_2856 : ((l3).toBitVec.toNat % 2) = 1 := (nI_eq (a := ((l3).toBitVec.toNat % 2)) (b := 1) (by omega) (by omega)).mp c38_2854
        replace e_ := fun β k_ => (e_ β k_).trans (if_pos hn_2856)
        refine g_iload_n B dX11_crc_41 rfl 3 rfl ?_
        refine g_iconst (v := 1) B dX11_crc_42 (by decide) ?_
        refine g_iushr B dX11_crc_43 ?_
        refine g_ldc (v := (-306674912)) B w_k_X11_102 dX11_crc_44 ?_
        refine g_ixor B dX11_crc_46 ?_
        refine g_goto (tgt := 53) B dX11_crc_47 (by decide) ?_
        refine g_topi (fun x_2858 ex_2858 => ?_)
        replace e_ := fun β k_ => (e_ β k_).trans (fnL_eq (x := x_2858) ex_2858.symm _)
        refine g_istore_n (lv' := [(3, .int x_2858), (0, .ref ta), (1, .int (nI fo)), (2, .int (nI n)), (4, .int (nI l4)), (5, .int (nI l5))]) B dX11_crc_53 rfl (by decide) rfl ?_
        refine g_iinc (v := nI (l5 + 1)) (lv' := [(5, .int (nI (l5 + 1))), (3, .int x_2858), (0, .ref ta), (1, .int (nI fo)), (2, .int (nI n)), (4, .int (nI l4))]) B dX11_crc_54 5 rfl (nI_add l5 1) (by decide) rfl ?_
        refine g_goto (tgt := 27) B dX11_crc_57 (by decide) ?_
        refine g_lvsub (lv' := [(0, .ref ta), (1, .int (nI fo)), (2, .int (nI n)), (3, .int x_2858), (4, .int (nI l4)), (5, .int (nI (l5 + 1)))]) [2, 3, 4, 1, 5, 0] rfl ?_
        exact ih x_2858 (l5 + 1) (by first | assumption | omega | decide | exact hCF _ (by omega)) (by omega) e_
theorem dX11_crc_60 : decode cX11_crc 60 = .ok (.iinc 4 1, 3) := by decide +kernel
theorem dX11_crc_63 : decode cX11_crc 63 = .ok (.goto (-58), 3) := by decide +kernel
set_option maxRecDepth 100000 in
def lf_wr_X11_crc_5 (fo : Nat) (n : Nat) (tf : Nat → Int32) (β : Type) (kx_ : Int32 → Nat → β)  : Nat → Int32 → Nat → β
  | 0, l3, l4 => kx_ l3 l4
  | fuel + 1, l3, l4 => (if n ≤ l4 then (kx_ l3 l4) else (fnL (l3 ^^^ nI (((nb tf (fo + l4))).toBitVec.toNat % 256)) (fun x_2850 => (lf_wr_X11_crc_27  β (fun y_2859l3 y_2859l5 => (lf_wr_X11_crc_5 fo n tf β kx_ fuel y_2859l3 (l4 + 1))) ((8 - 0) + 1) x_2850 0))))
set_option maxRecDepth 100000 in
theorem lf_wr_X11_crc_5_s {fo : Nat} {n : Nat} {tf : Nat → Int32} {β : Type} {kx_ : Int32 → Nat → β}  {fuel : Nat} {l3 : Int32} {l4 : Nat} : lf_wr_X11_crc_5 fo n tf β kx_  (fuel + 1) l3 l4 = (if n ≤ l4 then (kx_ l3 l4) else (fnL (l3 ^^^ nI (((nb tf (fo + l4))).toBitVec.toNat % 256)) (fun x_2850 => (lf_wr_X11_crc_27  β (fun y_2859l3 y_2859l5 => (lf_wr_X11_crc_5 fo n tf β kx_ fuel y_2859l3 (l4 + 1))) ((8 - 0) + 1) x_2850 0)))) := rfl
set_option maxRecDepth 100000 in
set_option maxHeartbeats 4000000 in
theorem lp_wr_X11_crc_5 (E : g_E) (ta : Nat) (NT : Nat) (fo : Nat) (n : Nat) (tf : Nat → Int32) (h0 : fo + n ≤ NT) (h1 : NT < 2147483648)   {X : g_X} {rr : (β : Type) → (Int32 → β) → β} (kx_ : (β : Type) → (Int32 → β) → Int32 → Nat → β) (B : Bd E X cX11_crc RX11 6 0 0 0 0) (hr : Rt E X (some .int) 0 0 (fun v_ w_ => ∃ zr : Int32, (∀ (β : Type) (k_ : Int32 → β), rr β k_ = k_ zr) ∧ v_ = some (.int zr) ∧ w_ = [(ta, .inl (E.2.2.1 1, NT, .inl (nb tf)))])) (K : ∀ (l3 : Int32) (l4 : Nat), (l4 ≤ n) → (∀ (β : Type) (k_ : Int32 → β), rr β k_ = kx_ β k_ l3 l4) → G E X 6 [(ta, .inl (E.2.2.1 1, NT, .inl (nb tf)))] 0 0 [(0, .ref ta), (1, .int (nI fo)), (2, .int (nI n)), (3, .int l3), (4, .int (nI l4))] 66 []) : ∀ (fuel : Nat) (l3 : Int32) (l4 : Nat), (l4 ≤ n) → (n - l4) < fuel → (∀ (β : Type) (k_ : Int32 → β), rr β k_ = lf_wr_X11_crc_5 fo n tf β (kx_ β k_) fuel l3 l4) → G E X 6 [(ta, .inl (E.2.2.1 1, NT, .inl (nb tf)))] 0 0 [(0, .ref ta), (1, .int (nI fo)), (2, .int (nI n)), (3, .int l3), (4, .int (nI l4))] 5 [] := by
  intro fuel
  induction fuel with
  | zero => intro l3 l4 _ h _; exact absurd h (Nat.not_lt_zero _)
  | succ fuel ih =>
    intro l3 l4 hv0 hm e_
    replace e_ := fun β k_ => (e_ β k_).trans lf_wr_X11_crc_5_s
    refine g_iload B dX11_crc_5 4 rfl ?_
    refine g_iload_n B dX11_crc_7 rfl 2 rfl ?_
    refine g_icmp_ge (tgt := 66) B dX11_crc_8 (by decide) (fun c8_2847 => ?_) (fun c8_2847 => ?_)
    · have hn_2848 : n ≤ l4 := (nI_leI (a := n) (b := l4) (by omega) (by omega)).mp c8_2847
      replace e_ := fun β k_ => (e_ β k_).trans (if_pos hn_2848)
      exact K l3 l4 (by first | assumption | omega | decide | exact hCF _ (by omega)) e_
    · have hn_2849 : l4 < n := Nat.not_le.mp (fun q => c8_2847 ((nI_leI (a := n) (b := l4) (by omega) (by omega)).mpr q))
      replace e_ := fun β k_ => (e_ β k_).trans (if_neg (Nat.not_le.mpr hn_2849))
      refine g_iload_n B dX11_crc_11 rfl 3 rfl ?_
      refine g_aload_n B dX11_crc_12 rfl 0 rfl ?_
      refine g_iload_n B dX11_crc_13 rfl 1 rfl ?_
      refine g_iload B dX11_crc_14 4 rfl ?_
      refine g_iadd B dX11_crc_16 ?_
      refine g_ri (x' := nI (fo + l4)) (nI_add fo l4) ?_
      refine g_bald B 0 rfl (vp_in_nI (by omega) (by omega)) dX11_crc_17 ?_
      refine g_ri (x' := (nb tf (fo + l4))) (congrArg (nb tf) (nI_clamp (n := (fo + l4)) (by omega))) ?_
      refine g_sipush (v := 255) B dX11_crc_18 (by decide) ?_
      refine g_iand B dX11_crc_21 ?_
      refine g_ri (x' := nI (((nb tf (fo + l4))).toBitVec.toNat % 256)) (pk_and (nb tf (fo + l4)) (m := 255) 8 (by decide)) ?_
      refine g_ixor B dX11_crc_22 ?_
      refine g_topi (fun x_2850 ex_2850 => ?_)
      replace e_ := fun β k_ => (e_ β k_).trans (fnL_eq (x := x_2850) ex_2850.symm _)
      refine g_istore_n (lv' := [(3, .int x_2850), (0, .ref ta), (1, .int (nI fo)), (2, .int (nI n)), (4, .int (nI l4))]) B dX11_crc_23 rfl (by decide) rfl ?_
      refine g_iconst (v := 0) B dX11_crc_24 (by decide) ?_
      refine g_istore (lv' := [(5, .int 0), (3, .int x_2850), (0, .ref ta), (1, .int (nI fo)), (2, .int (nI n)), (4, .int (nI l4))]) B dX11_crc_25 (by decide) rfl ?_
      refine g_lvsub (lv' := [(0, .ref ta), (1, .int (nI fo)), (2, .int (nI n)), (3, .int x_2850), (4, .int (nI l4)), (5, .int 0)]) [2, 3, 4, 1, 5, 0] rfl ?_
      refine lp_wr_X11_crc_27 E ta NT fo n tf h0 h1 l4  _ B hr (fun y_2859l3 y_2859l5 y_2859k0 e_ => ?_) _ x_2850 0 (by first | assumption | omega | decide | exact hCF _ (by omega)) (Nat.lt_succ_self _) e_
      show G E X 6 [(ta, .inl (E.2.2.1 1, NT, .inl (nb tf)))] 0 0 [(0, .ref ta), (1, .int (nI fo)), (2, .int (nI n)), (3, .int y_2859l3), (4, .int (nI l4)), (5, .int (nI y_2859l5))] 60 []
      refine g_iinc (v := nI (l4 + 1)) (lv' := [(4, .int (nI (l4 + 1))), (0, .ref ta), (1, .int (nI fo)), (2, .int (nI n)), (3, .int y_2859l3), (5, .int (nI y_2859l5))]) B dX11_crc_60 4 rfl (nI_add l4 1) (by decide) rfl ?_
      refine g_goto (tgt := 5) B dX11_crc_63 (by decide) ?_
      refine g_lvsub (lv' := [(0, .ref ta), (1, .int (nI fo)), (2, .int (nI n)), (3, .int y_2859l3), (4, .int (nI (l4 + 1)))]) [1, 2, 3, 4, 0] rfl ?_
      exact ih y_2859l3 (l4 + 1) (by first | assumption | omega | decide | exact hCF _ (by omega)) (by omega) e_
theorem dX11_crc_66 : decode cX11_crc 66 = .ok (.iload_n 3, 1) := by decide +kernel
theorem dX11_crc_67 : decode cX11_crc 67 = .ok (.iconst (-1), 1) := by decide +kernel
theorem dX11_crc_68 : decode cX11_crc 68 = .ok (.ixor, 1) := by decide +kernel
theorem dX11_crc_69 : decode cX11_crc 69 = .ok (.ireturn, 1) := by decide +kernel
set_option maxRecDepth 100000 in
def fn_wr_X11_crc (fo : Nat) (n : Nat) (tf : Nat → Int32) (β : Type) (k_ : Int32 → β) : β := (lf_wr_X11_crc_5 fo n tf β (fun y_2860l3 y_2860l4 => (k_ (y_2860l3 ^^^ (-1)))) ((n - 0) + 1) (-1) 0)
set_option maxRecDepth 100000 in
theorem fn_wr_X11_crc_s {fo : Nat} {n : Nat} {tf : Nat → Int32} {β : Type} {k_ : Int32 → β} : fn_wr_X11_crc fo n tf β k_ = (lf_wr_X11_crc_5 fo n tf β (fun y_2860l3 y_2860l4 => (k_ (y_2860l3 ^^^ (-1)))) ((n - 0) + 1) (-1) 0) := rfl
set_option maxRecDepth 100000 in
set_option maxHeartbeats 4000000 in
theorem wr_X11_crc (E : g_E) (ta : Nat) (NT : Nat) (fo : Nat) (n : Nat) (tf : Nat → Int32) (h0 : fo + n ≤ NT) (h1 : NT < 2147483648) : Ev E MX11_crc 0 0 0 0 [.ref ta, .int (nI fo), .int (nI n)] [(ta, .inl (E.2.2.1 1, NT, .inl (nb tf)))] (fun v_ w_ => ∃ zr : Int32, (∀ (β : Type) (k_ : Int32 → β), fn_wr_X11_crc fo n tf β k_ = k_ zr) ∧ v_ = some (.int zr) ∧ w_ = [(ta, .inl (E.2.2.1 1, NT, .inl (nb tf)))]) := by
  refine Ev.intro (by decide) (Nat.le_of_ble_eq_true rfl) ?_
  intro X B hr hI
  have B : Bd E X cX11_crc RX11 6 0 0 0 0 := B
  have hr : Rt E X (some .int) 0 0 (fun v_ w_ => ∃ zr : Int32, (∀ (β : Type) (k_ : Int32 → β), fn_wr_X11_crc fo n tf β k_ = k_ zr) ∧ v_ = some (.int zr) ∧ w_ = [(ta, .inl (E.2.2.1 1, NT, .inl (nb tf)))]) := hr
  have e_ := fun (β : Type) (k_ : Int32 → β) => fn_wr_X11_crc_s (β := β) (k_ := k_) (fo := fo) (n := n) (tf := tf)
  show G E X 6 [(ta, .inl (E.2.2.1 1, NT, .inl (nb tf)))] 0 0 [(0, .ref ta), (1, .int (nI fo)), (2, .int (nI n))] 0 []
  refine g_iconst (v := (-1)) B dX11_crc_0 (by decide) ?_
  refine g_istore_n (lv' := [(3, .int (-1)), (0, .ref ta), (1, .int (nI fo)), (2, .int (nI n))]) B dX11_crc_1 rfl (by decide) rfl ?_
  refine g_iconst (v := 0) B dX11_crc_2 (by decide) ?_
  refine g_istore (lv' := [(4, .int 0), (3, .int (-1)), (0, .ref ta), (1, .int (nI fo)), (2, .int (nI n))]) B dX11_crc_3 (by decide) rfl ?_
  refine g_lvsub (lv' := [(0, .ref ta), (1, .int (nI fo)), (2, .int (nI n)), (3, .int (-1)), (4, .int 0)]) [2, 3, 4, 1, 0] rfl ?_
  refine lp_wr_X11_crc_5 E ta NT fo n tf h0 h1   _ B hr (fun y_2860l3 y_2860l4 y_2860k0 e_ => ?_) _ (-1) 0 (by first | assumption | omega | decide | exact hCF _ (by omega)) (Nat.lt_succ_self _) e_
  show G E X 6 [(ta, .inl (E.2.2.1 1, NT, .inl (nb tf)))] 0 0 [(0, .ref ta), (1, .int (nI fo)), (2, .int (nI n)), (3, .int y_2860l3), (4, .int (nI y_2860l4))] 66 []
  refine g_iload_n B dX11_crc_66 rfl 3 rfl ?_
  refine g_iconst (v := (-1)) B dX11_crc_67 (by decide) ?_
  refine g_ixor B dX11_crc_68 ?_
  exact g_iret B hr dX11_crc_69 (by decide) (by decide) ⟨(y_2860l3 ^^^ (-1)), e_, rfl, rfl⟩
abbrev MX11_putInt : g_M := (yX11_putInt, cX11_putInt, 4, none)
theorem dX11_putInt_0 : decode cX11_putInt 0 = .ok (.iconst 0, 1) := by decide +kernel
theorem dX11_putInt_1 : decode cX11_putInt 1 = .ok (.istore_n 3, 1) := by decide +kernel
theorem dX11_putInt_2 : decode cX11_putInt 2 = .ok (.iload_n 3, 1) := by decide +kernel
theorem dX11_putInt_3 : decode cX11_putInt 3 = .ok (.iconst 4, 1) := by decide +kernel
theorem dX11_putInt_4 : decode cX11_putInt 4 = .ok (.if_icmp .ge 24, 3) := by decide +kernel
theorem dX11_putInt_7 : decode cX11_putInt 7 = .ok (.aload_n 0, 1) := by decide +kernel
theorem dX11_putInt_8 : decode cX11_putInt 8 = .ok (.iload_n 1, 1) := by decide +kernel
theorem dX11_putInt_9 : decode cX11_putInt 9 = .ok (.iload_n 3, 1) := by decide +kernel
theorem dX11_putInt_10 : decode cX11_putInt 10 = .ok (.iadd, 1) := by decide +kernel
theorem dX11_putInt_11 : decode cX11_putInt 11 = .ok (.iload_n 2, 1) := by decide +kernel
theorem dX11_putInt_12 : decode cX11_putInt 12 = .ok (.bipush 24, 2) := by decide +kernel
theorem dX11_putInt_14 : decode cX11_putInt 14 = .ok (.bipush 8, 2) := by decide +kernel
theorem dX11_putInt_16 : decode cX11_putInt 16 = .ok (.iload_n 3, 1) := by decide +kernel
theorem dX11_putInt_17 : decode cX11_putInt 17 = .ok (.imul, 1) := by decide +kernel
theorem dX11_putInt_18 : decode cX11_putInt 18 = .ok (.isub, 1) := by decide +kernel
theorem dX11_putInt_19 : decode cX11_putInt 19 = .ok (.ishr, 1) := by decide +kernel
theorem dX11_putInt_20 : decode cX11_putInt 20 = .ok (.i2b, 1) := by decide +kernel
theorem dX11_putInt_21 : decode cX11_putInt 21 = .ok (.bastore, 1) := by decide +kernel
theorem dX11_putInt_22 : decode cX11_putInt 22 = .ok (.iinc 3 1, 3) := by decide +kernel
theorem dX11_putInt_25 : decode cX11_putInt 25 = .ok (.goto (-23), 3) := by decide +kernel
theorem dX11_putInt_28 : decode cX11_putInt 28 = .ok (.return_, 1) := by decide +kernel
set_option maxRecDepth 100000 in
def fn_wr_X11_putInt (ao : Nat) (tf : Nat → Int32) (v : Int32) (β : Type) (k_ : (Nat → Int32) → β) : β := (k_ (upd (upd (upd (upd tf (ao + 0) (Int8.toInt32 (Int32.toInt8 (v >>> (24 &&& 31))))) (ao + 1) (Int8.toInt32 (Int32.toInt8 (v >>> (16 &&& 31))))) (ao + 2) (Int8.toInt32 (Int32.toInt8 (v >>> (8 &&& 31))))) (ao + 3) (Int8.toInt32 (Int32.toInt8 (v >>> (0 &&& 31))))))
set_option maxRecDepth 100000 in
theorem fn_wr_X11_putInt_s {ao : Nat} {tf : Nat → Int32} {v : Int32} {β : Type} {k_ : (Nat → Int32) → β} : fn_wr_X11_putInt ao tf v β k_ = (k_ (upd (upd (upd (upd tf (ao + 0) (Int8.toInt32 (Int32.toInt8 (v >>> (24 &&& 31))))) (ao + 1) (Int8.toInt32 (Int32.toInt8 (v >>> (16 &&& 31))))) (ao + 2) (Int8.toInt32 (Int32.toInt8 (v >>> (8 &&& 31))))) (ao + 3) (Int8.toInt32 (Int32.toInt8 (v >>> (0 &&& 31)))))) := rfl
set_option maxRecDepth 100000 in
set_option maxHeartbeats 4000000 in
theorem wr_X11_putInt (E : g_E) (ta : Nat) (NT : Nat) (ao : Nat) (tf : Nat → Int32) (v : Int32) (h0 : ao + 4 ≤ NT) (h1 : NT < 2147483648) : Ev E MX11_putInt 0 0 0 0 [.ref ta, .int (nI ao), .int v] [(ta, .inl (E.2.2.1 1, NT, .inl (nb tf)))] (fun v_ w_ => ∃ ztf : Nat → Int32, (∀ (β : Type) (k_ : (Nat → Int32) → β), fn_wr_X11_putInt ao tf v β k_ = k_ ztf) ∧ v_ = none ∧ w_ = [(ta, .inl (E.2.2.1 1, NT, .inl (nb ztf)))]) := by
  refine Ev.intro (by decide) (Nat.le_of_ble_eq_true rfl) ?_
  intro X B hr hI
  have B : Bd E X cX11_putInt RX11 4 0 0 0 0 := B
  have hr : Rt E X none 0 0 (fun v_ w_ => ∃ ztf : Nat → Int32, (∀ (β : Type) (k_ : (Nat → Int32) → β), fn_wr_X11_putInt ao tf v β k_ = k_ ztf) ∧ v_ = none ∧ w_ = [(ta, .inl (E.2.2.1 1, NT, .inl (nb ztf)))]) := hr
  have e_ := fun (β : Type) (k_ : (Nat → Int32) → β) => fn_wr_X11_putInt_s (β := β) (k_ := k_) (ao := ao) (tf := tf) (v := v)
  show G E X 4 [(ta, .inl (E.2.2.1 1, NT, .inl (nb tf)))] 0 0 [(0, .ref ta), (1, .int (nI ao)), (2, .int v)] 0 []
  refine g_iconst (v := 0) B dX11_putInt_0 (by decide) ?_
  refine g_istore_n (lv' := [(3, .int 0), (0, .ref ta), (1, .int (nI ao)), (2, .int v)]) B dX11_putInt_1 rfl (by decide) rfl ?_
  refine g_iload_n B dX11_putInt_2 rfl 0 rfl ?_
  refine g_iconst (v := 4) B dX11_putInt_3 (by decide) ?_
  refine g_icmp_ge (tgt := 28) B dX11_putInt_4 (by decide) (fun h => absurd h (by decide)) (fun c4 => ?_)
  refine g_aload_n B dX11_putInt_7 rfl 1 rfl ?_
  refine g_iload_n B dX11_putInt_8 rfl 2 rfl ?_
  refine g_iload_n B dX11_putInt_9 rfl 0 rfl ?_
  refine g_iadd B dX11_putInt_10 ?_
  refine g_ri (x' := nI (ao + 0)) (nI_add ao 0) ?_
  refine g_iload_n B dX11_putInt_11 rfl 3 rfl ?_
  refine g_bipush (v := 24) B dX11_putInt_12 (by decide) ?_
  refine g_bipush (v := 8) B dX11_putInt_14 (by decide) ?_
  refine g_iload_n B dX11_putInt_16 rfl 0 rfl ?_
  refine g_imul B dX11_putInt_17 ?_
  refine g_ri (x' := 0) (by decide) ?_
  refine g_isub B dX11_putInt_18 ?_
  refine g_ri (x' := 24) (by decide) ?_
  refine g_ishr B dX11_putInt_19 ?_
  refine g_i2b B dX11_putInt_20 ?_
  refine g_bast (ws' := [(ta, .inl (E.2.2.1 1, NT, .inl (nb (upd tf (ao + 0) (Int8.toInt32 (Int32.toInt8 (v >>> (24 &&& 31))))))))]) B 0 rfl (vp_in_nI (by omega) (by omega)) (by rw [nb_upd, nI_clamp (n := (ao + 0)) (by omega)]; rfl) dX11_putInt_21 ?_
  refine g_iinc (v := 1) (lv' := [(3, .int 1), (0, .ref ta), (1, .int (nI ao)), (2, .int v)]) B dX11_putInt_22 0 rfl (by decide) (by decide) rfl ?_
  refine g_goto (tgt := 2) B dX11_putInt_25 (by decide) ?_
  refine g_iload_n B dX11_putInt_2 rfl 0 rfl ?_
  refine g_iconst (v := 4) B dX11_putInt_3 (by decide) ?_
  refine g_icmp_ge (tgt := 28) B dX11_putInt_4 (by decide) (fun h => absurd h (by decide)) (fun c4 => ?_)
  refine g_aload_n B dX11_putInt_7 rfl 1 rfl ?_
  refine g_iload_n B dX11_putInt_8 rfl 2 rfl ?_
  refine g_iload_n B dX11_putInt_9 rfl 0 rfl ?_
  refine g_iadd B dX11_putInt_10 ?_
  refine g_ri (x' := nI (ao + 1)) (nI_add ao 1) ?_
  refine g_iload_n B dX11_putInt_11 rfl 3 rfl ?_
  refine g_bipush (v := 24) B dX11_putInt_12 (by decide) ?_
  refine g_bipush (v := 8) B dX11_putInt_14 (by decide) ?_
  refine g_iload_n B dX11_putInt_16 rfl 0 rfl ?_
  refine g_imul B dX11_putInt_17 ?_
  refine g_ri (x' := 8) (by decide) ?_
  refine g_isub B dX11_putInt_18 ?_
  refine g_ri (x' := 16) (by decide) ?_
  refine g_ishr B dX11_putInt_19 ?_
  refine g_i2b B dX11_putInt_20 ?_
  refine g_bast (ws' := [(ta, .inl (E.2.2.1 1, NT, .inl (nb (upd (upd tf (ao + 0) (Int8.toInt32 (Int32.toInt8 (v >>> (24 &&& 31))))) (ao + 1) (Int8.toInt32 (Int32.toInt8 (v >>> (16 &&& 31))))))))]) B 0 rfl (vp_in_nI (by omega) (by omega)) (by rw [nb_upd, nI_clamp (n := (ao + 1)) (by omega)]; rfl) dX11_putInt_21 ?_
  refine g_iinc (v := 2) (lv' := [(3, .int 2), (0, .ref ta), (1, .int (nI ao)), (2, .int v)]) B dX11_putInt_22 0 rfl (by decide) (by decide) rfl ?_
  refine g_goto (tgt := 2) B dX11_putInt_25 (by decide) ?_
  refine g_iload_n B dX11_putInt_2 rfl 0 rfl ?_
  refine g_iconst (v := 4) B dX11_putInt_3 (by decide) ?_
  refine g_icmp_ge (tgt := 28) B dX11_putInt_4 (by decide) (fun h => absurd h (by decide)) (fun c4 => ?_)
  refine g_aload_n B dX11_putInt_7 rfl 1 rfl ?_
  refine g_iload_n B dX11_putInt_8 rfl 2 rfl ?_
  refine g_iload_n B dX11_putInt_9 rfl 0 rfl ?_
  refine g_iadd B dX11_putInt_10 ?_
  refine g_ri (x' := nI (ao + 2)) (nI_add ao 2) ?_
  refine g_iload_n B dX11_putInt_11 rfl 3 rfl ?_
  refine g_bipush (v := 24) B dX11_putInt_12 (by decide) ?_
  refine g_bipush (v := 8) B dX11_putInt_14 (by decide) ?_
  refine g_iload_n B dX11_putInt_16 rfl 0 rfl ?_
  refine g_imul B dX11_putInt_17 ?_
  refine g_ri (x' := 16) (by decide) ?_
  refine g_isub B dX11_putInt_18 ?_
  refine g_ri (x' := 8) (by decide) ?_
  refine g_ishr B dX11_putInt_19 ?_
  refine g_i2b B dX11_putInt_20 ?_
  refine g_bast (ws' := [(ta, .inl (E.2.2.1 1, NT, .inl (nb (upd (upd (upd tf (ao + 0) (Int8.toInt32 (Int32.toInt8 (v >>> (24 &&& 31))))) (ao + 1) (Int8.toInt32 (Int32.toInt8 (v >>> (16 &&& 31))))) (ao + 2) (Int8.toInt32 (Int32.toInt8 (v >>> (8 &&& 31))))))))]) B 0 rfl (vp_in_nI (by omega) (by omega)) (by rw [nb_upd, nI_clamp (n := (ao + 2)) (by omega)]; rfl) dX11_putInt_21 ?_
  refine g_iinc (v := 3) (lv' := [(3, .int 3), (0, .ref ta), (1, .int (nI ao)), (2, .int v)]) B dX11_putInt_22 0 rfl (by decide) (by decide) rfl ?_
  refine g_goto (tgt := 2) B dX11_putInt_25 (by decide) ?_
  refine g_iload_n B dX11_putInt_2 rfl 0 rfl ?_
  refine g_iconst (v := 4) B dX11_putInt_3 (by decide) ?_
  refine g_icmp_ge (tgt := 28) B dX11_putInt_4 (by decide) (fun h => absurd h (by decide)) (fun c4 => ?_)
  refine g_aload_n B dX11_putInt_7 rfl 1 rfl ?_
  refine g_iload_n B dX11_putInt_8 rfl 2 rfl ?_
  refine g_iload_n B dX11_putInt_9 rfl 0 rfl ?_
  refine g_iadd B dX11_putInt_10 ?_
  refine g_ri (x' := nI (ao + 3)) (nI_add ao 3) ?_
  refine g_iload_n B dX11_putInt_11 rfl 3 rfl ?_
  refine g_bipush (v := 24) B dX11_putInt_12 (by decide) ?_
  refine g_bipush (v := 8) B dX11_putInt_14 (by decide) ?_
  refine g_iload_n B dX11_putInt_16 rfl 0 rfl ?_
  refine g_imul B dX11_putInt_17 ?_
  refine g_ri (x' := 24) (by decide) ?_
  refine g_isub B dX11_putInt_18 ?_
  refine g_ri (x' := 0) (by decide) ?_
  refine g_ishr B dX11_putInt_19 ?_
  refine g_i2b B dX11_putInt_20 ?_
  refine g_bast (ws' := [(ta, .inl (E.2.2.1 1, NT, .inl (nb (upd (upd (upd (upd tf (ao + 0) (Int8.toInt32 (Int32.toInt8 (v >>> (24 &&& 31))))) (ao + 1) (Int8.toInt32 (Int32.toInt8 (v >>> (16 &&& 31))))) (ao + 2) (Int8.toInt32 (Int32.toInt8 (v >>> (8 &&& 31))))) (ao + 3) (Int8.toInt32 (Int32.toInt8 (v >>> (0 &&& 31))))))))]) B 0 rfl (vp_in_nI (by omega) (by omega)) (by rw [nb_upd, nI_clamp (n := (ao + 3)) (by omega)]; rfl) dX11_putInt_21 ?_
  refine g_iinc (v := 4) (lv' := [(3, .int 4), (0, .ref ta), (1, .int (nI ao)), (2, .int v)]) B dX11_putInt_22 0 rfl (by decide) (by decide) rfl ?_
  refine g_goto (tgt := 2) B dX11_putInt_25 (by decide) ?_
  refine g_iload_n B dX11_putInt_2 rfl 0 rfl ?_
  refine g_iconst (v := 4) B dX11_putInt_3 (by decide) ?_
  refine g_icmp_ge (tgt := 28) B dX11_putInt_4 (by decide) (fun c4 => ?_) (fun h => absurd (by decide) h)
  exact g_vret B hr dX11_putInt_28 (by decide) (by decide) ⟨(upd (upd (upd (upd tf (ao + 0) (Int8.toInt32 (Int32.toInt8 (v >>> (24 &&& 31))))) (ao + 1) (Int8.toInt32 (Int32.toInt8 (v >>> (16 &&& 31))))) (ao + 2) (Int8.toInt32 (Int32.toInt8 (v >>> (8 &&& 31))))) (ao + 3) (Int8.toInt32 (Int32.toInt8 (v >>> (0 &&& 31))))), e_, rfl, rfl⟩
abbrev MX11_intAt : g_M := (yX11_intAt, cX11_intAt, 2, (some .int))
theorem dX11_intAt_0 : decode cX11_intAt 0 = .ok (.aload_n 0, 1) := by decide +kernel
theorem dX11_intAt_1 : decode cX11_intAt 1 = .ok (.iload_n 1, 1) := by decide +kernel
theorem dX11_intAt_2 : decode cX11_intAt 2 = .ok (.baload, 1) := by decide +kernel
theorem dX11_intAt_3 : decode cX11_intAt 3 = .ok (.bipush 24, 2) := by decide +kernel
theorem dX11_intAt_5 : decode cX11_intAt 5 = .ok (.ishl, 1) := by decide +kernel
theorem dX11_intAt_6 : decode cX11_intAt 6 = .ok (.aload_n 0, 1) := by decide +kernel
theorem dX11_intAt_7 : decode cX11_intAt 7 = .ok (.iload_n 1, 1) := by decide +kernel
theorem dX11_intAt_8 : decode cX11_intAt 8 = .ok (.iconst 1, 1) := by decide +kernel
theorem dX11_intAt_9 : decode cX11_intAt 9 = .ok (.iadd, 1) := by decide +kernel
theorem dX11_intAt_10 : decode cX11_intAt 10 = .ok (.baload, 1) := by decide +kernel
theorem dX11_intAt_11 : decode cX11_intAt 11 = .ok (.sipush 255, 3) := by decide +kernel
theorem dX11_intAt_14 : decode cX11_intAt 14 = .ok (.iand, 1) := by decide +kernel
theorem dX11_intAt_15 : decode cX11_intAt 15 = .ok (.bipush 16, 2) := by decide +kernel
theorem dX11_intAt_17 : decode cX11_intAt 17 = .ok (.ishl, 1) := by decide +kernel
theorem dX11_intAt_18 : decode cX11_intAt 18 = .ok (.ior, 1) := by decide +kernel
theorem dX11_intAt_19 : decode cX11_intAt 19 = .ok (.aload_n 0, 1) := by decide +kernel
theorem dX11_intAt_20 : decode cX11_intAt 20 = .ok (.iload_n 1, 1) := by decide +kernel
theorem dX11_intAt_21 : decode cX11_intAt 21 = .ok (.iconst 2, 1) := by decide +kernel
theorem dX11_intAt_22 : decode cX11_intAt 22 = .ok (.iadd, 1) := by decide +kernel
theorem dX11_intAt_23 : decode cX11_intAt 23 = .ok (.baload, 1) := by decide +kernel
theorem dX11_intAt_24 : decode cX11_intAt 24 = .ok (.sipush 255, 3) := by decide +kernel
theorem dX11_intAt_27 : decode cX11_intAt 27 = .ok (.iand, 1) := by decide +kernel
theorem dX11_intAt_28 : decode cX11_intAt 28 = .ok (.bipush 8, 2) := by decide +kernel
theorem dX11_intAt_30 : decode cX11_intAt 30 = .ok (.ishl, 1) := by decide +kernel
theorem dX11_intAt_31 : decode cX11_intAt 31 = .ok (.ior, 1) := by decide +kernel
theorem dX11_intAt_32 : decode cX11_intAt 32 = .ok (.aload_n 0, 1) := by decide +kernel
theorem dX11_intAt_33 : decode cX11_intAt 33 = .ok (.iload_n 1, 1) := by decide +kernel
theorem dX11_intAt_34 : decode cX11_intAt 34 = .ok (.iconst 3, 1) := by decide +kernel
theorem dX11_intAt_35 : decode cX11_intAt 35 = .ok (.iadd, 1) := by decide +kernel
theorem dX11_intAt_36 : decode cX11_intAt 36 = .ok (.baload, 1) := by decide +kernel
theorem dX11_intAt_37 : decode cX11_intAt 37 = .ok (.sipush 255, 3) := by decide +kernel
theorem dX11_intAt_40 : decode cX11_intAt 40 = .ok (.iand, 1) := by decide +kernel
theorem dX11_intAt_41 : decode cX11_intAt 41 = .ok (.ior, 1) := by decide +kernel
theorem dX11_intAt_42 : decode cX11_intAt 42 = .ok (.ireturn, 1) := by decide +kernel
set_option maxRecDepth 100000 in
def fn_wr_X11_intAt (ao : Nat) (tf : Nat → Int32) (β : Type) (k_ : Int32 → β) : β := (k_ (((((nb tf ao) <<< (24 &&& 31)) ||| nI ((((nb tf (ao + 1))).toBitVec.toNat % 256) * 65536)) ||| nI ((((nb tf (ao + 2))).toBitVec.toNat % 256) * 256)) ||| nI (((nb tf (ao + 3))).toBitVec.toNat % 256)))
set_option maxRecDepth 100000 in
theorem fn_wr_X11_intAt_s {ao : Nat} {tf : Nat → Int32} {β : Type} {k_ : Int32 → β} : fn_wr_X11_intAt ao tf β k_ = (k_ (((((nb tf ao) <<< (24 &&& 31)) ||| nI ((((nb tf (ao + 1))).toBitVec.toNat % 256) * 65536)) ||| nI ((((nb tf (ao + 2))).toBitVec.toNat % 256) * 256)) ||| nI (((nb tf (ao + 3))).toBitVec.toNat % 256))) := rfl
set_option maxRecDepth 100000 in
set_option maxHeartbeats 4000000 in
theorem wr_X11_intAt (E : g_E) (ta : Nat) (NT : Nat) (ao : Nat) (tf : Nat → Int32) (h0 : ao + 4 ≤ NT) (h1 : NT < 2147483648) : Ev E MX11_intAt 0 0 0 0 [.ref ta, .int (nI ao)] [(ta, .inl (E.2.2.1 1, NT, .inl (nb tf)))] (fun v_ w_ => ∃ zr : Int32, (∀ (β : Type) (k_ : Int32 → β), fn_wr_X11_intAt ao tf β k_ = k_ zr) ∧ v_ = some (.int zr) ∧ w_ = [(ta, .inl (E.2.2.1 1, NT, .inl (nb tf)))]) := by
  refine Ev.intro (by decide) (Nat.le_of_ble_eq_true rfl) ?_
  intro X B hr hI
  have B : Bd E X cX11_intAt RX11 2 0 0 0 0 := B
  have hr : Rt E X (some .int) 0 0 (fun v_ w_ => ∃ zr : Int32, (∀ (β : Type) (k_ : Int32 → β), fn_wr_X11_intAt ao tf β k_ = k_ zr) ∧ v_ = some (.int zr) ∧ w_ = [(ta, .inl (E.2.2.1 1, NT, .inl (nb tf)))]) := hr
  have e_ := fun (β : Type) (k_ : Int32 → β) => fn_wr_X11_intAt_s (β := β) (k_ := k_) (ao := ao) (tf := tf)
  show G E X 2 [(ta, .inl (E.2.2.1 1, NT, .inl (nb tf)))] 0 0 [(0, .ref ta), (1, .int (nI ao))] 0 []
  refine g_aload_n B dX11_intAt_0 rfl 0 rfl ?_
  refine g_iload_n B dX11_intAt_1 rfl 1 rfl ?_
  refine g_bald B 0 rfl (vp_in_nI (by omega) (by omega)) dX11_intAt_2 ?_
  refine g_ri (x' := (nb tf ao)) (congrArg (nb tf) (nI_clamp (n := ao) (by omega))) ?_
  refine g_bipush (v := 24) B dX11_intAt_3 (by decide) ?_
  refine g_ishl B dX11_intAt_5 ?_
  refine g_aload_n B dX11_intAt_6 rfl 0 rfl ?_
  refine g_iload_n B dX11_intAt_7 rfl 1 rfl ?_
  refine g_iconst (v := 1) B dX11_intAt_8 (by decide) ?_
  refine g_iadd B dX11_intAt_9 ?_
  refine g_ri (x' := nI (ao + 1)) (nI_add ao 1) ?_
  refine g_bald B 0 rfl (vp_in_nI (by omega) (by omega)) dX11_intAt_10 ?_
  refine g_ri (x' := (nb tf (ao + 1))) (congrArg (nb tf) (nI_clamp (n := (ao + 1)) (by omega))) ?_
  refine g_sipush (v := 255) B dX11_intAt_11 (by decide) ?_
  refine g_iand B dX11_intAt_14 ?_
  refine g_ri (x' := nI (((nb tf (ao + 1))).toBitVec.toNat % 256)) (pk_and (nb tf (ao + 1)) (m := 255) 8 (by decide)) ?_
  refine g_bipush (v := 16) B dX11_intAt_15 (by decide) ?_
  refine g_ishl B dX11_intAt_17 ?_
  refine g_ri (x' := nI ((((nb tf (ao + 1))).toBitVec.toNat % 256) * 65536)) (pk_shlN (n := (((nb tf (ao + 1))).toBitVec.toNat % 256)) (16 &&& 31) 16 (by decide) (by omega)) ?_
  refine g_ior B dX11_intAt_18 ?_
  refine g_aload_n B dX11_intAt_19 rfl 0 rfl ?_
  refine g_iload_n B dX11_intAt_20 rfl 1 rfl ?_
  refine g_iconst (v := 2) B dX11_intAt_21 (by decide) ?_
  refine g_iadd B dX11_intAt_22 ?_
  refine g_ri (x' := nI (ao + 2)) (nI_add ao 2) ?_
  refine g_bald B 0 rfl (vp_in_nI (by omega) (by omega)) dX11_intAt_23 ?_
  refine g_ri (x' := (nb tf (ao + 2))) (congrArg (nb tf) (nI_clamp (n := (ao + 2)) (by omega))) ?_
  refine g_sipush (v := 255) B dX11_intAt_24 (by decide) ?_
  refine g_iand B dX11_intAt_27 ?_
  refine g_ri (x' := nI (((nb tf (ao + 2))).toBitVec.toNat % 256)) (pk_and (nb tf (ao + 2)) (m := 255) 8 (by decide)) ?_
  refine g_bipush (v := 8) B dX11_intAt_28 (by decide) ?_
  refine g_ishl B dX11_intAt_30 ?_
  refine g_ri (x' := nI ((((nb tf (ao + 2))).toBitVec.toNat % 256) * 256)) (pk_shlN (n := (((nb tf (ao + 2))).toBitVec.toNat % 256)) (8 &&& 31) 8 (by decide) (by omega)) ?_
  refine g_ior B dX11_intAt_31 ?_
  refine g_aload_n B dX11_intAt_32 rfl 0 rfl ?_
  refine g_iload_n B dX11_intAt_33 rfl 1 rfl ?_
  refine g_iconst (v := 3) B dX11_intAt_34 (by decide) ?_
  refine g_iadd B dX11_intAt_35 ?_
  refine g_ri (x' := nI (ao + 3)) (nI_add ao 3) ?_
  refine g_bald B 0 rfl (vp_in_nI (by omega) (by omega)) dX11_intAt_36 ?_
  refine g_ri (x' := (nb tf (ao + 3))) (congrArg (nb tf) (nI_clamp (n := (ao + 3)) (by omega))) ?_
  refine g_sipush (v := 255) B dX11_intAt_37 (by decide) ?_
  refine g_iand B dX11_intAt_40 ?_
  refine g_ri (x' := nI (((nb tf (ao + 3))).toBitVec.toNat % 256)) (pk_and (nb tf (ao + 3)) (m := 255) 8 (by decide)) ?_
  refine g_ior B dX11_intAt_41 ?_
  exact g_iret B hr dX11_intAt_42 (by decide) (by decide) ⟨(((((nb tf ao) <<< (24 &&& 31)) ||| nI ((((nb tf (ao + 1))).toBitVec.toNat % 256) * 65536)) ||| nI ((((nb tf (ao + 2))).toBitVec.toNat % 256) * 256)) ||| nI (((nb tf (ao + 3))).toBitVec.toNat % 256)), e_, rfl, rfl⟩
abbrev MX11_closes : g_M := (yX11_closes, cX11_closes, 2, (some .int))
theorem dX11_closes_0 : decode cX11_closes 0 = .ok (.aload_n 0, 1) := by decide +kernel
theorem dX11_closes_1 : decode cX11_closes 1 = .ok (.iload_n 1, 1) := by decide +kernel
theorem dX11_closes_2 : decode cX11_closes 2 = .ok (.aload_n 0, 1) := by decide +kernel
theorem dX11_closes_3 : decode cX11_closes 3 = .ok (.iconst 0, 1) := by decide +kernel
theorem dX11_closes_4 : decode cX11_closes 4 = .ok (.iload_n 1, 1) := by decide +kernel
theorem dX11_closes_5 : decode cX11_closes 5 = .ok (.invokestatic 259, 3) := by decide +kernel
theorem w_ml_X11_259 : Cond.methodLink RX11 259 yX11_crc ∈ g_tbl := g_tbl_in 1172 (by decide +kernel) (by decide +kernel)
theorem w_cd_X11_crc : g_cw MX11_crc ∈ g_tbl := g_tbl_in 1174 (by decide +kernel) (by decide +kernel)
theorem cl_X11_259 : CL RX11 259 3 MX11_crc := ⟨w_ml_X11_259, w_cd_X11_crc, w_ini_X11, by decide +kernel, by decide +kernel, by decide +kernel⟩
theorem w_sm_X11_crc : Cond.static yX11_crc ∈ g_tbl := g_tbl_in 1173 (by decide +kernel) (by decide +kernel)
theorem dX11_closes_8 : decode cX11_closes 8 = .ok (.invokestatic 263, 3) := by decide +kernel
theorem w_ml_X11_263 : Cond.methodLink RX11 263 yX11_putInt ∈ g_tbl := g_tbl_in 1176 (by decide +kernel) (by decide +kernel)
theorem w_cd_X11_putInt : g_cw MX11_putInt ∈ g_tbl := g_tbl_in 1178 (by decide +kernel) (by decide +kernel)
theorem cl_X11_263 : CL RX11 263 3 MX11_putInt := ⟨w_ml_X11_263, w_cd_X11_putInt, w_ini_X11, by decide +kernel, by decide +kernel, by decide +kernel⟩
theorem w_sm_X11_putInt : Cond.static yX11_putInt ∈ g_tbl := g_tbl_in 1177 (by decide +kernel) (by decide +kernel)
theorem dX11_closes_11 : decode cX11_closes 11 = .ok (.iload_n 1, 1) := by decide +kernel
theorem dX11_closes_12 : decode cX11_closes 12 = .ok (.iconst 4, 1) := by decide +kernel
theorem dX11_closes_13 : decode cX11_closes 13 = .ok (.iadd, 1) := by decide +kernel
theorem dX11_closes_14 : decode cX11_closes 14 = .ok (.ireturn, 1) := by decide +kernel
set_option maxRecDepth 100000 in
def fn_wr_X11_closes (n : Nat) (tf : Nat → Int32) (β : Type) (k_ : (Nat → Int32) → β) : β := (fn_wr_X11_crc 0 n tf β (fun zr_2861 => (fn_wr_X11_putInt n tf zr_2861 β (fun ztf_2863 => (k_ ztf_2863)))))
set_option maxRecDepth 100000 in
theorem fn_wr_X11_closes_s {n : Nat} {tf : Nat → Int32} {β : Type} {k_ : (Nat → Int32) → β} : fn_wr_X11_closes n tf β k_ = (fn_wr_X11_crc 0 n tf β (fun zr_2861 => (fn_wr_X11_putInt n tf zr_2861 β (fun ztf_2863 => (k_ ztf_2863))))) := rfl
set_option maxRecDepth 100000 in
set_option maxHeartbeats 4000000 in
theorem wr_X11_closes (E : g_E) (ta : Nat) (NT : Nat) (n : Nat) (tf : Nat → Int32) (h0 : n + 4 ≤ NT) (h1 : NT < 2147483648) : Ev E MX11_closes 1 25 0 0 [.ref ta, .int (nI n)] [(ta, .inl (E.2.2.1 1, NT, .inl (nb tf)))] (fun v_ w_ => ∃ ztf : Nat → Int32, (∀ (β : Type) (k_ : (Nat → Int32) → β), fn_wr_X11_closes n tf β k_ = k_ ztf) ∧ v_ = some (.int (nI (n + 4))) ∧ w_ = [(ta, .inl (E.2.2.1 1, NT, .inl (nb ztf)))]) := by
  refine Ev.intro (by decide) (Nat.le_of_ble_eq_true rfl) ?_
  intro X B hr hI
  have B : Bd E X cX11_closes RX11 2 1 25 0 0 := B
  have hr : Rt E X (some .int) 0 0 (fun v_ w_ => ∃ ztf : Nat → Int32, (∀ (β : Type) (k_ : (Nat → Int32) → β), fn_wr_X11_closes n tf β k_ = k_ ztf) ∧ v_ = some (.int (nI (n + 4))) ∧ w_ = [(ta, .inl (E.2.2.1 1, NT, .inl (nb ztf)))]) := hr
  have e_ := fun (β : Type) (k_ : (Nat → Int32) → β) => fn_wr_X11_closes_s (β := β) (k_ := k_) (n := n) (tf := tf)
  show G E X 2 [(ta, .inl (E.2.2.1 1, NT, .inl (nb tf)))] 0 0 [(0, .ref ta), (1, .int (nI n))] 0 []
  refine g_aload_n B dX11_closes_0 rfl 0 rfl ?_
  refine g_iload_n B dX11_closes_1 rfl 1 rfl ?_
  refine g_aload_n B dX11_closes_2 rfl 0 rfl ?_
  refine g_iconst (v := 0) B dX11_closes_3 (by decide) ?_
  refine g_iload_n B dX11_closes_4 rfl 1 rfl ?_
  refine g_callS (st := [.int (nI n), .ref ta]) (As := [.ref ta, .int 0, .int (nI n)]) (wr := []) (nc' := 0) (ns' := 0) B cl_X11_259 w_sm_X11_crc (wr_X11_crc E ta NT 0 n tf (by first | assumption | omega | decide | exact hCF _ (by omega)) (by first | assumption | omega | decide | exact hCF _ (by omega))) rfl [0] [] rfl rfl (by decide) (by decide) (by decide) ⟨by decide, by decide⟩ rfl rfl (by decide) (by decide) rfl (Nat.le_of_ble_eq_true rfl) dX11_closes_5 (fun v w hq => ?_)
  obtain ⟨zr_2861, hz_2862, rfl, rfl⟩ := hq
  replace e_ := fun β k_ => (e_ β k_).trans (hz_2862 β _)
  show G E X 2 [(ta, .inl (E.2.2.1 1, NT, .inl (nb tf)))] 0 0 [(0, .ref ta), (1, .int (nI n))] 8 [.int zr_2861, .int (nI n), .ref ta]
  refine g_callS (st := []) (As := [.ref ta, .int (nI n), .int zr_2861]) (wr := []) (nc' := 0) (ns' := 0) B cl_X11_263 w_sm_X11_putInt (wr_X11_putInt E ta NT n tf zr_2861 (by first | assumption | omega | decide | exact hCF _ (by omega)) (by first | assumption | omega | decide | exact hCF _ (by omega))) rfl [0] [] rfl rfl (by decide) (by decide) (by decide) ⟨by decide, by decide⟩ rfl rfl (by decide) (by decide) rfl (Nat.le_of_ble_eq_true rfl) dX11_closes_8 (fun v w hq => ?_)
  obtain ⟨ztf_2863, hz_2864, rfl, rfl⟩ := hq
  replace e_ := fun β k_ => (e_ β k_).trans (hz_2864 β _)
  show G E X 2 [(ta, .inl (E.2.2.1 1, NT, .inl (nb ztf_2863)))] 0 0 [(0, .ref ta), (1, .int (nI n))] 11 []
  refine g_iload_n B dX11_closes_11 rfl 1 rfl ?_
  refine g_iconst (v := 4) B dX11_closes_12 (by decide) ?_
  refine g_iadd B dX11_closes_13 ?_
  refine g_ri (x' := nI (n + 4)) (nI_add n 4) ?_
  exact g_iret B hr dX11_closes_14 (by decide) (by decide) ⟨ztf_2863, e_, rfl, rfl⟩
abbrev MX11_packs : g_M := (yX11_packs, cX11_packs, 6, (some .int))
theorem dX11_packs_0 : decode cX11_packs 0 = .ok (.iload_n 1, 1) := by decide +kernel
theorem dX11_packs_1 : decode cX11_packs 1 = .ok (.bipush 7, 2) := by decide +kernel
theorem dX11_packs_3 : decode cX11_packs 3 = .ok (.iadd, 1) := by decide +kernel
theorem dX11_packs_4 : decode cX11_packs 4 = .ok (.bipush 8, 2) := by decide +kernel
theorem dX11_packs_6 : decode cX11_packs 6 = .ok (.idiv, 1) := by decide +kernel
theorem dX11_packs_7 : decode cX11_packs 7 = .ok (.istore 4, 2) := by decide +kernel
theorem dX11_packs_9 : decode cX11_packs 9 = .ok (.iconst 0, 1) := by decide +kernel
theorem dX11_packs_10 : decode cX11_packs 10 = .ok (.istore 5, 2) := by decide +kernel
theorem dX11_packs_12 : decode cX11_packs 12 = .ok (.iload 5, 2) := by decide +kernel
theorem dX11_packs_14 : decode cX11_packs 14 = .ok (.iload 4, 2) := by decide +kernel
theorem dX11_packs_16 : decode cX11_packs 16 = .ok (.if_icmp .ge 16, 3) := by decide +kernel
theorem dX11_packs_19 : decode cX11_packs 19 = .ok (.aload_n 2, 1) := by decide +kernel
theorem dX11_packs_20 : decode cX11_packs 20 = .ok (.iload_n 3, 1) := by decide +kernel
theorem dX11_packs_21 : decode cX11_packs 21 = .ok (.iload 5, 2) := by decide +kernel
theorem dX11_packs_23 : decode cX11_packs 23 = .ok (.iadd, 1) := by decide +kernel
theorem dX11_packs_24 : decode cX11_packs 24 = .ok (.iconst 0, 1) := by decide +kernel
theorem dX11_packs_25 : decode cX11_packs 25 = .ok (.bastore, 1) := by decide +kernel
theorem dX11_packs_26 : decode cX11_packs 26 = .ok (.iinc 5 1, 3) := by decide +kernel
theorem dX11_packs_29 : decode cX11_packs 29 = .ok (.goto (-17), 3) := by decide +kernel
set_option maxRecDepth 100000 in
def lf_wr_X11_packs_12 (n : Nat) (ao : Nat) (β : Type) (kx_ : (Nat → Int32) → Nat → β)  : Nat → (Nat → Int32) → Nat → β
  | 0, pta_f, l5 => kx_ pta_f l5
  | fuel + 1, pta_f, l5 => (if ((n + 7) / 8) ≤ l5 then (kx_ pta_f l5) else (lf_wr_X11_packs_12 n ao β kx_ fuel (upd pta_f (ao + l5) 0) (l5 + 1)))
set_option maxRecDepth 100000 in
theorem lf_wr_X11_packs_12_s {n : Nat} {ao : Nat} {β : Type} {kx_ : (Nat → Int32) → Nat → β}  {fuel : Nat} {pta_f : Nat → Int32} {l5 : Nat} : lf_wr_X11_packs_12 n ao β kx_  (fuel + 1) pta_f l5 = (if ((n + 7) / 8) ≤ l5 then (kx_ pta_f l5) else (lf_wr_X11_packs_12 n ao β kx_ fuel (upd pta_f (ao + l5) 0) (l5 + 1))) := rfl
set_option maxRecDepth 100000 in
set_option maxHeartbeats 4000000 in
theorem lp_wr_X11_packs_12 (E : g_E) (fa : Nat) (ta : Nat) (NF : Nat) (NT : Nat) (n : Nat) (ao : Nat) (ff : Nat → Int32) (tf : Nat → Int32) (h0 : n ≤ NF) (h1 : NF < 2147483640) (h2 : ao + (n + 7) / 8 ≤ NT) (h3 : NT < 2147483648)   {X : g_X} {rr : (β : Type) → ((Nat → Int32) → β) → β} (kx_ : (β : Type) → ((Nat → Int32) → β) → (Nat → Int32) → Nat → β) (B : Bd E X cX11_packs RX11 6 0 0 0 0) (hr : Rt E X (some .int) 0 0 (fun v_ w_ => ∃ ztf : Nat → Int32, (∀ (β : Type) (k_ : (Nat → Int32) → β), rr β k_ = k_ ztf) ∧ v_ = some (.int (nI (ao + (n + 7) / 8))) ∧ w_ = [(fa, .inl (E.2.2.1 1, NF, .inl (nb ff))), (ta, .inl (E.2.2.1 1, NT, .inl (nb ztf)))])) (K : ∀ (pta_f : Nat → Int32) (l5 : Nat), (l5 ≤ (n + 7) / 8) → (∀ (β : Type) (k_ : (Nat → Int32) → β), rr β k_ = kx_ β k_ pta_f l5) → G E X 6 [(fa, .inl (E.2.2.1 1, NF, .inl (nb ff))), (ta, .inl (E.2.2.1 1, NT, .inl (nb pta_f)))] 0 0 [(0, .ref fa), (1, .int (nI n)), (2, .ref ta), (3, .int (nI ao)), (4, .int (nI ((n + 7) / 8))), (5, .int (nI l5))] 32 []) : ∀ (fuel : Nat) (pta_f : Nat → Int32) (l5 : Nat), (l5 ≤ (n + 7) / 8) → ((n + 7) / 8 - l5) < fuel → (∀ (β : Type) (k_ : (Nat → Int32) → β), rr β k_ = lf_wr_X11_packs_12 n ao β (kx_ β k_) fuel pta_f l5) → G E X 6 [(fa, .inl (E.2.2.1 1, NF, .inl (nb ff))), (ta, .inl (E.2.2.1 1, NT, .inl (nb pta_f)))] 0 0 [(0, .ref fa), (1, .int (nI n)), (2, .ref ta), (3, .int (nI ao)), (4, .int (nI ((n + 7) / 8))), (5, .int (nI l5))] 12 [] := by
  intro fuel
  induction fuel with
  | zero => intro pta_f l5 _ h _; exact absurd h (Nat.not_lt_zero _)
  | succ fuel ih =>
    intro pta_f l5 hv0 hm e_
    replace e_ := fun β k_ => (e_ β k_).trans lf_wr_X11_packs_12_s
    refine g_iload B dX11_packs_12 5 rfl ?_
    refine g_iload B dX11_packs_14 4 rfl ?_
    refine g_icmp_ge (tgt := 32) B dX11_packs_16 (by decide) (fun c16_2865 => ?_) (fun c16_2865 => ?_)
    · have hn_2866 : ((n + 7) / 8) ≤ l5 := (nI_leI (a := ((n + 7) / 8)) (b := l5) (by omega) (by omega)).mp c16_2865
      replace e_ := fun β k_ => (e_ β k_).trans (if_pos hn_2866)
      exact K pta_f l5 (by first | assumption | omega | decide | exact hCF _ (by omega)) e_
    · have hn_2867 : l5 < ((n + 7) / 8) := Nat.not_le.mp (fun q => c16_2865 ((nI_leI (a := ((n + 7) / 8)) (b := l5) (by omega) (by omega)).mpr q))
      replace e_ := fun β k_ => (e_ β k_).trans (if_neg (Nat.not_le.mpr hn_2867))
      refine g_aload_n B dX11_packs_19 rfl 2 rfl ?_
      refine g_iload_n B dX11_packs_20 rfl 3 rfl ?_
      refine g_iload B dX11_packs_21 5 rfl ?_
      refine g_iadd B dX11_packs_23 ?_
      refine g_ri (x' := nI (ao + l5)) (nI_add ao l5) ?_
      refine g_iconst (v := 0) B dX11_packs_24 (by decide) ?_
      refine g_bast (ws' := [(fa, .inl (E.2.2.1 1, NF, .inl (nb ff))), (ta, .inl (E.2.2.1 1, NT, .inl (nb (upd pta_f (ao + l5) 0))))]) B 1 rfl (vp_in_nI (by omega) (by omega)) (by rw [nb_upd, nI_clamp (n := (ao + l5)) (by omega)]; rfl) dX11_packs_25 ?_
      refine g_iinc (v := nI (l5 + 1)) (lv' := [(5, .int (nI (l5 + 1))), (0, .ref fa), (1, .int (nI n)), (2, .ref ta), (3, .int (nI ao)), (4, .int (nI ((n + 7) / 8)))]) B dX11_packs_26 5 rfl (nI_add l5 1) (by decide) rfl ?_
      refine g_goto (tgt := 12) B dX11_packs_29 (by decide) ?_
      refine g_lvsub (lv' := [(0, .ref fa), (1, .int (nI n)), (2, .ref ta), (3, .int (nI ao)), (4, .int (nI ((n + 7) / 8))), (5, .int (nI (l5 + 1)))]) [1, 2, 3, 4, 5, 0] rfl ?_
      exact ih (upd pta_f (ao + l5) 0) (l5 + 1) (by first | assumption | omega | decide | exact hCF _ (by omega)) (by omega) e_
theorem dX11_packs_32 : decode cX11_packs 32 = .ok (.iconst 0, 1) := by decide +kernel
theorem dX11_packs_33 : decode cX11_packs 33 = .ok (.istore 5, 2) := by decide +kernel
theorem dX11_packs_35 : decode cX11_packs 35 = .ok (.iload 5, 2) := by decide +kernel
theorem dX11_packs_37 : decode cX11_packs 37 = .ok (.iload_n 1, 1) := by decide +kernel
theorem dX11_packs_38 : decode cX11_packs 38 = .ok (.if_icmp .ge 35, 3) := by decide +kernel
theorem dX11_packs_41 : decode cX11_packs 41 = .ok (.aload_n 2, 1) := by decide +kernel
theorem dX11_packs_42 : decode cX11_packs 42 = .ok (.iload_n 3, 1) := by decide +kernel
theorem dX11_packs_43 : decode cX11_packs 43 = .ok (.iload 5, 2) := by decide +kernel
theorem dX11_packs_45 : decode cX11_packs 45 = .ok (.bipush 8, 2) := by decide +kernel
theorem dX11_packs_47 : decode cX11_packs 47 = .ok (.idiv, 1) := by decide +kernel
theorem dX11_packs_48 : decode cX11_packs 48 = .ok (.iadd, 1) := by decide +kernel
theorem dX11_packs_49 : decode cX11_packs 49 = .ok (.dup2, 1) := by decide +kernel
theorem dX11_packs_50 : decode cX11_packs 50 = .ok (.baload, 1) := by decide +kernel
theorem dX11_packs_51 : decode cX11_packs 51 = .ok (.aload_n 0, 1) := by decide +kernel
theorem dX11_packs_52 : decode cX11_packs 52 = .ok (.iload 5, 2) := by decide +kernel
theorem dX11_packs_54 : decode cX11_packs 54 = .ok (.baload, 1) := by decide +kernel
theorem dX11_packs_55 : decode cX11_packs 55 = .ok (.bipush 7, 2) := by decide +kernel
theorem dX11_packs_57 : decode cX11_packs 57 = .ok (.iload 5, 2) := by decide +kernel
theorem dX11_packs_59 : decode cX11_packs 59 = .ok (.bipush 8, 2) := by decide +kernel
theorem dX11_packs_61 : decode cX11_packs 61 = .ok (.irem, 1) := by decide +kernel
theorem dX11_packs_62 : decode cX11_packs 62 = .ok (.isub, 1) := by decide +kernel
theorem dX11_packs_63 : decode cX11_packs 63 = .ok (.ishl, 1) := by decide +kernel
theorem dX11_packs_64 : decode cX11_packs 64 = .ok (.ior, 1) := by decide +kernel
theorem dX11_packs_65 : decode cX11_packs 65 = .ok (.i2b, 1) := by decide +kernel
theorem dX11_packs_66 : decode cX11_packs 66 = .ok (.bastore, 1) := by decide +kernel
theorem dX11_packs_67 : decode cX11_packs 67 = .ok (.iinc 5 1, 3) := by decide +kernel
theorem dX11_packs_70 : decode cX11_packs 70 = .ok (.goto (-35), 3) := by decide +kernel
set_option maxRecDepth 100000 in
def lf_wr_X11_packs_35 (n : Nat) (ao : Nat) (ff : Nat → Int32) (β : Type) (kx_ : (Nat → Int32) → Nat → β)  : Nat → (Nat → Int32) → Nat → β
  | 0, pta_f, l5 => kx_ pta_f l5
  | fuel + 1, pta_f, l5 => (if n ≤ l5 then (kx_ pta_f l5) else (fnL (Int8.toInt32 (Int32.toInt8 ((nb pta_f (ao + (l5 / 8))) ||| ((nb ff l5) <<< ((7 - nI (l5 % 8)) &&& 31))))) (fun x_2872 => (lf_wr_X11_packs_35 n ao ff β kx_ fuel (upd pta_f (ao + (l5 / 8)) x_2872) (l5 + 1)))))
set_option maxRecDepth 100000 in
theorem lf_wr_X11_packs_35_s {n : Nat} {ao : Nat} {ff : Nat → Int32} {β : Type} {kx_ : (Nat → Int32) → Nat → β}  {fuel : Nat} {pta_f : Nat → Int32} {l5 : Nat} : lf_wr_X11_packs_35 n ao ff β kx_  (fuel + 1) pta_f l5 = (if n ≤ l5 then (kx_ pta_f l5) else (fnL (Int8.toInt32 (Int32.toInt8 ((nb pta_f (ao + (l5 / 8))) ||| ((nb ff l5) <<< ((7 - nI (l5 % 8)) &&& 31))))) (fun x_2872 => (lf_wr_X11_packs_35 n ao ff β kx_ fuel (upd pta_f (ao + (l5 / 8)) x_2872) (l5 + 1))))) := rfl
set_option maxRecDepth 100000 in
set_option maxHeartbeats 4000000 in
theorem lp_wr_X11_packs_35 (E : g_E) (fa : Nat) (ta : Nat) (NF : Nat) (NT : Nat) (n : Nat) (ao : Nat) (ff : Nat → Int32) (tf : Nat → Int32) (h0 : n ≤ NF) (h1 : NF < 2147483640) (h2 : ao + (n + 7) / 8 ≤ NT) (h3 : NT < 2147483648)   {X : g_X} {rr : (β : Type) → ((Nat → Int32) → β) → β} (kx_ : (β : Type) → ((Nat → Int32) → β) → (Nat → Int32) → Nat → β) (B : Bd E X cX11_packs RX11 6 0 0 0 0) (hr : Rt E X (some .int) 0 0 (fun v_ w_ => ∃ ztf : Nat → Int32, (∀ (β : Type) (k_ : (Nat → Int32) → β), rr β k_ = k_ ztf) ∧ v_ = some (.int (nI (ao + (n + 7) / 8))) ∧ w_ = [(fa, .inl (E.2.2.1 1, NF, .inl (nb ff))), (ta, .inl (E.2.2.1 1, NT, .inl (nb ztf)))])) (K : ∀ (pta_f : Nat → Int32) (l5 : Nat), (l5 ≤ n) → (∀ (β : Type) (k_ : (Nat → Int32) → β), rr β k_ = kx_ β k_ pta_f l5) → G E X 6 [(fa, .inl (E.2.2.1 1, NF, .inl (nb ff))), (ta, .inl (E.2.2.1 1, NT, .inl (nb pta_f)))] 0 0 [(0, .ref fa), (1, .int (nI n)), (2, .ref ta), (3, .int (nI ao)), (4, .int (nI ((n + 7) / 8))), (5, .int (nI l5))] 73 []) : ∀ (fuel : Nat) (pta_f : Nat → Int32) (l5 : Nat), (l5 ≤ n) → (n - l5) < fuel → (∀ (β : Type) (k_ : (Nat → Int32) → β), rr β k_ = lf_wr_X11_packs_35 n ao ff β (kx_ β k_) fuel pta_f l5) → G E X 6 [(fa, .inl (E.2.2.1 1, NF, .inl (nb ff))), (ta, .inl (E.2.2.1 1, NT, .inl (nb pta_f)))] 0 0 [(0, .ref fa), (1, .int (nI n)), (2, .ref ta), (3, .int (nI ao)), (4, .int (nI ((n + 7) / 8))), (5, .int (nI l5))] 35 [] := by
  intro fuel
  induction fuel with
  | zero => intro pta_f l5 _ h _; exact absurd h (Nat.not_lt_zero _)
  | succ fuel ih =>
    intro pta_f l5 hv0 hm e_
    replace e_ := fun β k_ => (e_ β k_).trans lf_wr_X11_packs_35_s
    refine g_iload B dX11_packs_35 5 rfl ?_
    refine g_iload_n B dX11_packs_37 rfl 1 rfl ?_
    refine g_icmp_ge (tgt := 73) B dX11_packs_38 (by decide) (fun c38_2869 => ?_) (fun c38_2869 => ?_)
    · have hn_2870 : n ≤ l5 := (nI_leI (a := n) (b := l5) (by omega) (by omega)).mp c38_2869
      replace e_ := fun β k_ => (e_ β k_).trans (if_pos hn_2870)
      exact K pta_f l5 (by first | assumption | omega | decide | exact hCF _ (by omega)) e_
    · have hn_2871 : l5 < n := Nat.not_le.mp (fun q => c38_2869 ((nI_leI (a := n) (b := l5) (by omega) (by omega)).mpr q))
      replace e_ := fun β k_ => (e_ β k_).trans (if_neg (Nat.not_le.mpr hn_2871))
      refine g_aload_n B dX11_packs_41 rfl 2 rfl ?_
      refine g_iload_n B dX11_packs_42 rfl 3 rfl ?_
      refine g_iload B dX11_packs_43 5 rfl ?_
      refine g_bipush (v := 8) B dX11_packs_45 (by decide) ?_
      refine g_idiv B dX11_packs_47 (by decide) ?_
      refine g_ri (x' := nI (l5 / 8)) (pk_div (a := l5) (d := 8) (by omega) (by decide) (by decide)) ?_
      refine g_iadd B dX11_packs_48 ?_
      refine g_ri (x' := nI (ao + (l5 / 8))) (nI_add ao (l5 / 8)) ?_
      refine g_dup2_11 B dX11_packs_49 rfl rfl ?_
      refine g_bald B 1 rfl (vp_in_nI (by omega) (by omega)) dX11_packs_50 ?_
      refine g_ri (x' := (nb pta_f (ao + (l5 / 8)))) (congrArg (nb pta_f) (nI_clamp (n := (ao + (l5 / 8))) (by omega))) ?_
      refine g_aload_n B dX11_packs_51 rfl 0 rfl ?_
      refine g_iload B dX11_packs_52 5 rfl ?_
      refine g_bald B 0 rfl (vp_in_nI (by omega) (by omega)) dX11_packs_54 ?_
      refine g_ri (x' := (nb ff l5)) (congrArg (nb ff) (nI_clamp (n := l5) (by omega))) ?_
      refine g_bipush (v := 7) B dX11_packs_55 (by decide) ?_
      refine g_iload B dX11_packs_57 5 rfl ?_
      refine g_bipush (v := 8) B dX11_packs_59 (by decide) ?_
      refine g_irem B dX11_packs_61 (by decide) ?_
      refine g_ri (x' := nI (l5 % 8)) (pk_rem (a := l5) (d := 8) (by omega) (by decide) (by decide)) ?_
      refine g_isub B dX11_packs_62 ?_
      refine g_ishl B dX11_packs_63 ?_
      refine g_ior B dX11_packs_64 ?_
      refine g_i2b B dX11_packs_65 ?_
      refine g_topi (fun x_2872 ex_2872 => ?_)
      replace e_ := fun β k_ => (e_ β k_).trans (fnL_eq (x := x_2872) ex_2872.symm _)
      refine g_bast (ws' := [(fa, .inl (E.2.2.1 1, NF, .inl (nb ff))), (ta, .inl (E.2.2.1 1, NT, .inl (nb (upd pta_f (ao + (l5 / 8)) x_2872))))]) B 1 rfl (vp_in_nI (by omega) (by omega)) (by rw [nb_upd, nI_clamp (n := (ao + (l5 / 8))) (by omega)]; rfl) dX11_packs_66 ?_
      refine g_iinc (v := nI (l5 + 1)) (lv' := [(5, .int (nI (l5 + 1))), (0, .ref fa), (1, .int (nI n)), (2, .ref ta), (3, .int (nI ao)), (4, .int (nI ((n + 7) / 8)))]) B dX11_packs_67 5 rfl (nI_add l5 1) (by decide) rfl ?_
      refine g_goto (tgt := 35) B dX11_packs_70 (by decide) ?_
      refine g_lvsub (lv' := [(0, .ref fa), (1, .int (nI n)), (2, .ref ta), (3, .int (nI ao)), (4, .int (nI ((n + 7) / 8))), (5, .int (nI (l5 + 1)))]) [1, 2, 3, 4, 5, 0] rfl ?_
      exact ih (upd pta_f (ao + (l5 / 8)) x_2872) (l5 + 1) (by first | assumption | omega | decide | exact hCF _ (by omega)) (by omega) e_
theorem dX11_packs_73 : decode cX11_packs 73 = .ok (.iload_n 3, 1) := by decide +kernel
theorem dX11_packs_74 : decode cX11_packs 74 = .ok (.iload 4, 2) := by decide +kernel
theorem dX11_packs_76 : decode cX11_packs 76 = .ok (.iadd, 1) := by decide +kernel
theorem dX11_packs_77 : decode cX11_packs 77 = .ok (.ireturn, 1) := by decide +kernel
set_option maxRecDepth 100000 in
def fn_wr_X11_packs (n : Nat) (ao : Nat) (ff : Nat → Int32) (tf : Nat → Int32) (β : Type) (k_ : (Nat → Int32) → β) : β := (lf_wr_X11_packs_12 n ao β (fun y_2868pta_f y_2868l5 => (lf_wr_X11_packs_35 n ao ff β (fun y_2873pta_f y_2873l5 => (k_ y_2873pta_f)) ((n - 0) + 1) y_2868pta_f 0)) (((n + 7) / 8 - 0) + 1) tf 0)
set_option maxRecDepth 100000 in
theorem fn_wr_X11_packs_s {n : Nat} {ao : Nat} {ff : Nat → Int32} {tf : Nat → Int32} {β : Type} {k_ : (Nat → Int32) → β} : fn_wr_X11_packs n ao ff tf β k_ = (lf_wr_X11_packs_12 n ao β (fun y_2868pta_f y_2868l5 => (lf_wr_X11_packs_35 n ao ff β (fun y_2873pta_f y_2873l5 => (k_ y_2873pta_f)) ((n - 0) + 1) y_2868pta_f 0)) (((n + 7) / 8 - 0) + 1) tf 0) := rfl
set_option maxRecDepth 100000 in
set_option maxHeartbeats 4000000 in
theorem wr_X11_packs (E : g_E) (fa : Nat) (ta : Nat) (NF : Nat) (NT : Nat) (n : Nat) (ao : Nat) (ff : Nat → Int32) (tf : Nat → Int32) (h0 : n ≤ NF) (h1 : NF < 2147483640) (h2 : ao + (n + 7) / 8 ≤ NT) (h3 : NT < 2147483648) : Ev E MX11_packs 0 0 0 0 [.ref fa, .int (nI n), .ref ta, .int (nI ao)] [(fa, .inl (E.2.2.1 1, NF, .inl (nb ff))), (ta, .inl (E.2.2.1 1, NT, .inl (nb tf)))] (fun v_ w_ => ∃ ztf : Nat → Int32, (∀ (β : Type) (k_ : (Nat → Int32) → β), fn_wr_X11_packs n ao ff tf β k_ = k_ ztf) ∧ v_ = some (.int (nI (ao + (n + 7) / 8))) ∧ w_ = [(fa, .inl (E.2.2.1 1, NF, .inl (nb ff))), (ta, .inl (E.2.2.1 1, NT, .inl (nb ztf)))]) := by
  refine Ev.intro (by decide) (Nat.le_of_ble_eq_true rfl) ?_
  intro X B hr hI
  have B : Bd E X cX11_packs RX11 6 0 0 0 0 := B
  have hr : Rt E X (some .int) 0 0 (fun v_ w_ => ∃ ztf : Nat → Int32, (∀ (β : Type) (k_ : (Nat → Int32) → β), fn_wr_X11_packs n ao ff tf β k_ = k_ ztf) ∧ v_ = some (.int (nI (ao + (n + 7) / 8))) ∧ w_ = [(fa, .inl (E.2.2.1 1, NF, .inl (nb ff))), (ta, .inl (E.2.2.1 1, NT, .inl (nb ztf)))]) := hr
  have e_ := fun (β : Type) (k_ : (Nat → Int32) → β) => fn_wr_X11_packs_s (β := β) (k_ := k_) (n := n) (ao := ao) (ff := ff) (tf := tf)
  show G E X 6 [(fa, .inl (E.2.2.1 1, NF, .inl (nb ff))), (ta, .inl (E.2.2.1 1, NT, .inl (nb tf)))] 0 0 [(0, .ref fa), (1, .int (nI n)), (2, .ref ta), (3, .int (nI ao))] 0 []
  refine g_iload_n B dX11_packs_0 rfl 1 rfl ?_
  refine g_bipush (v := 7) B dX11_packs_1 (by decide) ?_
  refine g_iadd B dX11_packs_3 ?_
  refine g_ri (x' := nI (n + 7)) (nI_add n 7) ?_
  refine g_bipush (v := 8) B dX11_packs_4 (by decide) ?_
  refine g_idiv B dX11_packs_6 (by decide) ?_
  refine g_ri (x' := nI ((n + 7) / 8)) (pk_div (a := (n + 7)) (d := 8) (by omega) (by decide) (by decide)) ?_
  refine g_istore (lv' := [(4, .int (nI ((n + 7) / 8))), (0, .ref fa), (1, .int (nI n)), (2, .ref ta), (3, .int (nI ao))]) B dX11_packs_7 (by decide) rfl ?_
  refine g_iconst (v := 0) B dX11_packs_9 (by decide) ?_
  refine g_istore (lv' := [(5, .int 0), (4, .int (nI ((n + 7) / 8))), (0, .ref fa), (1, .int (nI n)), (2, .ref ta), (3, .int (nI ao))]) B dX11_packs_10 (by decide) rfl ?_
  refine g_lvsub (lv' := [(0, .ref fa), (1, .int (nI n)), (2, .ref ta), (3, .int (nI ao)), (4, .int (nI ((n + 7) / 8))), (5, .int 0)]) [2, 3, 4, 5, 1, 0] rfl ?_
  refine lp_wr_X11_packs_12 E fa ta NF NT n ao ff tf h0 h1 h2 h3   _ B hr (fun y_2868pta_f y_2868l5 y_2868k0 e_ => ?_) _ tf 0 (by first | assumption | omega | decide | exact hCF _ (by omega)) (Nat.lt_succ_self _) e_
  show G E X 6 [(fa, .inl (E.2.2.1 1, NF, .inl (nb ff))), (ta, .inl (E.2.2.1 1, NT, .inl (nb y_2868pta_f)))] 0 0 [(0, .ref fa), (1, .int (nI n)), (2, .ref ta), (3, .int (nI ao)), (4, .int (nI ((n + 7) / 8))), (5, .int (nI y_2868l5))] 32 []
  refine g_iconst (v := 0) B dX11_packs_32 (by decide) ?_
  refine g_istore (lv' := [(5, .int 0), (0, .ref fa), (1, .int (nI n)), (2, .ref ta), (3, .int (nI ao)), (4, .int (nI ((n + 7) / 8)))]) B dX11_packs_33 (by decide) rfl ?_
  refine g_lvsub (lv' := [(0, .ref fa), (1, .int (nI n)), (2, .ref ta), (3, .int (nI ao)), (4, .int (nI ((n + 7) / 8))), (5, .int 0)]) [1, 2, 3, 4, 5, 0] rfl ?_
  refine lp_wr_X11_packs_35 E fa ta NF NT n ao ff tf h0 h1 h2 h3   _ B hr (fun y_2873pta_f y_2873l5 y_2873k0 e_ => ?_) _ y_2868pta_f 0 (by first | assumption | omega | decide | exact hCF _ (by omega)) (Nat.lt_succ_self _) e_
  show G E X 6 [(fa, .inl (E.2.2.1 1, NF, .inl (nb ff))), (ta, .inl (E.2.2.1 1, NT, .inl (nb y_2873pta_f)))] 0 0 [(0, .ref fa), (1, .int (nI n)), (2, .ref ta), (3, .int (nI ao)), (4, .int (nI ((n + 7) / 8))), (5, .int (nI y_2873l5))] 73 []
  refine g_iload_n B dX11_packs_73 rfl 3 rfl ?_
  refine g_iload B dX11_packs_74 4 rfl ?_
  refine g_iadd B dX11_packs_76 ?_
  refine g_ri (x' := nI (ao + ((n + 7) / 8))) (nI_add ao ((n + 7) / 8)) ?_
  exact g_iret B hr dX11_packs_77 (by decide) (by decide) ⟨y_2873pta_f, e_, rfl, rfl⟩
abbrev MX11_heads : g_M := (yX11_heads, cX11_heads, 2, (some .int))
theorem dX11_heads_0 : decode cX11_heads 0 = .ok (.aload_n 0, 1) := by decide +kernel
theorem dX11_heads_1 : decode cX11_heads 1 = .ok (.getfield 26, 3) := by decide +kernel
theorem dX11_heads_4 : decode cX11_heads 4 = .ok (.iconst 0, 1) := by decide +kernel
theorem dX11_heads_5 : decode cX11_heads 5 = .ok (.bipush 83, 2) := by decide +kernel
theorem dX11_heads_7 : decode cX11_heads 7 = .ok (.bastore, 1) := by decide +kernel
theorem dX11_heads_8 : decode cX11_heads 8 = .ok (.aload_n 0, 1) := by decide +kernel
theorem dX11_heads_9 : decode cX11_heads 9 = .ok (.getfield 26, 3) := by decide +kernel
theorem dX11_heads_12 : decode cX11_heads 12 = .ok (.iconst 1, 1) := by decide +kernel
theorem dX11_heads_13 : decode cX11_heads 13 = .ok (.aload_n 0, 1) := by decide +kernel
theorem dX11_heads_14 : decode cX11_heads 14 = .ok (.getfield 206, 3) := by decide +kernel
theorem dX11_heads_17 : decode cX11_heads 17 = .ok (.i2b, 1) := by decide +kernel
theorem dX11_heads_18 : decode cX11_heads 18 = .ok (.bastore, 1) := by decide +kernel
theorem dX11_heads_19 : decode cX11_heads 19 = .ok (.aload_n 0, 1) := by decide +kernel
theorem dX11_heads_20 : decode cX11_heads 20 = .ok (.getfield 26, 3) := by decide +kernel
theorem dX11_heads_23 : decode cX11_heads 23 = .ok (.iconst 2, 1) := by decide +kernel
theorem dX11_heads_24 : decode cX11_heads 24 = .ok (.aload_n 0, 1) := by decide +kernel
theorem dX11_heads_25 : decode cX11_heads 25 = .ok (.getfield 196, 3) := by decide +kernel
theorem dX11_heads_28 : decode cX11_heads 28 = .ok (.i2b, 1) := by decide +kernel
theorem dX11_heads_29 : decode cX11_heads 29 = .ok (.bastore, 1) := by decide +kernel
theorem dX11_heads_30 : decode cX11_heads 30 = .ok (.aload_n 0, 1) := by decide +kernel
theorem dX11_heads_31 : decode cX11_heads 31 = .ok (.getfield 26, 3) := by decide +kernel
theorem dX11_heads_34 : decode cX11_heads 34 = .ok (.iconst 3, 1) := by decide +kernel
theorem dX11_heads_35 : decode cX11_heads 35 = .ok (.aload_n 0, 1) := by decide +kernel
theorem dX11_heads_36 : decode cX11_heads 36 = .ok (.getfield 189, 3) := by decide +kernel
theorem dX11_heads_39 : decode cX11_heads 39 = .ok (.bipush 8, 2) := by decide +kernel
theorem dX11_heads_41 : decode cX11_heads 41 = .ok (.ishr, 1) := by decide +kernel
theorem dX11_heads_42 : decode cX11_heads 42 = .ok (.i2b, 1) := by decide +kernel
theorem dX11_heads_43 : decode cX11_heads 43 = .ok (.bastore, 1) := by decide +kernel
theorem dX11_heads_44 : decode cX11_heads 44 = .ok (.aload_n 0, 1) := by decide +kernel
theorem dX11_heads_45 : decode cX11_heads 45 = .ok (.getfield 26, 3) := by decide +kernel
theorem dX11_heads_48 : decode cX11_heads 48 = .ok (.iconst 4, 1) := by decide +kernel
theorem dX11_heads_49 : decode cX11_heads 49 = .ok (.aload_n 0, 1) := by decide +kernel
theorem dX11_heads_50 : decode cX11_heads 50 = .ok (.getfield 189, 3) := by decide +kernel
theorem dX11_heads_53 : decode cX11_heads 53 = .ok (.i2b, 1) := by decide +kernel
theorem dX11_heads_54 : decode cX11_heads 54 = .ok (.bastore, 1) := by decide +kernel
theorem dX11_heads_55 : decode cX11_heads 55 = .ok (.aload_n 0, 1) := by decide +kernel
theorem dX11_heads_56 : decode cX11_heads 56 = .ok (.getfield 26, 3) := by decide +kernel
theorem dX11_heads_59 : decode cX11_heads 59 = .ok (.iconst 5, 1) := by decide +kernel
theorem dX11_heads_60 : decode cX11_heads 60 = .ok (.aload_n 0, 1) := by decide +kernel
theorem dX11_heads_61 : decode cX11_heads 61 = .ok (.getfield 121, 3) := by decide +kernel
theorem dX11_heads_64 : decode cX11_heads 64 = .ok (.i2b, 1) := by decide +kernel
theorem dX11_heads_65 : decode cX11_heads 65 = .ok (.bastore, 1) := by decide +kernel
theorem dX11_heads_66 : decode cX11_heads 66 = .ok (.iconst 0, 1) := by decide +kernel
theorem dX11_heads_67 : decode cX11_heads 67 = .ok (.istore_n 1, 1) := by decide +kernel
theorem dX11_heads_68 : decode cX11_heads 68 = .ok (.iload_n 1, 1) := by decide +kernel
theorem dX11_heads_69 : decode cX11_heads 69 = .ok (.aload_n 0, 1) := by decide +kernel
theorem dX11_heads_70 : decode cX11_heads 70 = .ok (.getfield 121, 3) := by decide +kernel
theorem dX11_heads_73 : decode cX11_heads 73 = .ok (.if_icmp .ge 45, 3) := by decide +kernel
theorem dX11_heads_76 : decode cX11_heads 76 = .ok (.aload_n 0, 1) := by decide +kernel
theorem dX11_heads_77 : decode cX11_heads 77 = .ok (.getfield 26, 3) := by decide +kernel
theorem dX11_heads_80 : decode cX11_heads 80 = .ok (.bipush 6, 2) := by decide +kernel
theorem dX11_heads_82 : decode cX11_heads 82 = .ok (.iconst 2, 1) := by decide +kernel
theorem dX11_heads_83 : decode cX11_heads 83 = .ok (.iload_n 1, 1) := by decide +kernel
theorem dX11_heads_84 : decode cX11_heads 84 = .ok (.imul, 1) := by decide +kernel
theorem dX11_heads_85 : decode cX11_heads 85 = .ok (.iadd, 1) := by decide +kernel
theorem dX11_heads_86 : decode cX11_heads 86 = .ok (.aload_n 0, 1) := by decide +kernel
theorem dX11_heads_87 : decode cX11_heads 87 = .ok (.getfield 42, 3) := by decide +kernel
theorem dX11_heads_90 : decode cX11_heads 90 = .ok (.iload_n 1, 1) := by decide +kernel
theorem dX11_heads_91 : decode cX11_heads 91 = .ok (.iaload, 1) := by decide +kernel
theorem dX11_heads_92 : decode cX11_heads 92 = .ok (.i2b, 1) := by decide +kernel
theorem dX11_heads_93 : decode cX11_heads 93 = .ok (.bastore, 1) := by decide +kernel
theorem dX11_heads_94 : decode cX11_heads 94 = .ok (.aload_n 0, 1) := by decide +kernel
theorem dX11_heads_95 : decode cX11_heads 95 = .ok (.getfield 26, 3) := by decide +kernel
theorem dX11_heads_98 : decode cX11_heads 98 = .ok (.bipush 7, 2) := by decide +kernel
theorem dX11_heads_100 : decode cX11_heads 100 = .ok (.iconst 2, 1) := by decide +kernel
theorem dX11_heads_101 : decode cX11_heads 101 = .ok (.iload_n 1, 1) := by decide +kernel
theorem dX11_heads_102 : decode cX11_heads 102 = .ok (.imul, 1) := by decide +kernel
theorem dX11_heads_103 : decode cX11_heads 103 = .ok (.iadd, 1) := by decide +kernel
theorem dX11_heads_104 : decode cX11_heads 104 = .ok (.aload_n 0, 1) := by decide +kernel
theorem dX11_heads_105 : decode cX11_heads 105 = .ok (.getfield 45, 3) := by decide +kernel
theorem dX11_heads_108 : decode cX11_heads 108 = .ok (.iload_n 1, 1) := by decide +kernel
theorem dX11_heads_109 : decode cX11_heads 109 = .ok (.iaload, 1) := by decide +kernel
theorem dX11_heads_110 : decode cX11_heads 110 = .ok (.i2b, 1) := by decide +kernel
theorem dX11_heads_111 : decode cX11_heads 111 = .ok (.bastore, 1) := by decide +kernel
theorem dX11_heads_112 : decode cX11_heads 112 = .ok (.iinc 1 1, 3) := by decide +kernel
theorem dX11_heads_115 : decode cX11_heads 115 = .ok (.goto (-47), 3) := by decide +kernel
set_option maxRecDepth 100000 in
def lf_wr_X11_heads_68 (m_14 : Nat) (r16_f : Nat → Int32) (r17_f : Nat → Int32) (β : Type) (kx_ : (Nat → Int32) → Nat → β)  : Nat → (Nat → Int32) → Nat → β
  | 0, pr7_f, l1 => kx_ pr7_f l1
  | fuel + 1, pr7_f, l1 => (if m_14 ≤ l1 then (kx_ pr7_f l1) else (fnL (Int8.toInt32 (Int32.toInt8 (r16_f l1))) (fun x_2882 => (fnL (Int8.toInt32 (Int32.toInt8 (r17_f l1))) (fun x_2883 => (lf_wr_X11_heads_68 m_14 r16_f r17_f β kx_ fuel (upd (upd pr7_f (6 + (2 * l1)) x_2882) (7 + (2 * l1)) x_2883) (l1 + 1)))))))
set_option maxRecDepth 100000 in
theorem lf_wr_X11_heads_68_s {m_14 : Nat} {r16_f : Nat → Int32} {r17_f : Nat → Int32} {β : Type} {kx_ : (Nat → Int32) → Nat → β}  {fuel : Nat} {pr7_f : Nat → Int32} {l1 : Nat} : lf_wr_X11_heads_68 m_14 r16_f r17_f β kx_  (fuel + 1) pr7_f l1 = (if m_14 ≤ l1 then (kx_ pr7_f l1) else (fnL (Int8.toInt32 (Int32.toInt8 (r16_f l1))) (fun x_2882 => (fnL (Int8.toInt32 (Int32.toInt8 (r17_f l1))) (fun x_2883 => (lf_wr_X11_heads_68 m_14 r16_f r17_f β kx_ fuel (upd (upd pr7_f (6 + (2 * l1)) x_2882) (7 + (2 * l1)) x_2883) (l1 + 1))))))) := rfl
set_option maxRecDepth 100000 in
set_option maxHeartbeats 4000000 in
theorem lp_wr_X11_heads_68 (E : g_E) (m : Nat) (r : Nat → Nat) (m_1 : Nat) (m_4 : Nat) (m_9 : Nat) (m_10 : Nat) (m_14 : Nat) (m_15 : Nat) (m_25 : Int32) (m_26 : Int32) (m_27 : Int64) (m_28 : Nat) (m_29 : Nat) (m_31 : Nat) (m_32 : Nat) (m_33 : Nat) (m_35 : Nat) (m_36 : Nat) (m_37 : Int32) (m_38 : Nat) (m_39 : Int32) (m_40 : Int32) (m_42 : Nat) (r7_f : Nat → Int32) (r16_f : Nat → Int32) (r17_f : Nat → Int32) (h0 : m_14 ≤ 8) (hb0 : m_38 ≤ 65535) (hb1 : m_36 ≤ 65535)   {X : g_X} {rr : (β : Type) → ((Nat → Int32) → Nat → β) → β} (kx_ : (β : Type) → ((Nat → Int32) → Nat → β) → (Nat → Int32) → Nat → β) (B : Bd E X cX11_heads RX11 2 0 0 0 0) (hr : Rt E X (some .int) 0 0 (fun v_ w_ => ∃ zr7_f : Nat → Int32, ∃ zr : Nat, (zr ≤ 24) ∧ (∀ (β : Type) (k_ : (Nat → Int32) → Nat → β), rr β k_ = k_ zr7_f zr) ∧ v_ = some (.int (nI zr)) ∧ w_ = [(m, .inr (11, mkF r m_1 m_4 m_9 m_10 m_14 m_15 m_25 m_26 m_27 m_28 m_29 m_31 m_32 m_33 m_35 m_36 m_37 m_38 m_39 m_40 m_42)), ((r 7), .inl (E.2.2.1 1, 20000, .inl (nb zr7_f))), ((r 16), .inl (E.2.2.1 0, 8, .inl r16_f)), ((r 17), .inl (E.2.2.1 0, 8, .inl r17_f))])) (K : ∀ (pr7_f : Nat → Int32) (l1 : Nat), (l1 ≤ 8) → (∀ (β : Type) (k_ : (Nat → Int32) → Nat → β), rr β k_ = kx_ β k_ pr7_f l1) → G E X 2 [(m, .inr (11, mkF r m_1 m_4 m_9 m_10 m_14 m_15 m_25 m_26 m_27 m_28 m_29 m_31 m_32 m_33 m_35 m_36 m_37 m_38 m_39 m_40 m_42)), ((r 7), .inl (E.2.2.1 1, 20000, .inl (nb pr7_f))), ((r 16), .inl (E.2.2.1 0, 8, .inl r16_f)), ((r 17), .inl (E.2.2.1 0, 8, .inl r17_f))] 0 0 [(0, .ref m), (1, .int (nI l1))] 118 []) : ∀ (fuel : Nat) (pr7_f : Nat → Int32) (l1 : Nat), (l1 ≤ 8) → (8 - l1) < fuel → (∀ (β : Type) (k_ : (Nat → Int32) → Nat → β), rr β k_ = lf_wr_X11_heads_68 m_14 r16_f r17_f β (kx_ β k_) fuel pr7_f l1) → G E X 2 [(m, .inr (11, mkF r m_1 m_4 m_9 m_10 m_14 m_15 m_25 m_26 m_27 m_28 m_29 m_31 m_32 m_33 m_35 m_36 m_37 m_38 m_39 m_40 m_42)), ((r 7), .inl (E.2.2.1 1, 20000, .inl (nb pr7_f))), ((r 16), .inl (E.2.2.1 0, 8, .inl r16_f)), ((r 17), .inl (E.2.2.1 0, 8, .inl r17_f))] 0 0 [(0, .ref m), (1, .int (nI l1))] 68 [] := by
  intro fuel
  induction fuel with
  | zero => intro pr7_f l1 _ h _; exact absurd h (Nat.not_lt_zero _)
  | succ fuel ih =>
    intro pr7_f l1 hv0 hm e_
    replace e_ := fun β k_ => (e_ β k_).trans lf_wr_X11_heads_68_s
    refine g_iload_n B dX11_heads_68 rfl 1 rfl ?_
    refine g_aload_n B dX11_heads_69 rfl 0 rfl ?_
    refine g_get B 0 14 fl_X11_121 rfl mf_14 dX11_heads_70 ?_
    refine g_icmp_ge (tgt := 118) B dX11_heads_73 (by decide) (fun c73_2879 => ?_) (fun c73_2879 => ?_)
    · have hn_2880 : m_14 ≤ l1 := (nI_leI (a := m_14) (b := l1) (by omega) (by omega)).mp c73_2879
      replace e_ := fun β k_ => (e_ β k_).trans (if_pos hn_2880)
      exact K pr7_f l1 (by first | assumption | omega | decide | exact hCF _ (by omega)) e_
    · have hn_2881 : l1 < m_14 := Nat.not_le.mp (fun q => c73_2879 ((nI_leI (a := m_14) (b := l1) (by omega) (by omega)).mpr q))
      replace e_ := fun β k_ => (e_ β k_).trans (if_neg (Nat.not_le.mpr hn_2881))
      refine g_aload_n B dX11_heads_76 rfl 0 rfl ?_
      refine g_get B 0 7 fl_X11_26 rfl mf_7 dX11_heads_77 ?_
      refine g_bipush (v := 6) B dX11_heads_80 (by decide) ?_
      refine g_iconst (v := 2) B dX11_heads_82 (by decide) ?_
      refine g_iload_n B dX11_heads_83 rfl 1 rfl ?_
      refine g_imul B dX11_heads_84 ?_
      refine g_ri (x' := nI (2 * l1)) (pk_mul 2 l1) ?_
      refine g_iadd B dX11_heads_85 ?_
      refine g_ri (x' := nI (6 + (2 * l1))) (nI_add 6 (2 * l1)) ?_
      refine g_aload_n B dX11_heads_86 rfl 0 rfl ?_
      refine g_get B 0 16 fl_X11_42 rfl mf_16 dX11_heads_87 ?_
      refine g_iload_n B dX11_heads_90 rfl 1 rfl ?_
      refine g_iald B 2 rfl (vp_in_nI (by omega) (by omega)) dX11_heads_91 ?_
      refine g_ri (x' := (r16_f l1)) (congrArg r16_f (nI_clamp (n := l1) (by omega))) ?_
      refine g_i2b B dX11_heads_92 ?_
      refine g_topi (fun x_2882 ex_2882 => ?_)
      replace e_ := fun β k_ => (e_ β k_).trans (fnL_eq (x := x_2882) ex_2882.symm _)
      refine g_bast (ws' := [(m, .inr (11, mkF r m_1 m_4 m_9 m_10 m_14 m_15 m_25 m_26 m_27 m_28 m_29 m_31 m_32 m_33 m_35 m_36 m_37 m_38 m_39 m_40 m_42)), ((r 7), .inl (E.2.2.1 1, 20000, .inl (nb (upd pr7_f (6 + (2 * l1)) x_2882)))), ((r 16), .inl (E.2.2.1 0, 8, .inl r16_f)), ((r 17), .inl (E.2.2.1 0, 8, .inl r17_f))]) B 1 rfl (vp_in_nI (by omega) (by omega)) (by rw [nb_upd, nI_clamp (n := (6 + (2 * l1))) (by omega)]; rfl) dX11_heads_93 ?_
      refine g_aload_n B dX11_heads_94 rfl 0 rfl ?_
      refine g_get B 0 7 fl_X11_26 rfl mf_7 dX11_heads_95 ?_
      refine g_bipush (v := 7) B dX11_heads_98 (by decide) ?_
      refine g_iconst (v := 2) B dX11_heads_100 (by decide) ?_
      refine g_iload_n B dX11_heads_101 rfl 1 rfl ?_
      refine g_imul B dX11_heads_102 ?_
      refine g_ri (x' := nI (2 * l1)) (pk_mul 2 l1) ?_
      refine g_iadd B dX11_heads_103 ?_
      refine g_ri (x' := nI (7 + (2 * l1))) (nI_add 7 (2 * l1)) ?_
      refine g_aload_n B dX11_heads_104 rfl 0 rfl ?_
      refine g_get B 0 17 fl_X11_45 rfl mf_17 dX11_heads_105 ?_
      refine g_iload_n B dX11_heads_108 rfl 1 rfl ?_
      refine g_iald B 3 rfl (vp_in_nI (by omega) (by omega)) dX11_heads_109 ?_
      refine g_ri (x' := (r17_f l1)) (congrArg r17_f (nI_clamp (n := l1) (by omega))) ?_
      refine g_i2b B dX11_heads_110 ?_
      refine g_topi (fun x_2883 ex_2883 => ?_)
      replace e_ := fun β k_ => (e_ β k_).trans (fnL_eq (x := x_2883) ex_2883.symm _)
      refine g_bast (ws' := [(m, .inr (11, mkF r m_1 m_4 m_9 m_10 m_14 m_15 m_25 m_26 m_27 m_28 m_29 m_31 m_32 m_33 m_35 m_36 m_37 m_38 m_39 m_40 m_42)), ((r 7), .inl (E.2.2.1 1, 20000, .inl (nb (upd (upd pr7_f (6 + (2 * l1)) x_2882) (7 + (2 * l1)) x_2883)))), ((r 16), .inl (E.2.2.1 0, 8, .inl r16_f)), ((r 17), .inl (E.2.2.1 0, 8, .inl r17_f))]) B 1 rfl (vp_in_nI (by omega) (by omega)) (by rw [nb_upd, nI_clamp (n := (7 + (2 * l1))) (by omega)]; rfl) dX11_heads_111 ?_
      refine g_iinc (v := nI (l1 + 1)) (lv' := [(1, .int (nI (l1 + 1))), (0, .ref m)]) B dX11_heads_112 1 rfl (nI_add l1 1) (by decide) rfl ?_
      refine g_goto (tgt := 68) B dX11_heads_115 (by decide) ?_
      refine g_lvsub (lv' := [(0, .ref m), (1, .int (nI (l1 + 1)))]) [1, 0] rfl ?_
      exact ih (upd (upd pr7_f (6 + (2 * l1)) x_2882) (7 + (2 * l1)) x_2883) (l1 + 1) (by first | assumption | omega | decide | exact hCF _ (by omega)) (by omega) e_
theorem dX11_heads_118 : decode cX11_heads 118 = .ok (.bipush 6, 2) := by decide +kernel
theorem dX11_heads_120 : decode cX11_heads 120 = .ok (.iconst 2, 1) := by decide +kernel
theorem dX11_heads_121 : decode cX11_heads 121 = .ok (.aload_n 0, 1) := by decide +kernel
theorem dX11_heads_122 : decode cX11_heads 122 = .ok (.getfield 121, 3) := by decide +kernel
theorem dX11_heads_125 : decode cX11_heads 125 = .ok (.imul, 1) := by decide +kernel
theorem dX11_heads_126 : decode cX11_heads 126 = .ok (.iadd, 1) := by decide +kernel
theorem dX11_heads_127 : decode cX11_heads 127 = .ok (.istore_n 1, 1) := by decide +kernel
theorem dX11_heads_128 : decode cX11_heads 128 = .ok (.aload_n 0, 1) := by decide +kernel
theorem dX11_heads_129 : decode cX11_heads 129 = .ok (.getfield 203, 3) := by decide +kernel
theorem dX11_heads_132 : decode cX11_heads 132 = .ok (.ifCond .ne 5, 3) := by decide +kernel
theorem dX11_heads_137 : decode cX11_heads 137 = .ok (.aload_n 0, 1) := by decide +kernel
theorem dX11_heads_138 : decode cX11_heads 138 = .ok (.getfield 26, 3) := by decide +kernel
theorem dX11_heads_141 : decode cX11_heads 141 = .ok (.iload_n 1, 1) := by decide +kernel
theorem dX11_heads_142 : decode cX11_heads 142 = .ok (.aload_n 0, 1) := by decide +kernel
theorem dX11_heads_143 : decode cX11_heads 143 = .ok (.getfield 203, 3) := by decide +kernel
theorem dX11_heads_146 : decode cX11_heads 146 = .ok (.bipush 8, 2) := by decide +kernel
theorem dX11_heads_148 : decode cX11_heads 148 = .ok (.ishr, 1) := by decide +kernel
theorem dX11_heads_149 : decode cX11_heads 149 = .ok (.i2b, 1) := by decide +kernel
theorem dX11_heads_150 : decode cX11_heads 150 = .ok (.bastore, 1) := by decide +kernel
theorem dX11_heads_151 : decode cX11_heads 151 = .ok (.aload_n 0, 1) := by decide +kernel
theorem dX11_heads_152 : decode cX11_heads 152 = .ok (.getfield 26, 3) := by decide +kernel
theorem dX11_heads_155 : decode cX11_heads 155 = .ok (.iload_n 1, 1) := by decide +kernel
theorem dX11_heads_156 : decode cX11_heads 156 = .ok (.iconst 1, 1) := by decide +kernel
theorem dX11_heads_157 : decode cX11_heads 157 = .ok (.iadd, 1) := by decide +kernel
theorem dX11_heads_158 : decode cX11_heads 158 = .ok (.aload_n 0, 1) := by decide +kernel
theorem dX11_heads_159 : decode cX11_heads 159 = .ok (.getfield 203, 3) := by decide +kernel
theorem dX11_heads_162 : decode cX11_heads 162 = .ok (.i2b, 1) := by decide +kernel
theorem dX11_heads_163 : decode cX11_heads 163 = .ok (.bastore, 1) := by decide +kernel
theorem dX11_heads_164 : decode cX11_heads 164 = .ok (.iload_n 1, 1) := by decide +kernel
theorem dX11_heads_165 : decode cX11_heads 165 = .ok (.iconst 2, 1) := by decide +kernel
theorem dX11_heads_166 : decode cX11_heads 166 = .ok (.iadd, 1) := by decide +kernel
theorem dX11_heads_167 : decode cX11_heads 167 = .ok (.ireturn, 1) := by decide +kernel
theorem dX11_heads_135 : decode cX11_heads 135 = .ok (.iload_n 1, 1) := by decide +kernel
theorem dX11_heads_136 : decode cX11_heads 136 = .ok (.ireturn, 1) := by decide +kernel
set_option maxRecDepth 100000 in
def fn_wr_X11_heads (m_14 : Nat) (m_36 : Nat) (m_37 : Int32) (m_38 : Nat) (m_39 : Int32) (r7_f : Nat → Int32) (r16_f : Nat → Int32) (r17_f : Nat → Int32) (β : Type) (k_ : (Nat → Int32) → Nat → β) : β := (fnL (Int8.toInt32 (Int32.toInt8 m_39)) (fun x_2874 => (fnL (Int8.toInt32 (Int32.toInt8 m_37)) (fun x_2875 => (fnL (Int8.toInt32 (Int32.toInt8 (nI (m_38 / 256)))) (fun x_2876 => (fnL (Int8.toInt32 (Int32.toInt8 (nI m_38))) (fun x_2877 => (fnL (Int8.toInt32 (Int32.toInt8 (nI m_14))) (fun x_2878 => (lf_wr_X11_heads_68 m_14 r16_f r17_f β (fun y_2884pr7_f y_2884l1 => (if m_36 = 0 then (k_ y_2884pr7_f (6 + (2 * m_14))) else (fnL (Int8.toInt32 (Int32.toInt8 (nI (m_36 / 256)))) (fun x_2888 => (fnL (Int8.toInt32 (Int32.toInt8 (nI m_36))) (fun x_2889 => (k_ (upd (upd y_2884pr7_f (6 + (2 * m_14)) x_2888) ((6 + (2 * m_14)) + 1) x_2889) ((6 + (2 * m_14)) + 2)))))))) ((8 - 0) + 1) (upd (upd (upd (upd (upd (upd r7_f 0 83) 1 x_2874) 2 x_2875) 3 x_2876) 4 x_2877) 5 x_2878) 0)))))))))))
set_option maxRecDepth 100000 in
theorem fn_wr_X11_heads_s {m_14 : Nat} {m_36 : Nat} {m_37 : Int32} {m_38 : Nat} {m_39 : Int32} {r7_f : Nat → Int32} {r16_f : Nat → Int32} {r17_f : Nat → Int32} {β : Type} {k_ : (Nat → Int32) → Nat → β} : fn_wr_X11_heads m_14 m_36 m_37 m_38 m_39 r7_f r16_f r17_f β k_ = (fnL (Int8.toInt32 (Int32.toInt8 m_39)) (fun x_2874 => (fnL (Int8.toInt32 (Int32.toInt8 m_37)) (fun x_2875 => (fnL (Int8.toInt32 (Int32.toInt8 (nI (m_38 / 256)))) (fun x_2876 => (fnL (Int8.toInt32 (Int32.toInt8 (nI m_38))) (fun x_2877 => (fnL (Int8.toInt32 (Int32.toInt8 (nI m_14))) (fun x_2878 => (lf_wr_X11_heads_68 m_14 r16_f r17_f β (fun y_2884pr7_f y_2884l1 => (if m_36 = 0 then (k_ y_2884pr7_f (6 + (2 * m_14))) else (fnL (Int8.toInt32 (Int32.toInt8 (nI (m_36 / 256)))) (fun x_2888 => (fnL (Int8.toInt32 (Int32.toInt8 (nI m_36))) (fun x_2889 => (k_ (upd (upd y_2884pr7_f (6 + (2 * m_14)) x_2888) ((6 + (2 * m_14)) + 1) x_2889) ((6 + (2 * m_14)) + 2)))))))) ((8 - 0) + 1) (upd (upd (upd (upd (upd (upd r7_f 0 83) 1 x_2874) 2 x_2875) 3 x_2876) 4 x_2877) 5 x_2878) 0))))))))))) := rfl
set_option maxRecDepth 100000 in
set_option maxHeartbeats 4000000 in
theorem wr_X11_heads (E : g_E) (m : Nat) (r : Nat → Nat) (m_1 : Nat) (m_4 : Nat) (m_9 : Nat) (m_10 : Nat) (m_14 : Nat) (m_15 : Nat) (m_25 : Int32) (m_26 : Int32) (m_27 : Int64) (m_28 : Nat) (m_29 : Nat) (m_31 : Nat) (m_32 : Nat) (m_33 : Nat) (m_35 : Nat) (m_36 : Nat) (m_37 : Int32) (m_38 : Nat) (m_39 : Int32) (m_40 : Int32) (m_42 : Nat) (r7_f : Nat → Int32) (r16_f : Nat → Int32) (r17_f : Nat → Int32) (h0 : m_14 ≤ 8) (hb0 : m_38 ≤ 65535) (hb1 : m_36 ≤ 65535) : Ev E MX11_heads 0 0 0 0 [.ref m] [(m, .inr (11, mkF r m_1 m_4 m_9 m_10 m_14 m_15 m_25 m_26 m_27 m_28 m_29 m_31 m_32 m_33 m_35 m_36 m_37 m_38 m_39 m_40 m_42)), ((r 7), .inl (E.2.2.1 1, 20000, .inl (nb r7_f))), ((r 16), .inl (E.2.2.1 0, 8, .inl r16_f)), ((r 17), .inl (E.2.2.1 0, 8, .inl r17_f))] (fun v_ w_ => ∃ zr7_f : Nat → Int32, ∃ zr : Nat, (zr ≤ 24) ∧ (∀ (β : Type) (k_ : (Nat → Int32) → Nat → β), fn_wr_X11_heads m_14 m_36 m_37 m_38 m_39 r7_f r16_f r17_f β k_ = k_ zr7_f zr) ∧ v_ = some (.int (nI zr)) ∧ w_ = [(m, .inr (11, mkF r m_1 m_4 m_9 m_10 m_14 m_15 m_25 m_26 m_27 m_28 m_29 m_31 m_32 m_33 m_35 m_36 m_37 m_38 m_39 m_40 m_42)), ((r 7), .inl (E.2.2.1 1, 20000, .inl (nb zr7_f))), ((r 16), .inl (E.2.2.1 0, 8, .inl r16_f)), ((r 17), .inl (E.2.2.1 0, 8, .inl r17_f))]) := by
  refine Ev.intro (by decide) (Nat.le_of_ble_eq_true rfl) ?_
  intro X B hr hI
  have B : Bd E X cX11_heads RX11 2 0 0 0 0 := B
  have hr : Rt E X (some .int) 0 0 (fun v_ w_ => ∃ zr7_f : Nat → Int32, ∃ zr : Nat, (zr ≤ 24) ∧ (∀ (β : Type) (k_ : (Nat → Int32) → Nat → β), fn_wr_X11_heads m_14 m_36 m_37 m_38 m_39 r7_f r16_f r17_f β k_ = k_ zr7_f zr) ∧ v_ = some (.int (nI zr)) ∧ w_ = [(m, .inr (11, mkF r m_1 m_4 m_9 m_10 m_14 m_15 m_25 m_26 m_27 m_28 m_29 m_31 m_32 m_33 m_35 m_36 m_37 m_38 m_39 m_40 m_42)), ((r 7), .inl (E.2.2.1 1, 20000, .inl (nb zr7_f))), ((r 16), .inl (E.2.2.1 0, 8, .inl r16_f)), ((r 17), .inl (E.2.2.1 0, 8, .inl r17_f))]) := hr
  have e_ := fun (β : Type) (k_ : (Nat → Int32) → Nat → β) => fn_wr_X11_heads_s (β := β) (k_ := k_) (m_14 := m_14) (m_36 := m_36) (m_37 := m_37) (m_38 := m_38) (m_39 := m_39) (r7_f := r7_f) (r16_f := r16_f) (r17_f := r17_f)
  show G E X 2 [(m, .inr (11, mkF r m_1 m_4 m_9 m_10 m_14 m_15 m_25 m_26 m_27 m_28 m_29 m_31 m_32 m_33 m_35 m_36 m_37 m_38 m_39 m_40 m_42)), ((r 7), .inl (E.2.2.1 1, 20000, .inl (nb r7_f))), ((r 16), .inl (E.2.2.1 0, 8, .inl r16_f)), ((r 17), .inl (E.2.2.1 0, 8, .inl r17_f))] 0 0 [(0, .ref m)] 0 []
  refine g_aload_n B dX11_heads_0 rfl 0 rfl ?_
  refine g_get B 0 7 fl_X11_26 rfl mf_7 dX11_heads_1 ?_
  refine g_iconst (v := 0) B dX11_heads_4 (by decide) ?_
  refine g_bipush (v := 83) B dX11_heads_5 (by decide) ?_
  refine g_bast (ws' := [(m, .inr (11, mkF r m_1 m_4 m_9 m_10 m_14 m_15 m_25 m_26 m_27 m_28 m_29 m_31 m_32 m_33 m_35 m_36 m_37 m_38 m_39 m_40 m_42)), ((r 7), .inl (E.2.2.1 1, 20000, .inl (nb (upd r7_f 0 83)))), ((r 16), .inl (E.2.2.1 0, 8, .inl r16_f)), ((r 17), .inl (E.2.2.1 0, 8, .inl r17_f))]) B 1 rfl (by unfold vp_in; decide) (by rw [nb_upd, show Int32.toNatClampNeg 0 = 0 from by decide]; rfl) dX11_heads_7 ?_
  refine g_aload_n B dX11_heads_8 rfl 0 rfl ?_
  refine g_get B 0 7 fl_X11_26 rfl mf_7 dX11_heads_9 ?_
  refine g_iconst (v := 1) B dX11_heads_12 (by decide) ?_
  refine g_aload_n B dX11_heads_13 rfl 0 rfl ?_
  refine g_get B 0 39 fl_X11_206 rfl mf_39 dX11_heads_14 ?_
  refine g_i2b B dX11_heads_17 ?_
  refine g_topi (fun x_2874 ex_2874 => ?_)
  replace e_ := fun β k_ => (e_ β k_).trans (fnL_eq (x := x_2874) ex_2874.symm _)
  refine g_bast (ws' := [(m, .inr (11, mkF r m_1 m_4 m_9 m_10 m_14 m_15 m_25 m_26 m_27 m_28 m_29 m_31 m_32 m_33 m_35 m_36 m_37 m_38 m_39 m_40 m_42)), ((r 7), .inl (E.2.2.1 1, 20000, .inl (nb (upd (upd r7_f 0 83) 1 x_2874)))), ((r 16), .inl (E.2.2.1 0, 8, .inl r16_f)), ((r 17), .inl (E.2.2.1 0, 8, .inl r17_f))]) B 1 rfl (by unfold vp_in; decide) (by rw [nb_upd, show Int32.toNatClampNeg 1 = 1 from by decide]; rfl) dX11_heads_18 ?_
  refine g_aload_n B dX11_heads_19 rfl 0 rfl ?_
  refine g_get B 0 7 fl_X11_26 rfl mf_7 dX11_heads_20 ?_
  refine g_iconst (v := 2) B dX11_heads_23 (by decide) ?_
  refine g_aload_n B dX11_heads_24 rfl 0 rfl ?_
  refine g_get B 0 37 fl_X11_196 rfl mf_37 dX11_heads_25 ?_
  refine g_i2b B dX11_heads_28 ?_
  refine g_topi (fun x_2875 ex_2875 => ?_)
  replace e_ := fun β k_ => (e_ β k_).trans (fnL_eq (x := x_2875) ex_2875.symm _)
  refine g_bast (ws' := [(m, .inr (11, mkF r m_1 m_4 m_9 m_10 m_14 m_15 m_25 m_26 m_27 m_28 m_29 m_31 m_32 m_33 m_35 m_36 m_37 m_38 m_39 m_40 m_42)), ((r 7), .inl (E.2.2.1 1, 20000, .inl (nb (upd (upd (upd r7_f 0 83) 1 x_2874) 2 x_2875)))), ((r 16), .inl (E.2.2.1 0, 8, .inl r16_f)), ((r 17), .inl (E.2.2.1 0, 8, .inl r17_f))]) B 1 rfl (by unfold vp_in; decide) (by rw [nb_upd, show Int32.toNatClampNeg 2 = 2 from by decide]; rfl) dX11_heads_29 ?_
  refine g_aload_n B dX11_heads_30 rfl 0 rfl ?_
  refine g_get B 0 7 fl_X11_26 rfl mf_7 dX11_heads_31 ?_
  refine g_iconst (v := 3) B dX11_heads_34 (by decide) ?_
  refine g_aload_n B dX11_heads_35 rfl 0 rfl ?_
  refine g_get B 0 38 fl_X11_189 rfl mf_38 dX11_heads_36 ?_
  refine g_bipush (v := 8) B dX11_heads_39 (by decide) ?_
  refine g_ishr B dX11_heads_41 ?_
  refine g_ri (x' := nI (m_38 / 256)) (pk_shrN (n := m_38) (by omega) (8 &&& 31) 8 (by decide)) ?_
  refine g_i2b B dX11_heads_42 ?_
  refine g_topi (fun x_2876 ex_2876 => ?_)
  replace e_ := fun β k_ => (e_ β k_).trans (fnL_eq (x := x_2876) ex_2876.symm _)
  refine g_bast (ws' := [(m, .inr (11, mkF r m_1 m_4 m_9 m_10 m_14 m_15 m_25 m_26 m_27 m_28 m_29 m_31 m_32 m_33 m_35 m_36 m_37 m_38 m_39 m_40 m_42)), ((r 7), .inl (E.2.2.1 1, 20000, .inl (nb (upd (upd (upd (upd r7_f 0 83) 1 x_2874) 2 x_2875) 3 x_2876)))), ((r 16), .inl (E.2.2.1 0, 8, .inl r16_f)), ((r 17), .inl (E.2.2.1 0, 8, .inl r17_f))]) B 1 rfl (by unfold vp_in; decide) (by rw [nb_upd, show Int32.toNatClampNeg 3 = 3 from by decide]; rfl) dX11_heads_43 ?_
  refine g_aload_n B dX11_heads_44 rfl 0 rfl ?_
  refine g_get B 0 7 fl_X11_26 rfl mf_7 dX11_heads_45 ?_
  refine g_iconst (v := 4) B dX11_heads_48 (by decide) ?_
  refine g_aload_n B dX11_heads_49 rfl 0 rfl ?_
  refine g_get B 0 38 fl_X11_189 rfl mf_38 dX11_heads_50 ?_
  refine g_i2b B dX11_heads_53 ?_
  refine g_topi (fun x_2877 ex_2877 => ?_)
  replace e_ := fun β k_ => (e_ β k_).trans (fnL_eq (x := x_2877) ex_2877.symm _)
  refine g_bast (ws' := [(m, .inr (11, mkF r m_1 m_4 m_9 m_10 m_14 m_15 m_25 m_26 m_27 m_28 m_29 m_31 m_32 m_33 m_35 m_36 m_37 m_38 m_39 m_40 m_42)), ((r 7), .inl (E.2.2.1 1, 20000, .inl (nb (upd (upd (upd (upd (upd r7_f 0 83) 1 x_2874) 2 x_2875) 3 x_2876) 4 x_2877)))), ((r 16), .inl (E.2.2.1 0, 8, .inl r16_f)), ((r 17), .inl (E.2.2.1 0, 8, .inl r17_f))]) B 1 rfl (by unfold vp_in; decide) (by rw [nb_upd, show Int32.toNatClampNeg 4 = 4 from by decide]; rfl) dX11_heads_54 ?_
  refine g_aload_n B dX11_heads_55 rfl 0 rfl ?_
  refine g_get B 0 7 fl_X11_26 rfl mf_7 dX11_heads_56 ?_
  refine g_iconst (v := 5) B dX11_heads_59 (by decide) ?_
  refine g_aload_n B dX11_heads_60 rfl 0 rfl ?_
  refine g_get B 0 14 fl_X11_121 rfl mf_14 dX11_heads_61 ?_
  refine g_i2b B dX11_heads_64 ?_
  refine g_topi (fun x_2878 ex_2878 => ?_)
  replace e_ := fun β k_ => (e_ β k_).trans (fnL_eq (x := x_2878) ex_2878.symm _)
  refine g_bast (ws' := [(m, .inr (11, mkF r m_1 m_4 m_9 m_10 m_14 m_15 m_25 m_26 m_27 m_28 m_29 m_31 m_32 m_33 m_35 m_36 m_37 m_38 m_39 m_40 m_42)), ((r 7), .inl (E.2.2.1 1, 20000, .inl (nb (upd (upd (upd (upd (upd (upd r7_f 0 83) 1 x_2874) 2 x_2875) 3 x_2876) 4 x_2877) 5 x_2878)))), ((r 16), .inl (E.2.2.1 0, 8, .inl r16_f)), ((r 17), .inl (E.2.2.1 0, 8, .inl r17_f))]) B 1 rfl (by unfold vp_in; decide) (by rw [nb_upd, show Int32.toNatClampNeg 5 = 5 from by decide]; rfl) dX11_heads_65 ?_
  refine g_iconst (v := 0) B dX11_heads_66 (by decide) ?_
  refine g_istore_n (lv' := [(1, .int 0), (0, .ref m)]) B dX11_heads_67 rfl (by decide) rfl ?_
  refine g_lvsub (lv' := [(0, .ref m), (1, .int 0)]) [1, 0] rfl ?_
  refine lp_wr_X11_heads_68 E m r m_1 m_4 m_9 m_10 m_14 m_15 m_25 m_26 m_27 m_28 m_29 m_31 m_32 m_33 m_35 m_36 m_37 m_38 m_39 m_40 m_42 r7_f r16_f r17_f h0 hb0 hb1   _ B hr (fun y_2884pr7_f y_2884l1 y_2884k0 e_ => ?_) _ (upd (upd (upd (upd (upd (upd r7_f 0 83) 1 x_2874) 2 x_2875) 3 x_2876) 4 x_2877) 5 x_2878) 0 (by first | assumption | omega | decide | exact hCF _ (by omega)) (Nat.lt_succ_self _) e_
  show G E X 2 [(m, .inr (11, mkF r m_1 m_4 m_9 m_10 m_14 m_15 m_25 m_26 m_27 m_28 m_29 m_31 m_32 m_33 m_35 m_36 m_37 m_38 m_39 m_40 m_42)), ((r 7), .inl (E.2.2.1 1, 20000, .inl (nb y_2884pr7_f))), ((r 16), .inl (E.2.2.1 0, 8, .inl r16_f)), ((r 17), .inl (E.2.2.1 0, 8, .inl r17_f))] 0 0 [(0, .ref m), (1, .int (nI y_2884l1))] 118 []
  refine g_bipush (v := 6) B dX11_heads_118 (by decide) ?_
  refine g_iconst (v := 2) B dX11_heads_120 (by decide) ?_
  refine g_aload_n B dX11_heads_121 rfl 0 rfl ?_
  refine g_get B 0 14 fl_X11_121 rfl mf_14 dX11_heads_122 ?_
  refine g_imul B dX11_heads_125 ?_
  refine g_ri (x' := nI (2 * m_14)) (pk_mul 2 m_14) ?_
  refine g_iadd B dX11_heads_126 ?_
  refine g_ri (x' := nI (6 + (2 * m_14))) (nI_add 6 (2 * m_14)) ?_
  refine g_istore_n (lv' := [(1, .int (nI (6 + (2 * m_14)))), (0, .ref m)]) B dX11_heads_127 rfl (by decide) rfl ?_
  refine g_aload_n B dX11_heads_128 rfl 1 rfl ?_
  refine g_get B 0 36 fl_X11_203 rfl mf_36 dX11_heads_129 ?_
  refine g_if_ne (tgt := 137) B dX11_heads_132 (by decide) (fun c132_2885 => ?_) (fun c132_2885 => ?_)
  · have hn_2886 : ¬ m_36 = 0 := fun q => c132_2885 ((nI_eq (a := m_36) (b := 0) (by omega) (by omega)).mpr q)
    replace e_ := fun β k_ => (e_ β k_).trans (if_neg hn_2886)
    refine g_aload_n B dX11_heads_137 rfl 1 rfl ?_
    refine g_get B 0 7 fl_X11_26 rfl mf_7 dX11_heads_138 ?_
    refine g_iload_n B dX11_heads_141 rfl 0 rfl ?_
    refine g_aload_n B dX11_heads_142 rfl 1 rfl ?_
    refine g_get B 0 36 fl_X11_203 rfl mf_36 dX11_heads_143 ?_
    refine g_bipush (v := 8) B dX11_heads_146 (by decide) ?_
    refine g_ishr B dX11_heads_148 ?_
    refine g_ri (x' := nI (m_36 / 256)) (pk_shrN (n := m_36) (by omega) (8 &&& 31) 8 (by decide)) ?_
    refine g_i2b B dX11_heads_149 ?_
    refine g_topi (fun x_2888 ex_2888 => ?_)
    replace e_ := fun β k_ => (e_ β k_).trans (fnL_eq (x := x_2888) ex_2888.symm _)
    refine g_bast (ws' := [(m, .inr (11, mkF r m_1 m_4 m_9 m_10 m_14 m_15 m_25 m_26 m_27 m_28 m_29 m_31 m_32 m_33 m_35 m_36 m_37 m_38 m_39 m_40 m_42)), ((r 7), .inl (E.2.2.1 1, 20000, .inl (nb (upd y_2884pr7_f (6 + (2 * m_14)) x_2888)))), ((r 16), .inl (E.2.2.1 0, 8, .inl r16_f)), ((r 17), .inl (E.2.2.1 0, 8, .inl r17_f))]) B 1 rfl (vp_in_nI (by omega) (by omega)) (by rw [nb_upd, nI_clamp (n := (6 + (2 * m_14))) (by omega)]; rfl) dX11_heads_150 ?_
    refine g_aload_n B dX11_heads_151 rfl 1 rfl ?_
    refine g_get B 0 7 fl_X11_26 rfl mf_7 dX11_heads_152 ?_
    refine g_iload_n B dX11_heads_155 rfl 0 rfl ?_
    refine g_iconst (v := 1) B dX11_heads_156 (by decide) ?_
    refine g_iadd B dX11_heads_157 ?_
    refine g_ri (x' := nI ((6 + (2 * m_14)) + 1)) (nI_add (6 + (2 * m_14)) 1) ?_
    refine g_aload_n B dX11_heads_158 rfl 1 rfl ?_
    refine g_get B 0 36 fl_X11_203 rfl mf_36 dX11_heads_159 ?_
    refine g_i2b B dX11_heads_162 ?_
    refine g_topi (fun x_2889 ex_2889 => ?_)
    replace e_ := fun β k_ => (e_ β k_).trans (fnL_eq (x := x_2889) ex_2889.symm _)
    refine g_bast (ws' := [(m, .inr (11, mkF r m_1 m_4 m_9 m_10 m_14 m_15 m_25 m_26 m_27 m_28 m_29 m_31 m_32 m_33 m_35 m_36 m_37 m_38 m_39 m_40 m_42)), ((r 7), .inl (E.2.2.1 1, 20000, .inl (nb (upd (upd y_2884pr7_f (6 + (2 * m_14)) x_2888) ((6 + (2 * m_14)) + 1) x_2889)))), ((r 16), .inl (E.2.2.1 0, 8, .inl r16_f)), ((r 17), .inl (E.2.2.1 0, 8, .inl r17_f))]) B 1 rfl (vp_in_nI (by omega) (by omega)) (by rw [nb_upd, nI_clamp (n := ((6 + (2 * m_14)) + 1)) (by omega)]; rfl) dX11_heads_163 ?_
    refine g_iload_n B dX11_heads_164 rfl 0 rfl ?_
    refine g_iconst (v := 2) B dX11_heads_165 (by decide) ?_
    refine g_iadd B dX11_heads_166 ?_
    refine g_ri (x' := nI ((6 + (2 * m_14)) + 2)) (nI_add (6 + (2 * m_14)) 2) ?_
    exact g_iret B hr dX11_heads_167 (by decide) (by decide) ⟨(upd (upd y_2884pr7_f (6 + (2 * m_14)) x_2888) ((6 + (2 * m_14)) + 1) x_2889), ((6 + (2 * m_14)) + 2), (by first | assumption | omega | decide | exact hCF _ (by omega)), e_, rfl, rfl⟩
  · have hn_2887 : m_36 = 0 := (nI_eq (a := m_36) (b := 0) (by omega) (by omega)).mp c132_2885
    replace e_ := fun β k_ => (e_ β k_).trans (if_pos hn_2887)
    refine g_iload_n B dX11_heads_135 rfl 0 rfl ?_
    exact g_iret B hr dX11_heads_136 (by decide) (by decide) ⟨y_2884pr7_f, (6 + (2 * m_14)), (by first | assumption | omega | decide | exact hCF _ (by omega)), e_, rfl, rfl⟩
abbrev MX11_tells : g_M := (yX11_tells, cX11_tells, 3, none)
theorem dX11_tells_0 : decode cX11_tells 0 = .ok (.aload_n 0, 1) := by decide +kernel
theorem dX11_tells_1 : decode cX11_tells 1 = .ok (.getfield 32, 3) := by decide +kernel
theorem dX11_tells_4 : decode cX11_tells 4 = .ok (.iconst 0, 1) := by decide +kernel
theorem dX11_tells_5 : decode cX11_tells 5 = .ok (.iconst 1, 1) := by decide +kernel
theorem dX11_tells_6 : decode cX11_tells 6 = .ok (.aload_n 0, 1) := by decide +kernel
theorem dX11_tells_7 : decode cX11_tells 7 = .ok (.getfield 206, 3) := by decide +kernel
theorem dX11_tells_10 : decode cX11_tells 10 = .ok (.iconst 1, 1) := by decide +kernel
theorem dX11_tells_11 : decode cX11_tells 11 = .ok (.iand, 1) := by decide +kernel
theorem dX11_tells_12 : decode cX11_tells 12 = .ok (.iadd, 1) := by decide +kernel
theorem dX11_tells_13 : decode cX11_tells 13 = .ok (.iastore, 1) := by decide +kernel
theorem dX11_tells_14 : decode cX11_tells 14 = .ok (.aload_n 0, 1) := by decide +kernel
theorem dX11_tells_15 : decode cX11_tells 15 = .ok (.getfield 32, 3) := by decide +kernel
theorem dX11_tells_18 : decode cX11_tells 18 = .ok (.iconst 1, 1) := by decide +kernel
theorem dX11_tells_19 : decode cX11_tells 19 = .ok (.aload_n 0, 1) := by decide +kernel
theorem dX11_tells_20 : decode cX11_tells 20 = .ok (.getfield 189, 3) := by decide +kernel
theorem dX11_tells_23 : decode cX11_tells 23 = .ok (.iastore, 1) := by decide +kernel
theorem dX11_tells_24 : decode cX11_tells 24 = .ok (.aload_n 0, 1) := by decide +kernel
theorem dX11_tells_25 : decode cX11_tells 25 = .ok (.getfield 32, 3) := by decide +kernel
theorem dX11_tells_28 : decode cX11_tells 28 = .ok (.iconst 2, 1) := by decide +kernel
theorem dX11_tells_29 : decode cX11_tells 29 = .ok (.aload_n 0, 1) := by decide +kernel
theorem dX11_tells_30 : decode cX11_tells 30 = .ok (.getfield 206, 3) := by decide +kernel
theorem dX11_tells_33 : decode cX11_tells 33 = .ok (.iastore, 1) := by decide +kernel
theorem dX11_tells_34 : decode cX11_tells 34 = .ok (.aload_n 0, 1) := by decide +kernel
theorem dX11_tells_35 : decode cX11_tells 35 = .ok (.getfield 32, 3) := by decide +kernel
theorem dX11_tells_38 : decode cX11_tells 38 = .ok (.iconst 3, 1) := by decide +kernel
theorem dX11_tells_39 : decode cX11_tells 39 = .ok (.aload_n 0, 1) := by decide +kernel
theorem dX11_tells_40 : decode cX11_tells 40 = .ok (.getfield 196, 3) := by decide +kernel
theorem dX11_tells_43 : decode cX11_tells 43 = .ok (.iastore, 1) := by decide +kernel
theorem dX11_tells_44 : decode cX11_tells 44 = .ok (.aload_n 0, 1) := by decide +kernel
theorem dX11_tells_45 : decode cX11_tells 45 = .ok (.getfield 32, 3) := by decide +kernel
theorem dX11_tells_48 : decode cX11_tells 48 = .ok (.iconst 4, 1) := by decide +kernel
theorem dX11_tells_49 : decode cX11_tells 49 = .ok (.aload_n 0, 1) := by decide +kernel
theorem dX11_tells_50 : decode cX11_tells 50 = .ok (.getfield 121, 3) := by decide +kernel
theorem dX11_tells_53 : decode cX11_tells 53 = .ok (.iastore, 1) := by decide +kernel
theorem dX11_tells_54 : decode cX11_tells 54 = .ok (.aload_n 0, 1) := by decide +kernel
theorem dX11_tells_55 : decode cX11_tells 55 = .ok (.getfield 32, 3) := by decide +kernel
theorem dX11_tells_58 : decode cX11_tells 58 = .ok (.iconst 5, 1) := by decide +kernel
theorem dX11_tells_59 : decode cX11_tells 59 = .ok (.aload_n 0, 1) := by decide +kernel
theorem dX11_tells_60 : decode cX11_tells 60 = .ok (.getfield 203, 3) := by decide +kernel
theorem dX11_tells_63 : decode cX11_tells 63 = .ok (.iastore, 1) := by decide +kernel
theorem dX11_tells_64 : decode cX11_tells 64 = .ok (.aload_n 0, 1) := by decide +kernel
theorem dX11_tells_65 : decode cX11_tells 65 = .ok (.getfield 32, 3) := by decide +kernel
theorem dX11_tells_68 : decode cX11_tells 68 = .ok (.bipush 6, 2) := by decide +kernel
theorem dX11_tells_70 : decode cX11_tells 70 = .ok (.aload_n 0, 1) := by decide +kernel
theorem dX11_tells_71 : decode cX11_tells 71 = .ok (.getfield 103, 3) := by decide +kernel
theorem dX11_tells_74 : decode cX11_tells 74 = .ok (.iastore, 1) := by decide +kernel
theorem dX11_tells_75 : decode cX11_tells 75 = .ok (.aload_n 0, 1) := by decide +kernel
theorem dX11_tells_76 : decode cX11_tells 76 = .ok (.getfield 32, 3) := by decide +kernel
theorem dX11_tells_79 : decode cX11_tells 79 = .ok (.bipush 7, 2) := by decide +kernel
theorem dX11_tells_81 : decode cX11_tells 81 = .ok (.aload_n 0, 1) := by decide +kernel
theorem dX11_tells_82 : decode cX11_tells 82 = .ok (.getfield 107, 3) := by decide +kernel
theorem dX11_tells_85 : decode cX11_tells 85 = .ok (.iastore, 1) := by decide +kernel
theorem dX11_tells_86 : decode cX11_tells 86 = .ok (.aload_n 0, 1) := by decide +kernel
theorem dX11_tells_87 : decode cX11_tells 87 = .ok (.getfield 32, 3) := by decide +kernel
theorem dX11_tells_90 : decode cX11_tells 90 = .ok (.bipush 8, 2) := by decide +kernel
theorem dX11_tells_92 : decode cX11_tells 92 = .ok (.aload_n 0, 1) := by decide +kernel
theorem dX11_tells_93 : decode cX11_tells 93 = .ok (.getfield 110, 3) := by decide +kernel
theorem dX11_tells_96 : decode cX11_tells 96 = .ok (.l2i, 1) := by decide +kernel
theorem dX11_tells_97 : decode cX11_tells 97 = .ok (.iastore, 1) := by decide +kernel
theorem dX11_tells_98 : decode cX11_tells 98 = .ok (.aload_n 0, 1) := by decide +kernel
theorem dX11_tells_99 : decode cX11_tells 99 = .ok (.getfield 32, 3) := by decide +kernel
theorem dX11_tells_102 : decode cX11_tells 102 = .ok (.bipush 9, 2) := by decide +kernel
theorem dX11_tells_104 : decode cX11_tells 104 = .ok (.aload_n 0, 1) := by decide +kernel
theorem dX11_tells_105 : decode cX11_tells 105 = .ok (.getfield 243, 3) := by decide +kernel
theorem dX11_tells_108 : decode cX11_tells 108 = .ok (.iastore, 1) := by decide +kernel
theorem dX11_tells_109 : decode cX11_tells 109 = .ok (.iconst 0, 1) := by decide +kernel
theorem dX11_tells_110 : decode cX11_tells 110 = .ok (.istore_n 1, 1) := by decide +kernel
theorem dX11_tells_111 : decode cX11_tells 111 = .ok (.iload_n 1, 1) := by decide +kernel
theorem dX11_tells_112 : decode cX11_tells 112 = .ok (.bipush 8, 2) := by decide +kernel
theorem dX11_tells_114 : decode cX11_tells 114 = .ok (.if_icmp .ge 62, 3) := by decide +kernel
theorem dX11_tells_117 : decode cX11_tells 117 = .ok (.iconst 0, 1) := by decide +kernel
theorem dX11_tells_118 : decode cX11_tells 118 = .ok (.istore_n 2, 1) := by decide +kernel
theorem dX11_tells_119 : decode cX11_tells 119 = .ok (.iload_n 2, 1) := by decide +kernel
theorem dX11_tells_120 : decode cX11_tells 120 = .ok (.iconst 2, 1) := by decide +kernel
theorem dX11_tells_121 : decode cX11_tells 121 = .ok (.if_icmp .ge 49, 3) := by decide +kernel
theorem dX11_tells_124 : decode cX11_tells 124 = .ok (.aload_n 0, 1) := by decide +kernel
theorem dX11_tells_125 : decode cX11_tells 125 = .ok (.getfield 35, 3) := by decide +kernel
theorem dX11_tells_128 : decode cX11_tells 128 = .ok (.iconst 2, 1) := by decide +kernel
theorem dX11_tells_129 : decode cX11_tells 129 = .ok (.iload_n 1, 1) := by decide +kernel
theorem dX11_tells_130 : decode cX11_tells 130 = .ok (.imul, 1) := by decide +kernel
theorem dX11_tells_131 : decode cX11_tells 131 = .ok (.iload_n 2, 1) := by decide +kernel
theorem dX11_tells_132 : decode cX11_tells 132 = .ok (.iadd, 1) := by decide +kernel
theorem dX11_tells_133 : decode cX11_tells 133 = .ok (.iload_n 1, 1) := by decide +kernel
theorem dX11_tells_134 : decode cX11_tells 134 = .ok (.aload_n 0, 1) := by decide +kernel
theorem dX11_tells_135 : decode cX11_tells 135 = .ok (.getfield 121, 3) := by decide +kernel
theorem dX11_tells_138 : decode cX11_tells 138 = .ok (.if_icmp .ge 24, 3) := by decide +kernel
theorem dX11_tells_162 : decode cX11_tells 162 = .ok (.iconst 0, 1) := by decide +kernel
theorem dX11_tells_163 : decode cX11_tells 163 = .ok (.iastore, 1) := by decide +kernel
theorem dX11_tells_164 : decode cX11_tells 164 = .ok (.iinc 2 1, 3) := by decide +kernel
theorem dX11_tells_167 : decode cX11_tells 167 = .ok (.goto (-48), 3) := by decide +kernel
theorem dX11_tells_141 : decode cX11_tells 141 = .ok (.iload_n 2, 1) := by decide +kernel
theorem dX11_tells_142 : decode cX11_tells 142 = .ok (.aload_n 0, 1) := by decide +kernel
theorem dX11_tells_143 : decode cX11_tells 143 = .ok (.getfield 118, 3) := by decide +kernel
theorem dX11_tells_146 : decode cX11_tells 146 = .ok (.if_icmp .ge 16, 3) := by decide +kernel
theorem dX11_tells_149 : decode cX11_tells 149 = .ok (.aload_n 0, 1) := by decide +kernel
theorem dX11_tells_150 : decode cX11_tells 150 = .ok (.getfield 48, 3) := by decide +kernel
theorem dX11_tells_153 : decode cX11_tells 153 = .ok (.iconst 2, 1) := by decide +kernel
theorem dX11_tells_154 : decode cX11_tells 154 = .ok (.iload_n 1, 1) := by decide +kernel
theorem dX11_tells_155 : decode cX11_tells 155 = .ok (.imul, 1) := by decide +kernel
theorem dX11_tells_156 : decode cX11_tells 156 = .ok (.iload_n 2, 1) := by decide +kernel
theorem dX11_tells_157 : decode cX11_tells 157 = .ok (.iadd, 1) := by decide +kernel
theorem dX11_tells_158 : decode cX11_tells 158 = .ok (.iaload, 1) := by decide +kernel
theorem dX11_tells_159 : decode cX11_tells 159 = .ok (.goto 4, 3) := by decide +kernel
set_option maxRecDepth 100000 in
def lf_wr_X11_tells_119 (m_14 : Nat) (m_15 : Nat) (r18_f : Nat → Int32) (l1 : Nat) (β : Type) (kx_ : (Nat → Int32) → Nat → β)  : Nat → (Nat → Int32) → Nat → β
  | 0, pr12_f, l2 => kx_ pr12_f l2
  | fuel + 1, pr12_f, l2 => (if 2 ≤ l2 then (kx_ pr12_f l2) else (if m_14 ≤ l1 then (lf_wr_X11_tells_119 m_14 m_15 r18_f l1 β kx_ fuel (upd pr12_f ((2 * l1) + l2) 0) (l2 + 1)) else (if m_15 ≤ l2 then (lf_wr_X11_tells_119 m_14 m_15 r18_f l1 β kx_ fuel (upd pr12_f ((2 * l1) + l2) 0) (l2 + 1)) else (lf_wr_X11_tells_119 m_14 m_15 r18_f l1 β kx_ fuel (upd pr12_f ((2 * l1) + l2) (r18_f ((2 * l1) + l2))) (l2 + 1)))))
set_option maxRecDepth 100000 in
theorem lf_wr_X11_tells_119_s {m_14 : Nat} {m_15 : Nat} {r18_f : Nat → Int32} {l1 : Nat} {β : Type} {kx_ : (Nat → Int32) → Nat → β}  {fuel : Nat} {pr12_f : Nat → Int32} {l2 : Nat} : lf_wr_X11_tells_119 m_14 m_15 r18_f l1 β kx_  (fuel + 1) pr12_f l2 = (if 2 ≤ l2 then (kx_ pr12_f l2) else (if m_14 ≤ l1 then (lf_wr_X11_tells_119 m_14 m_15 r18_f l1 β kx_ fuel (upd pr12_f ((2 * l1) + l2) 0) (l2 + 1)) else (if m_15 ≤ l2 then (lf_wr_X11_tells_119 m_14 m_15 r18_f l1 β kx_ fuel (upd pr12_f ((2 * l1) + l2) 0) (l2 + 1)) else (lf_wr_X11_tells_119 m_14 m_15 r18_f l1 β kx_ fuel (upd pr12_f ((2 * l1) + l2) (r18_f ((2 * l1) + l2))) (l2 + 1))))) := rfl
set_option maxRecDepth 100000 in
set_option maxHeartbeats 4000000 in
theorem lp_wr_X11_tells_119 (E : g_E) (m : Nat) (r : Nat → Nat) (m_1 : Nat) (m_4 : Nat) (m_9 : Nat) (m_10 : Nat) (m_14 : Nat) (m_15 : Nat) (m_25 : Int32) (m_26 : Int32) (m_27 : Int64) (m_28 : Nat) (m_29 : Nat) (m_31 : Nat) (m_32 : Nat) (m_33 : Nat) (m_35 : Nat) (m_36 : Nat) (m_37 : Int32) (m_38 : Nat) (m_39 : Int32) (m_40 : Int32) (m_42 : Nat) (r11_f : Nat → Int32) (r12_f : Nat → Int32) (r13_f : Nat → Int64) (r18_f : Nat → Int32) (r24_f : Nat → Nat) (hb0 : m_14 ≤ 255) (hb1 : m_15 ≤ 2) (hb2 : m_38 ≤ 65535) (hb3 : m_36 ≤ 65535) (ha0 : ∀ j, j < 6 → r24_f j ≤ 40000000000) (pr11_f : Nat → Int32) (l1 : Nat) (hf0 : l1 < 8) {X : g_X} {rr : (β : Type) → ((Nat → Int32) → (Nat → Int32) → (Nat → Int64) → β) → β} (kx_ : (β : Type) → ((Nat → Int32) → (Nat → Int32) → (Nat → Int64) → β) → (Nat → Int32) → Nat → β) (B : Bd E X cX11_tells RX11 3 0 0 0 0) (hr : Rt E X none 0 0 (fun v_ w_ => ∃ zr11_f : Nat → Int32, ∃ zr12_f : Nat → Int32, ∃ zr13_f : Nat → Int64, (∀ (β : Type) (k_ : (Nat → Int32) → (Nat → Int32) → (Nat → Int64) → β), rr β k_ = k_ zr11_f zr12_f zr13_f) ∧ v_ = none ∧ w_ = [(m, .inr (11, mkF r m_1 m_4 m_9 m_10 m_14 m_15 m_25 m_26 m_27 m_28 m_29 m_31 m_32 m_33 m_35 m_36 m_37 m_38 m_39 m_40 m_42)), ((r 11), .inl (E.2.2.1 0, 10, .inl zr11_f)), ((r 12), .inl (E.2.2.1 0, 16, .inl zr12_f)), ((r 13), .inl (E.2.2.1 3, 6, .inr (.inl zr13_f))), ((r 18), .inl (E.2.2.1 0, 16, .inl r18_f)), ((r 24), .inl (E.2.2.1 3, 6, .inr (.inl (lM r24_f))))])) (K : ∀ (pr12_f : Nat → Int32) (l2 : Nat), (l2 ≤ 2) → (∀ (β : Type) (k_ : (Nat → Int32) → (Nat → Int32) → (Nat → Int64) → β), rr β k_ = kx_ β k_ pr12_f l2) → G E X 3 [(m, .inr (11, mkF r m_1 m_4 m_9 m_10 m_14 m_15 m_25 m_26 m_27 m_28 m_29 m_31 m_32 m_33 m_35 m_36 m_37 m_38 m_39 m_40 m_42)), ((r 11), .inl (E.2.2.1 0, 10, .inl pr11_f)), ((r 12), .inl (E.2.2.1 0, 16, .inl pr12_f)), ((r 13), .inl (E.2.2.1 3, 6, .inr (.inl r13_f))), ((r 18), .inl (E.2.2.1 0, 16, .inl r18_f)), ((r 24), .inl (E.2.2.1 3, 6, .inr (.inl (lM r24_f))))] 0 0 [(0, .ref m), (1, .int (nI l1)), (2, .int (nI l2))] 170 []) : ∀ (fuel : Nat) (pr12_f : Nat → Int32) (l2 : Nat), (l2 ≤ 2) → (2 - l2) < fuel → (∀ (β : Type) (k_ : (Nat → Int32) → (Nat → Int32) → (Nat → Int64) → β), rr β k_ = lf_wr_X11_tells_119 m_14 m_15 r18_f l1 β (kx_ β k_) fuel pr12_f l2) → G E X 3 [(m, .inr (11, mkF r m_1 m_4 m_9 m_10 m_14 m_15 m_25 m_26 m_27 m_28 m_29 m_31 m_32 m_33 m_35 m_36 m_37 m_38 m_39 m_40 m_42)), ((r 11), .inl (E.2.2.1 0, 10, .inl pr11_f)), ((r 12), .inl (E.2.2.1 0, 16, .inl pr12_f)), ((r 13), .inl (E.2.2.1 3, 6, .inr (.inl r13_f))), ((r 18), .inl (E.2.2.1 0, 16, .inl r18_f)), ((r 24), .inl (E.2.2.1 3, 6, .inr (.inl (lM r24_f))))] 0 0 [(0, .ref m), (1, .int (nI l1)), (2, .int (nI l2))] 119 [] := by
  intro fuel
  induction fuel with
  | zero => intro pr12_f l2 _ h _; exact absurd h (Nat.not_lt_zero _)
  | succ fuel ih =>
    intro pr12_f l2 hv0 hm e_
    replace e_ := fun β k_ => (e_ β k_).trans lf_wr_X11_tells_119_s
    refine g_iload_n B dX11_tells_119 rfl 2 rfl ?_
    refine g_iconst (v := 2) B dX11_tells_120 (by decide) ?_
    refine g_icmp_ge (tgt := 170) B dX11_tells_121 (by decide) (fun c121_2893 => ?_) (fun c121_2893 => ?_)
    · have hn_2894 : 2 ≤ l2 := (nI_leI (a := 2) (b := l2) (by omega) (by omega)).mp c121_2893
      replace e_ := fun β k_ => (e_ β k_).trans (if_pos hn_2894)
      exact K pr12_f l2 (by first | assumption | omega | decide | exact hCF _ (by omega)) e_
    · have hn_2895 : l2 < 2 := Nat.not_le.mp (fun q => c121_2893 ((nI_leI (a := 2) (b := l2) (by omega) (by omega)).mpr q))
      replace e_ := fun β k_ => (e_ β k_).trans (if_neg (Nat.not_le.mpr hn_2895))
      refine g_aload_n B dX11_tells_124 rfl 0 rfl ?_
      refine g_get B 0 12 fl_X11_35 rfl mf_12 dX11_tells_125 ?_
      refine g_iconst (v := 2) B dX11_tells_128 (by decide) ?_
      refine g_iload_n B dX11_tells_129 rfl 1 rfl ?_
      refine g_imul B dX11_tells_130 ?_
      refine g_ri (x' := nI (2 * l1)) (pk_mul 2 l1) ?_
      refine g_iload_n B dX11_tells_131 rfl 2 rfl ?_
      refine g_iadd B dX11_tells_132 ?_
      refine g_ri (x' := nI ((2 * l1) + l2)) (nI_add (2 * l1) l2) ?_
      refine g_iload_n B dX11_tells_133 rfl 1 rfl ?_
      refine g_aload_n B dX11_tells_134 rfl 0 rfl ?_
      refine g_get B 0 14 fl_X11_121 rfl mf_14 dX11_tells_135 ?_
      refine g_icmp_ge (tgt := 162) B dX11_tells_138 (by decide) (fun c138_2896 => ?_) (fun c138_2896 => ?_)
      · have hn_2897 : m_14 ≤ l1 := (nI_leI (a := m_14) (b := l1) (by omega) (by omega)).mp c138_2896
        replace e_ := fun β k_ => (e_ β k_).trans (if_pos hn_2897)
        refine g_iconst (v := 0) B dX11_tells_162 (by decide) ?_
        refine g_iast (ws' := [(m, .inr (11, mkF r m_1 m_4 m_9 m_10 m_14 m_15 m_25 m_26 m_27 m_28 m_29 m_31 m_32 m_33 m_35 m_36 m_37 m_38 m_39 m_40 m_42)), ((r 11), .inl (E.2.2.1 0, 10, .inl pr11_f)), ((r 12), .inl (E.2.2.1 0, 16, .inl (upd pr12_f ((2 * l1) + l2) 0))), ((r 13), .inl (E.2.2.1 3, 6, .inr (.inl r13_f))), ((r 18), .inl (E.2.2.1 0, 16, .inl r18_f)), ((r 24), .inl (E.2.2.1 3, 6, .inr (.inl (lM r24_f))))]) B 2 rfl (vp_in_nI (by omega) (by omega)) (by rw [nI_clamp (n := ((2 * l1) + l2)) (by omega)]; rfl) dX11_tells_163 ?_
        refine g_iinc (v := nI (l2 + 1)) (lv' := [(2, .int (nI (l2 + 1))), (0, .ref m), (1, .int (nI l1))]) B dX11_tells_164 2 rfl (nI_add l2 1) (by decide) rfl ?_
        refine g_goto (tgt := 119) B dX11_tells_167 (by decide) ?_
        refine g_lvsub (lv' := [(0, .ref m), (1, .int (nI l1)), (2, .int (nI (l2 + 1)))]) [1, 2, 0] rfl ?_
        exact ih (upd pr12_f ((2 * l1) + l2) 0) (l2 + 1) (by first | assumption | omega | decide | exact hCF _ (by omega)) (by omega) e_
      · have hn_2898 : l1 < m_14 := Nat.not_le.mp (fun q => c138_2896 ((nI_leI (a := m_14) (b := l1) (by omega) (by omega)).mpr q))
        replace e_ := fun β k_ => (e_ β k_).trans (if_neg (Nat.not_le.mpr hn_2898))
        refine g_iload_n B dX11_tells_141 rfl 2 rfl ?_
        refine g_aload_n B dX11_tells_142 rfl 0 rfl ?_
        refine g_get B 0 15 fl_X11_118 rfl mf_15 dX11_tells_143 ?_
        refine g_icmp_ge (tgt := 162) B dX11_tells_146 (by decide) (fun c146_2899 => ?_) (fun c146_2899 => ?_)
        · have hn_2900 : m_15 ≤ l2 := (nI_leI (a := m_15) (b := l2) (by omega) (by omega)).mp c146_2899
          replace e_ := fun β k_ => (e_ β k_).trans (if_pos hn_2900)
          refine g_iconst (v := 0) B dX11_tells_162 (by decide) ?_
          refine g_iast (ws' := [(m, .inr (11, mkF r m_1 m_4 m_9 m_10 m_14 m_15 m_25 m_26 m_27 m_28 m_29 m_31 m_32 m_33 m_35 m_36 m_37 m_38 m_39 m_40 m_42)), ((r 11), .inl (E.2.2.1 0, 10, .inl pr11_f)), ((r 12), .inl (E.2.2.1 0, 16, .inl (upd pr12_f ((2 * l1) + l2) 0))), ((r 13), .inl (E.2.2.1 3, 6, .inr (.inl r13_f))), ((r 18), .inl (E.2.2.1 0, 16, .inl r18_f)), ((r 24), .inl (E.2.2.1 3, 6, .inr (.inl (lM r24_f))))]) B 2 rfl (vp_in_nI (by omega) (by omega)) (by rw [nI_clamp (n := ((2 * l1) + l2)) (by omega)]; rfl) dX11_tells_163 ?_
          refine g_iinc (v := nI (l2 + 1)) (lv' := [(2, .int (nI (l2 + 1))), (0, .ref m), (1, .int (nI l1))]) B dX11_tells_164 2 rfl (nI_add l2 1) (by decide) rfl ?_
          refine g_goto (tgt := 119) B dX11_tells_167 (by decide) ?_
          refine g_lvsub (lv' := [(0, .ref m), (1, .int (nI l1)), (2, .int (nI (l2 + 1)))]) [1, 2, 0] rfl ?_
          exact ih (upd pr12_f ((2 * l1) + l2) 0) (l2 + 1) (by first | assumption | omega | decide | exact hCF _ (by omega)) (by omega) e_
        · have hn_2901 : l2 < m_15 := Nat.not_le.mp (fun q => c146_2899 ((nI_leI (a := m_15) (b := l2) (by omega) (by omega)).mpr q))
          replace e_ := fun β k_ => (e_ β k_).trans (if_neg (Nat.not_le.mpr hn_2901))
          refine g_aload_n B dX11_tells_149 rfl 0 rfl ?_
          refine g_get B 0 18 fl_X11_48 rfl mf_18 dX11_tells_150 ?_
          refine g_iconst (v := 2) B dX11_tells_153 (by decide) ?_
          refine g_iload_n B dX11_tells_154 rfl 1 rfl ?_
          refine g_imul B dX11_tells_155 ?_
          refine g_ri (x' := nI (2 * l1)) (pk_mul 2 l1) ?_
          refine g_iload_n B dX11_tells_156 rfl 2 rfl ?_
          refine g_iadd B dX11_tells_157 ?_
          refine g_ri (x' := nI ((2 * l1) + l2)) (nI_add (2 * l1) l2) ?_
          refine g_iald B 4 rfl (vp_in_nI (by omega) (by omega)) dX11_tells_158 ?_
          refine g_ri (x' := (r18_f ((2 * l1) + l2))) (congrArg r18_f (nI_clamp (n := ((2 * l1) + l2)) (by omega))) ?_
          refine g_goto (tgt := 163) B dX11_tells_159 (by decide) ?_
          refine g_iast (ws' := [(m, .inr (11, mkF r m_1 m_4 m_9 m_10 m_14 m_15 m_25 m_26 m_27 m_28 m_29 m_31 m_32 m_33 m_35 m_36 m_37 m_38 m_39 m_40 m_42)), ((r 11), .inl (E.2.2.1 0, 10, .inl pr11_f)), ((r 12), .inl (E.2.2.1 0, 16, .inl (upd pr12_f ((2 * l1) + l2) (r18_f ((2 * l1) + l2))))), ((r 13), .inl (E.2.2.1 3, 6, .inr (.inl r13_f))), ((r 18), .inl (E.2.2.1 0, 16, .inl r18_f)), ((r 24), .inl (E.2.2.1 3, 6, .inr (.inl (lM r24_f))))]) B 2 rfl (vp_in_nI (by omega) (by omega)) (by rw [nI_clamp (n := ((2 * l1) + l2)) (by omega)]; rfl) dX11_tells_163 ?_
          refine g_iinc (v := nI (l2 + 1)) (lv' := [(2, .int (nI (l2 + 1))), (0, .ref m), (1, .int (nI l1))]) B dX11_tells_164 2 rfl (nI_add l2 1) (by decide) rfl ?_
          refine g_goto (tgt := 119) B dX11_tells_167 (by decide) ?_
          refine g_lvsub (lv' := [(0, .ref m), (1, .int (nI l1)), (2, .int (nI (l2 + 1)))]) [1, 2, 0] rfl ?_
          exact ih (upd pr12_f ((2 * l1) + l2) (r18_f ((2 * l1) + l2))) (l2 + 1) (by first | assumption | omega | decide | exact hCF _ (by omega)) (by omega) e_
theorem dX11_tells_170 : decode cX11_tells 170 = .ok (.iinc 1 1, 3) := by decide +kernel
theorem dX11_tells_173 : decode cX11_tells 173 = .ok (.goto (-62), 3) := by decide +kernel
set_option maxRecDepth 100000 in
def lf_wr_X11_tells_111 (m_14 : Nat) (m_15 : Nat) (r18_f : Nat → Int32) (β : Type) (kx_ : (Nat → Int32) → Nat → β)  : Nat → (Nat → Int32) → Nat → β
  | 0, pr12_f, l1 => kx_ pr12_f l1
  | fuel + 1, pr12_f, l1 => (if 8 ≤ l1 then (kx_ pr12_f l1) else (lf_wr_X11_tells_119 m_14 m_15 r18_f l1 β (fun y_2902pr12_f y_2902l2 => (lf_wr_X11_tells_111 m_14 m_15 r18_f β kx_ fuel y_2902pr12_f (l1 + 1))) ((2 - 0) + 1) pr12_f 0))
set_option maxRecDepth 100000 in
theorem lf_wr_X11_tells_111_s {m_14 : Nat} {m_15 : Nat} {r18_f : Nat → Int32} {β : Type} {kx_ : (Nat → Int32) → Nat → β}  {fuel : Nat} {pr12_f : Nat → Int32} {l1 : Nat} : lf_wr_X11_tells_111 m_14 m_15 r18_f β kx_  (fuel + 1) pr12_f l1 = (if 8 ≤ l1 then (kx_ pr12_f l1) else (lf_wr_X11_tells_119 m_14 m_15 r18_f l1 β (fun y_2902pr12_f y_2902l2 => (lf_wr_X11_tells_111 m_14 m_15 r18_f β kx_ fuel y_2902pr12_f (l1 + 1))) ((2 - 0) + 1) pr12_f 0)) := rfl
set_option maxRecDepth 100000 in
set_option maxHeartbeats 4000000 in
theorem lp_wr_X11_tells_111 (E : g_E) (m : Nat) (r : Nat → Nat) (m_1 : Nat) (m_4 : Nat) (m_9 : Nat) (m_10 : Nat) (m_14 : Nat) (m_15 : Nat) (m_25 : Int32) (m_26 : Int32) (m_27 : Int64) (m_28 : Nat) (m_29 : Nat) (m_31 : Nat) (m_32 : Nat) (m_33 : Nat) (m_35 : Nat) (m_36 : Nat) (m_37 : Int32) (m_38 : Nat) (m_39 : Int32) (m_40 : Int32) (m_42 : Nat) (r11_f : Nat → Int32) (r12_f : Nat → Int32) (r13_f : Nat → Int64) (r18_f : Nat → Int32) (r24_f : Nat → Nat) (hb0 : m_14 ≤ 255) (hb1 : m_15 ≤ 2) (hb2 : m_38 ≤ 65535) (hb3 : m_36 ≤ 65535) (ha0 : ∀ j, j < 6 → r24_f j ≤ 40000000000) (pr11_f : Nat → Int32)  {X : g_X} {rr : (β : Type) → ((Nat → Int32) → (Nat → Int32) → (Nat → Int64) → β) → β} (kx_ : (β : Type) → ((Nat → Int32) → (Nat → Int32) → (Nat → Int64) → β) → (Nat → Int32) → Nat → β) (B : Bd E X cX11_tells RX11 3 0 0 0 0) (hr : Rt E X none 0 0 (fun v_ w_ => ∃ zr11_f : Nat → Int32, ∃ zr12_f : Nat → Int32, ∃ zr13_f : Nat → Int64, (∀ (β : Type) (k_ : (Nat → Int32) → (Nat → Int32) → (Nat → Int64) → β), rr β k_ = k_ zr11_f zr12_f zr13_f) ∧ v_ = none ∧ w_ = [(m, .inr (11, mkF r m_1 m_4 m_9 m_10 m_14 m_15 m_25 m_26 m_27 m_28 m_29 m_31 m_32 m_33 m_35 m_36 m_37 m_38 m_39 m_40 m_42)), ((r 11), .inl (E.2.2.1 0, 10, .inl zr11_f)), ((r 12), .inl (E.2.2.1 0, 16, .inl zr12_f)), ((r 13), .inl (E.2.2.1 3, 6, .inr (.inl zr13_f))), ((r 18), .inl (E.2.2.1 0, 16, .inl r18_f)), ((r 24), .inl (E.2.2.1 3, 6, .inr (.inl (lM r24_f))))])) (K : ∀ (pr12_f : Nat → Int32) (l1 : Nat), (l1 ≤ 8) → (∀ (β : Type) (k_ : (Nat → Int32) → (Nat → Int32) → (Nat → Int64) → β), rr β k_ = kx_ β k_ pr12_f l1) → G E X 3 [(m, .inr (11, mkF r m_1 m_4 m_9 m_10 m_14 m_15 m_25 m_26 m_27 m_28 m_29 m_31 m_32 m_33 m_35 m_36 m_37 m_38 m_39 m_40 m_42)), ((r 11), .inl (E.2.2.1 0, 10, .inl pr11_f)), ((r 12), .inl (E.2.2.1 0, 16, .inl pr12_f)), ((r 13), .inl (E.2.2.1 3, 6, .inr (.inl r13_f))), ((r 18), .inl (E.2.2.1 0, 16, .inl r18_f)), ((r 24), .inl (E.2.2.1 3, 6, .inr (.inl (lM r24_f))))] 0 0 [(0, .ref m), (1, .int (nI l1))] 176 []) : ∀ (fuel : Nat) (pr12_f : Nat → Int32) (l1 : Nat), (l1 ≤ 8) → (8 - l1) < fuel → (∀ (β : Type) (k_ : (Nat → Int32) → (Nat → Int32) → (Nat → Int64) → β), rr β k_ = lf_wr_X11_tells_111 m_14 m_15 r18_f β (kx_ β k_) fuel pr12_f l1) → G E X 3 [(m, .inr (11, mkF r m_1 m_4 m_9 m_10 m_14 m_15 m_25 m_26 m_27 m_28 m_29 m_31 m_32 m_33 m_35 m_36 m_37 m_38 m_39 m_40 m_42)), ((r 11), .inl (E.2.2.1 0, 10, .inl pr11_f)), ((r 12), .inl (E.2.2.1 0, 16, .inl pr12_f)), ((r 13), .inl (E.2.2.1 3, 6, .inr (.inl r13_f))), ((r 18), .inl (E.2.2.1 0, 16, .inl r18_f)), ((r 24), .inl (E.2.2.1 3, 6, .inr (.inl (lM r24_f))))] 0 0 [(0, .ref m), (1, .int (nI l1))] 111 [] := by
  intro fuel
  induction fuel with
  | zero => intro pr12_f l1 _ h _; exact absurd h (Nat.not_lt_zero _)
  | succ fuel ih =>
    intro pr12_f l1 hv0 hm e_
    replace e_ := fun β k_ => (e_ β k_).trans lf_wr_X11_tells_111_s
    refine g_iload_n B dX11_tells_111 rfl 1 rfl ?_
    refine g_bipush (v := 8) B dX11_tells_112 (by decide) ?_
    refine g_icmp_ge (tgt := 176) B dX11_tells_114 (by decide) (fun c114_2890 => ?_) (fun c114_2890 => ?_)
    · have hn_2891 : 8 ≤ l1 := (nI_leI (a := 8) (b := l1) (by omega) (by omega)).mp c114_2890
      replace e_ := fun β k_ => (e_ β k_).trans (if_pos hn_2891)
      exact K pr12_f l1 (by first | assumption | omega | decide | exact hCF _ (by omega)) e_
    · have hn_2892 : l1 < 8 := Nat.not_le.mp (fun q => c114_2890 ((nI_leI (a := 8) (b := l1) (by omega) (by omega)).mpr q))
      replace e_ := fun β k_ => (e_ β k_).trans (if_neg (Nat.not_le.mpr hn_2892))
      refine g_iconst (v := 0) B dX11_tells_117 (by decide) ?_
      refine g_istore_n (lv' := [(2, .int 0), (0, .ref m), (1, .int (nI l1))]) B dX11_tells_118 rfl (by decide) rfl ?_
      refine g_lvsub (lv' := [(0, .ref m), (1, .int (nI l1)), (2, .int 0)]) [1, 2, 0] rfl ?_
      refine lp_wr_X11_tells_119 E m r m_1 m_4 m_9 m_10 m_14 m_15 m_25 m_26 m_27 m_28 m_29 m_31 m_32 m_33 m_35 m_36 m_37 m_38 m_39 m_40 m_42 r11_f r12_f r13_f r18_f r24_f hb0 hb1 hb2 hb3 ha0 pr11_f l1 (by first | assumption | omega | decide | exact hCF _ (by omega)) _ B hr (fun y_2902pr12_f y_2902l2 y_2902k0 e_ => ?_) _ pr12_f 0 (by first | assumption | omega | decide | exact hCF _ (by omega)) (Nat.lt_succ_self _) e_
      show G E X 3 [(m, .inr (11, mkF r m_1 m_4 m_9 m_10 m_14 m_15 m_25 m_26 m_27 m_28 m_29 m_31 m_32 m_33 m_35 m_36 m_37 m_38 m_39 m_40 m_42)), ((r 11), .inl (E.2.2.1 0, 10, .inl pr11_f)), ((r 12), .inl (E.2.2.1 0, 16, .inl y_2902pr12_f)), ((r 13), .inl (E.2.2.1 3, 6, .inr (.inl r13_f))), ((r 18), .inl (E.2.2.1 0, 16, .inl r18_f)), ((r 24), .inl (E.2.2.1 3, 6, .inr (.inl (lM r24_f))))] 0 0 [(0, .ref m), (1, .int (nI l1)), (2, .int (nI y_2902l2))] 170 []
      refine g_iinc (v := nI (l1 + 1)) (lv' := [(1, .int (nI (l1 + 1))), (0, .ref m), (2, .int (nI y_2902l2))]) B dX11_tells_170 1 rfl (nI_add l1 1) (by decide) rfl ?_
      refine g_goto (tgt := 111) B dX11_tells_173 (by decide) ?_
      refine g_lvsub (lv' := [(0, .ref m), (1, .int (nI (l1 + 1)))]) [1, 0] rfl ?_
      exact ih y_2902pr12_f (l1 + 1) (by first | assumption | omega | decide | exact hCF _ (by omega)) (by omega) e_
theorem dX11_tells_176 : decode cX11_tells 176 = .ok (.iconst 0, 1) := by decide +kernel
theorem dX11_tells_177 : decode cX11_tells 177 = .ok (.istore_n 1, 1) := by decide +kernel
theorem dX11_tells_178 : decode cX11_tells 178 = .ok (.iload_n 1, 1) := by decide +kernel
theorem dX11_tells_179 : decode cX11_tells 179 = .ok (.bipush 6, 2) := by decide +kernel
theorem dX11_tells_181 : decode cX11_tells 181 = .ok (.if_icmp .ge 35, 3) := by decide +kernel
theorem dX11_tells_184 : decode cX11_tells 184 = .ok (.aload_n 0, 1) := by decide +kernel
theorem dX11_tells_185 : decode cX11_tells 185 = .ok (.getfield 38, 3) := by decide +kernel
theorem dX11_tells_188 : decode cX11_tells 188 = .ok (.iload_n 1, 1) := by decide +kernel
theorem dX11_tells_189 : decode cX11_tells 189 = .ok (.iload_n 1, 1) := by decide +kernel
theorem dX11_tells_190 : decode cX11_tells 190 = .ok (.iconst 3, 1) := by decide +kernel
theorem dX11_tells_191 : decode cX11_tells 191 = .ok (.idiv, 1) := by decide +kernel
theorem dX11_tells_192 : decode cX11_tells 192 = .ok (.aload_n 0, 1) := by decide +kernel
theorem dX11_tells_193 : decode cX11_tells 193 = .ok (.getfield 118, 3) := by decide +kernel
theorem dX11_tells_196 : decode cX11_tells 196 = .ok (.if_icmp .ge 12, 3) := by decide +kernel
theorem dX11_tells_208 : decode cX11_tells 208 = .ok (.lconst 0, 1) := by decide +kernel
theorem dX11_tells_209 : decode cX11_tells 209 = .ok (.lastore, 1) := by decide +kernel
theorem dX11_tells_210 : decode cX11_tells 210 = .ok (.iinc 1 1, 3) := by decide +kernel
theorem dX11_tells_213 : decode cX11_tells 213 = .ok (.goto (-35), 3) := by decide +kernel
theorem dX11_tells_199 : decode cX11_tells 199 = .ok (.aload_n 0, 1) := by decide +kernel
theorem dX11_tells_200 : decode cX11_tells 200 = .ok (.getfield 66, 3) := by decide +kernel
theorem dX11_tells_203 : decode cX11_tells 203 = .ok (.iload_n 1, 1) := by decide +kernel
theorem dX11_tells_204 : decode cX11_tells 204 = .ok (.laload, 1) := by decide +kernel
theorem dX11_tells_205 : decode cX11_tells 205 = .ok (.goto 4, 3) := by decide +kernel
set_option maxRecDepth 100000 in
def lf_wr_X11_tells_178 (m_15 : Nat) (r24_f : Nat → Nat) (β : Type) (kx_ : (Nat → Int64) → Nat → β)  : Nat → (Nat → Int64) → Nat → β
  | 0, pr13_f, l1 => kx_ pr13_f l1
  | fuel + 1, pr13_f, l1 => (if 6 ≤ l1 then (kx_ pr13_f l1) else (if m_15 ≤ (l1 / 3) then (lf_wr_X11_tells_178 m_15 r24_f β kx_ fuel (vp_updL pr13_f l1 0) (l1 + 1)) else (lf_wr_X11_tells_178 m_15 r24_f β kx_ fuel (vp_updL pr13_f l1 (lN (r24_f l1))) (l1 + 1))))
set_option maxRecDepth 100000 in
theorem lf_wr_X11_tells_178_s {m_15 : Nat} {r24_f : Nat → Nat} {β : Type} {kx_ : (Nat → Int64) → Nat → β}  {fuel : Nat} {pr13_f : Nat → Int64} {l1 : Nat} : lf_wr_X11_tells_178 m_15 r24_f β kx_  (fuel + 1) pr13_f l1 = (if 6 ≤ l1 then (kx_ pr13_f l1) else (if m_15 ≤ (l1 / 3) then (lf_wr_X11_tells_178 m_15 r24_f β kx_ fuel (vp_updL pr13_f l1 0) (l1 + 1)) else (lf_wr_X11_tells_178 m_15 r24_f β kx_ fuel (vp_updL pr13_f l1 (lN (r24_f l1))) (l1 + 1)))) := rfl
set_option maxRecDepth 100000 in
set_option maxHeartbeats 4000000 in
theorem lp_wr_X11_tells_178 (E : g_E) (m : Nat) (r : Nat → Nat) (m_1 : Nat) (m_4 : Nat) (m_9 : Nat) (m_10 : Nat) (m_14 : Nat) (m_15 : Nat) (m_25 : Int32) (m_26 : Int32) (m_27 : Int64) (m_28 : Nat) (m_29 : Nat) (m_31 : Nat) (m_32 : Nat) (m_33 : Nat) (m_35 : Nat) (m_36 : Nat) (m_37 : Int32) (m_38 : Nat) (m_39 : Int32) (m_40 : Int32) (m_42 : Nat) (r11_f : Nat → Int32) (r12_f : Nat → Int32) (r13_f : Nat → Int64) (r18_f : Nat → Int32) (r24_f : Nat → Nat) (hb0 : m_14 ≤ 255) (hb1 : m_15 ≤ 2) (hb2 : m_38 ≤ 65535) (hb3 : m_36 ≤ 65535) (ha0 : ∀ j, j < 6 → r24_f j ≤ 40000000000) (pr11_f : Nat → Int32) (pr12_f : Nat → Int32)  {X : g_X} {rr : (β : Type) → ((Nat → Int32) → (Nat → Int32) → (Nat → Int64) → β) → β} (kx_ : (β : Type) → ((Nat → Int32) → (Nat → Int32) → (Nat → Int64) → β) → (Nat → Int64) → Nat → β) (B : Bd E X cX11_tells RX11 3 0 0 0 0) (hr : Rt E X none 0 0 (fun v_ w_ => ∃ zr11_f : Nat → Int32, ∃ zr12_f : Nat → Int32, ∃ zr13_f : Nat → Int64, (∀ (β : Type) (k_ : (Nat → Int32) → (Nat → Int32) → (Nat → Int64) → β), rr β k_ = k_ zr11_f zr12_f zr13_f) ∧ v_ = none ∧ w_ = [(m, .inr (11, mkF r m_1 m_4 m_9 m_10 m_14 m_15 m_25 m_26 m_27 m_28 m_29 m_31 m_32 m_33 m_35 m_36 m_37 m_38 m_39 m_40 m_42)), ((r 11), .inl (E.2.2.1 0, 10, .inl zr11_f)), ((r 12), .inl (E.2.2.1 0, 16, .inl zr12_f)), ((r 13), .inl (E.2.2.1 3, 6, .inr (.inl zr13_f))), ((r 18), .inl (E.2.2.1 0, 16, .inl r18_f)), ((r 24), .inl (E.2.2.1 3, 6, .inr (.inl (lM r24_f))))])) (K : ∀ (pr13_f : Nat → Int64) (l1 : Nat), (l1 ≤ 6) → (∀ (β : Type) (k_ : (Nat → Int32) → (Nat → Int32) → (Nat → Int64) → β), rr β k_ = kx_ β k_ pr13_f l1) → G E X 3 [(m, .inr (11, mkF r m_1 m_4 m_9 m_10 m_14 m_15 m_25 m_26 m_27 m_28 m_29 m_31 m_32 m_33 m_35 m_36 m_37 m_38 m_39 m_40 m_42)), ((r 11), .inl (E.2.2.1 0, 10, .inl pr11_f)), ((r 12), .inl (E.2.2.1 0, 16, .inl pr12_f)), ((r 13), .inl (E.2.2.1 3, 6, .inr (.inl pr13_f))), ((r 18), .inl (E.2.2.1 0, 16, .inl r18_f)), ((r 24), .inl (E.2.2.1 3, 6, .inr (.inl (lM r24_f))))] 0 0 [(0, .ref m), (1, .int (nI l1))] 216 []) : ∀ (fuel : Nat) (pr13_f : Nat → Int64) (l1 : Nat), (l1 ≤ 6) → (6 - l1) < fuel → (∀ (β : Type) (k_ : (Nat → Int32) → (Nat → Int32) → (Nat → Int64) → β), rr β k_ = lf_wr_X11_tells_178 m_15 r24_f β (kx_ β k_) fuel pr13_f l1) → G E X 3 [(m, .inr (11, mkF r m_1 m_4 m_9 m_10 m_14 m_15 m_25 m_26 m_27 m_28 m_29 m_31 m_32 m_33 m_35 m_36 m_37 m_38 m_39 m_40 m_42)), ((r 11), .inl (E.2.2.1 0, 10, .inl pr11_f)), ((r 12), .inl (E.2.2.1 0, 16, .inl pr12_f)), ((r 13), .inl (E.2.2.1 3, 6, .inr (.inl pr13_f))), ((r 18), .inl (E.2.2.1 0, 16, .inl r18_f)), ((r 24), .inl (E.2.2.1 3, 6, .inr (.inl (lM r24_f))))] 0 0 [(0, .ref m), (1, .int (nI l1))] 178 [] := by
  intro fuel
  induction fuel with
  | zero => intro pr13_f l1 _ h _; exact absurd h (Nat.not_lt_zero _)
  | succ fuel ih =>
    intro pr13_f l1 hv0 hm e_
    replace e_ := fun β k_ => (e_ β k_).trans lf_wr_X11_tells_178_s
    refine g_iload_n B dX11_tells_178 rfl 1 rfl ?_
    refine g_bipush (v := 6) B dX11_tells_179 (by decide) ?_
    refine g_icmp_ge (tgt := 216) B dX11_tells_181 (by decide) (fun c181_2904 => ?_) (fun c181_2904 => ?_)
    · have hn_2905 : 6 ≤ l1 := (nI_leI (a := 6) (b := l1) (by omega) (by omega)).mp c181_2904
      replace e_ := fun β k_ => (e_ β k_).trans (if_pos hn_2905)
      exact K pr13_f l1 (by first | assumption | omega | decide | exact hCF _ (by omega)) e_
    · have hn_2906 : l1 < 6 := Nat.not_le.mp (fun q => c181_2904 ((nI_leI (a := 6) (b := l1) (by omega) (by omega)).mpr q))
      replace e_ := fun β k_ => (e_ β k_).trans (if_neg (Nat.not_le.mpr hn_2906))
      refine g_aload_n B dX11_tells_184 rfl 0 rfl ?_
      refine g_get B 0 13 fl_X11_38 rfl mf_13 dX11_tells_185 ?_
      refine g_iload_n B dX11_tells_188 rfl 1 rfl ?_
      refine g_iload_n B dX11_tells_189 rfl 1 rfl ?_
      refine g_iconst (v := 3) B dX11_tells_190 (by decide) ?_
      refine g_idiv B dX11_tells_191 (by decide) ?_
      refine g_ri (x' := nI (l1 / 3)) (pk_div (a := l1) (d := 3) (by omega) (by decide) (by decide)) ?_
      refine g_aload_n B dX11_tells_192 rfl 0 rfl ?_
      refine g_get B 0 15 fl_X11_118 rfl mf_15 dX11_tells_193 ?_
      refine g_icmp_ge (tgt := 208) B dX11_tells_196 (by decide) (fun c196_2907 => ?_) (fun c196_2907 => ?_)
      · have hn_2908 : m_15 ≤ (l1 / 3) := (nI_leI (a := m_15) (b := (l1 / 3)) (by omega) (by omega)).mp c196_2907
        replace e_ := fun β k_ => (e_ β k_).trans (if_pos hn_2908)
        refine g_lconst (v := 0) B dX11_tells_208 (by decide) ?_
        refine g_last (ws' := [(m, .inr (11, mkF r m_1 m_4 m_9 m_10 m_14 m_15 m_25 m_26 m_27 m_28 m_29 m_31 m_32 m_33 m_35 m_36 m_37 m_38 m_39 m_40 m_42)), ((r 11), .inl (E.2.2.1 0, 10, .inl pr11_f)), ((r 12), .inl (E.2.2.1 0, 16, .inl pr12_f)), ((r 13), .inl (E.2.2.1 3, 6, .inr (.inl (vp_updL pr13_f l1 0)))), ((r 18), .inl (E.2.2.1 0, 16, .inl r18_f)), ((r 24), .inl (E.2.2.1 3, 6, .inr (.inl (lM r24_f))))]) B 3 rfl (vp_in_nI (by omega) (by omega)) (by rw [nI_clamp (n := l1) (by omega)]; rfl) dX11_tells_209 ?_
        refine g_iinc (v := nI (l1 + 1)) (lv' := [(1, .int (nI (l1 + 1))), (0, .ref m)]) B dX11_tells_210 1 rfl (nI_add l1 1) (by decide) rfl ?_
        refine g_goto (tgt := 178) B dX11_tells_213 (by decide) ?_
        refine g_lvsub (lv' := [(0, .ref m), (1, .int (nI (l1 + 1)))]) [1, 0] rfl ?_
        exact ih (vp_updL pr13_f l1 0) (l1 + 1) (by first | assumption | omega | decide | exact hCF _ (by omega)) (by omega) e_
      · have hn_2909 : (l1 / 3) < m_15 := Nat.not_le.mp (fun q => c196_2907 ((nI_leI (a := m_15) (b := (l1 / 3)) (by omega) (by omega)).mpr q))
        replace e_ := fun β k_ => (e_ β k_).trans (if_neg (Nat.not_le.mpr hn_2909))
        refine g_aload_n B dX11_tells_199 rfl 0 rfl ?_
        refine g_get B 0 24 fl_X11_66 rfl mf_24 dX11_tells_200 ?_
        refine g_iload_n B dX11_tells_203 rfl 1 rfl ?_
        refine g_lald B 5 rfl (vp_in_nI (by omega) (by omega)) dX11_tells_204 ?_
        refine g_rl (x' := lN (r24_f l1)) (lM_at (f := r24_f) (i := l1) (by omega)) ?_
        have ha_2910 := ha0 l1 (by omega)
        refine g_goto (tgt := 209) B dX11_tells_205 (by decide) ?_
        refine g_last (ws' := [(m, .inr (11, mkF r m_1 m_4 m_9 m_10 m_14 m_15 m_25 m_26 m_27 m_28 m_29 m_31 m_32 m_33 m_35 m_36 m_37 m_38 m_39 m_40 m_42)), ((r 11), .inl (E.2.2.1 0, 10, .inl pr11_f)), ((r 12), .inl (E.2.2.1 0, 16, .inl pr12_f)), ((r 13), .inl (E.2.2.1 3, 6, .inr (.inl (vp_updL pr13_f l1 (lN (r24_f l1)))))), ((r 18), .inl (E.2.2.1 0, 16, .inl r18_f)), ((r 24), .inl (E.2.2.1 3, 6, .inr (.inl (lM r24_f))))]) B 3 rfl (vp_in_nI (by omega) (by omega)) (by rw [nI_clamp (n := l1) (by omega)]; rfl) dX11_tells_209 ?_
        refine g_iinc (v := nI (l1 + 1)) (lv' := [(1, .int (nI (l1 + 1))), (0, .ref m)]) B dX11_tells_210 1 rfl (nI_add l1 1) (by decide) rfl ?_
        refine g_goto (tgt := 178) B dX11_tells_213 (by decide) ?_
        refine g_lvsub (lv' := [(0, .ref m), (1, .int (nI (l1 + 1)))]) [1, 0] rfl ?_
        exact ih (vp_updL pr13_f l1 (lN (r24_f l1))) (l1 + 1) (by first | assumption | omega | decide | exact hCF _ (by omega)) (by omega) e_
theorem dX11_tells_216 : decode cX11_tells 216 = .ok (.return_, 1) := by decide +kernel
set_option maxRecDepth 100000 in
def fn_wr_X11_tells (m_14 : Nat) (m_15 : Nat) (m_25 : Int32) (m_26 : Int32) (m_27 : Int64) (m_36 : Nat) (m_37 : Int32) (m_38 : Nat) (m_39 : Int32) (m_40 : Int32) (r11_f : Nat → Int32) (r12_f : Nat → Int32) (r13_f : Nat → Int64) (r18_f : Nat → Int32) (r24_f : Nat → Nat) (β : Type) (k_ : (Nat → Int32) → (Nat → Int32) → (Nat → Int64) → β) : β := (lf_wr_X11_tells_111 m_14 m_15 r18_f β (fun y_2903pr12_f y_2903l1 => (lf_wr_X11_tells_178 m_15 r24_f β (fun y_2911pr13_f y_2911l1 => (k_ (upd (upd (upd (upd (upd (upd (upd (upd (upd (upd r11_f 0 (nI (1 + ((m_39).toBitVec.toNat % 2)))) 1 (nI m_38)) 2 m_39) 3 m_37) 4 (nI m_14)) 5 (nI m_36)) 6 m_25) 7 m_26) 8 (Int64.toInt32 m_27)) 9 m_40) y_2903pr12_f y_2911pr13_f)) ((6 - 0) + 1) r13_f 0)) ((8 - 0) + 1) r12_f 0)
set_option maxRecDepth 100000 in
theorem fn_wr_X11_tells_s {m_14 : Nat} {m_15 : Nat} {m_25 : Int32} {m_26 : Int32} {m_27 : Int64} {m_36 : Nat} {m_37 : Int32} {m_38 : Nat} {m_39 : Int32} {m_40 : Int32} {r11_f : Nat → Int32} {r12_f : Nat → Int32} {r13_f : Nat → Int64} {r18_f : Nat → Int32} {r24_f : Nat → Nat} {β : Type} {k_ : (Nat → Int32) → (Nat → Int32) → (Nat → Int64) → β} : fn_wr_X11_tells m_14 m_15 m_25 m_26 m_27 m_36 m_37 m_38 m_39 m_40 r11_f r12_f r13_f r18_f r24_f β k_ = (lf_wr_X11_tells_111 m_14 m_15 r18_f β (fun y_2903pr12_f y_2903l1 => (lf_wr_X11_tells_178 m_15 r24_f β (fun y_2911pr13_f y_2911l1 => (k_ (upd (upd (upd (upd (upd (upd (upd (upd (upd (upd r11_f 0 (nI (1 + ((m_39).toBitVec.toNat % 2)))) 1 (nI m_38)) 2 m_39) 3 m_37) 4 (nI m_14)) 5 (nI m_36)) 6 m_25) 7 m_26) 8 (Int64.toInt32 m_27)) 9 m_40) y_2903pr12_f y_2911pr13_f)) ((6 - 0) + 1) r13_f 0)) ((8 - 0) + 1) r12_f 0) := rfl
set_option maxRecDepth 100000 in
set_option maxHeartbeats 4000000 in
theorem wr_X11_tells (E : g_E) (m : Nat) (r : Nat → Nat) (m_1 : Nat) (m_4 : Nat) (m_9 : Nat) (m_10 : Nat) (m_14 : Nat) (m_15 : Nat) (m_25 : Int32) (m_26 : Int32) (m_27 : Int64) (m_28 : Nat) (m_29 : Nat) (m_31 : Nat) (m_32 : Nat) (m_33 : Nat) (m_35 : Nat) (m_36 : Nat) (m_37 : Int32) (m_38 : Nat) (m_39 : Int32) (m_40 : Int32) (m_42 : Nat) (r11_f : Nat → Int32) (r12_f : Nat → Int32) (r13_f : Nat → Int64) (r18_f : Nat → Int32) (r24_f : Nat → Nat) (hb0 : m_14 ≤ 255) (hb1 : m_15 ≤ 2) (hb2 : m_38 ≤ 65535) (hb3 : m_36 ≤ 65535) (ha0 : ∀ j, j < 6 → r24_f j ≤ 40000000000) : Ev E MX11_tells 0 0 0 0 [.ref m] [(m, .inr (11, mkF r m_1 m_4 m_9 m_10 m_14 m_15 m_25 m_26 m_27 m_28 m_29 m_31 m_32 m_33 m_35 m_36 m_37 m_38 m_39 m_40 m_42)), ((r 11), .inl (E.2.2.1 0, 10, .inl r11_f)), ((r 12), .inl (E.2.2.1 0, 16, .inl r12_f)), ((r 13), .inl (E.2.2.1 3, 6, .inr (.inl r13_f))), ((r 18), .inl (E.2.2.1 0, 16, .inl r18_f)), ((r 24), .inl (E.2.2.1 3, 6, .inr (.inl (lM r24_f))))] (fun v_ w_ => ∃ zr11_f : Nat → Int32, ∃ zr12_f : Nat → Int32, ∃ zr13_f : Nat → Int64, (∀ (β : Type) (k_ : (Nat → Int32) → (Nat → Int32) → (Nat → Int64) → β), fn_wr_X11_tells m_14 m_15 m_25 m_26 m_27 m_36 m_37 m_38 m_39 m_40 r11_f r12_f r13_f r18_f r24_f β k_ = k_ zr11_f zr12_f zr13_f) ∧ v_ = none ∧ w_ = [(m, .inr (11, mkF r m_1 m_4 m_9 m_10 m_14 m_15 m_25 m_26 m_27 m_28 m_29 m_31 m_32 m_33 m_35 m_36 m_37 m_38 m_39 m_40 m_42)), ((r 11), .inl (E.2.2.1 0, 10, .inl zr11_f)), ((r 12), .inl (E.2.2.1 0, 16, .inl zr12_f)), ((r 13), .inl (E.2.2.1 3, 6, .inr (.inl zr13_f))), ((r 18), .inl (E.2.2.1 0, 16, .inl r18_f)), ((r 24), .inl (E.2.2.1 3, 6, .inr (.inl (lM r24_f))))]) := by
  refine Ev.intro (by decide) (Nat.le_of_ble_eq_true rfl) ?_
  intro X B hr hI
  have B : Bd E X cX11_tells RX11 3 0 0 0 0 := B
  have hr : Rt E X none 0 0 (fun v_ w_ => ∃ zr11_f : Nat → Int32, ∃ zr12_f : Nat → Int32, ∃ zr13_f : Nat → Int64, (∀ (β : Type) (k_ : (Nat → Int32) → (Nat → Int32) → (Nat → Int64) → β), fn_wr_X11_tells m_14 m_15 m_25 m_26 m_27 m_36 m_37 m_38 m_39 m_40 r11_f r12_f r13_f r18_f r24_f β k_ = k_ zr11_f zr12_f zr13_f) ∧ v_ = none ∧ w_ = [(m, .inr (11, mkF r m_1 m_4 m_9 m_10 m_14 m_15 m_25 m_26 m_27 m_28 m_29 m_31 m_32 m_33 m_35 m_36 m_37 m_38 m_39 m_40 m_42)), ((r 11), .inl (E.2.2.1 0, 10, .inl zr11_f)), ((r 12), .inl (E.2.2.1 0, 16, .inl zr12_f)), ((r 13), .inl (E.2.2.1 3, 6, .inr (.inl zr13_f))), ((r 18), .inl (E.2.2.1 0, 16, .inl r18_f)), ((r 24), .inl (E.2.2.1 3, 6, .inr (.inl (lM r24_f))))]) := hr
  have e_ := fun (β : Type) (k_ : (Nat → Int32) → (Nat → Int32) → (Nat → Int64) → β) => fn_wr_X11_tells_s (β := β) (k_ := k_) (m_14 := m_14) (m_15 := m_15) (m_25 := m_25) (m_26 := m_26) (m_27 := m_27) (m_36 := m_36) (m_37 := m_37) (m_38 := m_38) (m_39 := m_39) (m_40 := m_40) (r11_f := r11_f) (r12_f := r12_f) (r13_f := r13_f) (r18_f := r18_f) (r24_f := r24_f)
  show G E X 3 [(m, .inr (11, mkF r m_1 m_4 m_9 m_10 m_14 m_15 m_25 m_26 m_27 m_28 m_29 m_31 m_32 m_33 m_35 m_36 m_37 m_38 m_39 m_40 m_42)), ((r 11), .inl (E.2.2.1 0, 10, .inl r11_f)), ((r 12), .inl (E.2.2.1 0, 16, .inl r12_f)), ((r 13), .inl (E.2.2.1 3, 6, .inr (.inl r13_f))), ((r 18), .inl (E.2.2.1 0, 16, .inl r18_f)), ((r 24), .inl (E.2.2.1 3, 6, .inr (.inl (lM r24_f))))] 0 0 [(0, .ref m)] 0 []
  refine g_aload_n B dX11_tells_0 rfl 0 rfl ?_
  refine g_get B 0 11 fl_X11_32 rfl mf_11 dX11_tells_1 ?_
  refine g_iconst (v := 0) B dX11_tells_4 (by decide) ?_
  refine g_iconst (v := 1) B dX11_tells_5 (by decide) ?_
  refine g_aload_n B dX11_tells_6 rfl 0 rfl ?_
  refine g_get B 0 39 fl_X11_206 rfl mf_39 dX11_tells_7 ?_
  refine g_iconst (v := 1) B dX11_tells_10 (by decide) ?_
  refine g_iand B dX11_tells_11 ?_
  refine g_ri (x' := nI ((m_39).toBitVec.toNat % 2)) (pk_and m_39 (m := 1) 1 (by decide)) ?_
  refine g_iadd B dX11_tells_12 ?_
  refine g_ri (x' := nI (1 + ((m_39).toBitVec.toNat % 2))) (nI_add 1 ((m_39).toBitVec.toNat % 2)) ?_
  refine g_iast (ws' := [(m, .inr (11, mkF r m_1 m_4 m_9 m_10 m_14 m_15 m_25 m_26 m_27 m_28 m_29 m_31 m_32 m_33 m_35 m_36 m_37 m_38 m_39 m_40 m_42)), ((r 11), .inl (E.2.2.1 0, 10, .inl (upd r11_f 0 (nI (1 + ((m_39).toBitVec.toNat % 2)))))), ((r 12), .inl (E.2.2.1 0, 16, .inl r12_f)), ((r 13), .inl (E.2.2.1 3, 6, .inr (.inl r13_f))), ((r 18), .inl (E.2.2.1 0, 16, .inl r18_f)), ((r 24), .inl (E.2.2.1 3, 6, .inr (.inl (lM r24_f))))]) B 1 rfl (by unfold vp_in; decide) (by rw [show Int32.toNatClampNeg 0 = 0 from by decide]; rfl) dX11_tells_13 ?_
  refine g_aload_n B dX11_tells_14 rfl 0 rfl ?_
  refine g_get B 0 11 fl_X11_32 rfl mf_11 dX11_tells_15 ?_
  refine g_iconst (v := 1) B dX11_tells_18 (by decide) ?_
  refine g_aload_n B dX11_tells_19 rfl 0 rfl ?_
  refine g_get B 0 38 fl_X11_189 rfl mf_38 dX11_tells_20 ?_
  refine g_iast (ws' := [(m, .inr (11, mkF r m_1 m_4 m_9 m_10 m_14 m_15 m_25 m_26 m_27 m_28 m_29 m_31 m_32 m_33 m_35 m_36 m_37 m_38 m_39 m_40 m_42)), ((r 11), .inl (E.2.2.1 0, 10, .inl (upd (upd r11_f 0 (nI (1 + ((m_39).toBitVec.toNat % 2)))) 1 (nI m_38)))), ((r 12), .inl (E.2.2.1 0, 16, .inl r12_f)), ((r 13), .inl (E.2.2.1 3, 6, .inr (.inl r13_f))), ((r 18), .inl (E.2.2.1 0, 16, .inl r18_f)), ((r 24), .inl (E.2.2.1 3, 6, .inr (.inl (lM r24_f))))]) B 1 rfl (by unfold vp_in; decide) (by rw [show Int32.toNatClampNeg 1 = 1 from by decide]; rfl) dX11_tells_23 ?_
  refine g_aload_n B dX11_tells_24 rfl 0 rfl ?_
  refine g_get B 0 11 fl_X11_32 rfl mf_11 dX11_tells_25 ?_
  refine g_iconst (v := 2) B dX11_tells_28 (by decide) ?_
  refine g_aload_n B dX11_tells_29 rfl 0 rfl ?_
  refine g_get B 0 39 fl_X11_206 rfl mf_39 dX11_tells_30 ?_
  refine g_iast (ws' := [(m, .inr (11, mkF r m_1 m_4 m_9 m_10 m_14 m_15 m_25 m_26 m_27 m_28 m_29 m_31 m_32 m_33 m_35 m_36 m_37 m_38 m_39 m_40 m_42)), ((r 11), .inl (E.2.2.1 0, 10, .inl (upd (upd (upd r11_f 0 (nI (1 + ((m_39).toBitVec.toNat % 2)))) 1 (nI m_38)) 2 m_39))), ((r 12), .inl (E.2.2.1 0, 16, .inl r12_f)), ((r 13), .inl (E.2.2.1 3, 6, .inr (.inl r13_f))), ((r 18), .inl (E.2.2.1 0, 16, .inl r18_f)), ((r 24), .inl (E.2.2.1 3, 6, .inr (.inl (lM r24_f))))]) B 1 rfl (by unfold vp_in; decide) (by rw [show Int32.toNatClampNeg 2 = 2 from by decide]; rfl) dX11_tells_33 ?_
  refine g_aload_n B dX11_tells_34 rfl 0 rfl ?_
  refine g_get B 0 11 fl_X11_32 rfl mf_11 dX11_tells_35 ?_
  refine g_iconst (v := 3) B dX11_tells_38 (by decide) ?_
  refine g_aload_n B dX11_tells_39 rfl 0 rfl ?_
  refine g_get B 0 37 fl_X11_196 rfl mf_37 dX11_tells_40 ?_
  refine g_iast (ws' := [(m, .inr (11, mkF r m_1 m_4 m_9 m_10 m_14 m_15 m_25 m_26 m_27 m_28 m_29 m_31 m_32 m_33 m_35 m_36 m_37 m_38 m_39 m_40 m_42)), ((r 11), .inl (E.2.2.1 0, 10, .inl (upd (upd (upd (upd r11_f 0 (nI (1 + ((m_39).toBitVec.toNat % 2)))) 1 (nI m_38)) 2 m_39) 3 m_37))), ((r 12), .inl (E.2.2.1 0, 16, .inl r12_f)), ((r 13), .inl (E.2.2.1 3, 6, .inr (.inl r13_f))), ((r 18), .inl (E.2.2.1 0, 16, .inl r18_f)), ((r 24), .inl (E.2.2.1 3, 6, .inr (.inl (lM r24_f))))]) B 1 rfl (by unfold vp_in; decide) (by rw [show Int32.toNatClampNeg 3 = 3 from by decide]; rfl) dX11_tells_43 ?_
  refine g_aload_n B dX11_tells_44 rfl 0 rfl ?_
  refine g_get B 0 11 fl_X11_32 rfl mf_11 dX11_tells_45 ?_
  refine g_iconst (v := 4) B dX11_tells_48 (by decide) ?_
  refine g_aload_n B dX11_tells_49 rfl 0 rfl ?_
  refine g_get B 0 14 fl_X11_121 rfl mf_14 dX11_tells_50 ?_
  refine g_iast (ws' := [(m, .inr (11, mkF r m_1 m_4 m_9 m_10 m_14 m_15 m_25 m_26 m_27 m_28 m_29 m_31 m_32 m_33 m_35 m_36 m_37 m_38 m_39 m_40 m_42)), ((r 11), .inl (E.2.2.1 0, 10, .inl (upd (upd (upd (upd (upd r11_f 0 (nI (1 + ((m_39).toBitVec.toNat % 2)))) 1 (nI m_38)) 2 m_39) 3 m_37) 4 (nI m_14)))), ((r 12), .inl (E.2.2.1 0, 16, .inl r12_f)), ((r 13), .inl (E.2.2.1 3, 6, .inr (.inl r13_f))), ((r 18), .inl (E.2.2.1 0, 16, .inl r18_f)), ((r 24), .inl (E.2.2.1 3, 6, .inr (.inl (lM r24_f))))]) B 1 rfl (by unfold vp_in; decide) (by rw [show Int32.toNatClampNeg 4 = 4 from by decide]; rfl) dX11_tells_53 ?_
  refine g_aload_n B dX11_tells_54 rfl 0 rfl ?_
  refine g_get B 0 11 fl_X11_32 rfl mf_11 dX11_tells_55 ?_
  refine g_iconst (v := 5) B dX11_tells_58 (by decide) ?_
  refine g_aload_n B dX11_tells_59 rfl 0 rfl ?_
  refine g_get B 0 36 fl_X11_203 rfl mf_36 dX11_tells_60 ?_
  refine g_iast (ws' := [(m, .inr (11, mkF r m_1 m_4 m_9 m_10 m_14 m_15 m_25 m_26 m_27 m_28 m_29 m_31 m_32 m_33 m_35 m_36 m_37 m_38 m_39 m_40 m_42)), ((r 11), .inl (E.2.2.1 0, 10, .inl (upd (upd (upd (upd (upd (upd r11_f 0 (nI (1 + ((m_39).toBitVec.toNat % 2)))) 1 (nI m_38)) 2 m_39) 3 m_37) 4 (nI m_14)) 5 (nI m_36)))), ((r 12), .inl (E.2.2.1 0, 16, .inl r12_f)), ((r 13), .inl (E.2.2.1 3, 6, .inr (.inl r13_f))), ((r 18), .inl (E.2.2.1 0, 16, .inl r18_f)), ((r 24), .inl (E.2.2.1 3, 6, .inr (.inl (lM r24_f))))]) B 1 rfl (by unfold vp_in; decide) (by rw [show Int32.toNatClampNeg 5 = 5 from by decide]; rfl) dX11_tells_63 ?_
  refine g_aload_n B dX11_tells_64 rfl 0 rfl ?_
  refine g_get B 0 11 fl_X11_32 rfl mf_11 dX11_tells_65 ?_
  refine g_bipush (v := 6) B dX11_tells_68 (by decide) ?_
  refine g_aload_n B dX11_tells_70 rfl 0 rfl ?_
  refine g_get B 0 25 fl_X11_103 rfl mf_25 dX11_tells_71 ?_
  refine g_iast (ws' := [(m, .inr (11, mkF r m_1 m_4 m_9 m_10 m_14 m_15 m_25 m_26 m_27 m_28 m_29 m_31 m_32 m_33 m_35 m_36 m_37 m_38 m_39 m_40 m_42)), ((r 11), .inl (E.2.2.1 0, 10, .inl (upd (upd (upd (upd (upd (upd (upd r11_f 0 (nI (1 + ((m_39).toBitVec.toNat % 2)))) 1 (nI m_38)) 2 m_39) 3 m_37) 4 (nI m_14)) 5 (nI m_36)) 6 m_25))), ((r 12), .inl (E.2.2.1 0, 16, .inl r12_f)), ((r 13), .inl (E.2.2.1 3, 6, .inr (.inl r13_f))), ((r 18), .inl (E.2.2.1 0, 16, .inl r18_f)), ((r 24), .inl (E.2.2.1 3, 6, .inr (.inl (lM r24_f))))]) B 1 rfl (by unfold vp_in; decide) (by rw [show Int32.toNatClampNeg 6 = 6 from by decide]; rfl) dX11_tells_74 ?_
  refine g_aload_n B dX11_tells_75 rfl 0 rfl ?_
  refine g_get B 0 11 fl_X11_32 rfl mf_11 dX11_tells_76 ?_
  refine g_bipush (v := 7) B dX11_tells_79 (by decide) ?_
  refine g_aload_n B dX11_tells_81 rfl 0 rfl ?_
  refine g_get B 0 26 fl_X11_107 rfl mf_26 dX11_tells_82 ?_
  refine g_iast (ws' := [(m, .inr (11, mkF r m_1 m_4 m_9 m_10 m_14 m_15 m_25 m_26 m_27 m_28 m_29 m_31 m_32 m_33 m_35 m_36 m_37 m_38 m_39 m_40 m_42)), ((r 11), .inl (E.2.2.1 0, 10, .inl (upd (upd (upd (upd (upd (upd (upd (upd r11_f 0 (nI (1 + ((m_39).toBitVec.toNat % 2)))) 1 (nI m_38)) 2 m_39) 3 m_37) 4 (nI m_14)) 5 (nI m_36)) 6 m_25) 7 m_26))), ((r 12), .inl (E.2.2.1 0, 16, .inl r12_f)), ((r 13), .inl (E.2.2.1 3, 6, .inr (.inl r13_f))), ((r 18), .inl (E.2.2.1 0, 16, .inl r18_f)), ((r 24), .inl (E.2.2.1 3, 6, .inr (.inl (lM r24_f))))]) B 1 rfl (by unfold vp_in; decide) (by rw [show Int32.toNatClampNeg 7 = 7 from by decide]; rfl) dX11_tells_85 ?_
  refine g_aload_n B dX11_tells_86 rfl 0 rfl ?_
  refine g_get B 0 11 fl_X11_32 rfl mf_11 dX11_tells_87 ?_
  refine g_bipush (v := 8) B dX11_tells_90 (by decide) ?_
  refine g_aload_n B dX11_tells_92 rfl 0 rfl ?_
  refine g_get B 0 27 fl_X11_110 rfl mf_27 dX11_tells_93 ?_
  refine g_l2i B dX11_tells_96 ?_
  refine g_iast (ws' := [(m, .inr (11, mkF r m_1 m_4 m_9 m_10 m_14 m_15 m_25 m_26 m_27 m_28 m_29 m_31 m_32 m_33 m_35 m_36 m_37 m_38 m_39 m_40 m_42)), ((r 11), .inl (E.2.2.1 0, 10, .inl (upd (upd (upd (upd (upd (upd (upd (upd (upd r11_f 0 (nI (1 + ((m_39).toBitVec.toNat % 2)))) 1 (nI m_38)) 2 m_39) 3 m_37) 4 (nI m_14)) 5 (nI m_36)) 6 m_25) 7 m_26) 8 (Int64.toInt32 m_27)))), ((r 12), .inl (E.2.2.1 0, 16, .inl r12_f)), ((r 13), .inl (E.2.2.1 3, 6, .inr (.inl r13_f))), ((r 18), .inl (E.2.2.1 0, 16, .inl r18_f)), ((r 24), .inl (E.2.2.1 3, 6, .inr (.inl (lM r24_f))))]) B 1 rfl (by unfold vp_in; decide) (by rw [show Int32.toNatClampNeg 8 = 8 from by decide]; rfl) dX11_tells_97 ?_
  refine g_aload_n B dX11_tells_98 rfl 0 rfl ?_
  refine g_get B 0 11 fl_X11_32 rfl mf_11 dX11_tells_99 ?_
  refine g_bipush (v := 9) B dX11_tells_102 (by decide) ?_
  refine g_aload_n B dX11_tells_104 rfl 0 rfl ?_
  refine g_get B 0 40 fl_X11_243 rfl mf_40 dX11_tells_105 ?_
  refine g_iast (ws' := [(m, .inr (11, mkF r m_1 m_4 m_9 m_10 m_14 m_15 m_25 m_26 m_27 m_28 m_29 m_31 m_32 m_33 m_35 m_36 m_37 m_38 m_39 m_40 m_42)), ((r 11), .inl (E.2.2.1 0, 10, .inl (upd (upd (upd (upd (upd (upd (upd (upd (upd (upd r11_f 0 (nI (1 + ((m_39).toBitVec.toNat % 2)))) 1 (nI m_38)) 2 m_39) 3 m_37) 4 (nI m_14)) 5 (nI m_36)) 6 m_25) 7 m_26) 8 (Int64.toInt32 m_27)) 9 m_40))), ((r 12), .inl (E.2.2.1 0, 16, .inl r12_f)), ((r 13), .inl (E.2.2.1 3, 6, .inr (.inl r13_f))), ((r 18), .inl (E.2.2.1 0, 16, .inl r18_f)), ((r 24), .inl (E.2.2.1 3, 6, .inr (.inl (lM r24_f))))]) B 1 rfl (by unfold vp_in; decide) (by rw [show Int32.toNatClampNeg 9 = 9 from by decide]; rfl) dX11_tells_108 ?_
  refine g_iconst (v := 0) B dX11_tells_109 (by decide) ?_
  refine g_istore_n (lv' := [(1, .int 0), (0, .ref m)]) B dX11_tells_110 rfl (by decide) rfl ?_
  refine g_lvsub (lv' := [(0, .ref m), (1, .int 0)]) [1, 0] rfl ?_
  refine lp_wr_X11_tells_111 E m r m_1 m_4 m_9 m_10 m_14 m_15 m_25 m_26 m_27 m_28 m_29 m_31 m_32 m_33 m_35 m_36 m_37 m_38 m_39 m_40 m_42 r11_f r12_f r13_f r18_f r24_f hb0 hb1 hb2 hb3 ha0 (upd (upd (upd (upd (upd (upd (upd (upd (upd (upd r11_f 0 (nI (1 + ((m_39).toBitVec.toNat % 2)))) 1 (nI m_38)) 2 m_39) 3 m_37) 4 (nI m_14)) 5 (nI m_36)) 6 m_25) 7 m_26) 8 (Int64.toInt32 m_27)) 9 m_40)  _ B hr (fun y_2903pr12_f y_2903l1 y_2903k0 e_ => ?_) _ r12_f 0 (by first | assumption | omega | decide | exact hCF _ (by omega)) (Nat.lt_succ_self _) e_
  show G E X 3 [(m, .inr (11, mkF r m_1 m_4 m_9 m_10 m_14 m_15 m_25 m_26 m_27 m_28 m_29 m_31 m_32 m_33 m_35 m_36 m_37 m_38 m_39 m_40 m_42)), ((r 11), .inl (E.2.2.1 0, 10, .inl (upd (upd (upd (upd (upd (upd (upd (upd (upd (upd r11_f 0 (nI (1 + ((m_39).toBitVec.toNat % 2)))) 1 (nI m_38)) 2 m_39) 3 m_37) 4 (nI m_14)) 5 (nI m_36)) 6 m_25) 7 m_26) 8 (Int64.toInt32 m_27)) 9 m_40))), ((r 12), .inl (E.2.2.1 0, 16, .inl y_2903pr12_f)), ((r 13), .inl (E.2.2.1 3, 6, .inr (.inl r13_f))), ((r 18), .inl (E.2.2.1 0, 16, .inl r18_f)), ((r 24), .inl (E.2.2.1 3, 6, .inr (.inl (lM r24_f))))] 0 0 [(0, .ref m), (1, .int (nI y_2903l1))] 176 []
  refine g_iconst (v := 0) B dX11_tells_176 (by decide) ?_
  refine g_istore_n (lv' := [(1, .int 0), (0, .ref m)]) B dX11_tells_177 rfl (by decide) rfl ?_
  refine g_lvsub (lv' := [(0, .ref m), (1, .int 0)]) [1, 0] rfl ?_
  refine lp_wr_X11_tells_178 E m r m_1 m_4 m_9 m_10 m_14 m_15 m_25 m_26 m_27 m_28 m_29 m_31 m_32 m_33 m_35 m_36 m_37 m_38 m_39 m_40 m_42 r11_f r12_f r13_f r18_f r24_f hb0 hb1 hb2 hb3 ha0 (upd (upd (upd (upd (upd (upd (upd (upd (upd (upd r11_f 0 (nI (1 + ((m_39).toBitVec.toNat % 2)))) 1 (nI m_38)) 2 m_39) 3 m_37) 4 (nI m_14)) 5 (nI m_36)) 6 m_25) 7 m_26) 8 (Int64.toInt32 m_27)) 9 m_40) y_2903pr12_f  _ B hr (fun y_2911pr13_f y_2911l1 y_2911k0 e_ => ?_) _ r13_f 0 (by first | assumption | omega | decide | exact hCF _ (by omega)) (Nat.lt_succ_self _) e_
  show G E X 3 [(m, .inr (11, mkF r m_1 m_4 m_9 m_10 m_14 m_15 m_25 m_26 m_27 m_28 m_29 m_31 m_32 m_33 m_35 m_36 m_37 m_38 m_39 m_40 m_42)), ((r 11), .inl (E.2.2.1 0, 10, .inl (upd (upd (upd (upd (upd (upd (upd (upd (upd (upd r11_f 0 (nI (1 + ((m_39).toBitVec.toNat % 2)))) 1 (nI m_38)) 2 m_39) 3 m_37) 4 (nI m_14)) 5 (nI m_36)) 6 m_25) 7 m_26) 8 (Int64.toInt32 m_27)) 9 m_40))), ((r 12), .inl (E.2.2.1 0, 16, .inl y_2903pr12_f)), ((r 13), .inl (E.2.2.1 3, 6, .inr (.inl y_2911pr13_f))), ((r 18), .inl (E.2.2.1 0, 16, .inl r18_f)), ((r 24), .inl (E.2.2.1 3, 6, .inr (.inl (lM r24_f))))] 0 0 [(0, .ref m), (1, .int (nI y_2911l1))] 216 []
  exact g_vret B hr dX11_tells_216 (by decide) (by decide) ⟨(upd (upd (upd (upd (upd (upd (upd (upd (upd (upd r11_f 0 (nI (1 + ((m_39).toBitVec.toNat % 2)))) 1 (nI m_38)) 2 m_39) 3 m_37) 4 (nI m_14)) 5 (nI m_36)) 6 m_25) 7 m_26) 8 (Int64.toInt32 m_27)) 9 m_40), y_2903pr12_f, y_2911pr13_f, e_, rfl, rfl⟩
