abbrev MX11_isSound : g_M := (yX11_isSound, cX11_isSound, 4, (some .boolean))
theorem dX11_isSound_0 : decode cX11_isSound 0 = .ok (.iload_n 1, 1) := by decide +kernel
theorem dX11_isSound_1 : decode cX11_isSound 1 = .ok (.iconst 1, 1) := by decide +kernel
theorem dX11_isSound_2 : decode cX11_isSound 2 = .ok (.if_icmp .eq 8, 3) := by decide +kernel
theorem dX11_isSound_10 : decode cX11_isSound 10 = .ok (.aload_n 0, 1) := by decide +kernel
theorem dX11_isSound_11 : decode cX11_isSound 11 = .ok (.getfield 178, 3) := by decide +kernel
theorem w_fl_X11_178 : Cond.fieldLink RX11 178 (TX11 1).1 (TX11 1).2.1 (TX11 1).2.2.1 ∈ g_tbl := g_tbl_in 881 (by decide +kernel) (by decide +kernel)
theorem fl_X11_178 : FL RX11 178 11 1 := ⟨RX11, TX11, 50, rfl, by decide, inX_X11, w_fl_X11_178⟩
theorem dX11_isSound_14 : decode cX11_isSound 14 = .ok (.ifCond .eq 24, 3) := by decide +kernel
theorem dX11_isSound_38 : decode cX11_isSound 38 = .ok (.iconst 0, 1) := by decide +kernel
theorem dX11_isSound_39 : decode cX11_isSound 39 = .ok (.ireturn, 1) := by decide +kernel
theorem dX11_isSound_17 : decode cX11_isSound 17 = .ok (.aload_n 0, 1) := by decide +kernel
theorem dX11_isSound_18 : decode cX11_isSound 18 = .ok (.getfield 178, 3) := by decide +kernel
theorem dX11_isSound_21 : decode cX11_isSound 21 = .ok (.iload_n 1, 1) := by decide +kernel
theorem dX11_isSound_22 : decode cX11_isSound 22 = .ok (.irem, 1) := by decide +kernel
theorem dX11_isSound_23 : decode cX11_isSound 23 = .ok (.ifCond .ne 15, 3) := by decide +kernel
theorem dX11_isSound_26 : decode cX11_isSound 26 = .ok (.aload_n 0, 1) := by decide +kernel
theorem dX11_isSound_27 : decode cX11_isSound 27 = .ok (.getfield 178, 3) := by decide +kernel
theorem dX11_isSound_30 : decode cX11_isSound 30 = .ok (.iload_n 1, 1) := by decide +kernel
theorem dX11_isSound_31 : decode cX11_isSound 31 = .ok (.idiv, 1) := by decide +kernel
theorem dX11_isSound_32 : decode cX11_isSound 32 = .ok (.sipush 600, 3) := by decide +kernel
theorem dX11_isSound_35 : decode cX11_isSound 35 = .ok (.if_icmp .le 5, 3) := by decide +kernel
theorem dX11_isSound_40 : decode cX11_isSound 40 = .ok (.iconst 1, 1) := by decide +kernel
theorem dX11_isSound_41 : decode cX11_isSound 41 = .ok (.istore_n 2, 1) := by decide +kernel
theorem dX11_isSound_42 : decode cX11_isSound 42 = .ok (.iconst 0, 1) := by decide +kernel
theorem dX11_isSound_43 : decode cX11_isSound 43 = .ok (.istore_n 3, 1) := by decide +kernel
theorem dX11_isSound_44 : decode cX11_isSound 44 = .ok (.iload_n 3, 1) := by decide +kernel
theorem dX11_isSound_45 : decode cX11_isSound 45 = .ok (.aload_n 0, 1) := by decide +kernel
theorem dX11_isSound_46 : decode cX11_isSound 46 = .ok (.getfield 178, 3) := by decide +kernel
theorem dX11_isSound_49 : decode cX11_isSound 49 = .ok (.if_icmp .ge 41, 3) := by decide +kernel
theorem dX11_isSound_52 : decode cX11_isSound 52 = .ok (.iload_n 2, 1) := by decide +kernel
theorem dX11_isSound_53 : decode cX11_isSound 53 = .ok (.ifCond .eq 29, 3) := by decide +kernel
theorem dX11_isSound_82 : decode cX11_isSound 82 = .ok (.iconst 0, 1) := by decide +kernel
theorem dX11_isSound_83 : decode cX11_isSound 83 = .ok (.istore_n 2, 1) := by decide +kernel
theorem dX11_isSound_84 : decode cX11_isSound 84 = .ok (.iinc 3 1, 3) := by decide +kernel
theorem dX11_isSound_87 : decode cX11_isSound 87 = .ok (.goto (-43), 3) := by decide +kernel
theorem dX11_isSound_56 : decode cX11_isSound 56 = .ok (.aload_n 0, 1) := by decide +kernel
theorem dX11_isSound_57 : decode cX11_isSound 57 = .ok (.getfield 9, 3) := by decide +kernel
theorem dX11_isSound_60 : decode cX11_isSound 60 = .ok (.iload_n 3, 1) := by decide +kernel
theorem dX11_isSound_61 : decode cX11_isSound 61 = .ok (.iaload, 1) := by decide +kernel
theorem dX11_isSound_62 : decode cX11_isSound 62 = .ok (.ldc 181, 2) := by decide +kernel
theorem w_k_X11_181 : Cond.constant RX11 181 (-8388608) ∈ g_tbl := g_tbl_in 1041 (by decide +kernel) (by decide +kernel)
theorem dX11_isSound_64 : decode cX11_isSound 64 = .ok (.if_icmp .lt 18, 3) := by decide +kernel
theorem dX11_isSound_67 : decode cX11_isSound 67 = .ok (.aload_n 0, 1) := by decide +kernel
theorem dX11_isSound_68 : decode cX11_isSound 68 = .ok (.getfield 9, 3) := by decide +kernel
theorem dX11_isSound_71 : decode cX11_isSound 71 = .ok (.iload_n 3, 1) := by decide +kernel
theorem dX11_isSound_72 : decode cX11_isSound 72 = .ok (.iaload, 1) := by decide +kernel
theorem dX11_isSound_73 : decode cX11_isSound 73 = .ok (.ldc 182, 2) := by decide +kernel
theorem w_k_X11_182 : Cond.constant RX11 182 8388607 ∈ g_tbl := g_tbl_in 1042 (by decide +kernel) (by decide +kernel)
theorem dX11_isSound_75 : decode cX11_isSound 75 = .ok (.if_icmp .gt 7, 3) := by decide +kernel
theorem dX11_isSound_78 : decode cX11_isSound 78 = .ok (.iconst 1, 1) := by decide +kernel
theorem dX11_isSound_79 : decode cX11_isSound 79 = .ok (.goto 4, 3) := by decide +kernel
set_option maxRecDepth 100000 in
def lf_wr_X11_isSound_1_44 (m_1 : Nat) (r0_f : Nat → Int32) (β : Type) (kx_ : Int32 → Nat → β)  : Nat → Int32 → Nat → β
  | 0, l2, l3 => kx_ l2 l3
  | fuel + 1, l2, l3 => (if m_1 ≤ l3 then (kx_ l2 l3) else (if l2 = 0 then (lf_wr_X11_isSound_1_44 m_1 r0_f β kx_ fuel 0 (l3 + 1)) else (if (r0_f l3) < (-8388608) then (lf_wr_X11_isSound_1_44 m_1 r0_f β kx_ fuel 0 (l3 + 1)) else (if 8388607 < (r0_f l3) then (lf_wr_X11_isSound_1_44 m_1 r0_f β kx_ fuel 0 (l3 + 1)) else (lf_wr_X11_isSound_1_44 m_1 r0_f β kx_ fuel 1 (l3 + 1))))))
set_option maxRecDepth 100000 in
theorem lf_wr_X11_isSound_1_44_s {m_1 : Nat} {r0_f : Nat → Int32} {β : Type} {kx_ : Int32 → Nat → β}  {fuel : Nat} {l2 : Int32} {l3 : Nat} : lf_wr_X11_isSound_1_44 m_1 r0_f β kx_  (fuel + 1) l2 l3 = (if m_1 ≤ l3 then (kx_ l2 l3) else (if l2 = 0 then (lf_wr_X11_isSound_1_44 m_1 r0_f β kx_ fuel 0 (l3 + 1)) else (if (r0_f l3) < (-8388608) then (lf_wr_X11_isSound_1_44 m_1 r0_f β kx_ fuel 0 (l3 + 1)) else (if 8388607 < (r0_f l3) then (lf_wr_X11_isSound_1_44 m_1 r0_f β kx_ fuel 0 (l3 + 1)) else (lf_wr_X11_isSound_1_44 m_1 r0_f β kx_ fuel 1 (l3 + 1)))))) := rfl
set_option maxRecDepth 100000 in
set_option maxHeartbeats 4000000 in
theorem lp_wr_X11_isSound_1_44 (E : g_E) (m : Nat) (r : Nat → Nat) (m_1 : Nat) (m_4 : Nat) (m_9 : Nat) (m_10 : Nat) (m_14 : Nat) (m_15 : Nat) (m_25 : Int32) (m_26 : Int32) (m_27 : Int64) (m_28 : Nat) (m_29 : Nat) (m_31 : Nat) (m_32 : Nat) (m_33 : Nat) (m_35 : Nat) (m_36 : Nat) (m_37 : Int32) (m_38 : Nat) (m_39 : Int32) (m_40 : Int32) (m_42 : Nat) (r0_f : Nat → Int32) (hb0 : m_1 ≤ 1200)   {X : g_X} {rr : (β : Type) → (Int32 → β) → β} (kx_ : (β : Type) → (Int32 → β) → Int32 → Nat → β) (B : Bd E X cX11_isSound RX11 4 0 0 0 0) (hr : Rt E X (some .boolean) 0 0 (fun v_ w_ => ∃ zr : Int32, (zr = 0 ∨ zr = 1) ∧ (zr = 0 ∨ m_1 / 1 ≤ 600) ∧ (∀ (β : Type) (k_ : Int32 → β), rr β k_ = k_ zr) ∧ v_ = some (.int zr) ∧ w_ = [(m, .inr (11, mkF r m_1 m_4 m_9 m_10 m_14 m_15 m_25 m_26 m_27 m_28 m_29 m_31 m_32 m_33 m_35 m_36 m_37 m_38 m_39 m_40 m_42)), ((r 0), .inl (E.2.2.1 0, 1200, .inl r0_f))])) (K : ∀ (l2 : Int32) (l3 : Nat), (l3 ≤ 1200) → (l2 = 0 ∨ l2 = 1) → (∀ (β : Type) (k_ : Int32 → β), rr β k_ = kx_ β k_ l2 l3) → G E X 4 [(m, .inr (11, mkF r m_1 m_4 m_9 m_10 m_14 m_15 m_25 m_26 m_27 m_28 m_29 m_31 m_32 m_33 m_35 m_36 m_37 m_38 m_39 m_40 m_42)), ((r 0), .inl (E.2.2.1 0, 1200, .inl r0_f))] 0 0 [(0, .ref m), (1, .int 1), (2, .int l2), (3, .int (nI l3))] 90 []) : ∀ (fuel : Nat) (l2 : Int32) (l3 : Nat), (l3 ≤ 1200) → (l2 = 0 ∨ l2 = 1) → (1200 - l3) < fuel → (∀ (β : Type) (k_ : Int32 → β), rr β k_ = lf_wr_X11_isSound_1_44 m_1 r0_f β (kx_ β k_) fuel l2 l3) → G E X 4 [(m, .inr (11, mkF r m_1 m_4 m_9 m_10 m_14 m_15 m_25 m_26 m_27 m_28 m_29 m_31 m_32 m_33 m_35 m_36 m_37 m_38 m_39 m_40 m_42)), ((r 0), .inl (E.2.2.1 0, 1200, .inl r0_f))] 0 0 [(0, .ref m), (1, .int 1), (2, .int l2), (3, .int (nI l3))] 44 [] := by
  intro fuel
  induction fuel with
  | zero => intro l2 l3 _ _ h _; exact absurd h (Nat.not_lt_zero _)
  | succ fuel ih =>
    intro l2 l3 hv0 hv1 hm e_
    replace e_ := fun β k_ => (e_ β k_).trans lf_wr_X11_isSound_1_44_s
    refine g_iload_n B dX11_isSound_44 rfl 3 rfl ?_
    refine g_aload_n B dX11_isSound_45 rfl 0 rfl ?_
    refine g_get B 0 1 fl_X11_178 rfl mf_1 dX11_isSound_46 ?_
    refine g_icmp_ge (tgt := 90) B dX11_isSound_49 (by decide) (fun c49_2645 => ?_) (fun c49_2645 => ?_)
    · have hn_2646 : m_1 ≤ l3 := (nI_leI (a := m_1) (b := l3) (by omega) (by omega)).mp c49_2645
      replace e_ := fun β k_ => (e_ β k_).trans (if_pos hn_2646)
      exact K l2 l3 (by first | assumption | omega | decide | exact hCF _ (by omega)) (by first | assumption | omega | decide | exact hCF _ (by omega)) e_
    · have hn_2647 : l3 < m_1 := Nat.not_le.mp (fun q => c49_2645 ((nI_leI (a := m_1) (b := l3) (by omega) (by omega)).mpr q))
      replace e_ := fun β k_ => (e_ β k_).trans (if_neg (Nat.not_le.mpr hn_2647))
      refine g_iload_n B dX11_isSound_52 rfl 2 rfl ?_
      refine g_if_eq (tgt := 82) B dX11_isSound_53 (by decide) (fun c53_2648 => ?_) (fun c53_2648 => ?_)
      · replace e_ := fun β k_ => (e_ β k_).trans (if_pos c53_2648)
        refine g_iconst (v := 0) B dX11_isSound_82 (by decide) ?_
        refine g_istore_n (lv' := [(2, .int 0), (0, .ref m), (1, .int 1), (3, .int (nI l3))]) B dX11_isSound_83 rfl (by decide) rfl ?_
        refine g_iinc (v := nI (l3 + 1)) (lv' := [(3, .int (nI (l3 + 1))), (2, .int 0), (0, .ref m), (1, .int 1)]) B dX11_isSound_84 3 rfl (nI_add l3 1) (by decide) rfl ?_
        refine g_goto (tgt := 44) B dX11_isSound_87 (by decide) ?_
        refine g_lvsub (lv' := [(0, .ref m), (1, .int 1), (2, .int 0), (3, .int (nI (l3 + 1)))]) [2, 3, 1, 0] rfl ?_
        exact ih 0 (l3 + 1) (by first | assumption | omega | decide | exact hCF _ (by omega)) (by first | exact Or.inl rfl | exact Or.inr rfl) (by omega) e_
      · replace e_ := fun β k_ => (e_ β k_).trans (if_neg c53_2648)
        refine g_aload_n B dX11_isSound_56 rfl 0 rfl ?_
        refine g_get B 0 0 fl_X11_9 rfl mf_0 dX11_isSound_57 ?_
        refine g_iload_n B dX11_isSound_60 rfl 3 rfl ?_
        refine g_iald B 1 rfl (vp_in_nI (by omega) (by omega)) dX11_isSound_61 ?_
        refine g_ri (x' := (r0_f l3)) (congrArg r0_f (nI_clamp (n := l3) (by omega))) ?_
        refine g_ldc (v := (-8388608)) B w_k_X11_181 dX11_isSound_62 ?_
        refine g_icmp_lt (tgt := 82) B dX11_isSound_64 (by decide) (fun c64_2649 => ?_) (fun c64_2649 => ?_)
        · replace e_ := fun β k_ => (e_ β k_).trans (if_pos c64_2649)
          refine g_iconst (v := 0) B dX11_isSound_82 (by decide) ?_
          refine g_istore_n (lv' := [(2, .int 0), (0, .ref m), (1, .int 1), (3, .int (nI l3))]) B dX11_isSound_83 rfl (by decide) rfl ?_
          refine g_iinc (v := nI (l3 + 1)) (lv' := [(3, .int (nI (l3 + 1))), (2, .int 0), (0, .ref m), (1, .int 1)]) B dX11_isSound_84 3 rfl (nI_add l3 1) (by decide) rfl ?_
          refine g_goto (tgt := 44) B dX11_isSound_87 (by decide) ?_
          refine g_lvsub (lv' := [(0, .ref m), (1, .int 1), (2, .int 0), (3, .int (nI (l3 + 1)))]) [2, 3, 1, 0] rfl ?_
          exact ih 0 (l3 + 1) (by first | assumption | omega | decide | exact hCF _ (by omega)) (by first | exact Or.inl rfl | exact Or.inr rfl) (by omega) e_
        · replace e_ := fun β k_ => (e_ β k_).trans (if_neg c64_2649)
          refine g_aload_n B dX11_isSound_67 rfl 0 rfl ?_
          refine g_get B 0 0 fl_X11_9 rfl mf_0 dX11_isSound_68 ?_
          refine g_iload_n B dX11_isSound_71 rfl 3 rfl ?_
          refine g_iald B 1 rfl (vp_in_nI (by omega) (by omega)) dX11_isSound_72 ?_
          refine g_ri (x' := (r0_f l3)) (congrArg r0_f (nI_clamp (n := l3) (by omega))) ?_
          refine g_ldc (v := 8388607) B w_k_X11_182 dX11_isSound_73 ?_
          refine g_icmp_gt (tgt := 82) B dX11_isSound_75 (by decide) (fun c75_2650 => ?_) (fun c75_2650 => ?_)
          · replace e_ := fun β k_ => (e_ β k_).trans (if_pos c75_2650)
            refine g_iconst (v := 0) B dX11_isSound_82 (by decide) ?_
            refine g_istore_n (lv' := [(2, .int 0), (0, .ref m), (1, .int 1), (3, .int (nI l3))]) B dX11_isSound_83 rfl (by decide) rfl ?_
            refine g_iinc (v := nI (l3 + 1)) (lv' := [(3, .int (nI (l3 + 1))), (2, .int 0), (0, .ref m), (1, .int 1)]) B dX11_isSound_84 3 rfl (nI_add l3 1) (by decide) rfl ?_
            refine g_goto (tgt := 44) B dX11_isSound_87 (by decide) ?_
            refine g_lvsub (lv' := [(0, .ref m), (1, .int 1), (2, .int 0), (3, .int (nI (l3 + 1)))]) [2, 3, 1, 0] rfl ?_
            exact ih 0 (l3 + 1) (by first | assumption | omega | decide | exact hCF _ (by omega)) (by first | exact Or.inl rfl | exact Or.inr rfl) (by omega) e_
          · replace e_ := fun β k_ => (e_ β k_).trans (if_neg c75_2650)
            refine g_iconst (v := 1) B dX11_isSound_78 (by decide) ?_
            refine g_goto (tgt := 83) B dX11_isSound_79 (by decide) ?_
            refine g_istore_n (lv' := [(2, .int 1), (0, .ref m), (1, .int 1), (3, .int (nI l3))]) B dX11_isSound_83 rfl (by decide) rfl ?_
            refine g_iinc (v := nI (l3 + 1)) (lv' := [(3, .int (nI (l3 + 1))), (2, .int 1), (0, .ref m), (1, .int 1)]) B dX11_isSound_84 3 rfl (nI_add l3 1) (by decide) rfl ?_
            refine g_goto (tgt := 44) B dX11_isSound_87 (by decide) ?_
            refine g_lvsub (lv' := [(0, .ref m), (1, .int 1), (2, .int 1), (3, .int (nI (l3 + 1)))]) [2, 3, 1, 0] rfl ?_
            exact ih 1 (l3 + 1) (by first | assumption | omega | decide | exact hCF _ (by omega)) (by first | exact Or.inl rfl | exact Or.inr rfl) (by omega) e_
theorem dX11_isSound_90 : decode cX11_isSound 90 = .ok (.iload_n 2, 1) := by decide +kernel
theorem dX11_isSound_91 : decode cX11_isSound 91 = .ok (.ireturn, 1) := by decide +kernel
set_option maxRecDepth 100000 in
def fn_wr_X11_isSound_1 (m_1 : Nat) (r0_f : Nat → Int32) (β : Type) (k_ : Int32 → β) : β := (if m_1 = 0 then (k_ 0) else (if (m_1 % 1) = 0 then (if (m_1 / 1) ≤ 600 then (lf_wr_X11_isSound_1_44 m_1 r0_f β (fun y_2651l2 y_2651l3 => (k_ y_2651l2)) ((1200 - 0) + 1) 1 0) else (k_ 0)) else (k_ 0)))
set_option maxRecDepth 100000 in
theorem fn_wr_X11_isSound_1_s {m_1 : Nat} {r0_f : Nat → Int32} {β : Type} {k_ : Int32 → β} : fn_wr_X11_isSound_1 m_1 r0_f β k_ = (if m_1 = 0 then (k_ 0) else (if (m_1 % 1) = 0 then (if (m_1 / 1) ≤ 600 then (lf_wr_X11_isSound_1_44 m_1 r0_f β (fun y_2651l2 y_2651l3 => (k_ y_2651l2)) ((1200 - 0) + 1) 1 0) else (k_ 0)) else (k_ 0))) := rfl
set_option maxRecDepth 100000 in
set_option maxHeartbeats 4000000 in
theorem wr_X11_isSound_1 (E : g_E) (m : Nat) (r : Nat → Nat) (m_1 : Nat) (m_4 : Nat) (m_9 : Nat) (m_10 : Nat) (m_14 : Nat) (m_15 : Nat) (m_25 : Int32) (m_26 : Int32) (m_27 : Int64) (m_28 : Nat) (m_29 : Nat) (m_31 : Nat) (m_32 : Nat) (m_33 : Nat) (m_35 : Nat) (m_36 : Nat) (m_37 : Int32) (m_38 : Nat) (m_39 : Int32) (m_40 : Int32) (m_42 : Nat) (r0_f : Nat → Int32) (hb0 : m_1 ≤ 1200) : Ev E MX11_isSound 0 0 0 0 [.ref m, .int 1] [(m, .inr (11, mkF r m_1 m_4 m_9 m_10 m_14 m_15 m_25 m_26 m_27 m_28 m_29 m_31 m_32 m_33 m_35 m_36 m_37 m_38 m_39 m_40 m_42)), ((r 0), .inl (E.2.2.1 0, 1200, .inl r0_f))] (fun v_ w_ => ∃ zr : Int32, (zr = 0 ∨ zr = 1) ∧ (zr = 0 ∨ m_1 / 1 ≤ 600) ∧ (∀ (β : Type) (k_ : Int32 → β), fn_wr_X11_isSound_1 m_1 r0_f β k_ = k_ zr) ∧ v_ = some (.int zr) ∧ w_ = [(m, .inr (11, mkF r m_1 m_4 m_9 m_10 m_14 m_15 m_25 m_26 m_27 m_28 m_29 m_31 m_32 m_33 m_35 m_36 m_37 m_38 m_39 m_40 m_42)), ((r 0), .inl (E.2.2.1 0, 1200, .inl r0_f))]) := by
  refine Ev.intro (by decide) (Nat.le_of_ble_eq_true rfl) ?_
  intro X B hr hI
  have B : Bd E X cX11_isSound RX11 4 0 0 0 0 := B
  have hr : Rt E X (some .boolean) 0 0 (fun v_ w_ => ∃ zr : Int32, (zr = 0 ∨ zr = 1) ∧ (zr = 0 ∨ m_1 / 1 ≤ 600) ∧ (∀ (β : Type) (k_ : Int32 → β), fn_wr_X11_isSound_1 m_1 r0_f β k_ = k_ zr) ∧ v_ = some (.int zr) ∧ w_ = [(m, .inr (11, mkF r m_1 m_4 m_9 m_10 m_14 m_15 m_25 m_26 m_27 m_28 m_29 m_31 m_32 m_33 m_35 m_36 m_37 m_38 m_39 m_40 m_42)), ((r 0), .inl (E.2.2.1 0, 1200, .inl r0_f))]) := hr
  have e_ := fun (β : Type) (k_ : Int32 → β) => fn_wr_X11_isSound_1_s (β := β) (k_ := k_) (m_1 := m_1) (r0_f := r0_f)
  show G E X 4 [(m, .inr (11, mkF r m_1 m_4 m_9 m_10 m_14 m_15 m_25 m_26 m_27 m_28 m_29 m_31 m_32 m_33 m_35 m_36 m_37 m_38 m_39 m_40 m_42)), ((r 0), .inl (E.2.2.1 0, 1200, .inl r0_f))] 0 0 [(0, .ref m), (1, .int 1)] 0 []
  refine g_iload_n B dX11_isSound_0 rfl 1 rfl ?_
  refine g_iconst (v := 1) B dX11_isSound_1 (by decide) ?_
  refine g_icmp_eq (tgt := 10) B dX11_isSound_2 (by decide) (fun c2 => ?_) (fun h => absurd (by decide) h)
  refine g_aload_n B dX11_isSound_10 rfl 0 rfl ?_
  refine g_get B 0 1 fl_X11_178 rfl mf_1 dX11_isSound_11 ?_
  refine g_if_eq (tgt := 38) B dX11_isSound_14 (by decide) (fun c14_2636 => ?_) (fun c14_2636 => ?_)
  · have hn_2637 : m_1 = 0 := (nI_eq (a := m_1) (b := 0) (by omega) (by omega)).mp c14_2636
    replace e_ := fun β k_ => (e_ β k_).trans (if_pos hn_2637)
    refine g_iconst (v := 0) B dX11_isSound_38 (by decide) ?_
    exact g_zret B hr (by decide) dX11_isSound_39 (by decide) (by decide) ⟨0, (by first | assumption | omega | decide | exact hCF _ (by omega)), (Or.inl rfl), e_, rfl, rfl⟩
  · have hn_2638 : ¬ m_1 = 0 := fun q => c14_2636 ((nI_eq (a := m_1) (b := 0) (by omega) (by omega)).mpr q)
    replace e_ := fun β k_ => (e_ β k_).trans (if_neg hn_2638)
    refine g_aload_n B dX11_isSound_17 rfl 0 rfl ?_
    refine g_get B 0 1 fl_X11_178 rfl mf_1 dX11_isSound_18 ?_
    refine g_iload_n B dX11_isSound_21 rfl 1 rfl ?_
    refine g_irem B dX11_isSound_22 (by decide) ?_
    refine g_ri (x' := nI (m_1 % 1)) (pk_rem (a := m_1) (d := 1) (by omega) (by decide) (by decide)) ?_
    refine g_if_ne (tgt := 38) B dX11_isSound_23 (by decide) (fun c23_2639 => ?_) (fun c23_2639 => ?_)
    · have hn_2640 : ¬ (m_1 % 1) = 0 := fun q => c23_2639 ((nI_eq (a := (m_1 % 1)) (b := 0) (by omega) (by omega)).mpr q)
      replace e_ := fun β k_ => (e_ β k_).trans (if_neg hn_2640)
      refine g_iconst (v := 0) B dX11_isSound_38 (by decide) ?_
      exact g_zret B hr (by decide) dX11_isSound_39 (by decide) (by decide) ⟨0, (by first | assumption | omega | decide | exact hCF _ (by omega)), (Or.inl rfl), e_, rfl, rfl⟩
    · have hn_2641 : (m_1 % 1) = 0 := (nI_eq (a := (m_1 % 1)) (b := 0) (by omega) (by omega)).mp c23_2639
      replace e_ := fun β k_ => (e_ β k_).trans (if_pos hn_2641)
      refine g_aload_n B dX11_isSound_26 rfl 0 rfl ?_
      refine g_get B 0 1 fl_X11_178 rfl mf_1 dX11_isSound_27 ?_
      refine g_iload_n B dX11_isSound_30 rfl 1 rfl ?_
      refine g_idiv B dX11_isSound_31 (by decide) ?_
      refine g_ri (x' := nI (m_1 / 1)) (pk_div (a := m_1) (d := 1) (by omega) (by decide) (by decide)) ?_
      refine g_sipush (v := 600) B dX11_isSound_32 (by decide) ?_
      refine g_icmp_le (tgt := 40) B dX11_isSound_35 (by decide) (fun c35_2642 => ?_) (fun c35_2642 => ?_)
      · have hn_2643 : (m_1 / 1) ≤ 600 := (nI_leI (a := (m_1 / 1)) (b := 600) (by omega) (by omega)).mp c35_2642
        replace e_ := fun β k_ => (e_ β k_).trans (if_pos hn_2643)
        refine g_iconst (v := 1) B dX11_isSound_40 (by decide) ?_
        refine g_istore_n (lv' := [(2, .int 1), (0, .ref m), (1, .int 1)]) B dX11_isSound_41 rfl (by decide) rfl ?_
        refine g_iconst (v := 0) B dX11_isSound_42 (by decide) ?_
        refine g_istore_n (lv' := [(3, .int 0), (2, .int 1), (0, .ref m), (1, .int 1)]) B dX11_isSound_43 rfl (by decide) rfl ?_
        refine g_lvsub (lv' := [(0, .ref m), (1, .int 1), (2, .int 1), (3, .int 0)]) [2, 3, 1, 0] rfl ?_
        refine lp_wr_X11_isSound_1_44 E m r m_1 m_4 m_9 m_10 m_14 m_15 m_25 m_26 m_27 m_28 m_29 m_31 m_32 m_33 m_35 m_36 m_37 m_38 m_39 m_40 m_42 r0_f hb0   _ B hr (fun y_2651l2 y_2651l3 y_2651k0 y_2651k1 e_ => ?_) _ 1 0 (by first | assumption | omega | decide | exact hCF _ (by omega)) (Or.inr rfl) (Nat.lt_succ_self _) e_
        show G E X 4 [(m, .inr (11, mkF r m_1 m_4 m_9 m_10 m_14 m_15 m_25 m_26 m_27 m_28 m_29 m_31 m_32 m_33 m_35 m_36 m_37 m_38 m_39 m_40 m_42)), ((r 0), .inl (E.2.2.1 0, 1200, .inl r0_f))] 0 0 [(0, .ref m), (1, .int 1), (2, .int y_2651l2), (3, .int (nI y_2651l3))] 90 []
        refine g_iload_n B dX11_isSound_90 rfl 2 rfl ?_
        exact g_zret B hr (nar01 (by assumption)) dX11_isSound_91 (by decide) (by decide) ⟨y_2651l2, (by first | assumption | omega | decide | exact hCF _ (by omega)), (Or.inr (by omega)), e_, rfl, rfl⟩
      · have hn_2644 : 600 < (m_1 / 1) := Nat.not_le.mp (fun q => c35_2642 ((nI_leI (a := (m_1 / 1)) (b := 600) (by omega) (by omega)).mpr q))
        replace e_ := fun β k_ => (e_ β k_).trans (if_neg (Nat.not_le.mpr hn_2644))
        refine g_iconst (v := 0) B dX11_isSound_38 (by decide) ?_
        exact g_zret B hr (by decide) dX11_isSound_39 (by decide) (by decide) ⟨0, (by first | assumption | omega | decide | exact hCF _ (by omega)), (Or.inl rfl), e_, rfl, rfl⟩
theorem dX11_isSound_5 : decode cX11_isSound 5 = .ok (.iload_n 1, 1) := by decide +kernel
theorem dX11_isSound_6 : decode cX11_isSound 6 = .ok (.iconst 2, 1) := by decide +kernel
theorem dX11_isSound_7 : decode cX11_isSound 7 = .ok (.if_icmp .ne 31, 3) := by decide +kernel
set_option maxRecDepth 100000 in
def lf_wr_X11_isSound_2_44 (m_1 : Nat) (r0_f : Nat → Int32) (β : Type) (kx_ : Int32 → Nat → β)  : Nat → Int32 → Nat → β
  | 0, l2, l3 => kx_ l2 l3
  | fuel + 1, l2, l3 => (if m_1 ≤ l3 then (kx_ l2 l3) else (if l2 = 0 then (lf_wr_X11_isSound_2_44 m_1 r0_f β kx_ fuel 0 (l3 + 1)) else (if (r0_f l3) < (-8388608) then (lf_wr_X11_isSound_2_44 m_1 r0_f β kx_ fuel 0 (l3 + 1)) else (if 8388607 < (r0_f l3) then (lf_wr_X11_isSound_2_44 m_1 r0_f β kx_ fuel 0 (l3 + 1)) else (lf_wr_X11_isSound_2_44 m_1 r0_f β kx_ fuel 1 (l3 + 1))))))
set_option maxRecDepth 100000 in
theorem lf_wr_X11_isSound_2_44_s {m_1 : Nat} {r0_f : Nat → Int32} {β : Type} {kx_ : Int32 → Nat → β}  {fuel : Nat} {l2 : Int32} {l3 : Nat} : lf_wr_X11_isSound_2_44 m_1 r0_f β kx_  (fuel + 1) l2 l3 = (if m_1 ≤ l3 then (kx_ l2 l3) else (if l2 = 0 then (lf_wr_X11_isSound_2_44 m_1 r0_f β kx_ fuel 0 (l3 + 1)) else (if (r0_f l3) < (-8388608) then (lf_wr_X11_isSound_2_44 m_1 r0_f β kx_ fuel 0 (l3 + 1)) else (if 8388607 < (r0_f l3) then (lf_wr_X11_isSound_2_44 m_1 r0_f β kx_ fuel 0 (l3 + 1)) else (lf_wr_X11_isSound_2_44 m_1 r0_f β kx_ fuel 1 (l3 + 1)))))) := rfl
set_option maxRecDepth 100000 in
set_option maxHeartbeats 4000000 in
theorem lp_wr_X11_isSound_2_44 (E : g_E) (m : Nat) (r : Nat → Nat) (m_1 : Nat) (m_4 : Nat) (m_9 : Nat) (m_10 : Nat) (m_14 : Nat) (m_15 : Nat) (m_25 : Int32) (m_26 : Int32) (m_27 : Int64) (m_28 : Nat) (m_29 : Nat) (m_31 : Nat) (m_32 : Nat) (m_33 : Nat) (m_35 : Nat) (m_36 : Nat) (m_37 : Int32) (m_38 : Nat) (m_39 : Int32) (m_40 : Int32) (m_42 : Nat) (r0_f : Nat → Int32) (hb0 : m_1 ≤ 1200)   {X : g_X} {rr : (β : Type) → (Int32 → β) → β} (kx_ : (β : Type) → (Int32 → β) → Int32 → Nat → β) (B : Bd E X cX11_isSound RX11 4 0 0 0 0) (hr : Rt E X (some .boolean) 0 0 (fun v_ w_ => ∃ zr : Int32, (zr = 0 ∨ zr = 1) ∧ (zr = 0 ∨ m_1 / 2 ≤ 600) ∧ (∀ (β : Type) (k_ : Int32 → β), rr β k_ = k_ zr) ∧ v_ = some (.int zr) ∧ w_ = [(m, .inr (11, mkF r m_1 m_4 m_9 m_10 m_14 m_15 m_25 m_26 m_27 m_28 m_29 m_31 m_32 m_33 m_35 m_36 m_37 m_38 m_39 m_40 m_42)), ((r 0), .inl (E.2.2.1 0, 1200, .inl r0_f))])) (K : ∀ (l2 : Int32) (l3 : Nat), (l3 ≤ 1200) → (l2 = 0 ∨ l2 = 1) → (∀ (β : Type) (k_ : Int32 → β), rr β k_ = kx_ β k_ l2 l3) → G E X 4 [(m, .inr (11, mkF r m_1 m_4 m_9 m_10 m_14 m_15 m_25 m_26 m_27 m_28 m_29 m_31 m_32 m_33 m_35 m_36 m_37 m_38 m_39 m_40 m_42)), ((r 0), .inl (E.2.2.1 0, 1200, .inl r0_f))] 0 0 [(0, .ref m), (1, .int 2), (2, .int l2), (3, .int (nI l3))] 90 []) : ∀ (fuel : Nat) (l2 : Int32) (l3 : Nat), (l3 ≤ 1200) → (l2 = 0 ∨ l2 = 1) → (1200 - l3) < fuel → (∀ (β : Type) (k_ : Int32 → β), rr β k_ = lf_wr_X11_isSound_2_44 m_1 r0_f β (kx_ β k_) fuel l2 l3) → G E X 4 [(m, .inr (11, mkF r m_1 m_4 m_9 m_10 m_14 m_15 m_25 m_26 m_27 m_28 m_29 m_31 m_32 m_33 m_35 m_36 m_37 m_38 m_39 m_40 m_42)), ((r 0), .inl (E.2.2.1 0, 1200, .inl r0_f))] 0 0 [(0, .ref m), (1, .int 2), (2, .int l2), (3, .int (nI l3))] 44 [] := by
  intro fuel
  induction fuel with
  | zero => intro l2 l3 _ _ h _; exact absurd h (Nat.not_lt_zero _)
  | succ fuel ih =>
    intro l2 l3 hv0 hv1 hm e_
    replace e_ := fun β k_ => (e_ β k_).trans lf_wr_X11_isSound_2_44_s
    refine g_iload_n B dX11_isSound_44 rfl 3 rfl ?_
    refine g_aload_n B dX11_isSound_45 rfl 0 rfl ?_
    refine g_get B 0 1 fl_X11_178 rfl mf_1 dX11_isSound_46 ?_
    refine g_icmp_ge (tgt := 90) B dX11_isSound_49 (by decide) (fun c49_2661 => ?_) (fun c49_2661 => ?_)
    · have hn_2662 : m_1 ≤ l3 := (nI_leI (a := m_1) (b := l3) (by omega) (by omega)).mp c49_2661
      replace e_ := fun β k_ => (e_ β k_).trans (if_pos hn_2662)
      exact K l2 l3 (by first | assumption | omega | decide | exact hCF _ (by omega)) (by first | assumption | omega | decide | exact hCF _ (by omega)) e_
    · have hn_2663 : l3 < m_1 := Nat.not_le.mp (fun q => c49_2661 ((nI_leI (a := m_1) (b := l3) (by omega) (by omega)).mpr q))
      replace e_ := fun β k_ => (e_ β k_).trans (if_neg (Nat.not_le.mpr hn_2663))
      refine g_iload_n B dX11_isSound_52 rfl 2 rfl ?_
      refine g_if_eq (tgt := 82) B dX11_isSound_53 (by decide) (fun c53_2664 => ?_) (fun c53_2664 => ?_)
      · replace e_ := fun β k_ => (e_ β k_).trans (if_pos c53_2664)
        refine g_iconst (v := 0) B dX11_isSound_82 (by decide) ?_
        refine g_istore_n (lv' := [(2, .int 0), (0, .ref m), (1, .int 2), (3, .int (nI l3))]) B dX11_isSound_83 rfl (by decide) rfl ?_
        refine g_iinc (v := nI (l3 + 1)) (lv' := [(3, .int (nI (l3 + 1))), (2, .int 0), (0, .ref m), (1, .int 2)]) B dX11_isSound_84 3 rfl (nI_add l3 1) (by decide) rfl ?_
        refine g_goto (tgt := 44) B dX11_isSound_87 (by decide) ?_
        refine g_lvsub (lv' := [(0, .ref m), (1, .int 2), (2, .int 0), (3, .int (nI (l3 + 1)))]) [2, 3, 1, 0] rfl ?_
        exact ih 0 (l3 + 1) (by first | assumption | omega | decide | exact hCF _ (by omega)) (by first | exact Or.inl rfl | exact Or.inr rfl) (by omega) e_
      · replace e_ := fun β k_ => (e_ β k_).trans (if_neg c53_2664)
        refine g_aload_n B dX11_isSound_56 rfl 0 rfl ?_
        refine g_get B 0 0 fl_X11_9 rfl mf_0 dX11_isSound_57 ?_
        refine g_iload_n B dX11_isSound_60 rfl 3 rfl ?_
        refine g_iald B 1 rfl (vp_in_nI (by omega) (by omega)) dX11_isSound_61 ?_
        refine g_ri (x' := (r0_f l3)) (congrArg r0_f (nI_clamp (n := l3) (by omega))) ?_
        refine g_ldc (v := (-8388608)) B w_k_X11_181 dX11_isSound_62 ?_
        refine g_icmp_lt (tgt := 82) B dX11_isSound_64 (by decide) (fun c64_2665 => ?_) (fun c64_2665 => ?_)
        · replace e_ := fun β k_ => (e_ β k_).trans (if_pos c64_2665)
          refine g_iconst (v := 0) B dX11_isSound_82 (by decide) ?_
          refine g_istore_n (lv' := [(2, .int 0), (0, .ref m), (1, .int 2), (3, .int (nI l3))]) B dX11_isSound_83 rfl (by decide) rfl ?_
          refine g_iinc (v := nI (l3 + 1)) (lv' := [(3, .int (nI (l3 + 1))), (2, .int 0), (0, .ref m), (1, .int 2)]) B dX11_isSound_84 3 rfl (nI_add l3 1) (by decide) rfl ?_
          refine g_goto (tgt := 44) B dX11_isSound_87 (by decide) ?_
          refine g_lvsub (lv' := [(0, .ref m), (1, .int 2), (2, .int 0), (3, .int (nI (l3 + 1)))]) [2, 3, 1, 0] rfl ?_
          exact ih 0 (l3 + 1) (by first | assumption | omega | decide | exact hCF _ (by omega)) (by first | exact Or.inl rfl | exact Or.inr rfl) (by omega) e_
        · replace e_ := fun β k_ => (e_ β k_).trans (if_neg c64_2665)
          refine g_aload_n B dX11_isSound_67 rfl 0 rfl ?_
          refine g_get B 0 0 fl_X11_9 rfl mf_0 dX11_isSound_68 ?_
          refine g_iload_n B dX11_isSound_71 rfl 3 rfl ?_
          refine g_iald B 1 rfl (vp_in_nI (by omega) (by omega)) dX11_isSound_72 ?_
          refine g_ri (x' := (r0_f l3)) (congrArg r0_f (nI_clamp (n := l3) (by omega))) ?_
          refine g_ldc (v := 8388607) B w_k_X11_182 dX11_isSound_73 ?_
          refine g_icmp_gt (tgt := 82) B dX11_isSound_75 (by decide) (fun c75_2666 => ?_) (fun c75_2666 => ?_)
          · replace e_ := fun β k_ => (e_ β k_).trans (if_pos c75_2666)
            refine g_iconst (v := 0) B dX11_isSound_82 (by decide) ?_
            refine g_istore_n (lv' := [(2, .int 0), (0, .ref m), (1, .int 2), (3, .int (nI l3))]) B dX11_isSound_83 rfl (by decide) rfl ?_
            refine g_iinc (v := nI (l3 + 1)) (lv' := [(3, .int (nI (l3 + 1))), (2, .int 0), (0, .ref m), (1, .int 2)]) B dX11_isSound_84 3 rfl (nI_add l3 1) (by decide) rfl ?_
            refine g_goto (tgt := 44) B dX11_isSound_87 (by decide) ?_
            refine g_lvsub (lv' := [(0, .ref m), (1, .int 2), (2, .int 0), (3, .int (nI (l3 + 1)))]) [2, 3, 1, 0] rfl ?_
            exact ih 0 (l3 + 1) (by first | assumption | omega | decide | exact hCF _ (by omega)) (by first | exact Or.inl rfl | exact Or.inr rfl) (by omega) e_
          · replace e_ := fun β k_ => (e_ β k_).trans (if_neg c75_2666)
            refine g_iconst (v := 1) B dX11_isSound_78 (by decide) ?_
            refine g_goto (tgt := 83) B dX11_isSound_79 (by decide) ?_
            refine g_istore_n (lv' := [(2, .int 1), (0, .ref m), (1, .int 2), (3, .int (nI l3))]) B dX11_isSound_83 rfl (by decide) rfl ?_
            refine g_iinc (v := nI (l3 + 1)) (lv' := [(3, .int (nI (l3 + 1))), (2, .int 1), (0, .ref m), (1, .int 2)]) B dX11_isSound_84 3 rfl (nI_add l3 1) (by decide) rfl ?_
            refine g_goto (tgt := 44) B dX11_isSound_87 (by decide) ?_
            refine g_lvsub (lv' := [(0, .ref m), (1, .int 2), (2, .int 1), (3, .int (nI (l3 + 1)))]) [2, 3, 1, 0] rfl ?_
            exact ih 1 (l3 + 1) (by first | assumption | omega | decide | exact hCF _ (by omega)) (by first | exact Or.inl rfl | exact Or.inr rfl) (by omega) e_
set_option maxRecDepth 100000 in
def fn_wr_X11_isSound_2 (m_1 : Nat) (r0_f : Nat → Int32) (β : Type) (k_ : Int32 → β) : β := (if m_1 = 0 then (k_ 0) else (if (m_1 % 2) = 0 then (if (m_1 / 2) ≤ 600 then (lf_wr_X11_isSound_2_44 m_1 r0_f β (fun y_2667l2 y_2667l3 => (k_ y_2667l2)) ((1200 - 0) + 1) 1 0) else (k_ 0)) else (k_ 0)))
set_option maxRecDepth 100000 in
theorem fn_wr_X11_isSound_2_s {m_1 : Nat} {r0_f : Nat → Int32} {β : Type} {k_ : Int32 → β} : fn_wr_X11_isSound_2 m_1 r0_f β k_ = (if m_1 = 0 then (k_ 0) else (if (m_1 % 2) = 0 then (if (m_1 / 2) ≤ 600 then (lf_wr_X11_isSound_2_44 m_1 r0_f β (fun y_2667l2 y_2667l3 => (k_ y_2667l2)) ((1200 - 0) + 1) 1 0) else (k_ 0)) else (k_ 0))) := rfl
set_option maxRecDepth 100000 in
set_option maxHeartbeats 4000000 in
theorem wr_X11_isSound_2 (E : g_E) (m : Nat) (r : Nat → Nat) (m_1 : Nat) (m_4 : Nat) (m_9 : Nat) (m_10 : Nat) (m_14 : Nat) (m_15 : Nat) (m_25 : Int32) (m_26 : Int32) (m_27 : Int64) (m_28 : Nat) (m_29 : Nat) (m_31 : Nat) (m_32 : Nat) (m_33 : Nat) (m_35 : Nat) (m_36 : Nat) (m_37 : Int32) (m_38 : Nat) (m_39 : Int32) (m_40 : Int32) (m_42 : Nat) (r0_f : Nat → Int32) (hb0 : m_1 ≤ 1200) : Ev E MX11_isSound 0 0 0 0 [.ref m, .int 2] [(m, .inr (11, mkF r m_1 m_4 m_9 m_10 m_14 m_15 m_25 m_26 m_27 m_28 m_29 m_31 m_32 m_33 m_35 m_36 m_37 m_38 m_39 m_40 m_42)), ((r 0), .inl (E.2.2.1 0, 1200, .inl r0_f))] (fun v_ w_ => ∃ zr : Int32, (zr = 0 ∨ zr = 1) ∧ (zr = 0 ∨ m_1 / 2 ≤ 600) ∧ (∀ (β : Type) (k_ : Int32 → β), fn_wr_X11_isSound_2 m_1 r0_f β k_ = k_ zr) ∧ v_ = some (.int zr) ∧ w_ = [(m, .inr (11, mkF r m_1 m_4 m_9 m_10 m_14 m_15 m_25 m_26 m_27 m_28 m_29 m_31 m_32 m_33 m_35 m_36 m_37 m_38 m_39 m_40 m_42)), ((r 0), .inl (E.2.2.1 0, 1200, .inl r0_f))]) := by
  refine Ev.intro (by decide) (Nat.le_of_ble_eq_true rfl) ?_
  intro X B hr hI
  have B : Bd E X cX11_isSound RX11 4 0 0 0 0 := B
  have hr : Rt E X (some .boolean) 0 0 (fun v_ w_ => ∃ zr : Int32, (zr = 0 ∨ zr = 1) ∧ (zr = 0 ∨ m_1 / 2 ≤ 600) ∧ (∀ (β : Type) (k_ : Int32 → β), fn_wr_X11_isSound_2 m_1 r0_f β k_ = k_ zr) ∧ v_ = some (.int zr) ∧ w_ = [(m, .inr (11, mkF r m_1 m_4 m_9 m_10 m_14 m_15 m_25 m_26 m_27 m_28 m_29 m_31 m_32 m_33 m_35 m_36 m_37 m_38 m_39 m_40 m_42)), ((r 0), .inl (E.2.2.1 0, 1200, .inl r0_f))]) := hr
  have e_ := fun (β : Type) (k_ : Int32 → β) => fn_wr_X11_isSound_2_s (β := β) (k_ := k_) (m_1 := m_1) (r0_f := r0_f)
  show G E X 4 [(m, .inr (11, mkF r m_1 m_4 m_9 m_10 m_14 m_15 m_25 m_26 m_27 m_28 m_29 m_31 m_32 m_33 m_35 m_36 m_37 m_38 m_39 m_40 m_42)), ((r 0), .inl (E.2.2.1 0, 1200, .inl r0_f))] 0 0 [(0, .ref m), (1, .int 2)] 0 []
  refine g_iload_n B dX11_isSound_0 rfl 1 rfl ?_
  refine g_iconst (v := 1) B dX11_isSound_1 (by decide) ?_
  refine g_icmp_eq (tgt := 10) B dX11_isSound_2 (by decide) (fun h => absurd h (by decide)) (fun c2 => ?_)
  refine g_iload_n B dX11_isSound_5 rfl 1 rfl ?_
  refine g_iconst (v := 2) B dX11_isSound_6 (by decide) ?_
  refine g_icmp_ne (tgt := 38) B dX11_isSound_7 (by decide) (fun h => absurd (by decide) h) (fun c7 => ?_)
  refine g_aload_n B dX11_isSound_10 rfl 0 rfl ?_
  refine g_get B 0 1 fl_X11_178 rfl mf_1 dX11_isSound_11 ?_
  refine g_if_eq (tgt := 38) B dX11_isSound_14 (by decide) (fun c14_2652 => ?_) (fun c14_2652 => ?_)
  · have hn_2653 : m_1 = 0 := (nI_eq (a := m_1) (b := 0) (by omega) (by omega)).mp c14_2652
    replace e_ := fun β k_ => (e_ β k_).trans (if_pos hn_2653)
    refine g_iconst (v := 0) B dX11_isSound_38 (by decide) ?_
    exact g_zret B hr (by decide) dX11_isSound_39 (by decide) (by decide) ⟨0, (by first | assumption | omega | decide | exact hCF _ (by omega)), (Or.inl rfl), e_, rfl, rfl⟩
  · have hn_2654 : ¬ m_1 = 0 := fun q => c14_2652 ((nI_eq (a := m_1) (b := 0) (by omega) (by omega)).mpr q)
    replace e_ := fun β k_ => (e_ β k_).trans (if_neg hn_2654)
    refine g_aload_n B dX11_isSound_17 rfl 0 rfl ?_
    refine g_get B 0 1 fl_X11_178 rfl mf_1 dX11_isSound_18 ?_
    refine g_iload_n B dX11_isSound_21 rfl 1 rfl ?_
    refine g_irem B dX11_isSound_22 (by decide) ?_
    refine g_ri (x' := nI (m_1 % 2)) (pk_rem (a := m_1) (d := 2) (by omega) (by decide) (by decide)) ?_
    refine g_if_ne (tgt := 38) B dX11_isSound_23 (by decide) (fun c23_2655 => ?_) (fun c23_2655 => ?_)
    · have hn_2656 : ¬ (m_1 % 2) = 0 := fun q => c23_2655 ((nI_eq (a := (m_1 % 2)) (b := 0) (by omega) (by omega)).mpr q)
      replace e_ := fun β k_ => (e_ β k_).trans (if_neg hn_2656)
      refine g_iconst (v := 0) B dX11_isSound_38 (by decide) ?_
      exact g_zret B hr (by decide) dX11_isSound_39 (by decide) (by decide) ⟨0, (by first | assumption | omega | decide | exact hCF _ (by omega)), (Or.inl rfl), e_, rfl, rfl⟩
    · have hn_2657 : (m_1 % 2) = 0 := (nI_eq (a := (m_1 % 2)) (b := 0) (by omega) (by omega)).mp c23_2655
      replace e_ := fun β k_ => (e_ β k_).trans (if_pos hn_2657)
      refine g_aload_n B dX11_isSound_26 rfl 0 rfl ?_
      refine g_get B 0 1 fl_X11_178 rfl mf_1 dX11_isSound_27 ?_
      refine g_iload_n B dX11_isSound_30 rfl 1 rfl ?_
      refine g_idiv B dX11_isSound_31 (by decide) ?_
      refine g_ri (x' := nI (m_1 / 2)) (pk_div (a := m_1) (d := 2) (by omega) (by decide) (by decide)) ?_
      refine g_sipush (v := 600) B dX11_isSound_32 (by decide) ?_
      refine g_icmp_le (tgt := 40) B dX11_isSound_35 (by decide) (fun c35_2658 => ?_) (fun c35_2658 => ?_)
      · have hn_2659 : (m_1 / 2) ≤ 600 := (nI_leI (a := (m_1 / 2)) (b := 600) (by omega) (by omega)).mp c35_2658
        replace e_ := fun β k_ => (e_ β k_).trans (if_pos hn_2659)
        refine g_iconst (v := 1) B dX11_isSound_40 (by decide) ?_
        refine g_istore_n (lv' := [(2, .int 1), (0, .ref m), (1, .int 2)]) B dX11_isSound_41 rfl (by decide) rfl ?_
        refine g_iconst (v := 0) B dX11_isSound_42 (by decide) ?_
        refine g_istore_n (lv' := [(3, .int 0), (2, .int 1), (0, .ref m), (1, .int 2)]) B dX11_isSound_43 rfl (by decide) rfl ?_
        refine g_lvsub (lv' := [(0, .ref m), (1, .int 2), (2, .int 1), (3, .int 0)]) [2, 3, 1, 0] rfl ?_
        refine lp_wr_X11_isSound_2_44 E m r m_1 m_4 m_9 m_10 m_14 m_15 m_25 m_26 m_27 m_28 m_29 m_31 m_32 m_33 m_35 m_36 m_37 m_38 m_39 m_40 m_42 r0_f hb0   _ B hr (fun y_2667l2 y_2667l3 y_2667k0 y_2667k1 e_ => ?_) _ 1 0 (by first | assumption | omega | decide | exact hCF _ (by omega)) (Or.inr rfl) (Nat.lt_succ_self _) e_
        show G E X 4 [(m, .inr (11, mkF r m_1 m_4 m_9 m_10 m_14 m_15 m_25 m_26 m_27 m_28 m_29 m_31 m_32 m_33 m_35 m_36 m_37 m_38 m_39 m_40 m_42)), ((r 0), .inl (E.2.2.1 0, 1200, .inl r0_f))] 0 0 [(0, .ref m), (1, .int 2), (2, .int y_2667l2), (3, .int (nI y_2667l3))] 90 []
        refine g_iload_n B dX11_isSound_90 rfl 2 rfl ?_
        exact g_zret B hr (nar01 (by assumption)) dX11_isSound_91 (by decide) (by decide) ⟨y_2667l2, (by first | assumption | omega | decide | exact hCF _ (by omega)), (Or.inr (by omega)), e_, rfl, rfl⟩
      · have hn_2660 : 600 < (m_1 / 2) := Nat.not_le.mp (fun q => c35_2658 ((nI_leI (a := (m_1 / 2)) (b := 600) (by omega) (by omega)).mpr q))
        replace e_ := fun β k_ => (e_ β k_).trans (if_neg (Nat.not_le.mpr hn_2660))
        refine g_iconst (v := 0) B dX11_isSound_38 (by decide) ?_
        exact g_zret B hr (by decide) dX11_isSound_39 (by decide) (by decide) ⟨0, (by first | assumption | omega | decide | exact hCF _ (by omega)), (Or.inl rfl), e_, rfl, rfl⟩
abbrev MJ6_numberOfTrailingZeros_0f7a4 : g_M := (yJ6_numberOfTrailingZeros_0f7a4, cJ6_numberOfTrailingZeros_0f7a4, 2, (some .int))
theorem dJ6_numberOfTrailingZeros_0f7a4_0 : decode cJ6_numberOfTrailingZeros_0f7a4 0 = .ok (.iload_n 0, 1) := by decide +kernel
theorem dJ6_numberOfTrailingZeros_0f7a4_1 : decode cJ6_numberOfTrailingZeros_0f7a4 1 = .ok (.iconst (-1), 1) := by decide +kernel
theorem dJ6_numberOfTrailingZeros_0f7a4_2 : decode cJ6_numberOfTrailingZeros_0f7a4 2 = .ok (.ixor, 1) := by decide +kernel
theorem dJ6_numberOfTrailingZeros_0f7a4_3 : decode cJ6_numberOfTrailingZeros_0f7a4 3 = .ok (.iload_n 0, 1) := by decide +kernel
theorem dJ6_numberOfTrailingZeros_0f7a4_4 : decode cJ6_numberOfTrailingZeros_0f7a4 4 = .ok (.iconst 1, 1) := by decide +kernel
theorem dJ6_numberOfTrailingZeros_0f7a4_5 : decode cJ6_numberOfTrailingZeros_0f7a4 5 = .ok (.isub, 1) := by decide +kernel
theorem dJ6_numberOfTrailingZeros_0f7a4_6 : decode cJ6_numberOfTrailingZeros_0f7a4 6 = .ok (.iand, 1) := by decide +kernel
theorem dJ6_numberOfTrailingZeros_0f7a4_7 : decode cJ6_numberOfTrailingZeros_0f7a4 7 = .ok (.istore_n 0, 1) := by decide +kernel
theorem dJ6_numberOfTrailingZeros_0f7a4_8 : decode cJ6_numberOfTrailingZeros_0f7a4 8 = .ok (.iload_n 0, 1) := by decide +kernel
theorem dJ6_numberOfTrailingZeros_0f7a4_9 : decode cJ6_numberOfTrailingZeros_0f7a4 9 = .ok (.ifCond .gt 8, 3) := by decide +kernel
theorem dJ6_numberOfTrailingZeros_0f7a4_17 : decode cJ6_numberOfTrailingZeros_0f7a4 17 = .ok (.iconst 1, 1) := by decide +kernel
theorem dJ6_numberOfTrailingZeros_0f7a4_18 : decode cJ6_numberOfTrailingZeros_0f7a4 18 = .ok (.istore_n 1, 1) := by decide +kernel
theorem dJ6_numberOfTrailingZeros_0f7a4_19 : decode cJ6_numberOfTrailingZeros_0f7a4 19 = .ok (.iload_n 0, 1) := by decide +kernel
theorem dJ6_numberOfTrailingZeros_0f7a4_20 : decode cJ6_numberOfTrailingZeros_0f7a4 20 = .ok (.ldc_w 264, 3) := by decide +kernel
theorem dJ6_numberOfTrailingZeros_0f7a4_23 : decode cJ6_numberOfTrailingZeros_0f7a4 23 = .ok (.if_icmp .le 11, 3) := by decide +kernel
theorem dJ6_numberOfTrailingZeros_0f7a4_34 : decode cJ6_numberOfTrailingZeros_0f7a4 34 = .ok (.iload_n 0, 1) := by decide +kernel
theorem dJ6_numberOfTrailingZeros_0f7a4_35 : decode cJ6_numberOfTrailingZeros_0f7a4 35 = .ok (.sipush 256, 3) := by decide +kernel
theorem dJ6_numberOfTrailingZeros_0f7a4_38 : decode cJ6_numberOfTrailingZeros_0f7a4 38 = .ok (.if_icmp .le 11, 3) := by decide +kernel
theorem dJ6_numberOfTrailingZeros_0f7a4_49 : decode cJ6_numberOfTrailingZeros_0f7a4 49 = .ok (.iload_n 0, 1) := by decide +kernel
theorem dJ6_numberOfTrailingZeros_0f7a4_50 : decode cJ6_numberOfTrailingZeros_0f7a4 50 = .ok (.bipush 16, 2) := by decide +kernel
theorem dJ6_numberOfTrailingZeros_0f7a4_52 : decode cJ6_numberOfTrailingZeros_0f7a4 52 = .ok (.if_icmp .le 10, 3) := by decide +kernel
theorem dJ6_numberOfTrailingZeros_0f7a4_62 : decode cJ6_numberOfTrailingZeros_0f7a4 62 = .ok (.iload_n 0, 1) := by decide +kernel
theorem dJ6_numberOfTrailingZeros_0f7a4_63 : decode cJ6_numberOfTrailingZeros_0f7a4 63 = .ok (.iconst 4, 1) := by decide +kernel
theorem dJ6_numberOfTrailingZeros_0f7a4_64 : decode cJ6_numberOfTrailingZeros_0f7a4 64 = .ok (.if_icmp .le 10, 3) := by decide +kernel
theorem dJ6_numberOfTrailingZeros_0f7a4_74 : decode cJ6_numberOfTrailingZeros_0f7a4 74 = .ok (.iload_n 1, 1) := by decide +kernel
theorem dJ6_numberOfTrailingZeros_0f7a4_75 : decode cJ6_numberOfTrailingZeros_0f7a4 75 = .ok (.iload_n 0, 1) := by decide +kernel
theorem dJ6_numberOfTrailingZeros_0f7a4_76 : decode cJ6_numberOfTrailingZeros_0f7a4 76 = .ok (.iconst 1, 1) := by decide +kernel
theorem dJ6_numberOfTrailingZeros_0f7a4_77 : decode cJ6_numberOfTrailingZeros_0f7a4 77 = .ok (.iushr, 1) := by decide +kernel
theorem dJ6_numberOfTrailingZeros_0f7a4_78 : decode cJ6_numberOfTrailingZeros_0f7a4 78 = .ok (.iadd, 1) := by decide +kernel
theorem dJ6_numberOfTrailingZeros_0f7a4_79 : decode cJ6_numberOfTrailingZeros_0f7a4 79 = .ok (.ireturn, 1) := by decide +kernel
theorem dJ6_numberOfTrailingZeros_0f7a4_67 : decode cJ6_numberOfTrailingZeros_0f7a4 67 = .ok (.iinc 1 2, 3) := by decide +kernel
theorem dJ6_numberOfTrailingZeros_0f7a4_70 : decode cJ6_numberOfTrailingZeros_0f7a4 70 = .ok (.iload_n 0, 1) := by decide +kernel
theorem dJ6_numberOfTrailingZeros_0f7a4_71 : decode cJ6_numberOfTrailingZeros_0f7a4 71 = .ok (.iconst 2, 1) := by decide +kernel
theorem dJ6_numberOfTrailingZeros_0f7a4_72 : decode cJ6_numberOfTrailingZeros_0f7a4 72 = .ok (.iushr, 1) := by decide +kernel
theorem dJ6_numberOfTrailingZeros_0f7a4_73 : decode cJ6_numberOfTrailingZeros_0f7a4 73 = .ok (.istore_n 0, 1) := by decide +kernel
theorem dJ6_numberOfTrailingZeros_0f7a4_55 : decode cJ6_numberOfTrailingZeros_0f7a4 55 = .ok (.iinc 1 4, 3) := by decide +kernel
theorem dJ6_numberOfTrailingZeros_0f7a4_58 : decode cJ6_numberOfTrailingZeros_0f7a4 58 = .ok (.iload_n 0, 1) := by decide +kernel
theorem dJ6_numberOfTrailingZeros_0f7a4_59 : decode cJ6_numberOfTrailingZeros_0f7a4 59 = .ok (.iconst 4, 1) := by decide +kernel
theorem dJ6_numberOfTrailingZeros_0f7a4_60 : decode cJ6_numberOfTrailingZeros_0f7a4 60 = .ok (.iushr, 1) := by decide +kernel
theorem dJ6_numberOfTrailingZeros_0f7a4_61 : decode cJ6_numberOfTrailingZeros_0f7a4 61 = .ok (.istore_n 0, 1) := by decide +kernel
theorem dJ6_numberOfTrailingZeros_0f7a4_41 : decode cJ6_numberOfTrailingZeros_0f7a4 41 = .ok (.iinc 1 8, 3) := by decide +kernel
theorem dJ6_numberOfTrailingZeros_0f7a4_44 : decode cJ6_numberOfTrailingZeros_0f7a4 44 = .ok (.iload_n 0, 1) := by decide +kernel
theorem dJ6_numberOfTrailingZeros_0f7a4_45 : decode cJ6_numberOfTrailingZeros_0f7a4 45 = .ok (.bipush 8, 2) := by decide +kernel
theorem dJ6_numberOfTrailingZeros_0f7a4_47 : decode cJ6_numberOfTrailingZeros_0f7a4 47 = .ok (.iushr, 1) := by decide +kernel
theorem dJ6_numberOfTrailingZeros_0f7a4_48 : decode cJ6_numberOfTrailingZeros_0f7a4 48 = .ok (.istore_n 0, 1) := by decide +kernel
theorem dJ6_numberOfTrailingZeros_0f7a4_26 : decode cJ6_numberOfTrailingZeros_0f7a4 26 = .ok (.iinc 1 16, 3) := by decide +kernel
theorem dJ6_numberOfTrailingZeros_0f7a4_29 : decode cJ6_numberOfTrailingZeros_0f7a4 29 = .ok (.iload_n 0, 1) := by decide +kernel
theorem dJ6_numberOfTrailingZeros_0f7a4_30 : decode cJ6_numberOfTrailingZeros_0f7a4 30 = .ok (.bipush 16, 2) := by decide +kernel
theorem dJ6_numberOfTrailingZeros_0f7a4_32 : decode cJ6_numberOfTrailingZeros_0f7a4 32 = .ok (.iushr, 1) := by decide +kernel
theorem dJ6_numberOfTrailingZeros_0f7a4_33 : decode cJ6_numberOfTrailingZeros_0f7a4 33 = .ok (.istore_n 0, 1) := by decide +kernel
theorem dJ6_numberOfTrailingZeros_0f7a4_12 : decode cJ6_numberOfTrailingZeros_0f7a4 12 = .ok (.iload_n 0, 1) := by decide +kernel
theorem dJ6_numberOfTrailingZeros_0f7a4_13 : decode cJ6_numberOfTrailingZeros_0f7a4 13 = .ok (.bipush 32, 2) := by decide +kernel
theorem dJ6_numberOfTrailingZeros_0f7a4_15 : decode cJ6_numberOfTrailingZeros_0f7a4 15 = .ok (.iand, 1) := by decide +kernel
theorem dJ6_numberOfTrailingZeros_0f7a4_16 : decode cJ6_numberOfTrailingZeros_0f7a4 16 = .ok (.ireturn, 1) := by decide +kernel
set_option maxRecDepth 100000 in
def fn_wr_ntz (x : Int32) (β : Type) (k_ : Int32 → β) : β := (if 0 < ((x ^^^ (-1)) &&& (x - 1)) then (if ((x ^^^ (-1)) &&& (x - 1)) ≤ 65536 then (if ((x ^^^ (-1)) &&& (x - 1)) ≤ 256 then (if ((x ^^^ (-1)) &&& (x - 1)) ≤ 16 then (if ((x ^^^ (-1)) &&& (x - 1)) ≤ 4 then (k_ (1 + ((Int32.toUInt32 ((x ^^^ (-1)) &&& (x - 1)) >>> (Int32.toUInt32 1 &&& Int32.toUInt32 31)).toInt32))) else (k_ (3 + ((Int32.toUInt32 ((Int32.toUInt32 ((x ^^^ (-1)) &&& (x - 1)) >>> (Int32.toUInt32 2 &&& Int32.toUInt32 31)).toInt32) >>> (Int32.toUInt32 1 &&& Int32.toUInt32 31)).toInt32)))) else (if ((Int32.toUInt32 ((x ^^^ (-1)) &&& (x - 1)) >>> (Int32.toUInt32 4 &&& Int32.toUInt32 31)).toInt32) ≤ 4 then (k_ (5 + ((Int32.toUInt32 ((Int32.toUInt32 ((x ^^^ (-1)) &&& (x - 1)) >>> (Int32.toUInt32 4 &&& Int32.toUInt32 31)).toInt32) >>> (Int32.toUInt32 1 &&& Int32.toUInt32 31)).toInt32))) else (k_ (7 + ((Int32.toUInt32 ((Int32.toUInt32 ((Int32.toUInt32 ((x ^^^ (-1)) &&& (x - 1)) >>> (Int32.toUInt32 4 &&& Int32.toUInt32 31)).toInt32) >>> (Int32.toUInt32 2 &&& Int32.toUInt32 31)).toInt32) >>> (Int32.toUInt32 1 &&& Int32.toUInt32 31)).toInt32))))) else (if ((Int32.toUInt32 ((x ^^^ (-1)) &&& (x - 1)) >>> (Int32.toUInt32 8 &&& Int32.toUInt32 31)).toInt32) ≤ 16 then (if ((Int32.toUInt32 ((x ^^^ (-1)) &&& (x - 1)) >>> (Int32.toUInt32 8 &&& Int32.toUInt32 31)).toInt32) ≤ 4 then (k_ (9 + ((Int32.toUInt32 ((Int32.toUInt32 ((x ^^^ (-1)) &&& (x - 1)) >>> (Int32.toUInt32 8 &&& Int32.toUInt32 31)).toInt32) >>> (Int32.toUInt32 1 &&& Int32.toUInt32 31)).toInt32))) else (k_ (11 + ((Int32.toUInt32 ((Int32.toUInt32 ((Int32.toUInt32 ((x ^^^ (-1)) &&& (x - 1)) >>> (Int32.toUInt32 8 &&& Int32.toUInt32 31)).toInt32) >>> (Int32.toUInt32 2 &&& Int32.toUInt32 31)).toInt32) >>> (Int32.toUInt32 1 &&& Int32.toUInt32 31)).toInt32)))) else (if ((Int32.toUInt32 ((Int32.toUInt32 ((x ^^^ (-1)) &&& (x - 1)) >>> (Int32.toUInt32 8 &&& Int32.toUInt32 31)).toInt32) >>> (Int32.toUInt32 4 &&& Int32.toUInt32 31)).toInt32) ≤ 4 then (k_ (13 + ((Int32.toUInt32 ((Int32.toUInt32 ((Int32.toUInt32 ((x ^^^ (-1)) &&& (x - 1)) >>> (Int32.toUInt32 8 &&& Int32.toUInt32 31)).toInt32) >>> (Int32.toUInt32 4 &&& Int32.toUInt32 31)).toInt32) >>> (Int32.toUInt32 1 &&& Int32.toUInt32 31)).toInt32))) else (k_ (15 + ((Int32.toUInt32 ((Int32.toUInt32 ((Int32.toUInt32 ((Int32.toUInt32 ((x ^^^ (-1)) &&& (x - 1)) >>> (Int32.toUInt32 8 &&& Int32.toUInt32 31)).toInt32) >>> (Int32.toUInt32 4 &&& Int32.toUInt32 31)).toInt32) >>> (Int32.toUInt32 2 &&& Int32.toUInt32 31)).toInt32) >>> (Int32.toUInt32 1 &&& Int32.toUInt32 31)).toInt32)))))) else (if ((Int32.toUInt32 ((x ^^^ (-1)) &&& (x - 1)) >>> (Int32.toUInt32 16 &&& Int32.toUInt32 31)).toInt32) ≤ 256 then (if ((Int32.toUInt32 ((x ^^^ (-1)) &&& (x - 1)) >>> (Int32.toUInt32 16 &&& Int32.toUInt32 31)).toInt32) ≤ 16 then (if ((Int32.toUInt32 ((x ^^^ (-1)) &&& (x - 1)) >>> (Int32.toUInt32 16 &&& Int32.toUInt32 31)).toInt32) ≤ 4 then (k_ (17 + ((Int32.toUInt32 ((Int32.toUInt32 ((x ^^^ (-1)) &&& (x - 1)) >>> (Int32.toUInt32 16 &&& Int32.toUInt32 31)).toInt32) >>> (Int32.toUInt32 1 &&& Int32.toUInt32 31)).toInt32))) else (k_ (19 + ((Int32.toUInt32 ((Int32.toUInt32 ((Int32.toUInt32 ((x ^^^ (-1)) &&& (x - 1)) >>> (Int32.toUInt32 16 &&& Int32.toUInt32 31)).toInt32) >>> (Int32.toUInt32 2 &&& Int32.toUInt32 31)).toInt32) >>> (Int32.toUInt32 1 &&& Int32.toUInt32 31)).toInt32)))) else (if ((Int32.toUInt32 ((Int32.toUInt32 ((x ^^^ (-1)) &&& (x - 1)) >>> (Int32.toUInt32 16 &&& Int32.toUInt32 31)).toInt32) >>> (Int32.toUInt32 4 &&& Int32.toUInt32 31)).toInt32) ≤ 4 then (k_ (21 + ((Int32.toUInt32 ((Int32.toUInt32 ((Int32.toUInt32 ((x ^^^ (-1)) &&& (x - 1)) >>> (Int32.toUInt32 16 &&& Int32.toUInt32 31)).toInt32) >>> (Int32.toUInt32 4 &&& Int32.toUInt32 31)).toInt32) >>> (Int32.toUInt32 1 &&& Int32.toUInt32 31)).toInt32))) else (k_ (23 + ((Int32.toUInt32 ((Int32.toUInt32 ((Int32.toUInt32 ((Int32.toUInt32 ((x ^^^ (-1)) &&& (x - 1)) >>> (Int32.toUInt32 16 &&& Int32.toUInt32 31)).toInt32) >>> (Int32.toUInt32 4 &&& Int32.toUInt32 31)).toInt32) >>> (Int32.toUInt32 2 &&& Int32.toUInt32 31)).toInt32) >>> (Int32.toUInt32 1 &&& Int32.toUInt32 31)).toInt32))))) else (if ((Int32.toUInt32 ((Int32.toUInt32 ((x ^^^ (-1)) &&& (x - 1)) >>> (Int32.toUInt32 16 &&& Int32.toUInt32 31)).toInt32) >>> (Int32.toUInt32 8 &&& Int32.toUInt32 31)).toInt32) ≤ 16 then (if ((Int32.toUInt32 ((Int32.toUInt32 ((x ^^^ (-1)) &&& (x - 1)) >>> (Int32.toUInt32 16 &&& Int32.toUInt32 31)).toInt32) >>> (Int32.toUInt32 8 &&& Int32.toUInt32 31)).toInt32) ≤ 4 then (k_ (25 + ((Int32.toUInt32 ((Int32.toUInt32 ((Int32.toUInt32 ((x ^^^ (-1)) &&& (x - 1)) >>> (Int32.toUInt32 16 &&& Int32.toUInt32 31)).toInt32) >>> (Int32.toUInt32 8 &&& Int32.toUInt32 31)).toInt32) >>> (Int32.toUInt32 1 &&& Int32.toUInt32 31)).toInt32))) else (k_ (27 + ((Int32.toUInt32 ((Int32.toUInt32 ((Int32.toUInt32 ((Int32.toUInt32 ((x ^^^ (-1)) &&& (x - 1)) >>> (Int32.toUInt32 16 &&& Int32.toUInt32 31)).toInt32) >>> (Int32.toUInt32 8 &&& Int32.toUInt32 31)).toInt32) >>> (Int32.toUInt32 2 &&& Int32.toUInt32 31)).toInt32) >>> (Int32.toUInt32 1 &&& Int32.toUInt32 31)).toInt32)))) else (if ((Int32.toUInt32 ((Int32.toUInt32 ((Int32.toUInt32 ((x ^^^ (-1)) &&& (x - 1)) >>> (Int32.toUInt32 16 &&& Int32.toUInt32 31)).toInt32) >>> (Int32.toUInt32 8 &&& Int32.toUInt32 31)).toInt32) >>> (Int32.toUInt32 4 &&& Int32.toUInt32 31)).toInt32) ≤ 4 then (k_ (29 + ((Int32.toUInt32 ((Int32.toUInt32 ((Int32.toUInt32 ((Int32.toUInt32 ((x ^^^ (-1)) &&& (x - 1)) >>> (Int32.toUInt32 16 &&& Int32.toUInt32 31)).toInt32) >>> (Int32.toUInt32 8 &&& Int32.toUInt32 31)).toInt32) >>> (Int32.toUInt32 4 &&& Int32.toUInt32 31)).toInt32) >>> (Int32.toUInt32 1 &&& Int32.toUInt32 31)).toInt32))) else (k_ (31 + ((Int32.toUInt32 ((Int32.toUInt32 ((Int32.toUInt32 ((Int32.toUInt32 ((Int32.toUInt32 ((x ^^^ (-1)) &&& (x - 1)) >>> (Int32.toUInt32 16 &&& Int32.toUInt32 31)).toInt32) >>> (Int32.toUInt32 8 &&& Int32.toUInt32 31)).toInt32) >>> (Int32.toUInt32 4 &&& Int32.toUInt32 31)).toInt32) >>> (Int32.toUInt32 2 &&& Int32.toUInt32 31)).toInt32) >>> (Int32.toUInt32 1 &&& Int32.toUInt32 31)).toInt32))))))) else (k_ (((x ^^^ (-1)) &&& (x - 1)) &&& 32)))
set_option maxRecDepth 100000 in
theorem fn_wr_ntz_s {x : Int32} {β : Type} {k_ : Int32 → β} : fn_wr_ntz x β k_ = (if 0 < ((x ^^^ (-1)) &&& (x - 1)) then (if ((x ^^^ (-1)) &&& (x - 1)) ≤ 65536 then (if ((x ^^^ (-1)) &&& (x - 1)) ≤ 256 then (if ((x ^^^ (-1)) &&& (x - 1)) ≤ 16 then (if ((x ^^^ (-1)) &&& (x - 1)) ≤ 4 then (k_ (1 + ((Int32.toUInt32 ((x ^^^ (-1)) &&& (x - 1)) >>> (Int32.toUInt32 1 &&& Int32.toUInt32 31)).toInt32))) else (k_ (3 + ((Int32.toUInt32 ((Int32.toUInt32 ((x ^^^ (-1)) &&& (x - 1)) >>> (Int32.toUInt32 2 &&& Int32.toUInt32 31)).toInt32) >>> (Int32.toUInt32 1 &&& Int32.toUInt32 31)).toInt32)))) else (if ((Int32.toUInt32 ((x ^^^ (-1)) &&& (x - 1)) >>> (Int32.toUInt32 4 &&& Int32.toUInt32 31)).toInt32) ≤ 4 then (k_ (5 + ((Int32.toUInt32 ((Int32.toUInt32 ((x ^^^ (-1)) &&& (x - 1)) >>> (Int32.toUInt32 4 &&& Int32.toUInt32 31)).toInt32) >>> (Int32.toUInt32 1 &&& Int32.toUInt32 31)).toInt32))) else (k_ (7 + ((Int32.toUInt32 ((Int32.toUInt32 ((Int32.toUInt32 ((x ^^^ (-1)) &&& (x - 1)) >>> (Int32.toUInt32 4 &&& Int32.toUInt32 31)).toInt32) >>> (Int32.toUInt32 2 &&& Int32.toUInt32 31)).toInt32) >>> (Int32.toUInt32 1 &&& Int32.toUInt32 31)).toInt32))))) else (if ((Int32.toUInt32 ((x ^^^ (-1)) &&& (x - 1)) >>> (Int32.toUInt32 8 &&& Int32.toUInt32 31)).toInt32) ≤ 16 then (if ((Int32.toUInt32 ((x ^^^ (-1)) &&& (x - 1)) >>> (Int32.toUInt32 8 &&& Int32.toUInt32 31)).toInt32) ≤ 4 then (k_ (9 + ((Int32.toUInt32 ((Int32.toUInt32 ((x ^^^ (-1)) &&& (x - 1)) >>> (Int32.toUInt32 8 &&& Int32.toUInt32 31)).toInt32) >>> (Int32.toUInt32 1 &&& Int32.toUInt32 31)).toInt32))) else (k_ (11 + ((Int32.toUInt32 ((Int32.toUInt32 ((Int32.toUInt32 ((x ^^^ (-1)) &&& (x - 1)) >>> (Int32.toUInt32 8 &&& Int32.toUInt32 31)).toInt32) >>> (Int32.toUInt32 2 &&& Int32.toUInt32 31)).toInt32) >>> (Int32.toUInt32 1 &&& Int32.toUInt32 31)).toInt32)))) else (if ((Int32.toUInt32 ((Int32.toUInt32 ((x ^^^ (-1)) &&& (x - 1)) >>> (Int32.toUInt32 8 &&& Int32.toUInt32 31)).toInt32) >>> (Int32.toUInt32 4 &&& Int32.toUInt32 31)).toInt32) ≤ 4 then (k_ (13 + ((Int32.toUInt32 ((Int32.toUInt32 ((Int32.toUInt32 ((x ^^^ (-1)) &&& (x - 1)) >>> (Int32.toUInt32 8 &&& Int32.toUInt32 31)).toInt32) >>> (Int32.toUInt32 4 &&& Int32.toUInt32 31)).toInt32) >>> (Int32.toUInt32 1 &&& Int32.toUInt32 31)).toInt32))) else (k_ (15 + ((Int32.toUInt32 ((Int32.toUInt32 ((Int32.toUInt32 ((Int32.toUInt32 ((x ^^^ (-1)) &&& (x - 1)) >>> (Int32.toUInt32 8 &&& Int32.toUInt32 31)).toInt32) >>> (Int32.toUInt32 4 &&& Int32.toUInt32 31)).toInt32) >>> (Int32.toUInt32 2 &&& Int32.toUInt32 31)).toInt32) >>> (Int32.toUInt32 1 &&& Int32.toUInt32 31)).toInt32)))))) else (if ((Int32.toUInt32 ((x ^^^ (-1)) &&& (x - 1)) >>> (Int32.toUInt32 16 &&& Int32.toUInt32 31)).toInt32) ≤ 256 then (if ((Int32.toUInt32 ((x ^^^ (-1)) &&& (x - 1)) >>> (Int32.toUInt32 16 &&& Int32.toUInt32 31)).toInt32) ≤ 16 then (if ((Int32.toUInt32 ((x ^^^ (-1)) &&& (x - 1)) >>> (Int32.toUInt32 16 &&& Int32.toUInt32 31)).toInt32) ≤ 4 then (k_ (17 + ((Int32.toUInt32 ((Int32.toUInt32 ((x ^^^ (-1)) &&& (x - 1)) >>> (Int32.toUInt32 16 &&& Int32.toUInt32 31)).toInt32) >>> (Int32.toUInt32 1 &&& Int32.toUInt32 31)).toInt32))) else (k_ (19 + ((Int32.toUInt32 ((Int32.toUInt32 ((Int32.toUInt32 ((x ^^^ (-1)) &&& (x - 1)) >>> (Int32.toUInt32 16 &&& Int32.toUInt32 31)).toInt32) >>> (Int32.toUInt32 2 &&& Int32.toUInt32 31)).toInt32) >>> (Int32.toUInt32 1 &&& Int32.toUInt32 31)).toInt32)))) else (if ((Int32.toUInt32 ((Int32.toUInt32 ((x ^^^ (-1)) &&& (x - 1)) >>> (Int32.toUInt32 16 &&& Int32.toUInt32 31)).toInt32) >>> (Int32.toUInt32 4 &&& Int32.toUInt32 31)).toInt32) ≤ 4 then (k_ (21 + ((Int32.toUInt32 ((Int32.toUInt32 ((Int32.toUInt32 ((x ^^^ (-1)) &&& (x - 1)) >>> (Int32.toUInt32 16 &&& Int32.toUInt32 31)).toInt32) >>> (Int32.toUInt32 4 &&& Int32.toUInt32 31)).toInt32) >>> (Int32.toUInt32 1 &&& Int32.toUInt32 31)).toInt32))) else (k_ (23 + ((Int32.toUInt32 ((Int32.toUInt32 ((Int32.toUInt32 ((Int32.toUInt32 ((x ^^^ (-1)) &&& (x - 1)) >>> (Int32.toUInt32 16 &&& Int32.toUInt32 31)).toInt32) >>> (Int32.toUInt32 4 &&& Int32.toUInt32 31)).toInt32) >>> (Int32.toUInt32 2 &&& Int32.toUInt32 31)).toInt32) >>> (Int32.toUInt32 1 &&& Int32.toUInt32 31)).toInt32))))) else (if ((Int32.toUInt32 ((Int32.toUInt32 ((x ^^^ (-1)) &&& (x - 1)) >>> (Int32.toUInt32 16 &&& Int32.toUInt32 31)).toInt32) >>> (Int32.toUInt32 8 &&& Int32.toUInt32 31)).toInt32) ≤ 16 then (if ((Int32.toUInt32 ((Int32.toUInt32 ((x ^^^ (-1)) &&& (x - 1)) >>> (Int32.toUInt32 16 &&& Int32.toUInt32 31)).toInt32) >>> (Int32.toUInt32 8 &&& Int32.toUInt32 31)).toInt32) ≤ 4 then (k_ (25 + ((Int32.toUInt32 ((Int32.toUInt32 ((Int32.toUInt32 ((x ^^^ (-1)) &&& (x - 1)) >>> (Int32.toUInt32 16 &&& Int32.toUInt32 31)).toInt32) >>> (Int32.toUInt32 8 &&& Int32.toUInt32 31)).toInt32) >>> (Int32.toUInt32 1 &&& Int32.toUInt32 31)).toInt32))) else (k_ (27 + ((Int32.toUInt32 ((Int32.toUInt32 ((Int32.toUInt32 ((Int32.toUInt32 ((x ^^^ (-1)) &&& (x - 1)) >>> (Int32.toUInt32 16 &&& Int32.toUInt32 31)).toInt32) >>> (Int32.toUInt32 8 &&& Int32.toUInt32 31)).toInt32) >>> (Int32.toUInt32 2 &&& Int32.toUInt32 31)).toInt32) >>> (Int32.toUInt32 1 &&& Int32.toUInt32 31)).toInt32)))) else (if ((Int32.toUInt32 ((Int32.toUInt32 ((Int32.toUInt32 ((x ^^^ (-1)) &&& (x - 1)) >>> (Int32.toUInt32 16 &&& Int32.toUInt32 31)).toInt32) >>> (Int32.toUInt32 8 &&& Int32.toUInt32 31)).toInt32) >>> (Int32.toUInt32 4 &&& Int32.toUInt32 31)).toInt32) ≤ 4 then (k_ (29 + ((Int32.toUInt32 ((Int32.toUInt32 ((Int32.toUInt32 ((Int32.toUInt32 ((x ^^^ (-1)) &&& (x - 1)) >>> (Int32.toUInt32 16 &&& Int32.toUInt32 31)).toInt32) >>> (Int32.toUInt32 8 &&& Int32.toUInt32 31)).toInt32) >>> (Int32.toUInt32 4 &&& Int32.toUInt32 31)).toInt32) >>> (Int32.toUInt32 1 &&& Int32.toUInt32 31)).toInt32))) else (k_ (31 + ((Int32.toUInt32 ((Int32.toUInt32 ((Int32.toUInt32 ((Int32.toUInt32 ((Int32.toUInt32 ((x ^^^ (-1)) &&& (x - 1)) >>> (Int32.toUInt32 16 &&& Int32.toUInt32 31)).toInt32) >>> (Int32.toUInt32 8 &&& Int32.toUInt32 31)).toInt32) >>> (Int32.toUInt32 4 &&& Int32.toUInt32 31)).toInt32) >>> (Int32.toUInt32 2 &&& Int32.toUInt32 31)).toInt32) >>> (Int32.toUInt32 1 &&& Int32.toUInt32 31)).toInt32))))))) else (k_ (((x ^^^ (-1)) &&& (x - 1)) &&& 32))) := rfl
set_option maxRecDepth 100000 in
set_option maxHeartbeats 4000000 in
theorem wr_ntz (E : g_E) (x : Int32)  : Ev E MJ6_numberOfTrailingZeros_0f7a4 0 0 0 0 [.int x] [] (fun v_ w_ => ∃ zr : Int32, (∀ (β : Type) (k_ : Int32 → β), fn_wr_ntz x β k_ = k_ zr) ∧ v_ = some (.int zr) ∧ w_ = []) := by
  refine Ev.intro (by decide) (Nat.le_of_ble_eq_true rfl) ?_
  intro X B hr hI
  have B : Bd E X cJ6_numberOfTrailingZeros_0f7a4 RJ6 2 0 0 0 0 := B
  have hr : Rt E X (some .int) 0 0 (fun v_ w_ => ∃ zr : Int32, (∀ (β : Type) (k_ : Int32 → β), fn_wr_ntz x β k_ = k_ zr) ∧ v_ = some (.int zr) ∧ w_ = []) := hr
  have e_ := fun (β : Type) (k_ : Int32 → β) => fn_wr_ntz_s (β := β) (k_ := k_) (x := x)
  show G E X 2 [] 0 0 [(0, .int x)] 0 []
  refine g_iload_n B dJ6_numberOfTrailingZeros_0f7a4_0 rfl 0 rfl ?_
  refine g_iconst (v := (-1)) B dJ6_numberOfTrailingZeros_0f7a4_1 (by decide) ?_
  refine g_ixor B dJ6_numberOfTrailingZeros_0f7a4_2 ?_
  refine g_iload_n B dJ6_numberOfTrailingZeros_0f7a4_3 rfl 0 rfl ?_
  refine g_iconst (v := 1) B dJ6_numberOfTrailingZeros_0f7a4_4 (by decide) ?_
  refine g_isub B dJ6_numberOfTrailingZeros_0f7a4_5 ?_
  refine g_iand B dJ6_numberOfTrailingZeros_0f7a4_6 ?_
  refine g_istore_n (lv' := [(0, .int ((x ^^^ (-1)) &&& (x - 1)))]) B dJ6_numberOfTrailingZeros_0f7a4_7 rfl (by decide) rfl ?_
  refine g_iload_n B dJ6_numberOfTrailingZeros_0f7a4_8 rfl 0 rfl ?_
  refine g_if_gt (tgt := 17) B dJ6_numberOfTrailingZeros_0f7a4_9 (by decide) (fun c9_2668 => ?_) (fun c9_2668 => ?_)
  · replace e_ := fun β k_ => (e_ β k_).trans (if_pos c9_2668)
    refine g_iconst (v := 1) B dJ6_numberOfTrailingZeros_0f7a4_17 (by decide) ?_
    refine g_istore_n (lv' := [(1, .int 1), (0, .int ((x ^^^ (-1)) &&& (x - 1)))]) B dJ6_numberOfTrailingZeros_0f7a4_18 rfl (by decide) rfl ?_
    refine g_iload_n B dJ6_numberOfTrailingZeros_0f7a4_19 rfl 1 rfl ?_
    refine g_ldcw (v := 65536) B w_k_J6_264 dJ6_numberOfTrailingZeros_0f7a4_20 ?_
    refine g_icmp_le (tgt := 34) B dJ6_numberOfTrailingZeros_0f7a4_23 (by decide) (fun c23_2669 => ?_) (fun c23_2669 => ?_)
    · replace e_ := fun β k_ => (e_ β k_).trans (if_pos c23_2669)
      refine g_iload_n B dJ6_numberOfTrailingZeros_0f7a4_34 rfl 1 rfl ?_
      refine g_sipush (v := 256) B dJ6_numberOfTrailingZeros_0f7a4_35 (by decide) ?_
      refine g_icmp_le (tgt := 49) B dJ6_numberOfTrailingZeros_0f7a4_38 (by decide) (fun c38_2670 => ?_) (fun c38_2670 => ?_)
      · replace e_ := fun β k_ => (e_ β k_).trans (if_pos c38_2670)
        refine g_iload_n B dJ6_numberOfTrailingZeros_0f7a4_49 rfl 1 rfl ?_
        refine g_bipush (v := 16) B dJ6_numberOfTrailingZeros_0f7a4_50 (by decide) ?_
        refine g_icmp_le (tgt := 62) B dJ6_numberOfTrailingZeros_0f7a4_52 (by decide) (fun c52_2671 => ?_) (fun c52_2671 => ?_)
        · replace e_ := fun β k_ => (e_ β k_).trans (if_pos c52_2671)
          refine g_iload_n B dJ6_numberOfTrailingZeros_0f7a4_62 rfl 1 rfl ?_
          refine g_iconst (v := 4) B dJ6_numberOfTrailingZeros_0f7a4_63 (by decide) ?_
          refine g_icmp_le (tgt := 74) B dJ6_numberOfTrailingZeros_0f7a4_64 (by decide) (fun c64_2672 => ?_) (fun c64_2672 => ?_)
          · replace e_ := fun β k_ => (e_ β k_).trans (if_pos c64_2672)
            refine g_iload_n B dJ6_numberOfTrailingZeros_0f7a4_74 rfl 0 rfl ?_
            refine g_iload_n B dJ6_numberOfTrailingZeros_0f7a4_75 rfl 1 rfl ?_
            refine g_iconst (v := 1) B dJ6_numberOfTrailingZeros_0f7a4_76 (by decide) ?_
            refine g_iushr B dJ6_numberOfTrailingZeros_0f7a4_77 ?_
            refine g_iadd B dJ6_numberOfTrailingZeros_0f7a4_78 ?_
            exact g_iret B hr dJ6_numberOfTrailingZeros_0f7a4_79 (by decide) (by decide) ⟨(1 + ((Int32.toUInt32 ((x ^^^ (-1)) &&& (x - 1)) >>> (Int32.toUInt32 1 &&& Int32.toUInt32 31)).toInt32)), e_, rfl, rfl⟩
          · replace e_ := fun β k_ => (e_ β k_).trans (if_neg c64_2672)
            refine g_iinc (v := 3) (lv' := [(1, .int 3), (0, .int ((x ^^^ (-1)) &&& (x - 1)))]) B dJ6_numberOfTrailingZeros_0f7a4_67 0 rfl (by decide) (by decide) rfl ?_
            refine g_iload_n B dJ6_numberOfTrailingZeros_0f7a4_70 rfl 1 rfl ?_
            refine g_iconst (v := 2) B dJ6_numberOfTrailingZeros_0f7a4_71 (by decide) ?_
            refine g_iushr B dJ6_numberOfTrailingZeros_0f7a4_72 ?_
            refine g_istore_n (lv' := [(0, .int ((Int32.toUInt32 ((x ^^^ (-1)) &&& (x - 1)) >>> (Int32.toUInt32 2 &&& Int32.toUInt32 31)).toInt32)), (1, .int 3)]) B dJ6_numberOfTrailingZeros_0f7a4_73 rfl (by decide) rfl ?_
            refine g_iload_n B dJ6_numberOfTrailingZeros_0f7a4_74 rfl 1 rfl ?_
            refine g_iload_n B dJ6_numberOfTrailingZeros_0f7a4_75 rfl 0 rfl ?_
            refine g_iconst (v := 1) B dJ6_numberOfTrailingZeros_0f7a4_76 (by decide) ?_
            refine g_iushr B dJ6_numberOfTrailingZeros_0f7a4_77 ?_
            refine g_iadd B dJ6_numberOfTrailingZeros_0f7a4_78 ?_
            exact g_iret B hr dJ6_numberOfTrailingZeros_0f7a4_79 (by decide) (by decide) ⟨(3 + ((Int32.toUInt32 ((Int32.toUInt32 ((x ^^^ (-1)) &&& (x - 1)) >>> (Int32.toUInt32 2 &&& Int32.toUInt32 31)).toInt32) >>> (Int32.toUInt32 1 &&& Int32.toUInt32 31)).toInt32)), e_, rfl, rfl⟩
        · replace e_ := fun β k_ => (e_ β k_).trans (if_neg c52_2671)
          refine g_iinc (v := 5) (lv' := [(1, .int 5), (0, .int ((x ^^^ (-1)) &&& (x - 1)))]) B dJ6_numberOfTrailingZeros_0f7a4_55 0 rfl (by decide) (by decide) rfl ?_
          refine g_iload_n B dJ6_numberOfTrailingZeros_0f7a4_58 rfl 1 rfl ?_
          refine g_iconst (v := 4) B dJ6_numberOfTrailingZeros_0f7a4_59 (by decide) ?_
          refine g_iushr B dJ6_numberOfTrailingZeros_0f7a4_60 ?_
          refine g_istore_n (lv' := [(0, .int ((Int32.toUInt32 ((x ^^^ (-1)) &&& (x - 1)) >>> (Int32.toUInt32 4 &&& Int32.toUInt32 31)).toInt32)), (1, .int 5)]) B dJ6_numberOfTrailingZeros_0f7a4_61 rfl (by decide) rfl ?_
          refine g_iload_n B dJ6_numberOfTrailingZeros_0f7a4_62 rfl 0 rfl ?_
          refine g_iconst (v := 4) B dJ6_numberOfTrailingZeros_0f7a4_63 (by decide) ?_
          refine g_icmp_le (tgt := 74) B dJ6_numberOfTrailingZeros_0f7a4_64 (by decide) (fun c64_2673 => ?_) (fun c64_2673 => ?_)
          · replace e_ := fun β k_ => (e_ β k_).trans (if_pos c64_2673)
            refine g_iload_n B dJ6_numberOfTrailingZeros_0f7a4_74 rfl 1 rfl ?_
            refine g_iload_n B dJ6_numberOfTrailingZeros_0f7a4_75 rfl 0 rfl ?_
            refine g_iconst (v := 1) B dJ6_numberOfTrailingZeros_0f7a4_76 (by decide) ?_
            refine g_iushr B dJ6_numberOfTrailingZeros_0f7a4_77 ?_
            refine g_iadd B dJ6_numberOfTrailingZeros_0f7a4_78 ?_
            exact g_iret B hr dJ6_numberOfTrailingZeros_0f7a4_79 (by decide) (by decide) ⟨(5 + ((Int32.toUInt32 ((Int32.toUInt32 ((x ^^^ (-1)) &&& (x - 1)) >>> (Int32.toUInt32 4 &&& Int32.toUInt32 31)).toInt32) >>> (Int32.toUInt32 1 &&& Int32.toUInt32 31)).toInt32)), e_, rfl, rfl⟩
          · replace e_ := fun β k_ => (e_ β k_).trans (if_neg c64_2673)
            refine g_iinc (v := 7) (lv' := [(1, .int 7), (0, .int ((Int32.toUInt32 ((x ^^^ (-1)) &&& (x - 1)) >>> (Int32.toUInt32 4 &&& Int32.toUInt32 31)).toInt32))]) B dJ6_numberOfTrailingZeros_0f7a4_67 1 rfl (by decide) (by decide) rfl ?_
            refine g_iload_n B dJ6_numberOfTrailingZeros_0f7a4_70 rfl 1 rfl ?_
            refine g_iconst (v := 2) B dJ6_numberOfTrailingZeros_0f7a4_71 (by decide) ?_
            refine g_iushr B dJ6_numberOfTrailingZeros_0f7a4_72 ?_
            refine g_istore_n (lv' := [(0, .int ((Int32.toUInt32 ((Int32.toUInt32 ((x ^^^ (-1)) &&& (x - 1)) >>> (Int32.toUInt32 4 &&& Int32.toUInt32 31)).toInt32) >>> (Int32.toUInt32 2 &&& Int32.toUInt32 31)).toInt32)), (1, .int 7)]) B dJ6_numberOfTrailingZeros_0f7a4_73 rfl (by decide) rfl ?_
            refine g_iload_n B dJ6_numberOfTrailingZeros_0f7a4_74 rfl 1 rfl ?_
            refine g_iload_n B dJ6_numberOfTrailingZeros_0f7a4_75 rfl 0 rfl ?_
            refine g_iconst (v := 1) B dJ6_numberOfTrailingZeros_0f7a4_76 (by decide) ?_
            refine g_iushr B dJ6_numberOfTrailingZeros_0f7a4_77 ?_
            refine g_iadd B dJ6_numberOfTrailingZeros_0f7a4_78 ?_
            exact g_iret B hr dJ6_numberOfTrailingZeros_0f7a4_79 (by decide) (by decide) ⟨(7 + ((Int32.toUInt32 ((Int32.toUInt32 ((Int32.toUInt32 ((x ^^^ (-1)) &&& (x - 1)) >>> (Int32.toUInt32 4 &&& Int32.toUInt32 31)).toInt32) >>> (Int32.toUInt32 2 &&& Int32.toUInt32 31)).toInt32) >>> (Int32.toUInt32 1 &&& Int32.toUInt32 31)).toInt32)), e_, rfl, rfl⟩
      · replace e_ := fun β k_ => (e_ β k_).trans (if_neg c38_2670)
        refine g_iinc (v := 9) (lv' := [(1, .int 9), (0, .int ((x ^^^ (-1)) &&& (x - 1)))]) B dJ6_numberOfTrailingZeros_0f7a4_41 0 rfl (by decide) (by decide) rfl ?_
        refine g_iload_n B dJ6_numberOfTrailingZeros_0f7a4_44 rfl 1 rfl ?_
        refine g_bipush (v := 8) B dJ6_numberOfTrailingZeros_0f7a4_45 (by decide) ?_
        refine g_iushr B dJ6_numberOfTrailingZeros_0f7a4_47 ?_
        refine g_istore_n (lv' := [(0, .int ((Int32.toUInt32 ((x ^^^ (-1)) &&& (x - 1)) >>> (Int32.toUInt32 8 &&& Int32.toUInt32 31)).toInt32)), (1, .int 9)]) B dJ6_numberOfTrailingZeros_0f7a4_48 rfl (by decide) rfl ?_
        refine g_iload_n B dJ6_numberOfTrailingZeros_0f7a4_49 rfl 0 rfl ?_
        refine g_bipush (v := 16) B dJ6_numberOfTrailingZeros_0f7a4_50 (by decide) ?_
        refine g_icmp_le (tgt := 62) B dJ6_numberOfTrailingZeros_0f7a4_52 (by decide) (fun c52_2674 => ?_) (fun c52_2674 => ?_)
        · replace e_ := fun β k_ => (e_ β k_).trans (if_pos c52_2674)
          refine g_iload_n B dJ6_numberOfTrailingZeros_0f7a4_62 rfl 0 rfl ?_
          refine g_iconst (v := 4) B dJ6_numberOfTrailingZeros_0f7a4_63 (by decide) ?_
          refine g_icmp_le (tgt := 74) B dJ6_numberOfTrailingZeros_0f7a4_64 (by decide) (fun c64_2675 => ?_) (fun c64_2675 => ?_)
          · replace e_ := fun β k_ => (e_ β k_).trans (if_pos c64_2675)
            refine g_iload_n B dJ6_numberOfTrailingZeros_0f7a4_74 rfl 1 rfl ?_
            refine g_iload_n B dJ6_numberOfTrailingZeros_0f7a4_75 rfl 0 rfl ?_
            refine g_iconst (v := 1) B dJ6_numberOfTrailingZeros_0f7a4_76 (by decide) ?_
            refine g_iushr B dJ6_numberOfTrailingZeros_0f7a4_77 ?_
            refine g_iadd B dJ6_numberOfTrailingZeros_0f7a4_78 ?_
            exact g_iret B hr dJ6_numberOfTrailingZeros_0f7a4_79 (by decide) (by decide) ⟨(9 + ((Int32.toUInt32 ((Int32.toUInt32 ((x ^^^ (-1)) &&& (x - 1)) >>> (Int32.toUInt32 8 &&& Int32.toUInt32 31)).toInt32) >>> (Int32.toUInt32 1 &&& Int32.toUInt32 31)).toInt32)), e_, rfl, rfl⟩
          · replace e_ := fun β k_ => (e_ β k_).trans (if_neg c64_2675)
            refine g_iinc (v := 11) (lv' := [(1, .int 11), (0, .int ((Int32.toUInt32 ((x ^^^ (-1)) &&& (x - 1)) >>> (Int32.toUInt32 8 &&& Int32.toUInt32 31)).toInt32))]) B dJ6_numberOfTrailingZeros_0f7a4_67 1 rfl (by decide) (by decide) rfl ?_
            refine g_iload_n B dJ6_numberOfTrailingZeros_0f7a4_70 rfl 1 rfl ?_
            refine g_iconst (v := 2) B dJ6_numberOfTrailingZeros_0f7a4_71 (by decide) ?_
            refine g_iushr B dJ6_numberOfTrailingZeros_0f7a4_72 ?_
            refine g_istore_n (lv' := [(0, .int ((Int32.toUInt32 ((Int32.toUInt32 ((x ^^^ (-1)) &&& (x - 1)) >>> (Int32.toUInt32 8 &&& Int32.toUInt32 31)).toInt32) >>> (Int32.toUInt32 2 &&& Int32.toUInt32 31)).toInt32)), (1, .int 11)]) B dJ6_numberOfTrailingZeros_0f7a4_73 rfl (by decide) rfl ?_
            refine g_iload_n B dJ6_numberOfTrailingZeros_0f7a4_74 rfl 1 rfl ?_
            refine g_iload_n B dJ6_numberOfTrailingZeros_0f7a4_75 rfl 0 rfl ?_
            refine g_iconst (v := 1) B dJ6_numberOfTrailingZeros_0f7a4_76 (by decide) ?_
            refine g_iushr B dJ6_numberOfTrailingZeros_0f7a4_77 ?_
            refine g_iadd B dJ6_numberOfTrailingZeros_0f7a4_78 ?_
            exact g_iret B hr dJ6_numberOfTrailingZeros_0f7a4_79 (by decide) (by decide) ⟨(11 + ((Int32.toUInt32 ((Int32.toUInt32 ((Int32.toUInt32 ((x ^^^ (-1)) &&& (x - 1)) >>> (Int32.toUInt32 8 &&& Int32.toUInt32 31)).toInt32) >>> (Int32.toUInt32 2 &&& Int32.toUInt32 31)).toInt32) >>> (Int32.toUInt32 1 &&& Int32.toUInt32 31)).toInt32)), e_, rfl, rfl⟩
        · replace e_ := fun β k_ => (e_ β k_).trans (if_neg c52_2674)
          refine g_iinc (v := 13) (lv' := [(1, .int 13), (0, .int ((Int32.toUInt32 ((x ^^^ (-1)) &&& (x - 1)) >>> (Int32.toUInt32 8 &&& Int32.toUInt32 31)).toInt32))]) B dJ6_numberOfTrailingZeros_0f7a4_55 1 rfl (by decide) (by decide) rfl ?_
          refine g_iload_n B dJ6_numberOfTrailingZeros_0f7a4_58 rfl 1 rfl ?_
          refine g_iconst (v := 4) B dJ6_numberOfTrailingZeros_0f7a4_59 (by decide) ?_
          refine g_iushr B dJ6_numberOfTrailingZeros_0f7a4_60 ?_
          refine g_istore_n (lv' := [(0, .int ((Int32.toUInt32 ((Int32.toUInt32 ((x ^^^ (-1)) &&& (x - 1)) >>> (Int32.toUInt32 8 &&& Int32.toUInt32 31)).toInt32) >>> (Int32.toUInt32 4 &&& Int32.toUInt32 31)).toInt32)), (1, .int 13)]) B dJ6_numberOfTrailingZeros_0f7a4_61 rfl (by decide) rfl ?_
          refine g_iload_n B dJ6_numberOfTrailingZeros_0f7a4_62 rfl 0 rfl ?_
          refine g_iconst (v := 4) B dJ6_numberOfTrailingZeros_0f7a4_63 (by decide) ?_
          refine g_icmp_le (tgt := 74) B dJ6_numberOfTrailingZeros_0f7a4_64 (by decide) (fun c64_2676 => ?_) (fun c64_2676 => ?_)
          · replace e_ := fun β k_ => (e_ β k_).trans (if_pos c64_2676)
            refine g_iload_n B dJ6_numberOfTrailingZeros_0f7a4_74 rfl 1 rfl ?_
            refine g_iload_n B dJ6_numberOfTrailingZeros_0f7a4_75 rfl 0 rfl ?_
            refine g_iconst (v := 1) B dJ6_numberOfTrailingZeros_0f7a4_76 (by decide) ?_
            refine g_iushr B dJ6_numberOfTrailingZeros_0f7a4_77 ?_
            refine g_iadd B dJ6_numberOfTrailingZeros_0f7a4_78 ?_
            exact g_iret B hr dJ6_numberOfTrailingZeros_0f7a4_79 (by decide) (by decide) ⟨(13 + ((Int32.toUInt32 ((Int32.toUInt32 ((Int32.toUInt32 ((x ^^^ (-1)) &&& (x - 1)) >>> (Int32.toUInt32 8 &&& Int32.toUInt32 31)).toInt32) >>> (Int32.toUInt32 4 &&& Int32.toUInt32 31)).toInt32) >>> (Int32.toUInt32 1 &&& Int32.toUInt32 31)).toInt32)), e_, rfl, rfl⟩
          · replace e_ := fun β k_ => (e_ β k_).trans (if_neg c64_2676)
            refine g_iinc (v := 15) (lv' := [(1, .int 15), (0, .int ((Int32.toUInt32 ((Int32.toUInt32 ((x ^^^ (-1)) &&& (x - 1)) >>> (Int32.toUInt32 8 &&& Int32.toUInt32 31)).toInt32) >>> (Int32.toUInt32 4 &&& Int32.toUInt32 31)).toInt32))]) B dJ6_numberOfTrailingZeros_0f7a4_67 1 rfl (by decide) (by decide) rfl ?_
            refine g_iload_n B dJ6_numberOfTrailingZeros_0f7a4_70 rfl 1 rfl ?_
            refine g_iconst (v := 2) B dJ6_numberOfTrailingZeros_0f7a4_71 (by decide) ?_
            refine g_iushr B dJ6_numberOfTrailingZeros_0f7a4_72 ?_
            refine g_istore_n (lv' := [(0, .int ((Int32.toUInt32 ((Int32.toUInt32 ((Int32.toUInt32 ((x ^^^ (-1)) &&& (x - 1)) >>> (Int32.toUInt32 8 &&& Int32.toUInt32 31)).toInt32) >>> (Int32.toUInt32 4 &&& Int32.toUInt32 31)).toInt32) >>> (Int32.toUInt32 2 &&& Int32.toUInt32 31)).toInt32)), (1, .int 15)]) B dJ6_numberOfTrailingZeros_0f7a4_73 rfl (by decide) rfl ?_
            refine g_iload_n B dJ6_numberOfTrailingZeros_0f7a4_74 rfl 1 rfl ?_
            refine g_iload_n B dJ6_numberOfTrailingZeros_0f7a4_75 rfl 0 rfl ?_
            refine g_iconst (v := 1) B dJ6_numberOfTrailingZeros_0f7a4_76 (by decide) ?_
            refine g_iushr B dJ6_numberOfTrailingZeros_0f7a4_77 ?_
            refine g_iadd B dJ6_numberOfTrailingZeros_0f7a4_78 ?_
            exact g_iret B hr dJ6_numberOfTrailingZeros_0f7a4_79 (by decide) (by decide) ⟨(15 + ((Int32.toUInt32 ((Int32.toUInt32 ((Int32.toUInt32 ((Int32.toUInt32 ((x ^^^ (-1)) &&& (x - 1)) >>> (Int32.toUInt32 8 &&& Int32.toUInt32 31)).toInt32) >>> (Int32.toUInt32 4 &&& Int32.toUInt32 31)).toInt32) >>> (Int32.toUInt32 2 &&& Int32.toUInt32 31)).toInt32) >>> (Int32.toUInt32 1 &&& Int32.toUInt32 31)).toInt32)), e_, rfl, rfl⟩
    · replace e_ := fun β k_ => (e_ β k_).trans (if_neg c23_2669)
      refine g_iinc (v := 17) (lv' := [(1, .int 17), (0, .int ((x ^^^ (-1)) &&& (x - 1)))]) B dJ6_numberOfTrailingZeros_0f7a4_26 0 rfl (by decide) (by decide) rfl ?_
      refine g_iload_n B dJ6_numberOfTrailingZeros_0f7a4_29 rfl 1 rfl ?_
      refine g_bipush (v := 16) B dJ6_numberOfTrailingZeros_0f7a4_30 (by decide) ?_
      refine g_iushr B dJ6_numberOfTrailingZeros_0f7a4_32 ?_
      refine g_istore_n (lv' := [(0, .int ((Int32.toUInt32 ((x ^^^ (-1)) &&& (x - 1)) >>> (Int32.toUInt32 16 &&& Int32.toUInt32 31)).toInt32)), (1, .int 17)]) B dJ6_numberOfTrailingZeros_0f7a4_33 rfl (by decide) rfl ?_
      refine g_iload_n B dJ6_numberOfTrailingZeros_0f7a4_34 rfl 0 rfl ?_
      refine g_sipush (v := 256) B dJ6_numberOfTrailingZeros_0f7a4_35 (by decide) ?_
      refine g_icmp_le (tgt := 49) B dJ6_numberOfTrailingZeros_0f7a4_38 (by decide) (fun c38_2677 => ?_) (fun c38_2677 => ?_)
      · replace e_ := fun β k_ => (e_ β k_).trans (if_pos c38_2677)
        refine g_iload_n B dJ6_numberOfTrailingZeros_0f7a4_49 rfl 0 rfl ?_
        refine g_bipush (v := 16) B dJ6_numberOfTrailingZeros_0f7a4_50 (by decide) ?_
        refine g_icmp_le (tgt := 62) B dJ6_numberOfTrailingZeros_0f7a4_52 (by decide) (fun c52_2678 => ?_) (fun c52_2678 => ?_)
        · replace e_ := fun β k_ => (e_ β k_).trans (if_pos c52_2678)
          refine g_iload_n B dJ6_numberOfTrailingZeros_0f7a4_62 rfl 0 rfl ?_
          refine g_iconst (v := 4) B dJ6_numberOfTrailingZeros_0f7a4_63 (by decide) ?_
          refine g_icmp_le (tgt := 74) B dJ6_numberOfTrailingZeros_0f7a4_64 (by decide) (fun c64_2679 => ?_) (fun c64_2679 => ?_)
          · replace e_ := fun β k_ => (e_ β k_).trans (if_pos c64_2679)
            refine g_iload_n B dJ6_numberOfTrailingZeros_0f7a4_74 rfl 1 rfl ?_
            refine g_iload_n B dJ6_numberOfTrailingZeros_0f7a4_75 rfl 0 rfl ?_
            refine g_iconst (v := 1) B dJ6_numberOfTrailingZeros_0f7a4_76 (by decide) ?_
            refine g_iushr B dJ6_numberOfTrailingZeros_0f7a4_77 ?_
            refine g_iadd B dJ6_numberOfTrailingZeros_0f7a4_78 ?_
            exact g_iret B hr dJ6_numberOfTrailingZeros_0f7a4_79 (by decide) (by decide) ⟨(17 + ((Int32.toUInt32 ((Int32.toUInt32 ((x ^^^ (-1)) &&& (x - 1)) >>> (Int32.toUInt32 16 &&& Int32.toUInt32 31)).toInt32) >>> (Int32.toUInt32 1 &&& Int32.toUInt32 31)).toInt32)), e_, rfl, rfl⟩
          · replace e_ := fun β k_ => (e_ β k_).trans (if_neg c64_2679)
            refine g_iinc (v := 19) (lv' := [(1, .int 19), (0, .int ((Int32.toUInt32 ((x ^^^ (-1)) &&& (x - 1)) >>> (Int32.toUInt32 16 &&& Int32.toUInt32 31)).toInt32))]) B dJ6_numberOfTrailingZeros_0f7a4_67 1 rfl (by decide) (by decide) rfl ?_
            refine g_iload_n B dJ6_numberOfTrailingZeros_0f7a4_70 rfl 1 rfl ?_
            refine g_iconst (v := 2) B dJ6_numberOfTrailingZeros_0f7a4_71 (by decide) ?_
            refine g_iushr B dJ6_numberOfTrailingZeros_0f7a4_72 ?_
            refine g_istore_n (lv' := [(0, .int ((Int32.toUInt32 ((Int32.toUInt32 ((x ^^^ (-1)) &&& (x - 1)) >>> (Int32.toUInt32 16 &&& Int32.toUInt32 31)).toInt32) >>> (Int32.toUInt32 2 &&& Int32.toUInt32 31)).toInt32)), (1, .int 19)]) B dJ6_numberOfTrailingZeros_0f7a4_73 rfl (by decide) rfl ?_
            refine g_iload_n B dJ6_numberOfTrailingZeros_0f7a4_74 rfl 1 rfl ?_
            refine g_iload_n B dJ6_numberOfTrailingZeros_0f7a4_75 rfl 0 rfl ?_
            refine g_iconst (v := 1) B dJ6_numberOfTrailingZeros_0f7a4_76 (by decide) ?_
            refine g_iushr B dJ6_numberOfTrailingZeros_0f7a4_77 ?_
            refine g_iadd B dJ6_numberOfTrailingZeros_0f7a4_78 ?_
            exact g_iret B hr dJ6_numberOfTrailingZeros_0f7a4_79 (by decide) (by decide) ⟨(19 + ((Int32.toUInt32 ((Int32.toUInt32 ((Int32.toUInt32 ((x ^^^ (-1)) &&& (x - 1)) >>> (Int32.toUInt32 16 &&& Int32.toUInt32 31)).toInt32) >>> (Int32.toUInt32 2 &&& Int32.toUInt32 31)).toInt32) >>> (Int32.toUInt32 1 &&& Int32.toUInt32 31)).toInt32)), e_, rfl, rfl⟩
        · replace e_ := fun β k_ => (e_ β k_).trans (if_neg c52_2678)
          refine g_iinc (v := 21) (lv' := [(1, .int 21), (0, .int ((Int32.toUInt32 ((x ^^^ (-1)) &&& (x - 1)) >>> (Int32.toUInt32 16 &&& Int32.toUInt32 31)).toInt32))]) B dJ6_numberOfTrailingZeros_0f7a4_55 1 rfl (by decide) (by decide) rfl ?_
          refine g_iload_n B dJ6_numberOfTrailingZeros_0f7a4_58 rfl 1 rfl ?_
          refine g_iconst (v := 4) B dJ6_numberOfTrailingZeros_0f7a4_59 (by decide) ?_
          refine g_iushr B dJ6_numberOfTrailingZeros_0f7a4_60 ?_
          refine g_istore_n (lv' := [(0, .int ((Int32.toUInt32 ((Int32.toUInt32 ((x ^^^ (-1)) &&& (x - 1)) >>> (Int32.toUInt32 16 &&& Int32.toUInt32 31)).toInt32) >>> (Int32.toUInt32 4 &&& Int32.toUInt32 31)).toInt32)), (1, .int 21)]) B dJ6_numberOfTrailingZeros_0f7a4_61 rfl (by decide) rfl ?_
          refine g_iload_n B dJ6_numberOfTrailingZeros_0f7a4_62 rfl 0 rfl ?_
          refine g_iconst (v := 4) B dJ6_numberOfTrailingZeros_0f7a4_63 (by decide) ?_
          refine g_icmp_le (tgt := 74) B dJ6_numberOfTrailingZeros_0f7a4_64 (by decide) (fun c64_2680 => ?_) (fun c64_2680 => ?_)
          · replace e_ := fun β k_ => (e_ β k_).trans (if_pos c64_2680)
            refine g_iload_n B dJ6_numberOfTrailingZeros_0f7a4_74 rfl 1 rfl ?_
            refine g_iload_n B dJ6_numberOfTrailingZeros_0f7a4_75 rfl 0 rfl ?_
            refine g_iconst (v := 1) B dJ6_numberOfTrailingZeros_0f7a4_76 (by decide) ?_
            refine g_iushr B dJ6_numberOfTrailingZeros_0f7a4_77 ?_
            refine g_iadd B dJ6_numberOfTrailingZeros_0f7a4_78 ?_
            exact g_iret B hr dJ6_numberOfTrailingZeros_0f7a4_79 (by decide) (by decide) ⟨(21 + ((Int32.toUInt32 ((Int32.toUInt32 ((Int32.toUInt32 ((x ^^^ (-1)) &&& (x - 1)) >>> (Int32.toUInt32 16 &&& Int32.toUInt32 31)).toInt32) >>> (Int32.toUInt32 4 &&& Int32.toUInt32 31)).toInt32) >>> (Int32.toUInt32 1 &&& Int32.toUInt32 31)).toInt32)), e_, rfl, rfl⟩
          · replace e_ := fun β k_ => (e_ β k_).trans (if_neg c64_2680)
            refine g_iinc (v := 23) (lv' := [(1, .int 23), (0, .int ((Int32.toUInt32 ((Int32.toUInt32 ((x ^^^ (-1)) &&& (x - 1)) >>> (Int32.toUInt32 16 &&& Int32.toUInt32 31)).toInt32) >>> (Int32.toUInt32 4 &&& Int32.toUInt32 31)).toInt32))]) B dJ6_numberOfTrailingZeros_0f7a4_67 1 rfl (by decide) (by decide) rfl ?_
            refine g_iload_n B dJ6_numberOfTrailingZeros_0f7a4_70 rfl 1 rfl ?_
            refine g_iconst (v := 2) B dJ6_numberOfTrailingZeros_0f7a4_71 (by decide) ?_
            refine g_iushr B dJ6_numberOfTrailingZeros_0f7a4_72 ?_
            refine g_istore_n (lv' := [(0, .int ((Int32.toUInt32 ((Int32.toUInt32 ((Int32.toUInt32 ((x ^^^ (-1)) &&& (x - 1)) >>> (Int32.toUInt32 16 &&& Int32.toUInt32 31)).toInt32) >>> (Int32.toUInt32 4 &&& Int32.toUInt32 31)).toInt32) >>> (Int32.toUInt32 2 &&& Int32.toUInt32 31)).toInt32)), (1, .int 23)]) B dJ6_numberOfTrailingZeros_0f7a4_73 rfl (by decide) rfl ?_
            refine g_iload_n B dJ6_numberOfTrailingZeros_0f7a4_74 rfl 1 rfl ?_
            refine g_iload_n B dJ6_numberOfTrailingZeros_0f7a4_75 rfl 0 rfl ?_
            refine g_iconst (v := 1) B dJ6_numberOfTrailingZeros_0f7a4_76 (by decide) ?_
            refine g_iushr B dJ6_numberOfTrailingZeros_0f7a4_77 ?_
            refine g_iadd B dJ6_numberOfTrailingZeros_0f7a4_78 ?_
            exact g_iret B hr dJ6_numberOfTrailingZeros_0f7a4_79 (by decide) (by decide) ⟨(23 + ((Int32.toUInt32 ((Int32.toUInt32 ((Int32.toUInt32 ((Int32.toUInt32 ((x ^^^ (-1)) &&& (x - 1)) >>> (Int32.toUInt32 16 &&& Int32.toUInt32 31)).toInt32) >>> (Int32.toUInt32 4 &&& Int32.toUInt32 31)).toInt32) >>> (Int32.toUInt32 2 &&& Int32.toUInt32 31)).toInt32) >>> (Int32.toUInt32 1 &&& Int32.toUInt32 31)).toInt32)), e_, rfl, rfl⟩
      · replace e_ := fun β k_ => (e_ β k_).trans (if_neg c38_2677)
        refine g_iinc (v := 25) (lv' := [(1, .int 25), (0, .int ((Int32.toUInt32 ((x ^^^ (-1)) &&& (x - 1)) >>> (Int32.toUInt32 16 &&& Int32.toUInt32 31)).toInt32))]) B dJ6_numberOfTrailingZeros_0f7a4_41 1 rfl (by decide) (by decide) rfl ?_
        refine g_iload_n B dJ6_numberOfTrailingZeros_0f7a4_44 rfl 1 rfl ?_
        refine g_bipush (v := 8) B dJ6_numberOfTrailingZeros_0f7a4_45 (by decide) ?_
        refine g_iushr B dJ6_numberOfTrailingZeros_0f7a4_47 ?_
        refine g_istore_n (lv' := [(0, .int ((Int32.toUInt32 ((Int32.toUInt32 ((x ^^^ (-1)) &&& (x - 1)) >>> (Int32.toUInt32 16 &&& Int32.toUInt32 31)).toInt32) >>> (Int32.toUInt32 8 &&& Int32.toUInt32 31)).toInt32)), (1, .int 25)]) B dJ6_numberOfTrailingZeros_0f7a4_48 rfl (by decide) rfl ?_
        refine g_iload_n B dJ6_numberOfTrailingZeros_0f7a4_49 rfl 0 rfl ?_
        refine g_bipush (v := 16) B dJ6_numberOfTrailingZeros_0f7a4_50 (by decide) ?_
        refine g_icmp_le (tgt := 62) B dJ6_numberOfTrailingZeros_0f7a4_52 (by decide) (fun c52_2681 => ?_) (fun c52_2681 => ?_)
        · replace e_ := fun β k_ => (e_ β k_).trans (if_pos c52_2681)
          refine g_iload_n B dJ6_numberOfTrailingZeros_0f7a4_62 rfl 0 rfl ?_
          refine g_iconst (v := 4) B dJ6_numberOfTrailingZeros_0f7a4_63 (by decide) ?_
          refine g_icmp_le (tgt := 74) B dJ6_numberOfTrailingZeros_0f7a4_64 (by decide) (fun c64_2682 => ?_) (fun c64_2682 => ?_)
          · replace e_ := fun β k_ => (e_ β k_).trans (if_pos c64_2682)
            refine g_iload_n B dJ6_numberOfTrailingZeros_0f7a4_74 rfl 1 rfl ?_
            refine g_iload_n B dJ6_numberOfTrailingZeros_0f7a4_75 rfl 0 rfl ?_
            refine g_iconst (v := 1) B dJ6_numberOfTrailingZeros_0f7a4_76 (by decide) ?_
            refine g_iushr B dJ6_numberOfTrailingZeros_0f7a4_77 ?_
            refine g_iadd B dJ6_numberOfTrailingZeros_0f7a4_78 ?_
            exact g_iret B hr dJ6_numberOfTrailingZeros_0f7a4_79 (by decide) (by decide) ⟨(25 + ((Int32.toUInt32 ((Int32.toUInt32 ((Int32.toUInt32 ((x ^^^ (-1)) &&& (x - 1)) >>> (Int32.toUInt32 16 &&& Int32.toUInt32 31)).toInt32) >>> (Int32.toUInt32 8 &&& Int32.toUInt32 31)).toInt32) >>> (Int32.toUInt32 1 &&& Int32.toUInt32 31)).toInt32)), e_, rfl, rfl⟩
          · replace e_ := fun β k_ => (e_ β k_).trans (if_neg c64_2682)
            refine g_iinc (v := 27) (lv' := [(1, .int 27), (0, .int ((Int32.toUInt32 ((Int32.toUInt32 ((x ^^^ (-1)) &&& (x - 1)) >>> (Int32.toUInt32 16 &&& Int32.toUInt32 31)).toInt32) >>> (Int32.toUInt32 8 &&& Int32.toUInt32 31)).toInt32))]) B dJ6_numberOfTrailingZeros_0f7a4_67 1 rfl (by decide) (by decide) rfl ?_
            refine g_iload_n B dJ6_numberOfTrailingZeros_0f7a4_70 rfl 1 rfl ?_
            refine g_iconst (v := 2) B dJ6_numberOfTrailingZeros_0f7a4_71 (by decide) ?_
            refine g_iushr B dJ6_numberOfTrailingZeros_0f7a4_72 ?_
            refine g_istore_n (lv' := [(0, .int ((Int32.toUInt32 ((Int32.toUInt32 ((Int32.toUInt32 ((x ^^^ (-1)) &&& (x - 1)) >>> (Int32.toUInt32 16 &&& Int32.toUInt32 31)).toInt32) >>> (Int32.toUInt32 8 &&& Int32.toUInt32 31)).toInt32) >>> (Int32.toUInt32 2 &&& Int32.toUInt32 31)).toInt32)), (1, .int 27)]) B dJ6_numberOfTrailingZeros_0f7a4_73 rfl (by decide) rfl ?_
            refine g_iload_n B dJ6_numberOfTrailingZeros_0f7a4_74 rfl 1 rfl ?_
            refine g_iload_n B dJ6_numberOfTrailingZeros_0f7a4_75 rfl 0 rfl ?_
            refine g_iconst (v := 1) B dJ6_numberOfTrailingZeros_0f7a4_76 (by decide) ?_
            refine g_iushr B dJ6_numberOfTrailingZeros_0f7a4_77 ?_
            refine g_iadd B dJ6_numberOfTrailingZeros_0f7a4_78 ?_
            exact g_iret B hr dJ6_numberOfTrailingZeros_0f7a4_79 (by decide) (by decide) ⟨(27 + ((Int32.toUInt32 ((Int32.toUInt32 ((Int32.toUInt32 ((Int32.toUInt32 ((x ^^^ (-1)) &&& (x - 1)) >>> (Int32.toUInt32 16 &&& Int32.toUInt32 31)).toInt32) >>> (Int32.toUInt32 8 &&& Int32.toUInt32 31)).toInt32) >>> (Int32.toUInt32 2 &&& Int32.toUInt32 31)).toInt32) >>> (Int32.toUInt32 1 &&& Int32.toUInt32 31)).toInt32)), e_, rfl, rfl⟩
        · replace e_ := fun β k_ => (e_ β k_).trans (if_neg c52_2681)
          refine g_iinc (v := 29) (lv' := [(1, .int 29), (0, .int ((Int32.toUInt32 ((Int32.toUInt32 ((x ^^^ (-1)) &&& (x - 1)) >>> (Int32.toUInt32 16 &&& Int32.toUInt32 31)).toInt32) >>> (Int32.toUInt32 8 &&& Int32.toUInt32 31)).toInt32))]) B dJ6_numberOfTrailingZeros_0f7a4_55 1 rfl (by decide) (by decide) rfl ?_
          refine g_iload_n B dJ6_numberOfTrailingZeros_0f7a4_58 rfl 1 rfl ?_
          refine g_iconst (v := 4) B dJ6_numberOfTrailingZeros_0f7a4_59 (by decide) ?_
          refine g_iushr B dJ6_numberOfTrailingZeros_0f7a4_60 ?_
          refine g_istore_n (lv' := [(0, .int ((Int32.toUInt32 ((Int32.toUInt32 ((Int32.toUInt32 ((x ^^^ (-1)) &&& (x - 1)) >>> (Int32.toUInt32 16 &&& Int32.toUInt32 31)).toInt32) >>> (Int32.toUInt32 8 &&& Int32.toUInt32 31)).toInt32) >>> (Int32.toUInt32 4 &&& Int32.toUInt32 31)).toInt32)), (1, .int 29)]) B dJ6_numberOfTrailingZeros_0f7a4_61 rfl (by decide) rfl ?_
          refine g_iload_n B dJ6_numberOfTrailingZeros_0f7a4_62 rfl 0 rfl ?_
          refine g_iconst (v := 4) B dJ6_numberOfTrailingZeros_0f7a4_63 (by decide) ?_
          refine g_icmp_le (tgt := 74) B dJ6_numberOfTrailingZeros_0f7a4_64 (by decide) (fun c64_2683 => ?_) (fun c64_2683 => ?_)
          · replace e_ := fun β k_ => (e_ β k_).trans (if_pos c64_2683)
            refine g_iload_n B dJ6_numberOfTrailingZeros_0f7a4_74 rfl 1 rfl ?_
            refine g_iload_n B dJ6_numberOfTrailingZeros_0f7a4_75 rfl 0 rfl ?_
            refine g_iconst (v := 1) B dJ6_numberOfTrailingZeros_0f7a4_76 (by decide) ?_
            refine g_iushr B dJ6_numberOfTrailingZeros_0f7a4_77 ?_
            refine g_iadd B dJ6_numberOfTrailingZeros_0f7a4_78 ?_
            exact g_iret B hr dJ6_numberOfTrailingZeros_0f7a4_79 (by decide) (by decide) ⟨(29 + ((Int32.toUInt32 ((Int32.toUInt32 ((Int32.toUInt32 ((Int32.toUInt32 ((x ^^^ (-1)) &&& (x - 1)) >>> (Int32.toUInt32 16 &&& Int32.toUInt32 31)).toInt32) >>> (Int32.toUInt32 8 &&& Int32.toUInt32 31)).toInt32) >>> (Int32.toUInt32 4 &&& Int32.toUInt32 31)).toInt32) >>> (Int32.toUInt32 1 &&& Int32.toUInt32 31)).toInt32)), e_, rfl, rfl⟩
          · replace e_ := fun β k_ => (e_ β k_).trans (if_neg c64_2683)
            refine g_iinc (v := 31) (lv' := [(1, .int 31), (0, .int ((Int32.toUInt32 ((Int32.toUInt32 ((Int32.toUInt32 ((x ^^^ (-1)) &&& (x - 1)) >>> (Int32.toUInt32 16 &&& Int32.toUInt32 31)).toInt32) >>> (Int32.toUInt32 8 &&& Int32.toUInt32 31)).toInt32) >>> (Int32.toUInt32 4 &&& Int32.toUInt32 31)).toInt32))]) B dJ6_numberOfTrailingZeros_0f7a4_67 1 rfl (by decide) (by decide) rfl ?_
            refine g_iload_n B dJ6_numberOfTrailingZeros_0f7a4_70 rfl 1 rfl ?_
            refine g_iconst (v := 2) B dJ6_numberOfTrailingZeros_0f7a4_71 (by decide) ?_
            refine g_iushr B dJ6_numberOfTrailingZeros_0f7a4_72 ?_
            refine g_istore_n (lv' := [(0, .int ((Int32.toUInt32 ((Int32.toUInt32 ((Int32.toUInt32 ((Int32.toUInt32 ((x ^^^ (-1)) &&& (x - 1)) >>> (Int32.toUInt32 16 &&& Int32.toUInt32 31)).toInt32) >>> (Int32.toUInt32 8 &&& Int32.toUInt32 31)).toInt32) >>> (Int32.toUInt32 4 &&& Int32.toUInt32 31)).toInt32) >>> (Int32.toUInt32 2 &&& Int32.toUInt32 31)).toInt32)), (1, .int 31)]) B dJ6_numberOfTrailingZeros_0f7a4_73 rfl (by decide) rfl ?_
            refine g_iload_n B dJ6_numberOfTrailingZeros_0f7a4_74 rfl 1 rfl ?_
            refine g_iload_n B dJ6_numberOfTrailingZeros_0f7a4_75 rfl 0 rfl ?_
            refine g_iconst (v := 1) B dJ6_numberOfTrailingZeros_0f7a4_76 (by decide) ?_
            refine g_iushr B dJ6_numberOfTrailingZeros_0f7a4_77 ?_
            refine g_iadd B dJ6_numberOfTrailingZeros_0f7a4_78 ?_
            exact g_iret B hr dJ6_numberOfTrailingZeros_0f7a4_79 (by decide) (by decide) ⟨(31 + ((Int32.toUInt32 ((Int32.toUInt32 ((Int32.toUInt32 ((Int32.toUInt32 ((Int32.toUInt32 ((x ^^^ (-1)) &&& (x - 1)) >>> (Int32.toUInt32 16 &&& Int32.toUInt32 31)).toInt32) >>> (Int32.toUInt32 8 &&& Int32.toUInt32 31)).toInt32) >>> (Int32.toUInt32 4 &&& Int32.toUInt32 31)).toInt32) >>> (Int32.toUInt32 2 &&& Int32.toUInt32 31)).toInt32) >>> (Int32.toUInt32 1 &&& Int32.toUInt32 31)).toInt32)), e_, rfl, rfl⟩
  · replace e_ := fun β k_ => (e_ β k_).trans (if_neg c9_2668)
    refine g_iload_n B dJ6_numberOfTrailingZeros_0f7a4_12 rfl 0 rfl ?_
    refine g_bipush (v := 32) B dJ6_numberOfTrailingZeros_0f7a4_13 (by decide) ?_
    refine g_iand B dJ6_numberOfTrailingZeros_0f7a4_15 ?_
    exact g_iret B hr dJ6_numberOfTrailingZeros_0f7a4_16 (by decide) (by decide) ⟨(((x ^^^ (-1)) &&& (x - 1)) &&& 32), e_, rfl, rfl⟩
abbrev MX11_shiftOf : g_M := (yX11_shiftOf, cX11_shiftOf, 3, (some .int))
theorem dX11_shiftOf_0 : decode cX11_shiftOf 0 = .ok (.iconst 0, 1) := by decide +kernel
theorem dX11_shiftOf_1 : decode cX11_shiftOf 1 = .ok (.istore_n 1, 1) := by decide +kernel
theorem dX11_shiftOf_2 : decode cX11_shiftOf 2 = .ok (.iconst 0, 1) := by decide +kernel
theorem dX11_shiftOf_3 : decode cX11_shiftOf 3 = .ok (.istore_n 2, 1) := by decide +kernel
theorem dX11_shiftOf_4 : decode cX11_shiftOf 4 = .ok (.iload_n 2, 1) := by decide +kernel
theorem dX11_shiftOf_5 : decode cX11_shiftOf 5 = .ok (.aload_n 0, 1) := by decide +kernel
theorem dX11_shiftOf_6 : decode cX11_shiftOf 6 = .ok (.getfield 178, 3) := by decide +kernel
theorem dX11_shiftOf_9 : decode cX11_shiftOf 9 = .ok (.if_icmp .ge 18, 3) := by decide +kernel
theorem dX11_shiftOf_12 : decode cX11_shiftOf 12 = .ok (.iload_n 1, 1) := by decide +kernel
theorem dX11_shiftOf_13 : decode cX11_shiftOf 13 = .ok (.aload_n 0, 1) := by decide +kernel
theorem dX11_shiftOf_14 : decode cX11_shiftOf 14 = .ok (.getfield 9, 3) := by decide +kernel
theorem dX11_shiftOf_17 : decode cX11_shiftOf 17 = .ok (.iload_n 2, 1) := by decide +kernel
theorem dX11_shiftOf_18 : decode cX11_shiftOf 18 = .ok (.iaload, 1) := by decide +kernel
theorem dX11_shiftOf_19 : decode cX11_shiftOf 19 = .ok (.ior, 1) := by decide +kernel
theorem dX11_shiftOf_20 : decode cX11_shiftOf 20 = .ok (.istore_n 1, 1) := by decide +kernel
theorem dX11_shiftOf_21 : decode cX11_shiftOf 21 = .ok (.iinc 2 1, 3) := by decide +kernel
theorem dX11_shiftOf_24 : decode cX11_shiftOf 24 = .ok (.goto (-20), 3) := by decide +kernel
set_option maxRecDepth 100000 in
def lf_wr_X11_shiftOf_4 (m_1 : Nat) (r0_f : Nat → Int32) (β : Type) (kx_ : Int32 → Nat → β)  : Nat → Int32 → Nat → β
  | 0, l1, l2 => kx_ l1 l2
  | fuel + 1, l1, l2 => (if m_1 ≤ l2 then (kx_ l1 l2) else (lf_wr_X11_shiftOf_4 m_1 r0_f β kx_ fuel (l1 ||| (r0_f l2)) (l2 + 1)))
set_option maxRecDepth 100000 in
theorem lf_wr_X11_shiftOf_4_s {m_1 : Nat} {r0_f : Nat → Int32} {β : Type} {kx_ : Int32 → Nat → β}  {fuel : Nat} {l1 : Int32} {l2 : Nat} : lf_wr_X11_shiftOf_4 m_1 r0_f β kx_  (fuel + 1) l1 l2 = (if m_1 ≤ l2 then (kx_ l1 l2) else (lf_wr_X11_shiftOf_4 m_1 r0_f β kx_ fuel (l1 ||| (r0_f l2)) (l2 + 1))) := rfl
set_option maxRecDepth 100000 in
set_option maxHeartbeats 4000000 in
theorem lp_wr_X11_shiftOf_4 (E : g_E) (m : Nat) (r : Nat → Nat) (m_1 : Nat) (m_4 : Nat) (m_9 : Nat) (m_10 : Nat) (m_14 : Nat) (m_15 : Nat) (m_25 : Int32) (m_26 : Int32) (m_27 : Int64) (m_28 : Nat) (m_29 : Nat) (m_31 : Nat) (m_32 : Nat) (m_33 : Nat) (m_35 : Nat) (m_36 : Nat) (m_37 : Int32) (m_38 : Nat) (m_39 : Int32) (m_40 : Int32) (m_42 : Nat) (r0_f : Nat → Int32) (hb0 : m_1 ≤ 1200)   {X : g_X} {rr : (β : Type) → (Int32 → β) → β} (kx_ : (β : Type) → (Int32 → β) → Int32 → Nat → β) (B : Bd E X cX11_shiftOf RX11 3 1 21 0 0) (hr : Rt E X (some .int) 0 0 (fun v_ w_ => ∃ zr : Int32, (∀ (β : Type) (k_ : Int32 → β), rr β k_ = k_ zr) ∧ v_ = some (.int zr) ∧ w_ = [(m, .inr (11, mkF r m_1 m_4 m_9 m_10 m_14 m_15 m_25 m_26 m_27 m_28 m_29 m_31 m_32 m_33 m_35 m_36 m_37 m_38 m_39 m_40 m_42)), ((r 0), .inl (E.2.2.1 0, 1200, .inl r0_f))])) (K : ∀ (l1 : Int32) (l2 : Nat), (l2 ≤ 1200) → (∀ (β : Type) (k_ : Int32 → β), rr β k_ = kx_ β k_ l1 l2) → G E X 3 [(m, .inr (11, mkF r m_1 m_4 m_9 m_10 m_14 m_15 m_25 m_26 m_27 m_28 m_29 m_31 m_32 m_33 m_35 m_36 m_37 m_38 m_39 m_40 m_42)), ((r 0), .inl (E.2.2.1 0, 1200, .inl r0_f))] 0 0 [(0, .ref m), (1, .int l1), (2, .int (nI l2))] 27 []) : ∀ (fuel : Nat) (l1 : Int32) (l2 : Nat), (l2 ≤ 1200) → (1200 - l2) < fuel → (∀ (β : Type) (k_ : Int32 → β), rr β k_ = lf_wr_X11_shiftOf_4 m_1 r0_f β (kx_ β k_) fuel l1 l2) → G E X 3 [(m, .inr (11, mkF r m_1 m_4 m_9 m_10 m_14 m_15 m_25 m_26 m_27 m_28 m_29 m_31 m_32 m_33 m_35 m_36 m_37 m_38 m_39 m_40 m_42)), ((r 0), .inl (E.2.2.1 0, 1200, .inl r0_f))] 0 0 [(0, .ref m), (1, .int l1), (2, .int (nI l2))] 4 [] := by
  intro fuel
  induction fuel with
  | zero => intro l1 l2 _ h _; exact absurd h (Nat.not_lt_zero _)
  | succ fuel ih =>
    intro l1 l2 hv0 hm e_
    replace e_ := fun β k_ => (e_ β k_).trans lf_wr_X11_shiftOf_4_s
    refine g_iload_n B dX11_shiftOf_4 rfl 2 rfl ?_
    refine g_aload_n B dX11_shiftOf_5 rfl 0 rfl ?_
    refine g_get B 0 1 fl_X11_178 rfl mf_1 dX11_shiftOf_6 ?_
    refine g_icmp_ge (tgt := 27) B dX11_shiftOf_9 (by decide) (fun c9_2684 => ?_) (fun c9_2684 => ?_)
    · have hn_2685 : m_1 ≤ l2 := (nI_leI (a := m_1) (b := l2) (by omega) (by omega)).mp c9_2684
      replace e_ := fun β k_ => (e_ β k_).trans (if_pos hn_2685)
      exact K l1 l2 (by first | assumption | omega | decide | exact hCF _ (by omega)) e_
    · have hn_2686 : l2 < m_1 := Nat.not_le.mp (fun q => c9_2684 ((nI_leI (a := m_1) (b := l2) (by omega) (by omega)).mpr q))
      replace e_ := fun β k_ => (e_ β k_).trans (if_neg (Nat.not_le.mpr hn_2686))
      refine g_iload_n B dX11_shiftOf_12 rfl 1 rfl ?_
      refine g_aload_n B dX11_shiftOf_13 rfl 0 rfl ?_
      refine g_get B 0 0 fl_X11_9 rfl mf_0 dX11_shiftOf_14 ?_
      refine g_iload_n B dX11_shiftOf_17 rfl 2 rfl ?_
      refine g_iald B 1 rfl (vp_in_nI (by omega) (by omega)) dX11_shiftOf_18 ?_
      refine g_ri (x' := (r0_f l2)) (congrArg r0_f (nI_clamp (n := l2) (by omega))) ?_
      refine g_ior B dX11_shiftOf_19 ?_
      refine g_istore_n (lv' := [(1, .int (l1 ||| (r0_f l2))), (0, .ref m), (2, .int (nI l2))]) B dX11_shiftOf_20 rfl (by decide) rfl ?_
      refine g_iinc (v := nI (l2 + 1)) (lv' := [(2, .int (nI (l2 + 1))), (1, .int (l1 ||| (r0_f l2))), (0, .ref m)]) B dX11_shiftOf_21 2 rfl (nI_add l2 1) (by decide) rfl ?_
      refine g_goto (tgt := 4) B dX11_shiftOf_24 (by decide) ?_
      refine g_lvsub (lv' := [(0, .ref m), (1, .int (l1 ||| (r0_f l2))), (2, .int (nI (l2 + 1)))]) [2, 1, 0] rfl ?_
      exact ih (l1 ||| (r0_f l2)) (l2 + 1) (by first | assumption | omega | decide | exact hCF _ (by omega)) (by omega) e_
theorem dX11_shiftOf_27 : decode cX11_shiftOf 27 = .ok (.iload_n 1, 1) := by decide +kernel
theorem dX11_shiftOf_28 : decode cX11_shiftOf 28 = .ok (.ifCond .ne 5, 3) := by decide +kernel
theorem dX11_shiftOf_33 : decode cX11_shiftOf 33 = .ok (.iload_n 1, 1) := by decide +kernel
theorem dX11_shiftOf_34 : decode cX11_shiftOf 34 = .ok (.invokestatic 183, 3) := by decide +kernel
theorem w_ml_X11_183 : Cond.methodLink RX11 183 yJ6_numberOfTrailingZeros_0f7a4 ∈ g_tbl := g_tbl_in 1051 (by decide +kernel) (by decide +kernel)
theorem w_cd_J6_numberOfTrailingZeros_0f7a4 : g_cw MJ6_numberOfTrailingZeros_0f7a4 ∈ g_tbl := g_tbl_in 1053 (by decide +kernel) (by decide +kernel)
theorem cl_X11_183 : CL RX11 183 1 MJ6_numberOfTrailingZeros_0f7a4 := ⟨w_ml_X11_183, w_cd_J6_numberOfTrailingZeros_0f7a4, w_ini_J6, by decide +kernel, by decide +kernel, by decide +kernel⟩
theorem w_sm_J6_numberOfTrailingZeros_0f7a4 : Cond.static yJ6_numberOfTrailingZeros_0f7a4 ∈ g_tbl := g_tbl_in 1052 (by decide +kernel) (by decide +kernel)
theorem dX11_shiftOf_37 : decode cX11_shiftOf 37 = .ok (.istore_n 2, 1) := by decide +kernel
theorem dX11_shiftOf_38 : decode cX11_shiftOf 38 = .ok (.iload_n 2, 1) := by decide +kernel
theorem dX11_shiftOf_39 : decode cX11_shiftOf 39 = .ok (.bipush 23, 2) := by decide +kernel
theorem dX11_shiftOf_41 : decode cX11_shiftOf 41 = .ok (.if_icmp .le 8, 3) := by decide +kernel
theorem dX11_shiftOf_49 : decode cX11_shiftOf 49 = .ok (.iload_n 2, 1) := by decide +kernel
theorem dX11_shiftOf_50 : decode cX11_shiftOf 50 = .ok (.ireturn, 1) := by decide +kernel
theorem dX11_shiftOf_44 : decode cX11_shiftOf 44 = .ok (.bipush 23, 2) := by decide +kernel
theorem dX11_shiftOf_46 : decode cX11_shiftOf 46 = .ok (.goto 4, 3) := by decide +kernel
theorem dX11_shiftOf_31 : decode cX11_shiftOf 31 = .ok (.iconst 0, 1) := by decide +kernel
theorem dX11_shiftOf_32 : decode cX11_shiftOf 32 = .ok (.ireturn, 1) := by decide +kernel
set_option maxRecDepth 100000 in
def fn_wr_X11_shiftOf (m_1 : Nat) (r0_f : Nat → Int32) (β : Type) (k_ : Int32 → β) : β := (lf_wr_X11_shiftOf_4 m_1 r0_f β (fun y_2687l1 y_2687l2 => (if y_2687l1 = 0 then (k_ 0) else (fn_wr_ntz y_2687l1 β (fun zr_2689 => (if zr_2689 ≤ 23 then (k_ zr_2689) else (k_ 23)))))) ((1200 - 0) + 1) 0 0)
set_option maxRecDepth 100000 in
theorem fn_wr_X11_shiftOf_s {m_1 : Nat} {r0_f : Nat → Int32} {β : Type} {k_ : Int32 → β} : fn_wr_X11_shiftOf m_1 r0_f β k_ = (lf_wr_X11_shiftOf_4 m_1 r0_f β (fun y_2687l1 y_2687l2 => (if y_2687l1 = 0 then (k_ 0) else (fn_wr_ntz y_2687l1 β (fun zr_2689 => (if zr_2689 ≤ 23 then (k_ zr_2689) else (k_ 23)))))) ((1200 - 0) + 1) 0 0) := rfl
set_option maxRecDepth 100000 in
set_option maxHeartbeats 4000000 in
theorem wr_X11_shiftOf (E : g_E) (m : Nat) (r : Nat → Nat) (m_1 : Nat) (m_4 : Nat) (m_9 : Nat) (m_10 : Nat) (m_14 : Nat) (m_15 : Nat) (m_25 : Int32) (m_26 : Int32) (m_27 : Int64) (m_28 : Nat) (m_29 : Nat) (m_31 : Nat) (m_32 : Nat) (m_33 : Nat) (m_35 : Nat) (m_36 : Nat) (m_37 : Int32) (m_38 : Nat) (m_39 : Int32) (m_40 : Int32) (m_42 : Nat) (r0_f : Nat → Int32) (hb0 : m_1 ≤ 1200) : Ev E MX11_shiftOf 1 21 0 0 [.ref m] [(m, .inr (11, mkF r m_1 m_4 m_9 m_10 m_14 m_15 m_25 m_26 m_27 m_28 m_29 m_31 m_32 m_33 m_35 m_36 m_37 m_38 m_39 m_40 m_42)), ((r 0), .inl (E.2.2.1 0, 1200, .inl r0_f))] (fun v_ w_ => ∃ zr : Int32, (∀ (β : Type) (k_ : Int32 → β), fn_wr_X11_shiftOf m_1 r0_f β k_ = k_ zr) ∧ v_ = some (.int zr) ∧ w_ = [(m, .inr (11, mkF r m_1 m_4 m_9 m_10 m_14 m_15 m_25 m_26 m_27 m_28 m_29 m_31 m_32 m_33 m_35 m_36 m_37 m_38 m_39 m_40 m_42)), ((r 0), .inl (E.2.2.1 0, 1200, .inl r0_f))]) := by
  refine Ev.intro (by decide) (Nat.le_of_ble_eq_true rfl) ?_
  intro X B hr hI
  have B : Bd E X cX11_shiftOf RX11 3 1 21 0 0 := B
  have hr : Rt E X (some .int) 0 0 (fun v_ w_ => ∃ zr : Int32, (∀ (β : Type) (k_ : Int32 → β), fn_wr_X11_shiftOf m_1 r0_f β k_ = k_ zr) ∧ v_ = some (.int zr) ∧ w_ = [(m, .inr (11, mkF r m_1 m_4 m_9 m_10 m_14 m_15 m_25 m_26 m_27 m_28 m_29 m_31 m_32 m_33 m_35 m_36 m_37 m_38 m_39 m_40 m_42)), ((r 0), .inl (E.2.2.1 0, 1200, .inl r0_f))]) := hr
  have e_ := fun (β : Type) (k_ : Int32 → β) => fn_wr_X11_shiftOf_s (β := β) (k_ := k_) (m_1 := m_1) (r0_f := r0_f)
  show G E X 3 [(m, .inr (11, mkF r m_1 m_4 m_9 m_10 m_14 m_15 m_25 m_26 m_27 m_28 m_29 m_31 m_32 m_33 m_35 m_36 m_37 m_38 m_39 m_40 m_42)), ((r 0), .inl (E.2.2.1 0, 1200, .inl r0_f))] 0 0 [(0, .ref m)] 0 []
  refine g_iconst (v := 0) B dX11_shiftOf_0 (by decide) ?_
  refine g_istore_n (lv' := [(1, .int 0), (0, .ref m)]) B dX11_shiftOf_1 rfl (by decide) rfl ?_
  refine g_iconst (v := 0) B dX11_shiftOf_2 (by decide) ?_
  refine g_istore_n (lv' := [(2, .int 0), (1, .int 0), (0, .ref m)]) B dX11_shiftOf_3 rfl (by decide) rfl ?_
  refine g_lvsub (lv' := [(0, .ref m), (1, .int 0), (2, .int 0)]) [2, 1, 0] rfl ?_
  refine lp_wr_X11_shiftOf_4 E m r m_1 m_4 m_9 m_10 m_14 m_15 m_25 m_26 m_27 m_28 m_29 m_31 m_32 m_33 m_35 m_36 m_37 m_38 m_39 m_40 m_42 r0_f hb0   _ B hr (fun y_2687l1 y_2687l2 y_2687k0 e_ => ?_) _ 0 0 (by first | assumption | omega | decide | exact hCF _ (by omega)) (Nat.lt_succ_self _) e_
  show G E X 3 [(m, .inr (11, mkF r m_1 m_4 m_9 m_10 m_14 m_15 m_25 m_26 m_27 m_28 m_29 m_31 m_32 m_33 m_35 m_36 m_37 m_38 m_39 m_40 m_42)), ((r 0), .inl (E.2.2.1 0, 1200, .inl r0_f))] 0 0 [(0, .ref m), (1, .int y_2687l1), (2, .int (nI y_2687l2))] 27 []
  refine g_iload_n B dX11_shiftOf_27 rfl 1 rfl ?_
  refine g_if_ne (tgt := 33) B dX11_shiftOf_28 (by decide) (fun c28_2688 => ?_) (fun c28_2688 => ?_)
  · replace e_ := fun β k_ => (e_ β k_).trans (if_neg c28_2688)
    refine g_iload_n B dX11_shiftOf_33 rfl 1 rfl ?_
    refine g_callS (st := []) (As := [.int y_2687l1]) (wr := [(m, .inr (11, mkF r m_1 m_4 m_9 m_10 m_14 m_15 m_25 m_26 m_27 m_28 m_29 m_31 m_32 m_33 m_35 m_36 m_37 m_38 m_39 m_40 m_42)), ((r 0), .inl (E.2.2.1 0, 1200, .inl r0_f))]) (nc' := 0) (ns' := 0) B cl_X11_183 w_sm_J6_numberOfTrailingZeros_0f7a4 (wr_ntz E y_2687l1 ) rfl [] [0, 1] rfl rfl (by decide) (by decide) (by decide) ⟨by decide, by decide⟩ rfl rfl (by decide) (by decide) rfl (Nat.le_of_ble_eq_true rfl) dX11_shiftOf_34 (fun v w hq => ?_)
    obtain ⟨zr_2689, hz_2690, rfl, rfl⟩ := hq
    replace e_ := fun β k_ => (e_ β k_).trans (hz_2690 β _)
    show G E X 3 [(m, .inr (11, mkF r m_1 m_4 m_9 m_10 m_14 m_15 m_25 m_26 m_27 m_28 m_29 m_31 m_32 m_33 m_35 m_36 m_37 m_38 m_39 m_40 m_42)), ((r 0), .inl (E.2.2.1 0, 1200, .inl r0_f))] 0 0 [(0, .ref m), (1, .int y_2687l1), (2, .int (nI y_2687l2))] 37 [.int zr_2689]
    refine g_istore_n (lv' := [(2, .int zr_2689), (0, .ref m), (1, .int y_2687l1)]) B dX11_shiftOf_37 rfl (by decide) rfl ?_
    refine g_iload_n B dX11_shiftOf_38 rfl 0 rfl ?_
    refine g_bipush (v := 23) B dX11_shiftOf_39 (by decide) ?_
    refine g_icmp_le (tgt := 49) B dX11_shiftOf_41 (by decide) (fun c41_2691 => ?_) (fun c41_2691 => ?_)
    · replace e_ := fun β k_ => (e_ β k_).trans (if_pos c41_2691)
      refine g_iload_n B dX11_shiftOf_49 rfl 0 rfl ?_
      exact g_iret B hr dX11_shiftOf_50 (by decide) (by decide) ⟨zr_2689, e_, rfl, rfl⟩
    · replace e_ := fun β k_ => (e_ β k_).trans (if_neg c41_2691)
      refine g_bipush (v := 23) B dX11_shiftOf_44 (by decide) ?_
      refine g_goto (tgt := 50) B dX11_shiftOf_46 (by decide) ?_
      exact g_iret B hr dX11_shiftOf_50 (by decide) (by decide) ⟨23, e_, rfl, rfl⟩
  · replace e_ := fun β k_ => (e_ β k_).trans (if_pos c28_2688)
    refine g_iconst (v := 0) B dX11_shiftOf_31 (by decide) ?_
    exact g_iret B hr dX11_shiftOf_32 (by decide) (by decide) ⟨0, e_, rfl, rfl⟩
abbrev MX11_areTwins : g_M := (yX11_areTwins, cX11_areTwins, 3, (some .boolean))
theorem dX11_areTwins_0 : decode cX11_areTwins 0 = .ok (.iconst 1, 1) := by decide +kernel
theorem dX11_areTwins_1 : decode cX11_areTwins 1 = .ok (.istore_n 1, 1) := by decide +kernel
theorem dX11_areTwins_2 : decode cX11_areTwins 2 = .ok (.iconst 0, 1) := by decide +kernel
theorem dX11_areTwins_3 : decode cX11_areTwins 3 = .ok (.istore_n 2, 1) := by decide +kernel
theorem dX11_areTwins_4 : decode cX11_areTwins 4 = .ok (.iload_n 2, 1) := by decide +kernel
theorem dX11_areTwins_5 : decode cX11_areTwins 5 = .ok (.aload_n 0, 1) := by decide +kernel
theorem dX11_areTwins_6 : decode cX11_areTwins 6 = .ok (.getfield 178, 3) := by decide +kernel
theorem dX11_areTwins_9 : decode cX11_areTwins 9 = .ok (.if_icmp .ge 36, 3) := by decide +kernel
theorem dX11_areTwins_12 : decode cX11_areTwins 12 = .ok (.iload_n 1, 1) := by decide +kernel
theorem dX11_areTwins_13 : decode cX11_areTwins 13 = .ok (.ifCond .eq 24, 3) := by decide +kernel
theorem dX11_areTwins_37 : decode cX11_areTwins 37 = .ok (.iconst 0, 1) := by decide +kernel
theorem dX11_areTwins_38 : decode cX11_areTwins 38 = .ok (.istore_n 1, 1) := by decide +kernel
theorem dX11_areTwins_39 : decode cX11_areTwins 39 = .ok (.iinc 2 2, 3) := by decide +kernel
theorem dX11_areTwins_42 : decode cX11_areTwins 42 = .ok (.goto (-38), 3) := by decide +kernel
theorem dX11_areTwins_16 : decode cX11_areTwins 16 = .ok (.aload_n 0, 1) := by decide +kernel
theorem dX11_areTwins_17 : decode cX11_areTwins 17 = .ok (.getfield 9, 3) := by decide +kernel
theorem dX11_areTwins_20 : decode cX11_areTwins 20 = .ok (.iload_n 2, 1) := by decide +kernel
theorem dX11_areTwins_21 : decode cX11_areTwins 21 = .ok (.iaload, 1) := by decide +kernel
theorem dX11_areTwins_22 : decode cX11_areTwins 22 = .ok (.aload_n 0, 1) := by decide +kernel
theorem dX11_areTwins_23 : decode cX11_areTwins 23 = .ok (.getfield 9, 3) := by decide +kernel
theorem dX11_areTwins_26 : decode cX11_areTwins 26 = .ok (.iload_n 2, 1) := by decide +kernel
theorem dX11_areTwins_27 : decode cX11_areTwins 27 = .ok (.iconst 1, 1) := by decide +kernel
theorem dX11_areTwins_28 : decode cX11_areTwins 28 = .ok (.iadd, 1) := by decide +kernel
theorem dX11_areTwins_29 : decode cX11_areTwins 29 = .ok (.iaload, 1) := by decide +kernel
theorem dX11_areTwins_30 : decode cX11_areTwins 30 = .ok (.if_icmp .ne 7, 3) := by decide +kernel
theorem dX11_areTwins_33 : decode cX11_areTwins 33 = .ok (.iconst 1, 1) := by decide +kernel
theorem dX11_areTwins_34 : decode cX11_areTwins 34 = .ok (.goto 4, 3) := by decide +kernel
set_option maxRecDepth 100000 in
def lf_wr_X11_areTwins_4 (m_1 : Nat) (r0_f : Nat → Int32) (β : Type) (kx_ : Int32 → Nat → β)  : Nat → Int32 → Nat → β
  | 0, l1, l2 => kx_ l1 l2
  | fuel + 1, l1, l2 => (if m_1 ≤ l2 then (kx_ l1 l2) else (if l1 = 0 then (lf_wr_X11_areTwins_4 m_1 r0_f β kx_ fuel 0 (l2 + 2)) else (if (r0_f l2) = (r0_f (l2 + 1)) then (lf_wr_X11_areTwins_4 m_1 r0_f β kx_ fuel 1 (l2 + 2)) else (lf_wr_X11_areTwins_4 m_1 r0_f β kx_ fuel 0 (l2 + 2)))))
set_option maxRecDepth 100000 in
theorem lf_wr_X11_areTwins_4_s {m_1 : Nat} {r0_f : Nat → Int32} {β : Type} {kx_ : Int32 → Nat → β}  {fuel : Nat} {l1 : Int32} {l2 : Nat} : lf_wr_X11_areTwins_4 m_1 r0_f β kx_  (fuel + 1) l1 l2 = (if m_1 ≤ l2 then (kx_ l1 l2) else (if l1 = 0 then (lf_wr_X11_areTwins_4 m_1 r0_f β kx_ fuel 0 (l2 + 2)) else (if (r0_f l2) = (r0_f (l2 + 1)) then (lf_wr_X11_areTwins_4 m_1 r0_f β kx_ fuel 1 (l2 + 2)) else (lf_wr_X11_areTwins_4 m_1 r0_f β kx_ fuel 0 (l2 + 2))))) := rfl
set_option maxRecDepth 100000 in
set_option maxHeartbeats 4000000 in
theorem lp_wr_X11_areTwins_4 (E : g_E) (m : Nat) (r : Nat → Nat) (m_1 : Nat) (m_4 : Nat) (m_9 : Nat) (m_10 : Nat) (m_14 : Nat) (m_15 : Nat) (m_25 : Int32) (m_26 : Int32) (m_27 : Int64) (m_28 : Nat) (m_29 : Nat) (m_31 : Nat) (m_32 : Nat) (m_33 : Nat) (m_35 : Nat) (m_36 : Nat) (m_37 : Int32) (m_38 : Nat) (m_39 : Int32) (m_40 : Int32) (m_42 : Nat) (r0_f : Nat → Int32) (hb0 : m_1 ≤ 1200)   {X : g_X} {rr : (β : Type) → (Int32 → β) → β} (kx_ : (β : Type) → (Int32 → β) → Int32 → Nat → β) (B : Bd E X cX11_areTwins RX11 3 0 0 0 0) (hr : Rt E X (some .boolean) 0 0 (fun v_ w_ => ∃ zr : Int32, (zr = 0 ∨ zr = 1) ∧ (∀ (β : Type) (k_ : Int32 → β), rr β k_ = k_ zr) ∧ v_ = some (.int zr) ∧ w_ = [(m, .inr (11, mkF r m_1 m_4 m_9 m_10 m_14 m_15 m_25 m_26 m_27 m_28 m_29 m_31 m_32 m_33 m_35 m_36 m_37 m_38 m_39 m_40 m_42)), ((r 0), .inl (E.2.2.1 0, 1200, .inl r0_f))])) (K : ∀ (l1 : Int32) (l2 : Nat), (l2 ≤ 1202) → (l2 % 2 = 0) → (l1 = 0 ∨ l1 = 1) → (∀ (β : Type) (k_ : Int32 → β), rr β k_ = kx_ β k_ l1 l2) → G E X 3 [(m, .inr (11, mkF r m_1 m_4 m_9 m_10 m_14 m_15 m_25 m_26 m_27 m_28 m_29 m_31 m_32 m_33 m_35 m_36 m_37 m_38 m_39 m_40 m_42)), ((r 0), .inl (E.2.2.1 0, 1200, .inl r0_f))] 0 0 [(0, .ref m), (1, .int l1), (2, .int (nI l2))] 45 []) : ∀ (fuel : Nat) (l1 : Int32) (l2 : Nat), (l2 ≤ 1202) → (l2 % 2 = 0) → (l1 = 0 ∨ l1 = 1) → (1202 - l2) < fuel → (∀ (β : Type) (k_ : Int32 → β), rr β k_ = lf_wr_X11_areTwins_4 m_1 r0_f β (kx_ β k_) fuel l1 l2) → G E X 3 [(m, .inr (11, mkF r m_1 m_4 m_9 m_10 m_14 m_15 m_25 m_26 m_27 m_28 m_29 m_31 m_32 m_33 m_35 m_36 m_37 m_38 m_39 m_40 m_42)), ((r 0), .inl (E.2.2.1 0, 1200, .inl r0_f))] 0 0 [(0, .ref m), (1, .int l1), (2, .int (nI l2))] 4 [] := by
  intro fuel
  induction fuel with
  | zero => intro l1 l2 _ _ _ h _; exact absurd h (Nat.not_lt_zero _)
  | succ fuel ih =>
    intro l1 l2 hv0 hv1 hv2 hm e_
    replace e_ := fun β k_ => (e_ β k_).trans lf_wr_X11_areTwins_4_s
    refine g_iload_n B dX11_areTwins_4 rfl 2 rfl ?_
    refine g_aload_n B dX11_areTwins_5 rfl 0 rfl ?_
    refine g_get B 0 1 fl_X11_178 rfl mf_1 dX11_areTwins_6 ?_
    refine g_icmp_ge (tgt := 45) B dX11_areTwins_9 (by decide) (fun c9_2692 => ?_) (fun c9_2692 => ?_)
    · have hn_2693 : m_1 ≤ l2 := (nI_leI (a := m_1) (b := l2) (by omega) (by omega)).mp c9_2692
      replace e_ := fun β k_ => (e_ β k_).trans (if_pos hn_2693)
      exact K l1 l2 (by first | assumption | omega | decide | exact hCF _ (by omega)) (by first | assumption | omega | decide | exact hCF _ (by omega)) (by first | assumption | omega | decide | exact hCF _ (by omega)) e_
    · have hn_2694 : l2 < m_1 := Nat.not_le.mp (fun q => c9_2692 ((nI_leI (a := m_1) (b := l2) (by omega) (by omega)).mpr q))
      replace e_ := fun β k_ => (e_ β k_).trans (if_neg (Nat.not_le.mpr hn_2694))
      refine g_iload_n B dX11_areTwins_12 rfl 1 rfl ?_
      refine g_if_eq (tgt := 37) B dX11_areTwins_13 (by decide) (fun c13_2695 => ?_) (fun c13_2695 => ?_)
      · replace e_ := fun β k_ => (e_ β k_).trans (if_pos c13_2695)
        refine g_iconst (v := 0) B dX11_areTwins_37 (by decide) ?_
        refine g_istore_n (lv' := [(1, .int 0), (0, .ref m), (2, .int (nI l2))]) B dX11_areTwins_38 rfl (by decide) rfl ?_
        refine g_iinc (v := nI (l2 + 2)) (lv' := [(2, .int (nI (l2 + 2))), (1, .int 0), (0, .ref m)]) B dX11_areTwins_39 2 rfl (nI_add l2 2) (by decide) rfl ?_
        refine g_goto (tgt := 4) B dX11_areTwins_42 (by decide) ?_
        refine g_lvsub (lv' := [(0, .ref m), (1, .int 0), (2, .int (nI (l2 + 2)))]) [2, 1, 0] rfl ?_
        exact ih 0 (l2 + 2) (by first | assumption | omega | decide | exact hCF _ (by omega)) (by first | assumption | omega | decide | exact hCF _ (by omega)) (by first | exact Or.inl rfl | exact Or.inr rfl) (by omega) e_
      · replace e_ := fun β k_ => (e_ β k_).trans (if_neg c13_2695)
        refine g_aload_n B dX11_areTwins_16 rfl 0 rfl ?_
        refine g_get B 0 0 fl_X11_9 rfl mf_0 dX11_areTwins_17 ?_
        refine g_iload_n B dX11_areTwins_20 rfl 2 rfl ?_
        refine g_iald B 1 rfl (vp_in_nI (by omega) (by omega)) dX11_areTwins_21 ?_
        refine g_ri (x' := (r0_f l2)) (congrArg r0_f (nI_clamp (n := l2) (by omega))) ?_
        refine g_aload_n B dX11_areTwins_22 rfl 0 rfl ?_
        refine g_get B 0 0 fl_X11_9 rfl mf_0 dX11_areTwins_23 ?_
        refine g_iload_n B dX11_areTwins_26 rfl 2 rfl ?_
        refine g_iconst (v := 1) B dX11_areTwins_27 (by decide) ?_
        refine g_iadd B dX11_areTwins_28 ?_
        refine g_ri (x' := nI (l2 + 1)) (nI_add l2 1) ?_
        refine g_iald B 1 rfl (vp_in_nI (by omega) (by omega)) dX11_areTwins_29 ?_
        refine g_ri (x' := (r0_f (l2 + 1))) (congrArg r0_f (nI_clamp (n := (l2 + 1)) (by omega))) ?_
        refine g_icmp_ne (tgt := 37) B dX11_areTwins_30 (by decide) (fun c30_2696 => ?_) (fun c30_2696 => ?_)
        · replace e_ := fun β k_ => (e_ β k_).trans (if_neg c30_2696)
          refine g_iconst (v := 0) B dX11_areTwins_37 (by decide) ?_
          refine g_istore_n (lv' := [(1, .int 0), (0, .ref m), (2, .int (nI l2))]) B dX11_areTwins_38 rfl (by decide) rfl ?_
          refine g_iinc (v := nI (l2 + 2)) (lv' := [(2, .int (nI (l2 + 2))), (1, .int 0), (0, .ref m)]) B dX11_areTwins_39 2 rfl (nI_add l2 2) (by decide) rfl ?_
          refine g_goto (tgt := 4) B dX11_areTwins_42 (by decide) ?_
          refine g_lvsub (lv' := [(0, .ref m), (1, .int 0), (2, .int (nI (l2 + 2)))]) [2, 1, 0] rfl ?_
          exact ih 0 (l2 + 2) (by first | assumption | omega | decide | exact hCF _ (by omega)) (by first | assumption | omega | decide | exact hCF _ (by omega)) (by first | exact Or.inl rfl | exact Or.inr rfl) (by omega) e_
        · replace e_ := fun β k_ => (e_ β k_).trans (if_pos c30_2696)
          refine g_iconst (v := 1) B dX11_areTwins_33 (by decide) ?_
          refine g_goto (tgt := 38) B dX11_areTwins_34 (by decide) ?_
          refine g_istore_n (lv' := [(1, .int 1), (0, .ref m), (2, .int (nI l2))]) B dX11_areTwins_38 rfl (by decide) rfl ?_
          refine g_iinc (v := nI (l2 + 2)) (lv' := [(2, .int (nI (l2 + 2))), (1, .int 1), (0, .ref m)]) B dX11_areTwins_39 2 rfl (nI_add l2 2) (by decide) rfl ?_
          refine g_goto (tgt := 4) B dX11_areTwins_42 (by decide) ?_
          refine g_lvsub (lv' := [(0, .ref m), (1, .int 1), (2, .int (nI (l2 + 2)))]) [2, 1, 0] rfl ?_
          exact ih 1 (l2 + 2) (by first | assumption | omega | decide | exact hCF _ (by omega)) (by first | assumption | omega | decide | exact hCF _ (by omega)) (by first | exact Or.inl rfl | exact Or.inr rfl) (by omega) e_
theorem dX11_areTwins_45 : decode cX11_areTwins 45 = .ok (.iload_n 1, 1) := by decide +kernel
theorem dX11_areTwins_46 : decode cX11_areTwins 46 = .ok (.ireturn, 1) := by decide +kernel
set_option maxRecDepth 100000 in
def fn_wr_X11_areTwins (m_1 : Nat) (r0_f : Nat → Int32) (β : Type) (k_ : Int32 → β) : β := (lf_wr_X11_areTwins_4 m_1 r0_f β (fun y_2697l1 y_2697l2 => (k_ y_2697l1)) ((1202 - 0) + 1) 1 0)
set_option maxRecDepth 100000 in
theorem fn_wr_X11_areTwins_s {m_1 : Nat} {r0_f : Nat → Int32} {β : Type} {k_ : Int32 → β} : fn_wr_X11_areTwins m_1 r0_f β k_ = (lf_wr_X11_areTwins_4 m_1 r0_f β (fun y_2697l1 y_2697l2 => (k_ y_2697l1)) ((1202 - 0) + 1) 1 0) := rfl
set_option maxRecDepth 100000 in
set_option maxHeartbeats 4000000 in
theorem wr_X11_areTwins (E : g_E) (m : Nat) (r : Nat → Nat) (m_1 : Nat) (m_4 : Nat) (m_9 : Nat) (m_10 : Nat) (m_14 : Nat) (m_15 : Nat) (m_25 : Int32) (m_26 : Int32) (m_27 : Int64) (m_28 : Nat) (m_29 : Nat) (m_31 : Nat) (m_32 : Nat) (m_33 : Nat) (m_35 : Nat) (m_36 : Nat) (m_37 : Int32) (m_38 : Nat) (m_39 : Int32) (m_40 : Int32) (m_42 : Nat) (r0_f : Nat → Int32) (hb0 : m_1 ≤ 1200) : Ev E MX11_areTwins 0 0 0 0 [.ref m] [(m, .inr (11, mkF r m_1 m_4 m_9 m_10 m_14 m_15 m_25 m_26 m_27 m_28 m_29 m_31 m_32 m_33 m_35 m_36 m_37 m_38 m_39 m_40 m_42)), ((r 0), .inl (E.2.2.1 0, 1200, .inl r0_f))] (fun v_ w_ => ∃ zr : Int32, (zr = 0 ∨ zr = 1) ∧ (∀ (β : Type) (k_ : Int32 → β), fn_wr_X11_areTwins m_1 r0_f β k_ = k_ zr) ∧ v_ = some (.int zr) ∧ w_ = [(m, .inr (11, mkF r m_1 m_4 m_9 m_10 m_14 m_15 m_25 m_26 m_27 m_28 m_29 m_31 m_32 m_33 m_35 m_36 m_37 m_38 m_39 m_40 m_42)), ((r 0), .inl (E.2.2.1 0, 1200, .inl r0_f))]) := by
  refine Ev.intro (by decide) (Nat.le_of_ble_eq_true rfl) ?_
  intro X B hr hI
  have B : Bd E X cX11_areTwins RX11 3 0 0 0 0 := B
  have hr : Rt E X (some .boolean) 0 0 (fun v_ w_ => ∃ zr : Int32, (zr = 0 ∨ zr = 1) ∧ (∀ (β : Type) (k_ : Int32 → β), fn_wr_X11_areTwins m_1 r0_f β k_ = k_ zr) ∧ v_ = some (.int zr) ∧ w_ = [(m, .inr (11, mkF r m_1 m_4 m_9 m_10 m_14 m_15 m_25 m_26 m_27 m_28 m_29 m_31 m_32 m_33 m_35 m_36 m_37 m_38 m_39 m_40 m_42)), ((r 0), .inl (E.2.2.1 0, 1200, .inl r0_f))]) := hr
  have e_ := fun (β : Type) (k_ : Int32 → β) => fn_wr_X11_areTwins_s (β := β) (k_ := k_) (m_1 := m_1) (r0_f := r0_f)
  show G E X 3 [(m, .inr (11, mkF r m_1 m_4 m_9 m_10 m_14 m_15 m_25 m_26 m_27 m_28 m_29 m_31 m_32 m_33 m_35 m_36 m_37 m_38 m_39 m_40 m_42)), ((r 0), .inl (E.2.2.1 0, 1200, .inl r0_f))] 0 0 [(0, .ref m)] 0 []
  refine g_iconst (v := 1) B dX11_areTwins_0 (by decide) ?_
  refine g_istore_n (lv' := [(1, .int 1), (0, .ref m)]) B dX11_areTwins_1 rfl (by decide) rfl ?_
  refine g_iconst (v := 0) B dX11_areTwins_2 (by decide) ?_
  refine g_istore_n (lv' := [(2, .int 0), (1, .int 1), (0, .ref m)]) B dX11_areTwins_3 rfl (by decide) rfl ?_
  refine g_lvsub (lv' := [(0, .ref m), (1, .int 1), (2, .int 0)]) [2, 1, 0] rfl ?_
  refine lp_wr_X11_areTwins_4 E m r m_1 m_4 m_9 m_10 m_14 m_15 m_25 m_26 m_27 m_28 m_29 m_31 m_32 m_33 m_35 m_36 m_37 m_38 m_39 m_40 m_42 r0_f hb0   _ B hr (fun y_2697l1 y_2697l2 y_2697k0 y_2697k1 y_2697k2 e_ => ?_) _ 1 0 (by first | assumption | omega | decide | exact hCF _ (by omega)) (by first | assumption | omega | decide | exact hCF _ (by omega)) (Or.inr rfl) (Nat.lt_succ_self _) e_
  show G E X 3 [(m, .inr (11, mkF r m_1 m_4 m_9 m_10 m_14 m_15 m_25 m_26 m_27 m_28 m_29 m_31 m_32 m_33 m_35 m_36 m_37 m_38 m_39 m_40 m_42)), ((r 0), .inl (E.2.2.1 0, 1200, .inl r0_f))] 0 0 [(0, .ref m), (1, .int y_2697l1), (2, .int (nI y_2697l2))] 45 []
  refine g_iload_n B dX11_areTwins_45 rfl 1 rfl ?_
  exact g_zret B hr (nar01 (by assumption)) dX11_areTwins_46 (by decide) (by decide) ⟨y_2697l1, (by first | assumption | omega | decide | exact hCF _ (by omega)), e_, rfl, rfl⟩
abbrev MX11_tellsSilence : g_M := (yX11_tellsSilence, cX11_tellsSilence, 2, none)
theorem dX11_tellsSilence_0 : decode cX11_tellsSilence 0 = .ok (.aload_n 0, 1) := by decide +kernel
theorem dX11_tellsSilence_1 : decode cX11_tellsSilence 1 = .ok (.dup, 1) := by decide +kernel
theorem dX11_tellsSilence_2 : decode cX11_tellsSilence 2 = .ok (.getfield 103, 3) := by decide +kernel
theorem dX11_tellsSilence_5 : decode cX11_tellsSilence 5 = .ok (.iload_n 1, 1) := by decide +kernel
theorem dX11_tellsSilence_6 : decode cX11_tellsSilence 6 = .ok (.ifCond .le 7, 3) := by decide +kernel
theorem dX11_tellsSilence_13 : decode cX11_tellsSilence 13 = .ok (.iconst 0, 1) := by decide +kernel
theorem dX11_tellsSilence_14 : decode cX11_tellsSilence 14 = .ok (.iadd, 1) := by decide +kernel
theorem dX11_tellsSilence_15 : decode cX11_tellsSilence 15 = .ok (.putfield 103, 3) := by decide +kernel
theorem dX11_tellsSilence_18 : decode cX11_tellsSilence 18 = .ok (.aload_n 0, 1) := by decide +kernel
theorem dX11_tellsSilence_19 : decode cX11_tellsSilence 19 = .ok (.dup, 1) := by decide +kernel
theorem dX11_tellsSilence_20 : decode cX11_tellsSilence 20 = .ok (.getfield 107, 3) := by decide +kernel
theorem dX11_tellsSilence_23 : decode cX11_tellsSilence 23 = .ok (.iload_n 1, 1) := by decide +kernel
theorem dX11_tellsSilence_24 : decode cX11_tellsSilence 24 = .ok (.iadd, 1) := by decide +kernel
theorem dX11_tellsSilence_25 : decode cX11_tellsSilence 25 = .ok (.putfield 107, 3) := by decide +kernel
theorem dX11_tellsSilence_28 : decode cX11_tellsSilence 28 = .ok (.return_, 1) := by decide +kernel
theorem dX11_tellsSilence_9 : decode cX11_tellsSilence 9 = .ok (.iconst 1, 1) := by decide +kernel
theorem dX11_tellsSilence_10 : decode cX11_tellsSilence 10 = .ok (.goto 4, 3) := by decide +kernel
set_option maxRecDepth 100000 in
def fn_wr_X11_tellsSilence (m_25 : Int32) (m_26 : Int32) (x : Int32) (β : Type) (k_ : Int32 → Int32 → β) : β := (if x ≤ 0 then (k_ (m_25 + 0) (m_26 + x)) else (k_ (m_25 + 1) (m_26 + x)))
set_option maxRecDepth 100000 in
theorem fn_wr_X11_tellsSilence_s {m_25 : Int32} {m_26 : Int32} {x : Int32} {β : Type} {k_ : Int32 → Int32 → β} : fn_wr_X11_tellsSilence m_25 m_26 x β k_ = (if x ≤ 0 then (k_ (m_25 + 0) (m_26 + x)) else (k_ (m_25 + 1) (m_26 + x))) := rfl
set_option maxRecDepth 100000 in
set_option maxHeartbeats 4000000 in
theorem wr_X11_tellsSilence (E : g_E) (m : Nat) (r : Nat → Nat) (m_1 : Nat) (m_4 : Nat) (m_9 : Nat) (m_10 : Nat) (m_14 : Nat) (m_15 : Nat) (m_25 : Int32) (m_26 : Int32) (m_27 : Int64) (m_28 : Nat) (m_29 : Nat) (m_31 : Nat) (m_32 : Nat) (m_33 : Nat) (m_35 : Nat) (m_36 : Nat) (m_37 : Int32) (m_38 : Nat) (m_39 : Int32) (m_40 : Int32) (m_42 : Nat) (x : Int32)  : Ev E MX11_tellsSilence 0 0 0 0 [.ref m, .int x] [(m, .inr (11, mkF r m_1 m_4 m_9 m_10 m_14 m_15 m_25 m_26 m_27 m_28 m_29 m_31 m_32 m_33 m_35 m_36 m_37 m_38 m_39 m_40 m_42))] (fun v_ w_ => ∃ zm_25 : Int32, ∃ zm_26 : Int32, (∀ (β : Type) (k_ : Int32 → Int32 → β), fn_wr_X11_tellsSilence m_25 m_26 x β k_ = k_ zm_25 zm_26) ∧ v_ = none ∧ w_ = [(m, .inr (11, mkF r m_1 m_4 m_9 m_10 m_14 m_15 zm_25 zm_26 m_27 m_28 m_29 m_31 m_32 m_33 m_35 m_36 m_37 m_38 m_39 m_40 m_42))]) := by
  refine Ev.intro (by decide) (Nat.le_of_ble_eq_true rfl) ?_
  intro X B hr hI
  have B : Bd E X cX11_tellsSilence RX11 2 0 0 0 0 := B
  have hr : Rt E X none 0 0 (fun v_ w_ => ∃ zm_25 : Int32, ∃ zm_26 : Int32, (∀ (β : Type) (k_ : Int32 → Int32 → β), fn_wr_X11_tellsSilence m_25 m_26 x β k_ = k_ zm_25 zm_26) ∧ v_ = none ∧ w_ = [(m, .inr (11, mkF r m_1 m_4 m_9 m_10 m_14 m_15 zm_25 zm_26 m_27 m_28 m_29 m_31 m_32 m_33 m_35 m_36 m_37 m_38 m_39 m_40 m_42))]) := hr
  have e_ := fun (β : Type) (k_ : Int32 → Int32 → β) => fn_wr_X11_tellsSilence_s (β := β) (k_ := k_) (m_25 := m_25) (m_26 := m_26) (x := x)
  show G E X 2 [(m, .inr (11, mkF r m_1 m_4 m_9 m_10 m_14 m_15 m_25 m_26 m_27 m_28 m_29 m_31 m_32 m_33 m_35 m_36 m_37 m_38 m_39 m_40 m_42))] 0 0 [(0, .ref m), (1, .int x)] 0 []
  refine g_aload_n B dX11_tellsSilence_0 rfl 0 rfl ?_
  refine g_dup B dX11_tellsSilence_1 rfl ?_
  refine g_get B 0 25 fl_X11_103 rfl mf_25 dX11_tellsSilence_2 ?_
  refine g_iload_n B dX11_tellsSilence_5 rfl 1 rfl ?_
  refine g_if_le (tgt := 13) B dX11_tellsSilence_6 (by decide) (fun c6_2698 => ?_) (fun c6_2698 => ?_)
  · replace e_ := fun β k_ => (e_ β k_).trans (if_pos c6_2698)
    refine g_iconst (v := 0) B dX11_tellsSilence_13 (by decide) ?_
    refine g_iadd B dX11_tellsSilence_14 ?_
    refine g_putM (ws' := [(m, .inr (11, mkF r m_1 m_4 m_9 m_10 m_14 m_15 (m_25 + 0) m_26 m_27 m_28 m_29 m_31 m_32 m_33 m_35 m_36 m_37 m_38 m_39 m_40 m_42))]) (fs' := mkF r m_1 m_4 m_9 m_10 m_14 m_15 (m_25 + 0) m_26 m_27 m_28 m_29 m_31 m_32 m_33 m_35 m_36 m_37 m_38 m_39 m_40 m_42) B 0 25 fl_X11_103 pf_X11_25 rfl (mlt (by decide)) rfl rfl (ms_25 rfl) rfl dX11_tellsSilence_15 ?_
    refine g_aload_n B dX11_tellsSilence_18 rfl 0 rfl ?_
    refine g_dup B dX11_tellsSilence_19 rfl ?_
    refine g_get B 0 26 fl_X11_107 rfl mf_26 dX11_tellsSilence_20 ?_
    refine g_iload_n B dX11_tellsSilence_23 rfl 1 rfl ?_
    refine g_iadd B dX11_tellsSilence_24 ?_
    refine g_putM (ws' := [(m, .inr (11, mkF r m_1 m_4 m_9 m_10 m_14 m_15 (m_25 + 0) (m_26 + x) m_27 m_28 m_29 m_31 m_32 m_33 m_35 m_36 m_37 m_38 m_39 m_40 m_42))]) (fs' := mkF r m_1 m_4 m_9 m_10 m_14 m_15 (m_25 + 0) (m_26 + x) m_27 m_28 m_29 m_31 m_32 m_33 m_35 m_36 m_37 m_38 m_39 m_40 m_42) B 0 26 fl_X11_107 pf_X11_26 rfl (mlt (by decide)) rfl rfl (ms_26 rfl) rfl dX11_tellsSilence_25 ?_
    exact g_vret B hr dX11_tellsSilence_28 (by decide) (by decide) ⟨(m_25 + 0), (m_26 + x), e_, rfl, rfl⟩
  · replace e_ := fun β k_ => (e_ β k_).trans (if_neg c6_2698)
    refine g_iconst (v := 1) B dX11_tellsSilence_9 (by decide) ?_
    refine g_goto (tgt := 14) B dX11_tellsSilence_10 (by decide) ?_
    refine g_iadd B dX11_tellsSilence_14 ?_
    refine g_putM (ws' := [(m, .inr (11, mkF r m_1 m_4 m_9 m_10 m_14 m_15 (m_25 + 1) m_26 m_27 m_28 m_29 m_31 m_32 m_33 m_35 m_36 m_37 m_38 m_39 m_40 m_42))]) (fs' := mkF r m_1 m_4 m_9 m_10 m_14 m_15 (m_25 + 1) m_26 m_27 m_28 m_29 m_31 m_32 m_33 m_35 m_36 m_37 m_38 m_39 m_40 m_42) B 0 25 fl_X11_103 pf_X11_25 rfl (mlt (by decide)) rfl rfl (ms_25 rfl) rfl dX11_tellsSilence_15 ?_
    refine g_aload_n B dX11_tellsSilence_18 rfl 0 rfl ?_
    refine g_dup B dX11_tellsSilence_19 rfl ?_
    refine g_get B 0 26 fl_X11_107 rfl mf_26 dX11_tellsSilence_20 ?_
    refine g_iload_n B dX11_tellsSilence_23 rfl 1 rfl ?_
    refine g_iadd B dX11_tellsSilence_24 ?_
    refine g_putM (ws' := [(m, .inr (11, mkF r m_1 m_4 m_9 m_10 m_14 m_15 (m_25 + 1) (m_26 + x) m_27 m_28 m_29 m_31 m_32 m_33 m_35 m_36 m_37 m_38 m_39 m_40 m_42))]) (fs' := mkF r m_1 m_4 m_9 m_10 m_14 m_15 (m_25 + 1) (m_26 + x) m_27 m_28 m_29 m_31 m_32 m_33 m_35 m_36 m_37 m_38 m_39 m_40 m_42) B 0 26 fl_X11_107 pf_X11_26 rfl (mlt (by decide)) rfl rfl (ms_26 rfl) rfl dX11_tellsSilence_25 ?_
    exact g_vret B hr dX11_tellsSilence_28 (by decide) (by decide) ⟨(m_25 + 1), (m_26 + x), e_, rfl, rfl⟩
abbrev MX11_readies : g_M := (yX11_readies, cX11_readies, 8, none)
theorem dX11_readies_0 : decode cX11_readies 0 = .ok (.aload_n 0, 1) := by decide +kernel
theorem dX11_readies_1 : decode cX11_readies 1 = .ok (.aload_n 0, 1) := by decide +kernel
theorem dX11_readies_2 : decode cX11_readies 2 = .ok (.getfield 178, 3) := by decide +kernel
theorem dX11_readies_5 : decode cX11_readies 5 = .ok (.iload_n 1, 1) := by decide +kernel
theorem dX11_readies_6 : decode cX11_readies 6 = .ok (.idiv, 1) := by decide +kernel
theorem dX11_readies_7 : decode cX11_readies 7 = .ok (.putfield 189, 3) := by decide +kernel
theorem w_fl_X11_189 : Cond.fieldLink RX11 189 (TX11 38).1 (TX11 38).2.1 (TX11 38).2.2.1 ∈ g_tbl := g_tbl_in 918 (by decide +kernel) (by decide +kernel)
theorem fl_X11_189 : FL RX11 189 11 38 := ⟨RX11, TX11, 50, rfl, by decide, inX_X11, w_fl_X11_189⟩
theorem pf_X11_38 : PF 11 38 .int false := fun C T N h => by cases h; exact ⟨⟨tyX11, tyX11_ok⟩, nmX11, by decide +kernel, rfl, rfl⟩
theorem dX11_readies_10 : decode cX11_readies 10 = .ok (.aload_n 0, 1) := by decide +kernel
theorem dX11_readies_11 : decode cX11_readies 11 = .ok (.aload_n 0, 1) := by decide +kernel
theorem dX11_readies_12 : decode cX11_readies 12 = .ok (.invokevirtual 192, 3) := by decide +kernel
theorem w_ml_X11_192 : Cond.methodLink RX11 192 yX11_shiftOf ∈ g_tbl := g_tbl_in 1047 (by decide +kernel) (by decide +kernel)
theorem w_cd_X11_shiftOf : g_cw MX11_shiftOf ∈ g_tbl := g_tbl_in 1050 (by decide +kernel) (by decide +kernel)
theorem cl_X11_192 : CL RX11 192 0 MX11_shiftOf := ⟨w_ml_X11_192, w_cd_X11_shiftOf, w_ini_X11, by decide +kernel, by decide +kernel, by decide +kernel⟩
theorem w_im_X11_shiftOf : Cond.instanceMethod yX11_shiftOf ∈ g_tbl := g_tbl_in 1049 (by decide +kernel) (by decide +kernel)
theorem w_se_X11_shiftOf : Cond.selects RX11 yX11_shiftOf yX11_shiftOf ∈ g_tbl := g_tbl_in 29 (by decide +kernel) (by decide +kernel)
theorem dX11_readies_15 : decode cX11_readies 15 = .ok (.putfield 196, 3) := by decide +kernel
theorem w_fl_X11_196 : Cond.fieldLink RX11 196 (TX11 37).1 (TX11 37).2.1 (TX11 37).2.2.1 ∈ g_tbl := g_tbl_in 917 (by decide +kernel) (by decide +kernel)
theorem fl_X11_196 : FL RX11 196 11 37 := ⟨RX11, TX11, 50, rfl, by decide, inX_X11, w_fl_X11_196⟩
theorem pf_X11_37 : PF 11 37 .int false := fun C T N h => by cases h; exact ⟨⟨tyX11, tyX11_ok⟩, nmX11, by decide +kernel, rfl, rfl⟩
theorem dX11_readies_18 : decode cX11_readies 18 = .ok (.iload_n 1, 1) := by decide +kernel
theorem dX11_readies_19 : decode cX11_readies 19 = .ok (.iconst 2, 1) := by decide +kernel
theorem dX11_readies_20 : decode cX11_readies 20 = .ok (.if_icmp .ne 14, 3) := by decide +kernel
theorem dX11_readies_34 : decode cX11_readies 34 = .ok (.iconst 0, 1) := by decide +kernel
theorem dX11_readies_35 : decode cX11_readies 35 = .ok (.istore_n 3, 1) := by decide +kernel
theorem dX11_readies_36 : decode cX11_readies 36 = .ok (.iload_n 1, 1) := by decide +kernel
theorem dX11_readies_37 : decode cX11_readies 37 = .ok (.iconst 2, 1) := by decide +kernel
theorem dX11_readies_38 : decode cX11_readies 38 = .ok (.if_icmp .ne 15, 3) := by decide +kernel
theorem dX11_readies_53 : decode cX11_readies 53 = .ok (.iconst 0, 1) := by decide +kernel
theorem dX11_readies_54 : decode cX11_readies 54 = .ok (.istore 4, 2) := by decide +kernel
theorem dX11_readies_56 : decode cX11_readies 56 = .ok (.aload_n 0, 1) := by decide +kernel
theorem dX11_readies_57 : decode cX11_readies 57 = .ok (.iload_n 1, 1) := by decide +kernel
theorem dX11_readies_58 : decode cX11_readies 58 = .ok (.iconst 2, 1) := by decide +kernel
theorem dX11_readies_59 : decode cX11_readies 59 = .ok (.if_icmp .ne 11, 3) := by decide +kernel
theorem dX11_readies_70 : decode cX11_readies 70 = .ok (.iconst 1, 1) := by decide +kernel
theorem dX11_readies_71 : decode cX11_readies 71 = .ok (.putfield 118, 3) := by decide +kernel
theorem pf_X11_15 : PF 11 15 .int false := fun C T N h => by cases h; exact ⟨⟨tyX11, tyX11_ok⟩, nmX11, by decide +kernel, rfl, rfl⟩
theorem dX11_readies_74 : decode cX11_readies 74 = .ok (.aload_n 0, 1) := by decide +kernel
theorem dX11_readies_75 : decode cX11_readies 75 = .ok (.iload_n 1, 1) := by decide +kernel
theorem dX11_readies_76 : decode cX11_readies 76 = .ok (.iconst 2, 1) := by decide +kernel
theorem dX11_readies_77 : decode cX11_readies 77 = .ok (.if_icmp .ne 7, 3) := by decide +kernel
theorem dX11_readies_84 : decode cX11_readies 84 = .ok (.iconst 0, 1) := by decide +kernel
theorem dX11_readies_85 : decode cX11_readies 85 = .ok (.iload_n 3, 1) := by decide +kernel
theorem dX11_readies_86 : decode cX11_readies 86 = .ok (.ifCond .eq 7, 3) := by decide +kernel
theorem dX11_readies_93 : decode cX11_readies 93 = .ok (.iconst 0, 1) := by decide +kernel
theorem dX11_readies_94 : decode cX11_readies 94 = .ok (.ior, 1) := by decide +kernel
theorem dX11_readies_95 : decode cX11_readies 95 = .ok (.iload 4, 2) := by decide +kernel
theorem dX11_readies_97 : decode cX11_readies 97 = .ok (.ifCond .eq 7, 3) := by decide +kernel
theorem dX11_readies_104 : decode cX11_readies 104 = .ok (.iconst 0, 1) := by decide +kernel
theorem dX11_readies_105 : decode cX11_readies 105 = .ok (.ior, 1) := by decide +kernel
theorem dX11_readies_106 : decode cX11_readies 106 = .ok (.aload_n 0, 1) := by decide +kernel
theorem dX11_readies_107 : decode cX11_readies 107 = .ok (.getfield 203, 3) := by decide +kernel
theorem dX11_readies_110 : decode cX11_readies 110 = .ok (.ifCond .le 8, 3) := by decide +kernel
theorem dX11_readies_118 : decode cX11_readies 118 = .ok (.iconst 0, 1) := by decide +kernel
theorem dX11_readies_119 : decode cX11_readies 119 = .ok (.ior, 1) := by decide +kernel
theorem dX11_readies_120 : decode cX11_readies 120 = .ok (.putfield 206, 3) := by decide +kernel
theorem w_fl_X11_206 : Cond.fieldLink RX11 206 (TX11 39).1 (TX11 39).2.1 (TX11 39).2.2.1 ∈ g_tbl := g_tbl_in 919 (by decide +kernel) (by decide +kernel)
theorem fl_X11_206 : FL RX11 206 11 39 := ⟨RX11, TX11, 50, rfl, by decide, inX_X11, w_fl_X11_206⟩
theorem pf_X11_39 : PF 11 39 .int false := fun C T N h => by cases h; exact ⟨⟨tyX11, tyX11_ok⟩, nmX11, by decide +kernel, rfl, rfl⟩
theorem dX11_readies_123 : decode cX11_readies 123 = .ok (.iconst 0, 1) := by decide +kernel
theorem dX11_readies_124 : decode cX11_readies 124 = .ok (.istore 5, 2) := by decide +kernel
theorem dX11_readies_126 : decode cX11_readies 126 = .ok (.iload 5, 2) := by decide +kernel
theorem dX11_readies_128 : decode cX11_readies 128 = .ok (.aload_n 0, 1) := by decide +kernel
theorem dX11_readies_129 : decode cX11_readies 129 = .ok (.getfield 189, 3) := by decide +kernel
theorem dX11_readies_132 : decode cX11_readies 132 = .ok (.if_icmp .ge 118, 3) := by decide +kernel
theorem dX11_readies_135 : decode cX11_readies 135 = .ok (.aload_n 0, 1) := by decide +kernel
theorem dX11_readies_136 : decode cX11_readies 136 = .ok (.getfield 9, 3) := by decide +kernel
theorem dX11_readies_139 : decode cX11_readies 139 = .ok (.iload_n 1, 1) := by decide +kernel
theorem dX11_readies_140 : decode cX11_readies 140 = .ok (.iload 5, 2) := by decide +kernel
theorem dX11_readies_142 : decode cX11_readies 142 = .ok (.imul, 1) := by decide +kernel
theorem dX11_readies_143 : decode cX11_readies 143 = .ok (.iaload, 1) := by decide +kernel
theorem dX11_readies_144 : decode cX11_readies 144 = .ok (.aload_n 0, 1) := by decide +kernel
theorem dX11_readies_145 : decode cX11_readies 145 = .ok (.getfield 196, 3) := by decide +kernel
theorem dX11_readies_148 : decode cX11_readies 148 = .ok (.ishr, 1) := by decide +kernel
theorem dX11_readies_149 : decode cX11_readies 149 = .ok (.istore 6, 2) := by decide +kernel
theorem dX11_readies_151 : decode cX11_readies 151 = .ok (.iload_n 1, 1) := by decide +kernel
theorem dX11_readies_152 : decode cX11_readies 152 = .ok (.iconst 2, 1) := by decide +kernel
theorem dX11_readies_153 : decode cX11_readies 153 = .ok (.if_icmp .ne 22, 3) := by decide +kernel
theorem dX11_readies_175 : decode cX11_readies 175 = .ok (.iconst 0, 1) := by decide +kernel
theorem dX11_readies_176 : decode cX11_readies 176 = .ok (.istore 7, 2) := by decide +kernel
theorem dX11_readies_178 : decode cX11_readies 178 = .ok (.aload_n 0, 1) := by decide +kernel
theorem dX11_readies_179 : decode cX11_readies 179 = .ok (.getfield 77, 3) := by decide +kernel
theorem dX11_readies_182 : decode cX11_readies 182 = .ok (.aload_n 0, 1) := by decide +kernel
theorem dX11_readies_183 : decode cX11_readies 183 = .ok (.getfield 118, 3) := by decide +kernel
theorem dX11_readies_186 : decode cX11_readies 186 = .ok (.iload 5, 2) := by decide +kernel
theorem dX11_readies_188 : decode cX11_readies 188 = .ok (.imul, 1) := by decide +kernel
theorem dX11_readies_189 : decode cX11_readies 189 = .ok (.iload 4, 2) := by decide +kernel
theorem dX11_readies_191 : decode cX11_readies 191 = .ok (.ifCond .eq 11, 3) := by decide +kernel
theorem dX11_readies_202 : decode cX11_readies 202 = .ok (.iload 6, 2) := by decide +kernel
theorem dX11_readies_204 : decode cX11_readies 204 = .ok (.iastore, 1) := by decide +kernel
theorem dX11_readies_205 : decode cX11_readies 205 = .ok (.aload_n 0, 1) := by decide +kernel
theorem dX11_readies_206 : decode cX11_readies 206 = .ok (.getfield 118, 3) := by decide +kernel
theorem dX11_readies_209 : decode cX11_readies 209 = .ok (.iconst 2, 1) := by decide +kernel
theorem dX11_readies_210 : decode cX11_readies 210 = .ok (.if_icmp .ne 34, 3) := by decide +kernel
theorem dX11_readies_244 : decode cX11_readies 244 = .ok (.iinc 5 1, 3) := by decide +kernel
theorem dX11_readies_247 : decode cX11_readies 247 = .ok (.goto (-121), 3) := by decide +kernel
set_option maxRecDepth 100000 in
def lf_wr_X11_readies_1_126 (m_1 : Nat) (r0_f : Nat → Int32) (pm_37 : Int32) (β : Type) (kx_ : (Nat → Int32) → Nat → β)  : Nat → (Nat → Int32) → Nat → β
  | 0, pr41_f, l5 => kx_ pr41_f l5
  | fuel + 1, pr41_f, l5 => (if (m_1 / 1) ≤ l5 then (kx_ pr41_f l5) else (lf_wr_X11_readies_1_126 m_1 r0_f pm_37 β kx_ fuel (upd pr41_f (1 * l5) ((r0_f (1 * l5)) >>> (pm_37 &&& 31))) (l5 + 1)))
set_option maxRecDepth 100000 in
theorem lf_wr_X11_readies_1_126_s {m_1 : Nat} {r0_f : Nat → Int32} {pm_37 : Int32} {β : Type} {kx_ : (Nat → Int32) → Nat → β}  {fuel : Nat} {pr41_f : Nat → Int32} {l5 : Nat} : lf_wr_X11_readies_1_126 m_1 r0_f pm_37 β kx_  (fuel + 1) pr41_f l5 = (if (m_1 / 1) ≤ l5 then (kx_ pr41_f l5) else (lf_wr_X11_readies_1_126 m_1 r0_f pm_37 β kx_ fuel (upd pr41_f (1 * l5) ((r0_f (1 * l5)) >>> (pm_37 &&& 31))) (l5 + 1))) := rfl
set_option maxRecDepth 100000 in
set_option maxHeartbeats 4000000 in
theorem lp_wr_X11_readies_1_126 (E : g_E) (m : Nat) (r : Nat → Nat) (m_1 : Nat) (m_4 : Nat) (m_9 : Nat) (m_10 : Nat) (m_14 : Nat) (m_15 : Nat) (m_25 : Int32) (m_26 : Int32) (m_27 : Int64) (m_28 : Nat) (m_29 : Nat) (m_31 : Nat) (m_32 : Nat) (m_33 : Nat) (m_35 : Nat) (m_36 : Nat) (m_37 : Int32) (m_38 : Nat) (m_39 : Int32) (m_40 : Int32) (m_42 : Nat) (r0_f : Nat → Int32) (r41_f : Nat → Int32) (jo : Int32) (h0 : m_1 / 1 ≤ 600) (hb0 : m_1 ≤ 1200) (hb1 : m_36 ≤ 65535) (hb2 : m_38 ≤ 65535) (hb3 : m_15 ≤ 2) (pm_37 : Int32)  {X : g_X} {rr : (β : Type) → (Nat → Int32 → Nat → Int32 → (Nat → Int32) → β) → β} (kx_ : (β : Type) → (Nat → Int32 → Nat → Int32 → (Nat → Int32) → β) → (Nat → Int32) → Nat → β) (B : Bd E X cX11_readies RX11 8 2 43 0 0) (hr : Rt E X none 0 0 (fun v_ w_ => ∃ zm_38 : Nat, ∃ zm_37 : Int32, ∃ zm_15 : Nat, ∃ zm_39 : Int32, ∃ zr41_f : Nat → Int32, (zm_38 ≤ 65535) ∧ (zm_15 ≤ 2) ∧ (zm_38 ≤ 600) ∧ (1 ≤ zm_15) ∧ (∀ f, f < zm_38 → zm_15 * f + zm_15 ≤ 1200) ∧ (∀ (β : Type) (k_ : Nat → Int32 → Nat → Int32 → (Nat → Int32) → β), rr β k_ = k_ zm_38 zm_37 zm_15 zm_39 zr41_f) ∧ v_ = none ∧ w_ = [(m, .inr (11, mkF r m_1 m_4 m_9 m_10 m_14 zm_15 m_25 m_26 m_27 m_28 m_29 m_31 m_32 m_33 m_35 m_36 zm_37 zm_38 zm_39 m_40 m_42)), ((r 0), .inl (E.2.2.1 0, 1200, .inl r0_f)), ((r 41), .inl (E.2.2.1 0, 1200, .inl zr41_f))])) (K : ∀ (pr41_f : Nat → Int32) (l5 : Nat), (l5 ≤ 600) → (∀ (β : Type) (k_ : Nat → Int32 → Nat → Int32 → (Nat → Int32) → β), rr β k_ = kx_ β k_ pr41_f l5) → G E X 8 [(m, .inr (11, mkF r m_1 m_4 m_9 m_10 m_14 1 m_25 m_26 m_27 m_28 m_29 m_31 m_32 m_33 m_35 m_36 pm_37 (m_1 / 1) 0 m_40 m_42)), ((r 0), .inl (E.2.2.1 0, 1200, .inl r0_f)), ((r 41), .inl (E.2.2.1 0, 1200, .inl pr41_f))] 0 0 [(0, .ref m), (1, .int 1), (2, .int jo), (3, .int 0), (4, .int 0), (5, .int (nI l5))] 250 []) : ∀ (fuel : Nat) (pr41_f : Nat → Int32) (l5 : Nat), (l5 ≤ 600) → (600 - l5) < fuel → (∀ (β : Type) (k_ : Nat → Int32 → Nat → Int32 → (Nat → Int32) → β), rr β k_ = lf_wr_X11_readies_1_126 m_1 r0_f pm_37 β (kx_ β k_) fuel pr41_f l5) → G E X 8 [(m, .inr (11, mkF r m_1 m_4 m_9 m_10 m_14 1 m_25 m_26 m_27 m_28 m_29 m_31 m_32 m_33 m_35 m_36 pm_37 (m_1 / 1) 0 m_40 m_42)), ((r 0), .inl (E.2.2.1 0, 1200, .inl r0_f)), ((r 41), .inl (E.2.2.1 0, 1200, .inl pr41_f))] 0 0 [(0, .ref m), (1, .int 1), (2, .int jo), (3, .int 0), (4, .int 0), (5, .int (nI l5))] 126 [] := by
  intro fuel
  induction fuel with
  | zero => intro pr41_f l5 _ h _; exact absurd h (Nat.not_lt_zero _)
  | succ fuel ih =>
    intro pr41_f l5 hv0 hm e_
    replace e_ := fun β k_ => (e_ β k_).trans lf_wr_X11_readies_1_126_s
    refine g_iload B dX11_readies_126 5 rfl ?_
    refine g_aload_n B dX11_readies_128 rfl 0 rfl ?_
    refine g_get B 0 38 fl_X11_189 rfl mf_38 dX11_readies_129 ?_
    refine g_icmp_ge (tgt := 250) B dX11_readies_132 (by decide) (fun c132_2704 => ?_) (fun c132_2704 => ?_)
    · have hn_2705 : (m_1 / 1) ≤ l5 := (nI_leI (a := (m_1 / 1)) (b := l5) (by omega) (by omega)).mp c132_2704
      replace e_ := fun β k_ => (e_ β k_).trans (if_pos hn_2705)
      exact K pr41_f l5 (by first | assumption | omega | decide | exact hCF _ (by omega)) e_
    · have hn_2706 : l5 < (m_1 / 1) := Nat.not_le.mp (fun q => c132_2704 ((nI_leI (a := (m_1 / 1)) (b := l5) (by omega) (by omega)).mpr q))
      replace e_ := fun β k_ => (e_ β k_).trans (if_neg (Nat.not_le.mpr hn_2706))
      refine g_aload_n B dX11_readies_135 rfl 0 rfl ?_
      refine g_get B 0 0 fl_X11_9 rfl mf_0 dX11_readies_136 ?_
      refine g_iload_n B dX11_readies_139 rfl 1 rfl ?_
      refine g_iload B dX11_readies_140 5 rfl ?_
      refine g_imul B dX11_readies_142 ?_
      refine g_ri (x' := nI (1 * l5)) (pk_mul 1 l5) ?_
      refine g_iald B 1 rfl (vp_in_nI (by omega) (by omega)) dX11_readies_143 ?_
      refine g_ri (x' := (r0_f (1 * l5))) (congrArg r0_f (nI_clamp (n := (1 * l5)) (by omega))) ?_
      refine g_aload_n B dX11_readies_144 rfl 0 rfl ?_
      refine g_get B 0 37 fl_X11_196 rfl mf_37 dX11_readies_145 ?_
      refine g_ishr B dX11_readies_148 ?_
      refine g_istore (lv' := [(6, .int ((r0_f (1 * l5)) >>> (pm_37 &&& 31))), (0, .ref m), (1, .int 1), (2, .int jo), (3, .int 0), (4, .int 0), (5, .int (nI l5))]) B dX11_readies_149 (by decide) rfl ?_
      refine g_iload_n B dX11_readies_151 rfl 2 rfl ?_
      refine g_iconst (v := 2) B dX11_readies_152 (by decide) ?_
      refine g_icmp_ne (tgt := 175) B dX11_readies_153 (by decide) (fun c153 => ?_) (fun h => absurd h (by decide))
      refine g_iconst (v := 0) B dX11_readies_175 (by decide) ?_
      refine g_istore (lv' := [(7, .int 0), (6, .int ((r0_f (1 * l5)) >>> (pm_37 &&& 31))), (0, .ref m), (1, .int 1), (2, .int jo), (3, .int 0), (4, .int 0), (5, .int (nI l5))]) B dX11_readies_176 (by decide) rfl ?_
      refine g_aload_n B dX11_readies_178 rfl 2 rfl ?_
      refine g_get B 0 41 fl_X11_77 rfl mf_41 dX11_readies_179 ?_
      refine g_aload_n B dX11_readies_182 rfl 2 rfl ?_
      refine g_get B 0 15 fl_X11_118 rfl mf_15 dX11_readies_183 ?_
      refine g_ri (x' := 1) (by decide) ?_
      refine g_iload B dX11_readies_186 7 rfl ?_
      refine g_imul B dX11_readies_188 ?_
      refine g_ri (x' := nI (1 * l5)) (pk_mul 1 l5) ?_
      refine g_iload B dX11_readies_189 6 rfl ?_
      refine g_if_eq (tgt := 202) B dX11_readies_191 (by decide) (fun c191 => ?_) (fun h => absurd (by decide) h)
      refine g_iload B dX11_readies_202 1 rfl ?_
      refine g_iast (ws' := [(m, .inr (11, mkF r m_1 m_4 m_9 m_10 m_14 1 m_25 m_26 m_27 m_28 m_29 m_31 m_32 m_33 m_35 m_36 pm_37 (m_1 / 1) 0 m_40 m_42)), ((r 0), .inl (E.2.2.1 0, 1200, .inl r0_f)), ((r 41), .inl (E.2.2.1 0, 1200, .inl (upd pr41_f (1 * l5) ((r0_f (1 * l5)) >>> (pm_37 &&& 31)))))]) B 2 rfl (vp_in_nI (by omega) (by omega)) (by rw [nI_clamp (n := (1 * l5)) (by omega)]; rfl) dX11_readies_204 ?_
      refine g_aload_n B dX11_readies_205 rfl 2 rfl ?_
      refine g_get B 0 15 fl_X11_118 rfl mf_15 dX11_readies_206 ?_
      refine g_ri (x' := 1) (by decide) ?_
      refine g_iconst (v := 2) B dX11_readies_209 (by decide) ?_
      refine g_icmp_ne (tgt := 244) B dX11_readies_210 (by decide) (fun c210 => ?_) (fun h => absurd h (by decide))
      refine g_iinc (v := nI (l5 + 1)) (lv' := [(5, .int (nI (l5 + 1))), (7, .int 0), (6, .int ((r0_f (1 * l5)) >>> (pm_37 &&& 31))), (0, .ref m), (1, .int 1), (2, .int jo), (3, .int 0), (4, .int 0)]) B dX11_readies_244 7 rfl (nI_add l5 1) (by decide) rfl ?_
      refine g_goto (tgt := 126) B dX11_readies_247 (by decide) ?_
      refine g_lvsub (lv' := [(0, .ref m), (1, .int 1), (2, .int jo), (3, .int 0), (4, .int 0), (5, .int (nI (l5 + 1)))]) [3, 4, 5, 6, 7, 0] rfl ?_
      exact ih (upd pr41_f (1 * l5) ((r0_f (1 * l5)) >>> (pm_37 &&& 31))) (l5 + 1) (by first | assumption | omega | decide | exact hCF _ (by omega)) (by omega) e_
theorem dX11_readies_250 : decode cX11_readies 250 = .ok (.return_, 1) := by decide +kernel
theorem dX11_readies_113 : decode cX11_readies 113 = .ok (.bipush 8, 2) := by decide +kernel
theorem dX11_readies_115 : decode cX11_readies 115 = .ok (.goto 4, 3) := by decide +kernel
set_option maxRecDepth 100000 in
def lf_wr_X11_readies_1_126_2708 (m_1 : Nat) (r0_f : Nat → Int32) (pm_37 : Int32) (β : Type) (kx_ : (Nat → Int32) → Nat → β)  : Nat → (Nat → Int32) → Nat → β
  | 0, pr41_f, l5 => kx_ pr41_f l5
  | fuel + 1, pr41_f, l5 => (if (m_1 / 1) ≤ l5 then (kx_ pr41_f l5) else (lf_wr_X11_readies_1_126_2708 m_1 r0_f pm_37 β kx_ fuel (upd pr41_f (1 * l5) ((r0_f (1 * l5)) >>> (pm_37 &&& 31))) (l5 + 1)))
set_option maxRecDepth 100000 in
theorem lf_wr_X11_readies_1_126_2708_s {m_1 : Nat} {r0_f : Nat → Int32} {pm_37 : Int32} {β : Type} {kx_ : (Nat → Int32) → Nat → β}  {fuel : Nat} {pr41_f : Nat → Int32} {l5 : Nat} : lf_wr_X11_readies_1_126_2708 m_1 r0_f pm_37 β kx_  (fuel + 1) pr41_f l5 = (if (m_1 / 1) ≤ l5 then (kx_ pr41_f l5) else (lf_wr_X11_readies_1_126_2708 m_1 r0_f pm_37 β kx_ fuel (upd pr41_f (1 * l5) ((r0_f (1 * l5)) >>> (pm_37 &&& 31))) (l5 + 1))) := rfl
set_option maxRecDepth 100000 in
set_option maxHeartbeats 4000000 in
theorem lp_wr_X11_readies_1_126_2708 (E : g_E) (m : Nat) (r : Nat → Nat) (m_1 : Nat) (m_4 : Nat) (m_9 : Nat) (m_10 : Nat) (m_14 : Nat) (m_15 : Nat) (m_25 : Int32) (m_26 : Int32) (m_27 : Int64) (m_28 : Nat) (m_29 : Nat) (m_31 : Nat) (m_32 : Nat) (m_33 : Nat) (m_35 : Nat) (m_36 : Nat) (m_37 : Int32) (m_38 : Nat) (m_39 : Int32) (m_40 : Int32) (m_42 : Nat) (r0_f : Nat → Int32) (r41_f : Nat → Int32) (jo : Int32) (h0 : m_1 / 1 ≤ 600) (hb0 : m_1 ≤ 1200) (hb1 : m_36 ≤ 65535) (hb2 : m_38 ≤ 65535) (hb3 : m_15 ≤ 2) (pm_37 : Int32)  {X : g_X} {rr : (β : Type) → (Nat → Int32 → Nat → Int32 → (Nat → Int32) → β) → β} (kx_ : (β : Type) → (Nat → Int32 → Nat → Int32 → (Nat → Int32) → β) → (Nat → Int32) → Nat → β) (B : Bd E X cX11_readies RX11 8 2 43 0 0) (hr : Rt E X none 0 0 (fun v_ w_ => ∃ zm_38 : Nat, ∃ zm_37 : Int32, ∃ zm_15 : Nat, ∃ zm_39 : Int32, ∃ zr41_f : Nat → Int32, (zm_38 ≤ 65535) ∧ (zm_15 ≤ 2) ∧ (zm_38 ≤ 600) ∧ (1 ≤ zm_15) ∧ (∀ f, f < zm_38 → zm_15 * f + zm_15 ≤ 1200) ∧ (∀ (β : Type) (k_ : Nat → Int32 → Nat → Int32 → (Nat → Int32) → β), rr β k_ = k_ zm_38 zm_37 zm_15 zm_39 zr41_f) ∧ v_ = none ∧ w_ = [(m, .inr (11, mkF r m_1 m_4 m_9 m_10 m_14 zm_15 m_25 m_26 m_27 m_28 m_29 m_31 m_32 m_33 m_35 m_36 zm_37 zm_38 zm_39 m_40 m_42)), ((r 0), .inl (E.2.2.1 0, 1200, .inl r0_f)), ((r 41), .inl (E.2.2.1 0, 1200, .inl zr41_f))])) (K : ∀ (pr41_f : Nat → Int32) (l5 : Nat), (l5 ≤ 600) → (∀ (β : Type) (k_ : Nat → Int32 → Nat → Int32 → (Nat → Int32) → β), rr β k_ = kx_ β k_ pr41_f l5) → G E X 8 [(m, .inr (11, mkF r m_1 m_4 m_9 m_10 m_14 1 m_25 m_26 m_27 m_28 m_29 m_31 m_32 m_33 m_35 m_36 pm_37 (m_1 / 1) 8 m_40 m_42)), ((r 0), .inl (E.2.2.1 0, 1200, .inl r0_f)), ((r 41), .inl (E.2.2.1 0, 1200, .inl pr41_f))] 0 0 [(0, .ref m), (1, .int 1), (2, .int jo), (3, .int 0), (4, .int 0), (5, .int (nI l5))] 250 []) : ∀ (fuel : Nat) (pr41_f : Nat → Int32) (l5 : Nat), (l5 ≤ 600) → (600 - l5) < fuel → (∀ (β : Type) (k_ : Nat → Int32 → Nat → Int32 → (Nat → Int32) → β), rr β k_ = lf_wr_X11_readies_1_126_2708 m_1 r0_f pm_37 β (kx_ β k_) fuel pr41_f l5) → G E X 8 [(m, .inr (11, mkF r m_1 m_4 m_9 m_10 m_14 1 m_25 m_26 m_27 m_28 m_29 m_31 m_32 m_33 m_35 m_36 pm_37 (m_1 / 1) 8 m_40 m_42)), ((r 0), .inl (E.2.2.1 0, 1200, .inl r0_f)), ((r 41), .inl (E.2.2.1 0, 1200, .inl pr41_f))] 0 0 [(0, .ref m), (1, .int 1), (2, .int jo), (3, .int 0), (4, .int 0), (5, .int (nI l5))] 126 [] := by
  intro fuel
  induction fuel with
  | zero => intro pr41_f l5 _ h _; exact absurd h (Nat.not_lt_zero _)
  | succ fuel ih =>
    intro pr41_f l5 hv0 hm e_
    replace e_ := fun β k_ => (e_ β k_).trans lf_wr_X11_readies_1_126_2708_s
    refine g_iload B dX11_readies_126 5 rfl ?_
    refine g_aload_n B dX11_readies_128 rfl 0 rfl ?_
    refine g_get B 0 38 fl_X11_189 rfl mf_38 dX11_readies_129 ?_
    refine g_icmp_ge (tgt := 250) B dX11_readies_132 (by decide) (fun c132_2709 => ?_) (fun c132_2709 => ?_)
    · have hn_2710 : (m_1 / 1) ≤ l5 := (nI_leI (a := (m_1 / 1)) (b := l5) (by omega) (by omega)).mp c132_2709
      replace e_ := fun β k_ => (e_ β k_).trans (if_pos hn_2710)
      exact K pr41_f l5 (by first | assumption | omega | decide | exact hCF _ (by omega)) e_
    · have hn_2711 : l5 < (m_1 / 1) := Nat.not_le.mp (fun q => c132_2709 ((nI_leI (a := (m_1 / 1)) (b := l5) (by omega) (by omega)).mpr q))
      replace e_ := fun β k_ => (e_ β k_).trans (if_neg (Nat.not_le.mpr hn_2711))
      refine g_aload_n B dX11_readies_135 rfl 0 rfl ?_
      refine g_get B 0 0 fl_X11_9 rfl mf_0 dX11_readies_136 ?_
      refine g_iload_n B dX11_readies_139 rfl 1 rfl ?_
      refine g_iload B dX11_readies_140 5 rfl ?_
      refine g_imul B dX11_readies_142 ?_
      refine g_ri (x' := nI (1 * l5)) (pk_mul 1 l5) ?_
      refine g_iald B 1 rfl (vp_in_nI (by omega) (by omega)) dX11_readies_143 ?_
      refine g_ri (x' := (r0_f (1 * l5))) (congrArg r0_f (nI_clamp (n := (1 * l5)) (by omega))) ?_
      refine g_aload_n B dX11_readies_144 rfl 0 rfl ?_
      refine g_get B 0 37 fl_X11_196 rfl mf_37 dX11_readies_145 ?_
      refine g_ishr B dX11_readies_148 ?_
      refine g_istore (lv' := [(6, .int ((r0_f (1 * l5)) >>> (pm_37 &&& 31))), (0, .ref m), (1, .int 1), (2, .int jo), (3, .int 0), (4, .int 0), (5, .int (nI l5))]) B dX11_readies_149 (by decide) rfl ?_
      refine g_iload_n B dX11_readies_151 rfl 2 rfl ?_
      refine g_iconst (v := 2) B dX11_readies_152 (by decide) ?_
      refine g_icmp_ne (tgt := 175) B dX11_readies_153 (by decide) (fun c153 => ?_) (fun h => absurd h (by decide))
      refine g_iconst (v := 0) B dX11_readies_175 (by decide) ?_
      refine g_istore (lv' := [(7, .int 0), (6, .int ((r0_f (1 * l5)) >>> (pm_37 &&& 31))), (0, .ref m), (1, .int 1), (2, .int jo), (3, .int 0), (4, .int 0), (5, .int (nI l5))]) B dX11_readies_176 (by decide) rfl ?_
      refine g_aload_n B dX11_readies_178 rfl 2 rfl ?_
      refine g_get B 0 41 fl_X11_77 rfl mf_41 dX11_readies_179 ?_
      refine g_aload_n B dX11_readies_182 rfl 2 rfl ?_
      refine g_get B 0 15 fl_X11_118 rfl mf_15 dX11_readies_183 ?_
      refine g_ri (x' := 1) (by decide) ?_
      refine g_iload B dX11_readies_186 7 rfl ?_
      refine g_imul B dX11_readies_188 ?_
      refine g_ri (x' := nI (1 * l5)) (pk_mul 1 l5) ?_
      refine g_iload B dX11_readies_189 6 rfl ?_
      refine g_if_eq (tgt := 202) B dX11_readies_191 (by decide) (fun c191 => ?_) (fun h => absurd (by decide) h)
      refine g_iload B dX11_readies_202 1 rfl ?_
      refine g_iast (ws' := [(m, .inr (11, mkF r m_1 m_4 m_9 m_10 m_14 1 m_25 m_26 m_27 m_28 m_29 m_31 m_32 m_33 m_35 m_36 pm_37 (m_1 / 1) 8 m_40 m_42)), ((r 0), .inl (E.2.2.1 0, 1200, .inl r0_f)), ((r 41), .inl (E.2.2.1 0, 1200, .inl (upd pr41_f (1 * l5) ((r0_f (1 * l5)) >>> (pm_37 &&& 31)))))]) B 2 rfl (vp_in_nI (by omega) (by omega)) (by rw [nI_clamp (n := (1 * l5)) (by omega)]; rfl) dX11_readies_204 ?_
      refine g_aload_n B dX11_readies_205 rfl 2 rfl ?_
      refine g_get B 0 15 fl_X11_118 rfl mf_15 dX11_readies_206 ?_
      refine g_ri (x' := 1) (by decide) ?_
      refine g_iconst (v := 2) B dX11_readies_209 (by decide) ?_
      refine g_icmp_ne (tgt := 244) B dX11_readies_210 (by decide) (fun c210 => ?_) (fun h => absurd h (by decide))
      refine g_iinc (v := nI (l5 + 1)) (lv' := [(5, .int (nI (l5 + 1))), (7, .int 0), (6, .int ((r0_f (1 * l5)) >>> (pm_37 &&& 31))), (0, .ref m), (1, .int 1), (2, .int jo), (3, .int 0), (4, .int 0)]) B dX11_readies_244 7 rfl (nI_add l5 1) (by decide) rfl ?_
      refine g_goto (tgt := 126) B dX11_readies_247 (by decide) ?_
      refine g_lvsub (lv' := [(0, .ref m), (1, .int 1), (2, .int jo), (3, .int 0), (4, .int 0), (5, .int (nI (l5 + 1)))]) [3, 4, 5, 6, 7, 0] rfl ?_
      exact ih (upd pr41_f (1 * l5) ((r0_f (1 * l5)) >>> (pm_37 &&& 31))) (l5 + 1) (by first | assumption | omega | decide | exact hCF _ (by omega)) (by omega) e_
set_option maxRecDepth 100000 in
def fn_wr_X11_readies_1 (m_1 : Nat) (m_36 : Nat) (r0_f : Nat → Int32) (r41_f : Nat → Int32) (β : Type) (k_ : Nat → Int32 → Nat → Int32 → (Nat → Int32) → β) : β := (fn_wr_X11_shiftOf m_1 r0_f β (fun zr_2699 => (if m_36 ≤ 0 then (lf_wr_X11_readies_1_126 m_1 r0_f zr_2699 β (fun y_2707pr41_f y_2707l5 => (k_ (m_1 / 1) zr_2699 1 0 y_2707pr41_f)) ((600 - 0) + 1) r41_f 0) else (lf_wr_X11_readies_1_126_2708 m_1 r0_f zr_2699 β (fun y_2712pr41_f y_2712l5 => (k_ (m_1 / 1) zr_2699 1 8 y_2712pr41_f)) ((600 - 0) + 1) r41_f 0))))
set_option maxRecDepth 100000 in
theorem fn_wr_X11_readies_1_s {m_1 : Nat} {m_36 : Nat} {r0_f : Nat → Int32} {r41_f : Nat → Int32} {β : Type} {k_ : Nat → Int32 → Nat → Int32 → (Nat → Int32) → β} : fn_wr_X11_readies_1 m_1 m_36 r0_f r41_f β k_ = (fn_wr_X11_shiftOf m_1 r0_f β (fun zr_2699 => (if m_36 ≤ 0 then (lf_wr_X11_readies_1_126 m_1 r0_f zr_2699 β (fun y_2707pr41_f y_2707l5 => (k_ (m_1 / 1) zr_2699 1 0 y_2707pr41_f)) ((600 - 0) + 1) r41_f 0) else (lf_wr_X11_readies_1_126_2708 m_1 r0_f zr_2699 β (fun y_2712pr41_f y_2712l5 => (k_ (m_1 / 1) zr_2699 1 8 y_2712pr41_f)) ((600 - 0) + 1) r41_f 0)))) := rfl
set_option maxRecDepth 100000 in
set_option maxHeartbeats 4000000 in
theorem wr_X11_readies_1 (E : g_E) (m : Nat) (r : Nat → Nat) (m_1 : Nat) (m_4 : Nat) (m_9 : Nat) (m_10 : Nat) (m_14 : Nat) (m_15 : Nat) (m_25 : Int32) (m_26 : Int32) (m_27 : Int64) (m_28 : Nat) (m_29 : Nat) (m_31 : Nat) (m_32 : Nat) (m_33 : Nat) (m_35 : Nat) (m_36 : Nat) (m_37 : Int32) (m_38 : Nat) (m_39 : Int32) (m_40 : Int32) (m_42 : Nat) (r0_f : Nat → Int32) (r41_f : Nat → Int32) (jo : Int32) (h0 : m_1 / 1 ≤ 600) (hb0 : m_1 ≤ 1200) (hb1 : m_36 ≤ 65535) (hb2 : m_38 ≤ 65535) (hb3 : m_15 ≤ 2) : Ev E MX11_readies 2 43 0 0 [.ref m, .int 1, .int jo] [(m, .inr (11, mkF r m_1 m_4 m_9 m_10 m_14 m_15 m_25 m_26 m_27 m_28 m_29 m_31 m_32 m_33 m_35 m_36 m_37 m_38 m_39 m_40 m_42)), ((r 0), .inl (E.2.2.1 0, 1200, .inl r0_f)), ((r 41), .inl (E.2.2.1 0, 1200, .inl r41_f))] (fun v_ w_ => ∃ zm_38 : Nat, ∃ zm_37 : Int32, ∃ zm_15 : Nat, ∃ zm_39 : Int32, ∃ zr41_f : Nat → Int32, (zm_38 ≤ 65535) ∧ (zm_15 ≤ 2) ∧ (zm_38 ≤ 600) ∧ (1 ≤ zm_15) ∧ (∀ f, f < zm_38 → zm_15 * f + zm_15 ≤ 1200) ∧ (∀ (β : Type) (k_ : Nat → Int32 → Nat → Int32 → (Nat → Int32) → β), fn_wr_X11_readies_1 m_1 m_36 r0_f r41_f β k_ = k_ zm_38 zm_37 zm_15 zm_39 zr41_f) ∧ v_ = none ∧ w_ = [(m, .inr (11, mkF r m_1 m_4 m_9 m_10 m_14 zm_15 m_25 m_26 m_27 m_28 m_29 m_31 m_32 m_33 m_35 m_36 zm_37 zm_38 zm_39 m_40 m_42)), ((r 0), .inl (E.2.2.1 0, 1200, .inl r0_f)), ((r 41), .inl (E.2.2.1 0, 1200, .inl zr41_f))]) := by
  refine Ev.intro (by decide) (Nat.le_of_ble_eq_true rfl) ?_
  intro X B hr hI
  have B : Bd E X cX11_readies RX11 8 2 43 0 0 := B
  have hr : Rt E X none 0 0 (fun v_ w_ => ∃ zm_38 : Nat, ∃ zm_37 : Int32, ∃ zm_15 : Nat, ∃ zm_39 : Int32, ∃ zr41_f : Nat → Int32, (zm_38 ≤ 65535) ∧ (zm_15 ≤ 2) ∧ (zm_38 ≤ 600) ∧ (1 ≤ zm_15) ∧ (∀ f, f < zm_38 → zm_15 * f + zm_15 ≤ 1200) ∧ (∀ (β : Type) (k_ : Nat → Int32 → Nat → Int32 → (Nat → Int32) → β), fn_wr_X11_readies_1 m_1 m_36 r0_f r41_f β k_ = k_ zm_38 zm_37 zm_15 zm_39 zr41_f) ∧ v_ = none ∧ w_ = [(m, .inr (11, mkF r m_1 m_4 m_9 m_10 m_14 zm_15 m_25 m_26 m_27 m_28 m_29 m_31 m_32 m_33 m_35 m_36 zm_37 zm_38 zm_39 m_40 m_42)), ((r 0), .inl (E.2.2.1 0, 1200, .inl r0_f)), ((r 41), .inl (E.2.2.1 0, 1200, .inl zr41_f))]) := hr
  have e_ := fun (β : Type) (k_ : Nat → Int32 → Nat → Int32 → (Nat → Int32) → β) => fn_wr_X11_readies_1_s (β := β) (k_ := k_) (m_1 := m_1) (m_36 := m_36) (r0_f := r0_f) (r41_f := r41_f)
  show G E X 8 [(m, .inr (11, mkF r m_1 m_4 m_9 m_10 m_14 m_15 m_25 m_26 m_27 m_28 m_29 m_31 m_32 m_33 m_35 m_36 m_37 m_38 m_39 m_40 m_42)), ((r 0), .inl (E.2.2.1 0, 1200, .inl r0_f)), ((r 41), .inl (E.2.2.1 0, 1200, .inl r41_f))] 0 0 [(0, .ref m), (1, .int 1), (2, .int jo)] 0 []
  refine g_aload_n B dX11_readies_0 rfl 0 rfl ?_
  refine g_aload_n B dX11_readies_1 rfl 0 rfl ?_
  refine g_get B 0 1 fl_X11_178 rfl mf_1 dX11_readies_2 ?_
  refine g_iload_n B dX11_readies_5 rfl 1 rfl ?_
  refine g_idiv B dX11_readies_6 (by decide) ?_
  refine g_ri (x' := nI (m_1 / 1)) (pk_div (a := m_1) (d := 1) (by omega) (by decide) (by decide)) ?_
  refine g_putM (ws' := [(m, .inr (11, mkF r m_1 m_4 m_9 m_10 m_14 m_15 m_25 m_26 m_27 m_28 m_29 m_31 m_32 m_33 m_35 m_36 m_37 (m_1 / 1) m_39 m_40 m_42)), ((r 0), .inl (E.2.2.1 0, 1200, .inl r0_f)), ((r 41), .inl (E.2.2.1 0, 1200, .inl r41_f))]) (fs' := mkF r m_1 m_4 m_9 m_10 m_14 m_15 m_25 m_26 m_27 m_28 m_29 m_31 m_32 m_33 m_35 m_36 m_37 (m_1 / 1) m_39 m_40 m_42) B 0 38 fl_X11_189 pf_X11_38 rfl (mlt (by decide)) rfl rfl (ms_38 rfl) rfl dX11_readies_7 ?_
  refine g_aload_n B dX11_readies_10 rfl 0 rfl ?_
  refine g_aload_n B dX11_readies_11 rfl 0 rfl ?_
  refine g_callV (st := [.ref m]) (As := []) (wr := [((r 41), .inl (E.2.2.1 0, 1200, .inl r41_f))]) (nc' := 0) (ns' := 0) B cl_X11_192 w_im_X11_shiftOf w_se_X11_shiftOf (wr_X11_shiftOf E m r m_1 m_4 m_9 m_10 m_14 m_15 m_25 m_26 m_27 m_28 m_29 m_31 m_32 m_33 m_35 m_36 m_37 (m_1 / 1) m_39 m_40 m_42 r0_f (by first | assumption | omega | decide | exact hCF _ (by omega))) rfl [0, 1] [2] rfl rfl (by decide) (by decide) (by decide) 0 rfl (fun q h => by cases h; rfl) rfl ⟨by decide, by decide⟩ rfl rfl (by decide) (by decide) rfl (Nat.le_of_ble_eq_true rfl) dX11_readies_12 (fun v w hq => ?_)
  obtain ⟨zr_2699, hz_2700, rfl, rfl⟩ := hq
  replace e_ := fun β k_ => (e_ β k_).trans (hz_2700 β _)
  show G E X 8 [((r 41), .inl (E.2.2.1 0, 1200, .inl r41_f)), (m, .inr (11, mkF r m_1 m_4 m_9 m_10 m_14 m_15 m_25 m_26 m_27 m_28 m_29 m_31 m_32 m_33 m_35 m_36 m_37 (m_1 / 1) m_39 m_40 m_42)), ((r 0), .inl (E.2.2.1 0, 1200, .inl r0_f))] 0 0 [(0, .ref m), (1, .int 1), (2, .int jo)] 15 [.int zr_2699, .ref m]
  refine g_putM (ws' := [((r 41), .inl (E.2.2.1 0, 1200, .inl r41_f)), (m, .inr (11, mkF r m_1 m_4 m_9 m_10 m_14 m_15 m_25 m_26 m_27 m_28 m_29 m_31 m_32 m_33 m_35 m_36 zr_2699 (m_1 / 1) m_39 m_40 m_42)), ((r 0), .inl (E.2.2.1 0, 1200, .inl r0_f))]) (fs' := mkF r m_1 m_4 m_9 m_10 m_14 m_15 m_25 m_26 m_27 m_28 m_29 m_31 m_32 m_33 m_35 m_36 zr_2699 (m_1 / 1) m_39 m_40 m_42) B 1 37 fl_X11_196 pf_X11_37 rfl (mlt (by decide)) rfl rfl (ms_37 rfl) rfl dX11_readies_15 ?_
  refine g_iload_n B dX11_readies_18 rfl 1 rfl ?_
  refine g_iconst (v := 2) B dX11_readies_19 (by decide) ?_
  refine g_icmp_ne (tgt := 34) B dX11_readies_20 (by decide) (fun c20 => ?_) (fun h => absurd h (by decide))
  refine g_iconst (v := 0) B dX11_readies_34 (by decide) ?_
  refine g_istore_n (lv' := [(3, .int 0), (0, .ref m), (1, .int 1), (2, .int jo)]) B dX11_readies_35 rfl (by decide) rfl ?_
  refine g_iload_n B dX11_readies_36 rfl 2 rfl ?_
  refine g_iconst (v := 2) B dX11_readies_37 (by decide) ?_
  refine g_icmp_ne (tgt := 53) B dX11_readies_38 (by decide) (fun c38 => ?_) (fun h => absurd h (by decide))
  refine g_iconst (v := 0) B dX11_readies_53 (by decide) ?_
  refine g_istore (lv' := [(4, .int 0), (3, .int 0), (0, .ref m), (1, .int 1), (2, .int jo)]) B dX11_readies_54 (by decide) rfl ?_
  refine g_aload_n B dX11_readies_56 rfl 2 rfl ?_
  refine g_iload_n B dX11_readies_57 rfl 3 rfl ?_
  refine g_iconst (v := 2) B dX11_readies_58 (by decide) ?_
  refine g_icmp_ne (tgt := 70) B dX11_readies_59 (by decide) (fun c59 => ?_) (fun h => absurd h (by decide))
  refine g_iconst (v := 1) B dX11_readies_70 (by decide) ?_
  refine g_putM (ws' := [((r 41), .inl (E.2.2.1 0, 1200, .inl r41_f)), (m, .inr (11, mkF r m_1 m_4 m_9 m_10 m_14 1 m_25 m_26 m_27 m_28 m_29 m_31 m_32 m_33 m_35 m_36 zr_2699 (m_1 / 1) m_39 m_40 m_42)), ((r 0), .inl (E.2.2.1 0, 1200, .inl r0_f))]) (fs' := mkF r m_1 m_4 m_9 m_10 m_14 1 m_25 m_26 m_27 m_28 m_29 m_31 m_32 m_33 m_35 m_36 zr_2699 (m_1 / 1) m_39 m_40 m_42) B 1 15 fl_X11_118 pf_X11_15 rfl (mlt (by decide)) rfl rfl (ms_15 (by decide)) rfl dX11_readies_71 ?_
  refine g_aload_n B dX11_readies_74 rfl 2 rfl ?_
  refine g_iload_n B dX11_readies_75 rfl 3 rfl ?_
  refine g_iconst (v := 2) B dX11_readies_76 (by decide) ?_
  refine g_icmp_ne (tgt := 84) B dX11_readies_77 (by decide) (fun c77 => ?_) (fun h => absurd h (by decide))
  refine g_iconst (v := 0) B dX11_readies_84 (by decide) ?_
  refine g_iload_n B dX11_readies_85 rfl 1 rfl ?_
  refine g_if_eq (tgt := 93) B dX11_readies_86 (by decide) (fun c86 => ?_) (fun h => absurd (by decide) h)
  refine g_iconst (v := 0) B dX11_readies_93 (by decide) ?_
  refine g_ior B dX11_readies_94 ?_
  refine g_ri (x' := 0) (by decide) ?_
  refine g_iload B dX11_readies_95 0 rfl ?_
  refine g_if_eq (tgt := 104) B dX11_readies_97 (by decide) (fun c97 => ?_) (fun h => absurd (by decide) h)
  refine g_iconst (v := 0) B dX11_readies_104 (by decide) ?_
  refine g_ior B dX11_readies_105 ?_
  refine g_ri (x' := 0) (by decide) ?_
  refine g_aload_n B dX11_readies_106 rfl 2 rfl ?_
  refine g_get B 1 36 fl_X11_203 rfl mf_36 dX11_readies_107 ?_
  refine g_if_le (tgt := 118) B dX11_readies_110 (by decide) (fun c110_2701 => ?_) (fun c110_2701 => ?_)
  · have hn_2702 : m_36 ≤ 0 := (nI_leI (a := m_36) (b := 0) (by omega) (by omega)).mp c110_2701
    replace e_ := fun β k_ => (e_ β k_).trans (if_pos hn_2702)
    refine g_iconst (v := 0) B dX11_readies_118 (by decide) ?_
    refine g_ior B dX11_readies_119 ?_
    refine g_ri (x' := 0) (by decide) ?_
    refine g_putM (ws' := [((r 41), .inl (E.2.2.1 0, 1200, .inl r41_f)), (m, .inr (11, mkF r m_1 m_4 m_9 m_10 m_14 1 m_25 m_26 m_27 m_28 m_29 m_31 m_32 m_33 m_35 m_36 zr_2699 (m_1 / 1) 0 m_40 m_42)), ((r 0), .inl (E.2.2.1 0, 1200, .inl r0_f))]) (fs' := mkF r m_1 m_4 m_9 m_10 m_14 1 m_25 m_26 m_27 m_28 m_29 m_31 m_32 m_33 m_35 m_36 zr_2699 (m_1 / 1) 0 m_40 m_42) B 1 39 fl_X11_206 pf_X11_39 rfl (mlt (by decide)) rfl rfl (ms_39 rfl) rfl dX11_readies_120 ?_
    refine g_iconst (v := 0) B dX11_readies_123 (by decide) ?_
    refine g_istore (lv' := [(5, .int 0), (4, .int 0), (3, .int 0), (0, .ref m), (1, .int 1), (2, .int jo)]) B dX11_readies_124 (by decide) rfl ?_
    refine g_sub (ws' := [(m, .inr (11, mkF r m_1 m_4 m_9 m_10 m_14 1 m_25 m_26 m_27 m_28 m_29 m_31 m_32 m_33 m_35 m_36 zr_2699 (m_1 / 1) 0 m_40 m_42)), ((r 0), .inl (E.2.2.1 0, 1200, .inl r0_f)), ((r 41), .inl (E.2.2.1 0, 1200, .inl r41_f))]) [1, 2, 0] (by decide) rfl ?_
    refine g_lvsub (lv' := [(0, .ref m), (1, .int 1), (2, .int jo), (3, .int 0), (4, .int 0), (5, .int 0)]) [3, 4, 5, 2, 1, 0] rfl ?_
    refine lp_wr_X11_readies_1_126 E m r m_1 m_4 m_9 m_10 m_14 m_15 m_25 m_26 m_27 m_28 m_29 m_31 m_32 m_33 m_35 m_36 m_37 m_38 m_39 m_40 m_42 r0_f r41_f jo h0 hb0 hb1 hb2 hb3 zr_2699  _ B hr (fun y_2707pr41_f y_2707l5 y_2707k0 e_ => ?_) _ r41_f 0 (by first | assumption | omega | decide | exact hCF _ (by omega)) (Nat.lt_succ_self _) e_
    show G E X 8 [(m, .inr (11, mkF r m_1 m_4 m_9 m_10 m_14 1 m_25 m_26 m_27 m_28 m_29 m_31 m_32 m_33 m_35 m_36 zr_2699 (m_1 / 1) 0 m_40 m_42)), ((r 0), .inl (E.2.2.1 0, 1200, .inl r0_f)), ((r 41), .inl (E.2.2.1 0, 1200, .inl y_2707pr41_f))] 0 0 [(0, .ref m), (1, .int 1), (2, .int jo), (3, .int 0), (4, .int 0), (5, .int (nI y_2707l5))] 250 []
    exact g_vret B hr dX11_readies_250 (by decide) (by decide) ⟨(m_1 / 1), zr_2699, 1, 0, y_2707pr41_f, (by first | assumption | omega | decide | exact hCF _ (by omega)), (by first | assumption | omega | decide | exact hCF _ (by omega)), (by first | assumption | omega | decide | exact hCF _ (by omega)), (by first | assumption | omega | decide | exact hCF _ (by omega)), (by intro f hf; omega), e_, rfl, rfl⟩
  · have hn_2703 : 0 < m_36 := Nat.not_le.mp (fun q => c110_2701 ((nI_leI (a := m_36) (b := 0) (by omega) (by omega)).mpr q))
    replace e_ := fun β k_ => (e_ β k_).trans (if_neg (Nat.not_le.mpr hn_2703))
    refine g_bipush (v := 8) B dX11_readies_113 (by decide) ?_
    refine g_goto (tgt := 119) B dX11_readies_115 (by decide) ?_
    refine g_ior B dX11_readies_119 ?_
    refine g_ri (x' := 8) (by decide) ?_
    refine g_putM (ws' := [((r 41), .inl (E.2.2.1 0, 1200, .inl r41_f)), (m, .inr (11, mkF r m_1 m_4 m_9 m_10 m_14 1 m_25 m_26 m_27 m_28 m_29 m_31 m_32 m_33 m_35 m_36 zr_2699 (m_1 / 1) 8 m_40 m_42)), ((r 0), .inl (E.2.2.1 0, 1200, .inl r0_f))]) (fs' := mkF r m_1 m_4 m_9 m_10 m_14 1 m_25 m_26 m_27 m_28 m_29 m_31 m_32 m_33 m_35 m_36 zr_2699 (m_1 / 1) 8 m_40 m_42) B 1 39 fl_X11_206 pf_X11_39 rfl (mlt (by decide)) rfl rfl (ms_39 rfl) rfl dX11_readies_120 ?_
    refine g_iconst (v := 0) B dX11_readies_123 (by decide) ?_
    refine g_istore (lv' := [(5, .int 0), (4, .int 0), (3, .int 0), (0, .ref m), (1, .int 1), (2, .int jo)]) B dX11_readies_124 (by decide) rfl ?_
    refine g_sub (ws' := [(m, .inr (11, mkF r m_1 m_4 m_9 m_10 m_14 1 m_25 m_26 m_27 m_28 m_29 m_31 m_32 m_33 m_35 m_36 zr_2699 (m_1 / 1) 8 m_40 m_42)), ((r 0), .inl (E.2.2.1 0, 1200, .inl r0_f)), ((r 41), .inl (E.2.2.1 0, 1200, .inl r41_f))]) [1, 2, 0] (by decide) rfl ?_
    refine g_lvsub (lv' := [(0, .ref m), (1, .int 1), (2, .int jo), (3, .int 0), (4, .int 0), (5, .int 0)]) [3, 4, 5, 2, 1, 0] rfl ?_
    refine lp_wr_X11_readies_1_126_2708 E m r m_1 m_4 m_9 m_10 m_14 m_15 m_25 m_26 m_27 m_28 m_29 m_31 m_32 m_33 m_35 m_36 m_37 m_38 m_39 m_40 m_42 r0_f r41_f jo h0 hb0 hb1 hb2 hb3 zr_2699  _ B hr (fun y_2712pr41_f y_2712l5 y_2712k0 e_ => ?_) _ r41_f 0 (by first | assumption | omega | decide | exact hCF _ (by omega)) (Nat.lt_succ_self _) e_
    show G E X 8 [(m, .inr (11, mkF r m_1 m_4 m_9 m_10 m_14 1 m_25 m_26 m_27 m_28 m_29 m_31 m_32 m_33 m_35 m_36 zr_2699 (m_1 / 1) 8 m_40 m_42)), ((r 0), .inl (E.2.2.1 0, 1200, .inl r0_f)), ((r 41), .inl (E.2.2.1 0, 1200, .inl y_2712pr41_f))] 0 0 [(0, .ref m), (1, .int 1), (2, .int jo), (3, .int 0), (4, .int 0), (5, .int (nI y_2712l5))] 250 []
    exact g_vret B hr dX11_readies_250 (by decide) (by decide) ⟨(m_1 / 1), zr_2699, 1, 8, y_2712pr41_f, (by first | assumption | omega | decide | exact hCF _ (by omega)), (by first | assumption | omega | decide | exact hCF _ (by omega)), (by first | assumption | omega | decide | exact hCF _ (by omega)), (by first | assumption | omega | decide | exact hCF _ (by omega)), (by intro f hf; omega), e_, rfl, rfl⟩
theorem dX11_readies_23 : decode cX11_readies 23 = .ok (.aload_n 0, 1) := by decide +kernel
theorem dX11_readies_24 : decode cX11_readies 24 = .ok (.invokevirtual 199, 3) := by decide +kernel
theorem w_ml_X11_199 : Cond.methodLink RX11 199 yX11_areTwins ∈ g_tbl := g_tbl_in 1055 (by decide +kernel) (by decide +kernel)
theorem w_cd_X11_areTwins : g_cw MX11_areTwins ∈ g_tbl := g_tbl_in 1058 (by decide +kernel) (by decide +kernel)
theorem cl_X11_199 : CL RX11 199 0 MX11_areTwins := ⟨w_ml_X11_199, w_cd_X11_areTwins, w_ini_X11, by decide +kernel, by decide +kernel, by decide +kernel⟩
theorem w_im_X11_areTwins : Cond.instanceMethod yX11_areTwins ∈ g_tbl := g_tbl_in 1057 (by decide +kernel) (by decide +kernel)
theorem w_se_X11_areTwins : Cond.selects RX11 yX11_areTwins yX11_areTwins ∈ g_tbl := g_tbl_in 30 (by decide +kernel) (by decide +kernel)
theorem dX11_readies_27 : decode cX11_readies 27 = .ok (.ifCond .eq 7, 3) := by decide +kernel
theorem dX11_readies_41 : decode cX11_readies 41 = .ok (.iload_n 3, 1) := by decide +kernel
theorem dX11_readies_42 : decode cX11_readies 42 = .ok (.ifCond .ne 11, 3) := by decide +kernel
theorem dX11_readies_45 : decode cX11_readies 45 = .ok (.iload_n 2, 1) := by decide +kernel
theorem dX11_readies_46 : decode cX11_readies 46 = .ok (.ifCond .eq 7, 3) := by decide +kernel
theorem dX11_readies_62 : decode cX11_readies 62 = .ok (.iload_n 3, 1) := by decide +kernel
theorem dX11_readies_63 : decode cX11_readies 63 = .ok (.ifCond .ne 7, 3) := by decide +kernel
theorem dX11_readies_66 : decode cX11_readies 66 = .ok (.iconst 2, 1) := by decide +kernel
theorem dX11_readies_67 : decode cX11_readies 67 = .ok (.goto 4, 3) := by decide +kernel
theorem dX11_readies_80 : decode cX11_readies 80 = .ok (.iconst 1, 1) := by decide +kernel
theorem dX11_readies_81 : decode cX11_readies 81 = .ok (.goto 4, 3) := by decide +kernel
theorem dX11_readies_156 : decode cX11_readies 156 = .ok (.aload_n 0, 1) := by decide +kernel
theorem dX11_readies_157 : decode cX11_readies 157 = .ok (.getfield 9, 3) := by decide +kernel
theorem dX11_readies_160 : decode cX11_readies 160 = .ok (.iconst 2, 1) := by decide +kernel
theorem dX11_readies_161 : decode cX11_readies 161 = .ok (.iload 5, 2) := by decide +kernel
theorem dX11_readies_163 : decode cX11_readies 163 = .ok (.imul, 1) := by decide +kernel
theorem dX11_readies_164 : decode cX11_readies 164 = .ok (.iconst 1, 1) := by decide +kernel
theorem dX11_readies_165 : decode cX11_readies 165 = .ok (.iadd, 1) := by decide +kernel
theorem dX11_readies_166 : decode cX11_readies 166 = .ok (.iaload, 1) := by decide +kernel
theorem dX11_readies_167 : decode cX11_readies 167 = .ok (.aload_n 0, 1) := by decide +kernel
theorem dX11_readies_168 : decode cX11_readies 168 = .ok (.getfield 196, 3) := by decide +kernel
theorem dX11_readies_171 : decode cX11_readies 171 = .ok (.ishr, 1) := by decide +kernel
theorem dX11_readies_172 : decode cX11_readies 172 = .ok (.goto 4, 3) := by decide +kernel
theorem dX11_readies_213 : decode cX11_readies 213 = .ok (.aload_n 0, 1) := by decide +kernel
theorem dX11_readies_214 : decode cX11_readies 214 = .ok (.getfield 77, 3) := by decide +kernel
theorem dX11_readies_217 : decode cX11_readies 217 = .ok (.iconst 2, 1) := by decide +kernel
theorem dX11_readies_218 : decode cX11_readies 218 = .ok (.iload 5, 2) := by decide +kernel
theorem dX11_readies_220 : decode cX11_readies 220 = .ok (.imul, 1) := by decide +kernel
theorem dX11_readies_221 : decode cX11_readies 221 = .ok (.iconst 1, 1) := by decide +kernel
theorem dX11_readies_222 : decode cX11_readies 222 = .ok (.iadd, 1) := by decide +kernel
theorem dX11_readies_223 : decode cX11_readies 223 = .ok (.iload 4, 2) := by decide +kernel
theorem dX11_readies_225 : decode cX11_readies 225 = .ok (.ifCond .eq 16, 3) := by decide +kernel
theorem dX11_readies_241 : decode cX11_readies 241 = .ok (.iload 7, 2) := by decide +kernel
theorem dX11_readies_243 : decode cX11_readies 243 = .ok (.iastore, 1) := by decide +kernel
set_option maxRecDepth 100000 in
def lf_wr_X11_readies_2_126 (m_1 : Nat) (r0_f : Nat → Int32) (pm_37 : Int32) (β : Type) (kx_ : (Nat → Int32) → Nat → β)  : Nat → (Nat → Int32) → Nat → β
  | 0, pr41_f, l5 => kx_ pr41_f l5
  | fuel + 1, pr41_f, l5 => (if (m_1 / 2) ≤ l5 then (kx_ pr41_f l5) else (lf_wr_X11_readies_2_126 m_1 r0_f pm_37 β kx_ fuel (upd (upd pr41_f (2 * l5) ((r0_f (2 * l5)) >>> (pm_37 &&& 31))) ((2 * l5) + 1) ((r0_f ((2 * l5) + 1)) >>> (pm_37 &&& 31))) (l5 + 1)))
set_option maxRecDepth 100000 in
theorem lf_wr_X11_readies_2_126_s {m_1 : Nat} {r0_f : Nat → Int32} {pm_37 : Int32} {β : Type} {kx_ : (Nat → Int32) → Nat → β}  {fuel : Nat} {pr41_f : Nat → Int32} {l5 : Nat} : lf_wr_X11_readies_2_126 m_1 r0_f pm_37 β kx_  (fuel + 1) pr41_f l5 = (if (m_1 / 2) ≤ l5 then (kx_ pr41_f l5) else (lf_wr_X11_readies_2_126 m_1 r0_f pm_37 β kx_ fuel (upd (upd pr41_f (2 * l5) ((r0_f (2 * l5)) >>> (pm_37 &&& 31))) ((2 * l5) + 1) ((r0_f ((2 * l5) + 1)) >>> (pm_37 &&& 31))) (l5 + 1))) := rfl
set_option maxRecDepth 100000 in
set_option maxHeartbeats 4000000 in
theorem lp_wr_X11_readies_2_126 (E : g_E) (m : Nat) (r : Nat → Nat) (m_1 : Nat) (m_4 : Nat) (m_9 : Nat) (m_10 : Nat) (m_14 : Nat) (m_15 : Nat) (m_25 : Int32) (m_26 : Int32) (m_27 : Int64) (m_28 : Nat) (m_29 : Nat) (m_31 : Nat) (m_32 : Nat) (m_33 : Nat) (m_35 : Nat) (m_36 : Nat) (m_37 : Int32) (m_38 : Nat) (m_39 : Int32) (m_40 : Int32) (m_42 : Nat) (r0_f : Nat → Int32) (r41_f : Nat → Int32) (jo : Int32) (h0 : m_1 / 2 ≤ 600) (hb0 : m_1 ≤ 1200) (hb1 : m_36 ≤ 65535) (hb2 : m_38 ≤ 65535) (hb3 : m_15 ≤ 2) (pm_37 : Int32)  {X : g_X} {rr : (β : Type) → (Nat → Int32 → Nat → Int32 → (Nat → Int32) → β) → β} (kx_ : (β : Type) → (Nat → Int32 → Nat → Int32 → (Nat → Int32) → β) → (Nat → Int32) → Nat → β) (B : Bd E X cX11_readies RX11 8 2 43 0 0) (hr : Rt E X none 0 0 (fun v_ w_ => ∃ zm_38 : Nat, ∃ zm_37 : Int32, ∃ zm_15 : Nat, ∃ zm_39 : Int32, ∃ zr41_f : Nat → Int32, (zm_38 ≤ 65535) ∧ (zm_15 ≤ 2) ∧ (zm_38 ≤ 600) ∧ (1 ≤ zm_15) ∧ (∀ f, f < zm_38 → zm_15 * f + zm_15 ≤ 1200) ∧ (∀ (β : Type) (k_ : Nat → Int32 → Nat → Int32 → (Nat → Int32) → β), rr β k_ = k_ zm_38 zm_37 zm_15 zm_39 zr41_f) ∧ v_ = none ∧ w_ = [(m, .inr (11, mkF r m_1 m_4 m_9 m_10 m_14 zm_15 m_25 m_26 m_27 m_28 m_29 m_31 m_32 m_33 m_35 m_36 zm_37 zm_38 zm_39 m_40 m_42)), ((r 0), .inl (E.2.2.1 0, 1200, .inl r0_f)), ((r 41), .inl (E.2.2.1 0, 1200, .inl zr41_f))])) (K : ∀ (pr41_f : Nat → Int32) (l5 : Nat), (l5 ≤ 600) → (∀ (β : Type) (k_ : Nat → Int32 → Nat → Int32 → (Nat → Int32) → β), rr β k_ = kx_ β k_ pr41_f l5) → G E X 8 [(m, .inr (11, mkF r m_1 m_4 m_9 m_10 m_14 2 m_25 m_26 m_27 m_28 m_29 m_31 m_32 m_33 m_35 m_36 pm_37 (m_1 / 2) 1 m_40 m_42)), ((r 0), .inl (E.2.2.1 0, 1200, .inl r0_f)), ((r 41), .inl (E.2.2.1 0, 1200, .inl pr41_f))] 0 0 [(0, .ref m), (1, .int 2), (2, .int jo), (3, .int 0), (4, .int 0), (5, .int (nI l5))] 250 []) : ∀ (fuel : Nat) (pr41_f : Nat → Int32) (l5 : Nat), (l5 ≤ 600) → (600 - l5) < fuel → (∀ (β : Type) (k_ : Nat → Int32 → Nat → Int32 → (Nat → Int32) → β), rr β k_ = lf_wr_X11_readies_2_126 m_1 r0_f pm_37 β (kx_ β k_) fuel pr41_f l5) → G E X 8 [(m, .inr (11, mkF r m_1 m_4 m_9 m_10 m_14 2 m_25 m_26 m_27 m_28 m_29 m_31 m_32 m_33 m_35 m_36 pm_37 (m_1 / 2) 1 m_40 m_42)), ((r 0), .inl (E.2.2.1 0, 1200, .inl r0_f)), ((r 41), .inl (E.2.2.1 0, 1200, .inl pr41_f))] 0 0 [(0, .ref m), (1, .int 2), (2, .int jo), (3, .int 0), (4, .int 0), (5, .int (nI l5))] 126 [] := by
  intro fuel
  induction fuel with
  | zero => intro pr41_f l5 _ h _; exact absurd h (Nat.not_lt_zero _)
  | succ fuel ih =>
    intro pr41_f l5 hv0 hm e_
    replace e_ := fun β k_ => (e_ β k_).trans lf_wr_X11_readies_2_126_s
    refine g_iload B dX11_readies_126 5 rfl ?_
    refine g_aload_n B dX11_readies_128 rfl 0 rfl ?_
    refine g_get B 0 38 fl_X11_189 rfl mf_38 dX11_readies_129 ?_
    refine g_icmp_ge (tgt := 250) B dX11_readies_132 (by decide) (fun c132_2723 => ?_) (fun c132_2723 => ?_)
    · have hn_2724 : (m_1 / 2) ≤ l5 := (nI_leI (a := (m_1 / 2)) (b := l5) (by omega) (by omega)).mp c132_2723
      replace e_ := fun β k_ => (e_ β k_).trans (if_pos hn_2724)
      exact K pr41_f l5 (by first | assumption | omega | decide | exact hCF _ (by omega)) e_
    · have hn_2725 : l5 < (m_1 / 2) := Nat.not_le.mp (fun q => c132_2723 ((nI_leI (a := (m_1 / 2)) (b := l5) (by omega) (by omega)).mpr q))
      replace e_ := fun β k_ => (e_ β k_).trans (if_neg (Nat.not_le.mpr hn_2725))
      refine g_aload_n B dX11_readies_135 rfl 0 rfl ?_
      refine g_get B 0 0 fl_X11_9 rfl mf_0 dX11_readies_136 ?_
      refine g_iload_n B dX11_readies_139 rfl 1 rfl ?_
      refine g_iload B dX11_readies_140 5 rfl ?_
      refine g_imul B dX11_readies_142 ?_
      refine g_ri (x' := nI (2 * l5)) (pk_mul 2 l5) ?_
      refine g_iald B 1 rfl (vp_in_nI (by omega) (by omega)) dX11_readies_143 ?_
      refine g_ri (x' := (r0_f (2 * l5))) (congrArg r0_f (nI_clamp (n := (2 * l5)) (by omega))) ?_
      refine g_aload_n B dX11_readies_144 rfl 0 rfl ?_
      refine g_get B 0 37 fl_X11_196 rfl mf_37 dX11_readies_145 ?_
      refine g_ishr B dX11_readies_148 ?_
      refine g_istore (lv' := [(6, .int ((r0_f (2 * l5)) >>> (pm_37 &&& 31))), (0, .ref m), (1, .int 2), (2, .int jo), (3, .int 0), (4, .int 0), (5, .int (nI l5))]) B dX11_readies_149 (by decide) rfl ?_
      refine g_iload_n B dX11_readies_151 rfl 2 rfl ?_
      refine g_iconst (v := 2) B dX11_readies_152 (by decide) ?_
      refine g_icmp_ne (tgt := 175) B dX11_readies_153 (by decide) (fun h => absurd (by decide) h) (fun c153 => ?_)
      refine g_aload_n B dX11_readies_156 rfl 1 rfl ?_
      refine g_get B 0 0 fl_X11_9 rfl mf_0 dX11_readies_157 ?_
      refine g_iconst (v := 2) B dX11_readies_160 (by decide) ?_
      refine g_iload B dX11_readies_161 6 rfl ?_
      refine g_imul B dX11_readies_163 ?_
      refine g_ri (x' := nI (2 * l5)) (pk_mul 2 l5) ?_
      refine g_iconst (v := 1) B dX11_readies_164 (by decide) ?_
      refine g_iadd B dX11_readies_165 ?_
      refine g_ri (x' := nI ((2 * l5) + 1)) (nI_add (2 * l5) 1) ?_
      refine g_iald B 1 rfl (vp_in_nI (by omega) (by omega)) dX11_readies_166 ?_
      refine g_ri (x' := (r0_f ((2 * l5) + 1))) (congrArg r0_f (nI_clamp (n := ((2 * l5) + 1)) (by omega))) ?_
      refine g_aload_n B dX11_readies_167 rfl 1 rfl ?_
      refine g_get B 0 37 fl_X11_196 rfl mf_37 dX11_readies_168 ?_
      refine g_ishr B dX11_readies_171 ?_
      refine g_goto (tgt := 176) B dX11_readies_172 (by decide) ?_
      refine g_istore (lv' := [(7, .int ((r0_f ((2 * l5) + 1)) >>> (pm_37 &&& 31))), (6, .int ((r0_f (2 * l5)) >>> (pm_37 &&& 31))), (0, .ref m), (1, .int 2), (2, .int jo), (3, .int 0), (4, .int 0), (5, .int (nI l5))]) B dX11_readies_176 (by decide) rfl ?_
      refine g_aload_n B dX11_readies_178 rfl 2 rfl ?_
      refine g_get B 0 41 fl_X11_77 rfl mf_41 dX11_readies_179 ?_
      refine g_aload_n B dX11_readies_182 rfl 2 rfl ?_
      refine g_get B 0 15 fl_X11_118 rfl mf_15 dX11_readies_183 ?_
      refine g_ri (x' := 2) (by decide) ?_
      refine g_iload B dX11_readies_186 7 rfl ?_
      refine g_imul B dX11_readies_188 ?_
      refine g_ri (x' := nI (2 * l5)) (pk_mul 2 l5) ?_
      refine g_iload B dX11_readies_189 6 rfl ?_
      refine g_if_eq (tgt := 202) B dX11_readies_191 (by decide) (fun c191 => ?_) (fun h => absurd (by decide) h)
      refine g_iload B dX11_readies_202 1 rfl ?_
      refine g_iast (ws' := [(m, .inr (11, mkF r m_1 m_4 m_9 m_10 m_14 2 m_25 m_26 m_27 m_28 m_29 m_31 m_32 m_33 m_35 m_36 pm_37 (m_1 / 2) 1 m_40 m_42)), ((r 0), .inl (E.2.2.1 0, 1200, .inl r0_f)), ((r 41), .inl (E.2.2.1 0, 1200, .inl (upd pr41_f (2 * l5) ((r0_f (2 * l5)) >>> (pm_37 &&& 31)))))]) B 2 rfl (vp_in_nI (by omega) (by omega)) (by rw [nI_clamp (n := (2 * l5)) (by omega)]; rfl) dX11_readies_204 ?_
      refine g_aload_n B dX11_readies_205 rfl 2 rfl ?_
      refine g_get B 0 15 fl_X11_118 rfl mf_15 dX11_readies_206 ?_
      refine g_ri (x' := 2) (by decide) ?_
      refine g_iconst (v := 2) B dX11_readies_209 (by decide) ?_
      refine g_icmp_ne (tgt := 244) B dX11_readies_210 (by decide) (fun h => absurd (by decide) h) (fun c210 => ?_)
      refine g_aload_n B dX11_readies_213 rfl 2 rfl ?_
      refine g_get B 0 41 fl_X11_77 rfl mf_41 dX11_readies_214 ?_
      refine g_iconst (v := 2) B dX11_readies_217 (by decide) ?_
      refine g_iload B dX11_readies_218 7 rfl ?_
      refine g_imul B dX11_readies_220 ?_
      refine g_ri (x' := nI (2 * l5)) (pk_mul 2 l5) ?_
      refine g_iconst (v := 1) B dX11_readies_221 (by decide) ?_
      refine g_iadd B dX11_readies_222 ?_
      refine g_ri (x' := nI ((2 * l5) + 1)) (nI_add (2 * l5) 1) ?_
      refine g_iload B dX11_readies_223 6 rfl ?_
      refine g_if_eq (tgt := 241) B dX11_readies_225 (by decide) (fun c225 => ?_) (fun h => absurd (by decide) h)
      refine g_iload B dX11_readies_241 0 rfl ?_
      refine g_iast (ws' := [(m, .inr (11, mkF r m_1 m_4 m_9 m_10 m_14 2 m_25 m_26 m_27 m_28 m_29 m_31 m_32 m_33 m_35 m_36 pm_37 (m_1 / 2) 1 m_40 m_42)), ((r 0), .inl (E.2.2.1 0, 1200, .inl r0_f)), ((r 41), .inl (E.2.2.1 0, 1200, .inl (upd (upd pr41_f (2 * l5) ((r0_f (2 * l5)) >>> (pm_37 &&& 31))) ((2 * l5) + 1) ((r0_f ((2 * l5) + 1)) >>> (pm_37 &&& 31)))))]) B 2 rfl (vp_in_nI (by omega) (by omega)) (by rw [nI_clamp (n := ((2 * l5) + 1)) (by omega)]; rfl) dX11_readies_243 ?_
      refine g_iinc (v := nI (l5 + 1)) (lv' := [(5, .int (nI (l5 + 1))), (7, .int ((r0_f ((2 * l5) + 1)) >>> (pm_37 &&& 31))), (6, .int ((r0_f (2 * l5)) >>> (pm_37 &&& 31))), (0, .ref m), (1, .int 2), (2, .int jo), (3, .int 0), (4, .int 0)]) B dX11_readies_244 7 rfl (nI_add l5 1) (by decide) rfl ?_
      refine g_goto (tgt := 126) B dX11_readies_247 (by decide) ?_
      refine g_lvsub (lv' := [(0, .ref m), (1, .int 2), (2, .int jo), (3, .int 0), (4, .int 0), (5, .int (nI (l5 + 1)))]) [3, 4, 5, 6, 7, 0] rfl ?_
      exact ih (upd (upd pr41_f (2 * l5) ((r0_f (2 * l5)) >>> (pm_37 &&& 31))) ((2 * l5) + 1) ((r0_f ((2 * l5) + 1)) >>> (pm_37 &&& 31))) (l5 + 1) (by first | assumption | omega | decide | exact hCF _ (by omega)) (by omega) e_
set_option maxRecDepth 100000 in
def lf_wr_X11_readies_2_126_2727 (m_1 : Nat) (r0_f : Nat → Int32) (pm_37 : Int32) (β : Type) (kx_ : (Nat → Int32) → Nat → β)  : Nat → (Nat → Int32) → Nat → β
  | 0, pr41_f, l5 => kx_ pr41_f l5
  | fuel + 1, pr41_f, l5 => (if (m_1 / 2) ≤ l5 then (kx_ pr41_f l5) else (lf_wr_X11_readies_2_126_2727 m_1 r0_f pm_37 β kx_ fuel (upd (upd pr41_f (2 * l5) ((r0_f (2 * l5)) >>> (pm_37 &&& 31))) ((2 * l5) + 1) ((r0_f ((2 * l5) + 1)) >>> (pm_37 &&& 31))) (l5 + 1)))
set_option maxRecDepth 100000 in
theorem lf_wr_X11_readies_2_126_2727_s {m_1 : Nat} {r0_f : Nat → Int32} {pm_37 : Int32} {β : Type} {kx_ : (Nat → Int32) → Nat → β}  {fuel : Nat} {pr41_f : Nat → Int32} {l5 : Nat} : lf_wr_X11_readies_2_126_2727 m_1 r0_f pm_37 β kx_  (fuel + 1) pr41_f l5 = (if (m_1 / 2) ≤ l5 then (kx_ pr41_f l5) else (lf_wr_X11_readies_2_126_2727 m_1 r0_f pm_37 β kx_ fuel (upd (upd pr41_f (2 * l5) ((r0_f (2 * l5)) >>> (pm_37 &&& 31))) ((2 * l5) + 1) ((r0_f ((2 * l5) + 1)) >>> (pm_37 &&& 31))) (l5 + 1))) := rfl
set_option maxRecDepth 100000 in
set_option maxHeartbeats 4000000 in
theorem lp_wr_X11_readies_2_126_2727 (E : g_E) (m : Nat) (r : Nat → Nat) (m_1 : Nat) (m_4 : Nat) (m_9 : Nat) (m_10 : Nat) (m_14 : Nat) (m_15 : Nat) (m_25 : Int32) (m_26 : Int32) (m_27 : Int64) (m_28 : Nat) (m_29 : Nat) (m_31 : Nat) (m_32 : Nat) (m_33 : Nat) (m_35 : Nat) (m_36 : Nat) (m_37 : Int32) (m_38 : Nat) (m_39 : Int32) (m_40 : Int32) (m_42 : Nat) (r0_f : Nat → Int32) (r41_f : Nat → Int32) (jo : Int32) (h0 : m_1 / 2 ≤ 600) (hb0 : m_1 ≤ 1200) (hb1 : m_36 ≤ 65535) (hb2 : m_38 ≤ 65535) (hb3 : m_15 ≤ 2) (pm_37 : Int32)  {X : g_X} {rr : (β : Type) → (Nat → Int32 → Nat → Int32 → (Nat → Int32) → β) → β} (kx_ : (β : Type) → (Nat → Int32 → Nat → Int32 → (Nat → Int32) → β) → (Nat → Int32) → Nat → β) (B : Bd E X cX11_readies RX11 8 2 43 0 0) (hr : Rt E X none 0 0 (fun v_ w_ => ∃ zm_38 : Nat, ∃ zm_37 : Int32, ∃ zm_15 : Nat, ∃ zm_39 : Int32, ∃ zr41_f : Nat → Int32, (zm_38 ≤ 65535) ∧ (zm_15 ≤ 2) ∧ (zm_38 ≤ 600) ∧ (1 ≤ zm_15) ∧ (∀ f, f < zm_38 → zm_15 * f + zm_15 ≤ 1200) ∧ (∀ (β : Type) (k_ : Nat → Int32 → Nat → Int32 → (Nat → Int32) → β), rr β k_ = k_ zm_38 zm_37 zm_15 zm_39 zr41_f) ∧ v_ = none ∧ w_ = [(m, .inr (11, mkF r m_1 m_4 m_9 m_10 m_14 zm_15 m_25 m_26 m_27 m_28 m_29 m_31 m_32 m_33 m_35 m_36 zm_37 zm_38 zm_39 m_40 m_42)), ((r 0), .inl (E.2.2.1 0, 1200, .inl r0_f)), ((r 41), .inl (E.2.2.1 0, 1200, .inl zr41_f))])) (K : ∀ (pr41_f : Nat → Int32) (l5 : Nat), (l5 ≤ 600) → (∀ (β : Type) (k_ : Nat → Int32 → Nat → Int32 → (Nat → Int32) → β), rr β k_ = kx_ β k_ pr41_f l5) → G E X 8 [(m, .inr (11, mkF r m_1 m_4 m_9 m_10 m_14 2 m_25 m_26 m_27 m_28 m_29 m_31 m_32 m_33 m_35 m_36 pm_37 (m_1 / 2) 9 m_40 m_42)), ((r 0), .inl (E.2.2.1 0, 1200, .inl r0_f)), ((r 41), .inl (E.2.2.1 0, 1200, .inl pr41_f))] 0 0 [(0, .ref m), (1, .int 2), (2, .int jo), (3, .int 0), (4, .int 0), (5, .int (nI l5))] 250 []) : ∀ (fuel : Nat) (pr41_f : Nat → Int32) (l5 : Nat), (l5 ≤ 600) → (600 - l5) < fuel → (∀ (β : Type) (k_ : Nat → Int32 → Nat → Int32 → (Nat → Int32) → β), rr β k_ = lf_wr_X11_readies_2_126_2727 m_1 r0_f pm_37 β (kx_ β k_) fuel pr41_f l5) → G E X 8 [(m, .inr (11, mkF r m_1 m_4 m_9 m_10 m_14 2 m_25 m_26 m_27 m_28 m_29 m_31 m_32 m_33 m_35 m_36 pm_37 (m_1 / 2) 9 m_40 m_42)), ((r 0), .inl (E.2.2.1 0, 1200, .inl r0_f)), ((r 41), .inl (E.2.2.1 0, 1200, .inl pr41_f))] 0 0 [(0, .ref m), (1, .int 2), (2, .int jo), (3, .int 0), (4, .int 0), (5, .int (nI l5))] 126 [] := by
  intro fuel
  induction fuel with
  | zero => intro pr41_f l5 _ h _; exact absurd h (Nat.not_lt_zero _)
  | succ fuel ih =>
    intro pr41_f l5 hv0 hm e_
    replace e_ := fun β k_ => (e_ β k_).trans lf_wr_X11_readies_2_126_2727_s
    refine g_iload B dX11_readies_126 5 rfl ?_
    refine g_aload_n B dX11_readies_128 rfl 0 rfl ?_
    refine g_get B 0 38 fl_X11_189 rfl mf_38 dX11_readies_129 ?_
    refine g_icmp_ge (tgt := 250) B dX11_readies_132 (by decide) (fun c132_2728 => ?_) (fun c132_2728 => ?_)
    · have hn_2729 : (m_1 / 2) ≤ l5 := (nI_leI (a := (m_1 / 2)) (b := l5) (by omega) (by omega)).mp c132_2728
      replace e_ := fun β k_ => (e_ β k_).trans (if_pos hn_2729)
      exact K pr41_f l5 (by first | assumption | omega | decide | exact hCF _ (by omega)) e_
    · have hn_2730 : l5 < (m_1 / 2) := Nat.not_le.mp (fun q => c132_2728 ((nI_leI (a := (m_1 / 2)) (b := l5) (by omega) (by omega)).mpr q))
      replace e_ := fun β k_ => (e_ β k_).trans (if_neg (Nat.not_le.mpr hn_2730))
      refine g_aload_n B dX11_readies_135 rfl 0 rfl ?_
      refine g_get B 0 0 fl_X11_9 rfl mf_0 dX11_readies_136 ?_
      refine g_iload_n B dX11_readies_139 rfl 1 rfl ?_
      refine g_iload B dX11_readies_140 5 rfl ?_
      refine g_imul B dX11_readies_142 ?_
      refine g_ri (x' := nI (2 * l5)) (pk_mul 2 l5) ?_
      refine g_iald B 1 rfl (vp_in_nI (by omega) (by omega)) dX11_readies_143 ?_
      refine g_ri (x' := (r0_f (2 * l5))) (congrArg r0_f (nI_clamp (n := (2 * l5)) (by omega))) ?_
      refine g_aload_n B dX11_readies_144 rfl 0 rfl ?_
      refine g_get B 0 37 fl_X11_196 rfl mf_37 dX11_readies_145 ?_
      refine g_ishr B dX11_readies_148 ?_
      refine g_istore (lv' := [(6, .int ((r0_f (2 * l5)) >>> (pm_37 &&& 31))), (0, .ref m), (1, .int 2), (2, .int jo), (3, .int 0), (4, .int 0), (5, .int (nI l5))]) B dX11_readies_149 (by decide) rfl ?_
      refine g_iload_n B dX11_readies_151 rfl 2 rfl ?_
      refine g_iconst (v := 2) B dX11_readies_152 (by decide) ?_
      refine g_icmp_ne (tgt := 175) B dX11_readies_153 (by decide) (fun h => absurd (by decide) h) (fun c153 => ?_)
      refine g_aload_n B dX11_readies_156 rfl 1 rfl ?_
      refine g_get B 0 0 fl_X11_9 rfl mf_0 dX11_readies_157 ?_
      refine g_iconst (v := 2) B dX11_readies_160 (by decide) ?_
      refine g_iload B dX11_readies_161 6 rfl ?_
      refine g_imul B dX11_readies_163 ?_
      refine g_ri (x' := nI (2 * l5)) (pk_mul 2 l5) ?_
      refine g_iconst (v := 1) B dX11_readies_164 (by decide) ?_
      refine g_iadd B dX11_readies_165 ?_
      refine g_ri (x' := nI ((2 * l5) + 1)) (nI_add (2 * l5) 1) ?_
      refine g_iald B 1 rfl (vp_in_nI (by omega) (by omega)) dX11_readies_166 ?_
      refine g_ri (x' := (r0_f ((2 * l5) + 1))) (congrArg r0_f (nI_clamp (n := ((2 * l5) + 1)) (by omega))) ?_
      refine g_aload_n B dX11_readies_167 rfl 1 rfl ?_
      refine g_get B 0 37 fl_X11_196 rfl mf_37 dX11_readies_168 ?_
      refine g_ishr B dX11_readies_171 ?_
      refine g_goto (tgt := 176) B dX11_readies_172 (by decide) ?_
      refine g_istore (lv' := [(7, .int ((r0_f ((2 * l5) + 1)) >>> (pm_37 &&& 31))), (6, .int ((r0_f (2 * l5)) >>> (pm_37 &&& 31))), (0, .ref m), (1, .int 2), (2, .int jo), (3, .int 0), (4, .int 0), (5, .int (nI l5))]) B dX11_readies_176 (by decide) rfl ?_
      refine g_aload_n B dX11_readies_178 rfl 2 rfl ?_
      refine g_get B 0 41 fl_X11_77 rfl mf_41 dX11_readies_179 ?_
      refine g_aload_n B dX11_readies_182 rfl 2 rfl ?_
      refine g_get B 0 15 fl_X11_118 rfl mf_15 dX11_readies_183 ?_
      refine g_ri (x' := 2) (by decide) ?_
      refine g_iload B dX11_readies_186 7 rfl ?_
      refine g_imul B dX11_readies_188 ?_
      refine g_ri (x' := nI (2 * l5)) (pk_mul 2 l5) ?_
      refine g_iload B dX11_readies_189 6 rfl ?_
      refine g_if_eq (tgt := 202) B dX11_readies_191 (by decide) (fun c191 => ?_) (fun h => absurd (by decide) h)
      refine g_iload B dX11_readies_202 1 rfl ?_
      refine g_iast (ws' := [(m, .inr (11, mkF r m_1 m_4 m_9 m_10 m_14 2 m_25 m_26 m_27 m_28 m_29 m_31 m_32 m_33 m_35 m_36 pm_37 (m_1 / 2) 9 m_40 m_42)), ((r 0), .inl (E.2.2.1 0, 1200, .inl r0_f)), ((r 41), .inl (E.2.2.1 0, 1200, .inl (upd pr41_f (2 * l5) ((r0_f (2 * l5)) >>> (pm_37 &&& 31)))))]) B 2 rfl (vp_in_nI (by omega) (by omega)) (by rw [nI_clamp (n := (2 * l5)) (by omega)]; rfl) dX11_readies_204 ?_
      refine g_aload_n B dX11_readies_205 rfl 2 rfl ?_
      refine g_get B 0 15 fl_X11_118 rfl mf_15 dX11_readies_206 ?_
      refine g_ri (x' := 2) (by decide) ?_
      refine g_iconst (v := 2) B dX11_readies_209 (by decide) ?_
      refine g_icmp_ne (tgt := 244) B dX11_readies_210 (by decide) (fun h => absurd (by decide) h) (fun c210 => ?_)
      refine g_aload_n B dX11_readies_213 rfl 2 rfl ?_
      refine g_get B 0 41 fl_X11_77 rfl mf_41 dX11_readies_214 ?_
      refine g_iconst (v := 2) B dX11_readies_217 (by decide) ?_
      refine g_iload B dX11_readies_218 7 rfl ?_
      refine g_imul B dX11_readies_220 ?_
      refine g_ri (x' := nI (2 * l5)) (pk_mul 2 l5) ?_
      refine g_iconst (v := 1) B dX11_readies_221 (by decide) ?_
      refine g_iadd B dX11_readies_222 ?_
      refine g_ri (x' := nI ((2 * l5) + 1)) (nI_add (2 * l5) 1) ?_
      refine g_iload B dX11_readies_223 6 rfl ?_
      refine g_if_eq (tgt := 241) B dX11_readies_225 (by decide) (fun c225 => ?_) (fun h => absurd (by decide) h)
      refine g_iload B dX11_readies_241 0 rfl ?_
      refine g_iast (ws' := [(m, .inr (11, mkF r m_1 m_4 m_9 m_10 m_14 2 m_25 m_26 m_27 m_28 m_29 m_31 m_32 m_33 m_35 m_36 pm_37 (m_1 / 2) 9 m_40 m_42)), ((r 0), .inl (E.2.2.1 0, 1200, .inl r0_f)), ((r 41), .inl (E.2.2.1 0, 1200, .inl (upd (upd pr41_f (2 * l5) ((r0_f (2 * l5)) >>> (pm_37 &&& 31))) ((2 * l5) + 1) ((r0_f ((2 * l5) + 1)) >>> (pm_37 &&& 31)))))]) B 2 rfl (vp_in_nI (by omega) (by omega)) (by rw [nI_clamp (n := ((2 * l5) + 1)) (by omega)]; rfl) dX11_readies_243 ?_
      refine g_iinc (v := nI (l5 + 1)) (lv' := [(5, .int (nI (l5 + 1))), (7, .int ((r0_f ((2 * l5) + 1)) >>> (pm_37 &&& 31))), (6, .int ((r0_f (2 * l5)) >>> (pm_37 &&& 31))), (0, .ref m), (1, .int 2), (2, .int jo), (3, .int 0), (4, .int 0)]) B dX11_readies_244 7 rfl (nI_add l5 1) (by decide) rfl ?_
      refine g_goto (tgt := 126) B dX11_readies_247 (by decide) ?_
      refine g_lvsub (lv' := [(0, .ref m), (1, .int 2), (2, .int jo), (3, .int 0), (4, .int 0), (5, .int (nI (l5 + 1)))]) [3, 4, 5, 6, 7, 0] rfl ?_
      exact ih (upd (upd pr41_f (2 * l5) ((r0_f (2 * l5)) >>> (pm_37 &&& 31))) ((2 * l5) + 1) ((r0_f ((2 * l5) + 1)) >>> (pm_37 &&& 31))) (l5 + 1) (by first | assumption | omega | decide | exact hCF _ (by omega)) (by omega) e_
theorem dX11_readies_49 : decode cX11_readies 49 = .ok (.iconst 1, 1) := by decide +kernel
theorem dX11_readies_50 : decode cX11_readies 50 = .ok (.goto 4, 3) := by decide +kernel
theorem dX11_readies_100 : decode cX11_readies 100 = .ok (.iconst 4, 1) := by decide +kernel
theorem dX11_readies_101 : decode cX11_readies 101 = .ok (.goto 4, 3) := by decide +kernel
theorem dX11_readies_194 : decode cX11_readies 194 = .ok (.iload 6, 2) := by decide +kernel
theorem dX11_readies_196 : decode cX11_readies 196 = .ok (.iload 7, 2) := by decide +kernel
theorem dX11_readies_198 : decode cX11_readies 198 = .ok (.isub, 1) := by decide +kernel
theorem dX11_readies_199 : decode cX11_readies 199 = .ok (.goto 5, 3) := by decide +kernel
theorem dX11_readies_228 : decode cX11_readies 228 = .ok (.iload 7, 2) := by decide +kernel
theorem dX11_readies_230 : decode cX11_readies 230 = .ok (.iload 6, 2) := by decide +kernel
theorem dX11_readies_232 : decode cX11_readies 232 = .ok (.iload 7, 2) := by decide +kernel
theorem dX11_readies_234 : decode cX11_readies 234 = .ok (.isub, 1) := by decide +kernel
theorem dX11_readies_235 : decode cX11_readies 235 = .ok (.iconst 1, 1) := by decide +kernel
theorem dX11_readies_236 : decode cX11_readies 236 = .ok (.ishr, 1) := by decide +kernel
theorem dX11_readies_237 : decode cX11_readies 237 = .ok (.iadd, 1) := by decide +kernel
theorem dX11_readies_238 : decode cX11_readies 238 = .ok (.goto 5, 3) := by decide +kernel
set_option maxRecDepth 100000 in
def lf_wr_X11_readies_2_126_2735 (m_1 : Nat) (r0_f : Nat → Int32) (pm_37 : Int32) (β : Type) (kx_ : (Nat → Int32) → Nat → β)  : Nat → (Nat → Int32) → Nat → β
  | 0, pr41_f, l5 => kx_ pr41_f l5
  | fuel + 1, pr41_f, l5 => (if (m_1 / 2) ≤ l5 then (kx_ pr41_f l5) else (fnL (((r0_f (2 * l5)) >>> (pm_37 &&& 31)) - ((r0_f ((2 * l5) + 1)) >>> (pm_37 &&& 31))) (fun x_2739 => (fnL (((r0_f ((2 * l5) + 1)) >>> (pm_37 &&& 31)) + ((((r0_f (2 * l5)) >>> (pm_37 &&& 31)) - ((r0_f ((2 * l5) + 1)) >>> (pm_37 &&& 31))) >>> (1 &&& 31))) (fun x_2740 => (lf_wr_X11_readies_2_126_2735 m_1 r0_f pm_37 β kx_ fuel (upd (upd pr41_f (2 * l5) x_2739) ((2 * l5) + 1) x_2740) (l5 + 1)))))))
set_option maxRecDepth 100000 in
theorem lf_wr_X11_readies_2_126_2735_s {m_1 : Nat} {r0_f : Nat → Int32} {pm_37 : Int32} {β : Type} {kx_ : (Nat → Int32) → Nat → β}  {fuel : Nat} {pr41_f : Nat → Int32} {l5 : Nat} : lf_wr_X11_readies_2_126_2735 m_1 r0_f pm_37 β kx_  (fuel + 1) pr41_f l5 = (if (m_1 / 2) ≤ l5 then (kx_ pr41_f l5) else (fnL (((r0_f (2 * l5)) >>> (pm_37 &&& 31)) - ((r0_f ((2 * l5) + 1)) >>> (pm_37 &&& 31))) (fun x_2739 => (fnL (((r0_f ((2 * l5) + 1)) >>> (pm_37 &&& 31)) + ((((r0_f (2 * l5)) >>> (pm_37 &&& 31)) - ((r0_f ((2 * l5) + 1)) >>> (pm_37 &&& 31))) >>> (1 &&& 31))) (fun x_2740 => (lf_wr_X11_readies_2_126_2735 m_1 r0_f pm_37 β kx_ fuel (upd (upd pr41_f (2 * l5) x_2739) ((2 * l5) + 1) x_2740) (l5 + 1))))))) := rfl
set_option maxRecDepth 100000 in
set_option maxHeartbeats 4000000 in
theorem lp_wr_X11_readies_2_126_2735 (E : g_E) (m : Nat) (r : Nat → Nat) (m_1 : Nat) (m_4 : Nat) (m_9 : Nat) (m_10 : Nat) (m_14 : Nat) (m_15 : Nat) (m_25 : Int32) (m_26 : Int32) (m_27 : Int64) (m_28 : Nat) (m_29 : Nat) (m_31 : Nat) (m_32 : Nat) (m_33 : Nat) (m_35 : Nat) (m_36 : Nat) (m_37 : Int32) (m_38 : Nat) (m_39 : Int32) (m_40 : Int32) (m_42 : Nat) (r0_f : Nat → Int32) (r41_f : Nat → Int32) (jo : Int32) (h0 : m_1 / 2 ≤ 600) (hb0 : m_1 ≤ 1200) (hb1 : m_36 ≤ 65535) (hb2 : m_38 ≤ 65535) (hb3 : m_15 ≤ 2) (pm_37 : Int32)  {X : g_X} {rr : (β : Type) → (Nat → Int32 → Nat → Int32 → (Nat → Int32) → β) → β} (kx_ : (β : Type) → (Nat → Int32 → Nat → Int32 → (Nat → Int32) → β) → (Nat → Int32) → Nat → β) (B : Bd E X cX11_readies RX11 8 2 43 0 0) (hr : Rt E X none 0 0 (fun v_ w_ => ∃ zm_38 : Nat, ∃ zm_37 : Int32, ∃ zm_15 : Nat, ∃ zm_39 : Int32, ∃ zr41_f : Nat → Int32, (zm_38 ≤ 65535) ∧ (zm_15 ≤ 2) ∧ (zm_38 ≤ 600) ∧ (1 ≤ zm_15) ∧ (∀ f, f < zm_38 → zm_15 * f + zm_15 ≤ 1200) ∧ (∀ (β : Type) (k_ : Nat → Int32 → Nat → Int32 → (Nat → Int32) → β), rr β k_ = k_ zm_38 zm_37 zm_15 zm_39 zr41_f) ∧ v_ = none ∧ w_ = [(m, .inr (11, mkF r m_1 m_4 m_9 m_10 m_14 zm_15 m_25 m_26 m_27 m_28 m_29 m_31 m_32 m_33 m_35 m_36 zm_37 zm_38 zm_39 m_40 m_42)), ((r 0), .inl (E.2.2.1 0, 1200, .inl r0_f)), ((r 41), .inl (E.2.2.1 0, 1200, .inl zr41_f))])) (K : ∀ (pr41_f : Nat → Int32) (l5 : Nat), (l5 ≤ 600) → (∀ (β : Type) (k_ : Nat → Int32 → Nat → Int32 → (Nat → Int32) → β), rr β k_ = kx_ β k_ pr41_f l5) → G E X 8 [(m, .inr (11, mkF r m_1 m_4 m_9 m_10 m_14 2 m_25 m_26 m_27 m_28 m_29 m_31 m_32 m_33 m_35 m_36 pm_37 (m_1 / 2) 5 m_40 m_42)), ((r 0), .inl (E.2.2.1 0, 1200, .inl r0_f)), ((r 41), .inl (E.2.2.1 0, 1200, .inl pr41_f))] 0 0 [(0, .ref m), (1, .int 2), (2, .int jo), (3, .int 0), (4, .int 1), (5, .int (nI l5))] 250 []) : ∀ (fuel : Nat) (pr41_f : Nat → Int32) (l5 : Nat), (l5 ≤ 600) → (600 - l5) < fuel → (∀ (β : Type) (k_ : Nat → Int32 → Nat → Int32 → (Nat → Int32) → β), rr β k_ = lf_wr_X11_readies_2_126_2735 m_1 r0_f pm_37 β (kx_ β k_) fuel pr41_f l5) → G E X 8 [(m, .inr (11, mkF r m_1 m_4 m_9 m_10 m_14 2 m_25 m_26 m_27 m_28 m_29 m_31 m_32 m_33 m_35 m_36 pm_37 (m_1 / 2) 5 m_40 m_42)), ((r 0), .inl (E.2.2.1 0, 1200, .inl r0_f)), ((r 41), .inl (E.2.2.1 0, 1200, .inl pr41_f))] 0 0 [(0, .ref m), (1, .int 2), (2, .int jo), (3, .int 0), (4, .int 1), (5, .int (nI l5))] 126 [] := by
  intro fuel
  induction fuel with
  | zero => intro pr41_f l5 _ h _; exact absurd h (Nat.not_lt_zero _)
  | succ fuel ih =>
    intro pr41_f l5 hv0 hm e_
    replace e_ := fun β k_ => (e_ β k_).trans lf_wr_X11_readies_2_126_2735_s
    refine g_iload B dX11_readies_126 5 rfl ?_
    refine g_aload_n B dX11_readies_128 rfl 0 rfl ?_
    refine g_get B 0 38 fl_X11_189 rfl mf_38 dX11_readies_129 ?_
    refine g_icmp_ge (tgt := 250) B dX11_readies_132 (by decide) (fun c132_2736 => ?_) (fun c132_2736 => ?_)
    · have hn_2737 : (m_1 / 2) ≤ l5 := (nI_leI (a := (m_1 / 2)) (b := l5) (by omega) (by omega)).mp c132_2736
      replace e_ := fun β k_ => (e_ β k_).trans (if_pos hn_2737)
      exact K pr41_f l5 (by first | assumption | omega | decide | exact hCF _ (by omega)) e_
    · have hn_2738 : l5 < (m_1 / 2) := Nat.not_le.mp (fun q => c132_2736 ((nI_leI (a := (m_1 / 2)) (b := l5) (by omega) (by omega)).mpr q))
      replace e_ := fun β k_ => (e_ β k_).trans (if_neg (Nat.not_le.mpr hn_2738))
      refine g_aload_n B dX11_readies_135 rfl 0 rfl ?_
      refine g_get B 0 0 fl_X11_9 rfl mf_0 dX11_readies_136 ?_
      refine g_iload_n B dX11_readies_139 rfl 1 rfl ?_
      refine g_iload B dX11_readies_140 5 rfl ?_
      refine g_imul B dX11_readies_142 ?_
      refine g_ri (x' := nI (2 * l5)) (pk_mul 2 l5) ?_
      refine g_iald B 1 rfl (vp_in_nI (by omega) (by omega)) dX11_readies_143 ?_
      refine g_ri (x' := (r0_f (2 * l5))) (congrArg r0_f (nI_clamp (n := (2 * l5)) (by omega))) ?_
      refine g_aload_n B dX11_readies_144 rfl 0 rfl ?_
      refine g_get B 0 37 fl_X11_196 rfl mf_37 dX11_readies_145 ?_
      refine g_ishr B dX11_readies_148 ?_
      refine g_istore (lv' := [(6, .int ((r0_f (2 * l5)) >>> (pm_37 &&& 31))), (0, .ref m), (1, .int 2), (2, .int jo), (3, .int 0), (4, .int 1), (5, .int (nI l5))]) B dX11_readies_149 (by decide) rfl ?_
      refine g_iload_n B dX11_readies_151 rfl 2 rfl ?_
      refine g_iconst (v := 2) B dX11_readies_152 (by decide) ?_
      refine g_icmp_ne (tgt := 175) B dX11_readies_153 (by decide) (fun h => absurd (by decide) h) (fun c153 => ?_)
      refine g_aload_n B dX11_readies_156 rfl 1 rfl ?_
      refine g_get B 0 0 fl_X11_9 rfl mf_0 dX11_readies_157 ?_
      refine g_iconst (v := 2) B dX11_readies_160 (by decide) ?_
      refine g_iload B dX11_readies_161 6 rfl ?_
      refine g_imul B dX11_readies_163 ?_
      refine g_ri (x' := nI (2 * l5)) (pk_mul 2 l5) ?_
      refine g_iconst (v := 1) B dX11_readies_164 (by decide) ?_
      refine g_iadd B dX11_readies_165 ?_
      refine g_ri (x' := nI ((2 * l5) + 1)) (nI_add (2 * l5) 1) ?_
      refine g_iald B 1 rfl (vp_in_nI (by omega) (by omega)) dX11_readies_166 ?_
      refine g_ri (x' := (r0_f ((2 * l5) + 1))) (congrArg r0_f (nI_clamp (n := ((2 * l5) + 1)) (by omega))) ?_
      refine g_aload_n B dX11_readies_167 rfl 1 rfl ?_
      refine g_get B 0 37 fl_X11_196 rfl mf_37 dX11_readies_168 ?_
      refine g_ishr B dX11_readies_171 ?_
      refine g_goto (tgt := 176) B dX11_readies_172 (by decide) ?_
      refine g_istore (lv' := [(7, .int ((r0_f ((2 * l5) + 1)) >>> (pm_37 &&& 31))), (6, .int ((r0_f (2 * l5)) >>> (pm_37 &&& 31))), (0, .ref m), (1, .int 2), (2, .int jo), (3, .int 0), (4, .int 1), (5, .int (nI l5))]) B dX11_readies_176 (by decide) rfl ?_
      refine g_aload_n B dX11_readies_178 rfl 2 rfl ?_
      refine g_get B 0 41 fl_X11_77 rfl mf_41 dX11_readies_179 ?_
      refine g_aload_n B dX11_readies_182 rfl 2 rfl ?_
      refine g_get B 0 15 fl_X11_118 rfl mf_15 dX11_readies_183 ?_
      refine g_ri (x' := 2) (by decide) ?_
      refine g_iload B dX11_readies_186 7 rfl ?_
      refine g_imul B dX11_readies_188 ?_
      refine g_ri (x' := nI (2 * l5)) (pk_mul 2 l5) ?_
      refine g_iload B dX11_readies_189 6 rfl ?_
      refine g_if_eq (tgt := 202) B dX11_readies_191 (by decide) (fun h => absurd h (by decide)) (fun c191 => ?_)
      refine g_iload B dX11_readies_194 1 rfl ?_
      refine g_iload B dX11_readies_196 0 rfl ?_
      refine g_isub B dX11_readies_198 ?_
      refine g_goto (tgt := 204) B dX11_readies_199 (by decide) ?_
      refine g_topi (fun x_2739 ex_2739 => ?_)
      replace e_ := fun β k_ => (e_ β k_).trans (fnL_eq (x := x_2739) ex_2739.symm _)
      refine g_iast (ws' := [(m, .inr (11, mkF r m_1 m_4 m_9 m_10 m_14 2 m_25 m_26 m_27 m_28 m_29 m_31 m_32 m_33 m_35 m_36 pm_37 (m_1 / 2) 5 m_40 m_42)), ((r 0), .inl (E.2.2.1 0, 1200, .inl r0_f)), ((r 41), .inl (E.2.2.1 0, 1200, .inl (upd pr41_f (2 * l5) x_2739)))]) B 2 rfl (vp_in_nI (by omega) (by omega)) (by rw [nI_clamp (n := (2 * l5)) (by omega)]; rfl) dX11_readies_204 ?_
      refine g_aload_n B dX11_readies_205 rfl 2 rfl ?_
      refine g_get B 0 15 fl_X11_118 rfl mf_15 dX11_readies_206 ?_
      refine g_ri (x' := 2) (by decide) ?_
      refine g_iconst (v := 2) B dX11_readies_209 (by decide) ?_
      refine g_icmp_ne (tgt := 244) B dX11_readies_210 (by decide) (fun h => absurd (by decide) h) (fun c210 => ?_)
      refine g_aload_n B dX11_readies_213 rfl 2 rfl ?_
      refine g_get B 0 41 fl_X11_77 rfl mf_41 dX11_readies_214 ?_
      refine g_iconst (v := 2) B dX11_readies_217 (by decide) ?_
      refine g_iload B dX11_readies_218 7 rfl ?_
      refine g_imul B dX11_readies_220 ?_
      refine g_ri (x' := nI (2 * l5)) (pk_mul 2 l5) ?_
      refine g_iconst (v := 1) B dX11_readies_221 (by decide) ?_
      refine g_iadd B dX11_readies_222 ?_
      refine g_ri (x' := nI ((2 * l5) + 1)) (nI_add (2 * l5) 1) ?_
      refine g_iload B dX11_readies_223 6 rfl ?_
      refine g_if_eq (tgt := 241) B dX11_readies_225 (by decide) (fun h => absurd h (by decide)) (fun c225 => ?_)
      refine g_iload B dX11_readies_228 0 rfl ?_
      refine g_iload B dX11_readies_230 1 rfl ?_
      refine g_iload B dX11_readies_232 0 rfl ?_
      refine g_isub B dX11_readies_234 ?_
      refine g_iconst (v := 1) B dX11_readies_235 (by decide) ?_
      refine g_ishr B dX11_readies_236 ?_
      refine g_iadd B dX11_readies_237 ?_
      refine g_goto (tgt := 243) B dX11_readies_238 (by decide) ?_
      refine g_topi (fun x_2740 ex_2740 => ?_)
      replace e_ := fun β k_ => (e_ β k_).trans (fnL_eq (x := x_2740) ex_2740.symm _)
      refine g_iast (ws' := [(m, .inr (11, mkF r m_1 m_4 m_9 m_10 m_14 2 m_25 m_26 m_27 m_28 m_29 m_31 m_32 m_33 m_35 m_36 pm_37 (m_1 / 2) 5 m_40 m_42)), ((r 0), .inl (E.2.2.1 0, 1200, .inl r0_f)), ((r 41), .inl (E.2.2.1 0, 1200, .inl (upd (upd pr41_f (2 * l5) x_2739) ((2 * l5) + 1) x_2740)))]) B 2 rfl (vp_in_nI (by omega) (by omega)) (by rw [nI_clamp (n := ((2 * l5) + 1)) (by omega)]; rfl) dX11_readies_243 ?_
      refine g_iinc (v := nI (l5 + 1)) (lv' := [(5, .int (nI (l5 + 1))), (7, .int ((r0_f ((2 * l5) + 1)) >>> (pm_37 &&& 31))), (6, .int ((r0_f (2 * l5)) >>> (pm_37 &&& 31))), (0, .ref m), (1, .int 2), (2, .int jo), (3, .int 0), (4, .int 1)]) B dX11_readies_244 7 rfl (nI_add l5 1) (by decide) rfl ?_
      refine g_goto (tgt := 126) B dX11_readies_247 (by decide) ?_
      refine g_lvsub (lv' := [(0, .ref m), (1, .int 2), (2, .int jo), (3, .int 0), (4, .int 1), (5, .int (nI (l5 + 1)))]) [3, 4, 5, 6, 7, 0] rfl ?_
      exact ih (upd (upd pr41_f (2 * l5) x_2739) ((2 * l5) + 1) x_2740) (l5 + 1) (by first | assumption | omega | decide | exact hCF _ (by omega)) (by omega) e_
set_option maxRecDepth 100000 in
def lf_wr_X11_readies_2_126_2742 (m_1 : Nat) (r0_f : Nat → Int32) (pm_37 : Int32) (β : Type) (kx_ : (Nat → Int32) → Nat → β)  : Nat → (Nat → Int32) → Nat → β
  | 0, pr41_f, l5 => kx_ pr41_f l5
  | fuel + 1, pr41_f, l5 => (if (m_1 / 2) ≤ l5 then (kx_ pr41_f l5) else (fnL (((r0_f (2 * l5)) >>> (pm_37 &&& 31)) - ((r0_f ((2 * l5) + 1)) >>> (pm_37 &&& 31))) (fun x_2746 => (fnL (((r0_f ((2 * l5) + 1)) >>> (pm_37 &&& 31)) + ((((r0_f (2 * l5)) >>> (pm_37 &&& 31)) - ((r0_f ((2 * l5) + 1)) >>> (pm_37 &&& 31))) >>> (1 &&& 31))) (fun x_2747 => (lf_wr_X11_readies_2_126_2742 m_1 r0_f pm_37 β kx_ fuel (upd (upd pr41_f (2 * l5) x_2746) ((2 * l5) + 1) x_2747) (l5 + 1)))))))
set_option maxRecDepth 100000 in
theorem lf_wr_X11_readies_2_126_2742_s {m_1 : Nat} {r0_f : Nat → Int32} {pm_37 : Int32} {β : Type} {kx_ : (Nat → Int32) → Nat → β}  {fuel : Nat} {pr41_f : Nat → Int32} {l5 : Nat} : lf_wr_X11_readies_2_126_2742 m_1 r0_f pm_37 β kx_  (fuel + 1) pr41_f l5 = (if (m_1 / 2) ≤ l5 then (kx_ pr41_f l5) else (fnL (((r0_f (2 * l5)) >>> (pm_37 &&& 31)) - ((r0_f ((2 * l5) + 1)) >>> (pm_37 &&& 31))) (fun x_2746 => (fnL (((r0_f ((2 * l5) + 1)) >>> (pm_37 &&& 31)) + ((((r0_f (2 * l5)) >>> (pm_37 &&& 31)) - ((r0_f ((2 * l5) + 1)) >>> (pm_37 &&& 31))) >>> (1 &&& 31))) (fun x_2747 => (lf_wr_X11_readies_2_126_2742 m_1 r0_f pm_37 β kx_ fuel (upd (upd pr41_f (2 * l5) x_2746) ((2 * l5) + 1) x_2747) (l5 + 1))))))) := rfl
set_option maxRecDepth 100000 in
set_option maxHeartbeats 4000000 in
theorem lp_wr_X11_readies_2_126_2742 (E : g_E) (m : Nat) (r : Nat → Nat) (m_1 : Nat) (m_4 : Nat) (m_9 : Nat) (m_10 : Nat) (m_14 : Nat) (m_15 : Nat) (m_25 : Int32) (m_26 : Int32) (m_27 : Int64) (m_28 : Nat) (m_29 : Nat) (m_31 : Nat) (m_32 : Nat) (m_33 : Nat) (m_35 : Nat) (m_36 : Nat) (m_37 : Int32) (m_38 : Nat) (m_39 : Int32) (m_40 : Int32) (m_42 : Nat) (r0_f : Nat → Int32) (r41_f : Nat → Int32) (jo : Int32) (h0 : m_1 / 2 ≤ 600) (hb0 : m_1 ≤ 1200) (hb1 : m_36 ≤ 65535) (hb2 : m_38 ≤ 65535) (hb3 : m_15 ≤ 2) (pm_37 : Int32)  {X : g_X} {rr : (β : Type) → (Nat → Int32 → Nat → Int32 → (Nat → Int32) → β) → β} (kx_ : (β : Type) → (Nat → Int32 → Nat → Int32 → (Nat → Int32) → β) → (Nat → Int32) → Nat → β) (B : Bd E X cX11_readies RX11 8 2 43 0 0) (hr : Rt E X none 0 0 (fun v_ w_ => ∃ zm_38 : Nat, ∃ zm_37 : Int32, ∃ zm_15 : Nat, ∃ zm_39 : Int32, ∃ zr41_f : Nat → Int32, (zm_38 ≤ 65535) ∧ (zm_15 ≤ 2) ∧ (zm_38 ≤ 600) ∧ (1 ≤ zm_15) ∧ (∀ f, f < zm_38 → zm_15 * f + zm_15 ≤ 1200) ∧ (∀ (β : Type) (k_ : Nat → Int32 → Nat → Int32 → (Nat → Int32) → β), rr β k_ = k_ zm_38 zm_37 zm_15 zm_39 zr41_f) ∧ v_ = none ∧ w_ = [(m, .inr (11, mkF r m_1 m_4 m_9 m_10 m_14 zm_15 m_25 m_26 m_27 m_28 m_29 m_31 m_32 m_33 m_35 m_36 zm_37 zm_38 zm_39 m_40 m_42)), ((r 0), .inl (E.2.2.1 0, 1200, .inl r0_f)), ((r 41), .inl (E.2.2.1 0, 1200, .inl zr41_f))])) (K : ∀ (pr41_f : Nat → Int32) (l5 : Nat), (l5 ≤ 600) → (∀ (β : Type) (k_ : Nat → Int32 → Nat → Int32 → (Nat → Int32) → β), rr β k_ = kx_ β k_ pr41_f l5) → G E X 8 [(m, .inr (11, mkF r m_1 m_4 m_9 m_10 m_14 2 m_25 m_26 m_27 m_28 m_29 m_31 m_32 m_33 m_35 m_36 pm_37 (m_1 / 2) 13 m_40 m_42)), ((r 0), .inl (E.2.2.1 0, 1200, .inl r0_f)), ((r 41), .inl (E.2.2.1 0, 1200, .inl pr41_f))] 0 0 [(0, .ref m), (1, .int 2), (2, .int jo), (3, .int 0), (4, .int 1), (5, .int (nI l5))] 250 []) : ∀ (fuel : Nat) (pr41_f : Nat → Int32) (l5 : Nat), (l5 ≤ 600) → (600 - l5) < fuel → (∀ (β : Type) (k_ : Nat → Int32 → Nat → Int32 → (Nat → Int32) → β), rr β k_ = lf_wr_X11_readies_2_126_2742 m_1 r0_f pm_37 β (kx_ β k_) fuel pr41_f l5) → G E X 8 [(m, .inr (11, mkF r m_1 m_4 m_9 m_10 m_14 2 m_25 m_26 m_27 m_28 m_29 m_31 m_32 m_33 m_35 m_36 pm_37 (m_1 / 2) 13 m_40 m_42)), ((r 0), .inl (E.2.2.1 0, 1200, .inl r0_f)), ((r 41), .inl (E.2.2.1 0, 1200, .inl pr41_f))] 0 0 [(0, .ref m), (1, .int 2), (2, .int jo), (3, .int 0), (4, .int 1), (5, .int (nI l5))] 126 [] := by
  intro fuel
  induction fuel with
  | zero => intro pr41_f l5 _ h _; exact absurd h (Nat.not_lt_zero _)
  | succ fuel ih =>
    intro pr41_f l5 hv0 hm e_
    replace e_ := fun β k_ => (e_ β k_).trans lf_wr_X11_readies_2_126_2742_s
    refine g_iload B dX11_readies_126 5 rfl ?_
    refine g_aload_n B dX11_readies_128 rfl 0 rfl ?_
    refine g_get B 0 38 fl_X11_189 rfl mf_38 dX11_readies_129 ?_
    refine g_icmp_ge (tgt := 250) B dX11_readies_132 (by decide) (fun c132_2743 => ?_) (fun c132_2743 => ?_)
    · have hn_2744 : (m_1 / 2) ≤ l5 := (nI_leI (a := (m_1 / 2)) (b := l5) (by omega) (by omega)).mp c132_2743
      replace e_ := fun β k_ => (e_ β k_).trans (if_pos hn_2744)
      exact K pr41_f l5 (by first | assumption | omega | decide | exact hCF _ (by omega)) e_
    · have hn_2745 : l5 < (m_1 / 2) := Nat.not_le.mp (fun q => c132_2743 ((nI_leI (a := (m_1 / 2)) (b := l5) (by omega) (by omega)).mpr q))
      replace e_ := fun β k_ => (e_ β k_).trans (if_neg (Nat.not_le.mpr hn_2745))
      refine g_aload_n B dX11_readies_135 rfl 0 rfl ?_
      refine g_get B 0 0 fl_X11_9 rfl mf_0 dX11_readies_136 ?_
      refine g_iload_n B dX11_readies_139 rfl 1 rfl ?_
      refine g_iload B dX11_readies_140 5 rfl ?_
      refine g_imul B dX11_readies_142 ?_
      refine g_ri (x' := nI (2 * l5)) (pk_mul 2 l5) ?_
      refine g_iald B 1 rfl (vp_in_nI (by omega) (by omega)) dX11_readies_143 ?_
      refine g_ri (x' := (r0_f (2 * l5))) (congrArg r0_f (nI_clamp (n := (2 * l5)) (by omega))) ?_
      refine g_aload_n B dX11_readies_144 rfl 0 rfl ?_
      refine g_get B 0 37 fl_X11_196 rfl mf_37 dX11_readies_145 ?_
      refine g_ishr B dX11_readies_148 ?_
      refine g_istore (lv' := [(6, .int ((r0_f (2 * l5)) >>> (pm_37 &&& 31))), (0, .ref m), (1, .int 2), (2, .int jo), (3, .int 0), (4, .int 1), (5, .int (nI l5))]) B dX11_readies_149 (by decide) rfl ?_
      refine g_iload_n B dX11_readies_151 rfl 2 rfl ?_
      refine g_iconst (v := 2) B dX11_readies_152 (by decide) ?_
      refine g_icmp_ne (tgt := 175) B dX11_readies_153 (by decide) (fun h => absurd (by decide) h) (fun c153 => ?_)
      refine g_aload_n B dX11_readies_156 rfl 1 rfl ?_
      refine g_get B 0 0 fl_X11_9 rfl mf_0 dX11_readies_157 ?_
      refine g_iconst (v := 2) B dX11_readies_160 (by decide) ?_
      refine g_iload B dX11_readies_161 6 rfl ?_
      refine g_imul B dX11_readies_163 ?_
      refine g_ri (x' := nI (2 * l5)) (pk_mul 2 l5) ?_
      refine g_iconst (v := 1) B dX11_readies_164 (by decide) ?_
      refine g_iadd B dX11_readies_165 ?_
      refine g_ri (x' := nI ((2 * l5) + 1)) (nI_add (2 * l5) 1) ?_
      refine g_iald B 1 rfl (vp_in_nI (by omega) (by omega)) dX11_readies_166 ?_
      refine g_ri (x' := (r0_f ((2 * l5) + 1))) (congrArg r0_f (nI_clamp (n := ((2 * l5) + 1)) (by omega))) ?_
      refine g_aload_n B dX11_readies_167 rfl 1 rfl ?_
      refine g_get B 0 37 fl_X11_196 rfl mf_37 dX11_readies_168 ?_
      refine g_ishr B dX11_readies_171 ?_
      refine g_goto (tgt := 176) B dX11_readies_172 (by decide) ?_
      refine g_istore (lv' := [(7, .int ((r0_f ((2 * l5) + 1)) >>> (pm_37 &&& 31))), (6, .int ((r0_f (2 * l5)) >>> (pm_37 &&& 31))), (0, .ref m), (1, .int 2), (2, .int jo), (3, .int 0), (4, .int 1), (5, .int (nI l5))]) B dX11_readies_176 (by decide) rfl ?_
      refine g_aload_n B dX11_readies_178 rfl 2 rfl ?_
      refine g_get B 0 41 fl_X11_77 rfl mf_41 dX11_readies_179 ?_
      refine g_aload_n B dX11_readies_182 rfl 2 rfl ?_
      refine g_get B 0 15 fl_X11_118 rfl mf_15 dX11_readies_183 ?_
      refine g_ri (x' := 2) (by decide) ?_
      refine g_iload B dX11_readies_186 7 rfl ?_
      refine g_imul B dX11_readies_188 ?_
      refine g_ri (x' := nI (2 * l5)) (pk_mul 2 l5) ?_
      refine g_iload B dX11_readies_189 6 rfl ?_
      refine g_if_eq (tgt := 202) B dX11_readies_191 (by decide) (fun h => absurd h (by decide)) (fun c191 => ?_)
      refine g_iload B dX11_readies_194 1 rfl ?_
      refine g_iload B dX11_readies_196 0 rfl ?_
      refine g_isub B dX11_readies_198 ?_
      refine g_goto (tgt := 204) B dX11_readies_199 (by decide) ?_
      refine g_topi (fun x_2746 ex_2746 => ?_)
      replace e_ := fun β k_ => (e_ β k_).trans (fnL_eq (x := x_2746) ex_2746.symm _)
      refine g_iast (ws' := [(m, .inr (11, mkF r m_1 m_4 m_9 m_10 m_14 2 m_25 m_26 m_27 m_28 m_29 m_31 m_32 m_33 m_35 m_36 pm_37 (m_1 / 2) 13 m_40 m_42)), ((r 0), .inl (E.2.2.1 0, 1200, .inl r0_f)), ((r 41), .inl (E.2.2.1 0, 1200, .inl (upd pr41_f (2 * l5) x_2746)))]) B 2 rfl (vp_in_nI (by omega) (by omega)) (by rw [nI_clamp (n := (2 * l5)) (by omega)]; rfl) dX11_readies_204 ?_
      refine g_aload_n B dX11_readies_205 rfl 2 rfl ?_
      refine g_get B 0 15 fl_X11_118 rfl mf_15 dX11_readies_206 ?_
      refine g_ri (x' := 2) (by decide) ?_
      refine g_iconst (v := 2) B dX11_readies_209 (by decide) ?_
      refine g_icmp_ne (tgt := 244) B dX11_readies_210 (by decide) (fun h => absurd (by decide) h) (fun c210 => ?_)
      refine g_aload_n B dX11_readies_213 rfl 2 rfl ?_
      refine g_get B 0 41 fl_X11_77 rfl mf_41 dX11_readies_214 ?_
      refine g_iconst (v := 2) B dX11_readies_217 (by decide) ?_
      refine g_iload B dX11_readies_218 7 rfl ?_
      refine g_imul B dX11_readies_220 ?_
      refine g_ri (x' := nI (2 * l5)) (pk_mul 2 l5) ?_
      refine g_iconst (v := 1) B dX11_readies_221 (by decide) ?_
      refine g_iadd B dX11_readies_222 ?_
      refine g_ri (x' := nI ((2 * l5) + 1)) (nI_add (2 * l5) 1) ?_
      refine g_iload B dX11_readies_223 6 rfl ?_
      refine g_if_eq (tgt := 241) B dX11_readies_225 (by decide) (fun h => absurd h (by decide)) (fun c225 => ?_)
      refine g_iload B dX11_readies_228 0 rfl ?_
      refine g_iload B dX11_readies_230 1 rfl ?_
      refine g_iload B dX11_readies_232 0 rfl ?_
      refine g_isub B dX11_readies_234 ?_
      refine g_iconst (v := 1) B dX11_readies_235 (by decide) ?_
      refine g_ishr B dX11_readies_236 ?_
      refine g_iadd B dX11_readies_237 ?_
      refine g_goto (tgt := 243) B dX11_readies_238 (by decide) ?_
      refine g_topi (fun x_2747 ex_2747 => ?_)
      replace e_ := fun β k_ => (e_ β k_).trans (fnL_eq (x := x_2747) ex_2747.symm _)
      refine g_iast (ws' := [(m, .inr (11, mkF r m_1 m_4 m_9 m_10 m_14 2 m_25 m_26 m_27 m_28 m_29 m_31 m_32 m_33 m_35 m_36 pm_37 (m_1 / 2) 13 m_40 m_42)), ((r 0), .inl (E.2.2.1 0, 1200, .inl r0_f)), ((r 41), .inl (E.2.2.1 0, 1200, .inl (upd (upd pr41_f (2 * l5) x_2746) ((2 * l5) + 1) x_2747)))]) B 2 rfl (vp_in_nI (by omega) (by omega)) (by rw [nI_clamp (n := ((2 * l5) + 1)) (by omega)]; rfl) dX11_readies_243 ?_
      refine g_iinc (v := nI (l5 + 1)) (lv' := [(5, .int (nI (l5 + 1))), (7, .int ((r0_f ((2 * l5) + 1)) >>> (pm_37 &&& 31))), (6, .int ((r0_f (2 * l5)) >>> (pm_37 &&& 31))), (0, .ref m), (1, .int 2), (2, .int jo), (3, .int 0), (4, .int 1)]) B dX11_readies_244 7 rfl (nI_add l5 1) (by decide) rfl ?_
      refine g_goto (tgt := 126) B dX11_readies_247 (by decide) ?_
      refine g_lvsub (lv' := [(0, .ref m), (1, .int 2), (2, .int jo), (3, .int 0), (4, .int 1), (5, .int (nI (l5 + 1)))]) [3, 4, 5, 6, 7, 0] rfl ?_
      exact ih (upd (upd pr41_f (2 * l5) x_2746) ((2 * l5) + 1) x_2747) (l5 + 1) (by first | assumption | omega | decide | exact hCF _ (by omega)) (by omega) e_
theorem dX11_readies_30 : decode cX11_readies 30 = .ok (.iconst 1, 1) := by decide +kernel
theorem dX11_readies_31 : decode cX11_readies 31 = .ok (.goto 4, 3) := by decide +kernel
theorem dX11_readies_89 : decode cX11_readies 89 = .ok (.iconst 2, 1) := by decide +kernel
theorem dX11_readies_90 : decode cX11_readies 90 = .ok (.goto 4, 3) := by decide +kernel
set_option maxRecDepth 100000 in
def lf_wr_X11_readies_2_126_2752 (m_1 : Nat) (r0_f : Nat → Int32) (pm_37 : Int32) (β : Type) (kx_ : (Nat → Int32) → Nat → β)  : Nat → (Nat → Int32) → Nat → β
  | 0, pr41_f, l5 => kx_ pr41_f l5
  | fuel + 1, pr41_f, l5 => (if (m_1 / 2) ≤ l5 then (kx_ pr41_f l5) else (lf_wr_X11_readies_2_126_2752 m_1 r0_f pm_37 β kx_ fuel (upd pr41_f (1 * l5) ((r0_f (2 * l5)) >>> (pm_37 &&& 31))) (l5 + 1)))
set_option maxRecDepth 100000 in
theorem lf_wr_X11_readies_2_126_2752_s {m_1 : Nat} {r0_f : Nat → Int32} {pm_37 : Int32} {β : Type} {kx_ : (Nat → Int32) → Nat → β}  {fuel : Nat} {pr41_f : Nat → Int32} {l5 : Nat} : lf_wr_X11_readies_2_126_2752 m_1 r0_f pm_37 β kx_  (fuel + 1) pr41_f l5 = (if (m_1 / 2) ≤ l5 then (kx_ pr41_f l5) else (lf_wr_X11_readies_2_126_2752 m_1 r0_f pm_37 β kx_ fuel (upd pr41_f (1 * l5) ((r0_f (2 * l5)) >>> (pm_37 &&& 31))) (l5 + 1))) := rfl
set_option maxRecDepth 100000 in
set_option maxHeartbeats 4000000 in
theorem lp_wr_X11_readies_2_126_2752 (E : g_E) (m : Nat) (r : Nat → Nat) (m_1 : Nat) (m_4 : Nat) (m_9 : Nat) (m_10 : Nat) (m_14 : Nat) (m_15 : Nat) (m_25 : Int32) (m_26 : Int32) (m_27 : Int64) (m_28 : Nat) (m_29 : Nat) (m_31 : Nat) (m_32 : Nat) (m_33 : Nat) (m_35 : Nat) (m_36 : Nat) (m_37 : Int32) (m_38 : Nat) (m_39 : Int32) (m_40 : Int32) (m_42 : Nat) (r0_f : Nat → Int32) (r41_f : Nat → Int32) (jo : Int32) (h0 : m_1 / 2 ≤ 600) (hb0 : m_1 ≤ 1200) (hb1 : m_36 ≤ 65535) (hb2 : m_38 ≤ 65535) (hb3 : m_15 ≤ 2) (pm_37 : Int32)  {X : g_X} {rr : (β : Type) → (Nat → Int32 → Nat → Int32 → (Nat → Int32) → β) → β} (kx_ : (β : Type) → (Nat → Int32 → Nat → Int32 → (Nat → Int32) → β) → (Nat → Int32) → Nat → β) (B : Bd E X cX11_readies RX11 8 2 43 0 0) (hr : Rt E X none 0 0 (fun v_ w_ => ∃ zm_38 : Nat, ∃ zm_37 : Int32, ∃ zm_15 : Nat, ∃ zm_39 : Int32, ∃ zr41_f : Nat → Int32, (zm_38 ≤ 65535) ∧ (zm_15 ≤ 2) ∧ (zm_38 ≤ 600) ∧ (1 ≤ zm_15) ∧ (∀ f, f < zm_38 → zm_15 * f + zm_15 ≤ 1200) ∧ (∀ (β : Type) (k_ : Nat → Int32 → Nat → Int32 → (Nat → Int32) → β), rr β k_ = k_ zm_38 zm_37 zm_15 zm_39 zr41_f) ∧ v_ = none ∧ w_ = [(m, .inr (11, mkF r m_1 m_4 m_9 m_10 m_14 zm_15 m_25 m_26 m_27 m_28 m_29 m_31 m_32 m_33 m_35 m_36 zm_37 zm_38 zm_39 m_40 m_42)), ((r 0), .inl (E.2.2.1 0, 1200, .inl r0_f)), ((r 41), .inl (E.2.2.1 0, 1200, .inl zr41_f))])) (K : ∀ (pr41_f : Nat → Int32) (l5 : Nat), (l5 ≤ 600) → (∀ (β : Type) (k_ : Nat → Int32 → Nat → Int32 → (Nat → Int32) → β), rr β k_ = kx_ β k_ pr41_f l5) → G E X 8 [(m, .inr (11, mkF r m_1 m_4 m_9 m_10 m_14 1 m_25 m_26 m_27 m_28 m_29 m_31 m_32 m_33 m_35 m_36 pm_37 (m_1 / 2) 3 m_40 m_42)), ((r 0), .inl (E.2.2.1 0, 1200, .inl r0_f)), ((r 41), .inl (E.2.2.1 0, 1200, .inl pr41_f))] 0 0 [(0, .ref m), (1, .int 2), (2, .int jo), (3, .int 1), (4, .int 0), (5, .int (nI l5))] 250 []) : ∀ (fuel : Nat) (pr41_f : Nat → Int32) (l5 : Nat), (l5 ≤ 600) → (600 - l5) < fuel → (∀ (β : Type) (k_ : Nat → Int32 → Nat → Int32 → (Nat → Int32) → β), rr β k_ = lf_wr_X11_readies_2_126_2752 m_1 r0_f pm_37 β (kx_ β k_) fuel pr41_f l5) → G E X 8 [(m, .inr (11, mkF r m_1 m_4 m_9 m_10 m_14 1 m_25 m_26 m_27 m_28 m_29 m_31 m_32 m_33 m_35 m_36 pm_37 (m_1 / 2) 3 m_40 m_42)), ((r 0), .inl (E.2.2.1 0, 1200, .inl r0_f)), ((r 41), .inl (E.2.2.1 0, 1200, .inl pr41_f))] 0 0 [(0, .ref m), (1, .int 2), (2, .int jo), (3, .int 1), (4, .int 0), (5, .int (nI l5))] 126 [] := by
  intro fuel
  induction fuel with
  | zero => intro pr41_f l5 _ h _; exact absurd h (Nat.not_lt_zero _)
  | succ fuel ih =>
    intro pr41_f l5 hv0 hm e_
    replace e_ := fun β k_ => (e_ β k_).trans lf_wr_X11_readies_2_126_2752_s
    refine g_iload B dX11_readies_126 5 rfl ?_
    refine g_aload_n B dX11_readies_128 rfl 0 rfl ?_
    refine g_get B 0 38 fl_X11_189 rfl mf_38 dX11_readies_129 ?_
    refine g_icmp_ge (tgt := 250) B dX11_readies_132 (by decide) (fun c132_2753 => ?_) (fun c132_2753 => ?_)
    · have hn_2754 : (m_1 / 2) ≤ l5 := (nI_leI (a := (m_1 / 2)) (b := l5) (by omega) (by omega)).mp c132_2753
      replace e_ := fun β k_ => (e_ β k_).trans (if_pos hn_2754)
      exact K pr41_f l5 (by first | assumption | omega | decide | exact hCF _ (by omega)) e_
    · have hn_2755 : l5 < (m_1 / 2) := Nat.not_le.mp (fun q => c132_2753 ((nI_leI (a := (m_1 / 2)) (b := l5) (by omega) (by omega)).mpr q))
      replace e_ := fun β k_ => (e_ β k_).trans (if_neg (Nat.not_le.mpr hn_2755))
      refine g_aload_n B dX11_readies_135 rfl 0 rfl ?_
      refine g_get B 0 0 fl_X11_9 rfl mf_0 dX11_readies_136 ?_
      refine g_iload_n B dX11_readies_139 rfl 1 rfl ?_
      refine g_iload B dX11_readies_140 5 rfl ?_
      refine g_imul B dX11_readies_142 ?_
      refine g_ri (x' := nI (2 * l5)) (pk_mul 2 l5) ?_
      refine g_iald B 1 rfl (vp_in_nI (by omega) (by omega)) dX11_readies_143 ?_
      refine g_ri (x' := (r0_f (2 * l5))) (congrArg r0_f (nI_clamp (n := (2 * l5)) (by omega))) ?_
      refine g_aload_n B dX11_readies_144 rfl 0 rfl ?_
      refine g_get B 0 37 fl_X11_196 rfl mf_37 dX11_readies_145 ?_
      refine g_ishr B dX11_readies_148 ?_
      refine g_istore (lv' := [(6, .int ((r0_f (2 * l5)) >>> (pm_37 &&& 31))), (0, .ref m), (1, .int 2), (2, .int jo), (3, .int 1), (4, .int 0), (5, .int (nI l5))]) B dX11_readies_149 (by decide) rfl ?_
      refine g_iload_n B dX11_readies_151 rfl 2 rfl ?_
      refine g_iconst (v := 2) B dX11_readies_152 (by decide) ?_
      refine g_icmp_ne (tgt := 175) B dX11_readies_153 (by decide) (fun h => absurd (by decide) h) (fun c153 => ?_)
      refine g_aload_n B dX11_readies_156 rfl 1 rfl ?_
      refine g_get B 0 0 fl_X11_9 rfl mf_0 dX11_readies_157 ?_
      refine g_iconst (v := 2) B dX11_readies_160 (by decide) ?_
      refine g_iload B dX11_readies_161 6 rfl ?_
      refine g_imul B dX11_readies_163 ?_
      refine g_ri (x' := nI (2 * l5)) (pk_mul 2 l5) ?_
      refine g_iconst (v := 1) B dX11_readies_164 (by decide) ?_
      refine g_iadd B dX11_readies_165 ?_
      refine g_ri (x' := nI ((2 * l5) + 1)) (nI_add (2 * l5) 1) ?_
      refine g_iald B 1 rfl (vp_in_nI (by omega) (by omega)) dX11_readies_166 ?_
      refine g_ri (x' := (r0_f ((2 * l5) + 1))) (congrArg r0_f (nI_clamp (n := ((2 * l5) + 1)) (by omega))) ?_
      refine g_aload_n B dX11_readies_167 rfl 1 rfl ?_
      refine g_get B 0 37 fl_X11_196 rfl mf_37 dX11_readies_168 ?_
      refine g_ishr B dX11_readies_171 ?_
      refine g_goto (tgt := 176) B dX11_readies_172 (by decide) ?_
      refine g_istore (lv' := [(7, .int ((r0_f ((2 * l5) + 1)) >>> (pm_37 &&& 31))), (6, .int ((r0_f (2 * l5)) >>> (pm_37 &&& 31))), (0, .ref m), (1, .int 2), (2, .int jo), (3, .int 1), (4, .int 0), (5, .int (nI l5))]) B dX11_readies_176 (by decide) rfl ?_
      refine g_aload_n B dX11_readies_178 rfl 2 rfl ?_
      refine g_get B 0 41 fl_X11_77 rfl mf_41 dX11_readies_179 ?_
      refine g_aload_n B dX11_readies_182 rfl 2 rfl ?_
      refine g_get B 0 15 fl_X11_118 rfl mf_15 dX11_readies_183 ?_
      refine g_ri (x' := 1) (by decide) ?_
      refine g_iload B dX11_readies_186 7 rfl ?_
      refine g_imul B dX11_readies_188 ?_
      refine g_ri (x' := nI (1 * l5)) (pk_mul 1 l5) ?_
      refine g_iload B dX11_readies_189 6 rfl ?_
      refine g_if_eq (tgt := 202) B dX11_readies_191 (by decide) (fun c191 => ?_) (fun h => absurd (by decide) h)
      refine g_iload B dX11_readies_202 1 rfl ?_
      refine g_iast (ws' := [(m, .inr (11, mkF r m_1 m_4 m_9 m_10 m_14 1 m_25 m_26 m_27 m_28 m_29 m_31 m_32 m_33 m_35 m_36 pm_37 (m_1 / 2) 3 m_40 m_42)), ((r 0), .inl (E.2.2.1 0, 1200, .inl r0_f)), ((r 41), .inl (E.2.2.1 0, 1200, .inl (upd pr41_f (1 * l5) ((r0_f (2 * l5)) >>> (pm_37 &&& 31)))))]) B 2 rfl (vp_in_nI (by omega) (by omega)) (by rw [nI_clamp (n := (1 * l5)) (by omega)]; rfl) dX11_readies_204 ?_
      refine g_aload_n B dX11_readies_205 rfl 2 rfl ?_
      refine g_get B 0 15 fl_X11_118 rfl mf_15 dX11_readies_206 ?_
      refine g_ri (x' := 1) (by decide) ?_
      refine g_iconst (v := 2) B dX11_readies_209 (by decide) ?_
      refine g_icmp_ne (tgt := 244) B dX11_readies_210 (by decide) (fun c210 => ?_) (fun h => absurd h (by decide))
      refine g_iinc (v := nI (l5 + 1)) (lv' := [(5, .int (nI (l5 + 1))), (7, .int ((r0_f ((2 * l5) + 1)) >>> (pm_37 &&& 31))), (6, .int ((r0_f (2 * l5)) >>> (pm_37 &&& 31))), (0, .ref m), (1, .int 2), (2, .int jo), (3, .int 1), (4, .int 0)]) B dX11_readies_244 7 rfl (nI_add l5 1) (by decide) rfl ?_
      refine g_goto (tgt := 126) B dX11_readies_247 (by decide) ?_
      refine g_lvsub (lv' := [(0, .ref m), (1, .int 2), (2, .int jo), (3, .int 1), (4, .int 0), (5, .int (nI (l5 + 1)))]) [3, 4, 5, 6, 7, 0] rfl ?_
      exact ih (upd pr41_f (1 * l5) ((r0_f (2 * l5)) >>> (pm_37 &&& 31))) (l5 + 1) (by first | assumption | omega | decide | exact hCF _ (by omega)) (by omega) e_
set_option maxRecDepth 100000 in
def lf_wr_X11_readies_2_126_2757 (m_1 : Nat) (r0_f : Nat → Int32) (pm_37 : Int32) (β : Type) (kx_ : (Nat → Int32) → Nat → β)  : Nat → (Nat → Int32) → Nat → β
  | 0, pr41_f, l5 => kx_ pr41_f l5
  | fuel + 1, pr41_f, l5 => (if (m_1 / 2) ≤ l5 then (kx_ pr41_f l5) else (lf_wr_X11_readies_2_126_2757 m_1 r0_f pm_37 β kx_ fuel (upd pr41_f (1 * l5) ((r0_f (2 * l5)) >>> (pm_37 &&& 31))) (l5 + 1)))
set_option maxRecDepth 100000 in
theorem lf_wr_X11_readies_2_126_2757_s {m_1 : Nat} {r0_f : Nat → Int32} {pm_37 : Int32} {β : Type} {kx_ : (Nat → Int32) → Nat → β}  {fuel : Nat} {pr41_f : Nat → Int32} {l5 : Nat} : lf_wr_X11_readies_2_126_2757 m_1 r0_f pm_37 β kx_  (fuel + 1) pr41_f l5 = (if (m_1 / 2) ≤ l5 then (kx_ pr41_f l5) else (lf_wr_X11_readies_2_126_2757 m_1 r0_f pm_37 β kx_ fuel (upd pr41_f (1 * l5) ((r0_f (2 * l5)) >>> (pm_37 &&& 31))) (l5 + 1))) := rfl
set_option maxRecDepth 100000 in
set_option maxHeartbeats 4000000 in
theorem lp_wr_X11_readies_2_126_2757 (E : g_E) (m : Nat) (r : Nat → Nat) (m_1 : Nat) (m_4 : Nat) (m_9 : Nat) (m_10 : Nat) (m_14 : Nat) (m_15 : Nat) (m_25 : Int32) (m_26 : Int32) (m_27 : Int64) (m_28 : Nat) (m_29 : Nat) (m_31 : Nat) (m_32 : Nat) (m_33 : Nat) (m_35 : Nat) (m_36 : Nat) (m_37 : Int32) (m_38 : Nat) (m_39 : Int32) (m_40 : Int32) (m_42 : Nat) (r0_f : Nat → Int32) (r41_f : Nat → Int32) (jo : Int32) (h0 : m_1 / 2 ≤ 600) (hb0 : m_1 ≤ 1200) (hb1 : m_36 ≤ 65535) (hb2 : m_38 ≤ 65535) (hb3 : m_15 ≤ 2) (pm_37 : Int32)  {X : g_X} {rr : (β : Type) → (Nat → Int32 → Nat → Int32 → (Nat → Int32) → β) → β} (kx_ : (β : Type) → (Nat → Int32 → Nat → Int32 → (Nat → Int32) → β) → (Nat → Int32) → Nat → β) (B : Bd E X cX11_readies RX11 8 2 43 0 0) (hr : Rt E X none 0 0 (fun v_ w_ => ∃ zm_38 : Nat, ∃ zm_37 : Int32, ∃ zm_15 : Nat, ∃ zm_39 : Int32, ∃ zr41_f : Nat → Int32, (zm_38 ≤ 65535) ∧ (zm_15 ≤ 2) ∧ (zm_38 ≤ 600) ∧ (1 ≤ zm_15) ∧ (∀ f, f < zm_38 → zm_15 * f + zm_15 ≤ 1200) ∧ (∀ (β : Type) (k_ : Nat → Int32 → Nat → Int32 → (Nat → Int32) → β), rr β k_ = k_ zm_38 zm_37 zm_15 zm_39 zr41_f) ∧ v_ = none ∧ w_ = [(m, .inr (11, mkF r m_1 m_4 m_9 m_10 m_14 zm_15 m_25 m_26 m_27 m_28 m_29 m_31 m_32 m_33 m_35 m_36 zm_37 zm_38 zm_39 m_40 m_42)), ((r 0), .inl (E.2.2.1 0, 1200, .inl r0_f)), ((r 41), .inl (E.2.2.1 0, 1200, .inl zr41_f))])) (K : ∀ (pr41_f : Nat → Int32) (l5 : Nat), (l5 ≤ 600) → (∀ (β : Type) (k_ : Nat → Int32 → Nat → Int32 → (Nat → Int32) → β), rr β k_ = kx_ β k_ pr41_f l5) → G E X 8 [(m, .inr (11, mkF r m_1 m_4 m_9 m_10 m_14 1 m_25 m_26 m_27 m_28 m_29 m_31 m_32 m_33 m_35 m_36 pm_37 (m_1 / 2) 11 m_40 m_42)), ((r 0), .inl (E.2.2.1 0, 1200, .inl r0_f)), ((r 41), .inl (E.2.2.1 0, 1200, .inl pr41_f))] 0 0 [(0, .ref m), (1, .int 2), (2, .int jo), (3, .int 1), (4, .int 0), (5, .int (nI l5))] 250 []) : ∀ (fuel : Nat) (pr41_f : Nat → Int32) (l5 : Nat), (l5 ≤ 600) → (600 - l5) < fuel → (∀ (β : Type) (k_ : Nat → Int32 → Nat → Int32 → (Nat → Int32) → β), rr β k_ = lf_wr_X11_readies_2_126_2757 m_1 r0_f pm_37 β (kx_ β k_) fuel pr41_f l5) → G E X 8 [(m, .inr (11, mkF r m_1 m_4 m_9 m_10 m_14 1 m_25 m_26 m_27 m_28 m_29 m_31 m_32 m_33 m_35 m_36 pm_37 (m_1 / 2) 11 m_40 m_42)), ((r 0), .inl (E.2.2.1 0, 1200, .inl r0_f)), ((r 41), .inl (E.2.2.1 0, 1200, .inl pr41_f))] 0 0 [(0, .ref m), (1, .int 2), (2, .int jo), (3, .int 1), (4, .int 0), (5, .int (nI l5))] 126 [] := by
  intro fuel
  induction fuel with
  | zero => intro pr41_f l5 _ h _; exact absurd h (Nat.not_lt_zero _)
  | succ fuel ih =>
    intro pr41_f l5 hv0 hm e_
    replace e_ := fun β k_ => (e_ β k_).trans lf_wr_X11_readies_2_126_2757_s
    refine g_iload B dX11_readies_126 5 rfl ?_
    refine g_aload_n B dX11_readies_128 rfl 0 rfl ?_
    refine g_get B 0 38 fl_X11_189 rfl mf_38 dX11_readies_129 ?_
    refine g_icmp_ge (tgt := 250) B dX11_readies_132 (by decide) (fun c132_2758 => ?_) (fun c132_2758 => ?_)
    · have hn_2759 : (m_1 / 2) ≤ l5 := (nI_leI (a := (m_1 / 2)) (b := l5) (by omega) (by omega)).mp c132_2758
      replace e_ := fun β k_ => (e_ β k_).trans (if_pos hn_2759)
      exact K pr41_f l5 (by first | assumption | omega | decide | exact hCF _ (by omega)) e_
    · have hn_2760 : l5 < (m_1 / 2) := Nat.not_le.mp (fun q => c132_2758 ((nI_leI (a := (m_1 / 2)) (b := l5) (by omega) (by omega)).mpr q))
      replace e_ := fun β k_ => (e_ β k_).trans (if_neg (Nat.not_le.mpr hn_2760))
      refine g_aload_n B dX11_readies_135 rfl 0 rfl ?_
      refine g_get B 0 0 fl_X11_9 rfl mf_0 dX11_readies_136 ?_
      refine g_iload_n B dX11_readies_139 rfl 1 rfl ?_
      refine g_iload B dX11_readies_140 5 rfl ?_
      refine g_imul B dX11_readies_142 ?_
      refine g_ri (x' := nI (2 * l5)) (pk_mul 2 l5) ?_
      refine g_iald B 1 rfl (vp_in_nI (by omega) (by omega)) dX11_readies_143 ?_
      refine g_ri (x' := (r0_f (2 * l5))) (congrArg r0_f (nI_clamp (n := (2 * l5)) (by omega))) ?_
      refine g_aload_n B dX11_readies_144 rfl 0 rfl ?_
      refine g_get B 0 37 fl_X11_196 rfl mf_37 dX11_readies_145 ?_
      refine g_ishr B dX11_readies_148 ?_
      refine g_istore (lv' := [(6, .int ((r0_f (2 * l5)) >>> (pm_37 &&& 31))), (0, .ref m), (1, .int 2), (2, .int jo), (3, .int 1), (4, .int 0), (5, .int (nI l5))]) B dX11_readies_149 (by decide) rfl ?_
      refine g_iload_n B dX11_readies_151 rfl 2 rfl ?_
      refine g_iconst (v := 2) B dX11_readies_152 (by decide) ?_
      refine g_icmp_ne (tgt := 175) B dX11_readies_153 (by decide) (fun h => absurd (by decide) h) (fun c153 => ?_)
      refine g_aload_n B dX11_readies_156 rfl 1 rfl ?_
      refine g_get B 0 0 fl_X11_9 rfl mf_0 dX11_readies_157 ?_
      refine g_iconst (v := 2) B dX11_readies_160 (by decide) ?_
      refine g_iload B dX11_readies_161 6 rfl ?_
      refine g_imul B dX11_readies_163 ?_
      refine g_ri (x' := nI (2 * l5)) (pk_mul 2 l5) ?_
      refine g_iconst (v := 1) B dX11_readies_164 (by decide) ?_
      refine g_iadd B dX11_readies_165 ?_
      refine g_ri (x' := nI ((2 * l5) + 1)) (nI_add (2 * l5) 1) ?_
      refine g_iald B 1 rfl (vp_in_nI (by omega) (by omega)) dX11_readies_166 ?_
      refine g_ri (x' := (r0_f ((2 * l5) + 1))) (congrArg r0_f (nI_clamp (n := ((2 * l5) + 1)) (by omega))) ?_
      refine g_aload_n B dX11_readies_167 rfl 1 rfl ?_
      refine g_get B 0 37 fl_X11_196 rfl mf_37 dX11_readies_168 ?_
      refine g_ishr B dX11_readies_171 ?_
      refine g_goto (tgt := 176) B dX11_readies_172 (by decide) ?_
      refine g_istore (lv' := [(7, .int ((r0_f ((2 * l5) + 1)) >>> (pm_37 &&& 31))), (6, .int ((r0_f (2 * l5)) >>> (pm_37 &&& 31))), (0, .ref m), (1, .int 2), (2, .int jo), (3, .int 1), (4, .int 0), (5, .int (nI l5))]) B dX11_readies_176 (by decide) rfl ?_
      refine g_aload_n B dX11_readies_178 rfl 2 rfl ?_
      refine g_get B 0 41 fl_X11_77 rfl mf_41 dX11_readies_179 ?_
      refine g_aload_n B dX11_readies_182 rfl 2 rfl ?_
      refine g_get B 0 15 fl_X11_118 rfl mf_15 dX11_readies_183 ?_
      refine g_ri (x' := 1) (by decide) ?_
      refine g_iload B dX11_readies_186 7 rfl ?_
      refine g_imul B dX11_readies_188 ?_
      refine g_ri (x' := nI (1 * l5)) (pk_mul 1 l5) ?_
      refine g_iload B dX11_readies_189 6 rfl ?_
      refine g_if_eq (tgt := 202) B dX11_readies_191 (by decide) (fun c191 => ?_) (fun h => absurd (by decide) h)
      refine g_iload B dX11_readies_202 1 rfl ?_
      refine g_iast (ws' := [(m, .inr (11, mkF r m_1 m_4 m_9 m_10 m_14 1 m_25 m_26 m_27 m_28 m_29 m_31 m_32 m_33 m_35 m_36 pm_37 (m_1 / 2) 11 m_40 m_42)), ((r 0), .inl (E.2.2.1 0, 1200, .inl r0_f)), ((r 41), .inl (E.2.2.1 0, 1200, .inl (upd pr41_f (1 * l5) ((r0_f (2 * l5)) >>> (pm_37 &&& 31)))))]) B 2 rfl (vp_in_nI (by omega) (by omega)) (by rw [nI_clamp (n := (1 * l5)) (by omega)]; rfl) dX11_readies_204 ?_
      refine g_aload_n B dX11_readies_205 rfl 2 rfl ?_
      refine g_get B 0 15 fl_X11_118 rfl mf_15 dX11_readies_206 ?_
      refine g_ri (x' := 1) (by decide) ?_
      refine g_iconst (v := 2) B dX11_readies_209 (by decide) ?_
      refine g_icmp_ne (tgt := 244) B dX11_readies_210 (by decide) (fun c210 => ?_) (fun h => absurd h (by decide))
      refine g_iinc (v := nI (l5 + 1)) (lv' := [(5, .int (nI (l5 + 1))), (7, .int ((r0_f ((2 * l5) + 1)) >>> (pm_37 &&& 31))), (6, .int ((r0_f (2 * l5)) >>> (pm_37 &&& 31))), (0, .ref m), (1, .int 2), (2, .int jo), (3, .int 1), (4, .int 0)]) B dX11_readies_244 7 rfl (nI_add l5 1) (by decide) rfl ?_
      refine g_goto (tgt := 126) B dX11_readies_247 (by decide) ?_
      refine g_lvsub (lv' := [(0, .ref m), (1, .int 2), (2, .int jo), (3, .int 1), (4, .int 0), (5, .int (nI (l5 + 1)))]) [3, 4, 5, 6, 7, 0] rfl ?_
      exact ih (upd pr41_f (1 * l5) ((r0_f (2 * l5)) >>> (pm_37 &&& 31))) (l5 + 1) (by first | assumption | omega | decide | exact hCF _ (by omega)) (by omega) e_
set_option maxRecDepth 100000 in
def fn_wr_X11_readies_2 (m_1 : Nat) (m_36 : Nat) (r0_f : Nat → Int32) (r41_f : Nat → Int32) (jo : Int32) (β : Type) (k_ : Nat → Int32 → Nat → Int32 → (Nat → Int32) → β) : β := (fn_wr_X11_shiftOf m_1 r0_f β (fun zr_2713 => (fn_wr_X11_areTwins m_1 r0_f β (fun zr_2715 => (if zr_2715 = 0 then (if jo = 0 then (if m_36 ≤ 0 then (lf_wr_X11_readies_2_126 m_1 r0_f zr_2713 β (fun y_2726pr41_f y_2726l5 => (k_ (m_1 / 2) zr_2713 2 1 y_2726pr41_f)) ((600 - 0) + 1) r41_f 0) else (lf_wr_X11_readies_2_126_2727 m_1 r0_f zr_2713 β (fun y_2731pr41_f y_2731l5 => (k_ (m_1 / 2) zr_2713 2 9 y_2731pr41_f)) ((600 - 0) + 1) r41_f 0)) else (if m_36 ≤ 0 then (lf_wr_X11_readies_2_126_2735 m_1 r0_f zr_2713 β (fun y_2741pr41_f y_2741l5 => (k_ (m_1 / 2) zr_2713 2 5 y_2741pr41_f)) ((600 - 0) + 1) r41_f 0) else (lf_wr_X11_readies_2_126_2742 m_1 r0_f zr_2713 β (fun y_2748pr41_f y_2748l5 => (k_ (m_1 / 2) zr_2713 2 13 y_2748pr41_f)) ((600 - 0) + 1) r41_f 0))) else (if m_36 ≤ 0 then (lf_wr_X11_readies_2_126_2752 m_1 r0_f zr_2713 β (fun y_2756pr41_f y_2756l5 => (k_ (m_1 / 2) zr_2713 1 3 y_2756pr41_f)) ((600 - 0) + 1) r41_f 0) else (lf_wr_X11_readies_2_126_2757 m_1 r0_f zr_2713 β (fun y_2761pr41_f y_2761l5 => (k_ (m_1 / 2) zr_2713 1 11 y_2761pr41_f)) ((600 - 0) + 1) r41_f 0)))))))
set_option maxRecDepth 100000 in
theorem fn_wr_X11_readies_2_s {m_1 : Nat} {m_36 : Nat} {r0_f : Nat → Int32} {r41_f : Nat → Int32} {jo : Int32} {β : Type} {k_ : Nat → Int32 → Nat → Int32 → (Nat → Int32) → β} : fn_wr_X11_readies_2 m_1 m_36 r0_f r41_f jo β k_ = (fn_wr_X11_shiftOf m_1 r0_f β (fun zr_2713 => (fn_wr_X11_areTwins m_1 r0_f β (fun zr_2715 => (if zr_2715 = 0 then (if jo = 0 then (if m_36 ≤ 0 then (lf_wr_X11_readies_2_126 m_1 r0_f zr_2713 β (fun y_2726pr41_f y_2726l5 => (k_ (m_1 / 2) zr_2713 2 1 y_2726pr41_f)) ((600 - 0) + 1) r41_f 0) else (lf_wr_X11_readies_2_126_2727 m_1 r0_f zr_2713 β (fun y_2731pr41_f y_2731l5 => (k_ (m_1 / 2) zr_2713 2 9 y_2731pr41_f)) ((600 - 0) + 1) r41_f 0)) else (if m_36 ≤ 0 then (lf_wr_X11_readies_2_126_2735 m_1 r0_f zr_2713 β (fun y_2741pr41_f y_2741l5 => (k_ (m_1 / 2) zr_2713 2 5 y_2741pr41_f)) ((600 - 0) + 1) r41_f 0) else (lf_wr_X11_readies_2_126_2742 m_1 r0_f zr_2713 β (fun y_2748pr41_f y_2748l5 => (k_ (m_1 / 2) zr_2713 2 13 y_2748pr41_f)) ((600 - 0) + 1) r41_f 0))) else (if m_36 ≤ 0 then (lf_wr_X11_readies_2_126_2752 m_1 r0_f zr_2713 β (fun y_2756pr41_f y_2756l5 => (k_ (m_1 / 2) zr_2713 1 3 y_2756pr41_f)) ((600 - 0) + 1) r41_f 0) else (lf_wr_X11_readies_2_126_2757 m_1 r0_f zr_2713 β (fun y_2761pr41_f y_2761l5 => (k_ (m_1 / 2) zr_2713 1 11 y_2761pr41_f)) ((600 - 0) + 1) r41_f 0))))))) := rfl
set_option maxRecDepth 100000 in
set_option maxHeartbeats 4000000 in
theorem wr_X11_readies_2 (E : g_E) (m : Nat) (r : Nat → Nat) (m_1 : Nat) (m_4 : Nat) (m_9 : Nat) (m_10 : Nat) (m_14 : Nat) (m_15 : Nat) (m_25 : Int32) (m_26 : Int32) (m_27 : Int64) (m_28 : Nat) (m_29 : Nat) (m_31 : Nat) (m_32 : Nat) (m_33 : Nat) (m_35 : Nat) (m_36 : Nat) (m_37 : Int32) (m_38 : Nat) (m_39 : Int32) (m_40 : Int32) (m_42 : Nat) (r0_f : Nat → Int32) (r41_f : Nat → Int32) (jo : Int32) (h0 : m_1 / 2 ≤ 600) (hb0 : m_1 ≤ 1200) (hb1 : m_36 ≤ 65535) (hb2 : m_38 ≤ 65535) (hb3 : m_15 ≤ 2) : Ev E MX11_readies 2 43 0 0 [.ref m, .int 2, .int jo] [(m, .inr (11, mkF r m_1 m_4 m_9 m_10 m_14 m_15 m_25 m_26 m_27 m_28 m_29 m_31 m_32 m_33 m_35 m_36 m_37 m_38 m_39 m_40 m_42)), ((r 0), .inl (E.2.2.1 0, 1200, .inl r0_f)), ((r 41), .inl (E.2.2.1 0, 1200, .inl r41_f))] (fun v_ w_ => ∃ zm_38 : Nat, ∃ zm_37 : Int32, ∃ zm_15 : Nat, ∃ zm_39 : Int32, ∃ zr41_f : Nat → Int32, (zm_38 ≤ 65535) ∧ (zm_15 ≤ 2) ∧ (zm_38 ≤ 600) ∧ (1 ≤ zm_15) ∧ (∀ f, f < zm_38 → zm_15 * f + zm_15 ≤ 1200) ∧ (∀ (β : Type) (k_ : Nat → Int32 → Nat → Int32 → (Nat → Int32) → β), fn_wr_X11_readies_2 m_1 m_36 r0_f r41_f jo β k_ = k_ zm_38 zm_37 zm_15 zm_39 zr41_f) ∧ v_ = none ∧ w_ = [(m, .inr (11, mkF r m_1 m_4 m_9 m_10 m_14 zm_15 m_25 m_26 m_27 m_28 m_29 m_31 m_32 m_33 m_35 m_36 zm_37 zm_38 zm_39 m_40 m_42)), ((r 0), .inl (E.2.2.1 0, 1200, .inl r0_f)), ((r 41), .inl (E.2.2.1 0, 1200, .inl zr41_f))]) := by
  refine Ev.intro (by decide) (Nat.le_of_ble_eq_true rfl) ?_
  intro X B hr hI
  have B : Bd E X cX11_readies RX11 8 2 43 0 0 := B
  have hr : Rt E X none 0 0 (fun v_ w_ => ∃ zm_38 : Nat, ∃ zm_37 : Int32, ∃ zm_15 : Nat, ∃ zm_39 : Int32, ∃ zr41_f : Nat → Int32, (zm_38 ≤ 65535) ∧ (zm_15 ≤ 2) ∧ (zm_38 ≤ 600) ∧ (1 ≤ zm_15) ∧ (∀ f, f < zm_38 → zm_15 * f + zm_15 ≤ 1200) ∧ (∀ (β : Type) (k_ : Nat → Int32 → Nat → Int32 → (Nat → Int32) → β), fn_wr_X11_readies_2 m_1 m_36 r0_f r41_f jo β k_ = k_ zm_38 zm_37 zm_15 zm_39 zr41_f) ∧ v_ = none ∧ w_ = [(m, .inr (11, mkF r m_1 m_4 m_9 m_10 m_14 zm_15 m_25 m_26 m_27 m_28 m_29 m_31 m_32 m_33 m_35 m_36 zm_37 zm_38 zm_39 m_40 m_42)), ((r 0), .inl (E.2.2.1 0, 1200, .inl r0_f)), ((r 41), .inl (E.2.2.1 0, 1200, .inl zr41_f))]) := hr
  have e_ := fun (β : Type) (k_ : Nat → Int32 → Nat → Int32 → (Nat → Int32) → β) => fn_wr_X11_readies_2_s (β := β) (k_ := k_) (m_1 := m_1) (m_36 := m_36) (r0_f := r0_f) (r41_f := r41_f) (jo := jo)
  show G E X 8 [(m, .inr (11, mkF r m_1 m_4 m_9 m_10 m_14 m_15 m_25 m_26 m_27 m_28 m_29 m_31 m_32 m_33 m_35 m_36 m_37 m_38 m_39 m_40 m_42)), ((r 0), .inl (E.2.2.1 0, 1200, .inl r0_f)), ((r 41), .inl (E.2.2.1 0, 1200, .inl r41_f))] 0 0 [(0, .ref m), (1, .int 2), (2, .int jo)] 0 []
  refine g_aload_n B dX11_readies_0 rfl 0 rfl ?_
  refine g_aload_n B dX11_readies_1 rfl 0 rfl ?_
  refine g_get B 0 1 fl_X11_178 rfl mf_1 dX11_readies_2 ?_
  refine g_iload_n B dX11_readies_5 rfl 1 rfl ?_
  refine g_idiv B dX11_readies_6 (by decide) ?_
  refine g_ri (x' := nI (m_1 / 2)) (pk_div (a := m_1) (d := 2) (by omega) (by decide) (by decide)) ?_
  refine g_putM (ws' := [(m, .inr (11, mkF r m_1 m_4 m_9 m_10 m_14 m_15 m_25 m_26 m_27 m_28 m_29 m_31 m_32 m_33 m_35 m_36 m_37 (m_1 / 2) m_39 m_40 m_42)), ((r 0), .inl (E.2.2.1 0, 1200, .inl r0_f)), ((r 41), .inl (E.2.2.1 0, 1200, .inl r41_f))]) (fs' := mkF r m_1 m_4 m_9 m_10 m_14 m_15 m_25 m_26 m_27 m_28 m_29 m_31 m_32 m_33 m_35 m_36 m_37 (m_1 / 2) m_39 m_40 m_42) B 0 38 fl_X11_189 pf_X11_38 rfl (mlt (by decide)) rfl rfl (ms_38 rfl) rfl dX11_readies_7 ?_
  refine g_aload_n B dX11_readies_10 rfl 0 rfl ?_
  refine g_aload_n B dX11_readies_11 rfl 0 rfl ?_
  refine g_callV (st := [.ref m]) (As := []) (wr := [((r 41), .inl (E.2.2.1 0, 1200, .inl r41_f))]) (nc' := 0) (ns' := 0) B cl_X11_192 w_im_X11_shiftOf w_se_X11_shiftOf (wr_X11_shiftOf E m r m_1 m_4 m_9 m_10 m_14 m_15 m_25 m_26 m_27 m_28 m_29 m_31 m_32 m_33 m_35 m_36 m_37 (m_1 / 2) m_39 m_40 m_42 r0_f (by first | assumption | omega | decide | exact hCF _ (by omega))) rfl [0, 1] [2] rfl rfl (by decide) (by decide) (by decide) 0 rfl (fun q h => by cases h; rfl) rfl ⟨by decide, by decide⟩ rfl rfl (by decide) (by decide) rfl (Nat.le_of_ble_eq_true rfl) dX11_readies_12 (fun v w hq => ?_)
  obtain ⟨zr_2713, hz_2714, rfl, rfl⟩ := hq
  replace e_ := fun β k_ => (e_ β k_).trans (hz_2714 β _)
  show G E X 8 [((r 41), .inl (E.2.2.1 0, 1200, .inl r41_f)), (m, .inr (11, mkF r m_1 m_4 m_9 m_10 m_14 m_15 m_25 m_26 m_27 m_28 m_29 m_31 m_32 m_33 m_35 m_36 m_37 (m_1 / 2) m_39 m_40 m_42)), ((r 0), .inl (E.2.2.1 0, 1200, .inl r0_f))] 0 0 [(0, .ref m), (1, .int 2), (2, .int jo)] 15 [.int zr_2713, .ref m]
  refine g_putM (ws' := [((r 41), .inl (E.2.2.1 0, 1200, .inl r41_f)), (m, .inr (11, mkF r m_1 m_4 m_9 m_10 m_14 m_15 m_25 m_26 m_27 m_28 m_29 m_31 m_32 m_33 m_35 m_36 zr_2713 (m_1 / 2) m_39 m_40 m_42)), ((r 0), .inl (E.2.2.1 0, 1200, .inl r0_f))]) (fs' := mkF r m_1 m_4 m_9 m_10 m_14 m_15 m_25 m_26 m_27 m_28 m_29 m_31 m_32 m_33 m_35 m_36 zr_2713 (m_1 / 2) m_39 m_40 m_42) B 1 37 fl_X11_196 pf_X11_37 rfl (mlt (by decide)) rfl rfl (ms_37 rfl) rfl dX11_readies_15 ?_
  refine g_iload_n B dX11_readies_18 rfl 1 rfl ?_
  refine g_iconst (v := 2) B dX11_readies_19 (by decide) ?_
  refine g_icmp_ne (tgt := 34) B dX11_readies_20 (by decide) (fun h => absurd (by decide) h) (fun c20 => ?_)
  refine g_aload_n B dX11_readies_23 rfl 0 rfl ?_
  refine g_callV (st := []) (As := []) (wr := [((r 41), .inl (E.2.2.1 0, 1200, .inl r41_f))]) (nc' := 0) (ns' := 0) B cl_X11_199 w_im_X11_areTwins w_se_X11_areTwins (wr_X11_areTwins E m r m_1 m_4 m_9 m_10 m_14 m_15 m_25 m_26 m_27 m_28 m_29 m_31 m_32 m_33 m_35 m_36 zr_2713 (m_1 / 2) m_39 m_40 m_42 r0_f (by first | assumption | omega | decide | exact hCF _ (by omega))) rfl [1, 2] [0] rfl rfl (by decide) (by decide) (by decide) 0 rfl (fun q h => by cases h; rfl) rfl ⟨by decide, by decide⟩ rfl rfl (by decide) (by decide) rfl (Nat.le_of_ble_eq_true rfl) dX11_readies_24 (fun v w hq => ?_)
  obtain ⟨zr_2715, hf_2716, hz_2717, rfl, rfl⟩ := hq
  replace e_ := fun β k_ => (e_ β k_).trans (hz_2717 β _)
  show G E X 8 [((r 41), .inl (E.2.2.1 0, 1200, .inl r41_f)), (m, .inr (11, mkF r m_1 m_4 m_9 m_10 m_14 m_15 m_25 m_26 m_27 m_28 m_29 m_31 m_32 m_33 m_35 m_36 zr_2713 (m_1 / 2) m_39 m_40 m_42)), ((r 0), .inl (E.2.2.1 0, 1200, .inl r0_f))] 0 0 [(0, .ref m), (1, .int 2), (2, .int jo)] 27 [.int zr_2715]
  refine g_if_eq (tgt := 34) B dX11_readies_27 (by decide) (fun c27_2718 => ?_) (fun c27_2718 => ?_)
  · replace e_ := fun β k_ => (e_ β k_).trans (if_pos c27_2718)
    refine g_iconst (v := 0) B dX11_readies_34 (by decide) ?_
    refine g_istore_n (lv' := [(3, .int 0), (0, .ref m), (1, .int 2), (2, .int jo)]) B dX11_readies_35 rfl (by decide) rfl ?_
    refine g_iload_n B dX11_readies_36 rfl 2 rfl ?_
    refine g_iconst (v := 2) B dX11_readies_37 (by decide) ?_
    refine g_icmp_ne (tgt := 53) B dX11_readies_38 (by decide) (fun h => absurd (by decide) h) (fun c38 => ?_)
    refine g_iload_n B dX11_readies_41 rfl 0 rfl ?_
    refine g_if_ne (tgt := 53) B dX11_readies_42 (by decide) (fun h => absurd (by decide) h) (fun c42 => ?_)
    refine g_iload_n B dX11_readies_45 rfl 3 rfl ?_
    refine g_if_eq (tgt := 53) B dX11_readies_46 (by decide) (fun c46_2719 => ?_) (fun c46_2719 => ?_)
    · replace e_ := fun β k_ => (e_ β k_).trans (if_pos c46_2719)
      refine g_iconst (v := 0) B dX11_readies_53 (by decide) ?_
      refine g_istore (lv' := [(4, .int 0), (3, .int 0), (0, .ref m), (1, .int 2), (2, .int jo)]) B dX11_readies_54 (by decide) rfl ?_
      refine g_aload_n B dX11_readies_56 rfl 2 rfl ?_
      refine g_iload_n B dX11_readies_57 rfl 3 rfl ?_
      refine g_iconst (v := 2) B dX11_readies_58 (by decide) ?_
      refine g_icmp_ne (tgt := 70) B dX11_readies_59 (by decide) (fun h => absurd (by decide) h) (fun c59 => ?_)
      refine g_iload_n B dX11_readies_62 rfl 1 rfl ?_
      refine g_if_ne (tgt := 70) B dX11_readies_63 (by decide) (fun h => absurd (by decide) h) (fun c63 => ?_)
      refine g_iconst (v := 2) B dX11_readies_66 (by decide) ?_
      refine g_goto (tgt := 71) B dX11_readies_67 (by decide) ?_
      refine g_putM (ws' := [((r 41), .inl (E.2.2.1 0, 1200, .inl r41_f)), (m, .inr (11, mkF r m_1 m_4 m_9 m_10 m_14 2 m_25 m_26 m_27 m_28 m_29 m_31 m_32 m_33 m_35 m_36 zr_2713 (m_1 / 2) m_39 m_40 m_42)), ((r 0), .inl (E.2.2.1 0, 1200, .inl r0_f))]) (fs' := mkF r m_1 m_4 m_9 m_10 m_14 2 m_25 m_26 m_27 m_28 m_29 m_31 m_32 m_33 m_35 m_36 zr_2713 (m_1 / 2) m_39 m_40 m_42) B 1 15 fl_X11_118 pf_X11_15 rfl (mlt (by decide)) rfl rfl (ms_15 (by decide)) rfl dX11_readies_71 ?_
      refine g_aload_n B dX11_readies_74 rfl 2 rfl ?_
      refine g_iload_n B dX11_readies_75 rfl 3 rfl ?_
      refine g_iconst (v := 2) B dX11_readies_76 (by decide) ?_
      refine g_icmp_ne (tgt := 84) B dX11_readies_77 (by decide) (fun h => absurd (by decide) h) (fun c77 => ?_)
      refine g_iconst (v := 1) B dX11_readies_80 (by decide) ?_
      refine g_goto (tgt := 85) B dX11_readies_81 (by decide) ?_
      refine g_iload_n B dX11_readies_85 rfl 1 rfl ?_
      refine g_if_eq (tgt := 93) B dX11_readies_86 (by decide) (fun c86 => ?_) (fun h => absurd (by decide) h)
      refine g_iconst (v := 0) B dX11_readies_93 (by decide) ?_
      refine g_ior B dX11_readies_94 ?_
      refine g_ri (x' := 1) (by decide) ?_
      refine g_iload B dX11_readies_95 0 rfl ?_
      refine g_if_eq (tgt := 104) B dX11_readies_97 (by decide) (fun c97 => ?_) (fun h => absurd (by decide) h)
      refine g_iconst (v := 0) B dX11_readies_104 (by decide) ?_
      refine g_ior B dX11_readies_105 ?_
      refine g_ri (x' := 1) (by decide) ?_
      refine g_aload_n B dX11_readies_106 rfl 2 rfl ?_
      refine g_get B 1 36 fl_X11_203 rfl mf_36 dX11_readies_107 ?_
      refine g_if_le (tgt := 118) B dX11_readies_110 (by decide) (fun c110_2720 => ?_) (fun c110_2720 => ?_)
      · have hn_2721 : m_36 ≤ 0 := (nI_leI (a := m_36) (b := 0) (by omega) (by omega)).mp c110_2720
        replace e_ := fun β k_ => (e_ β k_).trans (if_pos hn_2721)
        refine g_iconst (v := 0) B dX11_readies_118 (by decide) ?_
        refine g_ior B dX11_readies_119 ?_
        refine g_ri (x' := 1) (by decide) ?_
        refine g_putM (ws' := [((r 41), .inl (E.2.2.1 0, 1200, .inl r41_f)), (m, .inr (11, mkF r m_1 m_4 m_9 m_10 m_14 2 m_25 m_26 m_27 m_28 m_29 m_31 m_32 m_33 m_35 m_36 zr_2713 (m_1 / 2) 1 m_40 m_42)), ((r 0), .inl (E.2.2.1 0, 1200, .inl r0_f))]) (fs' := mkF r m_1 m_4 m_9 m_10 m_14 2 m_25 m_26 m_27 m_28 m_29 m_31 m_32 m_33 m_35 m_36 zr_2713 (m_1 / 2) 1 m_40 m_42) B 1 39 fl_X11_206 pf_X11_39 rfl (mlt (by decide)) rfl rfl (ms_39 rfl) rfl dX11_readies_120 ?_
        refine g_iconst (v := 0) B dX11_readies_123 (by decide) ?_
        refine g_istore (lv' := [(5, .int 0), (4, .int 0), (3, .int 0), (0, .ref m), (1, .int 2), (2, .int jo)]) B dX11_readies_124 (by decide) rfl ?_
        refine g_sub (ws' := [(m, .inr (11, mkF r m_1 m_4 m_9 m_10 m_14 2 m_25 m_26 m_27 m_28 m_29 m_31 m_32 m_33 m_35 m_36 zr_2713 (m_1 / 2) 1 m_40 m_42)), ((r 0), .inl (E.2.2.1 0, 1200, .inl r0_f)), ((r 41), .inl (E.2.2.1 0, 1200, .inl r41_f))]) [1, 2, 0] (by decide) rfl ?_
        refine g_lvsub (lv' := [(0, .ref m), (1, .int 2), (2, .int jo), (3, .int 0), (4, .int 0), (5, .int 0)]) [3, 4, 5, 2, 1, 0] rfl ?_
        refine lp_wr_X11_readies_2_126 E m r m_1 m_4 m_9 m_10 m_14 m_15 m_25 m_26 m_27 m_28 m_29 m_31 m_32 m_33 m_35 m_36 m_37 m_38 m_39 m_40 m_42 r0_f r41_f jo h0 hb0 hb1 hb2 hb3 zr_2713  _ B hr (fun y_2726pr41_f y_2726l5 y_2726k0 e_ => ?_) _ r41_f 0 (by first | assumption | omega | decide | exact hCF _ (by omega)) (Nat.lt_succ_self _) e_
        show G E X 8 [(m, .inr (11, mkF r m_1 m_4 m_9 m_10 m_14 2 m_25 m_26 m_27 m_28 m_29 m_31 m_32 m_33 m_35 m_36 zr_2713 (m_1 / 2) 1 m_40 m_42)), ((r 0), .inl (E.2.2.1 0, 1200, .inl r0_f)), ((r 41), .inl (E.2.2.1 0, 1200, .inl y_2726pr41_f))] 0 0 [(0, .ref m), (1, .int 2), (2, .int jo), (3, .int 0), (4, .int 0), (5, .int (nI y_2726l5))] 250 []
        exact g_vret B hr dX11_readies_250 (by decide) (by decide) ⟨(m_1 / 2), zr_2713, 2, 1, y_2726pr41_f, (by first | assumption | omega | decide | exact hCF _ (by omega)), (by first | assumption | omega | decide | exact hCF _ (by omega)), (by first | assumption | omega | decide | exact hCF _ (by omega)), (by first | assumption | omega | decide | exact hCF _ (by omega)), (by intro f hf; omega), e_, rfl, rfl⟩
      · have hn_2722 : 0 < m_36 := Nat.not_le.mp (fun q => c110_2720 ((nI_leI (a := m_36) (b := 0) (by omega) (by omega)).mpr q))
        replace e_ := fun β k_ => (e_ β k_).trans (if_neg (Nat.not_le.mpr hn_2722))
        refine g_bipush (v := 8) B dX11_readies_113 (by decide) ?_
        refine g_goto (tgt := 119) B dX11_readies_115 (by decide) ?_
        refine g_ior B dX11_readies_119 ?_
        refine g_ri (x' := 9) (by decide) ?_
        refine g_putM (ws' := [((r 41), .inl (E.2.2.1 0, 1200, .inl r41_f)), (m, .inr (11, mkF r m_1 m_4 m_9 m_10 m_14 2 m_25 m_26 m_27 m_28 m_29 m_31 m_32 m_33 m_35 m_36 zr_2713 (m_1 / 2) 9 m_40 m_42)), ((r 0), .inl (E.2.2.1 0, 1200, .inl r0_f))]) (fs' := mkF r m_1 m_4 m_9 m_10 m_14 2 m_25 m_26 m_27 m_28 m_29 m_31 m_32 m_33 m_35 m_36 zr_2713 (m_1 / 2) 9 m_40 m_42) B 1 39 fl_X11_206 pf_X11_39 rfl (mlt (by decide)) rfl rfl (ms_39 rfl) rfl dX11_readies_120 ?_
        refine g_iconst (v := 0) B dX11_readies_123 (by decide) ?_
        refine g_istore (lv' := [(5, .int 0), (4, .int 0), (3, .int 0), (0, .ref m), (1, .int 2), (2, .int jo)]) B dX11_readies_124 (by decide) rfl ?_
        refine g_sub (ws' := [(m, .inr (11, mkF r m_1 m_4 m_9 m_10 m_14 2 m_25 m_26 m_27 m_28 m_29 m_31 m_32 m_33 m_35 m_36 zr_2713 (m_1 / 2) 9 m_40 m_42)), ((r 0), .inl (E.2.2.1 0, 1200, .inl r0_f)), ((r 41), .inl (E.2.2.1 0, 1200, .inl r41_f))]) [1, 2, 0] (by decide) rfl ?_
        refine g_lvsub (lv' := [(0, .ref m), (1, .int 2), (2, .int jo), (3, .int 0), (4, .int 0), (5, .int 0)]) [3, 4, 5, 2, 1, 0] rfl ?_
        refine lp_wr_X11_readies_2_126_2727 E m r m_1 m_4 m_9 m_10 m_14 m_15 m_25 m_26 m_27 m_28 m_29 m_31 m_32 m_33 m_35 m_36 m_37 m_38 m_39 m_40 m_42 r0_f r41_f jo h0 hb0 hb1 hb2 hb3 zr_2713  _ B hr (fun y_2731pr41_f y_2731l5 y_2731k0 e_ => ?_) _ r41_f 0 (by first | assumption | omega | decide | exact hCF _ (by omega)) (Nat.lt_succ_self _) e_
        show G E X 8 [(m, .inr (11, mkF r m_1 m_4 m_9 m_10 m_14 2 m_25 m_26 m_27 m_28 m_29 m_31 m_32 m_33 m_35 m_36 zr_2713 (m_1 / 2) 9 m_40 m_42)), ((r 0), .inl (E.2.2.1 0, 1200, .inl r0_f)), ((r 41), .inl (E.2.2.1 0, 1200, .inl y_2731pr41_f))] 0 0 [(0, .ref m), (1, .int 2), (2, .int jo), (3, .int 0), (4, .int 0), (5, .int (nI y_2731l5))] 250 []
        exact g_vret B hr dX11_readies_250 (by decide) (by decide) ⟨(m_1 / 2), zr_2713, 2, 9, y_2731pr41_f, (by first | assumption | omega | decide | exact hCF _ (by omega)), (by first | assumption | omega | decide | exact hCF _ (by omega)), (by first | assumption | omega | decide | exact hCF _ (by omega)), (by first | assumption | omega | decide | exact hCF _ (by omega)), (by intro f hf; omega), e_, rfl, rfl⟩
    · replace e_ := fun β k_ => (e_ β k_).trans (if_neg c46_2719)
      refine g_iconst (v := 1) B dX11_readies_49 (by decide) ?_
      refine g_goto (tgt := 54) B dX11_readies_50 (by decide) ?_
      refine g_istore (lv' := [(4, .int 1), (3, .int 0), (0, .ref m), (1, .int 2), (2, .int jo)]) B dX11_readies_54 (by decide) rfl ?_
      refine g_aload_n B dX11_readies_56 rfl 2 rfl ?_
      refine g_iload_n B dX11_readies_57 rfl 3 rfl ?_
      refine g_iconst (v := 2) B dX11_readies_58 (by decide) ?_
      refine g_icmp_ne (tgt := 70) B dX11_readies_59 (by decide) (fun h => absurd (by decide) h) (fun c59 => ?_)
      refine g_iload_n B dX11_readies_62 rfl 1 rfl ?_
      refine g_if_ne (tgt := 70) B dX11_readies_63 (by decide) (fun h => absurd (by decide) h) (fun c63 => ?_)
      refine g_iconst (v := 2) B dX11_readies_66 (by decide) ?_
      refine g_goto (tgt := 71) B dX11_readies_67 (by decide) ?_
      refine g_putM (ws' := [((r 41), .inl (E.2.2.1 0, 1200, .inl r41_f)), (m, .inr (11, mkF r m_1 m_4 m_9 m_10 m_14 2 m_25 m_26 m_27 m_28 m_29 m_31 m_32 m_33 m_35 m_36 zr_2713 (m_1 / 2) m_39 m_40 m_42)), ((r 0), .inl (E.2.2.1 0, 1200, .inl r0_f))]) (fs' := mkF r m_1 m_4 m_9 m_10 m_14 2 m_25 m_26 m_27 m_28 m_29 m_31 m_32 m_33 m_35 m_36 zr_2713 (m_1 / 2) m_39 m_40 m_42) B 1 15 fl_X11_118 pf_X11_15 rfl (mlt (by decide)) rfl rfl (ms_15 (by decide)) rfl dX11_readies_71 ?_
      refine g_aload_n B dX11_readies_74 rfl 2 rfl ?_
      refine g_iload_n B dX11_readies_75 rfl 3 rfl ?_
      refine g_iconst (v := 2) B dX11_readies_76 (by decide) ?_
      refine g_icmp_ne (tgt := 84) B dX11_readies_77 (by decide) (fun h => absurd (by decide) h) (fun c77 => ?_)
      refine g_iconst (v := 1) B dX11_readies_80 (by decide) ?_
      refine g_goto (tgt := 85) B dX11_readies_81 (by decide) ?_
      refine g_iload_n B dX11_readies_85 rfl 1 rfl ?_
      refine g_if_eq (tgt := 93) B dX11_readies_86 (by decide) (fun c86 => ?_) (fun h => absurd (by decide) h)
      refine g_iconst (v := 0) B dX11_readies_93 (by decide) ?_
      refine g_ior B dX11_readies_94 ?_
      refine g_ri (x' := 1) (by decide) ?_
      refine g_iload B dX11_readies_95 0 rfl ?_
      refine g_if_eq (tgt := 104) B dX11_readies_97 (by decide) (fun h => absurd h (by decide)) (fun c97 => ?_)
      refine g_iconst (v := 4) B dX11_readies_100 (by decide) ?_
      refine g_goto (tgt := 105) B dX11_readies_101 (by decide) ?_
      refine g_ior B dX11_readies_105 ?_
      refine g_ri (x' := 5) (by decide) ?_
      refine g_aload_n B dX11_readies_106 rfl 2 rfl ?_
      refine g_get B 1 36 fl_X11_203 rfl mf_36 dX11_readies_107 ?_
      refine g_if_le (tgt := 118) B dX11_readies_110 (by decide) (fun c110_2732 => ?_) (fun c110_2732 => ?_)
      · have hn_2733 : m_36 ≤ 0 := (nI_leI (a := m_36) (b := 0) (by omega) (by omega)).mp c110_2732
        replace e_ := fun β k_ => (e_ β k_).trans (if_pos hn_2733)
        refine g_iconst (v := 0) B dX11_readies_118 (by decide) ?_
        refine g_ior B dX11_readies_119 ?_
        refine g_ri (x' := 5) (by decide) ?_
        refine g_putM (ws' := [((r 41), .inl (E.2.2.1 0, 1200, .inl r41_f)), (m, .inr (11, mkF r m_1 m_4 m_9 m_10 m_14 2 m_25 m_26 m_27 m_28 m_29 m_31 m_32 m_33 m_35 m_36 zr_2713 (m_1 / 2) 5 m_40 m_42)), ((r 0), .inl (E.2.2.1 0, 1200, .inl r0_f))]) (fs' := mkF r m_1 m_4 m_9 m_10 m_14 2 m_25 m_26 m_27 m_28 m_29 m_31 m_32 m_33 m_35 m_36 zr_2713 (m_1 / 2) 5 m_40 m_42) B 1 39 fl_X11_206 pf_X11_39 rfl (mlt (by decide)) rfl rfl (ms_39 rfl) rfl dX11_readies_120 ?_
        refine g_iconst (v := 0) B dX11_readies_123 (by decide) ?_
        refine g_istore (lv' := [(5, .int 0), (4, .int 1), (3, .int 0), (0, .ref m), (1, .int 2), (2, .int jo)]) B dX11_readies_124 (by decide) rfl ?_
        refine g_sub (ws' := [(m, .inr (11, mkF r m_1 m_4 m_9 m_10 m_14 2 m_25 m_26 m_27 m_28 m_29 m_31 m_32 m_33 m_35 m_36 zr_2713 (m_1 / 2) 5 m_40 m_42)), ((r 0), .inl (E.2.2.1 0, 1200, .inl r0_f)), ((r 41), .inl (E.2.2.1 0, 1200, .inl r41_f))]) [1, 2, 0] (by decide) rfl ?_
        refine g_lvsub (lv' := [(0, .ref m), (1, .int 2), (2, .int jo), (3, .int 0), (4, .int 1), (5, .int 0)]) [3, 4, 5, 2, 1, 0] rfl ?_
        refine lp_wr_X11_readies_2_126_2735 E m r m_1 m_4 m_9 m_10 m_14 m_15 m_25 m_26 m_27 m_28 m_29 m_31 m_32 m_33 m_35 m_36 m_37 m_38 m_39 m_40 m_42 r0_f r41_f jo h0 hb0 hb1 hb2 hb3 zr_2713  _ B hr (fun y_2741pr41_f y_2741l5 y_2741k0 e_ => ?_) _ r41_f 0 (by first | assumption | omega | decide | exact hCF _ (by omega)) (Nat.lt_succ_self _) e_
        show G E X 8 [(m, .inr (11, mkF r m_1 m_4 m_9 m_10 m_14 2 m_25 m_26 m_27 m_28 m_29 m_31 m_32 m_33 m_35 m_36 zr_2713 (m_1 / 2) 5 m_40 m_42)), ((r 0), .inl (E.2.2.1 0, 1200, .inl r0_f)), ((r 41), .inl (E.2.2.1 0, 1200, .inl y_2741pr41_f))] 0 0 [(0, .ref m), (1, .int 2), (2, .int jo), (3, .int 0), (4, .int 1), (5, .int (nI y_2741l5))] 250 []
        exact g_vret B hr dX11_readies_250 (by decide) (by decide) ⟨(m_1 / 2), zr_2713, 2, 5, y_2741pr41_f, (by first | assumption | omega | decide | exact hCF _ (by omega)), (by first | assumption | omega | decide | exact hCF _ (by omega)), (by first | assumption | omega | decide | exact hCF _ (by omega)), (by first | assumption | omega | decide | exact hCF _ (by omega)), (by intro f hf; omega), e_, rfl, rfl⟩
      · have hn_2734 : 0 < m_36 := Nat.not_le.mp (fun q => c110_2732 ((nI_leI (a := m_36) (b := 0) (by omega) (by omega)).mpr q))
        replace e_ := fun β k_ => (e_ β k_).trans (if_neg (Nat.not_le.mpr hn_2734))
        refine g_bipush (v := 8) B dX11_readies_113 (by decide) ?_
        refine g_goto (tgt := 119) B dX11_readies_115 (by decide) ?_
        refine g_ior B dX11_readies_119 ?_
        refine g_ri (x' := 13) (by decide) ?_
        refine g_putM (ws' := [((r 41), .inl (E.2.2.1 0, 1200, .inl r41_f)), (m, .inr (11, mkF r m_1 m_4 m_9 m_10 m_14 2 m_25 m_26 m_27 m_28 m_29 m_31 m_32 m_33 m_35 m_36 zr_2713 (m_1 / 2) 13 m_40 m_42)), ((r 0), .inl (E.2.2.1 0, 1200, .inl r0_f))]) (fs' := mkF r m_1 m_4 m_9 m_10 m_14 2 m_25 m_26 m_27 m_28 m_29 m_31 m_32 m_33 m_35 m_36 zr_2713 (m_1 / 2) 13 m_40 m_42) B 1 39 fl_X11_206 pf_X11_39 rfl (mlt (by decide)) rfl rfl (ms_39 rfl) rfl dX11_readies_120 ?_
        refine g_iconst (v := 0) B dX11_readies_123 (by decide) ?_
        refine g_istore (lv' := [(5, .int 0), (4, .int 1), (3, .int 0), (0, .ref m), (1, .int 2), (2, .int jo)]) B dX11_readies_124 (by decide) rfl ?_
        refine g_sub (ws' := [(m, .inr (11, mkF r m_1 m_4 m_9 m_10 m_14 2 m_25 m_26 m_27 m_28 m_29 m_31 m_32 m_33 m_35 m_36 zr_2713 (m_1 / 2) 13 m_40 m_42)), ((r 0), .inl (E.2.2.1 0, 1200, .inl r0_f)), ((r 41), .inl (E.2.2.1 0, 1200, .inl r41_f))]) [1, 2, 0] (by decide) rfl ?_
        refine g_lvsub (lv' := [(0, .ref m), (1, .int 2), (2, .int jo), (3, .int 0), (4, .int 1), (5, .int 0)]) [3, 4, 5, 2, 1, 0] rfl ?_
        refine lp_wr_X11_readies_2_126_2742 E m r m_1 m_4 m_9 m_10 m_14 m_15 m_25 m_26 m_27 m_28 m_29 m_31 m_32 m_33 m_35 m_36 m_37 m_38 m_39 m_40 m_42 r0_f r41_f jo h0 hb0 hb1 hb2 hb3 zr_2713  _ B hr (fun y_2748pr41_f y_2748l5 y_2748k0 e_ => ?_) _ r41_f 0 (by first | assumption | omega | decide | exact hCF _ (by omega)) (Nat.lt_succ_self _) e_
        show G E X 8 [(m, .inr (11, mkF r m_1 m_4 m_9 m_10 m_14 2 m_25 m_26 m_27 m_28 m_29 m_31 m_32 m_33 m_35 m_36 zr_2713 (m_1 / 2) 13 m_40 m_42)), ((r 0), .inl (E.2.2.1 0, 1200, .inl r0_f)), ((r 41), .inl (E.2.2.1 0, 1200, .inl y_2748pr41_f))] 0 0 [(0, .ref m), (1, .int 2), (2, .int jo), (3, .int 0), (4, .int 1), (5, .int (nI y_2748l5))] 250 []
        exact g_vret B hr dX11_readies_250 (by decide) (by decide) ⟨(m_1 / 2), zr_2713, 2, 13, y_2748pr41_f, (by first | assumption | omega | decide | exact hCF _ (by omega)), (by first | assumption | omega | decide | exact hCF _ (by omega)), (by first | assumption | omega | decide | exact hCF _ (by omega)), (by first | assumption | omega | decide | exact hCF _ (by omega)), (by intro f hf; omega), e_, rfl, rfl⟩
  · replace e_ := fun β k_ => (e_ β k_).trans (if_neg c27_2718)
    refine g_iconst (v := 1) B dX11_readies_30 (by decide) ?_
    refine g_goto (tgt := 35) B dX11_readies_31 (by decide) ?_
    refine g_istore_n (lv' := [(3, .int 1), (0, .ref m), (1, .int 2), (2, .int jo)]) B dX11_readies_35 rfl (by decide) rfl ?_
    refine g_iload_n B dX11_readies_36 rfl 2 rfl ?_
    refine g_iconst (v := 2) B dX11_readies_37 (by decide) ?_
    refine g_icmp_ne (tgt := 53) B dX11_readies_38 (by decide) (fun h => absurd (by decide) h) (fun c38 => ?_)
    refine g_iload_n B dX11_readies_41 rfl 0 rfl ?_
    refine g_if_ne (tgt := 53) B dX11_readies_42 (by decide) (fun c42 => ?_) (fun h => absurd h (by decide))
    refine g_iconst (v := 0) B dX11_readies_53 (by decide) ?_
    refine g_istore (lv' := [(4, .int 0), (3, .int 1), (0, .ref m), (1, .int 2), (2, .int jo)]) B dX11_readies_54 (by decide) rfl ?_
    refine g_aload_n B dX11_readies_56 rfl 2 rfl ?_
    refine g_iload_n B dX11_readies_57 rfl 3 rfl ?_
    refine g_iconst (v := 2) B dX11_readies_58 (by decide) ?_
    refine g_icmp_ne (tgt := 70) B dX11_readies_59 (by decide) (fun h => absurd (by decide) h) (fun c59 => ?_)
    refine g_iload_n B dX11_readies_62 rfl 1 rfl ?_
    refine g_if_ne (tgt := 70) B dX11_readies_63 (by decide) (fun c63 => ?_) (fun h => absurd h (by decide))
    refine g_iconst (v := 1) B dX11_readies_70 (by decide) ?_
    refine g_putM (ws' := [((r 41), .inl (E.2.2.1 0, 1200, .inl r41_f)), (m, .inr (11, mkF r m_1 m_4 m_9 m_10 m_14 1 m_25 m_26 m_27 m_28 m_29 m_31 m_32 m_33 m_35 m_36 zr_2713 (m_1 / 2) m_39 m_40 m_42)), ((r 0), .inl (E.2.2.1 0, 1200, .inl r0_f))]) (fs' := mkF r m_1 m_4 m_9 m_10 m_14 1 m_25 m_26 m_27 m_28 m_29 m_31 m_32 m_33 m_35 m_36 zr_2713 (m_1 / 2) m_39 m_40 m_42) B 1 15 fl_X11_118 pf_X11_15 rfl (mlt (by decide)) rfl rfl (ms_15 (by decide)) rfl dX11_readies_71 ?_
    refine g_aload_n B dX11_readies_74 rfl 2 rfl ?_
    refine g_iload_n B dX11_readies_75 rfl 3 rfl ?_
    refine g_iconst (v := 2) B dX11_readies_76 (by decide) ?_
    refine g_icmp_ne (tgt := 84) B dX11_readies_77 (by decide) (fun h => absurd (by decide) h) (fun c77 => ?_)
    refine g_iconst (v := 1) B dX11_readies_80 (by decide) ?_
    refine g_goto (tgt := 85) B dX11_readies_81 (by decide) ?_
    refine g_iload_n B dX11_readies_85 rfl 1 rfl ?_
    refine g_if_eq (tgt := 93) B dX11_readies_86 (by decide) (fun h => absurd h (by decide)) (fun c86 => ?_)
    refine g_iconst (v := 2) B dX11_readies_89 (by decide) ?_
    refine g_goto (tgt := 94) B dX11_readies_90 (by decide) ?_
    refine g_ior B dX11_readies_94 ?_
    refine g_ri (x' := 3) (by decide) ?_
    refine g_iload B dX11_readies_95 0 rfl ?_
    refine g_if_eq (tgt := 104) B dX11_readies_97 (by decide) (fun c97 => ?_) (fun h => absurd (by decide) h)
    refine g_iconst (v := 0) B dX11_readies_104 (by decide) ?_
    refine g_ior B dX11_readies_105 ?_
    refine g_ri (x' := 3) (by decide) ?_
    refine g_aload_n B dX11_readies_106 rfl 2 rfl ?_
    refine g_get B 1 36 fl_X11_203 rfl mf_36 dX11_readies_107 ?_
    refine g_if_le (tgt := 118) B dX11_readies_110 (by decide) (fun c110_2749 => ?_) (fun c110_2749 => ?_)
    · have hn_2750 : m_36 ≤ 0 := (nI_leI (a := m_36) (b := 0) (by omega) (by omega)).mp c110_2749
      replace e_ := fun β k_ => (e_ β k_).trans (if_pos hn_2750)
      refine g_iconst (v := 0) B dX11_readies_118 (by decide) ?_
      refine g_ior B dX11_readies_119 ?_
      refine g_ri (x' := 3) (by decide) ?_
      refine g_putM (ws' := [((r 41), .inl (E.2.2.1 0, 1200, .inl r41_f)), (m, .inr (11, mkF r m_1 m_4 m_9 m_10 m_14 1 m_25 m_26 m_27 m_28 m_29 m_31 m_32 m_33 m_35 m_36 zr_2713 (m_1 / 2) 3 m_40 m_42)), ((r 0), .inl (E.2.2.1 0, 1200, .inl r0_f))]) (fs' := mkF r m_1 m_4 m_9 m_10 m_14 1 m_25 m_26 m_27 m_28 m_29 m_31 m_32 m_33 m_35 m_36 zr_2713 (m_1 / 2) 3 m_40 m_42) B 1 39 fl_X11_206 pf_X11_39 rfl (mlt (by decide)) rfl rfl (ms_39 rfl) rfl dX11_readies_120 ?_
      refine g_iconst (v := 0) B dX11_readies_123 (by decide) ?_
      refine g_istore (lv' := [(5, .int 0), (4, .int 0), (3, .int 1), (0, .ref m), (1, .int 2), (2, .int jo)]) B dX11_readies_124 (by decide) rfl ?_
      refine g_sub (ws' := [(m, .inr (11, mkF r m_1 m_4 m_9 m_10 m_14 1 m_25 m_26 m_27 m_28 m_29 m_31 m_32 m_33 m_35 m_36 zr_2713 (m_1 / 2) 3 m_40 m_42)), ((r 0), .inl (E.2.2.1 0, 1200, .inl r0_f)), ((r 41), .inl (E.2.2.1 0, 1200, .inl r41_f))]) [1, 2, 0] (by decide) rfl ?_
      refine g_lvsub (lv' := [(0, .ref m), (1, .int 2), (2, .int jo), (3, .int 1), (4, .int 0), (5, .int 0)]) [3, 4, 5, 2, 1, 0] rfl ?_
      refine lp_wr_X11_readies_2_126_2752 E m r m_1 m_4 m_9 m_10 m_14 m_15 m_25 m_26 m_27 m_28 m_29 m_31 m_32 m_33 m_35 m_36 m_37 m_38 m_39 m_40 m_42 r0_f r41_f jo h0 hb0 hb1 hb2 hb3 zr_2713  _ B hr (fun y_2756pr41_f y_2756l5 y_2756k0 e_ => ?_) _ r41_f 0 (by first | assumption | omega | decide | exact hCF _ (by omega)) (Nat.lt_succ_self _) e_
      show G E X 8 [(m, .inr (11, mkF r m_1 m_4 m_9 m_10 m_14 1 m_25 m_26 m_27 m_28 m_29 m_31 m_32 m_33 m_35 m_36 zr_2713 (m_1 / 2) 3 m_40 m_42)), ((r 0), .inl (E.2.2.1 0, 1200, .inl r0_f)), ((r 41), .inl (E.2.2.1 0, 1200, .inl y_2756pr41_f))] 0 0 [(0, .ref m), (1, .int 2), (2, .int jo), (3, .int 1), (4, .int 0), (5, .int (nI y_2756l5))] 250 []
      exact g_vret B hr dX11_readies_250 (by decide) (by decide) ⟨(m_1 / 2), zr_2713, 1, 3, y_2756pr41_f, (by first | assumption | omega | decide | exact hCF _ (by omega)), (by first | assumption | omega | decide | exact hCF _ (by omega)), (by first | assumption | omega | decide | exact hCF _ (by omega)), (by first | assumption | omega | decide | exact hCF _ (by omega)), (by intro f hf; omega), e_, rfl, rfl⟩
    · have hn_2751 : 0 < m_36 := Nat.not_le.mp (fun q => c110_2749 ((nI_leI (a := m_36) (b := 0) (by omega) (by omega)).mpr q))
      replace e_ := fun β k_ => (e_ β k_).trans (if_neg (Nat.not_le.mpr hn_2751))
      refine g_bipush (v := 8) B dX11_readies_113 (by decide) ?_
      refine g_goto (tgt := 119) B dX11_readies_115 (by decide) ?_
      refine g_ior B dX11_readies_119 ?_
      refine g_ri (x' := 11) (by decide) ?_
      refine g_putM (ws' := [((r 41), .inl (E.2.2.1 0, 1200, .inl r41_f)), (m, .inr (11, mkF r m_1 m_4 m_9 m_10 m_14 1 m_25 m_26 m_27 m_28 m_29 m_31 m_32 m_33 m_35 m_36 zr_2713 (m_1 / 2) 11 m_40 m_42)), ((r 0), .inl (E.2.2.1 0, 1200, .inl r0_f))]) (fs' := mkF r m_1 m_4 m_9 m_10 m_14 1 m_25 m_26 m_27 m_28 m_29 m_31 m_32 m_33 m_35 m_36 zr_2713 (m_1 / 2) 11 m_40 m_42) B 1 39 fl_X11_206 pf_X11_39 rfl (mlt (by decide)) rfl rfl (ms_39 rfl) rfl dX11_readies_120 ?_
      refine g_iconst (v := 0) B dX11_readies_123 (by decide) ?_
      refine g_istore (lv' := [(5, .int 0), (4, .int 0), (3, .int 1), (0, .ref m), (1, .int 2), (2, .int jo)]) B dX11_readies_124 (by decide) rfl ?_
      refine g_sub (ws' := [(m, .inr (11, mkF r m_1 m_4 m_9 m_10 m_14 1 m_25 m_26 m_27 m_28 m_29 m_31 m_32 m_33 m_35 m_36 zr_2713 (m_1 / 2) 11 m_40 m_42)), ((r 0), .inl (E.2.2.1 0, 1200, .inl r0_f)), ((r 41), .inl (E.2.2.1 0, 1200, .inl r41_f))]) [1, 2, 0] (by decide) rfl ?_
      refine g_lvsub (lv' := [(0, .ref m), (1, .int 2), (2, .int jo), (3, .int 1), (4, .int 0), (5, .int 0)]) [3, 4, 5, 2, 1, 0] rfl ?_
      refine lp_wr_X11_readies_2_126_2757 E m r m_1 m_4 m_9 m_10 m_14 m_15 m_25 m_26 m_27 m_28 m_29 m_31 m_32 m_33 m_35 m_36 m_37 m_38 m_39 m_40 m_42 r0_f r41_f jo h0 hb0 hb1 hb2 hb3 zr_2713  _ B hr (fun y_2761pr41_f y_2761l5 y_2761k0 e_ => ?_) _ r41_f 0 (by first | assumption | omega | decide | exact hCF _ (by omega)) (Nat.lt_succ_self _) e_
      show G E X 8 [(m, .inr (11, mkF r m_1 m_4 m_9 m_10 m_14 1 m_25 m_26 m_27 m_28 m_29 m_31 m_32 m_33 m_35 m_36 zr_2713 (m_1 / 2) 11 m_40 m_42)), ((r 0), .inl (E.2.2.1 0, 1200, .inl r0_f)), ((r 41), .inl (E.2.2.1 0, 1200, .inl y_2761pr41_f))] 0 0 [(0, .ref m), (1, .int 2), (2, .int jo), (3, .int 1), (4, .int 0), (5, .int (nI y_2761l5))] 250 []
      exact g_vret B hr dX11_readies_250 (by decide) (by decide) ⟨(m_1 / 2), zr_2713, 1, 11, y_2761pr41_f, (by first | assumption | omega | decide | exact hCF _ (by omega)), (by first | assumption | omega | decide | exact hCF _ (by omega)), (by first | assumption | omega | decide | exact hCF _ (by omega)), (by first | assumption | omega | decide | exact hCF _ (by omega)), (by intro f hf; omega), e_, rfl, rfl⟩
abbrev MX11_isSilent : g_M := (yX11_isSilent, cX11_isSilent, 5, (some .boolean))
theorem dX11_isSilent_0 : decode cX11_isSilent 0 = .ok (.aload_n 0, 1) := by decide +kernel
theorem dX11_isSilent_1 : decode cX11_isSilent 1 = .ok (.invokevirtual 209, 3) := by decide +kernel
theorem w_ml_X11_209 : Cond.methodLink RX11 209 yX11_keeps ∈ g_tbl := g_tbl_in 1075 (by decide +kernel) (by decide +kernel)
theorem w_cd_X11_keeps : g_cw MX11_keeps ∈ g_tbl := g_tbl_in 1078 (by decide +kernel) (by decide +kernel)
theorem cl_X11_209 : CL RX11 209 0 MX11_keeps := ⟨w_ml_X11_209, w_cd_X11_keeps, w_ini_X11, by decide +kernel, by decide +kernel, by decide +kernel⟩
theorem w_im_X11_keeps : Cond.instanceMethod yX11_keeps ∈ g_tbl := g_tbl_in 1077 (by decide +kernel) (by decide +kernel)
theorem w_se_X11_keeps : Cond.selects RX11 yX11_keeps yX11_keeps ∈ g_tbl := g_tbl_in 35 (by decide +kernel) (by decide +kernel)
theorem dX11_isSilent_4 : decode cX11_isSilent 4 = .ok (.iconst 0, 1) := by decide +kernel
theorem dX11_isSilent_5 : decode cX11_isSilent 5 = .ok (.istore_n 2, 1) := by decide +kernel
theorem dX11_isSilent_6 : decode cX11_isSilent 6 = .ok (.iload_n 2, 1) := by decide +kernel
theorem dX11_isSilent_7 : decode cX11_isSilent 7 = .ok (.aload_n 0, 1) := by decide +kernel
theorem dX11_isSilent_8 : decode cX11_isSilent 8 = .ok (.getfield 118, 3) := by decide +kernel
theorem dX11_isSilent_11 : decode cX11_isSilent 11 = .ok (.if_icmp .ge 47, 3) := by decide +kernel
theorem dX11_isSilent_14 : decode cX11_isSilent 14 = .ok (.aload_n 0, 1) := by decide +kernel
theorem dX11_isSilent_15 : decode cX11_isSilent 15 = .ok (.getfield 77, 3) := by decide +kernel
theorem dX11_isSilent_18 : decode cX11_isSilent 18 = .ok (.aload_n 0, 1) := by decide +kernel
theorem dX11_isSilent_19 : decode cX11_isSilent 19 = .ok (.getfield 118, 3) := by decide +kernel
theorem dX11_isSilent_22 : decode cX11_isSilent 22 = .ok (.iload_n 1, 1) := by decide +kernel
theorem dX11_isSilent_23 : decode cX11_isSilent 23 = .ok (.imul, 1) := by decide +kernel
theorem dX11_isSilent_24 : decode cX11_isSilent 24 = .ok (.iload_n 2, 1) := by decide +kernel
theorem dX11_isSilent_25 : decode cX11_isSilent 25 = .ok (.iadd, 1) := by decide +kernel
theorem dX11_isSilent_26 : decode cX11_isSilent 26 = .ok (.iaload, 1) := by decide +kernel
theorem dX11_isSilent_27 : decode cX11_isSilent 27 = .ok (.aload_n 0, 1) := by decide +kernel
theorem dX11_isSilent_28 : decode cX11_isSilent 28 = .ok (.iload_n 2, 1) := by decide +kernel
theorem dX11_isSilent_29 : decode cX11_isSilent 29 = .ok (.invokevirtual 212, 3) := by decide +kernel
theorem dX11_isSilent_32 : decode cX11_isSilent 32 = .ok (.isub, 1) := by decide +kernel
theorem dX11_isSilent_33 : decode cX11_isSilent 33 = .ok (.istore_n 3, 1) := by decide +kernel
theorem dX11_isSilent_34 : decode cX11_isSilent 34 = .ok (.iload_n 3, 1) := by decide +kernel
theorem dX11_isSilent_35 : decode cX11_isSilent 35 = .ok (.ifCond .eq 9, 3) := by decide +kernel
theorem dX11_isSilent_44 : decode cX11_isSilent 44 = .ok (.aload_n 0, 1) := by decide +kernel
theorem dX11_isSilent_45 : decode cX11_isSilent 45 = .ok (.iload_n 2, 1) := by decide +kernel
theorem dX11_isSilent_46 : decode cX11_isSilent 46 = .ok (.iconst 0, 1) := by decide +kernel
theorem dX11_isSilent_47 : decode cX11_isSilent 47 = .ok (.invokevirtual 218, 3) := by decide +kernel
theorem dX11_isSilent_50 : decode cX11_isSilent 50 = .ok (.istore 4, 2) := by decide +kernel
theorem dX11_isSilent_52 : decode cX11_isSilent 52 = .ok (.iinc 2 1, 3) := by decide +kernel
theorem dX11_isSilent_55 : decode cX11_isSilent 55 = .ok (.goto (-49), 3) := by decide +kernel
theorem dX11_isSilent_38 : decode cX11_isSilent 38 = .ok (.aload_n 0, 1) := by decide +kernel
theorem dX11_isSilent_39 : decode cX11_isSilent 39 = .ok (.invokevirtual 215, 3) := by decide +kernel
theorem w_ml_X11_215 : Cond.methodLink RX11 215 yX11_brings ∈ g_tbl := g_tbl_in 1092 (by decide +kernel) (by decide +kernel)
theorem w_cd_X11_brings : g_cw MX11_brings ∈ g_tbl := g_tbl_in 1095 (by decide +kernel) (by decide +kernel)
theorem cl_X11_215 : CL RX11 215 0 MX11_brings := ⟨w_ml_X11_215, w_cd_X11_brings, w_ini_X11, by decide +kernel, by decide +kernel, by decide +kernel⟩
theorem w_im_X11_brings : Cond.instanceMethod yX11_brings ∈ g_tbl := g_tbl_in 1094 (by decide +kernel) (by decide +kernel)
theorem w_se_X11_brings : Cond.selects RX11 yX11_brings yX11_brings ∈ g_tbl := g_tbl_in 39 (by decide +kernel) (by decide +kernel)
theorem dX11_isSilent_42 : decode cX11_isSilent 42 = .ok (.iconst 0, 1) := by decide +kernel
theorem dX11_isSilent_43 : decode cX11_isSilent 43 = .ok (.ireturn, 1) := by decide +kernel
set_option maxRecDepth 100000 in
def lf_wr_X11_isSilent_6 (m_14 : Nat) (m_15 : Nat) (r16_f : Nat → Int32) (r17_f : Nat → Int32) (r41_f : Nat → Int32) (fr : Nat) (β : Type) (kx_ : (Nat → Int32) → (Nat → Int32) → (Nat → Int32) → (Nat → Int32) → (Nat → Int32) → (Nat → Int32) → Nat → β) (k_ : (Nat → Int32) → (Nat → Int32) → (Nat → Int32) → (Nat → Int32) → (Nat → Int32) → (Nat → Int32) → Int32 → β) : Nat → (Nat → Int32) → (Nat → Int32) → (Nat → Int32) → (Nat → Int32) → (Nat → Int32) → (Nat → Int32) → Nat → β
  | 0, pr19_f, pr18_f, pr21_f, pr20_f, pr22_f, pr23_f, l2 => kx_ pr19_f pr18_f pr21_f pr20_f pr22_f pr23_f l2
  | fuel + 1, pr19_f, pr18_f, pr21_f, pr20_f, pr22_f, pr23_f, l2 => (if m_15 ≤ l2 then (kx_ pr19_f pr18_f pr21_f pr20_f pr22_f pr23_f l2) else (fn_wr_X11_foretells m_14 m_15 r16_f pr19_f pr18_f pr21_f pr20_f l2 β (fun zr21_f_2768 zr20_f_2769 zr_2770 => (fnL ((r41_f ((m_15 * fr) + l2)) - zr_2770) (fun x_2772 => (if x_2772 = 0 then (fn_wr_X11_learns m_14 zr20_f_2769 zr21_f_2768 pr18_f r17_f pr19_f l2 0 β (fun zr18_f_2774 zr19_f_2775 zr_2776 => (lf_wr_X11_isSilent_6 m_14 m_15 r16_f r17_f r41_f fr β kx_ k_ fuel zr19_f_2775 zr18_f_2774 zr21_f_2768 zr20_f_2769 pr22_f pr23_f (l2 + 1)))) else (fn_wr_X11_brings pr18_f pr19_f pr22_f pr23_f β (fun zr18_f_2778 zr19_f_2779 => (k_ zr18_f_2778 zr19_f_2779 zr21_f_2768 zr20_f_2769 pr22_f pr23_f 0)))))))))
set_option maxRecDepth 100000 in
theorem lf_wr_X11_isSilent_6_s {m_14 : Nat} {m_15 : Nat} {r16_f : Nat → Int32} {r17_f : Nat → Int32} {r41_f : Nat → Int32} {fr : Nat} {β : Type} {kx_ : (Nat → Int32) → (Nat → Int32) → (Nat → Int32) → (Nat → Int32) → (Nat → Int32) → (Nat → Int32) → Nat → β} {k_ : (Nat → Int32) → (Nat → Int32) → (Nat → Int32) → (Nat → Int32) → (Nat → Int32) → (Nat → Int32) → Int32 → β} {fuel : Nat} {pr19_f : Nat → Int32} {pr18_f : Nat → Int32} {pr21_f : Nat → Int32} {pr20_f : Nat → Int32} {pr22_f : Nat → Int32} {pr23_f : Nat → Int32} {l2 : Nat} : lf_wr_X11_isSilent_6 m_14 m_15 r16_f r17_f r41_f fr β kx_ k_ (fuel + 1) pr19_f pr18_f pr21_f pr20_f pr22_f pr23_f l2 = (if m_15 ≤ l2 then (kx_ pr19_f pr18_f pr21_f pr20_f pr22_f pr23_f l2) else (fn_wr_X11_foretells m_14 m_15 r16_f pr19_f pr18_f pr21_f pr20_f l2 β (fun zr21_f_2768 zr20_f_2769 zr_2770 => (fnL ((r41_f ((m_15 * fr) + l2)) - zr_2770) (fun x_2772 => (if x_2772 = 0 then (fn_wr_X11_learns m_14 zr20_f_2769 zr21_f_2768 pr18_f r17_f pr19_f l2 0 β (fun zr18_f_2774 zr19_f_2775 zr_2776 => (lf_wr_X11_isSilent_6 m_14 m_15 r16_f r17_f r41_f fr β kx_ k_ fuel zr19_f_2775 zr18_f_2774 zr21_f_2768 zr20_f_2769 pr22_f pr23_f (l2 + 1)))) else (fn_wr_X11_brings pr18_f pr19_f pr22_f pr23_f β (fun zr18_f_2778 zr19_f_2779 => (k_ zr18_f_2778 zr19_f_2779 zr21_f_2768 zr20_f_2769 pr22_f pr23_f 0))))))))) := rfl
set_option maxRecDepth 100000 in
set_option maxHeartbeats 4000000 in
theorem lp_wr_X11_isSilent_6 (E : g_E) (m : Nat) (r : Nat → Nat) (m_1 : Nat) (m_4 : Nat) (m_9 : Nat) (m_10 : Nat) (m_14 : Nat) (m_15 : Nat) (m_25 : Int32) (m_26 : Int32) (m_27 : Int64) (m_28 : Nat) (m_29 : Nat) (m_31 : Nat) (m_32 : Nat) (m_33 : Nat) (m_35 : Nat) (m_36 : Nat) (m_37 : Int32) (m_38 : Nat) (m_39 : Int32) (m_40 : Int32) (m_42 : Nat) (r16_f : Nat → Int32) (r19_f : Nat → Int32) (r18_f : Nat → Int32) (r21_f : Nat → Int32) (r20_f : Nat → Int32) (r17_f : Nat → Int32) (r41_f : Nat → Int32) (r22_f : Nat → Int32) (r23_f : Nat → Int32) (fr : Nat) (h0 : m_14 ≤ 8) (h1 : m_15 * fr + m_15 ≤ 1200) (hb0 : m_15 ≤ 2)   {X : g_X} {rr : (β : Type) → ((Nat → Int32) → (Nat → Int32) → (Nat → Int32) → (Nat → Int32) → (Nat → Int32) → (Nat → Int32) → Int32 → β) → β} (kx_ : (β : Type) → ((Nat → Int32) → (Nat → Int32) → (Nat → Int32) → (Nat → Int32) → (Nat → Int32) → (Nat → Int32) → Int32 → β) → (Nat → Int32) → (Nat → Int32) → (Nat → Int32) → (Nat → Int32) → (Nat → Int32) → (Nat → Int32) → Nat → β) (B : Bd E X cX11_isSilent RX11 5 3 71 0 0) (hr : Rt E X (some .boolean) 0 0 (fun v_ w_ => ∃ zr18_f : Nat → Int32, ∃ zr19_f : Nat → Int32, ∃ zr21_f : Nat → Int32, ∃ zr20_f : Nat → Int32, ∃ zr22_f : Nat → Int32, ∃ zr23_f : Nat → Int32, ∃ zr : Int32, (zr = 0 ∨ zr = 1) ∧ (∀ (β : Type) (k_ : (Nat → Int32) → (Nat → Int32) → (Nat → Int32) → (Nat → Int32) → (Nat → Int32) → (Nat → Int32) → Int32 → β), rr β k_ = k_ zr18_f zr19_f zr21_f zr20_f zr22_f zr23_f zr) ∧ v_ = some (.int zr) ∧ w_ = [(m, .inr (11, mkF r m_1 m_4 m_9 m_10 m_14 m_15 m_25 m_26 m_27 m_28 m_29 m_31 m_32 m_33 m_35 m_36 m_37 m_38 m_39 m_40 m_42)), ((r 16), .inl (E.2.2.1 0, 8, .inl r16_f)), ((r 19), .inl (E.2.2.1 0, 128, .inl zr19_f)), ((r 18), .inl (E.2.2.1 0, 16, .inl zr18_f)), ((r 21), .inl (E.2.2.1 0, 8, .inl zr21_f)), ((r 20), .inl (E.2.2.1 0, 8, .inl zr20_f)), ((r 17), .inl (E.2.2.1 0, 8, .inl r17_f)), ((r 41), .inl (E.2.2.1 0, 1200, .inl r41_f)), ((r 22), .inl (E.2.2.1 0, 16, .inl zr22_f)), ((r 23), .inl (E.2.2.1 0, 128, .inl zr23_f))])) (K : ∀ (pr19_f : Nat → Int32) (pr18_f : Nat → Int32) (pr21_f : Nat → Int32) (pr20_f : Nat → Int32) (pr22_f : Nat → Int32) (pr23_f : Nat → Int32) (l2 : Nat), (l2 ≤ 2) → (∀ (β : Type) (k_ : (Nat → Int32) → (Nat → Int32) → (Nat → Int32) → (Nat → Int32) → (Nat → Int32) → (Nat → Int32) → Int32 → β), rr β k_ = kx_ β k_ pr19_f pr18_f pr21_f pr20_f pr22_f pr23_f l2) → G E X 5 [(m, .inr (11, mkF r m_1 m_4 m_9 m_10 m_14 m_15 m_25 m_26 m_27 m_28 m_29 m_31 m_32 m_33 m_35 m_36 m_37 m_38 m_39 m_40 m_42)), ((r 16), .inl (E.2.2.1 0, 8, .inl r16_f)), ((r 19), .inl (E.2.2.1 0, 128, .inl pr19_f)), ((r 18), .inl (E.2.2.1 0, 16, .inl pr18_f)), ((r 21), .inl (E.2.2.1 0, 8, .inl pr21_f)), ((r 20), .inl (E.2.2.1 0, 8, .inl pr20_f)), ((r 17), .inl (E.2.2.1 0, 8, .inl r17_f)), ((r 41), .inl (E.2.2.1 0, 1200, .inl r41_f)), ((r 22), .inl (E.2.2.1 0, 16, .inl pr22_f)), ((r 23), .inl (E.2.2.1 0, 128, .inl pr23_f))] 0 0 [(0, .ref m), (1, .int (nI fr)), (2, .int (nI l2))] 58 []) : ∀ (fuel : Nat) (pr19_f : Nat → Int32) (pr18_f : Nat → Int32) (pr21_f : Nat → Int32) (pr20_f : Nat → Int32) (pr22_f : Nat → Int32) (pr23_f : Nat → Int32) (l2 : Nat), (l2 ≤ 2) → (2 - l2) < fuel → (∀ (β : Type) (k_ : (Nat → Int32) → (Nat → Int32) → (Nat → Int32) → (Nat → Int32) → (Nat → Int32) → (Nat → Int32) → Int32 → β), rr β k_ = lf_wr_X11_isSilent_6 m_14 m_15 r16_f r17_f r41_f fr β (kx_ β k_) k_ fuel pr19_f pr18_f pr21_f pr20_f pr22_f pr23_f l2) → G E X 5 [(m, .inr (11, mkF r m_1 m_4 m_9 m_10 m_14 m_15 m_25 m_26 m_27 m_28 m_29 m_31 m_32 m_33 m_35 m_36 m_37 m_38 m_39 m_40 m_42)), ((r 16), .inl (E.2.2.1 0, 8, .inl r16_f)), ((r 19), .inl (E.2.2.1 0, 128, .inl pr19_f)), ((r 18), .inl (E.2.2.1 0, 16, .inl pr18_f)), ((r 21), .inl (E.2.2.1 0, 8, .inl pr21_f)), ((r 20), .inl (E.2.2.1 0, 8, .inl pr20_f)), ((r 17), .inl (E.2.2.1 0, 8, .inl r17_f)), ((r 41), .inl (E.2.2.1 0, 1200, .inl r41_f)), ((r 22), .inl (E.2.2.1 0, 16, .inl pr22_f)), ((r 23), .inl (E.2.2.1 0, 128, .inl pr23_f))] 0 0 [(0, .ref m), (1, .int (nI fr)), (2, .int (nI l2))] 6 [] := by
  intro fuel
  induction fuel with
  | zero => intro pr19_f pr18_f pr21_f pr20_f pr22_f pr23_f l2 _ h _; exact absurd h (Nat.not_lt_zero _)
  | succ fuel ih =>
    intro pr19_f pr18_f pr21_f pr20_f pr22_f pr23_f l2 hv0 hm e_
    replace e_ := fun β k_ => (e_ β k_).trans lf_wr_X11_isSilent_6_s
    refine g_iload_n B dX11_isSilent_6 rfl 2 rfl ?_
    refine g_aload_n B dX11_isSilent_7 rfl 0 rfl ?_
    refine g_get B 0 15 fl_X11_118 rfl mf_15 dX11_isSilent_8 ?_
    refine g_icmp_ge (tgt := 58) B dX11_isSilent_11 (by decide) (fun c11_2765 => ?_) (fun c11_2765 => ?_)
    · have hn_2766 : m_15 ≤ l2 := (nI_leI (a := m_15) (b := l2) (by omega) (by omega)).mp c11_2765
      replace e_ := fun β k_ => (e_ β k_).trans (if_pos hn_2766)
      exact K pr19_f pr18_f pr21_f pr20_f pr22_f pr23_f l2 (by first | assumption | omega | decide | exact hCF _ (by omega)) e_
    · have hn_2767 : l2 < m_15 := Nat.not_le.mp (fun q => c11_2765 ((nI_leI (a := m_15) (b := l2) (by omega) (by omega)).mpr q))
      replace e_ := fun β k_ => (e_ β k_).trans (if_neg (Nat.not_le.mpr hn_2767))
      refine g_aload_n B dX11_isSilent_14 rfl 0 rfl ?_
      refine g_get B 0 41 fl_X11_77 rfl mf_41 dX11_isSilent_15 ?_
      refine g_aload_n B dX11_isSilent_18 rfl 0 rfl ?_
      refine g_get B 0 15 fl_X11_118 rfl mf_15 dX11_isSilent_19 ?_
      refine g_iload_n B dX11_isSilent_22 rfl 1 rfl ?_
      refine g_imul B dX11_isSilent_23 ?_
      refine g_ri (x' := nI (m_15 * fr)) (pk_mul m_15 fr) ?_
      refine g_iload_n B dX11_isSilent_24 rfl 2 rfl ?_
      refine g_iadd B dX11_isSilent_25 ?_
      refine g_ri (x' := nI ((m_15 * fr) + l2)) (nI_add (m_15 * fr) l2) ?_
      refine g_iald B 7 rfl (vp_in_nI (by omega) (by omega)) dX11_isSilent_26 ?_
      refine g_ri (x' := (r41_f ((m_15 * fr) + l2))) (congrArg r41_f (nI_clamp (n := ((m_15 * fr) + l2)) (by omega))) ?_
      refine g_aload_n B dX11_isSilent_27 rfl 0 rfl ?_
      refine g_iload_n B dX11_isSilent_28 rfl 2 rfl ?_
      refine g_callV (st := [.int (r41_f ((m_15 * fr) + l2))]) (As := [.int (nI l2)]) (wr := [((r 17), .inl (E.2.2.1 0, 8, .inl r17_f)), ((r 41), .inl (E.2.2.1 0, 1200, .inl r41_f)), ((r 22), .inl (E.2.2.1 0, 16, .inl pr22_f)), ((r 23), .inl (E.2.2.1 0, 128, .inl pr23_f))]) (nc' := 0) (ns' := 0) B cl_X11_212 w_im_X11_foretells w_se_X11_foretells (wr_X11_foretells E m r m_1 m_4 m_9 m_10 m_14 m_15 m_25 m_26 m_27 m_28 m_29 m_31 m_32 m_33 m_35 m_36 m_37 m_38 m_39 m_40 m_42 r16_f pr19_f pr18_f pr21_f pr20_f l2 (by first | assumption | omega | decide | exact hCF _ (by omega)) (by first | assumption | omega | decide | exact hCF _ (by omega)) (by first | assumption | omega | decide | exact hCF _ (by omega))) rfl [0, 1, 2, 3, 4, 5] [6, 7, 8, 9] rfl rfl (by decide) (by decide) (by decide) 0 rfl (fun q h => by cases h; rfl) rfl ⟨by decide, by decide⟩ rfl rfl (by decide) (by decide) rfl (Nat.le_of_ble_eq_true rfl) dX11_isSilent_29 (fun v w hq => ?_)
      obtain ⟨zr21_f_2768, zr20_f_2769, zr_2770, hz_2771, rfl, rfl⟩ := hq
      replace e_ := fun β k_ => (e_ β k_).trans (hz_2771 β _)
      show G E X 5 [((r 17), .inl (E.2.2.1 0, 8, .inl r17_f)), ((r 41), .inl (E.2.2.1 0, 1200, .inl r41_f)), ((r 22), .inl (E.2.2.1 0, 16, .inl pr22_f)), ((r 23), .inl (E.2.2.1 0, 128, .inl pr23_f)), (m, .inr (11, mkF r m_1 m_4 m_9 m_10 m_14 m_15 m_25 m_26 m_27 m_28 m_29 m_31 m_32 m_33 m_35 m_36 m_37 m_38 m_39 m_40 m_42)), ((r 16), .inl (E.2.2.1 0, 8, .inl r16_f)), ((r 19), .inl (E.2.2.1 0, 128, .inl pr19_f)), ((r 18), .inl (E.2.2.1 0, 16, .inl pr18_f)), ((r 21), .inl (E.2.2.1 0, 8, .inl zr21_f_2768)), ((r 20), .inl (E.2.2.1 0, 8, .inl zr20_f_2769))] 0 0 [(0, .ref m), (1, .int (nI fr)), (2, .int (nI l2))] 32 [.int zr_2770, .int (r41_f ((m_15 * fr) + l2))]
      refine g_isub B dX11_isSilent_32 ?_
      refine g_topi (fun x_2772 ex_2772 => ?_)
      replace e_ := fun β k_ => (e_ β k_).trans (fnL_eq (x := x_2772) ex_2772.symm _)
      refine g_istore_n (lv' := [(3, .int x_2772), (0, .ref m), (1, .int (nI fr)), (2, .int (nI l2))]) B dX11_isSilent_33 rfl (by decide) rfl ?_
      refine g_iload_n B dX11_isSilent_34 rfl 0 rfl ?_
      refine g_if_eq (tgt := 44) B dX11_isSilent_35 (by decide) (fun c35_2773 => ?_) (fun c35_2773 => ?_)
      · replace e_ := fun β k_ => (e_ β k_).trans (if_pos c35_2773)
        refine g_aload_n B dX11_isSilent_44 rfl 1 rfl ?_
        refine g_iload_n B dX11_isSilent_45 rfl 3 rfl ?_
        refine g_iconst (v := 0) B dX11_isSilent_46 (by decide) ?_
        refine g_callV (st := []) (As := [.int (nI l2), .int 0]) (wr := [((r 41), .inl (E.2.2.1 0, 1200, .inl r41_f)), ((r 22), .inl (E.2.2.1 0, 16, .inl pr22_f)), ((r 23), .inl (E.2.2.1 0, 128, .inl pr23_f)), ((r 16), .inl (E.2.2.1 0, 8, .inl r16_f))]) (nc' := 0) (ns' := 0) B cl_X11_218 w_im_X11_learns w_se_X11_learns (wr_X11_learns E m r m_1 m_4 m_9 m_10 m_14 m_15 m_25 m_26 m_27 m_28 m_29 m_31 m_32 m_33 m_35 m_36 m_37 m_38 m_39 m_40 m_42 zr20_f_2769 zr21_f_2768 pr18_f r17_f pr19_f l2 0 (by first | assumption | omega | decide | exact hCF _ (by omega)) (by first | assumption | omega | decide | exact hCF _ (by omega))) rfl [4, 9, 8, 7, 0, 6] [1, 2, 3, 5] rfl rfl (by decide) (by decide) (by decide) 0 rfl (fun q h => by cases h; rfl) rfl ⟨by decide, by decide⟩ rfl rfl (by decide) (by decide) rfl (Nat.le_of_ble_eq_true rfl) dX11_isSilent_47 (fun v w hq => ?_)
        obtain ⟨zr18_f_2774, zr19_f_2775, zr_2776, hz_2777, rfl, rfl⟩ := hq
        replace e_ := fun β k_ => (e_ β k_).trans (hz_2777 β _)
        show G E X 5 [((r 41), .inl (E.2.2.1 0, 1200, .inl r41_f)), ((r 22), .inl (E.2.2.1 0, 16, .inl pr22_f)), ((r 23), .inl (E.2.2.1 0, 128, .inl pr23_f)), ((r 16), .inl (E.2.2.1 0, 8, .inl r16_f)), (m, .inr (11, mkF r m_1 m_4 m_9 m_10 m_14 m_15 m_25 m_26 m_27 m_28 m_29 m_31 m_32 m_33 m_35 m_36 m_37 m_38 m_39 m_40 m_42)), ((r 20), .inl (E.2.2.1 0, 8, .inl zr20_f_2769)), ((r 21), .inl (E.2.2.1 0, 8, .inl zr21_f_2768)), ((r 18), .inl (E.2.2.1 0, 16, .inl zr18_f_2774)), ((r 17), .inl (E.2.2.1 0, 8, .inl r17_f)), ((r 19), .inl (E.2.2.1 0, 128, .inl zr19_f_2775))] 0 0 [(3, .int x_2772), (0, .ref m), (1, .int (nI fr)), (2, .int (nI l2))] 50 [.int zr_2776]
        refine g_istore (lv' := [(4, .int zr_2776), (3, .int x_2772), (0, .ref m), (1, .int (nI fr)), (2, .int (nI l2))]) B dX11_isSilent_50 (by decide) rfl ?_
        refine g_iinc (v := nI (l2 + 1)) (lv' := [(2, .int (nI (l2 + 1))), (4, .int zr_2776), (3, .int x_2772), (0, .ref m), (1, .int (nI fr))]) B dX11_isSilent_52 4 rfl (nI_add l2 1) (by decide) rfl ?_
        refine g_goto (tgt := 6) B dX11_isSilent_55 (by decide) ?_
        refine g_sub (ws' := [(m, .inr (11, mkF r m_1 m_4 m_9 m_10 m_14 m_15 m_25 m_26 m_27 m_28 m_29 m_31 m_32 m_33 m_35 m_36 m_37 m_38 m_39 m_40 m_42)), ((r 16), .inl (E.2.2.1 0, 8, .inl r16_f)), ((r 19), .inl (E.2.2.1 0, 128, .inl zr19_f_2775)), ((r 18), .inl (E.2.2.1 0, 16, .inl zr18_f_2774)), ((r 21), .inl (E.2.2.1 0, 8, .inl zr21_f_2768)), ((r 20), .inl (E.2.2.1 0, 8, .inl zr20_f_2769)), ((r 17), .inl (E.2.2.1 0, 8, .inl r17_f)), ((r 41), .inl (E.2.2.1 0, 1200, .inl r41_f)), ((r 22), .inl (E.2.2.1 0, 16, .inl pr22_f)), ((r 23), .inl (E.2.2.1 0, 128, .inl pr23_f))]) [4, 3, 9, 7, 6, 5, 8, 0, 1, 2] (by decide) rfl ?_
        refine g_lvsub (lv' := [(0, .ref m), (1, .int (nI fr)), (2, .int (nI (l2 + 1)))]) [3, 4, 0] rfl ?_
        exact ih zr19_f_2775 zr18_f_2774 zr21_f_2768 zr20_f_2769 pr22_f pr23_f (l2 + 1) (by first | assumption | omega | decide | exact hCF _ (by omega)) (by omega) e_
      · replace e_ := fun β k_ => (e_ β k_).trans (if_neg c35_2773)
        refine g_aload_n B dX11_isSilent_38 rfl 1 rfl ?_
        refine g_callV (st := []) (As := []) (wr := [((r 17), .inl (E.2.2.1 0, 8, .inl r17_f)), ((r 41), .inl (E.2.2.1 0, 1200, .inl r41_f)), ((r 16), .inl (E.2.2.1 0, 8, .inl r16_f)), ((r 21), .inl (E.2.2.1 0, 8, .inl zr21_f_2768)), ((r 20), .inl (E.2.2.1 0, 8, .inl zr20_f_2769))]) (nc' := 0) (ns' := 0) B cl_X11_215 w_im_X11_brings w_se_X11_brings (wr_X11_brings E m r m_1 m_4 m_9 m_10 m_14 m_15 m_25 m_26 m_27 m_28 m_29 m_31 m_32 m_33 m_35 m_36 m_37 m_38 m_39 m_40 m_42 pr18_f pr19_f pr22_f pr23_f ) rfl [4, 7, 6, 2, 3] [0, 1, 5, 8, 9] rfl rfl (by decide) (by decide) (by decide) 0 rfl (fun q h => by cases h; rfl) rfl ⟨by decide, by decide⟩ rfl rfl (by decide) (by decide) rfl (Nat.le_of_ble_eq_true rfl) dX11_isSilent_39 (fun v w hq => ?_)
        obtain ⟨zr18_f_2778, zr19_f_2779, hz_2780, rfl, rfl⟩ := hq
        replace e_ := fun β k_ => (e_ β k_).trans (hz_2780 β _)
        show G E X 5 [((r 17), .inl (E.2.2.1 0, 8, .inl r17_f)), ((r 41), .inl (E.2.2.1 0, 1200, .inl r41_f)), ((r 16), .inl (E.2.2.1 0, 8, .inl r16_f)), ((r 21), .inl (E.2.2.1 0, 8, .inl zr21_f_2768)), ((r 20), .inl (E.2.2.1 0, 8, .inl zr20_f_2769)), (m, .inr (11, mkF r m_1 m_4 m_9 m_10 m_14 m_15 m_25 m_26 m_27 m_28 m_29 m_31 m_32 m_33 m_35 m_36 m_37 m_38 m_39 m_40 m_42)), ((r 18), .inl (E.2.2.1 0, 16, .inl zr18_f_2778)), ((r 19), .inl (E.2.2.1 0, 128, .inl zr19_f_2779)), ((r 22), .inl (E.2.2.1 0, 16, .inl pr22_f)), ((r 23), .inl (E.2.2.1 0, 128, .inl pr23_f))] 0 0 [(3, .int x_2772), (0, .ref m), (1, .int (nI fr)), (2, .int (nI l2))] 42 []
        refine g_iconst (v := 0) B dX11_isSilent_42 (by decide) ?_
        refine g_sub (ws' := [(m, .inr (11, mkF r m_1 m_4 m_9 m_10 m_14 m_15 m_25 m_26 m_27 m_28 m_29 m_31 m_32 m_33 m_35 m_36 m_37 m_38 m_39 m_40 m_42)), ((r 16), .inl (E.2.2.1 0, 8, .inl r16_f)), ((r 19), .inl (E.2.2.1 0, 128, .inl zr19_f_2779)), ((r 18), .inl (E.2.2.1 0, 16, .inl zr18_f_2778)), ((r 21), .inl (E.2.2.1 0, 8, .inl zr21_f_2768)), ((r 20), .inl (E.2.2.1 0, 8, .inl zr20_f_2769)), ((r 17), .inl (E.2.2.1 0, 8, .inl r17_f)), ((r 41), .inl (E.2.2.1 0, 1200, .inl r41_f)), ((r 22), .inl (E.2.2.1 0, 16, .inl pr22_f)), ((r 23), .inl (E.2.2.1 0, 128, .inl pr23_f))]) [5, 2, 7, 6, 3, 4, 0, 1, 8, 9] (by decide) rfl ?_
        exact g_zret B hr (by decide) dX11_isSilent_43 (by decide) (by decide) ⟨zr18_f_2778, zr19_f_2779, zr21_f_2768, zr20_f_2769, pr22_f, pr23_f, 0, (by first | assumption | omega | decide | exact hCF _ (by omega)), e_, rfl, rfl⟩
theorem dX11_isSilent_58 : decode cX11_isSilent 58 = .ok (.iconst 1, 1) := by decide +kernel
theorem dX11_isSilent_59 : decode cX11_isSilent 59 = .ok (.ireturn, 1) := by decide +kernel
set_option maxRecDepth 100000 in
def fn_wr_X11_isSilent (m_14 : Nat) (m_15 : Nat) (r16_f : Nat → Int32) (r19_f : Nat → Int32) (r18_f : Nat → Int32) (r21_f : Nat → Int32) (r20_f : Nat → Int32) (r17_f : Nat → Int32) (r41_f : Nat → Int32) (r22_f : Nat → Int32) (r23_f : Nat → Int32) (fr : Nat) (β : Type) (k_ : (Nat → Int32) → (Nat → Int32) → (Nat → Int32) → (Nat → Int32) → (Nat → Int32) → (Nat → Int32) → Int32 → β) : β := (fn_wr_X11_keeps r18_f r19_f r22_f r23_f β (fun zr22_f_2762 zr23_f_2763 => (lf_wr_X11_isSilent_6 m_14 m_15 r16_f r17_f r41_f fr β (fun y_2781pr19_f y_2781pr18_f y_2781pr21_f y_2781pr20_f y_2781pr22_f y_2781pr23_f y_2781l2 => (k_ y_2781pr18_f y_2781pr19_f y_2781pr21_f y_2781pr20_f y_2781pr22_f y_2781pr23_f 1)) k_ ((2 - 0) + 1) r19_f r18_f r21_f r20_f zr22_f_2762 zr23_f_2763 0)))
set_option maxRecDepth 100000 in
theorem fn_wr_X11_isSilent_s {m_14 : Nat} {m_15 : Nat} {r16_f : Nat → Int32} {r19_f : Nat → Int32} {r18_f : Nat → Int32} {r21_f : Nat → Int32} {r20_f : Nat → Int32} {r17_f : Nat → Int32} {r41_f : Nat → Int32} {r22_f : Nat → Int32} {r23_f : Nat → Int32} {fr : Nat} {β : Type} {k_ : (Nat → Int32) → (Nat → Int32) → (Nat → Int32) → (Nat → Int32) → (Nat → Int32) → (Nat → Int32) → Int32 → β} : fn_wr_X11_isSilent m_14 m_15 r16_f r19_f r18_f r21_f r20_f r17_f r41_f r22_f r23_f fr β k_ = (fn_wr_X11_keeps r18_f r19_f r22_f r23_f β (fun zr22_f_2762 zr23_f_2763 => (lf_wr_X11_isSilent_6 m_14 m_15 r16_f r17_f r41_f fr β (fun y_2781pr19_f y_2781pr18_f y_2781pr21_f y_2781pr20_f y_2781pr22_f y_2781pr23_f y_2781l2 => (k_ y_2781pr18_f y_2781pr19_f y_2781pr21_f y_2781pr20_f y_2781pr22_f y_2781pr23_f 1)) k_ ((2 - 0) + 1) r19_f r18_f r21_f r20_f zr22_f_2762 zr23_f_2763 0))) := rfl
set_option maxRecDepth 100000 in
set_option maxHeartbeats 4000000 in
theorem wr_X11_isSilent (E : g_E) (m : Nat) (r : Nat → Nat) (m_1 : Nat) (m_4 : Nat) (m_9 : Nat) (m_10 : Nat) (m_14 : Nat) (m_15 : Nat) (m_25 : Int32) (m_26 : Int32) (m_27 : Int64) (m_28 : Nat) (m_29 : Nat) (m_31 : Nat) (m_32 : Nat) (m_33 : Nat) (m_35 : Nat) (m_36 : Nat) (m_37 : Int32) (m_38 : Nat) (m_39 : Int32) (m_40 : Int32) (m_42 : Nat) (r16_f : Nat → Int32) (r19_f : Nat → Int32) (r18_f : Nat → Int32) (r21_f : Nat → Int32) (r20_f : Nat → Int32) (r17_f : Nat → Int32) (r41_f : Nat → Int32) (r22_f : Nat → Int32) (r23_f : Nat → Int32) (fr : Nat) (h0 : m_14 ≤ 8) (h1 : m_15 * fr + m_15 ≤ 1200) (hb0 : m_15 ≤ 2) : Ev E MX11_isSilent 3 71 0 0 [.ref m, .int (nI fr)] [(m, .inr (11, mkF r m_1 m_4 m_9 m_10 m_14 m_15 m_25 m_26 m_27 m_28 m_29 m_31 m_32 m_33 m_35 m_36 m_37 m_38 m_39 m_40 m_42)), ((r 16), .inl (E.2.2.1 0, 8, .inl r16_f)), ((r 19), .inl (E.2.2.1 0, 128, .inl r19_f)), ((r 18), .inl (E.2.2.1 0, 16, .inl r18_f)), ((r 21), .inl (E.2.2.1 0, 8, .inl r21_f)), ((r 20), .inl (E.2.2.1 0, 8, .inl r20_f)), ((r 17), .inl (E.2.2.1 0, 8, .inl r17_f)), ((r 41), .inl (E.2.2.1 0, 1200, .inl r41_f)), ((r 22), .inl (E.2.2.1 0, 16, .inl r22_f)), ((r 23), .inl (E.2.2.1 0, 128, .inl r23_f))] (fun v_ w_ => ∃ zr18_f : Nat → Int32, ∃ zr19_f : Nat → Int32, ∃ zr21_f : Nat → Int32, ∃ zr20_f : Nat → Int32, ∃ zr22_f : Nat → Int32, ∃ zr23_f : Nat → Int32, ∃ zr : Int32, (zr = 0 ∨ zr = 1) ∧ (∀ (β : Type) (k_ : (Nat → Int32) → (Nat → Int32) → (Nat → Int32) → (Nat → Int32) → (Nat → Int32) → (Nat → Int32) → Int32 → β), fn_wr_X11_isSilent m_14 m_15 r16_f r19_f r18_f r21_f r20_f r17_f r41_f r22_f r23_f fr β k_ = k_ zr18_f zr19_f zr21_f zr20_f zr22_f zr23_f zr) ∧ v_ = some (.int zr) ∧ w_ = [(m, .inr (11, mkF r m_1 m_4 m_9 m_10 m_14 m_15 m_25 m_26 m_27 m_28 m_29 m_31 m_32 m_33 m_35 m_36 m_37 m_38 m_39 m_40 m_42)), ((r 16), .inl (E.2.2.1 0, 8, .inl r16_f)), ((r 19), .inl (E.2.2.1 0, 128, .inl zr19_f)), ((r 18), .inl (E.2.2.1 0, 16, .inl zr18_f)), ((r 21), .inl (E.2.2.1 0, 8, .inl zr21_f)), ((r 20), .inl (E.2.2.1 0, 8, .inl zr20_f)), ((r 17), .inl (E.2.2.1 0, 8, .inl r17_f)), ((r 41), .inl (E.2.2.1 0, 1200, .inl r41_f)), ((r 22), .inl (E.2.2.1 0, 16, .inl zr22_f)), ((r 23), .inl (E.2.2.1 0, 128, .inl zr23_f))]) := by
  refine Ev.intro (by decide) (Nat.le_of_ble_eq_true rfl) ?_
  intro X B hr hI
  have B : Bd E X cX11_isSilent RX11 5 3 71 0 0 := B
  have hr : Rt E X (some .boolean) 0 0 (fun v_ w_ => ∃ zr18_f : Nat → Int32, ∃ zr19_f : Nat → Int32, ∃ zr21_f : Nat → Int32, ∃ zr20_f : Nat → Int32, ∃ zr22_f : Nat → Int32, ∃ zr23_f : Nat → Int32, ∃ zr : Int32, (zr = 0 ∨ zr = 1) ∧ (∀ (β : Type) (k_ : (Nat → Int32) → (Nat → Int32) → (Nat → Int32) → (Nat → Int32) → (Nat → Int32) → (Nat → Int32) → Int32 → β), fn_wr_X11_isSilent m_14 m_15 r16_f r19_f r18_f r21_f r20_f r17_f r41_f r22_f r23_f fr β k_ = k_ zr18_f zr19_f zr21_f zr20_f zr22_f zr23_f zr) ∧ v_ = some (.int zr) ∧ w_ = [(m, .inr (11, mkF r m_1 m_4 m_9 m_10 m_14 m_15 m_25 m_26 m_27 m_28 m_29 m_31 m_32 m_33 m_35 m_36 m_37 m_38 m_39 m_40 m_42)), ((r 16), .inl (E.2.2.1 0, 8, .inl r16_f)), ((r 19), .inl (E.2.2.1 0, 128, .inl zr19_f)), ((r 18), .inl (E.2.2.1 0, 16, .inl zr18_f)), ((r 21), .inl (E.2.2.1 0, 8, .inl zr21_f)), ((r 20), .inl (E.2.2.1 0, 8, .inl zr20_f)), ((r 17), .inl (E.2.2.1 0, 8, .inl r17_f)), ((r 41), .inl (E.2.2.1 0, 1200, .inl r41_f)), ((r 22), .inl (E.2.2.1 0, 16, .inl zr22_f)), ((r 23), .inl (E.2.2.1 0, 128, .inl zr23_f))]) := hr
  have e_ := fun (β : Type) (k_ : (Nat → Int32) → (Nat → Int32) → (Nat → Int32) → (Nat → Int32) → (Nat → Int32) → (Nat → Int32) → Int32 → β) => fn_wr_X11_isSilent_s (β := β) (k_ := k_) (m_14 := m_14) (m_15 := m_15) (r16_f := r16_f) (r19_f := r19_f) (r18_f := r18_f) (r21_f := r21_f) (r20_f := r20_f) (r17_f := r17_f) (r41_f := r41_f) (r22_f := r22_f) (r23_f := r23_f) (fr := fr)
  show G E X 5 [(m, .inr (11, mkF r m_1 m_4 m_9 m_10 m_14 m_15 m_25 m_26 m_27 m_28 m_29 m_31 m_32 m_33 m_35 m_36 m_37 m_38 m_39 m_40 m_42)), ((r 16), .inl (E.2.2.1 0, 8, .inl r16_f)), ((r 19), .inl (E.2.2.1 0, 128, .inl r19_f)), ((r 18), .inl (E.2.2.1 0, 16, .inl r18_f)), ((r 21), .inl (E.2.2.1 0, 8, .inl r21_f)), ((r 20), .inl (E.2.2.1 0, 8, .inl r20_f)), ((r 17), .inl (E.2.2.1 0, 8, .inl r17_f)), ((r 41), .inl (E.2.2.1 0, 1200, .inl r41_f)), ((r 22), .inl (E.2.2.1 0, 16, .inl r22_f)), ((r 23), .inl (E.2.2.1 0, 128, .inl r23_f))] 0 0 [(0, .ref m), (1, .int (nI fr))] 0 []
  refine g_aload_n B dX11_isSilent_0 rfl 0 rfl ?_
  refine g_callV (st := []) (As := []) (wr := [((r 16), .inl (E.2.2.1 0, 8, .inl r16_f)), ((r 21), .inl (E.2.2.1 0, 8, .inl r21_f)), ((r 20), .inl (E.2.2.1 0, 8, .inl r20_f)), ((r 17), .inl (E.2.2.1 0, 8, .inl r17_f)), ((r 41), .inl (E.2.2.1 0, 1200, .inl r41_f))]) (nc' := 0) (ns' := 0) B cl_X11_209 w_im_X11_keeps w_se_X11_keeps (wr_X11_keeps E m r m_1 m_4 m_9 m_10 m_14 m_15 m_25 m_26 m_27 m_28 m_29 m_31 m_32 m_33 m_35 m_36 m_37 m_38 m_39 m_40 m_42 r18_f r19_f r22_f r23_f ) rfl [0, 3, 2, 8, 9] [1, 4, 5, 6, 7] rfl rfl (by decide) (by decide) (by decide) 0 rfl (fun q h => by cases h; rfl) rfl ⟨by decide, by decide⟩ rfl rfl (by decide) (by decide) rfl (Nat.le_of_ble_eq_true rfl) dX11_isSilent_1 (fun v w hq => ?_)
  obtain ⟨zr22_f_2762, zr23_f_2763, hz_2764, rfl, rfl⟩ := hq
  replace e_ := fun β k_ => (e_ β k_).trans (hz_2764 β _)
  show G E X 5 [((r 16), .inl (E.2.2.1 0, 8, .inl r16_f)), ((r 21), .inl (E.2.2.1 0, 8, .inl r21_f)), ((r 20), .inl (E.2.2.1 0, 8, .inl r20_f)), ((r 17), .inl (E.2.2.1 0, 8, .inl r17_f)), ((r 41), .inl (E.2.2.1 0, 1200, .inl r41_f)), (m, .inr (11, mkF r m_1 m_4 m_9 m_10 m_14 m_15 m_25 m_26 m_27 m_28 m_29 m_31 m_32 m_33 m_35 m_36 m_37 m_38 m_39 m_40 m_42)), ((r 18), .inl (E.2.2.1 0, 16, .inl r18_f)), ((r 19), .inl (E.2.2.1 0, 128, .inl r19_f)), ((r 22), .inl (E.2.2.1 0, 16, .inl zr22_f_2762)), ((r 23), .inl (E.2.2.1 0, 128, .inl zr23_f_2763))] 0 0 [(0, .ref m), (1, .int (nI fr))] 4 []
  refine g_iconst (v := 0) B dX11_isSilent_4 (by decide) ?_
  refine g_istore_n (lv' := [(2, .int 0), (0, .ref m), (1, .int (nI fr))]) B dX11_isSilent_5 rfl (by decide) rfl ?_
  refine g_sub (ws' := [(m, .inr (11, mkF r m_1 m_4 m_9 m_10 m_14 m_15 m_25 m_26 m_27 m_28 m_29 m_31 m_32 m_33 m_35 m_36 m_37 m_38 m_39 m_40 m_42)), ((r 16), .inl (E.2.2.1 0, 8, .inl r16_f)), ((r 19), .inl (E.2.2.1 0, 128, .inl r19_f)), ((r 18), .inl (E.2.2.1 0, 16, .inl r18_f)), ((r 21), .inl (E.2.2.1 0, 8, .inl r21_f)), ((r 20), .inl (E.2.2.1 0, 8, .inl r20_f)), ((r 17), .inl (E.2.2.1 0, 8, .inl r17_f)), ((r 41), .inl (E.2.2.1 0, 1200, .inl r41_f)), ((r 22), .inl (E.2.2.1 0, 16, .inl zr22_f_2762)), ((r 23), .inl (E.2.2.1 0, 128, .inl zr23_f_2763))]) [5, 0, 7, 6, 1, 2, 3, 4, 8, 9] (by decide) rfl ?_
  refine g_lvsub (lv' := [(0, .ref m), (1, .int (nI fr)), (2, .int 0)]) [1, 2, 0] rfl ?_
  refine lp_wr_X11_isSilent_6 E m r m_1 m_4 m_9 m_10 m_14 m_15 m_25 m_26 m_27 m_28 m_29 m_31 m_32 m_33 m_35 m_36 m_37 m_38 m_39 m_40 m_42 r16_f r19_f r18_f r21_f r20_f r17_f r41_f r22_f r23_f fr h0 h1 hb0   _ B hr (fun y_2781pr19_f y_2781pr18_f y_2781pr21_f y_2781pr20_f y_2781pr22_f y_2781pr23_f y_2781l2 y_2781k0 e_ => ?_) _ r19_f r18_f r21_f r20_f zr22_f_2762 zr23_f_2763 0 (by first | assumption | omega | decide | exact hCF _ (by omega)) (Nat.lt_succ_self _) e_
  show G E X 5 [(m, .inr (11, mkF r m_1 m_4 m_9 m_10 m_14 m_15 m_25 m_26 m_27 m_28 m_29 m_31 m_32 m_33 m_35 m_36 m_37 m_38 m_39 m_40 m_42)), ((r 16), .inl (E.2.2.1 0, 8, .inl r16_f)), ((r 19), .inl (E.2.2.1 0, 128, .inl y_2781pr19_f)), ((r 18), .inl (E.2.2.1 0, 16, .inl y_2781pr18_f)), ((r 21), .inl (E.2.2.1 0, 8, .inl y_2781pr21_f)), ((r 20), .inl (E.2.2.1 0, 8, .inl y_2781pr20_f)), ((r 17), .inl (E.2.2.1 0, 8, .inl r17_f)), ((r 41), .inl (E.2.2.1 0, 1200, .inl r41_f)), ((r 22), .inl (E.2.2.1 0, 16, .inl y_2781pr22_f)), ((r 23), .inl (E.2.2.1 0, 128, .inl y_2781pr23_f))] 0 0 [(0, .ref m), (1, .int (nI fr)), (2, .int (nI y_2781l2))] 58 []
  refine g_iconst (v := 1) B dX11_isSilent_58 (by decide) ?_
  exact g_zret B hr (by decide) dX11_isSilent_59 (by decide) (by decide) ⟨y_2781pr18_f, y_2781pr19_f, y_2781pr21_f, y_2781pr20_f, y_2781pr22_f, y_2781pr23_f, 1, (by first | assumption | omega | decide | exact hCF _ (by omega)), e_, rfl, rfl⟩
