theorem sy_5 {k : Nat} (hk : k ≤ 1200) (h : ¬ nI 1200 < nI k + 5) : k + 5 ≤ 1200 := by
  have e : nI k + 5 = nI (k + 5) := nI_add k 5
  rw [e] at h
  rcases Nat.lt_or_ge 1200 (k + 5) with h1 | h1
  · exact absurd (nI_lt h1 (by omega)) h
  · exact h1
theorem ct_n {n : Int32} {k : Nat} (hk : k ≤ 1200) (h0 : ¬ n < 0) (h1 : n ≤ nI k) : ∃ j : Nat, j ≤ 1200 ∧ n = nI j := by
  obtain ⟨j, hj, e⟩ := nI_of2 (n := k) (nI_toInt (by omega)) h0 h1
  exact ⟨j, by omega, e⟩
theorem sl_4 {x : Int32} (h : ¬ x ≤ 4) : x - 4 ≤ 2147483643 := by
  have h1 := Int32.lt_iff_toInt_lt.mp (o_2 h)
  have e4 : (4 : Int32).toInt = 4 := by decide
  rw [e4] at h1
  have h2 := x.toInt_lt
  refine Int32.le_iff_toInt_le.mpr ?_
  rw [Int32.toInt_sub, e4, Int.bmod_eq_of_le (by omega) (by omega)]
  have e5 : (2147483643 : Int32).toInt = 2147483643 := by decide
  omega
abbrev MX10_say : g_M := (yX10_say, cX10_say, 6, (some .int))
theorem dX10_say_0 : decode cX10_say 0 = .ok (.aload_n 0, 1) := by decide +kernel
theorem dX10_say_1 : decode cX10_say 1 = .ok (.getfield 13, 3) := by decide +kernel
theorem dX10_say_4 : decode cX10_say 4 = .ok (.ifCond .lt 17, 3) := by decide +kernel
theorem dX10_say_21 : decode cX10_say 21 = .ok (.iconst (-1), 1) := by decide +kernel
theorem dX10_say_22 : decode cX10_say 22 = .ok (.ireturn, 1) := by decide +kernel
theorem dX10_say_7 : decode cX10_say 7 = .ok (.aload_n 0, 1) := by decide +kernel
theorem dX10_say_8 : decode cX10_say 8 = .ok (.getfield 13, 3) := by decide +kernel
theorem dX10_say_11 : decode cX10_say 11 = .ok (.iconst 5, 1) := by decide +kernel
theorem dX10_say_12 : decode cX10_say 12 = .ok (.iadd, 1) := by decide +kernel
theorem dX10_say_13 : decode cX10_say 13 = .ok (.aload_n 0, 1) := by decide +kernel
theorem dX10_say_14 : decode cX10_say 14 = .ok (.getfield 9, 3) := by decide +kernel
theorem dX10_say_17 : decode cX10_say 17 = .ok (.arraylength, 1) := by decide +kernel
theorem dX10_say_18 : decode cX10_say 18 = .ok (.if_icmp .le 5, 3) := by decide +kernel
theorem dX10_say_23 : decode cX10_say 23 = .ok (.aload_n 0, 1) := by decide +kernel
theorem dX10_say_24 : decode cX10_say 24 = .ok (.getfield 9, 3) := by decide +kernel
theorem dX10_say_27 : decode cX10_say 27 = .ok (.aload_n 0, 1) := by decide +kernel
theorem dX10_say_28 : decode cX10_say 28 = .ok (.getfield 13, 3) := by decide +kernel
theorem dX10_say_31 : decode cX10_say 31 = .ok (.iload_n 1, 1) := by decide +kernel
theorem dX10_say_32 : decode cX10_say 32 = .ok (.iastore, 1) := by decide +kernel
theorem dX10_say_33 : decode cX10_say 33 = .ok (.aload_n 0, 1) := by decide +kernel
theorem dX10_say_34 : decode cX10_say 34 = .ok (.getfield 9, 3) := by decide +kernel
theorem dX10_say_37 : decode cX10_say 37 = .ok (.aload_n 0, 1) := by decide +kernel
theorem dX10_say_38 : decode cX10_say 38 = .ok (.getfield 13, 3) := by decide +kernel
theorem dX10_say_41 : decode cX10_say 41 = .ok (.iconst 1, 1) := by decide +kernel
theorem dX10_say_42 : decode cX10_say 42 = .ok (.iadd, 1) := by decide +kernel
theorem dX10_say_43 : decode cX10_say 43 = .ok (.iload_n 2, 1) := by decide +kernel
theorem dX10_say_44 : decode cX10_say 44 = .ok (.iastore, 1) := by decide +kernel
theorem dX10_say_45 : decode cX10_say 45 = .ok (.aload_n 0, 1) := by decide +kernel
theorem dX10_say_46 : decode cX10_say 46 = .ok (.getfield 9, 3) := by decide +kernel
theorem dX10_say_49 : decode cX10_say 49 = .ok (.aload_n 0, 1) := by decide +kernel
theorem dX10_say_50 : decode cX10_say 50 = .ok (.getfield 13, 3) := by decide +kernel
theorem dX10_say_53 : decode cX10_say 53 = .ok (.iconst 2, 1) := by decide +kernel
theorem dX10_say_54 : decode cX10_say 54 = .ok (.iadd, 1) := by decide +kernel
theorem dX10_say_55 : decode cX10_say 55 = .ok (.iload_n 3, 1) := by decide +kernel
theorem dX10_say_56 : decode cX10_say 56 = .ok (.iastore, 1) := by decide +kernel
theorem dX10_say_57 : decode cX10_say 57 = .ok (.aload_n 0, 1) := by decide +kernel
theorem dX10_say_58 : decode cX10_say 58 = .ok (.getfield 9, 3) := by decide +kernel
theorem dX10_say_61 : decode cX10_say 61 = .ok (.aload_n 0, 1) := by decide +kernel
theorem dX10_say_62 : decode cX10_say 62 = .ok (.getfield 13, 3) := by decide +kernel
theorem dX10_say_65 : decode cX10_say 65 = .ok (.iconst 3, 1) := by decide +kernel
theorem dX10_say_66 : decode cX10_say 66 = .ok (.iadd, 1) := by decide +kernel
theorem dX10_say_67 : decode cX10_say 67 = .ok (.iload 4, 2) := by decide +kernel
theorem dX10_say_69 : decode cX10_say 69 = .ok (.iastore, 1) := by decide +kernel
theorem dX10_say_70 : decode cX10_say 70 = .ok (.aload_n 0, 1) := by decide +kernel
theorem dX10_say_71 : decode cX10_say 71 = .ok (.getfield 9, 3) := by decide +kernel
theorem dX10_say_74 : decode cX10_say 74 = .ok (.aload_n 0, 1) := by decide +kernel
theorem dX10_say_75 : decode cX10_say 75 = .ok (.getfield 13, 3) := by decide +kernel
theorem dX10_say_78 : decode cX10_say 78 = .ok (.iconst 4, 1) := by decide +kernel
theorem dX10_say_79 : decode cX10_say 79 = .ok (.iadd, 1) := by decide +kernel
theorem dX10_say_80 : decode cX10_say 80 = .ok (.iload 5, 2) := by decide +kernel
theorem dX10_say_82 : decode cX10_say 82 = .ok (.iastore, 1) := by decide +kernel
theorem dX10_say_83 : decode cX10_say 83 = .ok (.aload_n 0, 1) := by decide +kernel
theorem dX10_say_84 : decode cX10_say 84 = .ok (.dup, 1) := by decide +kernel
theorem dX10_say_85 : decode cX10_say 85 = .ok (.getfield 13, 3) := by decide +kernel
theorem dX10_say_88 : decode cX10_say 88 = .ok (.iconst 5, 1) := by decide +kernel
theorem dX10_say_89 : decode cX10_say 89 = .ok (.iadd, 1) := by decide +kernel
theorem dX10_say_90 : decode cX10_say 90 = .ok (.putfield 13, 3) := by decide +kernel
theorem dX10_say_93 : decode cX10_say 93 = .ok (.aload_n 0, 1) := by decide +kernel
theorem dX10_say_94 : decode cX10_say 94 = .ok (.getfield 13, 3) := by decide +kernel
theorem dX10_say_97 : decode cX10_say 97 = .ok (.ireturn, 1) := by decide +kernel
set_option maxRecDepth 100000 in
def fn_wk_X10_say (x_1 : Nat) (nu_f : Nat → Int32) (a0 : Int32) (a1 : Int32) (a2 : Int32) (a3 : Int32) (a4 : Int32) (β : Type) (k_ : Nat → (Nat → Int32) → Int32 → β) : β := (if nI x_1 < 0 then (k_ x_1 nu_f (-1)) else (if (nI x_1 + 5) ≤ 1200 then (k_ (x_1 + 5) (upd (upd (upd (upd (upd nu_f x_1 a0) (Int32.toNatClampNeg (nI x_1 + 1)) a1) (Int32.toNatClampNeg (nI x_1 + 2)) a2) (Int32.toNatClampNeg (nI x_1 + 3)) a3) (Int32.toNatClampNeg (nI x_1 + 4)) a4) (nI (x_1 + 5))) else (k_ x_1 nu_f (-1))))
set_option maxRecDepth 100000 in
theorem fn_wk_X10_say_s {x_1 : Nat} {nu_f : Nat → Int32} {a0 : Int32} {a1 : Int32} {a2 : Int32} {a3 : Int32} {a4 : Int32} {β : Type} {k_ : Nat → (Nat → Int32) → Int32 → β} : fn_wk_X10_say x_1 nu_f a0 a1 a2 a3 a4 β k_ = (if nI x_1 < 0 then (k_ x_1 nu_f (-1)) else (if (nI x_1 + 5) ≤ 1200 then (k_ (x_1 + 5) (upd (upd (upd (upd (upd nu_f x_1 a0) (Int32.toNatClampNeg (nI x_1 + 1)) a1) (Int32.toNatClampNeg (nI x_1 + 2)) a2) (Int32.toNatClampNeg (nI x_1 + 3)) a3) (Int32.toNatClampNeg (nI x_1 + 4)) a4) (nI (x_1 + 5))) else (k_ x_1 nu_f (-1)))) := rfl
set_option maxRecDepth 100000 in
set_option maxHeartbeats 4000000 in
theorem wk_X10_say (E : g_E) (x : Nat) (nu : Nat) (pl : Nat) (tp : Nat) (sd : Nat) (fi : Nat) (se : Nat) (enc : Nat) (dec : Nat) (wl : Nat) (wsp : Nat) (x_1 : Nat) (nu_f : Nat → Int32) (a0 : Int32) (a1 : Int32) (a2 : Int32) (a3 : Int32) (a4 : Int32) (hp0 : x_1 ≤ 1200) : Ev E MX10_say 0 0 0 0 [.ref x, .int a0, .int a1, .int a2, .int a3, .int a4] [(x, .inr (10, [.ref nu, .int (nI x_1), .ref pl, .ref tp, .ref sd, .ref fi, .ref se, .ref enc, .ref dec, .ref wl, .ref wsp])), (nu, .inl (E.2.2.1 0, 1200, .inl nu_f))] (fun v_ w_ => ∃ zx_1 : Nat, ∃ znu_f : Nat → Int32, ∃ zr : Int32, (zx_1 ≤ 1200) ∧ (∀ (β : Type) (k_ : Nat → (Nat → Int32) → Int32 → β), fn_wk_X10_say x_1 nu_f a0 a1 a2 a3 a4 β k_ = k_ zx_1 znu_f zr) ∧ v_ = some (.int zr) ∧ w_ = [(x, .inr (10, [.ref nu, .int (nI zx_1), .ref pl, .ref tp, .ref sd, .ref fi, .ref se, .ref enc, .ref dec, .ref wl, .ref wsp])), (nu, .inl (E.2.2.1 0, 1200, .inl znu_f))]) := by
  refine Ev.intro (by decide) (Nat.le_of_ble_eq_true rfl) ?_
  intro X B hr hI
  have B : Bd E X cX10_say RX10 6 0 0 0 0 := B
  have hr : Rt E X (some .int) 0 0 (fun v_ w_ => ∃ zx_1 : Nat, ∃ znu_f : Nat → Int32, ∃ zr : Int32, (zx_1 ≤ 1200) ∧ (∀ (β : Type) (k_ : Nat → (Nat → Int32) → Int32 → β), fn_wk_X10_say x_1 nu_f a0 a1 a2 a3 a4 β k_ = k_ zx_1 znu_f zr) ∧ v_ = some (.int zr) ∧ w_ = [(x, .inr (10, [.ref nu, .int (nI zx_1), .ref pl, .ref tp, .ref sd, .ref fi, .ref se, .ref enc, .ref dec, .ref wl, .ref wsp])), (nu, .inl (E.2.2.1 0, 1200, .inl znu_f))]) := hr
  have e_ := fun (β : Type) (k_ : Nat → (Nat → Int32) → Int32 → β) => fn_wk_X10_say_s (β := β) (k_ := k_) (x_1 := x_1) (nu_f := nu_f) (a0 := a0) (a1 := a1) (a2 := a2) (a3 := a3) (a4 := a4)
  show G E X 6 [(x, .inr (10, [.ref nu, .int (nI x_1), .ref pl, .ref tp, .ref sd, .ref fi, .ref se, .ref enc, .ref dec, .ref wl, .ref wsp])), (nu, .inl (E.2.2.1 0, 1200, .inl nu_f))] 0 0 [(0, .ref x), (1, .int a0), (2, .int a1), (3, .int a2), (4, .int a3), (5, .int a4)] 0 []
  refine g_aload_n B dX10_say_0 rfl 0 rfl ?_
  refine g_get B 0 1 fl_X10_13 rfl rfl dX10_say_1 ?_
  refine g_if_lt (tgt := 21) B dX10_say_4 (by decide) (fun c4_1367 => ?_) (fun c4_1367 => ?_)
  · replace e_ := fun β k_ => (e_ β k_).trans (if_pos c4_1367)
    refine g_iconst (v := (-1)) B dX10_say_21 (by decide) ?_
    exact g_iret B hr dX10_say_22 (by decide) (by decide) ⟨x_1, nu_f, (-1), (by first | assumption | omega | decide), e_, rfl, rfl⟩
  · replace e_ := fun β k_ => (e_ β k_).trans (if_neg c4_1367)
    refine g_aload_n B dX10_say_7 rfl 0 rfl ?_
    refine g_get B 0 1 fl_X10_13 rfl rfl dX10_say_8 ?_
    refine g_iconst (v := 5) B dX10_say_11 (by decide) ?_
    refine g_iadd B dX10_say_12 ?_
    refine g_aload_n B dX10_say_13 rfl 0 rfl ?_
    refine g_get B 0 0 fl_X10_9 rfl rfl dX10_say_14 ?_
    refine g_alen (v := nI 1200) B 1 (by decide) rfl rfl dX10_say_17 ?_
    refine g_ri (x' := 1200) (by decide) ?_
    refine g_icmp_le (tgt := 23) B dX10_say_18 (by decide) (fun c18_1368 => ?_) (fun c18_1368 => ?_)
    · replace e_ := fun β k_ => (e_ β k_).trans (if_pos c18_1368)
      refine g_aload_n B dX10_say_23 rfl 0 rfl ?_
      refine g_get B 0 0 fl_X10_9 rfl rfl dX10_say_24 ?_
      refine g_aload_n B dX10_say_27 rfl 0 rfl ?_
      refine g_get B 0 1 fl_X10_13 rfl rfl dX10_say_28 ?_
      refine g_iload_n B dX10_say_31 rfl 1 rfl ?_
      refine g_iast (ws' := [(x, .inr (10, [.ref nu, .int (nI x_1), .ref pl, .ref tp, .ref sd, .ref fi, .ref se, .ref enc, .ref dec, .ref wl, .ref wsp])), (nu, .inl (E.2.2.1 0, 1200, .inl (upd nu_f x_1 a0)))]) B 1 rfl (vp_in_nI (by have := sy_5 hp0 (o_4 c18_1368); omega) (by decide)) (by rw [nI_clamp (n := x_1) (by omega)]; rfl) dX10_say_32 ?_
      refine g_aload_n B dX10_say_33 rfl 0 rfl ?_
      refine g_get B 0 0 fl_X10_9 rfl rfl dX10_say_34 ?_
      refine g_aload_n B dX10_say_37 rfl 0 rfl ?_
      refine g_get B 0 1 fl_X10_13 rfl rfl dX10_say_38 ?_
      refine g_iconst (v := 1) B dX10_say_41 (by decide) ?_
      refine g_iadd B dX10_say_42 ?_
      refine g_iload_n B dX10_say_43 rfl 2 rfl ?_
      refine g_iast (ws' := [(x, .inr (10, [.ref nu, .int (nI x_1), .ref pl, .ref tp, .ref sd, .ref fi, .ref se, .ref enc, .ref dec, .ref wl, .ref wsp])), (nu, .inl (E.2.2.1 0, 1200, .inl (upd (upd nu_f x_1 a0) (Int32.toNatClampNeg (nI x_1 + 1)) a1)))]) B 1 rfl (show vp_in (nI x_1 + nI 1) 1200 from (nI_add x_1 1).symm ▸ vp_in_nI (by have := sy_5 hp0 (o_4 c18_1368); omega) (by decide)) rfl dX10_say_44 ?_
      refine g_aload_n B dX10_say_45 rfl 0 rfl ?_
      refine g_get B 0 0 fl_X10_9 rfl rfl dX10_say_46 ?_
      refine g_aload_n B dX10_say_49 rfl 0 rfl ?_
      refine g_get B 0 1 fl_X10_13 rfl rfl dX10_say_50 ?_
      refine g_iconst (v := 2) B dX10_say_53 (by decide) ?_
      refine g_iadd B dX10_say_54 ?_
      refine g_iload_n B dX10_say_55 rfl 3 rfl ?_
      refine g_iast (ws' := [(x, .inr (10, [.ref nu, .int (nI x_1), .ref pl, .ref tp, .ref sd, .ref fi, .ref se, .ref enc, .ref dec, .ref wl, .ref wsp])), (nu, .inl (E.2.2.1 0, 1200, .inl (upd (upd (upd nu_f x_1 a0) (Int32.toNatClampNeg (nI x_1 + 1)) a1) (Int32.toNatClampNeg (nI x_1 + 2)) a2)))]) B 1 rfl (show vp_in (nI x_1 + nI 2) 1200 from (nI_add x_1 2).symm ▸ vp_in_nI (by have := sy_5 hp0 (o_4 c18_1368); omega) (by decide)) rfl dX10_say_56 ?_
      refine g_aload_n B dX10_say_57 rfl 0 rfl ?_
      refine g_get B 0 0 fl_X10_9 rfl rfl dX10_say_58 ?_
      refine g_aload_n B dX10_say_61 rfl 0 rfl ?_
      refine g_get B 0 1 fl_X10_13 rfl rfl dX10_say_62 ?_
      refine g_iconst (v := 3) B dX10_say_65 (by decide) ?_
      refine g_iadd B dX10_say_66 ?_
      refine g_iload B dX10_say_67 4 rfl ?_
      refine g_iast (ws' := [(x, .inr (10, [.ref nu, .int (nI x_1), .ref pl, .ref tp, .ref sd, .ref fi, .ref se, .ref enc, .ref dec, .ref wl, .ref wsp])), (nu, .inl (E.2.2.1 0, 1200, .inl (upd (upd (upd (upd nu_f x_1 a0) (Int32.toNatClampNeg (nI x_1 + 1)) a1) (Int32.toNatClampNeg (nI x_1 + 2)) a2) (Int32.toNatClampNeg (nI x_1 + 3)) a3)))]) B 1 rfl (show vp_in (nI x_1 + nI 3) 1200 from (nI_add x_1 3).symm ▸ vp_in_nI (by have := sy_5 hp0 (o_4 c18_1368); omega) (by decide)) rfl dX10_say_69 ?_
      refine g_aload_n B dX10_say_70 rfl 0 rfl ?_
      refine g_get B 0 0 fl_X10_9 rfl rfl dX10_say_71 ?_
      refine g_aload_n B dX10_say_74 rfl 0 rfl ?_
      refine g_get B 0 1 fl_X10_13 rfl rfl dX10_say_75 ?_
      refine g_iconst (v := 4) B dX10_say_78 (by decide) ?_
      refine g_iadd B dX10_say_79 ?_
      refine g_iload B dX10_say_80 5 rfl ?_
      refine g_iast (ws' := [(x, .inr (10, [.ref nu, .int (nI x_1), .ref pl, .ref tp, .ref sd, .ref fi, .ref se, .ref enc, .ref dec, .ref wl, .ref wsp])), (nu, .inl (E.2.2.1 0, 1200, .inl (upd (upd (upd (upd (upd nu_f x_1 a0) (Int32.toNatClampNeg (nI x_1 + 1)) a1) (Int32.toNatClampNeg (nI x_1 + 2)) a2) (Int32.toNatClampNeg (nI x_1 + 3)) a3) (Int32.toNatClampNeg (nI x_1 + 4)) a4)))]) B 1 rfl (show vp_in (nI x_1 + nI 4) 1200 from (nI_add x_1 4).symm ▸ vp_in_nI (by have := sy_5 hp0 (o_4 c18_1368); omega) (by decide)) rfl dX10_say_82 ?_
      refine g_aload_n B dX10_say_83 rfl 0 rfl ?_
      refine g_dup B dX10_say_84 rfl ?_
      refine g_get B 0 1 fl_X10_13 rfl rfl dX10_say_85 ?_
      refine g_iconst (v := 5) B dX10_say_88 (by decide) ?_
      refine g_iadd B dX10_say_89 ?_
      have hq1 := sy_5 hp0 (o_4 c18_1368)
      refine g_ri (x' := nI (x_1 + 5)) (nI_add x_1 5) ?_
      refine g_put (ws' := [(x, .inr (10, [.ref nu, .int (nI (x_1 + 5)), .ref pl, .ref tp, .ref sd, .ref fi, .ref se, .ref enc, .ref dec, .ref wl, .ref wsp])), (nu, .inl (E.2.2.1 0, 1200, .inl (upd (upd (upd (upd (upd nu_f x_1 a0) (Int32.toNatClampNeg (nI x_1 + 1)) a1) (Int32.toNatClampNeg (nI x_1 + 2)) a2) (Int32.toNatClampNeg (nI x_1 + 3)) a3) (Int32.toNatClampNeg (nI x_1 + 4)) a4)))]) B 0 1 fl_X10_13 pf_X10_1 rfl (Nat.le_of_ble_eq_true rfl) rfl rfl rfl dX10_say_90 ?_
      refine g_aload_n B dX10_say_93 rfl 0 rfl ?_
      refine g_get B 0 1 fl_X10_13 rfl rfl dX10_say_94 ?_
      exact g_iret B hr dX10_say_97 (by decide) (by decide) ⟨(x_1 + 5), (upd (upd (upd (upd (upd nu_f x_1 a0) (Int32.toNatClampNeg (nI x_1 + 1)) a1) (Int32.toNatClampNeg (nI x_1 + 2)) a2) (Int32.toNatClampNeg (nI x_1 + 3)) a3) (Int32.toNatClampNeg (nI x_1 + 4)) a4), (nI (x_1 + 5)), (by first | assumption | omega | decide), e_, rfl, rfl⟩
    · replace e_ := fun β k_ => (e_ β k_).trans (if_neg c18_1368)
      refine g_iconst (v := (-1)) B dX10_say_21 (by decide) ?_
      exact g_iret B hr dX10_say_22 (by decide) (by decide) ⟨x_1, nu_f, (-1), (by first | assumption | omega | decide), e_, rfl, rfl⟩
abbrev MX10_cut : g_M := (yX10_cut, cX10_cut, 2, (some .boolean))
theorem dX10_cut_0 : decode cX10_cut 0 = .ok (.iload_n 1, 1) := by decide +kernel
theorem dX10_cut_1 : decode cX10_cut 1 = .ok (.ifCond .lt 11, 3) := by decide +kernel
theorem dX10_cut_12 : decode cX10_cut 12 = .ok (.iconst 0, 1) := by decide +kernel
theorem dX10_cut_13 : decode cX10_cut 13 = .ok (.ireturn, 1) := by decide +kernel
theorem dX10_cut_4 : decode cX10_cut 4 = .ok (.iload_n 1, 1) := by decide +kernel
theorem dX10_cut_5 : decode cX10_cut 5 = .ok (.aload_n 0, 1) := by decide +kernel
theorem dX10_cut_6 : decode cX10_cut 6 = .ok (.getfield 13, 3) := by decide +kernel
theorem dX10_cut_9 : decode cX10_cut 9 = .ok (.if_icmp .le 5, 3) := by decide +kernel
theorem dX10_cut_14 : decode cX10_cut 14 = .ok (.aload_n 0, 1) := by decide +kernel
theorem dX10_cut_15 : decode cX10_cut 15 = .ok (.iload_n 1, 1) := by decide +kernel
theorem dX10_cut_16 : decode cX10_cut 16 = .ok (.putfield 13, 3) := by decide +kernel
theorem dX10_cut_19 : decode cX10_cut 19 = .ok (.iconst 1, 1) := by decide +kernel
theorem dX10_cut_20 : decode cX10_cut 20 = .ok (.ireturn, 1) := by decide +kernel
set_option maxRecDepth 100000 in
def fn_wk_X10_cut (x_1 : Nat) (n : Int32) (β : Type) (k_ : Nat → Int32 → β) : β := (if n < 0 then (k_ x_1 0) else (if n ≤ nI x_1 then (fnL (Int32.toNatClampNeg n) (fun nj => (k_ nj 1))) else (k_ x_1 0)))
set_option maxRecDepth 100000 in
theorem fn_wk_X10_cut_s {x_1 : Nat} {n : Int32} {β : Type} {k_ : Nat → Int32 → β} : fn_wk_X10_cut x_1 n β k_ = (if n < 0 then (k_ x_1 0) else (if n ≤ nI x_1 then (fnL (Int32.toNatClampNeg n) (fun nj => (k_ nj 1))) else (k_ x_1 0))) := rfl
set_option maxRecDepth 100000 in
set_option maxHeartbeats 4000000 in
theorem wk_X10_cut (E : g_E) (x : Nat) (nu : Nat) (pl : Nat) (tp : Nat) (sd : Nat) (fi : Nat) (se : Nat) (enc : Nat) (dec : Nat) (wl : Nat) (wsp : Nat) (x_1 : Nat) (n : Int32) (hp0 : x_1 ≤ 1200) : Ev E MX10_cut 0 0 0 0 [.ref x, .int n] [(x, .inr (10, [.ref nu, .int (nI x_1), .ref pl, .ref tp, .ref sd, .ref fi, .ref se, .ref enc, .ref dec, .ref wl, .ref wsp]))] (fun v_ w_ => ∃ zx_1 : Nat, ∃ zr : Int32, (zr = 0 ∨ zr = 1) ∧ (zx_1 ≤ 1200) ∧ (∀ (β : Type) (k_ : Nat → Int32 → β), fn_wk_X10_cut x_1 n β k_ = k_ zx_1 zr) ∧ v_ = some (.int zr) ∧ w_ = [(x, .inr (10, [.ref nu, .int (nI zx_1), .ref pl, .ref tp, .ref sd, .ref fi, .ref se, .ref enc, .ref dec, .ref wl, .ref wsp]))]) := by
  refine Ev.intro (by decide) (Nat.le_of_ble_eq_true rfl) ?_
  intro X B hr hI
  have B : Bd E X cX10_cut RX10 2 0 0 0 0 := B
  have hr : Rt E X (some .boolean) 0 0 (fun v_ w_ => ∃ zx_1 : Nat, ∃ zr : Int32, (zr = 0 ∨ zr = 1) ∧ (zx_1 ≤ 1200) ∧ (∀ (β : Type) (k_ : Nat → Int32 → β), fn_wk_X10_cut x_1 n β k_ = k_ zx_1 zr) ∧ v_ = some (.int zr) ∧ w_ = [(x, .inr (10, [.ref nu, .int (nI zx_1), .ref pl, .ref tp, .ref sd, .ref fi, .ref se, .ref enc, .ref dec, .ref wl, .ref wsp]))]) := hr
  have e_ := fun (β : Type) (k_ : Nat → Int32 → β) => fn_wk_X10_cut_s (β := β) (k_ := k_) (x_1 := x_1) (n := n)
  show G E X 2 [(x, .inr (10, [.ref nu, .int (nI x_1), .ref pl, .ref tp, .ref sd, .ref fi, .ref se, .ref enc, .ref dec, .ref wl, .ref wsp]))] 0 0 [(0, .ref x), (1, .int n)] 0 []
  refine g_iload_n B dX10_cut_0 rfl 1 rfl ?_
  refine g_if_lt (tgt := 12) B dX10_cut_1 (by decide) (fun c1_1369 => ?_) (fun c1_1369 => ?_)
  · replace e_ := fun β k_ => (e_ β k_).trans (if_pos c1_1369)
    refine g_iconst (v := 0) B dX10_cut_12 (by decide) ?_
    exact g_zret B hr (by decide) dX10_cut_13 (by decide) (by decide) ⟨x_1, 0, (Or.inl rfl), (by first | assumption | omega | decide), e_, rfl, rfl⟩
  · replace e_ := fun β k_ => (e_ β k_).trans (if_neg c1_1369)
    refine g_iload_n B dX10_cut_4 rfl 1 rfl ?_
    refine g_aload_n B dX10_cut_5 rfl 0 rfl ?_
    refine g_get B 0 1 fl_X10_13 rfl rfl dX10_cut_6 ?_
    refine g_icmp_le (tgt := 14) B dX10_cut_9 (by decide) (fun c9_1370 => ?_) (fun c9_1370 => ?_)
    · replace e_ := fun β k_ => (e_ β k_).trans (if_pos c9_1370)
      refine g_aload_n B dX10_cut_14 rfl 0 rfl ?_
      refine g_iload_n B dX10_cut_15 rfl 1 rfl ?_
      obtain ⟨nj, hnj, rfl⟩ := ct_n hp0 c1_1369 c9_1370
      replace e_ := fun β k_ => (e_ β k_).trans (fnL_eq (x := nj) (nI_clamp (by omega)) _)
      refine g_put (ws' := [(x, .inr (10, [.ref nu, .int (nI nj), .ref pl, .ref tp, .ref sd, .ref fi, .ref se, .ref enc, .ref dec, .ref wl, .ref wsp]))]) B 0 1 fl_X10_13 pf_X10_1 rfl (Nat.le_of_ble_eq_true rfl) rfl rfl rfl dX10_cut_16 ?_
      refine g_iconst (v := 1) B dX10_cut_19 (by decide) ?_
      exact g_zret B hr (by decide) dX10_cut_20 (by decide) (by decide) ⟨nj, 1, (Or.inr rfl), (by first | assumption | omega | decide), e_, rfl, rfl⟩
    · replace e_ := fun β k_ => (e_ β k_).trans (if_neg c9_1370)
      refine g_iconst (v := 0) B dX10_cut_12 (by decide) ?_
      exact g_zret B hr (by decide) dX10_cut_13 (by decide) (by decide) ⟨x_1, 0, (Or.inl rfl), (by first | assumption | omega | decide), e_, rfl, rfl⟩
abbrev MX10_row : g_M := (yX10_row, cX10_row, 2, (some .int))
theorem dX10_row_0 : decode cX10_row 0 = .ok (.iload_n 1, 1) := by decide +kernel
theorem dX10_row_1 : decode cX10_row 1 = .ok (.ifCond .lt 29, 3) := by decide +kernel
theorem dX10_row_30 : decode cX10_row 30 = .ok (.iconst 0, 1) := by decide +kernel
theorem dX10_row_31 : decode cX10_row 31 = .ok (.ireturn, 1) := by decide +kernel
theorem dX10_row_4 : decode cX10_row 4 = .ok (.iload_n 1, 1) := by decide +kernel
theorem dX10_row_5 : decode cX10_row 5 = .ok (.aload_n 0, 1) := by decide +kernel
theorem dX10_row_6 : decode cX10_row 6 = .ok (.getfield 13, 3) := by decide +kernel
theorem dX10_row_9 : decode cX10_row 9 = .ok (.if_icmp .ge 21, 3) := by decide +kernel
theorem dX10_row_12 : decode cX10_row 12 = .ok (.iload_n 1, 1) := by decide +kernel
theorem dX10_row_13 : decode cX10_row 13 = .ok (.aload_n 0, 1) := by decide +kernel
theorem dX10_row_14 : decode cX10_row 14 = .ok (.getfield 9, 3) := by decide +kernel
theorem dX10_row_17 : decode cX10_row 17 = .ok (.arraylength, 1) := by decide +kernel
theorem dX10_row_18 : decode cX10_row 18 = .ok (.if_icmp .ge 12, 3) := by decide +kernel
theorem dX10_row_21 : decode cX10_row 21 = .ok (.aload_n 0, 1) := by decide +kernel
theorem dX10_row_22 : decode cX10_row 22 = .ok (.getfield 9, 3) := by decide +kernel
theorem dX10_row_25 : decode cX10_row 25 = .ok (.iload_n 1, 1) := by decide +kernel
theorem dX10_row_26 : decode cX10_row 26 = .ok (.iaload, 1) := by decide +kernel
theorem dX10_row_27 : decode cX10_row 27 = .ok (.goto 4, 3) := by decide +kernel
set_option maxRecDepth 100000 in
def fn_wk_X10_row (x_1 : Nat) (nu_f : Nat → Int32) (i : Int32) (β : Type) (k_ : Int32 → β) : β := (if i < 0 then (k_ 0) else (if nI x_1 ≤ i then (k_ 0) else (if 1200 ≤ i then (k_ 0) else (k_ (nu_f (Int32.toNatClampNeg i))))))
set_option maxRecDepth 100000 in
theorem fn_wk_X10_row_s {x_1 : Nat} {nu_f : Nat → Int32} {i : Int32} {β : Type} {k_ : Int32 → β} : fn_wk_X10_row x_1 nu_f i β k_ = (if i < 0 then (k_ 0) else (if nI x_1 ≤ i then (k_ 0) else (if 1200 ≤ i then (k_ 0) else (k_ (nu_f (Int32.toNatClampNeg i)))))) := rfl
set_option maxRecDepth 100000 in
set_option maxHeartbeats 4000000 in
theorem wk_X10_row (E : g_E) (x : Nat) (nu : Nat) (pl : Nat) (tp : Nat) (sd : Nat) (fi : Nat) (se : Nat) (enc : Nat) (dec : Nat) (wl : Nat) (wsp : Nat) (x_1 : Nat) (nu_f : Nat → Int32) (i : Int32) (hk0 : x_1 ≤ 1200) : Ev E MX10_row 0 0 0 0 [.ref x, .int i] [(x, .inr (10, [.ref nu, .int (nI x_1), .ref pl, .ref tp, .ref sd, .ref fi, .ref se, .ref enc, .ref dec, .ref wl, .ref wsp])), (nu, .inl (E.2.2.1 0, 1200, .inl nu_f))] (fun v_ w_ => ∃ zr : Int32, (∀ (β : Type) (k_ : Int32 → β), fn_wk_X10_row x_1 nu_f i β k_ = k_ zr) ∧ v_ = some (.int zr) ∧ w_ = [(x, .inr (10, [.ref nu, .int (nI x_1), .ref pl, .ref tp, .ref sd, .ref fi, .ref se, .ref enc, .ref dec, .ref wl, .ref wsp])), (nu, .inl (E.2.2.1 0, 1200, .inl nu_f))]) := by
  refine Ev.intro (by decide) (Nat.le_of_ble_eq_true rfl) ?_
  intro X B hr hI
  have B : Bd E X cX10_row RX10 2 0 0 0 0 := B
  have hr : Rt E X (some .int) 0 0 (fun v_ w_ => ∃ zr : Int32, (∀ (β : Type) (k_ : Int32 → β), fn_wk_X10_row x_1 nu_f i β k_ = k_ zr) ∧ v_ = some (.int zr) ∧ w_ = [(x, .inr (10, [.ref nu, .int (nI x_1), .ref pl, .ref tp, .ref sd, .ref fi, .ref se, .ref enc, .ref dec, .ref wl, .ref wsp])), (nu, .inl (E.2.2.1 0, 1200, .inl nu_f))]) := hr
  have e_ := fun (β : Type) (k_ : Int32 → β) => fn_wk_X10_row_s (β := β) (k_ := k_) (x_1 := x_1) (nu_f := nu_f) (i := i)
  show G E X 2 [(x, .inr (10, [.ref nu, .int (nI x_1), .ref pl, .ref tp, .ref sd, .ref fi, .ref se, .ref enc, .ref dec, .ref wl, .ref wsp])), (nu, .inl (E.2.2.1 0, 1200, .inl nu_f))] 0 0 [(0, .ref x), (1, .int i)] 0 []
  refine g_iload_n B dX10_row_0 rfl 1 rfl ?_
  refine g_if_lt (tgt := 30) B dX10_row_1 (by decide) (fun c1_1371 => ?_) (fun c1_1371 => ?_)
  · replace e_ := fun β k_ => (e_ β k_).trans (if_pos c1_1371)
    refine g_iconst (v := 0) B dX10_row_30 (by decide) ?_
    exact g_iret B hr dX10_row_31 (by decide) (by decide) ⟨0, e_, rfl, rfl⟩
  · replace e_ := fun β k_ => (e_ β k_).trans (if_neg c1_1371)
    refine g_iload_n B dX10_row_4 rfl 1 rfl ?_
    refine g_aload_n B dX10_row_5 rfl 0 rfl ?_
    refine g_get B 0 1 fl_X10_13 rfl rfl dX10_row_6 ?_
    refine g_icmp_ge (tgt := 30) B dX10_row_9 (by decide) (fun c9_1372 => ?_) (fun c9_1372 => ?_)
    · replace e_ := fun β k_ => (e_ β k_).trans (if_pos c9_1372)
      refine g_iconst (v := 0) B dX10_row_30 (by decide) ?_
      exact g_iret B hr dX10_row_31 (by decide) (by decide) ⟨0, e_, rfl, rfl⟩
    · replace e_ := fun β k_ => (e_ β k_).trans (if_neg c9_1372)
      refine g_iload_n B dX10_row_12 rfl 1 rfl ?_
      refine g_aload_n B dX10_row_13 rfl 0 rfl ?_
      refine g_get B 0 0 fl_X10_9 rfl rfl dX10_row_14 ?_
      refine g_alen (v := nI 1200) B 1 (by decide) rfl rfl dX10_row_17 ?_
      refine g_ri (x' := 1200) (by decide) ?_
      refine g_icmp_ge (tgt := 30) B dX10_row_18 (by decide) (fun c18_1373 => ?_) (fun c18_1373 => ?_)
      · replace e_ := fun β k_ => (e_ β k_).trans (if_pos c18_1373)
        refine g_iconst (v := 0) B dX10_row_30 (by decide) ?_
        exact g_iret B hr dX10_row_31 (by decide) (by decide) ⟨0, e_, rfl, rfl⟩
      · replace e_ := fun β k_ => (e_ β k_).trans (if_neg c18_1373)
        refine g_aload_n B dX10_row_21 rfl 0 rfl ?_
        refine g_get B 0 0 fl_X10_9 rfl rfl dX10_row_22 ?_
        refine g_iload_n B dX10_row_25 rfl 1 rfl ?_
        refine g_iald B 1 rfl (in_lt (by decide) c1_1371 (o_2 c18_1373)) dX10_row_26 ?_
        refine g_goto (tgt := 31) B dX10_row_27 (by decide) ?_
        exact g_iret B hr dX10_row_31 (by decide) (by decide) ⟨(nu_f (Int32.toNatClampNeg i)), e_, rfl, rfl⟩
abbrev MX10_rows : g_M := (yX10_rows, cX10_rows, 1, (some .int))
theorem dX10_rows_0 : decode cX10_rows 0 = .ok (.aload_n 0, 1) := by decide +kernel
theorem dX10_rows_1 : decode cX10_rows 1 = .ok (.getfield 13, 3) := by decide +kernel
theorem dX10_rows_4 : decode cX10_rows 4 = .ok (.ireturn, 1) := by decide +kernel
set_option maxRecDepth 100000 in
def fn_wk_X10_rows (x_1 : Nat) (β : Type) (k_ : Int32 → β) : β := (k_ (nI x_1))
set_option maxRecDepth 100000 in
theorem fn_wk_X10_rows_s {x_1 : Nat} {β : Type} {k_ : Int32 → β} : fn_wk_X10_rows x_1 β k_ = (k_ (nI x_1)) := rfl
set_option maxRecDepth 100000 in
set_option maxHeartbeats 4000000 in
theorem wk_X10_rows (E : g_E) (x : Nat) (nu : Nat) (pl : Nat) (tp : Nat) (sd : Nat) (fi : Nat) (se : Nat) (enc : Nat) (dec : Nat) (wl : Nat) (wsp : Nat) (x_1 : Nat) (hk0 : x_1 ≤ 1200) : Ev E MX10_rows 0 0 0 0 [.ref x] [(x, .inr (10, [.ref nu, .int (nI x_1), .ref pl, .ref tp, .ref sd, .ref fi, .ref se, .ref enc, .ref dec, .ref wl, .ref wsp]))] (fun v_ w_ => ∃ zr : Int32, (∀ (β : Type) (k_ : Int32 → β), fn_wk_X10_rows x_1 β k_ = k_ zr) ∧ v_ = some (.int zr) ∧ w_ = [(x, .inr (10, [.ref nu, .int (nI x_1), .ref pl, .ref tp, .ref sd, .ref fi, .ref se, .ref enc, .ref dec, .ref wl, .ref wsp]))]) := by
  refine Ev.intro (by decide) (Nat.le_of_ble_eq_true rfl) ?_
  intro X B hr hI
  have B : Bd E X cX10_rows RX10 1 0 0 0 0 := B
  have hr : Rt E X (some .int) 0 0 (fun v_ w_ => ∃ zr : Int32, (∀ (β : Type) (k_ : Int32 → β), fn_wk_X10_rows x_1 β k_ = k_ zr) ∧ v_ = some (.int zr) ∧ w_ = [(x, .inr (10, [.ref nu, .int (nI x_1), .ref pl, .ref tp, .ref sd, .ref fi, .ref se, .ref enc, .ref dec, .ref wl, .ref wsp]))]) := hr
  have e_ := fun (β : Type) (k_ : Int32 → β) => fn_wk_X10_rows_s (β := β) (k_ := k_) (x_1 := x_1)
  show G E X 1 [(x, .inr (10, [.ref nu, .int (nI x_1), .ref pl, .ref tp, .ref sd, .ref fi, .ref se, .ref enc, .ref dec, .ref wl, .ref wsp]))] 0 0 [(0, .ref x)] 0 []
  refine g_aload_n B dX10_rows_0 rfl 0 rfl ?_
  refine g_get B 0 1 fl_X10_13 rfl rfl dX10_rows_1 ?_
  exact g_iret B hr dX10_rows_4 (by decide) (by decide) ⟨(nI x_1), e_, rfl, rfl⟩
abbrev MX10_fed : g_M := (yX10_fed, cX10_fed, 2, (some (.object "SoundPress$Bytes")))
theorem dX10_fed_0 : decode cX10_fed 0 = .ok (.iload_n 1, 1) := by decide +kernel
theorem dX10_fed_1 : decode cX10_fed 1 = .ok (.ifCond .ne 10, 3) := by decide +kernel
theorem dX10_fed_4 : decode cX10_fed 4 = .ok (.aload_n 0, 1) := by decide +kernel
theorem dX10_fed_5 : decode cX10_fed 5 = .ok (.getfield 29, 3) := by decide +kernel
theorem dX10_fed_8 : decode cX10_fed 8 = .ok (.goto 16, 3) := by decide +kernel
theorem dX10_fed_24 : decode cX10_fed 24 = .ok (.areturn, 1) := by decide +kernel
set_option maxRecDepth 100000 in
set_option maxHeartbeats 4000000 in
theorem wk_X10_fed_0 (E : g_E) (x : Nat) (nu : Nat) (pl : Nat) (tp : Nat) (sd : Nat) (fi : Nat) (se : Nat) (enc : Nat) (dec : Nat) (wl : Nat) (wsp : Nat) (xl : Int32)  : Ev E MX10_fed 0 0 0 0 [.ref x, .int 0] [(x, .inr (10, [.ref nu, .int xl, .ref pl, .ref tp, .ref sd, .ref fi, .ref se, .ref enc, .ref dec, .ref wl, .ref wsp]))] (fun v_ w_ => v_ = some (.ref tp) ∧ w_ = [(x, .inr (10, [.ref nu, .int xl, .ref pl, .ref tp, .ref sd, .ref fi, .ref se, .ref enc, .ref dec, .ref wl, .ref wsp]))]) := by
  refine Ev.intro (by decide) (Nat.le_of_ble_eq_true rfl) ?_
  intro X B hr hI
  have B : Bd E X cX10_fed RX10 2 0 0 0 0 := B
  have hr : Rt E X (some (.object "SoundPress$Bytes")) 0 0 (fun v_ w_ => v_ = some (.ref tp) ∧ w_ = [(x, .inr (10, [.ref nu, .int xl, .ref pl, .ref tp, .ref sd, .ref fi, .ref se, .ref enc, .ref dec, .ref wl, .ref wsp]))]) := hr
  show G E X 2 [(x, .inr (10, [.ref nu, .int xl, .ref pl, .ref tp, .ref sd, .ref fi, .ref se, .ref enc, .ref dec, .ref wl, .ref wsp]))] 0 0 [(0, .ref x), (1, .int 0)] 0 []
  refine g_iload_n B dX10_fed_0 rfl 1 rfl ?_
  refine g_if_ne (tgt := 11) B dX10_fed_1 (by decide) (fun h => absurd (by decide) h) (fun c1 => ?_)
  refine g_aload_n B dX10_fed_4 rfl 0 rfl ?_
  refine g_get B 0 3 fl_X10_29 rfl rfl dX10_fed_5 ?_
  refine g_goto (tgt := 24) B dX10_fed_8 (by decide) ?_
  exact g_aret B hr (Or.inr ⟨_, rfl⟩) dX10_fed_24 (by decide) (by decide) ⟨rfl, rfl⟩
theorem dX10_fed_11 : decode cX10_fed 11 = .ok (.iload_n 1, 1) := by decide +kernel
theorem dX10_fed_12 : decode cX10_fed 12 = .ok (.iconst 1, 1) := by decide +kernel
theorem dX10_fed_13 : decode cX10_fed 13 = .ok (.if_icmp .ne 10, 3) := by decide +kernel
theorem dX10_fed_16 : decode cX10_fed 16 = .ok (.aload_n 0, 1) := by decide +kernel
theorem dX10_fed_17 : decode cX10_fed 17 = .ok (.getfield 33, 3) := by decide +kernel
theorem dX10_fed_20 : decode cX10_fed 20 = .ok (.goto 4, 3) := by decide +kernel
set_option maxRecDepth 100000 in
set_option maxHeartbeats 4000000 in
theorem wk_X10_fed_1 (E : g_E) (x : Nat) (nu : Nat) (pl : Nat) (tp : Nat) (sd : Nat) (fi : Nat) (se : Nat) (enc : Nat) (dec : Nat) (wl : Nat) (wsp : Nat) (xl : Int32)  : Ev E MX10_fed 0 0 0 0 [.ref x, .int 1] [(x, .inr (10, [.ref nu, .int xl, .ref pl, .ref tp, .ref sd, .ref fi, .ref se, .ref enc, .ref dec, .ref wl, .ref wsp]))] (fun v_ w_ => v_ = some (.ref sd) ∧ w_ = [(x, .inr (10, [.ref nu, .int xl, .ref pl, .ref tp, .ref sd, .ref fi, .ref se, .ref enc, .ref dec, .ref wl, .ref wsp]))]) := by
  refine Ev.intro (by decide) (Nat.le_of_ble_eq_true rfl) ?_
  intro X B hr hI
  have B : Bd E X cX10_fed RX10 2 0 0 0 0 := B
  have hr : Rt E X (some (.object "SoundPress$Bytes")) 0 0 (fun v_ w_ => v_ = some (.ref sd) ∧ w_ = [(x, .inr (10, [.ref nu, .int xl, .ref pl, .ref tp, .ref sd, .ref fi, .ref se, .ref enc, .ref dec, .ref wl, .ref wsp]))]) := hr
  show G E X 2 [(x, .inr (10, [.ref nu, .int xl, .ref pl, .ref tp, .ref sd, .ref fi, .ref se, .ref enc, .ref dec, .ref wl, .ref wsp]))] 0 0 [(0, .ref x), (1, .int 1)] 0 []
  refine g_iload_n B dX10_fed_0 rfl 1 rfl ?_
  refine g_if_ne (tgt := 11) B dX10_fed_1 (by decide) (fun c1 => ?_) (fun h => absurd h (by decide))
  refine g_iload_n B dX10_fed_11 rfl 1 rfl ?_
  refine g_iconst (v := 1) B dX10_fed_12 (by decide) ?_
  refine g_icmp_ne (tgt := 23) B dX10_fed_13 (by decide) (fun h => absurd (by decide) h) (fun c13 => ?_)
  refine g_aload_n B dX10_fed_16 rfl 0 rfl ?_
  refine g_get B 0 4 fl_X10_33 rfl rfl dX10_fed_17 ?_
  refine g_goto (tgt := 24) B dX10_fed_20 (by decide) ?_
  exact g_aret B hr (Or.inr ⟨_, rfl⟩) dX10_fed_24 (by decide) (by decide) ⟨rfl, rfl⟩
theorem dX10_fed_23 : decode cX10_fed 23 = .ok (.aconst_null, 1) := by decide +kernel
set_option maxRecDepth 100000 in
set_option maxHeartbeats 4000000 in
theorem wk_X10_fed_n (E : g_E) (x : Nat) (nu : Nat) (pl : Nat) (tp : Nat) (sd : Nat) (fi : Nat) (se : Nat) (enc : Nat) (dec : Nat) (wl : Nat) (wsp : Nat) (xl : Int32) (wh : Int32) (h0 : ¬ wh = 0) (h1 : ¬ wh = 1) : Ev E MX10_fed 0 0 0 0 [.ref x, .int wh] [(x, .inr (10, [.ref nu, .int xl, .ref pl, .ref tp, .ref sd, .ref fi, .ref se, .ref enc, .ref dec, .ref wl, .ref wsp]))] (fun v_ w_ => v_ = some .null ∧ w_ = [(x, .inr (10, [.ref nu, .int xl, .ref pl, .ref tp, .ref sd, .ref fi, .ref se, .ref enc, .ref dec, .ref wl, .ref wsp]))]) := by
  refine Ev.intro (by decide) (Nat.le_of_ble_eq_true rfl) ?_
  intro X B hr hI
  have B : Bd E X cX10_fed RX10 2 0 0 0 0 := B
  have hr : Rt E X (some (.object "SoundPress$Bytes")) 0 0 (fun v_ w_ => v_ = some .null ∧ w_ = [(x, .inr (10, [.ref nu, .int xl, .ref pl, .ref tp, .ref sd, .ref fi, .ref se, .ref enc, .ref dec, .ref wl, .ref wsp]))]) := hr
  show G E X 2 [(x, .inr (10, [.ref nu, .int xl, .ref pl, .ref tp, .ref sd, .ref fi, .ref se, .ref enc, .ref dec, .ref wl, .ref wsp]))] 0 0 [(0, .ref x), (1, .int wh)] 0 []
  refine g_iload_n B dX10_fed_0 rfl 1 rfl ?_
  refine g_if_ne (tgt := 11) B dX10_fed_1 (by decide) (fun c1 => ?_) (fun h => absurd h h0)
  refine g_iload_n B dX10_fed_11 rfl 1 rfl ?_
  refine g_iconst (v := 1) B dX10_fed_12 (by decide) ?_
  refine g_icmp_ne (tgt := 23) B dX10_fed_13 (by decide) (fun c13 => ?_) (fun h => absurd h h1)
  refine g_null B dX10_fed_23 ?_
  exact g_aret B hr (Or.inl rfl) dX10_fed_24 (by decide) (by decide) ⟨rfl, rfl⟩
abbrev MX10_pressed : g_M := (yX10_pressed, cX10_pressed, 2, (some (.object "SoundPress$Bytes")))
theorem dX10_pressed_0 : decode cX10_pressed 0 = .ok (.iload_n 1, 1) := by decide +kernel
theorem dX10_pressed_1 : decode cX10_pressed 1 = .ok (.ifCond .ne 10, 3) := by decide +kernel
theorem dX10_pressed_4 : decode cX10_pressed 4 = .ok (.aload_n 0, 1) := by decide +kernel
theorem dX10_pressed_5 : decode cX10_pressed 5 = .ok (.getfield 36, 3) := by decide +kernel
theorem dX10_pressed_8 : decode cX10_pressed 8 = .ok (.goto 16, 3) := by decide +kernel
theorem dX10_pressed_24 : decode cX10_pressed 24 = .ok (.areturn, 1) := by decide +kernel
set_option maxRecDepth 100000 in
set_option maxHeartbeats 4000000 in
theorem wk_X10_pressed_0 (E : g_E) (x : Nat) (nu : Nat) (pl : Nat) (tp : Nat) (sd : Nat) (fi : Nat) (se : Nat) (enc : Nat) (dec : Nat) (wl : Nat) (wsp : Nat) (xl : Int32)  : Ev E MX10_pressed 0 0 0 0 [.ref x, .int 0] [(x, .inr (10, [.ref nu, .int xl, .ref pl, .ref tp, .ref sd, .ref fi, .ref se, .ref enc, .ref dec, .ref wl, .ref wsp]))] (fun v_ w_ => v_ = some (.ref fi) ∧ w_ = [(x, .inr (10, [.ref nu, .int xl, .ref pl, .ref tp, .ref sd, .ref fi, .ref se, .ref enc, .ref dec, .ref wl, .ref wsp]))]) := by
  refine Ev.intro (by decide) (Nat.le_of_ble_eq_true rfl) ?_
  intro X B hr hI
  have B : Bd E X cX10_pressed RX10 2 0 0 0 0 := B
  have hr : Rt E X (some (.object "SoundPress$Bytes")) 0 0 (fun v_ w_ => v_ = some (.ref fi) ∧ w_ = [(x, .inr (10, [.ref nu, .int xl, .ref pl, .ref tp, .ref sd, .ref fi, .ref se, .ref enc, .ref dec, .ref wl, .ref wsp]))]) := hr
  show G E X 2 [(x, .inr (10, [.ref nu, .int xl, .ref pl, .ref tp, .ref sd, .ref fi, .ref se, .ref enc, .ref dec, .ref wl, .ref wsp]))] 0 0 [(0, .ref x), (1, .int 0)] 0 []
  refine g_iload_n B dX10_pressed_0 rfl 1 rfl ?_
  refine g_if_ne (tgt := 11) B dX10_pressed_1 (by decide) (fun h => absurd (by decide) h) (fun c1 => ?_)
  refine g_aload_n B dX10_pressed_4 rfl 0 rfl ?_
  refine g_get B 0 5 fl_X10_36 rfl rfl dX10_pressed_5 ?_
  refine g_goto (tgt := 24) B dX10_pressed_8 (by decide) ?_
  exact g_aret B hr (Or.inr ⟨_, rfl⟩) dX10_pressed_24 (by decide) (by decide) ⟨rfl, rfl⟩
theorem dX10_pressed_11 : decode cX10_pressed 11 = .ok (.iload_n 1, 1) := by decide +kernel
theorem dX10_pressed_12 : decode cX10_pressed 12 = .ok (.iconst 1, 1) := by decide +kernel
theorem dX10_pressed_13 : decode cX10_pressed 13 = .ok (.if_icmp .ne 10, 3) := by decide +kernel
theorem dX10_pressed_16 : decode cX10_pressed 16 = .ok (.aload_n 0, 1) := by decide +kernel
theorem dX10_pressed_17 : decode cX10_pressed 17 = .ok (.getfield 39, 3) := by decide +kernel
theorem dX10_pressed_20 : decode cX10_pressed 20 = .ok (.goto 4, 3) := by decide +kernel
set_option maxRecDepth 100000 in
set_option maxHeartbeats 4000000 in
theorem wk_X10_pressed_1 (E : g_E) (x : Nat) (nu : Nat) (pl : Nat) (tp : Nat) (sd : Nat) (fi : Nat) (se : Nat) (enc : Nat) (dec : Nat) (wl : Nat) (wsp : Nat) (xl : Int32)  : Ev E MX10_pressed 0 0 0 0 [.ref x, .int 1] [(x, .inr (10, [.ref nu, .int xl, .ref pl, .ref tp, .ref sd, .ref fi, .ref se, .ref enc, .ref dec, .ref wl, .ref wsp]))] (fun v_ w_ => v_ = some (.ref se) ∧ w_ = [(x, .inr (10, [.ref nu, .int xl, .ref pl, .ref tp, .ref sd, .ref fi, .ref se, .ref enc, .ref dec, .ref wl, .ref wsp]))]) := by
  refine Ev.intro (by decide) (Nat.le_of_ble_eq_true rfl) ?_
  intro X B hr hI
  have B : Bd E X cX10_pressed RX10 2 0 0 0 0 := B
  have hr : Rt E X (some (.object "SoundPress$Bytes")) 0 0 (fun v_ w_ => v_ = some (.ref se) ∧ w_ = [(x, .inr (10, [.ref nu, .int xl, .ref pl, .ref tp, .ref sd, .ref fi, .ref se, .ref enc, .ref dec, .ref wl, .ref wsp]))]) := hr
  show G E X 2 [(x, .inr (10, [.ref nu, .int xl, .ref pl, .ref tp, .ref sd, .ref fi, .ref se, .ref enc, .ref dec, .ref wl, .ref wsp]))] 0 0 [(0, .ref x), (1, .int 1)] 0 []
  refine g_iload_n B dX10_pressed_0 rfl 1 rfl ?_
  refine g_if_ne (tgt := 11) B dX10_pressed_1 (by decide) (fun c1 => ?_) (fun h => absurd h (by decide))
  refine g_iload_n B dX10_pressed_11 rfl 1 rfl ?_
  refine g_iconst (v := 1) B dX10_pressed_12 (by decide) ?_
  refine g_icmp_ne (tgt := 23) B dX10_pressed_13 (by decide) (fun h => absurd (by decide) h) (fun c13 => ?_)
  refine g_aload_n B dX10_pressed_16 rfl 0 rfl ?_
  refine g_get B 0 6 fl_X10_39 rfl rfl dX10_pressed_17 ?_
  refine g_goto (tgt := 24) B dX10_pressed_20 (by decide) ?_
  exact g_aret B hr (Or.inr ⟨_, rfl⟩) dX10_pressed_24 (by decide) (by decide) ⟨rfl, rfl⟩
theorem dX10_pressed_23 : decode cX10_pressed 23 = .ok (.aconst_null, 1) := by decide +kernel
set_option maxRecDepth 100000 in
set_option maxHeartbeats 4000000 in
theorem wk_X10_pressed_n (E : g_E) (x : Nat) (nu : Nat) (pl : Nat) (tp : Nat) (sd : Nat) (fi : Nat) (se : Nat) (enc : Nat) (dec : Nat) (wl : Nat) (wsp : Nat) (xl : Int32) (wh : Int32) (h0 : ¬ wh = 0) (h1 : ¬ wh = 1) : Ev E MX10_pressed 0 0 0 0 [.ref x, .int wh] [(x, .inr (10, [.ref nu, .int xl, .ref pl, .ref tp, .ref sd, .ref fi, .ref se, .ref enc, .ref dec, .ref wl, .ref wsp]))] (fun v_ w_ => v_ = some .null ∧ w_ = [(x, .inr (10, [.ref nu, .int xl, .ref pl, .ref tp, .ref sd, .ref fi, .ref se, .ref enc, .ref dec, .ref wl, .ref wsp]))]) := by
  refine Ev.intro (by decide) (Nat.le_of_ble_eq_true rfl) ?_
  intro X B hr hI
  have B : Bd E X cX10_pressed RX10 2 0 0 0 0 := B
  have hr : Rt E X (some (.object "SoundPress$Bytes")) 0 0 (fun v_ w_ => v_ = some .null ∧ w_ = [(x, .inr (10, [.ref nu, .int xl, .ref pl, .ref tp, .ref sd, .ref fi, .ref se, .ref enc, .ref dec, .ref wl, .ref wsp]))]) := hr
  show G E X 2 [(x, .inr (10, [.ref nu, .int xl, .ref pl, .ref tp, .ref sd, .ref fi, .ref se, .ref enc, .ref dec, .ref wl, .ref wsp]))] 0 0 [(0, .ref x), (1, .int wh)] 0 []
  refine g_iload_n B dX10_pressed_0 rfl 1 rfl ?_
  refine g_if_ne (tgt := 11) B dX10_pressed_1 (by decide) (fun c1 => ?_) (fun h => absurd h h0)
  refine g_iload_n B dX10_pressed_11 rfl 1 rfl ?_
  refine g_iconst (v := 1) B dX10_pressed_12 (by decide) ?_
  refine g_icmp_ne (tgt := 23) B dX10_pressed_13 (by decide) (fun c13 => ?_) (fun h => absurd h h1)
  refine g_null B dX10_pressed_23 ?_
  exact g_aret B hr (Or.inl rfl) dX10_pressed_24 (by decide) (by decide) ⟨rfl, rfl⟩
