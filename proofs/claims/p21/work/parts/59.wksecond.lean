abbrev MX3_putRight : g_M := (yX3_putRight, cX3_putRight, 9, (some .boolean))
theorem dX3_putRight_0 : decode cX3_putRight 0 = .ok (.iconst 0, 1) := by decide +kernel
theorem dX3_putRight_1 : decode cX3_putRight 1 = .ok (.istore_n 2, 1) := by decide +kernel
theorem dX3_putRight_2 : decode cX3_putRight 2 = .ok (.aload_n 1, 1) := by decide +kernel
theorem dX3_putRight_3 : decode cX3_putRight 3 = .ok (.getfield 99, 3) := by decide +kernel
theorem dX3_putRight_6 : decode cX3_putRight 6 = .ok (.aload_n 1, 1) := by decide +kernel
theorem dX3_putRight_7 : decode cX3_putRight 7 = .ok (.getfield 125, 3) := by decide +kernel
theorem dX3_putRight_10 : decode cX3_putRight 10 = .ok (.imul, 1) := by decide +kernel
theorem dX3_putRight_11 : decode cX3_putRight 11 = .ok (.istore_n 3, 1) := by decide +kernel
theorem dX3_putRight_12 : decode cX3_putRight 12 = .ok (.iconst 0, 1) := by decide +kernel
theorem dX3_putRight_13 : decode cX3_putRight 13 = .ok (.istore 4, 2) := by decide +kernel
theorem dX3_putRight_15 : decode cX3_putRight 15 = .ok (.iload 4, 2) := by decide +kernel
theorem dX3_putRight_17 : decode cX3_putRight 17 = .ok (.iload_n 3, 1) := by decide +kernel
theorem dX3_putRight_18 : decode cX3_putRight 18 = .ok (.if_icmp .ge 119, 3) := by decide +kernel
theorem dX3_putRight_21 : decode cX3_putRight 21 = .ok (.iload 4, 2) := by decide +kernel
theorem dX3_putRight_23 : decode cX3_putRight 23 = .ok (.sipush 1200, 3) := by decide +kernel
theorem dX3_putRight_26 : decode cX3_putRight 26 = .ok (.if_icmp .ge 111, 3) := by decide +kernel
theorem dX3_putRight_29 : decode cX3_putRight 29 = .ok (.aload_n 0, 1) := by decide +kernel
theorem dX3_putRight_30 : decode cX3_putRight 30 = .ok (.getfield 18, 3) := by decide +kernel
theorem dX3_putRight_33 : decode cX3_putRight 33 = .ok (.getfield 194, 3) := by decide +kernel
theorem w_fl_X3_194 : Cond.fieldLink RX3 194 (TX8 2).1 (TX8 2).2.1 (TX8 2).2.2.1 ∈ g_tbl := g_tbl_in 151 (by decide +kernel) (by decide +kernel)
theorem fl_X3_194 : FL RX3 194 8 2 := ⟨RX8, TX8, 4, rfl, by decide, inX_X8, w_fl_X3_194⟩
theorem dX3_putRight_36 : decode cX3_putRight 36 = .ok (.iload 4, 2) := by decide +kernel
theorem dX3_putRight_38 : decode cX3_putRight 38 = .ok (.laload, 1) := by decide +kernel
theorem dX3_putRight_39 : decode cX3_putRight 39 = .ok (.aload_n 0, 1) := by decide +kernel
theorem dX3_putRight_40 : decode cX3_putRight 40 = .ok (.getfield 31, 3) := by decide +kernel
theorem dX3_putRight_43 : decode cX3_putRight 43 = .ok (.aload_n 0, 1) := by decide +kernel
theorem dX3_putRight_44 : decode cX3_putRight 44 = .ok (.getfield 18, 3) := by decide +kernel
theorem dX3_putRight_47 : decode cX3_putRight 47 = .ok (.getfield 198, 3) := by decide +kernel
theorem w_fl_X3_198 : Cond.fieldLink RX3 198 (TX8 3).1 (TX8 3).2.1 (TX8 3).2.2.1 ∈ g_tbl := g_tbl_in 153 (by decide +kernel) (by decide +kernel)
theorem fl_X3_198 : FL RX3 198 8 3 := ⟨RX8, TX8, 4, rfl, by decide, inX_X8, w_fl_X3_198⟩
theorem dX3_putRight_50 : decode cX3_putRight 50 = .ok (.iload 4, 2) := by decide +kernel
theorem dX3_putRight_52 : decode cX3_putRight 52 = .ok (.iaload, 1) := by decide +kernel
theorem dX3_putRight_53 : decode cX3_putRight 53 = .ok (.i2l, 1) := by decide +kernel
theorem dX3_putRight_54 : decode cX3_putRight 54 = .ok (.invokevirtual 202, 3) := by decide +kernel
theorem w_ml_X3_202 : Cond.methodLink RX3 202 yX0_readT ∈ g_tbl := g_tbl_in 843 (by decide +kernel) (by decide +kernel)
theorem w_cd_X0_readT : g_cw MX0_readT ∈ g_tbl := g_tbl_in 846 (by decide +kernel) (by decide +kernel)
theorem cl_X3_202 : CL RX3 202 1 MX0_readT := ⟨w_ml_X3_202, w_cd_X0_readT, w_ini_X0, by decide +kernel, by decide +kernel, by decide +kernel⟩
theorem w_im_X0_readT : Cond.instanceMethod yX0_readT ∈ g_tbl := g_tbl_in 844 (by decide +kernel) (by decide +kernel)
theorem w_se_X0_readT : Cond.selects RX0 yX0_readT yX0_readT ∈ g_tbl := g_tbl_in 845 (by decide +kernel) (by decide +kernel)
theorem dX3_putRight_57 : decode cX3_putRight 57 = .ok (.ladd, 1) := by decide +kernel
theorem dX3_putRight_58 : decode cX3_putRight 58 = .ok (.lstore 5, 2) := by decide +kernel
theorem dX3_putRight_60 : decode cX3_putRight 60 = .ok (.lload 5, 2) := by decide +kernel
theorem dX3_putRight_62 : decode cX3_putRight 62 = .ok (.ldc2_w 173, 3) := by decide +kernel
theorem dX3_putRight_65 : decode cX3_putRight 65 = .ok (.lcmp, 1) := by decide +kernel
theorem dX3_putRight_66 : decode cX3_putRight 66 = .ok (.ifCond .le 8, 3) := by decide +kernel
theorem dX3_putRight_74 : decode cX3_putRight 74 = .ok (.aload_n 0, 1) := by decide +kernel
theorem dX3_putRight_75 : decode cX3_putRight 75 = .ok (.getfield 18, 3) := by decide +kernel
theorem dX3_putRight_78 : decode cX3_putRight 78 = .ok (.getfield 206, 3) := by decide +kernel
theorem w_fl_X3_206 : Cond.fieldLink RX3 206 (TX8 1).1 (TX8 1).2.1 (TX8 1).2.2.1 ∈ g_tbl := g_tbl_in 149 (by decide +kernel) (by decide +kernel)
theorem fl_X3_206 : FL RX3 206 8 1 := ⟨RX8, TX8, 4, rfl, by decide, inX_X8, w_fl_X3_206⟩
theorem dX3_putRight_81 : decode cX3_putRight 81 = .ok (.iload 4, 2) := by decide +kernel
theorem dX3_putRight_83 : decode cX3_putRight 83 = .ok (.iaload, 1) := by decide +kernel
theorem dX3_putRight_84 : decode cX3_putRight 84 = .ok (.istore 7, 2) := by decide +kernel
theorem dX3_putRight_86 : decode cX3_putRight 86 = .ok (.iload 7, 2) := by decide +kernel
theorem dX3_putRight_88 : decode cX3_putRight 88 = .ok (.ifCond .ge 11, 3) := by decide +kernel
theorem dX3_putRight_99 : decode cX3_putRight 99 = .ok (.lload 5, 2) := by decide +kernel
theorem dX3_putRight_101 : decode cX3_putRight 101 = .ok (.l2i, 1) := by decide +kernel
theorem dX3_putRight_102 : decode cX3_putRight 102 = .ok (.istore 8, 2) := by decide +kernel
theorem dX3_putRight_104 : decode cX3_putRight 104 = .ok (.aload_n 0, 1) := by decide +kernel
theorem dX3_putRight_105 : decode cX3_putRight 105 = .ok (.getfield 18, 3) := by decide +kernel
theorem dX3_putRight_108 : decode cX3_putRight 108 = .ok (.getfield 209, 3) := by decide +kernel
theorem w_fl_X3_209 : Cond.fieldLink RX3 209 (TX8 0).1 (TX8 0).2.1 (TX8 0).2.2.1 ∈ g_tbl := g_tbl_in 147 (by decide +kernel) (by decide +kernel)
theorem fl_X3_209 : FL RX3 209 8 0 := ⟨RX8, TX8, 4, rfl, by decide, inX_X8, w_fl_X3_209⟩
theorem dX3_putRight_111 : decode cX3_putRight 111 = .ok (.iload 4, 2) := by decide +kernel
theorem dX3_putRight_113 : decode cX3_putRight 113 = .ok (.dup2, 1) := by decide +kernel
theorem dX3_putRight_114 : decode cX3_putRight 114 = .ok (.iaload, 1) := by decide +kernel
theorem dX3_putRight_115 : decode cX3_putRight 115 = .ok (.iload 8, 2) := by decide +kernel
theorem dX3_putRight_117 : decode cX3_putRight 117 = .ok (.iload 7, 2) := by decide +kernel
theorem dX3_putRight_119 : decode cX3_putRight 119 = .ok (.isub, 1) := by decide +kernel
theorem dX3_putRight_120 : decode cX3_putRight 120 = .ok (.iadd, 1) := by decide +kernel
theorem dX3_putRight_121 : decode cX3_putRight 121 = .ok (.iastore, 1) := by decide +kernel
theorem dX3_putRight_122 : decode cX3_putRight 122 = .ok (.aload_n 1, 1) := by decide +kernel
theorem dX3_putRight_123 : decode cX3_putRight 123 = .ok (.iload 8, 2) := by decide +kernel
theorem dX3_putRight_125 : decode cX3_putRight 125 = .ok (.iload 7, 2) := by decide +kernel
theorem dX3_putRight_127 : decode cX3_putRight 127 = .ok (.isub, 1) := by decide +kernel
theorem dX3_putRight_128 : decode cX3_putRight 128 = .ok (.invokevirtual 212, 3) := by decide +kernel
theorem w_ml_X3_212 : Cond.methodLink RX3 212 yX9_noteOff ∈ g_tbl := g_tbl_in 849 (by decide +kernel) (by decide +kernel)
theorem cl_X3_212 : CL RX3 212 1 MX9_noteOff := ⟨w_ml_X3_212, w_cd_X9_noteOff, w_ini_X9, by decide +kernel, by decide +kernel, by decide +kernel⟩
theorem dX3_putRight_131 : decode cX3_putRight 131 = .ok (.iinc 4 1, 3) := by decide +kernel
theorem dX3_putRight_134 : decode cX3_putRight 134 = .ok (.goto (-119), 3) := by decide +kernel
theorem dX3_putRight_91 : decode cX3_putRight 91 = .ok (.iconst (-1), 1) := by decide +kernel
theorem dX3_putRight_92 : decode cX3_putRight 92 = .ok (.lload 5, 2) := by decide +kernel
theorem dX3_putRight_94 : decode cX3_putRight 94 = .ok (.l2i, 1) := by decide +kernel
theorem dX3_putRight_95 : decode cX3_putRight 95 = .ok (.isub, 1) := by decide +kernel
theorem dX3_putRight_96 : decode cX3_putRight 96 = .ok (.goto 6, 3) := by decide +kernel
theorem dX3_putRight_69 : decode cX3_putRight 69 = .ok (.iconst 1, 1) := by decide +kernel
theorem dX3_putRight_70 : decode cX3_putRight 70 = .ok (.istore_n 2, 1) := by decide +kernel
theorem dX3_putRight_71 : decode cX3_putRight 71 = .ok (.goto 60, 3) := by decide +kernel
set_option maxRecDepth 100000 in
def lf_wk_X3_putRight_15 (sda_f : Nat → Int32) (b2_2 : Int32) (sr_f : Nat → Int32) (sl_f : Nat → Int64) (sp_f : Nat → Int32) (β : Type) (kx_ : Int32 → Int32 → (Nat → Int32) → Int32 → Int32 → Int32 → Int32 → β)  : Nat → Int32 → Int32 → (Nat → Int32) → Int32 → Int32 → Int32 → Int32 → β
  | 0, b2_1, b2_3, sv_f, w_11, l2, l3, l4 => kx_ b2_1 b2_3 sv_f w_11 l2 l3 l4
  | fuel + 1, b2_1, b2_3, sv_f, w_11, l2, l3, l4 => (if l3 ≤ l4 then (kx_ b2_1 b2_3 sv_f w_11 l2 l3 l4) else (if 1200 ≤ l4 then (kx_ b2_1 b2_3 sv_f w_11 l2 l3 l4) else (fn_wk_X0_readT 6000 b2_2 sda_f b2_1 b2_3 (Int32.toInt64 (sp_f (Int32.toNatClampNeg l4))) β (fun zb_1_1321 zb_3_1322 zr_1323 => (if (lg_cmp ((sl_f (Int32.toNatClampNeg l4)) + zr_1323) 2147483647) ≤ 0 then (if 0 ≤ (sr_f (Int32.toNatClampNeg l4)) then (fnL ((sv_f (Int32.toNatClampNeg l4)) + ((Int64.toInt32 ((sl_f (Int32.toNatClampNeg l4)) + zr_1323)) - (sr_f (Int32.toNatClampNeg l4)))) (fun x_1327 => (fn_wk_X9_noteOff w_11 ((Int64.toInt32 ((sl_f (Int32.toNatClampNeg l4)) + zr_1323)) - (sr_f (Int32.toNatClampNeg l4))) β (fun zw_11_1328 => (lf_wk_X3_putRight_15 sda_f b2_2 sr_f sl_f sp_f β kx_ fuel zb_1_1321 zb_3_1322 (upd sv_f (Int32.toNatClampNeg l4) x_1327) zw_11_1328 l2 l3 (l4 + 1)))))) else (fnL ((sv_f (Int32.toNatClampNeg l4)) + (((-1) - (Int64.toInt32 ((sl_f (Int32.toNatClampNeg l4)) + zr_1323))) - (sr_f (Int32.toNatClampNeg l4)))) (fun x_1330 => (fn_wk_X9_noteOff w_11 (((-1) - (Int64.toInt32 ((sl_f (Int32.toNatClampNeg l4)) + zr_1323))) - (sr_f (Int32.toNatClampNeg l4))) β (fun zw_11_1331 => (lf_wk_X3_putRight_15 sda_f b2_2 sr_f sl_f sp_f β kx_ fuel zb_1_1321 zb_3_1322 (upd sv_f (Int32.toNatClampNeg l4) x_1330) zw_11_1331 l2 l3 (l4 + 1))))))) else (lf_wk_X3_putRight_15 sda_f b2_2 sr_f sl_f sp_f β kx_ fuel zb_1_1321 zb_3_1322 sv_f w_11 1 l3 (l4 + 1)))))))
set_option maxRecDepth 100000 in
theorem lf_wk_X3_putRight_15_s {sda_f : Nat → Int32} {b2_2 : Int32} {sr_f : Nat → Int32} {sl_f : Nat → Int64} {sp_f : Nat → Int32} {β : Type} {kx_ : Int32 → Int32 → (Nat → Int32) → Int32 → Int32 → Int32 → Int32 → β}  {fuel : Nat} {b2_1 : Int32} {b2_3 : Int32} {sv_f : Nat → Int32} {w_11 : Int32} {l2 : Int32} {l3 : Int32} {l4 : Int32} : lf_wk_X3_putRight_15 sda_f b2_2 sr_f sl_f sp_f β kx_  (fuel + 1) b2_1 b2_3 sv_f w_11 l2 l3 l4 = (if l3 ≤ l4 then (kx_ b2_1 b2_3 sv_f w_11 l2 l3 l4) else (if 1200 ≤ l4 then (kx_ b2_1 b2_3 sv_f w_11 l2 l3 l4) else (fn_wk_X0_readT 6000 b2_2 sda_f b2_1 b2_3 (Int32.toInt64 (sp_f (Int32.toNatClampNeg l4))) β (fun zb_1_1321 zb_3_1322 zr_1323 => (if (lg_cmp ((sl_f (Int32.toNatClampNeg l4)) + zr_1323) 2147483647) ≤ 0 then (if 0 ≤ (sr_f (Int32.toNatClampNeg l4)) then (fnL ((sv_f (Int32.toNatClampNeg l4)) + ((Int64.toInt32 ((sl_f (Int32.toNatClampNeg l4)) + zr_1323)) - (sr_f (Int32.toNatClampNeg l4)))) (fun x_1327 => (fn_wk_X9_noteOff w_11 ((Int64.toInt32 ((sl_f (Int32.toNatClampNeg l4)) + zr_1323)) - (sr_f (Int32.toNatClampNeg l4))) β (fun zw_11_1328 => (lf_wk_X3_putRight_15 sda_f b2_2 sr_f sl_f sp_f β kx_ fuel zb_1_1321 zb_3_1322 (upd sv_f (Int32.toNatClampNeg l4) x_1327) zw_11_1328 l2 l3 (l4 + 1)))))) else (fnL ((sv_f (Int32.toNatClampNeg l4)) + (((-1) - (Int64.toInt32 ((sl_f (Int32.toNatClampNeg l4)) + zr_1323))) - (sr_f (Int32.toNatClampNeg l4)))) (fun x_1330 => (fn_wk_X9_noteOff w_11 (((-1) - (Int64.toInt32 ((sl_f (Int32.toNatClampNeg l4)) + zr_1323))) - (sr_f (Int32.toNatClampNeg l4))) β (fun zw_11_1331 => (lf_wk_X3_putRight_15 sda_f b2_2 sr_f sl_f sp_f β kx_ fuel zb_1_1321 zb_3_1322 (upd sv_f (Int32.toNatClampNeg l4) x_1330) zw_11_1331 l2 l3 (l4 + 1))))))) else (lf_wk_X3_putRight_15 sda_f b2_2 sr_f sl_f sp_f β kx_ fuel zb_1_1321 zb_3_1322 sv_f w_11 1 l3 (l4 + 1))))))) := rfl
set_option maxRecDepth 100000 in
set_option maxHeartbeats 4000000 in
theorem lp_wk_X3_putRight_15 (E : g_E) (e : Nat) (tp : Nat) (sd : Nat) (b1 : Nat) (b2 : Nat) (sh : Nat) (sda : Nat) (sv : Nat) (sr : Nat) (sl : Nat) (sp : Nat) (w : Nat) (ps : Nat) (md : Nat) (sd_1 : Int32) (sda_f : Nat → Int32) (b2_2 : Int32) (sr_f : Nat → Int32) (sl_f : Nat → Int64) (sp_f : Nat → Int32) (w_2 : Nat) (w_3 : Nat) (w_4 : Nat) (w_5 : Int32) (w_6 : Int32) (w_7 : Int32) (w_8 : Int32) (w_9 : Int32) (w_10 : Int32) (hk0 : w_2 ≤ 2) (hk1 : w_3 ≤ 2) (hk2 : w_4 ≤ 600) {X : g_X} {rr : (β : Type) → (Int32 → Int32 → (Nat → Int32) → Int32 → Int32 → β) → β} (kx_ : (β : Type) → (Int32 → Int32 → (Nat → Int32) → Int32 → Int32 → β) → Int32 → Int32 → (Nat → Int32) → Int32 → Int32 → Int32 → Int32 → β) (B : Bd E X cX3_putRight RX3 9 2 53 0 0) (hr : Rt E X (some .boolean) 0 0 (fun v_ w_ => ∃ zb2_1 : Int32, ∃ zb2_3 : Int32, ∃ zsv_f : Nat → Int32, ∃ zw_11 : Int32, ∃ zr : Int32, (zr = 0 ∨ zr = 1) ∧ (∀ (β : Type) (k_ : Int32 → Int32 → (Nat → Int32) → Int32 → Int32 → β), rr β k_ = k_ zb2_1 zb2_3 zsv_f zw_11 zr) ∧ v_ = some (.int zr) ∧ w_ = [(e, .inr (3, [.ref tp, .ref sd, .ref b1, .ref b2, .ref sh])), (sd, .inr (2, [.ref sda, .int sd_1])), (sda, .inl (E.2.2.1 1, 6000, .inl (nb sda_f))), (b2, .inr (0, [.ref sd, .int zb2_1, .int b2_2, .int zb2_3])), (sh, .inr (8, [.ref sv, .ref sr, .ref sl, .ref sp])), (sv, .inl (E.2.2.1 0, 1200, .inl zsv_f)), (sr, .inl (E.2.2.1 0, 1200, .inl sr_f)), (sl, .inl (E.2.2.1 3, 1200, .inr (.inl sl_f))), (sp, .inl (E.2.2.1 0, 1200, .inl sp_f)), (w, .inr (9, [.ref ps, .ref md, .int (nI w_2), .int (nI w_3), .int (nI w_4), .int w_5, .int w_6, .int w_7, .int w_8, .int w_9, .int w_10, .int zw_11]))])) (K : ∀ (b2_1 : Int32) (b2_3 : Int32) (sv_f : Nat → Int32) (w_11 : Int32) (l2 : Int32) (l3 : Int32) (l4 : Int32), l2 = 0 ∨ l2 = 1 → (∀ (β : Type) (k_ : Int32 → Int32 → (Nat → Int32) → Int32 → Int32 → β), rr β k_ = kx_ β k_ b2_1 b2_3 sv_f w_11 l2 l3 l4) → G E X 9 [(e, .inr (3, [.ref tp, .ref sd, .ref b1, .ref b2, .ref sh])), (sd, .inr (2, [.ref sda, .int sd_1])), (sda, .inl (E.2.2.1 1, 6000, .inl (nb sda_f))), (b2, .inr (0, [.ref sd, .int b2_1, .int b2_2, .int b2_3])), (sh, .inr (8, [.ref sv, .ref sr, .ref sl, .ref sp])), (sv, .inl (E.2.2.1 0, 1200, .inl sv_f)), (sr, .inl (E.2.2.1 0, 1200, .inl sr_f)), (sl, .inl (E.2.2.1 3, 1200, .inr (.inl sl_f))), (sp, .inl (E.2.2.1 0, 1200, .inl sp_f)), (w, .inr (9, [.ref ps, .ref md, .int (nI w_2), .int (nI w_3), .int (nI w_4), .int w_5, .int w_6, .int w_7, .int w_8, .int w_9, .int w_10, .int w_11]))] 0 0 [(0, .ref e), (1, .ref w), (2, .int l2), (3, .int l3), (4, .int l4)] 137 []) : ∀ (n : Nat) (b2_1 : Int32) (b2_3 : Int32) (sv_f : Nat → Int32) (w_11 : Int32) (l2 : Int32) (l3 : Int32) (l4 : Int32), ¬ l4 < 0 → l2 = 0 ∨ l2 = 1 → (Int32.toInt 1200 - Int32.toInt l4).toNat < n → (∀ (β : Type) (k_ : Int32 → Int32 → (Nat → Int32) → Int32 → Int32 → β), rr β k_ = lf_wk_X3_putRight_15 sda_f b2_2 sr_f sl_f sp_f β (kx_ β k_) n b2_1 b2_3 sv_f w_11 l2 l3 l4) → G E X 9 [(e, .inr (3, [.ref tp, .ref sd, .ref b1, .ref b2, .ref sh])), (sd, .inr (2, [.ref sda, .int sd_1])), (sda, .inl (E.2.2.1 1, 6000, .inl (nb sda_f))), (b2, .inr (0, [.ref sd, .int b2_1, .int b2_2, .int b2_3])), (sh, .inr (8, [.ref sv, .ref sr, .ref sl, .ref sp])), (sv, .inl (E.2.2.1 0, 1200, .inl sv_f)), (sr, .inl (E.2.2.1 0, 1200, .inl sr_f)), (sl, .inl (E.2.2.1 3, 1200, .inr (.inl sl_f))), (sp, .inl (E.2.2.1 0, 1200, .inl sp_f)), (w, .inr (9, [.ref ps, .ref md, .int (nI w_2), .int (nI w_3), .int (nI w_4), .int w_5, .int w_6, .int w_7, .int w_8, .int w_9, .int w_10, .int w_11]))] 0 0 [(0, .ref e), (1, .ref w), (2, .int l2), (3, .int l3), (4, .int l4)] 15 [] := by
  intro n
  induction n with
  | zero => intro b2_1 b2_3 sv_f w_11 l2 l3 l4 _ _ h _; exact absurd h (Nat.not_lt_zero _)
  | succ n ih =>
    intro b2_1 b2_3 sv_f w_11 l2 l3 l4 hv0 hv1 hm e_
    replace e_ := fun β k_ => (e_ β k_).trans lf_wk_X3_putRight_15_s
    refine g_iload B dX3_putRight_15 4 rfl ?_
    refine g_iload_n B dX3_putRight_17 rfl 3 rfl ?_
    refine g_icmp_ge (tgt := 137) B dX3_putRight_18 (by decide) (fun c18_1319 => ?_) (fun c18_1319 => ?_)
    · replace e_ := fun β k_ => (e_ β k_).trans (if_pos c18_1319)
      exact K b2_1 b2_3 sv_f w_11 l2 l3 l4 hv1 e_
    · replace e_ := fun β k_ => (e_ β k_).trans (if_neg c18_1319)
      refine g_iload B dX3_putRight_21 4 rfl ?_
      refine g_sipush (v := 1200) B dX3_putRight_23 (by decide) ?_
      refine g_icmp_ge (tgt := 137) B dX3_putRight_26 (by decide) (fun c26_1320 => ?_) (fun c26_1320 => ?_)
      · replace e_ := fun β k_ => (e_ β k_).trans (if_pos c26_1320)
        exact K b2_1 b2_3 sv_f w_11 l2 l3 l4 hv1 e_
      · replace e_ := fun β k_ => (e_ β k_).trans (if_neg c26_1320)
        refine g_aload_n B dX3_putRight_29 rfl 0 rfl ?_
        refine g_get B 0 4 fl_X3_18 rfl rfl dX3_putRight_30 ?_
        refine g_get B 4 2 fl_X3_194 rfl rfl dX3_putRight_33 ?_
        refine g_iload B dX3_putRight_36 4 rfl ?_
        refine g_lald B 7 rfl (in_lt (by decide) hv0 (o_2 c26_1320)) dX3_putRight_38 ?_
        refine g_aload_n B dX3_putRight_39 rfl 0 rfl ?_
        refine g_get B 0 3 fl_X3_31 rfl rfl dX3_putRight_40 ?_
        refine g_aload_n B dX3_putRight_43 rfl 0 rfl ?_
        refine g_get B 0 4 fl_X3_18 rfl rfl dX3_putRight_44 ?_
        refine g_get B 4 3 fl_X3_198 rfl rfl dX3_putRight_47 ?_
        refine g_iload B dX3_putRight_50 4 rfl ?_
        refine g_iald B 8 rfl (in_lt (by decide) hv0 (o_2 c26_1320)) dX3_putRight_52 ?_
        refine g_i2l B dX3_putRight_53 ?_
        refine g_callV (st := [.long (sl_f (Int32.toNatClampNeg l4))]) (As := [.long (Int32.toInt64 (sp_f (Int32.toNatClampNeg l4)))]) (wr := [(e, .inr (3, [.ref tp, .ref sd, .ref b1, .ref b2, .ref sh])), (sh, .inr (8, [.ref sv, .ref sr, .ref sl, .ref sp])), (sv, .inl (E.2.2.1 0, 1200, .inl sv_f)), (sr, .inl (E.2.2.1 0, 1200, .inl sr_f)), (sl, .inl (E.2.2.1 3, 1200, .inr (.inl sl_f))), (sp, .inl (E.2.2.1 0, 1200, .inl sp_f)), (w, .inr (9, [.ref ps, .ref md, .int (nI w_2), .int (nI w_3), .int (nI w_4), .int w_5, .int w_6, .int w_7, .int w_8, .int w_9, .int w_10, .int w_11]))]) (nc' := 0) (ns' := 0) B cl_X3_202 w_im_X0_readT w_se_X0_readT (wk_X0_readT E b2 sd sda 6000 b2_2 sd_1 sda_f b2_1 b2_3 (Int32.toInt64 (sp_f (Int32.toNatClampNeg l4))) (by first | assumption | omega | decide)) rfl [3, 1, 2] [0, 4, 5, 6, 7, 8, 9] rfl rfl (by decide) (by decide) (by decide) 0 rfl (fun q h => by cases h; rfl) rfl ⟨by decide, by decide⟩ rfl rfl (by decide) (by decide) rfl (Nat.le_of_ble_eq_true rfl) dX3_putRight_54 (fun v w hq => ?_)
        obtain ⟨zb_1_1321, zb_3_1322, zr_1323, hz_1324, rfl, rfl⟩ := hq
        replace e_ := fun β k_ => (e_ β k_).trans (hz_1324 β _)
        show G E X 9 [(e, .inr (3, [.ref tp, .ref sd, .ref b1, .ref b2, .ref sh])), (sh, .inr (8, [.ref sv, .ref sr, .ref sl, .ref sp])), (sv, .inl (E.2.2.1 0, 1200, .inl sv_f)), (sr, .inl (E.2.2.1 0, 1200, .inl sr_f)), (sl, .inl (E.2.2.1 3, 1200, .inr (.inl sl_f))), (sp, .inl (E.2.2.1 0, 1200, .inl sp_f)), (w, .inr (9, [.ref ps, .ref md, .int (nI w_2), .int (nI w_3), .int (nI w_4), .int w_5, .int w_6, .int w_7, .int w_8, .int w_9, .int w_10, .int w_11])), (b2, .inr (0, [.ref sd, .int zb_1_1321, .int b2_2, .int zb_3_1322])), (sd, .inr (2, [.ref sda, .int sd_1])), (sda, .inl (E.2.2.1 1, 6000, .inl (nb sda_f)))] 0 0 [(0, .ref e), (1, .ref w), (2, .int l2), (3, .int l3), (4, .int l4)] 57 [.long zr_1323, .long (sl_f (Int32.toNatClampNeg l4))]
        refine g_ladd B dX3_putRight_57 ?_
        refine g_lstore (lv' := [(5, .long ((sl_f (Int32.toNatClampNeg l4)) + zr_1323)), (0, .ref e), (1, .ref w), (2, .int l2), (3, .int l3), (4, .int l4)]) B dX3_putRight_58 (by decide) rfl ?_
        refine g_lload B dX3_putRight_60 0 rfl ?_
        refine g_ldc2 (v := 2147483647) B w_k_X3_173 dX3_putRight_62 ?_
        refine g_lcmp B dX3_putRight_65 ?_
        refine g_if_le (tgt := 74) B dX3_putRight_66 (by decide) (fun c66_1325 => ?_) (fun c66_1325 => ?_)
        · replace e_ := fun β k_ => (e_ β k_).trans (if_pos c66_1325)
          refine g_aload_n B dX3_putRight_74 rfl 1 rfl ?_
          refine g_get B 0 4 fl_X3_18 rfl rfl dX3_putRight_75 ?_
          refine g_get B 1 1 fl_X3_206 rfl rfl dX3_putRight_78 ?_
          refine g_iload B dX3_putRight_81 5 rfl ?_
          refine g_iald B 3 rfl (in_lt (by decide) hv0 (o_2 c26_1320)) dX3_putRight_83 ?_
          refine g_istore (lv' := [(7, .int (sr_f (Int32.toNatClampNeg l4))), (5, .long ((sl_f (Int32.toNatClampNeg l4)) + zr_1323)), (0, .ref e), (1, .ref w), (2, .int l2), (3, .int l3), (4, .int l4)]) B dX3_putRight_84 (by decide) rfl ?_
          refine g_iload B dX3_putRight_86 0 rfl ?_
          refine g_if_ge (tgt := 99) B dX3_putRight_88 (by decide) (fun c88_1326 => ?_) (fun c88_1326 => ?_)
          · replace e_ := fun β k_ => (e_ β k_).trans (if_pos c88_1326)
            refine g_lload B dX3_putRight_99 1 rfl ?_
            refine g_l2i B dX3_putRight_101 ?_
            refine g_istore (lv' := [(8, .int (Int64.toInt32 ((sl_f (Int32.toNatClampNeg l4)) + zr_1323))), (7, .int (sr_f (Int32.toNatClampNeg l4))), (5, .long ((sl_f (Int32.toNatClampNeg l4)) + zr_1323)), (0, .ref e), (1, .ref w), (2, .int l2), (3, .int l3), (4, .int l4)]) B dX3_putRight_102 (by decide) rfl ?_
            refine g_aload_n B dX3_putRight_104 rfl 3 rfl ?_
            refine g_get B 0 4 fl_X3_18 rfl rfl dX3_putRight_105 ?_
            refine g_get B 1 0 fl_X3_209 rfl rfl dX3_putRight_108 ?_
            refine g_iload B dX3_putRight_111 7 rfl ?_
            refine g_dup2_11 B dX3_putRight_113 rfl rfl ?_
            refine g_iald B 2 rfl (in_lt (by decide) hv0 (o_2 c26_1320)) dX3_putRight_114 ?_
            refine g_iload B dX3_putRight_115 0 rfl ?_
            refine g_iload B dX3_putRight_117 1 rfl ?_
            refine g_isub B dX3_putRight_119 ?_
            refine g_iadd B dX3_putRight_120 ?_
            refine g_topi (fun x_1327 ex_1327 => ?_)
            replace e_ := fun β k_ => (e_ β k_).trans (fnL_eq (x := x_1327) ex_1327.symm _)
            refine g_iast (ws' := [(e, .inr (3, [.ref tp, .ref sd, .ref b1, .ref b2, .ref sh])), (sh, .inr (8, [.ref sv, .ref sr, .ref sl, .ref sp])), (sv, .inl (E.2.2.1 0, 1200, .inl (upd sv_f (Int32.toNatClampNeg l4) x_1327))), (sr, .inl (E.2.2.1 0, 1200, .inl sr_f)), (sl, .inl (E.2.2.1 3, 1200, .inr (.inl sl_f))), (sp, .inl (E.2.2.1 0, 1200, .inl sp_f)), (w, .inr (9, [.ref ps, .ref md, .int (nI w_2), .int (nI w_3), .int (nI w_4), .int w_5, .int w_6, .int w_7, .int w_8, .int w_9, .int w_10, .int w_11])), (b2, .inr (0, [.ref sd, .int zb_1_1321, .int b2_2, .int zb_3_1322])), (sd, .inr (2, [.ref sda, .int sd_1])), (sda, .inl (E.2.2.1 1, 6000, .inl (nb sda_f)))]) B 2 rfl (in_lt (by decide) hv0 (o_2 c26_1320)) rfl dX3_putRight_121 ?_
            refine g_aload_n B dX3_putRight_122 rfl 4 rfl ?_
            refine g_iload B dX3_putRight_123 0 rfl ?_
            refine g_iload B dX3_putRight_125 1 rfl ?_
            refine g_isub B dX3_putRight_127 ?_
            refine g_callV (st := []) (As := [.int ((Int64.toInt32 ((sl_f (Int32.toNatClampNeg l4)) + zr_1323)) - (sr_f (Int32.toNatClampNeg l4)))]) (wr := [(e, .inr (3, [.ref tp, .ref sd, .ref b1, .ref b2, .ref sh])), (sh, .inr (8, [.ref sv, .ref sr, .ref sl, .ref sp])), (sv, .inl (E.2.2.1 0, 1200, .inl (upd sv_f (Int32.toNatClampNeg l4) x_1327))), (sr, .inl (E.2.2.1 0, 1200, .inl sr_f)), (sl, .inl (E.2.2.1 3, 1200, .inr (.inl sl_f))), (sp, .inl (E.2.2.1 0, 1200, .inl sp_f)), (b2, .inr (0, [.ref sd, .int zb_1_1321, .int b2_2, .int zb_3_1322])), (sd, .inr (2, [.ref sda, .int sd_1])), (sda, .inl (E.2.2.1 1, 6000, .inl (nb sda_f)))]) (nc' := 0) (ns' := 0) B cl_X3_212 w_im_X9_noteOff w_se_X9_noteOff (wk_X9_noteOff E w ps md w_2 w_3 w_4 w_5 w_6 w_7 w_8 w_9 w_10 w_11 ((Int64.toInt32 ((sl_f (Int32.toNatClampNeg l4)) + zr_1323)) - (sr_f (Int32.toNatClampNeg l4))) (by first | assumption | omega | decide) (by first | assumption | omega | decide) (by first | assumption | omega | decide)) rfl [6] [0, 1, 2, 3, 4, 5, 7, 8, 9] rfl rfl (by decide) (by decide) (by decide) 0 rfl (fun q h => by cases h; rfl) rfl ⟨by decide, by decide⟩ rfl rfl (by decide) (by decide) rfl (Nat.le_of_ble_eq_true rfl) dX3_putRight_128 (fun v w hq => ?_)
            obtain ⟨zw_11_1328, hz_1329, rfl, rfl⟩ := hq
            replace e_ := fun β k_ => (e_ β k_).trans (hz_1329 β _)
            show G E X 9 [(e, .inr (3, [.ref tp, .ref sd, .ref b1, .ref b2, .ref sh])), (sh, .inr (8, [.ref sv, .ref sr, .ref sl, .ref sp])), (sv, .inl (E.2.2.1 0, 1200, .inl (upd sv_f (Int32.toNatClampNeg l4) x_1327))), (sr, .inl (E.2.2.1 0, 1200, .inl sr_f)), (sl, .inl (E.2.2.1 3, 1200, .inr (.inl sl_f))), (sp, .inl (E.2.2.1 0, 1200, .inl sp_f)), (b2, .inr (0, [.ref sd, .int zb_1_1321, .int b2_2, .int zb_3_1322])), (sd, .inr (2, [.ref sda, .int sd_1])), (sda, .inl (E.2.2.1 1, 6000, .inl (nb sda_f))), (w, .inr (9, [.ref ps, .ref md, .int (nI w_2), .int (nI w_3), .int (nI w_4), .int w_5, .int w_6, .int w_7, .int w_8, .int w_9, .int w_10, .int zw_11_1328]))] 0 0 [(8, .int (Int64.toInt32 ((sl_f (Int32.toNatClampNeg l4)) + zr_1323))), (7, .int (sr_f (Int32.toNatClampNeg l4))), (5, .long ((sl_f (Int32.toNatClampNeg l4)) + zr_1323)), (0, .ref e), (1, .ref w), (2, .int l2), (3, .int l3), (4, .int l4)] 131 []
            refine g_iinc (v := (l4 + 1)) (lv' := [(4, .int (l4 + 1)), (8, .int (Int64.toInt32 ((sl_f (Int32.toNatClampNeg l4)) + zr_1323))), (7, .int (sr_f (Int32.toNatClampNeg l4))), (5, .long ((sl_f (Int32.toNatClampNeg l4)) + zr_1323)), (0, .ref e), (1, .ref w), (2, .int l2), (3, .int l3)]) B dX3_putRight_131 7 rfl rfl (by decide) rfl ?_
            refine g_goto (tgt := 15) B dX3_putRight_134 (by decide) ?_
            refine g_sub (ws' := [(e, .inr (3, [.ref tp, .ref sd, .ref b1, .ref b2, .ref sh])), (sd, .inr (2, [.ref sda, .int sd_1])), (sda, .inl (E.2.2.1 1, 6000, .inl (nb sda_f))), (b2, .inr (0, [.ref sd, .int zb_1_1321, .int b2_2, .int zb_3_1322])), (sh, .inr (8, [.ref sv, .ref sr, .ref sl, .ref sp])), (sv, .inl (E.2.2.1 0, 1200, .inl (upd sv_f (Int32.toNatClampNeg l4) x_1327))), (sr, .inl (E.2.2.1 0, 1200, .inl sr_f)), (sl, .inl (E.2.2.1 3, 1200, .inr (.inl sl_f))), (sp, .inl (E.2.2.1 0, 1200, .inl sp_f)), (w, .inr (9, [.ref ps, .ref md, .int (nI w_2), .int (nI w_3), .int (nI w_4), .int w_5, .int w_6, .int w_7, .int w_8, .int w_9, .int w_10, .int zw_11_1328]))]) [0, 7, 8, 6, 1, 2, 3, 4, 5, 9] (by decide) rfl ?_
            refine g_lvsub (lv' := [(0, .ref e), (1, .ref w), (2, .int l2), (3, .int l3), (4, .int (l4 + 1))]) [4, 5, 6, 7, 0] rfl ?_
            exact ih zb_1_1321 zb_3_1322 (upd sv_f (Int32.toNatClampNeg l4) x_1327) zw_11_1328 l2 l3 (l4 + 1) (inv_up hv0 (o_2 c26_1320)) (by first | exact Or.inl rfl | exact Or.inr rfl | assumption) (Nat.lt_of_lt_of_le (st_up (o_2 c26_1320)) (Nat.le_of_lt_succ hm)) e_
          · replace e_ := fun β k_ => (e_ β k_).trans (if_neg c88_1326)
            refine g_iconst (v := (-1)) B dX3_putRight_91 (by decide) ?_
            refine g_lload B dX3_putRight_92 1 rfl ?_
            refine g_l2i B dX3_putRight_94 ?_
            refine g_isub B dX3_putRight_95 ?_
            refine g_goto (tgt := 102) B dX3_putRight_96 (by decide) ?_
            refine g_istore (lv' := [(8, .int ((-1) - (Int64.toInt32 ((sl_f (Int32.toNatClampNeg l4)) + zr_1323)))), (7, .int (sr_f (Int32.toNatClampNeg l4))), (5, .long ((sl_f (Int32.toNatClampNeg l4)) + zr_1323)), (0, .ref e), (1, .ref w), (2, .int l2), (3, .int l3), (4, .int l4)]) B dX3_putRight_102 (by decide) rfl ?_
            refine g_aload_n B dX3_putRight_104 rfl 3 rfl ?_
            refine g_get B 0 4 fl_X3_18 rfl rfl dX3_putRight_105 ?_
            refine g_get B 1 0 fl_X3_209 rfl rfl dX3_putRight_108 ?_
            refine g_iload B dX3_putRight_111 7 rfl ?_
            refine g_dup2_11 B dX3_putRight_113 rfl rfl ?_
            refine g_iald B 2 rfl (in_lt (by decide) hv0 (o_2 c26_1320)) dX3_putRight_114 ?_
            refine g_iload B dX3_putRight_115 0 rfl ?_
            refine g_iload B dX3_putRight_117 1 rfl ?_
            refine g_isub B dX3_putRight_119 ?_
            refine g_iadd B dX3_putRight_120 ?_
            refine g_topi (fun x_1330 ex_1330 => ?_)
            replace e_ := fun β k_ => (e_ β k_).trans (fnL_eq (x := x_1330) ex_1330.symm _)
            refine g_iast (ws' := [(e, .inr (3, [.ref tp, .ref sd, .ref b1, .ref b2, .ref sh])), (sh, .inr (8, [.ref sv, .ref sr, .ref sl, .ref sp])), (sv, .inl (E.2.2.1 0, 1200, .inl (upd sv_f (Int32.toNatClampNeg l4) x_1330))), (sr, .inl (E.2.2.1 0, 1200, .inl sr_f)), (sl, .inl (E.2.2.1 3, 1200, .inr (.inl sl_f))), (sp, .inl (E.2.2.1 0, 1200, .inl sp_f)), (w, .inr (9, [.ref ps, .ref md, .int (nI w_2), .int (nI w_3), .int (nI w_4), .int w_5, .int w_6, .int w_7, .int w_8, .int w_9, .int w_10, .int w_11])), (b2, .inr (0, [.ref sd, .int zb_1_1321, .int b2_2, .int zb_3_1322])), (sd, .inr (2, [.ref sda, .int sd_1])), (sda, .inl (E.2.2.1 1, 6000, .inl (nb sda_f)))]) B 2 rfl (in_lt (by decide) hv0 (o_2 c26_1320)) rfl dX3_putRight_121 ?_
            refine g_aload_n B dX3_putRight_122 rfl 4 rfl ?_
            refine g_iload B dX3_putRight_123 0 rfl ?_
            refine g_iload B dX3_putRight_125 1 rfl ?_
            refine g_isub B dX3_putRight_127 ?_
            refine g_callV (st := []) (As := [.int (((-1) - (Int64.toInt32 ((sl_f (Int32.toNatClampNeg l4)) + zr_1323))) - (sr_f (Int32.toNatClampNeg l4)))]) (wr := [(e, .inr (3, [.ref tp, .ref sd, .ref b1, .ref b2, .ref sh])), (sh, .inr (8, [.ref sv, .ref sr, .ref sl, .ref sp])), (sv, .inl (E.2.2.1 0, 1200, .inl (upd sv_f (Int32.toNatClampNeg l4) x_1330))), (sr, .inl (E.2.2.1 0, 1200, .inl sr_f)), (sl, .inl (E.2.2.1 3, 1200, .inr (.inl sl_f))), (sp, .inl (E.2.2.1 0, 1200, .inl sp_f)), (b2, .inr (0, [.ref sd, .int zb_1_1321, .int b2_2, .int zb_3_1322])), (sd, .inr (2, [.ref sda, .int sd_1])), (sda, .inl (E.2.2.1 1, 6000, .inl (nb sda_f)))]) (nc' := 0) (ns' := 0) B cl_X3_212 w_im_X9_noteOff w_se_X9_noteOff (wk_X9_noteOff E w ps md w_2 w_3 w_4 w_5 w_6 w_7 w_8 w_9 w_10 w_11 (((-1) - (Int64.toInt32 ((sl_f (Int32.toNatClampNeg l4)) + zr_1323))) - (sr_f (Int32.toNatClampNeg l4))) (by first | assumption | omega | decide) (by first | assumption | omega | decide) (by first | assumption | omega | decide)) rfl [6] [0, 1, 2, 3, 4, 5, 7, 8, 9] rfl rfl (by decide) (by decide) (by decide) 0 rfl (fun q h => by cases h; rfl) rfl ⟨by decide, by decide⟩ rfl rfl (by decide) (by decide) rfl (Nat.le_of_ble_eq_true rfl) dX3_putRight_128 (fun v w hq => ?_)
            obtain ⟨zw_11_1331, hz_1332, rfl, rfl⟩ := hq
            replace e_ := fun β k_ => (e_ β k_).trans (hz_1332 β _)
            show G E X 9 [(e, .inr (3, [.ref tp, .ref sd, .ref b1, .ref b2, .ref sh])), (sh, .inr (8, [.ref sv, .ref sr, .ref sl, .ref sp])), (sv, .inl (E.2.2.1 0, 1200, .inl (upd sv_f (Int32.toNatClampNeg l4) x_1330))), (sr, .inl (E.2.2.1 0, 1200, .inl sr_f)), (sl, .inl (E.2.2.1 3, 1200, .inr (.inl sl_f))), (sp, .inl (E.2.2.1 0, 1200, .inl sp_f)), (b2, .inr (0, [.ref sd, .int zb_1_1321, .int b2_2, .int zb_3_1322])), (sd, .inr (2, [.ref sda, .int sd_1])), (sda, .inl (E.2.2.1 1, 6000, .inl (nb sda_f))), (w, .inr (9, [.ref ps, .ref md, .int (nI w_2), .int (nI w_3), .int (nI w_4), .int w_5, .int w_6, .int w_7, .int w_8, .int w_9, .int w_10, .int zw_11_1331]))] 0 0 [(8, .int ((-1) - (Int64.toInt32 ((sl_f (Int32.toNatClampNeg l4)) + zr_1323)))), (7, .int (sr_f (Int32.toNatClampNeg l4))), (5, .long ((sl_f (Int32.toNatClampNeg l4)) + zr_1323)), (0, .ref e), (1, .ref w), (2, .int l2), (3, .int l3), (4, .int l4)] 131 []
            refine g_iinc (v := (l4 + 1)) (lv' := [(4, .int (l4 + 1)), (8, .int ((-1) - (Int64.toInt32 ((sl_f (Int32.toNatClampNeg l4)) + zr_1323)))), (7, .int (sr_f (Int32.toNatClampNeg l4))), (5, .long ((sl_f (Int32.toNatClampNeg l4)) + zr_1323)), (0, .ref e), (1, .ref w), (2, .int l2), (3, .int l3)]) B dX3_putRight_131 7 rfl rfl (by decide) rfl ?_
            refine g_goto (tgt := 15) B dX3_putRight_134 (by decide) ?_
            refine g_sub (ws' := [(e, .inr (3, [.ref tp, .ref sd, .ref b1, .ref b2, .ref sh])), (sd, .inr (2, [.ref sda, .int sd_1])), (sda, .inl (E.2.2.1 1, 6000, .inl (nb sda_f))), (b2, .inr (0, [.ref sd, .int zb_1_1321, .int b2_2, .int zb_3_1322])), (sh, .inr (8, [.ref sv, .ref sr, .ref sl, .ref sp])), (sv, .inl (E.2.2.1 0, 1200, .inl (upd sv_f (Int32.toNatClampNeg l4) x_1330))), (sr, .inl (E.2.2.1 0, 1200, .inl sr_f)), (sl, .inl (E.2.2.1 3, 1200, .inr (.inl sl_f))), (sp, .inl (E.2.2.1 0, 1200, .inl sp_f)), (w, .inr (9, [.ref ps, .ref md, .int (nI w_2), .int (nI w_3), .int (nI w_4), .int w_5, .int w_6, .int w_7, .int w_8, .int w_9, .int w_10, .int zw_11_1331]))]) [0, 7, 8, 6, 1, 2, 3, 4, 5, 9] (by decide) rfl ?_
            refine g_lvsub (lv' := [(0, .ref e), (1, .ref w), (2, .int l2), (3, .int l3), (4, .int (l4 + 1))]) [4, 5, 6, 7, 0] rfl ?_
            exact ih zb_1_1321 zb_3_1322 (upd sv_f (Int32.toNatClampNeg l4) x_1330) zw_11_1331 l2 l3 (l4 + 1) (inv_up hv0 (o_2 c26_1320)) (by first | exact Or.inl rfl | exact Or.inr rfl | assumption) (Nat.lt_of_lt_of_le (st_up (o_2 c26_1320)) (Nat.le_of_lt_succ hm)) e_
        · replace e_ := fun β k_ => (e_ β k_).trans (if_neg c66_1325)
          refine g_iconst (v := 1) B dX3_putRight_69 (by decide) ?_
          refine g_istore_n (lv' := [(2, .int 1), (5, .long ((sl_f (Int32.toNatClampNeg l4)) + zr_1323)), (0, .ref e), (1, .ref w), (3, .int l3), (4, .int l4)]) B dX3_putRight_70 rfl (by decide) rfl ?_
          refine g_goto (tgt := 131) B dX3_putRight_71 (by decide) ?_
          refine g_iinc (v := (l4 + 1)) (lv' := [(4, .int (l4 + 1)), (2, .int 1), (5, .long ((sl_f (Int32.toNatClampNeg l4)) + zr_1323)), (0, .ref e), (1, .ref w), (3, .int l3)]) B dX3_putRight_131 5 rfl rfl (by decide) rfl ?_
          refine g_goto (tgt := 15) B dX3_putRight_134 (by decide) ?_
          refine g_sub (ws' := [(e, .inr (3, [.ref tp, .ref sd, .ref b1, .ref b2, .ref sh])), (sd, .inr (2, [.ref sda, .int sd_1])), (sda, .inl (E.2.2.1 1, 6000, .inl (nb sda_f))), (b2, .inr (0, [.ref sd, .int zb_1_1321, .int b2_2, .int zb_3_1322])), (sh, .inr (8, [.ref sv, .ref sr, .ref sl, .ref sp])), (sv, .inl (E.2.2.1 0, 1200, .inl sv_f)), (sr, .inl (E.2.2.1 0, 1200, .inl sr_f)), (sl, .inl (E.2.2.1 3, 1200, .inr (.inl sl_f))), (sp, .inl (E.2.2.1 0, 1200, .inl sp_f)), (w, .inr (9, [.ref ps, .ref md, .int (nI w_2), .int (nI w_3), .int (nI w_4), .int w_5, .int w_6, .int w_7, .int w_8, .int w_9, .int w_10, .int w_11]))]) [0, 8, 9, 7, 1, 2, 3, 4, 5, 6] (by decide) rfl ?_
          refine g_lvsub (lv' := [(0, .ref e), (1, .ref w), (2, .int 1), (3, .int l3), (4, .int (l4 + 1))]) [3, 4, 1, 5, 0] rfl ?_
          exact ih zb_1_1321 zb_3_1322 sv_f w_11 1 l3 (l4 + 1) (inv_up hv0 (o_2 c26_1320)) (by first | exact Or.inl rfl | exact Or.inr rfl | assumption) (Nat.lt_of_lt_of_le (st_up (o_2 c26_1320)) (Nat.le_of_lt_succ hm)) e_
theorem dX3_putRight_137 : decode cX3_putRight 137 = .ok (.iload_n 2, 1) := by decide +kernel
theorem dX3_putRight_138 : decode cX3_putRight 138 = .ok (.ireturn, 1) := by decide +kernel
set_option maxRecDepth 100000 in
def fn_wk_X3_putRight (sda_f : Nat → Int32) (b2_2 : Int32) (sr_f : Nat → Int32) (sl_f : Nat → Int64) (sp_f : Nat → Int32) (w_3 : Nat) (w_4 : Nat) (b2_1 : Int32) (b2_3 : Int32) (sv_f : Nat → Int32) (w_11 : Int32) (β : Type) (k_ : Int32 → Int32 → (Nat → Int32) → Int32 → Int32 → β) : β := (lf_wk_X3_putRight_15 sda_f b2_2 sr_f sl_f sp_f β (fun y_1333b2_1 y_1333b2_3 y_1333sv_f y_1333w_11 y_1333l2 y_1333l3 y_1333l4 => (k_ y_1333b2_1 y_1333b2_3 y_1333sv_f y_1333w_11 y_1333l2)) ((Int32.toInt 1200 - Int32.toInt 0).toNat + 1) b2_1 b2_3 sv_f w_11 0 (nI w_4 * nI w_3) 0)
set_option maxRecDepth 100000 in
theorem fn_wk_X3_putRight_s {sda_f : Nat → Int32} {b2_2 : Int32} {sr_f : Nat → Int32} {sl_f : Nat → Int64} {sp_f : Nat → Int32} {w_3 : Nat} {w_4 : Nat} {b2_1 : Int32} {b2_3 : Int32} {sv_f : Nat → Int32} {w_11 : Int32} {β : Type} {k_ : Int32 → Int32 → (Nat → Int32) → Int32 → Int32 → β} : fn_wk_X3_putRight sda_f b2_2 sr_f sl_f sp_f w_3 w_4 b2_1 b2_3 sv_f w_11 β k_ = (lf_wk_X3_putRight_15 sda_f b2_2 sr_f sl_f sp_f β (fun y_1333b2_1 y_1333b2_3 y_1333sv_f y_1333w_11 y_1333l2 y_1333l3 y_1333l4 => (k_ y_1333b2_1 y_1333b2_3 y_1333sv_f y_1333w_11 y_1333l2)) ((Int32.toInt 1200 - Int32.toInt 0).toNat + 1) b2_1 b2_3 sv_f w_11 0 (nI w_4 * nI w_3) 0) := rfl
set_option maxRecDepth 100000 in
set_option maxHeartbeats 4000000 in
theorem wk_X3_putRight (E : g_E) (e : Nat) (tp : Nat) (sd : Nat) (b1 : Nat) (b2 : Nat) (sh : Nat) (sda : Nat) (sv : Nat) (sr : Nat) (sl : Nat) (sp : Nat) (w : Nat) (ps : Nat) (md : Nat) (sd_1 : Int32) (sda_f : Nat → Int32) (b2_2 : Int32) (sr_f : Nat → Int32) (sl_f : Nat → Int64) (sp_f : Nat → Int32) (w_2 : Nat) (w_3 : Nat) (w_4 : Nat) (w_5 : Int32) (w_6 : Int32) (w_7 : Int32) (w_8 : Int32) (w_9 : Int32) (w_10 : Int32) (b2_1 : Int32) (b2_3 : Int32) (sv_f : Nat → Int32) (w_11 : Int32) (hk0 : w_2 ≤ 2) (hk1 : w_3 ≤ 2) (hk2 : w_4 ≤ 600) : Ev E MX3_putRight 2 53 0 0 [.ref e, .ref w] [(e, .inr (3, [.ref tp, .ref sd, .ref b1, .ref b2, .ref sh])), (sd, .inr (2, [.ref sda, .int sd_1])), (sda, .inl (E.2.2.1 1, 6000, .inl (nb sda_f))), (b2, .inr (0, [.ref sd, .int b2_1, .int b2_2, .int b2_3])), (sh, .inr (8, [.ref sv, .ref sr, .ref sl, .ref sp])), (sv, .inl (E.2.2.1 0, 1200, .inl sv_f)), (sr, .inl (E.2.2.1 0, 1200, .inl sr_f)), (sl, .inl (E.2.2.1 3, 1200, .inr (.inl sl_f))), (sp, .inl (E.2.2.1 0, 1200, .inl sp_f)), (w, .inr (9, [.ref ps, .ref md, .int (nI w_2), .int (nI w_3), .int (nI w_4), .int w_5, .int w_6, .int w_7, .int w_8, .int w_9, .int w_10, .int w_11]))] (fun v_ w_ => ∃ zb2_1 : Int32, ∃ zb2_3 : Int32, ∃ zsv_f : Nat → Int32, ∃ zw_11 : Int32, ∃ zr : Int32, (zr = 0 ∨ zr = 1) ∧ (∀ (β : Type) (k_ : Int32 → Int32 → (Nat → Int32) → Int32 → Int32 → β), fn_wk_X3_putRight sda_f b2_2 sr_f sl_f sp_f w_3 w_4 b2_1 b2_3 sv_f w_11 β k_ = k_ zb2_1 zb2_3 zsv_f zw_11 zr) ∧ v_ = some (.int zr) ∧ w_ = [(e, .inr (3, [.ref tp, .ref sd, .ref b1, .ref b2, .ref sh])), (sd, .inr (2, [.ref sda, .int sd_1])), (sda, .inl (E.2.2.1 1, 6000, .inl (nb sda_f))), (b2, .inr (0, [.ref sd, .int zb2_1, .int b2_2, .int zb2_3])), (sh, .inr (8, [.ref sv, .ref sr, .ref sl, .ref sp])), (sv, .inl (E.2.2.1 0, 1200, .inl zsv_f)), (sr, .inl (E.2.2.1 0, 1200, .inl sr_f)), (sl, .inl (E.2.2.1 3, 1200, .inr (.inl sl_f))), (sp, .inl (E.2.2.1 0, 1200, .inl sp_f)), (w, .inr (9, [.ref ps, .ref md, .int (nI w_2), .int (nI w_3), .int (nI w_4), .int w_5, .int w_6, .int w_7, .int w_8, .int w_9, .int w_10, .int zw_11]))]) := by
  refine Ev.intro (by decide) (Nat.le_of_ble_eq_true rfl) ?_
  intro X B hr hI
  have B : Bd E X cX3_putRight RX3 9 2 53 0 0 := B
  have hr : Rt E X (some .boolean) 0 0 (fun v_ w_ => ∃ zb2_1 : Int32, ∃ zb2_3 : Int32, ∃ zsv_f : Nat → Int32, ∃ zw_11 : Int32, ∃ zr : Int32, (zr = 0 ∨ zr = 1) ∧ (∀ (β : Type) (k_ : Int32 → Int32 → (Nat → Int32) → Int32 → Int32 → β), fn_wk_X3_putRight sda_f b2_2 sr_f sl_f sp_f w_3 w_4 b2_1 b2_3 sv_f w_11 β k_ = k_ zb2_1 zb2_3 zsv_f zw_11 zr) ∧ v_ = some (.int zr) ∧ w_ = [(e, .inr (3, [.ref tp, .ref sd, .ref b1, .ref b2, .ref sh])), (sd, .inr (2, [.ref sda, .int sd_1])), (sda, .inl (E.2.2.1 1, 6000, .inl (nb sda_f))), (b2, .inr (0, [.ref sd, .int zb2_1, .int b2_2, .int zb2_3])), (sh, .inr (8, [.ref sv, .ref sr, .ref sl, .ref sp])), (sv, .inl (E.2.2.1 0, 1200, .inl zsv_f)), (sr, .inl (E.2.2.1 0, 1200, .inl sr_f)), (sl, .inl (E.2.2.1 3, 1200, .inr (.inl sl_f))), (sp, .inl (E.2.2.1 0, 1200, .inl sp_f)), (w, .inr (9, [.ref ps, .ref md, .int (nI w_2), .int (nI w_3), .int (nI w_4), .int w_5, .int w_6, .int w_7, .int w_8, .int w_9, .int w_10, .int zw_11]))]) := hr
  have e_ := fun (β : Type) (k_ : Int32 → Int32 → (Nat → Int32) → Int32 → Int32 → β) => fn_wk_X3_putRight_s (β := β) (k_ := k_) (sda_f := sda_f) (b2_2 := b2_2) (sr_f := sr_f) (sl_f := sl_f) (sp_f := sp_f) (w_3 := w_3) (w_4 := w_4) (b2_1 := b2_1) (b2_3 := b2_3) (sv_f := sv_f) (w_11 := w_11)
  show G E X 9 [(e, .inr (3, [.ref tp, .ref sd, .ref b1, .ref b2, .ref sh])), (sd, .inr (2, [.ref sda, .int sd_1])), (sda, .inl (E.2.2.1 1, 6000, .inl (nb sda_f))), (b2, .inr (0, [.ref sd, .int b2_1, .int b2_2, .int b2_3])), (sh, .inr (8, [.ref sv, .ref sr, .ref sl, .ref sp])), (sv, .inl (E.2.2.1 0, 1200, .inl sv_f)), (sr, .inl (E.2.2.1 0, 1200, .inl sr_f)), (sl, .inl (E.2.2.1 3, 1200, .inr (.inl sl_f))), (sp, .inl (E.2.2.1 0, 1200, .inl sp_f)), (w, .inr (9, [.ref ps, .ref md, .int (nI w_2), .int (nI w_3), .int (nI w_4), .int w_5, .int w_6, .int w_7, .int w_8, .int w_9, .int w_10, .int w_11]))] 0 0 [(0, .ref e), (1, .ref w)] 0 []
  refine g_iconst (v := 0) B dX3_putRight_0 (by decide) ?_
  refine g_istore_n (lv' := [(2, .int 0), (0, .ref e), (1, .ref w)]) B dX3_putRight_1 rfl (by decide) rfl ?_
  refine g_aload_n B dX3_putRight_2 rfl 2 rfl ?_
  refine g_get B 9 4 fl_X3_99 rfl rfl dX3_putRight_3 ?_
  refine g_aload_n B dX3_putRight_6 rfl 2 rfl ?_
  refine g_get B 9 3 fl_X3_125 rfl rfl dX3_putRight_7 ?_
  refine g_imul B dX3_putRight_10 ?_
  refine g_istore_n (lv' := [(3, .int (nI w_4 * nI w_3)), (2, .int 0), (0, .ref e), (1, .ref w)]) B dX3_putRight_11 rfl (by decide) rfl ?_
  refine g_iconst (v := 0) B dX3_putRight_12 (by decide) ?_
  refine g_istore (lv' := [(4, .int 0), (3, .int (nI w_4 * nI w_3)), (2, .int 0), (0, .ref e), (1, .ref w)]) B dX3_putRight_13 (by decide) rfl ?_
  refine g_lvsub (lv' := [(0, .ref e), (1, .ref w), (2, .int 0), (3, .int (nI w_4 * nI w_3)), (4, .int 0)]) [3, 4, 2, 1, 0] rfl ?_
  refine lp_wk_X3_putRight_15 E e tp sd b1 b2 sh sda sv sr sl sp w ps md sd_1 sda_f b2_2 sr_f sl_f sp_f w_2 w_3 w_4 w_5 w_6 w_7 w_8 w_9 w_10 hk0 hk1 hk2 _ B hr (fun y_1333b2_1 y_1333b2_3 y_1333sv_f y_1333w_11 y_1333l2 y_1333l3 y_1333l4 y_1333k1 e_ => ?_) _ b2_1 b2_3 sv_f w_11 0 (nI w_4 * nI w_3) 0 (by decide) (by first | exact Or.inl rfl | exact Or.inr rfl) (Nat.lt_succ_self _) e_
  refine g_iload_n B dX3_putRight_137 rfl 2 rfl ?_
  exact g_zret B hr (nar01 (by assumption)) dX3_putRight_138 (by decide) (by decide) ⟨y_1333b2_1, y_1333b2_3, y_1333sv_f, y_1333w_11, y_1333l2, (by first | assumption | omega | decide), e_, rfl, rfl⟩
abbrev MX3_readSecond : g_M := (yX3_readSecond, cX3_readSecond, 5, (some .int))
theorem dX3_readSecond_0 : decode cX3_readSecond 0 = .ok (.aload_n 0, 1) := by decide +kernel
theorem dX3_readSecond_1 : decode cX3_readSecond 1 = .ok (.getfield 15, 3) := by decide +kernel
theorem dX3_readSecond_4 : decode cX3_readSecond 4 = .ok (.getfield 34, 3) := by decide +kernel
theorem dX3_readSecond_7 : decode cX3_readSecond 7 = .ok (.iconst 4, 1) := by decide +kernel
theorem dX3_readSecond_8 : decode cX3_readSecond 8 = .ok (.isub, 1) := by decide +kernel
theorem dX3_readSecond_9 : decode cX3_readSecond 9 = .ok (.istore_n 2, 1) := by decide +kernel
theorem dX3_readSecond_10 : decode cX3_readSecond 10 = .ok (.iload_n 2, 1) := by decide +kernel
theorem dX3_readSecond_11 : decode cX3_readSecond 11 = .ok (.iconst 5, 1) := by decide +kernel
theorem dX3_readSecond_12 : decode cX3_readSecond 12 = .ok (.if_icmp .ge 6, 3) := by decide +kernel
theorem dX3_readSecond_18 : decode cX3_readSecond 18 = .ok (.aload_n 0, 1) := by decide +kernel
theorem dX3_readSecond_19 : decode cX3_readSecond 19 = .ok (.getfield 15, 3) := by decide +kernel
theorem dX3_readSecond_22 : decode cX3_readSecond 22 = .ok (.iload_n 2, 1) := by decide +kernel
theorem dX3_readSecond_23 : decode cX3_readSecond 23 = .ok (.invokevirtual 40, 3) := by decide +kernel
theorem dX3_readSecond_26 : decode cX3_readSecond 26 = .ok (.aload_n 0, 1) := by decide +kernel
theorem dX3_readSecond_27 : decode cX3_readSecond 27 = .ok (.getfield 15, 3) := by decide +kernel
theorem dX3_readSecond_30 : decode cX3_readSecond 30 = .ok (.iload_n 2, 1) := by decide +kernel
theorem dX3_readSecond_31 : decode cX3_readSecond 31 = .ok (.invokevirtual 44, 3) := by decide +kernel
theorem dX3_readSecond_34 : decode cX3_readSecond 34 = .ok (.if_icmp .eq 6, 3) := by decide +kernel
theorem dX3_readSecond_40 : decode cX3_readSecond 40 = .ok (.aload_n 0, 1) := by decide +kernel
theorem dX3_readSecond_41 : decode cX3_readSecond 41 = .ok (.getfield 9, 3) := by decide +kernel
theorem dX3_readSecond_44 : decode cX3_readSecond 44 = .ok (.aload_n 0, 1) := by decide +kernel
theorem dX3_readSecond_45 : decode cX3_readSecond 45 = .ok (.getfield 9, 3) := by decide +kernel
theorem dX3_readSecond_48 : decode cX3_readSecond 48 = .ok (.getfield 34, 3) := by decide +kernel
theorem dX3_readSecond_51 : decode cX3_readSecond 51 = .ok (.iconst 4, 1) := by decide +kernel
theorem dX3_readSecond_52 : decode cX3_readSecond 52 = .ok (.isub, 1) := by decide +kernel
theorem dX3_readSecond_53 : decode cX3_readSecond 53 = .ok (.invokevirtual 40, 3) := by decide +kernel
theorem dX3_readSecond_56 : decode cX3_readSecond 56 = .ok (.istore_n 3, 1) := by decide +kernel
theorem dX3_readSecond_57 : decode cX3_readSecond 57 = .ok (.aload_n 0, 1) := by decide +kernel
theorem dX3_readSecond_58 : decode cX3_readSecond 58 = .ok (.getfield 15, 3) := by decide +kernel
theorem dX3_readSecond_61 : decode cX3_readSecond 61 = .ok (.iconst 0, 1) := by decide +kernel
theorem dX3_readSecond_62 : decode cX3_readSecond 62 = .ok (.invokevirtual 59, 3) := by decide +kernel
theorem dX3_readSecond_65 : decode cX3_readSecond 65 = .ok (.bipush 67, 2) := by decide +kernel
theorem dX3_readSecond_67 : decode cX3_readSecond 67 = .ok (.if_icmp .ne 15, 3) := by decide +kernel
theorem dX3_readSecond_82 : decode cX3_readSecond 82 = .ok (.bipush 9, 2) := by decide +kernel
theorem dX3_readSecond_84 : decode cX3_readSecond 84 = .ok (.ireturn, 1) := by decide +kernel
theorem dX3_readSecond_70 : decode cX3_readSecond 70 = .ok (.aload_n 0, 1) := by decide +kernel
theorem dX3_readSecond_71 : decode cX3_readSecond 71 = .ok (.getfield 15, 3) := by decide +kernel
theorem dX3_readSecond_74 : decode cX3_readSecond 74 = .ok (.iconst 1, 1) := by decide +kernel
theorem dX3_readSecond_75 : decode cX3_readSecond 75 = .ok (.invokevirtual 40, 3) := by decide +kernel
theorem dX3_readSecond_78 : decode cX3_readSecond 78 = .ok (.iload_n 3, 1) := by decide +kernel
theorem dX3_readSecond_79 : decode cX3_readSecond 79 = .ok (.if_icmp .eq 6, 3) := by decide +kernel
theorem dX3_readSecond_85 : decode cX3_readSecond 85 = .ok (.aload_n 0, 1) := by decide +kernel
theorem dX3_readSecond_86 : decode cX3_readSecond 86 = .ok (.getfield 31, 3) := by decide +kernel
theorem dX3_readSecond_89 : decode cX3_readSecond 89 = .ok (.iconst 5, 1) := by decide +kernel
theorem dX3_readSecond_90 : decode cX3_readSecond 90 = .ok (.iload_n 2, 1) := by decide +kernel
theorem dX3_readSecond_91 : decode cX3_readSecond 91 = .ok (.invokevirtual 86, 3) := by decide +kernel
theorem dX3_readSecond_94 : decode cX3_readSecond 94 = .ok (.aload_n 0, 1) := by decide +kernel
theorem dX3_readSecond_95 : decode cX3_readSecond 95 = .ok (.aload_n 1, 1) := by decide +kernel
theorem dX3_readSecond_96 : decode cX3_readSecond 96 = .ok (.invokevirtual 190, 3) := by decide +kernel
theorem w_ml_X3_190 : Cond.methodLink RX3 190 yX3_putRight ∈ g_tbl := g_tbl_in 839 (by decide +kernel) (by decide +kernel)
theorem w_cd_X3_putRight : g_cw MX3_putRight ∈ g_tbl := g_tbl_in 842 (by decide +kernel) (by decide +kernel)
theorem cl_X3_190 : CL RX3 190 1 MX3_putRight := ⟨w_ml_X3_190, w_cd_X3_putRight, w_ini_X3, by decide +kernel, by decide +kernel, by decide +kernel⟩
theorem w_im_X3_putRight : Cond.instanceMethod yX3_putRight ∈ g_tbl := g_tbl_in 841 (by decide +kernel) (by decide +kernel)
theorem w_se_X3_putRight : Cond.selects RX3 yX3_putRight yX3_putRight ∈ g_tbl := g_tbl_in 26 (by decide +kernel) (by decide +kernel)
theorem dX3_readSecond_99 : decode cX3_readSecond 99 = .ok (.istore 4, 2) := by decide +kernel
theorem dX3_readSecond_101 : decode cX3_readSecond 101 = .ok (.aload_n 0, 1) := by decide +kernel
theorem dX3_readSecond_102 : decode cX3_readSecond 102 = .ok (.getfield 31, 3) := by decide +kernel
theorem dX3_readSecond_105 : decode cX3_readSecond 105 = .ok (.getfield 109, 3) := by decide +kernel
theorem dX3_readSecond_108 : decode cX3_readSecond 108 = .ok (.ifCond .eq 6, 3) := by decide +kernel
theorem dX3_readSecond_114 : decode cX3_readSecond 114 = .ok (.aload_n 0, 1) := by decide +kernel
theorem dX3_readSecond_115 : decode cX3_readSecond 115 = .ok (.getfield 31, 3) := by decide +kernel
theorem dX3_readSecond_118 : decode cX3_readSecond 118 = .ok (.invokevirtual 55, 3) := by decide +kernel
theorem dX3_readSecond_121 : decode cX3_readSecond 121 = .ok (.ifCond .eq 6, 3) := by decide +kernel
theorem dX3_readSecond_127 : decode cX3_readSecond 127 = .ok (.iload 4, 2) := by decide +kernel
theorem dX3_readSecond_129 : decode cX3_readSecond 129 = .ok (.ifCond .eq 8, 3) := by decide +kernel
theorem dX3_readSecond_137 : decode cX3_readSecond 137 = .ok (.iconst 0, 1) := by decide +kernel
theorem dX3_readSecond_138 : decode cX3_readSecond 138 = .ok (.ireturn, 1) := by decide +kernel
theorem dX3_readSecond_132 : decode cX3_readSecond 132 = .ok (.bipush 12, 2) := by decide +kernel
theorem dX3_readSecond_134 : decode cX3_readSecond 134 = .ok (.goto 4, 3) := by decide +kernel
theorem dX3_readSecond_124 : decode cX3_readSecond 124 = .ok (.bipush 11, 2) := by decide +kernel
theorem dX3_readSecond_126 : decode cX3_readSecond 126 = .ok (.ireturn, 1) := by decide +kernel
theorem dX3_readSecond_111 : decode cX3_readSecond 111 = .ok (.bipush 10, 2) := by decide +kernel
theorem dX3_readSecond_113 : decode cX3_readSecond 113 = .ok (.ireturn, 1) := by decide +kernel
theorem dX3_readSecond_37 : decode cX3_readSecond 37 = .ok (.bipush 8, 2) := by decide +kernel
theorem dX3_readSecond_39 : decode cX3_readSecond 39 = .ok (.ireturn, 1) := by decide +kernel
theorem dX3_readSecond_15 : decode cX3_readSecond 15 = .ok (.bipush 7, 2) := by decide +kernel
theorem dX3_readSecond_17 : decode cX3_readSecond 17 = .ok (.ireturn, 1) := by decide +kernel
set_option maxRecDepth 100000 in
def fn_wk_X3_readSecond (tp_1 : Int32) (tpa_f : Nat → Int32) (sd_1 : Int32) (sda_f : Nat → Int32) (sr_f : Nat → Int32) (sl_f : Nat → Int64) (sp_f : Nat → Int32) (w_3 : Nat) (w_4 : Nat) (b2_1 : Int32) (b2_2 : Int32) (b2_3 : Int32) (sv_f : Nat → Int32) (w_11 : Int32) (β : Type) (k_ : Int32 → Int32 → Int32 → (Nat → Int32) → Int32 → Int32 → β) : β := (if 5 ≤ (sd_1 - 4) then (fn_wk_X2_wordAt 6000 sd_1 sda_f (sd_1 - 4) β (fun zr_1335 => (fn_wk_X2_crc 6000 sd_1 sda_f (sd_1 - 4) β (fun zr_1337 => (if zr_1335 = zr_1337 then (fn_wk_X2_wordAt 6000 tp_1 tpa_f (tp_1 - 4) β (fun zr_1340 => (fn_wk_X2_at 6000 sd_1 sda_f 0 β (fun zr_1342 => (if zr_1342 = 67 then (fn_wk_X2_wordAt 6000 sd_1 sda_f 1 β (fun zr_1345 => (if zr_1345 = zr_1340 then (fn_wk_X0_start 5 (sd_1 - 4) β (fun zb_1_1348 zb_2_1349 zb_3_1350 => (fn_wk_X3_putRight sda_f zb_2_1349 sr_f sl_f sp_f w_3 w_4 zb_1_1348 zb_3_1350 sv_f w_11 β (fun zb2_1_1352 zb2_3_1353 zsv_f_1354 zw_11_1355 zr_1356 => (if zb2_3_1353 = 0 then (fn_wk_X0_isRestWrong 6000 zb_2_1349 sda_f zb2_1_1352 zb2_3_1353 β (fun zb_1_1360 zb_3_1361 zr_1362 => (if zr_1362 = 0 then (if zr_1356 = 0 then (k_ zb_1_1360 zb_2_1349 zb_3_1361 zsv_f_1354 zw_11_1355 0) else (k_ zb_1_1360 zb_2_1349 zb_3_1361 zsv_f_1354 zw_11_1355 12)) else (k_ zb_1_1360 zb_2_1349 zb_3_1361 zsv_f_1354 zw_11_1355 11)))) else (k_ zb2_1_1352 zb_2_1349 zb2_3_1353 zsv_f_1354 zw_11_1355 10)))))) else (k_ b2_1 b2_2 b2_3 sv_f w_11 9)))) else (k_ b2_1 b2_2 b2_3 sv_f w_11 9)))))) else (k_ b2_1 b2_2 b2_3 sv_f w_11 8)))))) else (k_ b2_1 b2_2 b2_3 sv_f w_11 7))
set_option maxRecDepth 100000 in
theorem fn_wk_X3_readSecond_s {tp_1 : Int32} {tpa_f : Nat → Int32} {sd_1 : Int32} {sda_f : Nat → Int32} {sr_f : Nat → Int32} {sl_f : Nat → Int64} {sp_f : Nat → Int32} {w_3 : Nat} {w_4 : Nat} {b2_1 : Int32} {b2_2 : Int32} {b2_3 : Int32} {sv_f : Nat → Int32} {w_11 : Int32} {β : Type} {k_ : Int32 → Int32 → Int32 → (Nat → Int32) → Int32 → Int32 → β} : fn_wk_X3_readSecond tp_1 tpa_f sd_1 sda_f sr_f sl_f sp_f w_3 w_4 b2_1 b2_2 b2_3 sv_f w_11 β k_ = (if 5 ≤ (sd_1 - 4) then (fn_wk_X2_wordAt 6000 sd_1 sda_f (sd_1 - 4) β (fun zr_1335 => (fn_wk_X2_crc 6000 sd_1 sda_f (sd_1 - 4) β (fun zr_1337 => (if zr_1335 = zr_1337 then (fn_wk_X2_wordAt 6000 tp_1 tpa_f (tp_1 - 4) β (fun zr_1340 => (fn_wk_X2_at 6000 sd_1 sda_f 0 β (fun zr_1342 => (if zr_1342 = 67 then (fn_wk_X2_wordAt 6000 sd_1 sda_f 1 β (fun zr_1345 => (if zr_1345 = zr_1340 then (fn_wk_X0_start 5 (sd_1 - 4) β (fun zb_1_1348 zb_2_1349 zb_3_1350 => (fn_wk_X3_putRight sda_f zb_2_1349 sr_f sl_f sp_f w_3 w_4 zb_1_1348 zb_3_1350 sv_f w_11 β (fun zb2_1_1352 zb2_3_1353 zsv_f_1354 zw_11_1355 zr_1356 => (if zb2_3_1353 = 0 then (fn_wk_X0_isRestWrong 6000 zb_2_1349 sda_f zb2_1_1352 zb2_3_1353 β (fun zb_1_1360 zb_3_1361 zr_1362 => (if zr_1362 = 0 then (if zr_1356 = 0 then (k_ zb_1_1360 zb_2_1349 zb_3_1361 zsv_f_1354 zw_11_1355 0) else (k_ zb_1_1360 zb_2_1349 zb_3_1361 zsv_f_1354 zw_11_1355 12)) else (k_ zb_1_1360 zb_2_1349 zb_3_1361 zsv_f_1354 zw_11_1355 11)))) else (k_ zb2_1_1352 zb_2_1349 zb2_3_1353 zsv_f_1354 zw_11_1355 10)))))) else (k_ b2_1 b2_2 b2_3 sv_f w_11 9)))) else (k_ b2_1 b2_2 b2_3 sv_f w_11 9)))))) else (k_ b2_1 b2_2 b2_3 sv_f w_11 8)))))) else (k_ b2_1 b2_2 b2_3 sv_f w_11 7)) := rfl
set_option maxRecDepth 100000 in
set_option maxHeartbeats 4000000 in
theorem wk_X3_readSecond (E : g_E) (e : Nat) (tp : Nat) (sd : Nat) (b1 : Nat) (b2 : Nat) (sh : Nat) (tpa : Nat) (sda : Nat) (sv : Nat) (sr : Nat) (sl : Nat) (sp : Nat) (w : Nat) (ps : Nat) (md : Nat) (tp_1 : Int32) (tpa_f : Nat → Int32) (sd_1 : Int32) (sda_f : Nat → Int32) (sr_f : Nat → Int32) (sl_f : Nat → Int64) (sp_f : Nat → Int32) (w_2 : Nat) (w_3 : Nat) (w_4 : Nat) (w_5 : Int32) (w_6 : Int32) (w_7 : Int32) (w_8 : Int32) (w_9 : Int32) (w_10 : Int32) (b2_1 : Int32) (b2_2 : Int32) (b2_3 : Int32) (sv_f : Nat → Int32) (w_11 : Int32) (hk0 : w_2 ≤ 2) (hk1 : w_3 ≤ 2) (hk2 : w_4 ≤ 600) : Ev E MX3_readSecond 3 81 0 0 [.ref e, .ref w] [(e, .inr (3, [.ref tp, .ref sd, .ref b1, .ref b2, .ref sh])), (tp, .inr (2, [.ref tpa, .int tp_1])), (tpa, .inl (E.2.2.1 1, 6000, .inl (nb tpa_f))), (sd, .inr (2, [.ref sda, .int sd_1])), (sda, .inl (E.2.2.1 1, 6000, .inl (nb sda_f))), (b2, .inr (0, [.ref sd, .int b2_1, .int b2_2, .int b2_3])), (sh, .inr (8, [.ref sv, .ref sr, .ref sl, .ref sp])), (sv, .inl (E.2.2.1 0, 1200, .inl sv_f)), (sr, .inl (E.2.2.1 0, 1200, .inl sr_f)), (sl, .inl (E.2.2.1 3, 1200, .inr (.inl sl_f))), (sp, .inl (E.2.2.1 0, 1200, .inl sp_f)), (w, .inr (9, [.ref ps, .ref md, .int (nI w_2), .int (nI w_3), .int (nI w_4), .int w_5, .int w_6, .int w_7, .int w_8, .int w_9, .int w_10, .int w_11]))] (fun v_ w_ => ∃ zb2_1 : Int32, ∃ zb2_2 : Int32, ∃ zb2_3 : Int32, ∃ zsv_f : Nat → Int32, ∃ zw_11 : Int32, ∃ zr : Int32, (∀ (β : Type) (k_ : Int32 → Int32 → Int32 → (Nat → Int32) → Int32 → Int32 → β), fn_wk_X3_readSecond tp_1 tpa_f sd_1 sda_f sr_f sl_f sp_f w_3 w_4 b2_1 b2_2 b2_3 sv_f w_11 β k_ = k_ zb2_1 zb2_2 zb2_3 zsv_f zw_11 zr) ∧ v_ = some (.int zr) ∧ w_ = [(e, .inr (3, [.ref tp, .ref sd, .ref b1, .ref b2, .ref sh])), (tp, .inr (2, [.ref tpa, .int tp_1])), (tpa, .inl (E.2.2.1 1, 6000, .inl (nb tpa_f))), (sd, .inr (2, [.ref sda, .int sd_1])), (sda, .inl (E.2.2.1 1, 6000, .inl (nb sda_f))), (b2, .inr (0, [.ref sd, .int zb2_1, .int zb2_2, .int zb2_3])), (sh, .inr (8, [.ref sv, .ref sr, .ref sl, .ref sp])), (sv, .inl (E.2.2.1 0, 1200, .inl zsv_f)), (sr, .inl (E.2.2.1 0, 1200, .inl sr_f)), (sl, .inl (E.2.2.1 3, 1200, .inr (.inl sl_f))), (sp, .inl (E.2.2.1 0, 1200, .inl sp_f)), (w, .inr (9, [.ref ps, .ref md, .int (nI w_2), .int (nI w_3), .int (nI w_4), .int w_5, .int w_6, .int w_7, .int w_8, .int w_9, .int w_10, .int zw_11]))]) := by
  refine Ev.intro (by decide) (Nat.le_of_ble_eq_true rfl) ?_
  intro X B hr hI
  have B : Bd E X cX3_readSecond RX3 5 3 81 0 0 := B
  have hr : Rt E X (some .int) 0 0 (fun v_ w_ => ∃ zb2_1 : Int32, ∃ zb2_2 : Int32, ∃ zb2_3 : Int32, ∃ zsv_f : Nat → Int32, ∃ zw_11 : Int32, ∃ zr : Int32, (∀ (β : Type) (k_ : Int32 → Int32 → Int32 → (Nat → Int32) → Int32 → Int32 → β), fn_wk_X3_readSecond tp_1 tpa_f sd_1 sda_f sr_f sl_f sp_f w_3 w_4 b2_1 b2_2 b2_3 sv_f w_11 β k_ = k_ zb2_1 zb2_2 zb2_3 zsv_f zw_11 zr) ∧ v_ = some (.int zr) ∧ w_ = [(e, .inr (3, [.ref tp, .ref sd, .ref b1, .ref b2, .ref sh])), (tp, .inr (2, [.ref tpa, .int tp_1])), (tpa, .inl (E.2.2.1 1, 6000, .inl (nb tpa_f))), (sd, .inr (2, [.ref sda, .int sd_1])), (sda, .inl (E.2.2.1 1, 6000, .inl (nb sda_f))), (b2, .inr (0, [.ref sd, .int zb2_1, .int zb2_2, .int zb2_3])), (sh, .inr (8, [.ref sv, .ref sr, .ref sl, .ref sp])), (sv, .inl (E.2.2.1 0, 1200, .inl zsv_f)), (sr, .inl (E.2.2.1 0, 1200, .inl sr_f)), (sl, .inl (E.2.2.1 3, 1200, .inr (.inl sl_f))), (sp, .inl (E.2.2.1 0, 1200, .inl sp_f)), (w, .inr (9, [.ref ps, .ref md, .int (nI w_2), .int (nI w_3), .int (nI w_4), .int w_5, .int w_6, .int w_7, .int w_8, .int w_9, .int w_10, .int zw_11]))]) := hr
  have e_ := fun (β : Type) (k_ : Int32 → Int32 → Int32 → (Nat → Int32) → Int32 → Int32 → β) => fn_wk_X3_readSecond_s (β := β) (k_ := k_) (tp_1 := tp_1) (tpa_f := tpa_f) (sd_1 := sd_1) (sda_f := sda_f) (sr_f := sr_f) (sl_f := sl_f) (sp_f := sp_f) (w_3 := w_3) (w_4 := w_4) (b2_1 := b2_1) (b2_2 := b2_2) (b2_3 := b2_3) (sv_f := sv_f) (w_11 := w_11)
  show G E X 5 [(e, .inr (3, [.ref tp, .ref sd, .ref b1, .ref b2, .ref sh])), (tp, .inr (2, [.ref tpa, .int tp_1])), (tpa, .inl (E.2.2.1 1, 6000, .inl (nb tpa_f))), (sd, .inr (2, [.ref sda, .int sd_1])), (sda, .inl (E.2.2.1 1, 6000, .inl (nb sda_f))), (b2, .inr (0, [.ref sd, .int b2_1, .int b2_2, .int b2_3])), (sh, .inr (8, [.ref sv, .ref sr, .ref sl, .ref sp])), (sv, .inl (E.2.2.1 0, 1200, .inl sv_f)), (sr, .inl (E.2.2.1 0, 1200, .inl sr_f)), (sl, .inl (E.2.2.1 3, 1200, .inr (.inl sl_f))), (sp, .inl (E.2.2.1 0, 1200, .inl sp_f)), (w, .inr (9, [.ref ps, .ref md, .int (nI w_2), .int (nI w_3), .int (nI w_4), .int w_5, .int w_6, .int w_7, .int w_8, .int w_9, .int w_10, .int w_11]))] 0 0 [(0, .ref e), (1, .ref w)] 0 []
  refine g_aload_n B dX3_readSecond_0 rfl 0 rfl ?_
  refine g_get B 0 1 fl_X3_15 rfl rfl dX3_readSecond_1 ?_
  refine g_get B 3 1 fl_X3_34 rfl rfl dX3_readSecond_4 ?_
  refine g_iconst (v := 4) B dX3_readSecond_7 (by decide) ?_
  refine g_isub B dX3_readSecond_8 ?_
  refine g_istore_n (lv' := [(2, .int (sd_1 - 4)), (0, .ref e), (1, .ref w)]) B dX3_readSecond_9 rfl (by decide) rfl ?_
  refine g_iload_n B dX3_readSecond_10 rfl 0 rfl ?_
  refine g_iconst (v := 5) B dX3_readSecond_11 (by decide) ?_
  refine g_icmp_ge (tgt := 18) B dX3_readSecond_12 (by decide) (fun c12_1334 => ?_) (fun c12_1334 => ?_)
  · replace e_ := fun β k_ => (e_ β k_).trans (if_pos c12_1334)
    refine g_aload_n B dX3_readSecond_18 rfl 1 rfl ?_
    refine g_get B 0 1 fl_X3_15 rfl rfl dX3_readSecond_19 ?_
    refine g_iload_n B dX3_readSecond_22 rfl 0 rfl ?_
    refine g_callV (st := []) (As := [.int (sd_1 - 4)]) (wr := [(e, .inr (3, [.ref tp, .ref sd, .ref b1, .ref b2, .ref sh])), (tp, .inr (2, [.ref tpa, .int tp_1])), (tpa, .inl (E.2.2.1 1, 6000, .inl (nb tpa_f))), (b2, .inr (0, [.ref sd, .int b2_1, .int b2_2, .int b2_3])), (sh, .inr (8, [.ref sv, .ref sr, .ref sl, .ref sp])), (sv, .inl (E.2.2.1 0, 1200, .inl sv_f)), (sr, .inl (E.2.2.1 0, 1200, .inl sr_f)), (sl, .inl (E.2.2.1 3, 1200, .inr (.inl sl_f))), (sp, .inl (E.2.2.1 0, 1200, .inl sp_f)), (w, .inr (9, [.ref ps, .ref md, .int (nI w_2), .int (nI w_3), .int (nI w_4), .int w_5, .int w_6, .int w_7, .int w_8, .int w_9, .int w_10, .int w_11]))]) (nc' := 0) (ns' := 0) B cl_X3_40 w_im_X2_wordAt w_se_X2_wordAt (wk_X2_wordAt E sd sda 6000 sd_1 sda_f (sd_1 - 4) (by first | assumption | omega | decide)) rfl [3, 4] [0, 1, 2, 5, 6, 7, 8, 9, 10, 11] rfl rfl (by decide) (by decide) (by decide) 0 rfl (fun q h => by cases h; rfl) rfl ⟨by decide, by decide⟩ rfl rfl (by decide) (by decide) rfl (Nat.le_of_ble_eq_true rfl) dX3_readSecond_23 (fun v w hq => ?_)
    obtain ⟨zr_1335, hz_1336, rfl, rfl⟩ := hq
    replace e_ := fun β k_ => (e_ β k_).trans (hz_1336 β _)
    show G E X 5 [(e, .inr (3, [.ref tp, .ref sd, .ref b1, .ref b2, .ref sh])), (tp, .inr (2, [.ref tpa, .int tp_1])), (tpa, .inl (E.2.2.1 1, 6000, .inl (nb tpa_f))), (b2, .inr (0, [.ref sd, .int b2_1, .int b2_2, .int b2_3])), (sh, .inr (8, [.ref sv, .ref sr, .ref sl, .ref sp])), (sv, .inl (E.2.2.1 0, 1200, .inl sv_f)), (sr, .inl (E.2.2.1 0, 1200, .inl sr_f)), (sl, .inl (E.2.2.1 3, 1200, .inr (.inl sl_f))), (sp, .inl (E.2.2.1 0, 1200, .inl sp_f)), (w, .inr (9, [.ref ps, .ref md, .int (nI w_2), .int (nI w_3), .int (nI w_4), .int w_5, .int w_6, .int w_7, .int w_8, .int w_9, .int w_10, .int w_11])), (sd, .inr (2, [.ref sda, .int sd_1])), (sda, .inl (E.2.2.1 1, 6000, .inl (nb sda_f)))] 0 0 [(2, .int (sd_1 - 4)), (0, .ref e), (1, .ref w)] 26 [.int zr_1335]
    refine g_aload_n B dX3_readSecond_26 rfl 1 rfl ?_
    refine g_get B 0 1 fl_X3_15 rfl rfl dX3_readSecond_27 ?_
    refine g_iload_n B dX3_readSecond_30 rfl 0 rfl ?_
    refine g_callV (st := [.int zr_1335]) (As := [.int (sd_1 - 4)]) (wr := [(e, .inr (3, [.ref tp, .ref sd, .ref b1, .ref b2, .ref sh])), (tp, .inr (2, [.ref tpa, .int tp_1])), (tpa, .inl (E.2.2.1 1, 6000, .inl (nb tpa_f))), (b2, .inr (0, [.ref sd, .int b2_1, .int b2_2, .int b2_3])), (sh, .inr (8, [.ref sv, .ref sr, .ref sl, .ref sp])), (sv, .inl (E.2.2.1 0, 1200, .inl sv_f)), (sr, .inl (E.2.2.1 0, 1200, .inl sr_f)), (sl, .inl (E.2.2.1 3, 1200, .inr (.inl sl_f))), (sp, .inl (E.2.2.1 0, 1200, .inl sp_f)), (w, .inr (9, [.ref ps, .ref md, .int (nI w_2), .int (nI w_3), .int (nI w_4), .int w_5, .int w_6, .int w_7, .int w_8, .int w_9, .int w_10, .int w_11]))]) (nc' := 0) (ns' := 0) B cl_X3_44 w_im_X2_crc w_se_X2_crc (wk_X2_crc E sd sda 6000 sd_1 sda_f (sd_1 - 4) (by first | assumption | omega | decide)) rfl [10, 11] [0, 1, 2, 3, 4, 5, 6, 7, 8, 9] rfl rfl (by decide) (by decide) (by decide) 0 rfl (fun q h => by cases h; rfl) rfl ⟨by decide, by decide⟩ rfl rfl (by decide) (by decide) rfl (Nat.le_of_ble_eq_true rfl) dX3_readSecond_31 (fun v w hq => ?_)
    obtain ⟨zr_1337, hz_1338, rfl, rfl⟩ := hq
    replace e_ := fun β k_ => (e_ β k_).trans (hz_1338 β _)
    show G E X 5 [(e, .inr (3, [.ref tp, .ref sd, .ref b1, .ref b2, .ref sh])), (tp, .inr (2, [.ref tpa, .int tp_1])), (tpa, .inl (E.2.2.1 1, 6000, .inl (nb tpa_f))), (b2, .inr (0, [.ref sd, .int b2_1, .int b2_2, .int b2_3])), (sh, .inr (8, [.ref sv, .ref sr, .ref sl, .ref sp])), (sv, .inl (E.2.2.1 0, 1200, .inl sv_f)), (sr, .inl (E.2.2.1 0, 1200, .inl sr_f)), (sl, .inl (E.2.2.1 3, 1200, .inr (.inl sl_f))), (sp, .inl (E.2.2.1 0, 1200, .inl sp_f)), (w, .inr (9, [.ref ps, .ref md, .int (nI w_2), .int (nI w_3), .int (nI w_4), .int w_5, .int w_6, .int w_7, .int w_8, .int w_9, .int w_10, .int w_11])), (sd, .inr (2, [.ref sda, .int sd_1])), (sda, .inl (E.2.2.1 1, 6000, .inl (nb sda_f)))] 0 0 [(2, .int (sd_1 - 4)), (0, .ref e), (1, .ref w)] 34 [.int zr_1337, .int zr_1335]
    refine g_icmp_eq (tgt := 40) B dX3_readSecond_34 (by decide) (fun c34_1339 => ?_) (fun c34_1339 => ?_)
    · replace e_ := fun β k_ => (e_ β k_).trans (if_pos c34_1339)
      refine g_aload_n B dX3_readSecond_40 rfl 1 rfl ?_
      refine g_get B 0 0 fl_X3_9 rfl rfl dX3_readSecond_41 ?_
      refine g_aload_n B dX3_readSecond_44 rfl 1 rfl ?_
      refine g_get B 0 0 fl_X3_9 rfl rfl dX3_readSecond_45 ?_
      refine g_get B 1 1 fl_X3_34 rfl rfl dX3_readSecond_48 ?_
      refine g_iconst (v := 4) B dX3_readSecond_51 (by decide) ?_
      refine g_isub B dX3_readSecond_52 ?_
      refine g_callV (st := []) (As := [.int (tp_1 - 4)]) (wr := [(e, .inr (3, [.ref tp, .ref sd, .ref b1, .ref b2, .ref sh])), (b2, .inr (0, [.ref sd, .int b2_1, .int b2_2, .int b2_3])), (sh, .inr (8, [.ref sv, .ref sr, .ref sl, .ref sp])), (sv, .inl (E.2.2.1 0, 1200, .inl sv_f)), (sr, .inl (E.2.2.1 0, 1200, .inl sr_f)), (sl, .inl (E.2.2.1 3, 1200, .inr (.inl sl_f))), (sp, .inl (E.2.2.1 0, 1200, .inl sp_f)), (w, .inr (9, [.ref ps, .ref md, .int (nI w_2), .int (nI w_3), .int (nI w_4), .int w_5, .int w_6, .int w_7, .int w_8, .int w_9, .int w_10, .int w_11])), (sd, .inr (2, [.ref sda, .int sd_1])), (sda, .inl (E.2.2.1 1, 6000, .inl (nb sda_f)))]) (nc' := 0) (ns' := 0) B cl_X3_40 w_im_X2_wordAt w_se_X2_wordAt (wk_X2_wordAt E tp tpa 6000 tp_1 tpa_f (tp_1 - 4) (by first | assumption | omega | decide)) rfl [1, 2] [0, 3, 4, 5, 6, 7, 8, 9, 10, 11] rfl rfl (by decide) (by decide) (by decide) 0 rfl (fun q h => by cases h; rfl) rfl ⟨by decide, by decide⟩ rfl rfl (by decide) (by decide) rfl (Nat.le_of_ble_eq_true rfl) dX3_readSecond_53 (fun v w hq => ?_)
      obtain ⟨zr_1340, hz_1341, rfl, rfl⟩ := hq
      replace e_ := fun β k_ => (e_ β k_).trans (hz_1341 β _)
      show G E X 5 [(e, .inr (3, [.ref tp, .ref sd, .ref b1, .ref b2, .ref sh])), (b2, .inr (0, [.ref sd, .int b2_1, .int b2_2, .int b2_3])), (sh, .inr (8, [.ref sv, .ref sr, .ref sl, .ref sp])), (sv, .inl (E.2.2.1 0, 1200, .inl sv_f)), (sr, .inl (E.2.2.1 0, 1200, .inl sr_f)), (sl, .inl (E.2.2.1 3, 1200, .inr (.inl sl_f))), (sp, .inl (E.2.2.1 0, 1200, .inl sp_f)), (w, .inr (9, [.ref ps, .ref md, .int (nI w_2), .int (nI w_3), .int (nI w_4), .int w_5, .int w_6, .int w_7, .int w_8, .int w_9, .int w_10, .int w_11])), (sd, .inr (2, [.ref sda, .int sd_1])), (sda, .inl (E.2.2.1 1, 6000, .inl (nb sda_f))), (tp, .inr (2, [.ref tpa, .int tp_1])), (tpa, .inl (E.2.2.1 1, 6000, .inl (nb tpa_f)))] 0 0 [(2, .int (sd_1 - 4)), (0, .ref e), (1, .ref w)] 56 [.int zr_1340]
      refine g_istore_n (lv' := [(3, .int zr_1340), (2, .int (sd_1 - 4)), (0, .ref e), (1, .ref w)]) B dX3_readSecond_56 rfl (by decide) rfl ?_
      refine g_aload_n B dX3_readSecond_57 rfl 2 rfl ?_
      refine g_get B 0 1 fl_X3_15 rfl rfl dX3_readSecond_58 ?_
      refine g_iconst (v := 0) B dX3_readSecond_61 (by decide) ?_
      refine g_callV (st := []) (As := [.int 0]) (wr := [(e, .inr (3, [.ref tp, .ref sd, .ref b1, .ref b2, .ref sh])), (b2, .inr (0, [.ref sd, .int b2_1, .int b2_2, .int b2_3])), (sh, .inr (8, [.ref sv, .ref sr, .ref sl, .ref sp])), (sv, .inl (E.2.2.1 0, 1200, .inl sv_f)), (sr, .inl (E.2.2.1 0, 1200, .inl sr_f)), (sl, .inl (E.2.2.1 3, 1200, .inr (.inl sl_f))), (sp, .inl (E.2.2.1 0, 1200, .inl sp_f)), (w, .inr (9, [.ref ps, .ref md, .int (nI w_2), .int (nI w_3), .int (nI w_4), .int w_5, .int w_6, .int w_7, .int w_8, .int w_9, .int w_10, .int w_11])), (tp, .inr (2, [.ref tpa, .int tp_1])), (tpa, .inl (E.2.2.1 1, 6000, .inl (nb tpa_f)))]) (nc' := 0) (ns' := 0) B cl_X3_59 w_im_X2_at w_se_X2_at (wk_X2_at E sd sda 6000 sd_1 sda_f 0 (by first | assumption | omega | decide)) rfl [8, 9] [0, 1, 2, 3, 4, 5, 6, 7, 10, 11] rfl rfl (by decide) (by decide) (by decide) 0 rfl (fun q h => by cases h; rfl) rfl ⟨by decide, by decide⟩ rfl rfl (by decide) (by decide) rfl (Nat.le_of_ble_eq_true rfl) dX3_readSecond_62 (fun v w hq => ?_)
      obtain ⟨zr_1342, hz_1343, rfl, rfl⟩ := hq
      replace e_ := fun β k_ => (e_ β k_).trans (hz_1343 β _)
      show G E X 5 [(e, .inr (3, [.ref tp, .ref sd, .ref b1, .ref b2, .ref sh])), (b2, .inr (0, [.ref sd, .int b2_1, .int b2_2, .int b2_3])), (sh, .inr (8, [.ref sv, .ref sr, .ref sl, .ref sp])), (sv, .inl (E.2.2.1 0, 1200, .inl sv_f)), (sr, .inl (E.2.2.1 0, 1200, .inl sr_f)), (sl, .inl (E.2.2.1 3, 1200, .inr (.inl sl_f))), (sp, .inl (E.2.2.1 0, 1200, .inl sp_f)), (w, .inr (9, [.ref ps, .ref md, .int (nI w_2), .int (nI w_3), .int (nI w_4), .int w_5, .int w_6, .int w_7, .int w_8, .int w_9, .int w_10, .int w_11])), (tp, .inr (2, [.ref tpa, .int tp_1])), (tpa, .inl (E.2.2.1 1, 6000, .inl (nb tpa_f))), (sd, .inr (2, [.ref sda, .int sd_1])), (sda, .inl (E.2.2.1 1, 6000, .inl (nb sda_f)))] 0 0 [(3, .int zr_1340), (2, .int (sd_1 - 4)), (0, .ref e), (1, .ref w)] 65 [.int zr_1342]
      refine g_bipush (v := 67) B dX3_readSecond_65 (by decide) ?_
      refine g_icmp_ne (tgt := 82) B dX3_readSecond_67 (by decide) (fun c67_1344 => ?_) (fun c67_1344 => ?_)
      · replace e_ := fun β k_ => (e_ β k_).trans (if_neg c67_1344)
        refine g_bipush (v := 9) B dX3_readSecond_82 (by decide) ?_
        refine g_sub (ws' := [(e, .inr (3, [.ref tp, .ref sd, .ref b1, .ref b2, .ref sh])), (tp, .inr (2, [.ref tpa, .int tp_1])), (tpa, .inl (E.2.2.1 1, 6000, .inl (nb tpa_f))), (sd, .inr (2, [.ref sda, .int sd_1])), (sda, .inl (E.2.2.1 1, 6000, .inl (nb sda_f))), (b2, .inr (0, [.ref sd, .int b2_1, .int b2_2, .int b2_3])), (sh, .inr (8, [.ref sv, .ref sr, .ref sl, .ref sp])), (sv, .inl (E.2.2.1 0, 1200, .inl sv_f)), (sr, .inl (E.2.2.1 0, 1200, .inl sr_f)), (sl, .inl (E.2.2.1 3, 1200, .inr (.inl sl_f))), (sp, .inl (E.2.2.1 0, 1200, .inl sp_f)), (w, .inr (9, [.ref ps, .ref md, .int (nI w_2), .int (nI w_3), .int (nI w_4), .int w_5, .int w_6, .int w_7, .int w_8, .int w_9, .int w_10, .int w_11]))]) [0, 8, 9, 10, 11, 1, 2, 3, 4, 5, 6, 7] (by decide) rfl ?_
        exact g_iret B hr dX3_readSecond_84 (by decide) (by decide) ⟨b2_1, b2_2, b2_3, sv_f, w_11, 9, e_, rfl, rfl⟩
      · replace e_ := fun β k_ => (e_ β k_).trans (if_pos c67_1344)
        refine g_aload_n B dX3_readSecond_70 rfl 2 rfl ?_
        refine g_get B 0 1 fl_X3_15 rfl rfl dX3_readSecond_71 ?_
        refine g_iconst (v := 1) B dX3_readSecond_74 (by decide) ?_
        refine g_callV (st := []) (As := [.int 1]) (wr := [(e, .inr (3, [.ref tp, .ref sd, .ref b1, .ref b2, .ref sh])), (b2, .inr (0, [.ref sd, .int b2_1, .int b2_2, .int b2_3])), (sh, .inr (8, [.ref sv, .ref sr, .ref sl, .ref sp])), (sv, .inl (E.2.2.1 0, 1200, .inl sv_f)), (sr, .inl (E.2.2.1 0, 1200, .inl sr_f)), (sl, .inl (E.2.2.1 3, 1200, .inr (.inl sl_f))), (sp, .inl (E.2.2.1 0, 1200, .inl sp_f)), (w, .inr (9, [.ref ps, .ref md, .int (nI w_2), .int (nI w_3), .int (nI w_4), .int w_5, .int w_6, .int w_7, .int w_8, .int w_9, .int w_10, .int w_11])), (tp, .inr (2, [.ref tpa, .int tp_1])), (tpa, .inl (E.2.2.1 1, 6000, .inl (nb tpa_f)))]) (nc' := 0) (ns' := 0) B cl_X3_40 w_im_X2_wordAt w_se_X2_wordAt (wk_X2_wordAt E sd sda 6000 sd_1 sda_f 1 (by first | assumption | omega | decide)) rfl [10, 11] [0, 1, 2, 3, 4, 5, 6, 7, 8, 9] rfl rfl (by decide) (by decide) (by decide) 0 rfl (fun q h => by cases h; rfl) rfl ⟨by decide, by decide⟩ rfl rfl (by decide) (by decide) rfl (Nat.le_of_ble_eq_true rfl) dX3_readSecond_75 (fun v w hq => ?_)
        obtain ⟨zr_1345, hz_1346, rfl, rfl⟩ := hq
        replace e_ := fun β k_ => (e_ β k_).trans (hz_1346 β _)
        show G E X 5 [(e, .inr (3, [.ref tp, .ref sd, .ref b1, .ref b2, .ref sh])), (b2, .inr (0, [.ref sd, .int b2_1, .int b2_2, .int b2_3])), (sh, .inr (8, [.ref sv, .ref sr, .ref sl, .ref sp])), (sv, .inl (E.2.2.1 0, 1200, .inl sv_f)), (sr, .inl (E.2.2.1 0, 1200, .inl sr_f)), (sl, .inl (E.2.2.1 3, 1200, .inr (.inl sl_f))), (sp, .inl (E.2.2.1 0, 1200, .inl sp_f)), (w, .inr (9, [.ref ps, .ref md, .int (nI w_2), .int (nI w_3), .int (nI w_4), .int w_5, .int w_6, .int w_7, .int w_8, .int w_9, .int w_10, .int w_11])), (tp, .inr (2, [.ref tpa, .int tp_1])), (tpa, .inl (E.2.2.1 1, 6000, .inl (nb tpa_f))), (sd, .inr (2, [.ref sda, .int sd_1])), (sda, .inl (E.2.2.1 1, 6000, .inl (nb sda_f)))] 0 0 [(3, .int zr_1340), (2, .int (sd_1 - 4)), (0, .ref e), (1, .ref w)] 78 [.int zr_1345]
        refine g_iload_n B dX3_readSecond_78 rfl 0 rfl ?_
        refine g_icmp_eq (tgt := 85) B dX3_readSecond_79 (by decide) (fun c79_1347 => ?_) (fun c79_1347 => ?_)
        · replace e_ := fun β k_ => (e_ β k_).trans (if_pos c79_1347)
          refine g_aload_n B dX3_readSecond_85 rfl 2 rfl ?_
          refine g_get B 0 3 fl_X3_31 rfl rfl dX3_readSecond_86 ?_
          refine g_iconst (v := 5) B dX3_readSecond_89 (by decide) ?_
          refine g_iload_n B dX3_readSecond_90 rfl 1 rfl ?_
          refine g_callV (st := []) (As := [.int 5, .int (sd_1 - 4)]) (wr := [(e, .inr (3, [.ref tp, .ref sd, .ref b1, .ref b2, .ref sh])), (sh, .inr (8, [.ref sv, .ref sr, .ref sl, .ref sp])), (sv, .inl (E.2.2.1 0, 1200, .inl sv_f)), (sr, .inl (E.2.2.1 0, 1200, .inl sr_f)), (sl, .inl (E.2.2.1 3, 1200, .inr (.inl sl_f))), (sp, .inl (E.2.2.1 0, 1200, .inl sp_f)), (w, .inr (9, [.ref ps, .ref md, .int (nI w_2), .int (nI w_3), .int (nI w_4), .int w_5, .int w_6, .int w_7, .int w_8, .int w_9, .int w_10, .int w_11])), (tp, .inr (2, [.ref tpa, .int tp_1])), (tpa, .inl (E.2.2.1 1, 6000, .inl (nb tpa_f))), (sd, .inr (2, [.ref sda, .int sd_1])), (sda, .inl (E.2.2.1 1, 6000, .inl (nb sda_f)))]) (nc' := 0) (ns' := 0) B cl_X3_86 w_im_X0_start w_se_X0_start (wk_X0_start E b2 sd b2_1 b2_2 b2_3 5 (sd_1 - 4) ) rfl [1] [0, 2, 3, 4, 5, 6, 7, 8, 9, 10, 11] rfl rfl (by decide) (by decide) (by decide) 0 rfl (fun q h => by cases h; rfl) rfl ⟨by decide, by decide⟩ rfl rfl (by decide) (by decide) rfl (Nat.le_of_ble_eq_true rfl) dX3_readSecond_91 (fun v w hq => ?_)
          obtain ⟨zb_1_1348, zb_2_1349, zb_3_1350, hz_1351, rfl, rfl⟩ := hq
          replace e_ := fun β k_ => (e_ β k_).trans (hz_1351 β _)
          show G E X 5 [(e, .inr (3, [.ref tp, .ref sd, .ref b1, .ref b2, .ref sh])), (sh, .inr (8, [.ref sv, .ref sr, .ref sl, .ref sp])), (sv, .inl (E.2.2.1 0, 1200, .inl sv_f)), (sr, .inl (E.2.2.1 0, 1200, .inl sr_f)), (sl, .inl (E.2.2.1 3, 1200, .inr (.inl sl_f))), (sp, .inl (E.2.2.1 0, 1200, .inl sp_f)), (w, .inr (9, [.ref ps, .ref md, .int (nI w_2), .int (nI w_3), .int (nI w_4), .int w_5, .int w_6, .int w_7, .int w_8, .int w_9, .int w_10, .int w_11])), (tp, .inr (2, [.ref tpa, .int tp_1])), (tpa, .inl (E.2.2.1 1, 6000, .inl (nb tpa_f))), (sd, .inr (2, [.ref sda, .int sd_1])), (sda, .inl (E.2.2.1 1, 6000, .inl (nb sda_f))), (b2, .inr (0, [.ref sd, .int zb_1_1348, .int zb_2_1349, .int zb_3_1350]))] 0 0 [(3, .int zr_1340), (2, .int (sd_1 - 4)), (0, .ref e), (1, .ref w)] 94 []
          refine g_aload_n B dX3_readSecond_94 rfl 2 rfl ?_
          refine g_aload_n B dX3_readSecond_95 rfl 3 rfl ?_
          refine g_callV (st := []) (As := [.ref w]) (wr := [(tp, .inr (2, [.ref tpa, .int tp_1])), (tpa, .inl (E.2.2.1 1, 6000, .inl (nb tpa_f)))]) (nc' := 0) (ns' := 0) B cl_X3_190 w_im_X3_putRight w_se_X3_putRight (wk_X3_putRight E e tp sd b1 b2 sh sda sv sr sl sp w ps md sd_1 sda_f zb_2_1349 sr_f sl_f sp_f w_2 w_3 w_4 w_5 w_6 w_7 w_8 w_9 w_10 zb_1_1348 zb_3_1350 sv_f w_11 (by first | assumption | omega | decide) (by first | assumption | omega | decide) (by first | assumption | omega | decide)) rfl [0, 9, 10, 11, 1, 2, 3, 4, 5, 6] [7, 8] rfl rfl (by decide) (by decide) (by decide) 0 rfl (fun q h => by cases h; rfl) rfl ⟨by decide, by decide⟩ rfl rfl (by decide) (by decide) rfl (Nat.le_of_ble_eq_true rfl) dX3_readSecond_96 (fun v w hq => ?_)
          obtain ⟨zb2_1_1352, zb2_3_1353, zsv_f_1354, zw_11_1355, zr_1356, hf_1357, hz_1358, rfl, rfl⟩ := hq
          replace e_ := fun β k_ => (e_ β k_).trans (hz_1358 β _)
          show G E X 5 [(tp, .inr (2, [.ref tpa, .int tp_1])), (tpa, .inl (E.2.2.1 1, 6000, .inl (nb tpa_f))), (e, .inr (3, [.ref tp, .ref sd, .ref b1, .ref b2, .ref sh])), (sd, .inr (2, [.ref sda, .int sd_1])), (sda, .inl (E.2.2.1 1, 6000, .inl (nb sda_f))), (b2, .inr (0, [.ref sd, .int zb2_1_1352, .int zb_2_1349, .int zb2_3_1353])), (sh, .inr (8, [.ref sv, .ref sr, .ref sl, .ref sp])), (sv, .inl (E.2.2.1 0, 1200, .inl zsv_f_1354)), (sr, .inl (E.2.2.1 0, 1200, .inl sr_f)), (sl, .inl (E.2.2.1 3, 1200, .inr (.inl sl_f))), (sp, .inl (E.2.2.1 0, 1200, .inl sp_f)), (w, .inr (9, [.ref ps, .ref md, .int (nI w_2), .int (nI w_3), .int (nI w_4), .int w_5, .int w_6, .int w_7, .int w_8, .int w_9, .int w_10, .int zw_11_1355]))] 0 0 [(3, .int zr_1340), (2, .int (sd_1 - 4)), (0, .ref e), (1, .ref w)] 99 [.int zr_1356]
          refine g_istore (lv' := [(4, .int zr_1356), (3, .int zr_1340), (2, .int (sd_1 - 4)), (0, .ref e), (1, .ref w)]) B dX3_readSecond_99 (by decide) rfl ?_
          refine g_aload_n B dX3_readSecond_101 rfl 3 rfl ?_
          refine g_get B 2 3 fl_X3_31 rfl rfl dX3_readSecond_102 ?_
          refine g_get B 5 3 fl_X3_109 rfl rfl dX3_readSecond_105 ?_
          refine g_if_eq (tgt := 114) B dX3_readSecond_108 (by decide) (fun c108_1359 => ?_) (fun c108_1359 => ?_)
          · replace e_ := fun β k_ => (e_ β k_).trans (if_pos c108_1359)
            refine g_aload_n B dX3_readSecond_114 rfl 3 rfl ?_
            refine g_get B 2 3 fl_X3_31 rfl rfl dX3_readSecond_115 ?_
            refine g_callV (st := []) (As := []) (wr := [(tp, .inr (2, [.ref tpa, .int tp_1])), (tpa, .inl (E.2.2.1 1, 6000, .inl (nb tpa_f))), (e, .inr (3, [.ref tp, .ref sd, .ref b1, .ref b2, .ref sh])), (sh, .inr (8, [.ref sv, .ref sr, .ref sl, .ref sp])), (sv, .inl (E.2.2.1 0, 1200, .inl zsv_f_1354)), (sr, .inl (E.2.2.1 0, 1200, .inl sr_f)), (sl, .inl (E.2.2.1 3, 1200, .inr (.inl sl_f))), (sp, .inl (E.2.2.1 0, 1200, .inl sp_f)), (w, .inr (9, [.ref ps, .ref md, .int (nI w_2), .int (nI w_3), .int (nI w_4), .int w_5, .int w_6, .int w_7, .int w_8, .int w_9, .int w_10, .int zw_11_1355]))]) (nc' := 0) (ns' := 0) B cl_X3_55 w_im_X0_isRestWrong w_se_X0_isRestWrong (wk_X0_isRestWrong E b2 sd sda 6000 zb_2_1349 sd_1 sda_f zb2_1_1352 zb2_3_1353 (by first | assumption | omega | decide)) rfl [5, 3, 4] [0, 1, 2, 6, 7, 8, 9, 10, 11] rfl rfl (by decide) (by decide) (by decide) 0 rfl (fun q h => by cases h; rfl) rfl ⟨by decide, by decide⟩ rfl rfl (by decide) (by decide) rfl (Nat.le_of_ble_eq_true rfl) dX3_readSecond_118 (fun v w hq => ?_)
            obtain ⟨zb_1_1360, zb_3_1361, zr_1362, hf_1363, hz_1364, rfl, rfl⟩ := hq
            replace e_ := fun β k_ => (e_ β k_).trans (hz_1364 β _)
            show G E X 5 [(tp, .inr (2, [.ref tpa, .int tp_1])), (tpa, .inl (E.2.2.1 1, 6000, .inl (nb tpa_f))), (e, .inr (3, [.ref tp, .ref sd, .ref b1, .ref b2, .ref sh])), (sh, .inr (8, [.ref sv, .ref sr, .ref sl, .ref sp])), (sv, .inl (E.2.2.1 0, 1200, .inl zsv_f_1354)), (sr, .inl (E.2.2.1 0, 1200, .inl sr_f)), (sl, .inl (E.2.2.1 3, 1200, .inr (.inl sl_f))), (sp, .inl (E.2.2.1 0, 1200, .inl sp_f)), (w, .inr (9, [.ref ps, .ref md, .int (nI w_2), .int (nI w_3), .int (nI w_4), .int w_5, .int w_6, .int w_7, .int w_8, .int w_9, .int w_10, .int zw_11_1355])), (b2, .inr (0, [.ref sd, .int zb_1_1360, .int zb_2_1349, .int zb_3_1361])), (sd, .inr (2, [.ref sda, .int sd_1])), (sda, .inl (E.2.2.1 1, 6000, .inl (nb sda_f)))] 0 0 [(4, .int zr_1356), (3, .int zr_1340), (2, .int (sd_1 - 4)), (0, .ref e), (1, .ref w)] 121 [.int zr_1362]
            refine g_if_eq (tgt := 127) B dX3_readSecond_121 (by decide) (fun c121_1365 => ?_) (fun c121_1365 => ?_)
            · replace e_ := fun β k_ => (e_ β k_).trans (if_pos c121_1365)
              refine g_iload B dX3_readSecond_127 0 rfl ?_
              refine g_if_eq (tgt := 137) B dX3_readSecond_129 (by decide) (fun c129_1366 => ?_) (fun c129_1366 => ?_)
              · replace e_ := fun β k_ => (e_ β k_).trans (if_pos c129_1366)
                refine g_iconst (v := 0) B dX3_readSecond_137 (by decide) ?_
                refine g_sub (ws' := [(e, .inr (3, [.ref tp, .ref sd, .ref b1, .ref b2, .ref sh])), (tp, .inr (2, [.ref tpa, .int tp_1])), (tpa, .inl (E.2.2.1 1, 6000, .inl (nb tpa_f))), (sd, .inr (2, [.ref sda, .int sd_1])), (sda, .inl (E.2.2.1 1, 6000, .inl (nb sda_f))), (b2, .inr (0, [.ref sd, .int zb_1_1360, .int zb_2_1349, .int zb_3_1361])), (sh, .inr (8, [.ref sv, .ref sr, .ref sl, .ref sp])), (sv, .inl (E.2.2.1 0, 1200, .inl zsv_f_1354)), (sr, .inl (E.2.2.1 0, 1200, .inl sr_f)), (sl, .inl (E.2.2.1 3, 1200, .inr (.inl sl_f))), (sp, .inl (E.2.2.1 0, 1200, .inl sp_f)), (w, .inr (9, [.ref ps, .ref md, .int (nI w_2), .int (nI w_3), .int (nI w_4), .int w_5, .int w_6, .int w_7, .int w_8, .int w_9, .int w_10, .int zw_11_1355]))]) [2, 0, 1, 10, 11, 9, 3, 4, 5, 6, 7, 8] (by decide) rfl ?_
                exact g_iret B hr dX3_readSecond_138 (by decide) (by decide) ⟨zb_1_1360, zb_2_1349, zb_3_1361, zsv_f_1354, zw_11_1355, 0, e_, rfl, rfl⟩
              · replace e_ := fun β k_ => (e_ β k_).trans (if_neg c129_1366)
                refine g_bipush (v := 12) B dX3_readSecond_132 (by decide) ?_
                refine g_goto (tgt := 138) B dX3_readSecond_134 (by decide) ?_
                refine g_sub (ws' := [(e, .inr (3, [.ref tp, .ref sd, .ref b1, .ref b2, .ref sh])), (tp, .inr (2, [.ref tpa, .int tp_1])), (tpa, .inl (E.2.2.1 1, 6000, .inl (nb tpa_f))), (sd, .inr (2, [.ref sda, .int sd_1])), (sda, .inl (E.2.2.1 1, 6000, .inl (nb sda_f))), (b2, .inr (0, [.ref sd, .int zb_1_1360, .int zb_2_1349, .int zb_3_1361])), (sh, .inr (8, [.ref sv, .ref sr, .ref sl, .ref sp])), (sv, .inl (E.2.2.1 0, 1200, .inl zsv_f_1354)), (sr, .inl (E.2.2.1 0, 1200, .inl sr_f)), (sl, .inl (E.2.2.1 3, 1200, .inr (.inl sl_f))), (sp, .inl (E.2.2.1 0, 1200, .inl sp_f)), (w, .inr (9, [.ref ps, .ref md, .int (nI w_2), .int (nI w_3), .int (nI w_4), .int w_5, .int w_6, .int w_7, .int w_8, .int w_9, .int w_10, .int zw_11_1355]))]) [2, 0, 1, 10, 11, 9, 3, 4, 5, 6, 7, 8] (by decide) rfl ?_
                exact g_iret B hr dX3_readSecond_138 (by decide) (by decide) ⟨zb_1_1360, zb_2_1349, zb_3_1361, zsv_f_1354, zw_11_1355, 12, e_, rfl, rfl⟩
            · replace e_ := fun β k_ => (e_ β k_).trans (if_neg c121_1365)
              refine g_bipush (v := 11) B dX3_readSecond_124 (by decide) ?_
              refine g_sub (ws' := [(e, .inr (3, [.ref tp, .ref sd, .ref b1, .ref b2, .ref sh])), (tp, .inr (2, [.ref tpa, .int tp_1])), (tpa, .inl (E.2.2.1 1, 6000, .inl (nb tpa_f))), (sd, .inr (2, [.ref sda, .int sd_1])), (sda, .inl (E.2.2.1 1, 6000, .inl (nb sda_f))), (b2, .inr (0, [.ref sd, .int zb_1_1360, .int zb_2_1349, .int zb_3_1361])), (sh, .inr (8, [.ref sv, .ref sr, .ref sl, .ref sp])), (sv, .inl (E.2.2.1 0, 1200, .inl zsv_f_1354)), (sr, .inl (E.2.2.1 0, 1200, .inl sr_f)), (sl, .inl (E.2.2.1 3, 1200, .inr (.inl sl_f))), (sp, .inl (E.2.2.1 0, 1200, .inl sp_f)), (w, .inr (9, [.ref ps, .ref md, .int (nI w_2), .int (nI w_3), .int (nI w_4), .int w_5, .int w_6, .int w_7, .int w_8, .int w_9, .int w_10, .int zw_11_1355]))]) [2, 0, 1, 10, 11, 9, 3, 4, 5, 6, 7, 8] (by decide) rfl ?_
              exact g_iret B hr dX3_readSecond_126 (by decide) (by decide) ⟨zb_1_1360, zb_2_1349, zb_3_1361, zsv_f_1354, zw_11_1355, 11, e_, rfl, rfl⟩
          · replace e_ := fun β k_ => (e_ β k_).trans (if_neg c108_1359)
            refine g_bipush (v := 10) B dX3_readSecond_111 (by decide) ?_
            refine g_sub (ws' := [(e, .inr (3, [.ref tp, .ref sd, .ref b1, .ref b2, .ref sh])), (tp, .inr (2, [.ref tpa, .int tp_1])), (tpa, .inl (E.2.2.1 1, 6000, .inl (nb tpa_f))), (sd, .inr (2, [.ref sda, .int sd_1])), (sda, .inl (E.2.2.1 1, 6000, .inl (nb sda_f))), (b2, .inr (0, [.ref sd, .int zb2_1_1352, .int zb_2_1349, .int zb2_3_1353])), (sh, .inr (8, [.ref sv, .ref sr, .ref sl, .ref sp])), (sv, .inl (E.2.2.1 0, 1200, .inl zsv_f_1354)), (sr, .inl (E.2.2.1 0, 1200, .inl sr_f)), (sl, .inl (E.2.2.1 3, 1200, .inr (.inl sl_f))), (sp, .inl (E.2.2.1 0, 1200, .inl sp_f)), (w, .inr (9, [.ref ps, .ref md, .int (nI w_2), .int (nI w_3), .int (nI w_4), .int w_5, .int w_6, .int w_7, .int w_8, .int w_9, .int w_10, .int zw_11_1355]))]) [2, 0, 1, 3, 4, 5, 6, 7, 8, 9, 10, 11] (by decide) rfl ?_
            exact g_iret B hr dX3_readSecond_113 (by decide) (by decide) ⟨zb2_1_1352, zb_2_1349, zb2_3_1353, zsv_f_1354, zw_11_1355, 10, e_, rfl, rfl⟩
        · replace e_ := fun β k_ => (e_ β k_).trans (if_neg c79_1347)
          refine g_bipush (v := 9) B dX3_readSecond_82 (by decide) ?_
          refine g_sub (ws' := [(e, .inr (3, [.ref tp, .ref sd, .ref b1, .ref b2, .ref sh])), (tp, .inr (2, [.ref tpa, .int tp_1])), (tpa, .inl (E.2.2.1 1, 6000, .inl (nb tpa_f))), (sd, .inr (2, [.ref sda, .int sd_1])), (sda, .inl (E.2.2.1 1, 6000, .inl (nb sda_f))), (b2, .inr (0, [.ref sd, .int b2_1, .int b2_2, .int b2_3])), (sh, .inr (8, [.ref sv, .ref sr, .ref sl, .ref sp])), (sv, .inl (E.2.2.1 0, 1200, .inl sv_f)), (sr, .inl (E.2.2.1 0, 1200, .inl sr_f)), (sl, .inl (E.2.2.1 3, 1200, .inr (.inl sl_f))), (sp, .inl (E.2.2.1 0, 1200, .inl sp_f)), (w, .inr (9, [.ref ps, .ref md, .int (nI w_2), .int (nI w_3), .int (nI w_4), .int w_5, .int w_6, .int w_7, .int w_8, .int w_9, .int w_10, .int w_11]))]) [0, 8, 9, 10, 11, 1, 2, 3, 4, 5, 6, 7] (by decide) rfl ?_
          exact g_iret B hr dX3_readSecond_84 (by decide) (by decide) ⟨b2_1, b2_2, b2_3, sv_f, w_11, 9, e_, rfl, rfl⟩
    · replace e_ := fun β k_ => (e_ β k_).trans (if_neg c34_1339)
      refine g_bipush (v := 8) B dX3_readSecond_37 (by decide) ?_
      refine g_sub (ws' := [(e, .inr (3, [.ref tp, .ref sd, .ref b1, .ref b2, .ref sh])), (tp, .inr (2, [.ref tpa, .int tp_1])), (tpa, .inl (E.2.2.1 1, 6000, .inl (nb tpa_f))), (sd, .inr (2, [.ref sda, .int sd_1])), (sda, .inl (E.2.2.1 1, 6000, .inl (nb sda_f))), (b2, .inr (0, [.ref sd, .int b2_1, .int b2_2, .int b2_3])), (sh, .inr (8, [.ref sv, .ref sr, .ref sl, .ref sp])), (sv, .inl (E.2.2.1 0, 1200, .inl sv_f)), (sr, .inl (E.2.2.1 0, 1200, .inl sr_f)), (sl, .inl (E.2.2.1 3, 1200, .inr (.inl sl_f))), (sp, .inl (E.2.2.1 0, 1200, .inl sp_f)), (w, .inr (9, [.ref ps, .ref md, .int (nI w_2), .int (nI w_3), .int (nI w_4), .int w_5, .int w_6, .int w_7, .int w_8, .int w_9, .int w_10, .int w_11]))]) [0, 1, 2, 10, 11, 3, 4, 5, 6, 7, 8, 9] (by decide) rfl ?_
      exact g_iret B hr dX3_readSecond_39 (by decide) (by decide) ⟨b2_1, b2_2, b2_3, sv_f, w_11, 8, e_, rfl, rfl⟩
  · replace e_ := fun β k_ => (e_ β k_).trans (if_neg c12_1334)
    refine g_bipush (v := 7) B dX3_readSecond_15 (by decide) ?_
    exact g_iret B hr dX3_readSecond_17 (by decide) (by decide) ⟨b2_1, b2_2, b2_3, sv_f, w_11, 7, e_, rfl, rfl⟩
