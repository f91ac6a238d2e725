theorem w_ins_X10 : Cond.instantiable RX10 11 ∈ g_tbl := g_tbl_in 86 (by decide +kernel) (by decide +kernel)
theorem w_ins_X11 : Cond.instantiable RX11 50 ∈ g_tbl := g_tbl_in 873 (by decide +kernel) (by decide +kernel)
theorem w_lays_crc : Cond.laysStatic "SoundPress" "CRC_STEPS" "[I" ∈ lw_tbl := List.mem_of_getElem? (i := 678) (by decide +kernel)
abbrev g_LX (p : Program) (e : Env) (s : State) (m : MethodId) (below : List Frame) (meth : Method) (c : Code) (b : Nat) : g_X := (p, e, s, m, #[Value.ref b], below, meth, c, room_1, (fun q : Nat => s.heap.size ≤ q), lw_Z below #[Value.ref b] s)
theorem g_arr {args : Array Value} {s : State} {ty : FieldType} (h : (Cond.arrayClass ty).before args s = true) : ∃ cA : ClassId, ArrOfT s cA ty ∧ s.vm.findClass ("[" ++ ty.toString) = some cA := by
  obtain ⟨cA, kA, comp, h1, h2, h3⟩ := Cond.arrayClass_spec h
  exact ⟨cA, fun n z => ⟨fun k h => (by cases h), kA, h2, comp, h3⟩, h1⟩
theorem g_crcof {b : Nat} {s : State} (h : (Jvm.Cond.and given_1 narrow_1).before #[Value.ref b] s = true) : ∃ t : Nat, (Term.static "SoundPress" "CRC_STEPS" "[I").eval #[Value.ref b] s none [] s = some (.ref t) ∧ va_T .int t 16 (fun j => .int (g_crc.getD j 0)) (fun q : Nat => s.heap.size ≤ q) s s.heap := by
  have hf := flat_of_before _ h
  refine va_Tof (tm := .static "SoundPress" "CRC_STEPS" "[I") (by decide) (hf _ (by decide +kernel)) (va_eqt (z := Int32.ofNat 16) (hf _ (by decide +kernel))) (fun j hj => ?_) (fun a ha => Nat.not_le.mpr ha)
  have h4 : j = 0 ∨ j = 1 ∨ j = 2 ∨ j = 3 ∨ j = 4 ∨ j = 5 ∨ j = 6 ∨ j = 7 ∨ j = 8 ∨ j = 9 ∨ j = 10 ∨ j = 11 ∨ j = 12 ∨ j = 13 ∨ j = 14 ∨ j = 15 := by omega
  rcases h4 with rfl | rfl | rfl | rfl | rfl | rfl | rfl | rfl | rfl | rfl | rfl | rfl | rfl | rfl | rfl | rfl
  · exact va_eqt (z := g_crc.getD 0 0) (hf _ (by decide +kernel))
  · exact va_eqt (z := g_crc.getD 1 0) (hf _ (by decide +kernel))
  · exact va_eqt (z := g_crc.getD 2 0) (hf _ (by decide +kernel))
  · exact va_eqt (z := g_crc.getD 3 0) (hf _ (by decide +kernel))
  · exact va_eqt (z := g_crc.getD 4 0) (hf _ (by decide +kernel))
  · exact va_eqt (z := g_crc.getD 5 0) (hf _ (by decide +kernel))
  · exact va_eqt (z := g_crc.getD 6 0) (hf _ (by decide +kernel))
  · exact va_eqt (z := g_crc.getD 7 0) (hf _ (by decide +kernel))
  · exact va_eqt (z := g_crc.getD 8 0) (hf _ (by decide +kernel))
  · exact va_eqt (z := g_crc.getD 9 0) (hf _ (by decide +kernel))
  · exact va_eqt (z := g_crc.getD 10 0) (hf _ (by decide +kernel))
  · exact va_eqt (z := g_crc.getD 11 0) (hf _ (by decide +kernel))
  · exact va_eqt (z := g_crc.getD 12 0) (hf _ (by decide +kernel))
  · exact va_eqt (z := g_crc.getD 13 0) (hf _ (by decide +kernel))
  · exact va_eqt (z := g_crc.getD 14 0) (hf _ (by decide +kernel))
  · exact va_eqt (z := g_crc.getD 15 0) (hf _ (by decide +kernel))
def LR (X : g_X) (b : Nat) : Prop := match X with
  | (_, _, s, _, args, below, meth, _, R, A, Q) => args = #[Value.ref b] ∧ R = room_1 ∧ A = (fun q : Nat => s.heap.size ≤ q) ∧ Q = lw_Z below #[Value.ref b] s ∧ meth.sig.returnType = ret
theorem g_lawret {E : g_E} {X : g_X} {ws : va_W} {nc ns : Nat} {lv : List (Nat × Value)} {pc b : Nat} (B : Bd E X cL_law RL 4 10 400 600000 7302250) (h : LR X b) (hd : decode cL_law pc = .ok (.ireturn, 1)) (hc : nc ≤ 600000) (hs : ns ≤ 7302250) : G E X 4 ws nc ns lv pc [.int 1] := by
  obtain ⟨p, e, s, m, args, below, meth, c, R, A, Q⟩ := X
  obtain ⟨hx, hb, hml, hown, hts, hK, hA, hSt, hNe, hlk, hR⟩ := B
  obtain ⟨rfl, rfl, rfl, rfl, hr⟩ := h
  intro H locs ls hP hD hS hl
  refine va_forget (fun q hq => hS.2.2 q hq) ?_
  refine W.widen (k := 600000) (n := 7302250) hc hs ?_
  exact lw_ret hx hb hr hlk hd
set_option maxRecDepth 100000 in
set_option maxHeartbeats 4000000 in
theorem g_env {p : Program} {e : Env} {s : State} {m : MethodId} {below : List Frame} {meth : Method} {c : Code} (l : Launch) {b L : Nat} {xs : Nat → Int32} (C0 : lw_At p s m meth c b L xs) : ∃ E : g_E, E.1 = l ∧ Bd E (g_LX p e s m below meth c b) cL_law RL 4 10 400 600000 7302250 ∧ Sc (g_LX p e s m below meth c b) b L xs ∧ LR (g_LX p e s m below meth c b) b := by
  obtain ⟨hx, hb, hr, hml, hown, hts0, hX, hbl, hlocks, hgv⟩ := C0
  have hts : ∀ w ∈ g_tbl, w.before #[Value.ref b] s = true := fun w h => hts0 w (List.mem_filter.mp h).1
  obtain ⟨c0, i0, k0⟩ := u_known (C := RX0) (T := TX0) (N := 4) (n := 4) hts inX_X0 (hts _ w_ins_X0)
  obtain ⟨c1, i1, k1⟩ := u_known (C := RX1) (T := TX1) (N := 3) (n := 3) hts inX_X1 (hts _ w_ins_X1)
  obtain ⟨c2, i2, k2⟩ := u_known (C := RX2) (T := TX2) (N := 2) (n := 2) hts inX_X2 (hts _ w_ins_X2)
  obtain ⟨c3, i3, k3⟩ := u_known (C := RX3) (T := TX3) (N := 5) (n := 5) hts inX_X3 (hts _ w_ins_X3)
  obtain ⟨c4, i4, k4⟩ := u_known (C := RX4) (T := TX4) (N := 5) (n := 5) hts inX_X4 (hts _ w_ins_X4)
  obtain ⟨c5, i5, k5⟩ := u_known (C := RX5) (T := TX5) (N := 3) (n := 3) hts inX_X5 (hts _ w_ins_X5)
  obtain ⟨c6, i6, k6⟩ := u_known (C := RX6) (T := TX6) (N := 8) (n := 8) hts inX_X6 (hts _ w_ins_X6)
  obtain ⟨c7, i7, k7⟩ := u_known (C := RX7) (T := TX7) (N := 3) (n := 3) hts inX_X7 (hts _ w_ins_X7)
  obtain ⟨c8, i8, k8⟩ := u_known (C := RX8) (T := TX8) (N := 4) (n := 4) hts inX_X8 (hts _ w_ins_X8)
  obtain ⟨c9, i9, k9⟩ := u_known (C := RX9) (T := TX9) (N := 12) (n := 12) hts inX_X9 (hts _ w_ins_X9)
  obtain ⟨c10, i10, k10⟩ := u_known (C := RX10) (T := TX10) (N := 11) (n := 11) hts inX_X10 (hts _ w_ins_X10)
  obtain ⟨c11, i11, k11⟩ := u_known (C := RX11) (T := TX11) (N := 50) (n := 50) hts inX_X11 (hts _ w_ins_X11)
  obtain ⟨a0, ha0, hb0⟩ := g_arr (hts _ w_ac_int)
  obtain ⟨a1, ha1, hb1⟩ := g_arr (hts _ w_ac_byte)
  obtain ⟨a2, ha2, hb2⟩ := g_arr (hts _ w_ac_boolean)
  obtain ⟨a3, ha3, hb3⟩ := g_arr (hts _ w_ac_long)
  obtain ⟨t, ht, hT⟩ := g_crcof hgv
  have hZ := va_Zref (A := fun q : Nat => s.heap.size ≤ q) (hts0 _ w_lays_crc) (hts _ w_ini_X10) ht (fun a ha => Nat.not_le.mpr ha)
  refine ⟨(l, (fun k => ([c0, c1, c2, c3, c4, c5, c6, c7, c8, c9, c10, c11] : List ClassId).getD k c0, fun k => ([i0, i1, i2, i3, i4, i5, i6, i7, i8, i9, i10, i11] : List (Nat → Nat)).getD k i0), fun k => ([a0, a1, a2, a3] : List ClassId).getD k a0, t), rfl, ⟨hx, hb, hml, hown, hts, ⟨?_, ?_⟩, fun _ h => h, ⟨hZ, hT⟩, ?_, hlocks, rfl⟩, ⟨hX, hbl, Nat.not_le.mpr hbl⟩, rfl, rfl, rfl, rfl, hr⟩
  · intro k q hq
    match k, hq with
    | 0, hq => cases hq; exact k0
    | 1, hq => cases hq; exact k1
    | 2, hq => cases hq; exact k2
    | 3, hq => cases hq; exact k3
    | 4, hq => cases hq; exact k4
    | 5, hq => cases hq; exact k5
    | 6, hq => cases hq; exact k6
    | 7, hq => cases hq; exact k7
    | 8, hq => cases hq; exact k8
    | 9, hq => cases hq; exact k9
    | 10, hq => cases hq; exact k10
    | 11, hq => cases hq; exact k11
    | k + 12, hq => exact absurd hq (by simp)
  · intro k q hq
    match k, hq with
    | 0, hq => cases hq; exact ⟨ha0, hb0⟩
    | 1, hq => cases hq; exact ⟨ha1, hb1⟩
    | 2, hq => cases hq; exact ⟨ha2, hb2⟩
    | 3, hq => cases hq; exact ⟨ha3, hb3⟩
    | k + 4, hq => exact absurd hq (by simp)
  · exact ⟨va_Nw.of rfl (hts0 _ (List.mem_of_getElem? (i := 847) (by decide +kernel))), va_Nw.of rfl (hts0 _ (List.mem_of_getElem? (i := 578) (by decide +kernel))), va_Nw.of rfl (hts0 _ (List.mem_of_getElem? (i := 677) (by decide +kernel)))⟩
