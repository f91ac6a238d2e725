/-! THE LAYER. E: launch, class numbers and slots, array classes (0 int, 1 byte, 2 boolean, 3 long), the address of the static table. X: one frame's fixed things. G: from here the frame comes to its end. Bd: what is fixed of the frame. Ev: a method's contract, any end that Q allows. -/
abbrev g_E : Type := Launch × va_G × (Nat → ClassId) × Nat
abbrev g_X : Type := Program × Env × State × MethodId × Array Value × List Frame × Method × Code × Room × (Nat → Prop) × (State → Prop)
abbrev g_M : Type := MethodName × ByteArray × Nat × Option FieldType
abbrev g_ty (E : g_E) : List (ClassId × FieldType) := [(E.2.2.1 0, .int), (E.2.2.1 1, .byte), (E.2.2.1 2, .boolean), (E.2.2.1 3, .long)]
abbrev g_cw (M : g_M) : Cond := Cond.code M.1 M.2.1 M.2.2.1 M.2.2.2
def g_tbl : List Cond := lw_tbl.filter goodWord
theorem g_tbl_in {w : Cond} (i : Nat) (h : lw_tbl[i]? = some w) (hg : goodWord w = true) : w ∈ g_tbl := List.mem_filter.mpr ⟨List.mem_of_getElem? h, hg⟩
def g_w (M : g_M) : List Cond := g_cw M :: g_tbl
/-- the words about nest mates, which are not among those that keep by themselves -/
def g_N (U : State) : Prop := va_Nw (.methodLinkNest "SoundPress$BitReader" NEST_R yX10_highestBit "SoundPress") U ∧ va_Nw (.methodLinkNest "SoundPress$BitWriter" NEST_W yX10_highestBit "SoundPress") U ∧ va_Nw (.fieldLinkNest "SoundPress$Bytes" NEST_B "SoundPress" "CRC_STEPS" "[I" "SoundPress") U
theorem g_N.warm {s U : State} (hW : s.WarmedH U.vm) (h : g_N s) : g_N U := ⟨h.1.warmM hW, h.2.1.warmM hW, h.2.2.warmF hW⟩
theorem g_N.same {u U : State} (e : u.vm = U.vm) (h : g_N u) : g_N U := ⟨va_Nw.same rfl e h.1, va_Nw.same rfl e h.2.1, va_Nw.same rfl e h.2.2⟩
def g_crc : List Int32 := [0x00000000, 0x1db71064, 0x3b6e20c8, 0x26d930ac, 0x76dc4190, 0x6b6b51f4, 0x4db26158, 0x5005713c, 0xedb88320, 0xf00f9344, 0xd6d6a3e8, 0xcb61b38c, 0x9b64c2b0, 0x86d3d2d4, 0xa00ae278, 0xbdbdf21c]
/-- the one static table: where it stands, what it holds; nothing in A touches it -/
def g_St (E : g_E) (A : Nat → Prop) (U : State) (H : Heap) : Prop := va_Z "SoundPress" "CRC_STEPS" "[I" (.ref E.2.2.2) A U H ∧ va_T .int E.2.2.2 16 (fun j => .int (g_crc.getD j 0)) A U H
def G (E : g_E) (X : g_X) (nL : Nat) (ws : va_W) (nc ns : Nat) (lv : List (Nat × Value)) (pc : Nat) (st : List Value) : Prop := match X with
  | (p, e, s, m, args, below, meth, c, R, A, Q) => ∀ (H : Heap) (locs : List Loc) (ls : Array Slot), va_P E.2.1 vwCl ws H → va_D A ws → va_S A s.heap H locs → lv_has ls nL lv → W p E.1 e R s m args below meth c H locs nc ns Q (F0 m pc ls st)
def Bd (E : g_E) (X : g_X) (cc : ByteArray) (own : String) (nL fr lo mc ms : Nat) : Prop := match X with
  | (p, _, s, m, args, _, meth, c, R, A, _) => p.tables.exec = Jvm.exec ∧ c.code = cc ∧ c.maxLocals = nL ∧ s.vm.findClass own = some m.cls ∧ (∀ w ∈ g_tbl, w.before args s = true) ∧ va_K E.2.1 vwCl (g_ty E) s ∧ (∀ q, s.heap.size ≤ q → A q) ∧ g_St E A s s.heap ∧ g_N s ∧ meth.locks = false ∧ R = { frames := fr, cells := mc, slots := ms, locals := lo }
def g_Qc (E : g_E) (Q : Option Value → va_W → Prop) (A : Nat → Prop) : Array Value → State → Outcome → State → Prop := fun _ st oc t => (∃ (v : Option Value) (w : va_W), oc = .returned v ∧ Q v w ∧ va_P E.2.1 vwCl w t.heap ∧ va_K E.2.1 vwCl (g_ty E) t ∧ va_D A w) ∧ va_F A st t
/-- how the frame ends -/
def Rt (E : g_E) (X : g_X) (ret : Option FieldType) (mc ms : Nat) (Q : Option Value → va_W → Prop) : Prop := match X with
  | (_, _, s, _, args, below, meth, _, _, A, QQ) => meth.sig.returnType = ret ∧ QQ = MQ below (g_Qc E Q A) args s mc ms A
def In (X : g_X) : Prop := match X with
  | (_, _, _, _, _, _, meth, _, _, _, _) => meth.name = "<init>"
def Ev (E : g_E) (M : g_M) (fr lo mc ms : Nat) (args : List Value) (ws : va_W) (Q : Option Value → va_W → Prop) : Prop :=
  ∀ sz : Nat, Met E.1 M.1 (g_w M) { frames := fr, cells := mc, slots := ms, locals := lo } (va_Pc args (fun U => U.heap.size = sz ∧ va_P E.2.1 vwCl ws U.heap ∧ va_K E.2.1 vwCl (g_ty E) U ∧ va_D (fun _ => True) ws ∧ g_St E (va_A ws sz) U U.heap ∧ g_N U)) (g_Qc E Q (va_A ws sz)) mc ms (va_A ws sz)
theorem g_St.moved {E : g_E} {A : Nat → Prop} {u U : State} {H : Heap} (hvm : u.vm.Alike U.vm) (h : g_St E A u H) : g_St E A U H := ⟨h.1.moved hvm, h.2.moved hvm⟩
theorem g_St.kept {E : g_E} {A : Nat → Prop} {U : State} {H H1 : Heap} (h : g_St E A U H) (hq : ∀ a : Nat, a < H.size → ¬ A a → H1[a]? = H[a]?) : g_St E A U H1 := ⟨h.1.kept hq, h.2.kept hq⟩
theorem g_St.narrow {E : g_E} {A B : Nat → Prop} {U : State} {H : Heap} (h : g_St E A U H) (hAB : ∀ q, B q → A q) : g_St E B U H := ⟨h.1.narrow hAB, h.2.narrow hAB⟩
/-- into a method's body -/
theorem Ev.intro {E : g_E} {M : g_M} {fr lo mc ms : Nat} {args : List Value} {ws : va_W} {Q : Option Value → va_W → Prop} (hy : plainName M.1.cls = true) (hn : (lg_sl args).length ≤ M.2.2.1)
    (body : ∀ X : g_X, Bd E X M.2.1 M.1.cls M.2.2.1 fr lo mc ms → Rt E X M.2.2.2 mc ms Q → (M.1.name = "<init>" → In X) → G E X M.2.2.1 ws 0 0 (lv_args 0 args) 0 []) : Ev E M fr lo mc ms args ws Q := by
  intro sz
  obtain ⟨y, cc, maxL, ret⟩ := M
  refine Met.ofW (cc := cc) (maxL := maxL) (ret := ret) (ws' := g_tbl) hy rfl ?_
  intro p e s m args' below meth c s₁ B hml hv
  obtain ⟨rfl, hsz, hP, hK, hD0, hSt, hNe⟩ := hv
  have hts := atoms_spec (ws := g_w (y, cc, maxL, ret)) B.pre
  have hown : s.vm.findClass y.cls = some m.cls := findClass_of_methodNamed B.named
  subst hsz
  have hl := lv_entry args (n := maxL) hn
  rw [lg_entry_eq]
  exact body (p, e, s, m, args.toArray, below, meth, c, _, va_A ws s.heap.size, _) ⟨B.exec, B.bytes, hml, hown, fun w hw => hts w (List.mem_cons_of_mem _ hw), hK, fun q h => Or.inr h, hSt, hNe, B.notSynchronized, rfl⟩ ⟨B.returns, rfl⟩ (fun h => (name_of_methodNamed B.named B.method).1.trans h) s.heap [] _ hP hD0.self va_S.rf hl
theorem Ev.imp {E : g_E} {M : g_M} {fr lo mc ms : Nat} {args : List Value} {ws : va_W} {Q Q' : Option Value → va_W → Prop} (h : Ev E M fr lo mc ms args ws Q) (hQ : ∀ v w, Q v w → Q' v w) : Ev E M fr lo mc ms args ws Q' := by
  intro sz
  have h1 := h sz
  unfold Met at h1 ⊢
  refine MetFree.mono h1 (fun _ _ h => h) (fun _ _ _ _ _ h => h) (fun a s o t _ hq => ?_)
  obtain ⟨⟨⟨v, w, e1, e2, e3⟩, hf⟩, hL⟩ := hq
  exact ⟨⟨⟨v, w, e1, hQ v w e2, e3⟩, hf⟩, hL⟩
theorem o_1 {x y : Int32} (h : ¬ x < y) : y ≤ x := Int32.not_lt.mp h
theorem o_2 {x y : Int32} (h : ¬ y ≤ x) : x < y := Int32.not_le.mp h
theorem o_3 {x y : Int32} (h : x < y) : ¬ y ≤ x := Int32.not_le.mpr h
theorem o_4 {x y : Int32} (h : y ≤ x) : ¬ x < y := Int32.not_lt.mpr h
section LAYER
variable {E : g_E} {X : g_X} {cc : ByteArray} {own : String} {nL fr lo mc ms : Nat} {ws : va_W} {nc ns : Nat} {lv : List (Nat × Value)} {pc : Nat} {st : List Value}

theorem g_iconst (B : Bd E X cc own nL fr lo mc ms) {n : Int} {v : Int32} (hd : decode cc pc = .ok (.iconst n, 1)) (hv : Int32.ofInt n = v) (k : G E X nL ws nc ns lv (pc + 1) (.int v :: st)) : G E X nL ws nc ns lv pc (st) := by
  obtain ⟨p, e, s, m, args, below, meth, c, R, A, Q⟩ := X
  obtain ⟨hx, hb, hml, hown, hts, hK, hA, hSt, hNe, hlk, hR⟩ := B
  intro H locs ls hP hD hS hl
  exact lv_iconst hx hb hd hv (k H locs ls hP hD hS hl)
theorem g_bipush (B : Bd E X cc own nL fr lo mc ms) {n : Int} {v : Int32} (hd : decode cc pc = .ok (.bipush n, 2)) (hv : (Int8.ofInt n).toInt32 = v) (k : G E X nL ws nc ns lv (pc + 2) (.int v :: st)) : G E X nL ws nc ns lv pc (st) := by
  obtain ⟨p, e, s, m, args, below, meth, c, R, A, Q⟩ := X
  obtain ⟨hx, hb, hml, hown, hts, hK, hA, hSt, hNe, hlk, hR⟩ := B
  intro H locs ls hP hD hS hl
  exact lv_bipush hx hb hd hv (k H locs ls hP hD hS hl)
theorem g_sipush (B : Bd E X cc own nL fr lo mc ms) {n : Int} {v : Int32} (hd : decode cc pc = .ok (.sipush n, 3)) (hv : (Int16.ofInt n).toInt32 = v) (k : G E X nL ws nc ns lv (pc + 3) (.int v :: st)) : G E X nL ws nc ns lv pc (st) := by
  obtain ⟨p, e, s, m, args, below, meth, c, R, A, Q⟩ := X
  obtain ⟨hx, hb, hml, hown, hts, hK, hA, hSt, hNe, hlk, hR⟩ := B
  intro H locs ls hP hD hS hl
  exact lv_sipush hx hb hd hv (k H locs ls hP hD hS hl)
theorem g_lconst (B : Bd E X cc own nL fr lo mc ms) {n : Fin 2} {v : Int64} (hd : decode cc pc = .ok (.lconst n, 1)) (hv : Int64.ofNat (n : Nat) = v) (k : G E X nL ws nc ns lv (pc + 1) (.long v :: st)) : G E X nL ws nc ns lv pc (st) := by
  obtain ⟨p, e, s, m, args, below, meth, c, R, A, Q⟩ := X
  obtain ⟨hx, hb, hml, hown, hts, hK, hA, hSt, hNe, hlk, hR⟩ := B
  intro H locs ls hP hD hS hl
  exact lv_lconst hx hb hd hv (k H locs ls hP hD hS hl)
theorem g_null (B : Bd E X cc own nL fr lo mc ms)  (hd : decode cc pc = .ok (.aconst_null, 1))  (k : G E X nL ws nc ns lv (pc + 1) (.null :: st)) : G E X nL ws nc ns lv pc (st) := by
  obtain ⟨p, e, s, m, args, below, meth, c, R, A, Q⟩ := X
  obtain ⟨hx, hb, hml, hown, hts, hK, hA, hSt, hNe, hlk, hR⟩ := B
  intro H locs ls hP hD hS hl
  exact lv_null hx hb hd  (k H locs ls hP hD hS hl)
theorem g_iload_n (B : Bd E X cc own nL fr lo mc ms) {k0 : Fin 4} {i : Nat} {x : Int32} (hd : decode cc pc = .ok (.iload_n k0, 1)) (hi : (k0 : Nat) = i) (j : Nat) (hj : lv[j]? = some (i, .int x)) (k : G E X nL ws nc ns lv (pc + 1) (.int x :: st)) : G E X nL ws nc ns lv pc (st) := by
  obtain ⟨p, e, s, m, args, below, meth, c, R, A, Q⟩ := X
  obtain ⟨hx, hb, hml, hown, hts, hK, hA, hSt, hNe, hlk, hR⟩ := B
  intro H locs ls hP hD hS hl
  exact lv_iload_n hx hb hd hi (lv_at hl j hj) (k H locs ls hP hD hS hl)
theorem g_iload (B : Bd E X cc own nL fr lo mc ms) {i : Nat} {x : Int32} (hd : decode cc pc = .ok (.iload i, 2)) (j : Nat) (hj : lv[j]? = some (i, .int x)) (k : G E X nL ws nc ns lv (pc + 2) (.int x :: st)) : G E X nL ws nc ns lv pc (st) := by
  obtain ⟨p, e, s, m, args, below, meth, c, R, A, Q⟩ := X
  obtain ⟨hx, hb, hml, hown, hts, hK, hA, hSt, hNe, hlk, hR⟩ := B
  intro H locs ls hP hD hS hl
  exact lv_iload hx hb hd (lv_at hl j hj) (k H locs ls hP hD hS hl)
theorem g_istore_n (B : Bd E X cc own nL fr lo mc ms) {k0 : Fin 4} {i : Nat} {x : Int32} {lv' : List (Nat × Value)} (hd : decode cc pc = .ok (.istore_n k0, 1)) (hi : (k0 : Nat) = i) (hn : i < nL) (hl' : (i, Value.int x) :: lv.filter (fun q => !(q.1 == i) && !(q.1 + 1 == i && q.2.category == 2)) = lv') (k : G E X nL ws nc ns lv' (pc + 1) st) : G E X nL ws nc ns lv pc (.int x :: st) := by
  obtain ⟨p, e, s, m, args, below, meth, c, R, A, Q⟩ := X
  obtain ⟨hx, hb, hml, hown, hts, hK, hA, hSt, hNe, hlk, hR⟩ := B
  intro H locs ls hP hD hS hl
  exact lv_istore_n hx hb hd hi hl hn hl' (fun ls' hl2 => k H locs ls' hP hD hS hl2)
theorem g_istore (B : Bd E X cc own nL fr lo mc ms) {i : Nat} {x : Int32} {lv' : List (Nat × Value)} (hd : decode cc pc = .ok (.istore i, 2)) (hn : i < nL) (hl' : (i, Value.int x) :: lv.filter (fun q => !(q.1 == i) && !(q.1 + 1 == i && q.2.category == 2)) = lv') (k : G E X nL ws nc ns lv' (pc + 2) st) : G E X nL ws nc ns lv pc (.int x :: st) := by
  obtain ⟨p, e, s, m, args, below, meth, c, R, A, Q⟩ := X
  obtain ⟨hx, hb, hml, hown, hts, hK, hA, hSt, hNe, hlk, hR⟩ := B
  intro H locs ls hP hD hS hl
  exact lv_istore hx hb hd hl hn hl' (fun ls' hl2 => k H locs ls' hP hD hS hl2)
theorem g_lload_n (B : Bd E X cc own nL fr lo mc ms) {k0 : Fin 4} {i : Nat} {x : Int64} (hd : decode cc pc = .ok (.lload_n k0, 1)) (hi : (k0 : Nat) = i) (j : Nat) (hj : lv[j]? = some (i, .long x)) (k : G E X nL ws nc ns lv (pc + 1) (.long x :: st)) : G E X nL ws nc ns lv pc (st) := by
  obtain ⟨p, e, s, m, args, below, meth, c, R, A, Q⟩ := X
  obtain ⟨hx, hb, hml, hown, hts, hK, hA, hSt, hNe, hlk, hR⟩ := B
  intro H locs ls hP hD hS hl
  exact lv_lload_n hx hb hd hi (lv_at hl j hj) (k H locs ls hP hD hS hl)
theorem g_lload (B : Bd E X cc own nL fr lo mc ms) {i : Nat} {x : Int64} (hd : decode cc pc = .ok (.lload i, 2)) (j : Nat) (hj : lv[j]? = some (i, .long x)) (k : G E X nL ws nc ns lv (pc + 2) (.long x :: st)) : G E X nL ws nc ns lv pc (st) := by
  obtain ⟨p, e, s, m, args, below, meth, c, R, A, Q⟩ := X
  obtain ⟨hx, hb, hml, hown, hts, hK, hA, hSt, hNe, hlk, hR⟩ := B
  intro H locs ls hP hD hS hl
  exact lv_lload hx hb hd (lv_at hl j hj) (k H locs ls hP hD hS hl)
theorem g_lstore_n (B : Bd E X cc own nL fr lo mc ms) {k0 : Fin 4} {i : Nat} {x : Int64} {lv' : List (Nat × Value)} (hd : decode cc pc = .ok (.lstore_n k0, 1)) (hi : (k0 : Nat) = i) (hn : i + 1 < nL) (hl' : (i, Value.long x) :: lv.filter (fun q => !(q.1 == i) && (!(q.1 == i + 1) && !(q.1 + 1 == i && q.2.category == 2))) = lv') (k : G E X nL ws nc ns lv' (pc + 1) st) : G E X nL ws nc ns lv pc (.long x :: st) := by
  obtain ⟨p, e, s, m, args, below, meth, c, R, A, Q⟩ := X
  obtain ⟨hx, hb, hml, hown, hts, hK, hA, hSt, hNe, hlk, hR⟩ := B
  intro H locs ls hP hD hS hl
  exact lv_lstore_n hx hb hd hi hl hn hl' (fun ls' hl2 => k H locs ls' hP hD hS hl2)
theorem g_lstore (B : Bd E X cc own nL fr lo mc ms) {i : Nat} {x : Int64} {lv' : List (Nat × Value)} (hd : decode cc pc = .ok (.lstore i, 2)) (hn : i + 1 < nL) (hl' : (i, Value.long x) :: lv.filter (fun q => !(q.1 == i) && (!(q.1 == i + 1) && !(q.1 + 1 == i && q.2.category == 2))) = lv') (k : G E X nL ws nc ns lv' (pc + 2) st) : G E X nL ws nc ns lv pc (.long x :: st) := by
  obtain ⟨p, e, s, m, args, below, meth, c, R, A, Q⟩ := X
  obtain ⟨hx, hb, hml, hown, hts, hK, hA, hSt, hNe, hlk, hR⟩ := B
  intro H locs ls hP hD hS hl
  exact lv_lstore hx hb hd hl hn hl' (fun ls' hl2 => k H locs ls' hP hD hS hl2)
theorem g_aload_n (B : Bd E X cc own nL fr lo mc ms) {k0 : Fin 4} {i : Nat} {x : Nat} (hd : decode cc pc = .ok (.aload_n k0, 1)) (hi : (k0 : Nat) = i) (j : Nat) (hj : lv[j]? = some (i, .ref x)) (k : G E X nL ws nc ns lv (pc + 1) (.ref x :: st)) : G E X nL ws nc ns lv pc (st) := by
  obtain ⟨p, e, s, m, args, below, meth, c, R, A, Q⟩ := X
  obtain ⟨hx, hb, hml, hown, hts, hK, hA, hSt, hNe, hlk, hR⟩ := B
  intro H locs ls hP hD hS hl
  exact lv_aload_n hx hb hd hi (lv_at hl j hj) (k H locs ls hP hD hS hl)
theorem g_aload (B : Bd E X cc own nL fr lo mc ms) {i : Nat} {x : Nat} (hd : decode cc pc = .ok (.aload i, 2)) (j : Nat) (hj : lv[j]? = some (i, .ref x)) (k : G E X nL ws nc ns lv (pc + 2) (.ref x :: st)) : G E X nL ws nc ns lv pc (st) := by
  obtain ⟨p, e, s, m, args, below, meth, c, R, A, Q⟩ := X
  obtain ⟨hx, hb, hml, hown, hts, hK, hA, hSt, hNe, hlk, hR⟩ := B
  intro H locs ls hP hD hS hl
  exact lv_aload hx hb hd (lv_at hl j hj) (k H locs ls hP hD hS hl)
theorem g_astore_n (B : Bd E X cc own nL fr lo mc ms) {k0 : Fin 4} {i : Nat} {x : Nat} {lv' : List (Nat × Value)} (hd : decode cc pc = .ok (.astore_n k0, 1)) (hi : (k0 : Nat) = i) (hn : i < nL) (hl' : (i, Value.ref x) :: lv.filter (fun q => !(q.1 == i) && !(q.1 + 1 == i && q.2.category == 2)) = lv') (k : G E X nL ws nc ns lv' (pc + 1) st) : G E X nL ws nc ns lv pc (.ref x :: st) := by
  obtain ⟨p, e, s, m, args, below, meth, c, R, A, Q⟩ := X
  obtain ⟨hx, hb, hml, hown, hts, hK, hA, hSt, hNe, hlk, hR⟩ := B
  intro H locs ls hP hD hS hl
  exact lv_astore_n hx hb hd hi hl hn hl' (fun ls' hl2 => k H locs ls' hP hD hS hl2)
theorem g_astore (B : Bd E X cc own nL fr lo mc ms) {i : Nat} {x : Nat} {lv' : List (Nat × Value)} (hd : decode cc pc = .ok (.astore i, 2)) (hn : i < nL) (hl' : (i, Value.ref x) :: lv.filter (fun q => !(q.1 == i) && !(q.1 + 1 == i && q.2.category == 2)) = lv') (k : G E X nL ws nc ns lv' (pc + 2) st) : G E X nL ws nc ns lv pc (.ref x :: st) := by
  obtain ⟨p, e, s, m, args, below, meth, c, R, A, Q⟩ := X
  obtain ⟨hx, hb, hml, hown, hts, hK, hA, hSt, hNe, hlk, hR⟩ := B
  intro H locs ls hP hD hS hl
  exact lv_astore hx hb hd hl hn hl' (fun ls' hl2 => k H locs ls' hP hD hS hl2)
theorem g_iinc (B : Bd E X cc own nL fr lo mc ms) {i : Nat} {n : Int} {x v : Int32} {lv' : List (Nat × Value)} (hd : decode cc pc = .ok (.iinc i n, 3)) (j : Nat) (hj : lv[j]? = some (i, .int x)) (hv : x + Int32.ofInt n = v) (hn : i < nL) (hl' : (i, Value.int v) :: lv.filter (fun q => !(q.1 == i) && !(q.1 + 1 == i && q.2.category == 2)) = lv') (k : G E X nL ws nc ns lv' (pc + 3) st) : G E X nL ws nc ns lv pc st := by
  obtain ⟨p, e, s, m, args, below, meth, c, R, A, Q⟩ := X
  obtain ⟨hx, hb, hml, hown, hts, hK, hA, hSt, hNe, hlk, hR⟩ := B
  intro H locs ls hP hD hS hl
  exact lv_iinc hx hb hd hl hj hv hn hl' (fun ls' hl2 => k H locs ls' hP hD hS hl2)
theorem g_iadd (B : Bd E X cc own nL fr lo mc ms) {x y : Int32} (hd : decode cc pc = .ok (.iadd, 1))  (k : G E X nL ws nc ns lv (pc + 1) (.int (x + y) :: st)) : G E X nL ws nc ns lv pc (.int y :: .int x :: st) := by
  obtain ⟨p, e, s, m, args, below, meth, c, R, A, Q⟩ := X
  obtain ⟨hx, hb, hml, hown, hts, hK, hA, hSt, hNe, hlk, hR⟩ := B
  intro H locs ls hP hD hS hl
  exact lv_iadd hx hb hd  (k H locs ls hP hD hS hl)
theorem g_isub (B : Bd E X cc own nL fr lo mc ms) {x y : Int32} (hd : decode cc pc = .ok (.isub, 1))  (k : G E X nL ws nc ns lv (pc + 1) (.int (x - y) :: st)) : G E X nL ws nc ns lv pc (.int y :: .int x :: st) := by
  obtain ⟨p, e, s, m, args, below, meth, c, R, A, Q⟩ := X
  obtain ⟨hx, hb, hml, hown, hts, hK, hA, hSt, hNe, hlk, hR⟩ := B
  intro H locs ls hP hD hS hl
  exact lv_isub hx hb hd  (k H locs ls hP hD hS hl)
theorem g_imul (B : Bd E X cc own nL fr lo mc ms) {x y : Int32} (hd : decode cc pc = .ok (.imul, 1))  (k : G E X nL ws nc ns lv (pc + 1) (.int (x * y) :: st)) : G E X nL ws nc ns lv pc (.int y :: .int x :: st) := by
  obtain ⟨p, e, s, m, args, below, meth, c, R, A, Q⟩ := X
  obtain ⟨hx, hb, hml, hown, hts, hK, hA, hSt, hNe, hlk, hR⟩ := B
  intro H locs ls hP hD hS hl
  exact lv_imul hx hb hd  (k H locs ls hP hD hS hl)
theorem g_iand (B : Bd E X cc own nL fr lo mc ms) {x y : Int32} (hd : decode cc pc = .ok (.iand, 1))  (k : G E X nL ws nc ns lv (pc + 1) (.int (x &&& y) :: st)) : G E X nL ws nc ns lv pc (.int y :: .int x :: st) := by
  obtain ⟨p, e, s, m, args, below, meth, c, R, A, Q⟩ := X
  obtain ⟨hx, hb, hml, hown, hts, hK, hA, hSt, hNe, hlk, hR⟩ := B
  intro H locs ls hP hD hS hl
  exact lv_iand hx hb hd  (k H locs ls hP hD hS hl)
theorem g_ior (B : Bd E X cc own nL fr lo mc ms) {x y : Int32} (hd : decode cc pc = .ok (.ior, 1))  (k : G E X nL ws nc ns lv (pc + 1) (.int (x ||| y) :: st)) : G E X nL ws nc ns lv pc (.int y :: .int x :: st) := by
  obtain ⟨p, e, s, m, args, below, meth, c, R, A, Q⟩ := X
  obtain ⟨hx, hb, hml, hown, hts, hK, hA, hSt, hNe, hlk, hR⟩ := B
  intro H locs ls hP hD hS hl
  exact lv_ior hx hb hd  (k H locs ls hP hD hS hl)
theorem g_ixor (B : Bd E X cc own nL fr lo mc ms) {x y : Int32} (hd : decode cc pc = .ok (.ixor, 1))  (k : G E X nL ws nc ns lv (pc + 1) (.int (x ^^^ y) :: st)) : G E X nL ws nc ns lv pc (.int y :: .int x :: st) := by
  obtain ⟨p, e, s, m, args, below, meth, c, R, A, Q⟩ := X
  obtain ⟨hx, hb, hml, hown, hts, hK, hA, hSt, hNe, hlk, hR⟩ := B
  intro H locs ls hP hD hS hl
  exact lv_ixor hx hb hd  (k H locs ls hP hD hS hl)
theorem g_ishl (B : Bd E X cc own nL fr lo mc ms) {x y : Int32} (hd : decode cc pc = .ok (.ishl, 1))  (k : G E X nL ws nc ns lv (pc + 1) (.int (x <<< (y &&& 31)) :: st)) : G E X nL ws nc ns lv pc (.int y :: .int x :: st) := by
  obtain ⟨p, e, s, m, args, below, meth, c, R, A, Q⟩ := X
  obtain ⟨hx, hb, hml, hown, hts, hK, hA, hSt, hNe, hlk, hR⟩ := B
  intro H locs ls hP hD hS hl
  exact lv_ishl hx hb hd  (k H locs ls hP hD hS hl)
theorem g_ishr (B : Bd E X cc own nL fr lo mc ms) {x y : Int32} (hd : decode cc pc = .ok (.ishr, 1))  (k : G E X nL ws nc ns lv (pc + 1) (.int (x >>> (y &&& 31)) :: st)) : G E X nL ws nc ns lv pc (.int y :: .int x :: st) := by
  obtain ⟨p, e, s, m, args, below, meth, c, R, A, Q⟩ := X
  obtain ⟨hx, hb, hml, hown, hts, hK, hA, hSt, hNe, hlk, hR⟩ := B
  intro H locs ls hP hD hS hl
  exact lv_ishr hx hb hd  (k H locs ls hP hD hS hl)
theorem g_idiv (B : Bd E X cc own nL fr lo mc ms) {x y : Int32} (hd : decode cc pc = .ok (.idiv, 1)) (hne : ¬ y = 0) (k : G E X nL ws nc ns lv (pc + 1) (.int (x / y) :: st)) : G E X nL ws nc ns lv pc (.int y :: .int x :: st) := by
  obtain ⟨p, e, s, m, args, below, meth, c, R, A, Q⟩ := X
  obtain ⟨hx, hb, hml, hown, hts, hK, hA, hSt, hNe, hlk, hR⟩ := B
  intro H locs ls hP hD hS hl
  exact lv_idiv hx hb hd hne (k H locs ls hP hD hS hl)
theorem g_irem (B : Bd E X cc own nL fr lo mc ms) {x y : Int32} (hd : decode cc pc = .ok (.irem, 1)) (hne : ¬ y = 0) (k : G E X nL ws nc ns lv (pc + 1) (.int (x - x / y * y) :: st)) : G E X nL ws nc ns lv pc (.int y :: .int x :: st) := by
  obtain ⟨p, e, s, m, args, below, meth, c, R, A, Q⟩ := X
  obtain ⟨hx, hb, hml, hown, hts, hK, hA, hSt, hNe, hlk, hR⟩ := B
  intro H locs ls hP hD hS hl
  exact lv_irem hx hb hd hne (k H locs ls hP hD hS hl)
theorem g_iushr (B : Bd E X cc own nL fr lo mc ms) {x y : Int32} (hd : decode cc pc = .ok (.iushr, 1))  (k : G E X nL ws nc ns lv (pc + 1) (.int ((x.toUInt32 >>> (y.toUInt32 &&& Int32.toUInt32 31)).toInt32) :: st)) : G E X nL ws nc ns lv pc (.int y :: .int x :: st) := by
  obtain ⟨p, e, s, m, args, below, meth, c, R, A, Q⟩ := X
  obtain ⟨hx, hb, hml, hown, hts, hK, hA, hSt, hNe, hlk, hR⟩ := B
  intro H locs ls hP hD hS hl
  exact lv_iushr hx hb hd rfl (k H locs ls hP hD hS hl)
theorem g_ineg (B : Bd E X cc own nL fr lo mc ms) {x : Int32} (hd : decode cc pc = .ok (.ineg, 1))  (k : G E X nL ws nc ns lv (pc + 1) (.int (-x) :: st)) : G E X nL ws nc ns lv pc (.int x :: st) := by
  obtain ⟨p, e, s, m, args, below, meth, c, R, A, Q⟩ := X
  obtain ⟨hx, hb, hml, hown, hts, hK, hA, hSt, hNe, hlk, hR⟩ := B
  intro H locs ls hP hD hS hl
  exact lv_ineg hx hb hd  (k H locs ls hP hD hS hl)
theorem g_ladd (B : Bd E X cc own nL fr lo mc ms) {x y : Int64} (hd : decode cc pc = .ok (.ladd, 1))  (k : G E X nL ws nc ns lv (pc + 1) (.long (x + y) :: st)) : G E X nL ws nc ns lv pc (.long y :: .long x :: st) := by
  obtain ⟨p, e, s, m, args, below, meth, c, R, A, Q⟩ := X
  obtain ⟨hx, hb, hml, hown, hts, hK, hA, hSt, hNe, hlk, hR⟩ := B
  intro H locs ls hP hD hS hl
  exact lv_ladd hx hb hd  (k H locs ls hP hD hS hl)
theorem g_lsub (B : Bd E X cc own nL fr lo mc ms) {x y : Int64} (hd : decode cc pc = .ok (.lsub, 1))  (k : G E X nL ws nc ns lv (pc + 1) (.long (x - y) :: st)) : G E X nL ws nc ns lv pc (.long y :: .long x :: st) := by
  obtain ⟨p, e, s, m, args, below, meth, c, R, A, Q⟩ := X
  obtain ⟨hx, hb, hml, hown, hts, hK, hA, hSt, hNe, hlk, hR⟩ := B
  intro H locs ls hP hD hS hl
  exact lv_lsub hx hb hd  (k H locs ls hP hD hS hl)
theorem g_lmul (B : Bd E X cc own nL fr lo mc ms) {x y : Int64} (hd : decode cc pc = .ok (.lmul, 1))  (k : G E X nL ws nc ns lv (pc + 1) (.long (x * y) :: st)) : G E X nL ws nc ns lv pc (.long y :: .long x :: st) := by
  obtain ⟨p, e, s, m, args, below, meth, c, R, A, Q⟩ := X
  obtain ⟨hx, hb, hml, hown, hts, hK, hA, hSt, hNe, hlk, hR⟩ := B
  intro H locs ls hP hD hS hl
  exact lv_lmul hx hb hd  (k H locs ls hP hD hS hl)
theorem g_land (B : Bd E X cc own nL fr lo mc ms) {x y : Int64} (hd : decode cc pc = .ok (.land, 1))  (k : G E X nL ws nc ns lv (pc + 1) (.long (x &&& y) :: st)) : G E X nL ws nc ns lv pc (.long y :: .long x :: st) := by
  obtain ⟨p, e, s, m, args, below, meth, c, R, A, Q⟩ := X
  obtain ⟨hx, hb, hml, hown, hts, hK, hA, hSt, hNe, hlk, hR⟩ := B
  intro H locs ls hP hD hS hl
  exact lv_land hx hb hd  (k H locs ls hP hD hS hl)
theorem g_lor (B : Bd E X cc own nL fr lo mc ms) {x y : Int64} (hd : decode cc pc = .ok (.lor, 1))  (k : G E X nL ws nc ns lv (pc + 1) (.long (x ||| y) :: st)) : G E X nL ws nc ns lv pc (.long y :: .long x :: st) := by
  obtain ⟨p, e, s, m, args, below, meth, c, R, A, Q⟩ := X
  obtain ⟨hx, hb, hml, hown, hts, hK, hA, hSt, hNe, hlk, hR⟩ := B
  intro H locs ls hP hD hS hl
  exact lv_lor hx hb hd  (k H locs ls hP hD hS hl)
theorem g_ldiv (B : Bd E X cc own nL fr lo mc ms) {x y : Int64} (hd : decode cc pc = .ok (.ldiv, 1)) (hne : ¬ y = 0) (k : G E X nL ws nc ns lv (pc + 1) (.long (x / y) :: st)) : G E X nL ws nc ns lv pc (.long y :: .long x :: st) := by
  obtain ⟨p, e, s, m, args, below, meth, c, R, A, Q⟩ := X
  obtain ⟨hx, hb, hml, hown, hts, hK, hA, hSt, hNe, hlk, hR⟩ := B
  intro H locs ls hP hD hS hl
  exact lv_ldiv hx hb hd hne (k H locs ls hP hD hS hl)
theorem g_lneg (B : Bd E X cc own nL fr lo mc ms) {x : Int64} (hd : decode cc pc = .ok (.lneg, 1))  (k : G E X nL ws nc ns lv (pc + 1) (.long (-x) :: st)) : G E X nL ws nc ns lv pc (.long x :: st) := by
  obtain ⟨p, e, s, m, args, below, meth, c, R, A, Q⟩ := X
  obtain ⟨hx, hb, hml, hown, hts, hK, hA, hSt, hNe, hlk, hR⟩ := B
  intro H locs ls hP hD hS hl
  exact lv_lneg hx hb hd  (k H locs ls hP hD hS hl)
theorem g_lshl (B : Bd E X cc own nL fr lo mc ms) {x : Int64} {y : Int32} (hd : decode cc pc = .ok (.lshl, 1))  (k : G E X nL ws nc ns lv (pc + 1) (.long (x <<< (y.toInt64 &&& 63)) :: st)) : G E X nL ws nc ns lv pc (.int y :: .long x :: st) := by
  obtain ⟨p, e, s, m, args, below, meth, c, R, A, Q⟩ := X
  obtain ⟨hx, hb, hml, hown, hts, hK, hA, hSt, hNe, hlk, hR⟩ := B
  intro H locs ls hP hD hS hl
  exact lv_lshl hx hb hd rfl (k H locs ls hP hD hS hl)
theorem g_lshr (B : Bd E X cc own nL fr lo mc ms) {x : Int64} {y : Int32} (hd : decode cc pc = .ok (.lshr, 1))  (k : G E X nL ws nc ns lv (pc + 1) (.long (x >>> (y.toInt64 &&& 63)) :: st)) : G E X nL ws nc ns lv pc (.int y :: .long x :: st) := by
  obtain ⟨p, e, s, m, args, below, meth, c, R, A, Q⟩ := X
  obtain ⟨hx, hb, hml, hown, hts, hK, hA, hSt, hNe, hlk, hR⟩ := B
  intro H locs ls hP hD hS hl
  exact lv_lshr hx hb hd rfl (k H locs ls hP hD hS hl)
theorem g_lushr (B : Bd E X cc own nL fr lo mc ms) {x : Int64} {y : Int32} (hd : decode cc pc = .ok (.lushr, 1))  (k : G E X nL ws nc ns lv (pc + 1) (.long ((x.toUInt64 >>> (y.toInt64.toUInt64 &&& Int64.toUInt64 63)).toInt64) :: st)) : G E X nL ws nc ns lv pc (.int y :: .long x :: st) := by
  obtain ⟨p, e, s, m, args, below, meth, c, R, A, Q⟩ := X
  obtain ⟨hx, hb, hml, hown, hts, hK, hA, hSt, hNe, hlk, hR⟩ := B
  intro H locs ls hP hD hS hl
  exact lv_lushr hx hb hd rfl (k H locs ls hP hD hS hl)
theorem g_lcmp (B : Bd E X cc own nL fr lo mc ms) {x y : Int64} (hd : decode cc pc = .ok (.lcmp, 1))  (k : G E X nL ws nc ns lv (pc + 1) (.int (lg_cmp x y) :: st)) : G E X nL ws nc ns lv pc (.long y :: .long x :: st) := by
  obtain ⟨p, e, s, m, args, below, meth, c, R, A, Q⟩ := X
  obtain ⟨hx, hb, hml, hown, hts, hK, hA, hSt, hNe, hlk, hR⟩ := B
  intro H locs ls hP hD hS hl
  exact W.lcmp hx hb hd  (k H locs ls hP hD hS hl)
theorem g_i2l (B : Bd E X cc own nL fr lo mc ms) {x : Int32} (hd : decode cc pc = .ok (.i2l, 1))  (k : G E X nL ws nc ns lv (pc + 1) (.long x.toInt64 :: st)) : G E X nL ws nc ns lv pc (.int x :: st) := by
  obtain ⟨p, e, s, m, args, below, meth, c, R, A, Q⟩ := X
  obtain ⟨hx, hb, hml, hown, hts, hK, hA, hSt, hNe, hlk, hR⟩ := B
  intro H locs ls hP hD hS hl
  exact lv_i2l hx hb hd rfl (k H locs ls hP hD hS hl)
theorem g_l2i (B : Bd E X cc own nL fr lo mc ms) {x : Int64} (hd : decode cc pc = .ok (.l2i, 1))  (k : G E X nL ws nc ns lv (pc + 1) (.int x.toInt32 :: st)) : G E X nL ws nc ns lv pc (.long x :: st) := by
  obtain ⟨p, e, s, m, args, below, meth, c, R, A, Q⟩ := X
  obtain ⟨hx, hb, hml, hown, hts, hK, hA, hSt, hNe, hlk, hR⟩ := B
  intro H locs ls hP hD hS hl
  exact lv_l2i hx hb hd rfl (k H locs ls hP hD hS hl)
theorem g_i2b (B : Bd E X cc own nL fr lo mc ms) {x : Int32} (hd : decode cc pc = .ok (.i2b, 1))  (k : G E X nL ws nc ns lv (pc + 1) (.int x.toInt8.toInt32 :: st)) : G E X nL ws nc ns lv pc (.int x :: st) := by
  obtain ⟨p, e, s, m, args, below, meth, c, R, A, Q⟩ := X
  obtain ⟨hx, hb, hml, hown, hts, hK, hA, hSt, hNe, hlk, hR⟩ := B
  intro H locs ls hP hD hS hl
  exact lv_i2b hx hb hd rfl (k H locs ls hP hD hS hl)
theorem g_dup (B : Bd E X cc own nL fr lo mc ms) {va : Value} (hd : decode cc pc = .ok (.dup, 1)) (hva : va.category = 1) (k : G E X nL ws nc ns lv (pc + 1) (va :: va :: st)) : G E X nL ws nc ns lv pc (va :: st) := by
  obtain ⟨p, e, s, m, args, below, meth, c, R, A, Q⟩ := X
  obtain ⟨hx, hb, hml, hown, hts, hK, hA, hSt, hNe, hlk, hR⟩ := B
  intro H locs ls hP hD hS hl
  exact lv_dup hx hb hd hva (k H locs ls hP hD hS hl)
theorem g_pop (B : Bd E X cc own nL fr lo mc ms) {va : Value} (hd : decode cc pc = .ok (.pop, 1)) (hva : va.category = 1) (k : G E X nL ws nc ns lv (pc + 1) (st)) : G E X nL ws nc ns lv pc (va :: st) := by
  obtain ⟨p, e, s, m, args, below, meth, c, R, A, Q⟩ := X
  obtain ⟨hx, hb, hml, hown, hts, hK, hA, hSt, hNe, hlk, hR⟩ := B
  intro H locs ls hP hD hS hl
  exact lv_pop hx hb hd hva (k H locs ls hP hD hS hl)
theorem g_dup2_11 (B : Bd E X cc own nL fr lo mc ms) {va vb : Value} (hd : decode cc pc = .ok (.dup2, 1)) (hva : va.category = 1) (hvb : vb.category = 1) (k : G E X nL ws nc ns lv (pc + 1) (va :: vb :: va :: vb :: st)) : G E X nL ws nc ns lv pc (va :: vb :: st) := by
  obtain ⟨p, e, s, m, args, below, meth, c, R, A, Q⟩ := X
  obtain ⟨hx, hb, hml, hown, hts, hK, hA, hSt, hNe, hlk, hR⟩ := B
  intro H locs ls hP hD hS hl
  exact lv_dup2_11 hx hb hd hva hvb (k H locs ls hP hD hS hl)
theorem g_dup2_2 (B : Bd E X cc own nL fr lo mc ms) {va : Value} (hd : decode cc pc = .ok (.dup2, 1)) (hva : va.category = 2) (k : G E X nL ws nc ns lv (pc + 1) (va :: va :: st)) : G E X nL ws nc ns lv pc (va :: st) := by
  obtain ⟨p, e, s, m, args, below, meth, c, R, A, Q⟩ := X
  obtain ⟨hx, hb, hml, hown, hts, hK, hA, hSt, hNe, hlk, hR⟩ := B
  intro H locs ls hP hD hS hl
  exact lv_dup2_2 hx hb hd hva (k H locs ls hP hD hS hl)
theorem g_if_eq (B : Bd E X cc own nL fr lo mc ms) {x : Int32} {off : Int} {tgt : Nat} (hd : decode cc pc = .ok (.ifCond .eq off, 3)) (ht : (pc : Int) + off = (tgt : Int)) (kt : x = 0 → G E X nL ws nc ns lv tgt st) (kf : ¬ (x = 0) → G E X nL ws nc ns lv (pc + 3) st) : G E X nL ws nc ns lv pc (.int x :: st) := by
  obtain ⟨p, e, s, m, args, below, meth, c, R, A, Q⟩ := X
  obtain ⟨hx, hb, hml, hown, hts, hK, hA, hSt, hNe, hlk, hR⟩ := B
  intro H locs ls hP hD hS hl
  exact lv_if_eq hx hb hd ht (fun h => kt h H locs ls hP hD hS hl) (fun h => kf h H locs ls hP hD hS hl)
theorem g_icmp_eq (B : Bd E X cc own nL fr lo mc ms) {x y : Int32} {off : Int} {tgt : Nat} (hd : decode cc pc = .ok (.if_icmp .eq off, 3)) (ht : (pc : Int) + off = (tgt : Int)) (kt : x = y → G E X nL ws nc ns lv tgt st) (kf : ¬ (x = y) → G E X nL ws nc ns lv (pc + 3) st) : G E X nL ws nc ns lv pc (.int y :: .int x :: st) := by
  obtain ⟨p, e, s, m, args, below, meth, c, R, A, Q⟩ := X
  obtain ⟨hx, hb, hml, hown, hts, hK, hA, hSt, hNe, hlk, hR⟩ := B
  intro H locs ls hP hD hS hl
  exact lv_icmp_eq hx hb hd ht (fun h => kt h H locs ls hP hD hS hl) (fun h => kf h H locs ls hP hD hS hl)
theorem g_if_ne (B : Bd E X cc own nL fr lo mc ms) {x : Int32} {off : Int} {tgt : Nat} (hd : decode cc pc = .ok (.ifCond .ne off, 3)) (ht : (pc : Int) + off = (tgt : Int)) (kt : ¬ x = 0 → G E X nL ws nc ns lv tgt st) (kf : x = 0 → G E X nL ws nc ns lv (pc + 3) st) : G E X nL ws nc ns lv pc (.int x :: st) := by
  obtain ⟨p, e, s, m, args, below, meth, c, R, A, Q⟩ := X
  obtain ⟨hx, hb, hml, hown, hts, hK, hA, hSt, hNe, hlk, hR⟩ := B
  intro H locs ls hP hD hS hl
  exact lv_if_ne hx hb hd ht (fun h => kt h H locs ls hP hD hS hl) (fun h => kf h H locs ls hP hD hS hl)
theorem g_icmp_ne (B : Bd E X cc own nL fr lo mc ms) {x y : Int32} {off : Int} {tgt : Nat} (hd : decode cc pc = .ok (.if_icmp .ne off, 3)) (ht : (pc : Int) + off = (tgt : Int)) (kt : ¬ x = y → G E X nL ws nc ns lv tgt st) (kf : x = y → G E X nL ws nc ns lv (pc + 3) st) : G E X nL ws nc ns lv pc (.int y :: .int x :: st) := by
  obtain ⟨p, e, s, m, args, below, meth, c, R, A, Q⟩ := X
  obtain ⟨hx, hb, hml, hown, hts, hK, hA, hSt, hNe, hlk, hR⟩ := B
  intro H locs ls hP hD hS hl
  exact lv_icmp_ne hx hb hd ht (fun h => kt h H locs ls hP hD hS hl) (fun h => kf h H locs ls hP hD hS hl)
theorem g_if_lt (B : Bd E X cc own nL fr lo mc ms) {x : Int32} {off : Int} {tgt : Nat} (hd : decode cc pc = .ok (.ifCond .lt off, 3)) (ht : (pc : Int) + off = (tgt : Int)) (kt : x < 0 → G E X nL ws nc ns lv tgt st) (kf : ¬ (x < 0) → G E X nL ws nc ns lv (pc + 3) st) : G E X nL ws nc ns lv pc (.int x :: st) := by
  obtain ⟨p, e, s, m, args, below, meth, c, R, A, Q⟩ := X
  obtain ⟨hx, hb, hml, hown, hts, hK, hA, hSt, hNe, hlk, hR⟩ := B
  intro H locs ls hP hD hS hl
  exact lv_if_lt hx hb hd ht (fun h => kt h H locs ls hP hD hS hl) (fun h => kf h H locs ls hP hD hS hl)
theorem g_icmp_lt (B : Bd E X cc own nL fr lo mc ms) {x y : Int32} {off : Int} {tgt : Nat} (hd : decode cc pc = .ok (.if_icmp .lt off, 3)) (ht : (pc : Int) + off = (tgt : Int)) (kt : x < y → G E X nL ws nc ns lv tgt st) (kf : ¬ (x < y) → G E X nL ws nc ns lv (pc + 3) st) : G E X nL ws nc ns lv pc (.int y :: .int x :: st) := by
  obtain ⟨p, e, s, m, args, below, meth, c, R, A, Q⟩ := X
  obtain ⟨hx, hb, hml, hown, hts, hK, hA, hSt, hNe, hlk, hR⟩ := B
  intro H locs ls hP hD hS hl
  exact lv_icmp_lt hx hb hd ht (fun h => kt h H locs ls hP hD hS hl) (fun h => kf h H locs ls hP hD hS hl)
theorem g_if_ge (B : Bd E X cc own nL fr lo mc ms) {x : Int32} {off : Int} {tgt : Nat} (hd : decode cc pc = .ok (.ifCond .ge off, 3)) (ht : (pc : Int) + off = (tgt : Int)) (kt : 0 ≤ x → G E X nL ws nc ns lv tgt st) (kf : ¬ (0 ≤ x) → G E X nL ws nc ns lv (pc + 3) st) : G E X nL ws nc ns lv pc (.int x :: st) := by
  obtain ⟨p, e, s, m, args, below, meth, c, R, A, Q⟩ := X
  obtain ⟨hx, hb, hml, hown, hts, hK, hA, hSt, hNe, hlk, hR⟩ := B
  intro H locs ls hP hD hS hl
  exact lv_if_ge hx hb hd ht (fun h => kt h H locs ls hP hD hS hl) (fun h => kf h H locs ls hP hD hS hl)
theorem g_icmp_ge (B : Bd E X cc own nL fr lo mc ms) {x y : Int32} {off : Int} {tgt : Nat} (hd : decode cc pc = .ok (.if_icmp .ge off, 3)) (ht : (pc : Int) + off = (tgt : Int)) (kt : y ≤ x → G E X nL ws nc ns lv tgt st) (kf : ¬ (y ≤ x) → G E X nL ws nc ns lv (pc + 3) st) : G E X nL ws nc ns lv pc (.int y :: .int x :: st) := by
  obtain ⟨p, e, s, m, args, below, meth, c, R, A, Q⟩ := X
  obtain ⟨hx, hb, hml, hown, hts, hK, hA, hSt, hNe, hlk, hR⟩ := B
  intro H locs ls hP hD hS hl
  exact lv_icmp_ge hx hb hd ht (fun h => kt h H locs ls hP hD hS hl) (fun h => kf h H locs ls hP hD hS hl)
theorem g_if_gt (B : Bd E X cc own nL fr lo mc ms) {x : Int32} {off : Int} {tgt : Nat} (hd : decode cc pc = .ok (.ifCond .gt off, 3)) (ht : (pc : Int) + off = (tgt : Int)) (kt : 0 < x → G E X nL ws nc ns lv tgt st) (kf : ¬ (0 < x) → G E X nL ws nc ns lv (pc + 3) st) : G E X nL ws nc ns lv pc (.int x :: st) := by
  obtain ⟨p, e, s, m, args, below, meth, c, R, A, Q⟩ := X
  obtain ⟨hx, hb, hml, hown, hts, hK, hA, hSt, hNe, hlk, hR⟩ := B
  intro H locs ls hP hD hS hl
  exact lv_if_gt hx hb hd ht (fun h => kt h H locs ls hP hD hS hl) (fun h => kf h H locs ls hP hD hS hl)
theorem g_icmp_gt (B : Bd E X cc own nL fr lo mc ms) {x y : Int32} {off : Int} {tgt : Nat} (hd : decode cc pc = .ok (.if_icmp .gt off, 3)) (ht : (pc : Int) + off = (tgt : Int)) (kt : y < x → G E X nL ws nc ns lv tgt st) (kf : ¬ (y < x) → G E X nL ws nc ns lv (pc + 3) st) : G E X nL ws nc ns lv pc (.int y :: .int x :: st) := by
  obtain ⟨p, e, s, m, args, below, meth, c, R, A, Q⟩ := X
  obtain ⟨hx, hb, hml, hown, hts, hK, hA, hSt, hNe, hlk, hR⟩ := B
  intro H locs ls hP hD hS hl
  exact lv_icmp_gt hx hb hd ht (fun h => kt h H locs ls hP hD hS hl) (fun h => kf h H locs ls hP hD hS hl)
theorem g_if_le (B : Bd E X cc own nL fr lo mc ms) {x : Int32} {off : Int} {tgt : Nat} (hd : decode cc pc = .ok (.ifCond .le off, 3)) (ht : (pc : Int) + off = (tgt : Int)) (kt : x ≤ 0 → G E X nL ws nc ns lv tgt st) (kf : ¬ (x ≤ 0) → G E X nL ws nc ns lv (pc + 3) st) : G E X nL ws nc ns lv pc (.int x :: st) := by
  obtain ⟨p, e, s, m, args, below, meth, c, R, A, Q⟩ := X
  obtain ⟨hx, hb, hml, hown, hts, hK, hA, hSt, hNe, hlk, hR⟩ := B
  intro H locs ls hP hD hS hl
  exact lv_if_le hx hb hd ht (fun h => kt h H locs ls hP hD hS hl) (fun h => kf h H locs ls hP hD hS hl)
theorem g_icmp_le (B : Bd E X cc own nL fr lo mc ms) {x y : Int32} {off : Int} {tgt : Nat} (hd : decode cc pc = .ok (.if_icmp .le off, 3)) (ht : (pc : Int) + off = (tgt : Int)) (kt : x ≤ y → G E X nL ws nc ns lv tgt st) (kf : ¬ (x ≤ y) → G E X nL ws nc ns lv (pc + 3) st) : G E X nL ws nc ns lv pc (.int y :: .int x :: st) := by
  obtain ⟨p, e, s, m, args, below, meth, c, R, A, Q⟩ := X
  obtain ⟨hx, hb, hml, hown, hts, hK, hA, hSt, hNe, hlk, hR⟩ := B
  intro H locs ls hP hD hS hl
  exact lv_icmp_le hx hb hd ht (fun h => kt h H locs ls hP hD hS hl) (fun h => kf h H locs ls hP hD hS hl)
theorem g_goto (B : Bd E X cc own nL fr lo mc ms) {off : Int} {tgt : Nat} (hd : decode cc pc = .ok (.goto off, 3)) (ht : (pc : Int) + off = (tgt : Int)) (k : G E X nL ws nc ns lv tgt st) : G E X nL ws nc ns lv pc st := by
  obtain ⟨p, e, s, m, args, below, meth, c, R, A, Q⟩ := X
  obtain ⟨hx, hb, hml, hown, hts, hK, hA, hSt, hNe, hlk, hR⟩ := B
  intro H locs ls hP hD hS hl
  exact lv_goto hx hb hd ht (k H locs ls hP hD hS hl)
theorem g_ifnull (B : Bd E X cc own nL fr lo mc ms) {x : Nat} {off : Int} (hd : decode cc pc = .ok (.ifnull off, 3)) (k : G E X nL ws nc ns lv (pc + 3) st) : G E X nL ws nc ns lv pc (.ref x :: st) := by
  obtain ⟨p, e, s, m, args, below, meth, c, R, A, Q⟩ := X
  obtain ⟨hx, hb, hml, hown, hts, hK, hA, hSt, hNe, hlk, hR⟩ := B
  intro H locs ls hP hD hS hl
  exact lv_ifnull hx hb hd (k H locs ls hP hD hS hl)
theorem g_ifnullN (B : Bd E X cc own nL fr lo mc ms) {off : Int} {tgt : Nat} (hd : decode cc pc = .ok (.ifnull off, 3)) (ht : (pc : Int) + off = (tgt : Int)) (k : G E X nL ws nc ns lv tgt st) : G E X nL ws nc ns lv pc (.null :: st) := by
  obtain ⟨p, e, s, m, args, below, meth, c, R, A, Q⟩ := X
  obtain ⟨hx, hb, hml, hown, hts, hK, hA, hSt, hNe, hlk, hR⟩ := B
  intro H locs ls hP hD hS hl
  exact lv_ifnullN hx hb hd ht (k H locs ls hP hD hS hl)
theorem g_ifnonnull (B : Bd E X cc own nL fr lo mc ms) {x : Nat} {off : Int} {tgt : Nat} (hd : decode cc pc = .ok (.ifnonnull off, 3)) (ht : (pc : Int) + off = (tgt : Int)) (k : G E X nL ws nc ns lv tgt st) : G E X nL ws nc ns lv pc (.ref x :: st) := by
  obtain ⟨p, e, s, m, args, below, meth, c, R, A, Q⟩ := X
  obtain ⟨hx, hb, hml, hown, hts, hK, hA, hSt, hNe, hlk, hR⟩ := B
  intro H locs ls hP hD hS hl
  exact lv_ifnonnull hx hb hd ht (k H locs ls hP hD hS hl)
theorem g_ifnonnullN (B : Bd E X cc own nL fr lo mc ms) {off : Int} (hd : decode cc pc = .ok (.ifnonnull off, 3)) (k : G E X nL ws nc ns lv (pc + 3) st) : G E X nL ws nc ns lv pc (.null :: st) := by
  obtain ⟨p, e, s, m, args, below, meth, c, R, A, Q⟩ := X
  obtain ⟨hx, hb, hml, hown, hts, hK, hA, hSt, hNe, hlk, hR⟩ := B
  intro H locs ls hP hD hS hl
  exact lv_ifnonnullN hx hb hd (k H locs ls hP hD hS hl)
theorem g_tableIn (B : Bd E X cc own nL fr lo mc ms) {dflt lo0 hi : Int} {offs : Array Int} {len : Nat} {x : Int32} {off : Int} {tgt : Nat} (hd : decode cc pc = .ok (.tableswitch dflt lo0 hi offs, len)) (h1 : ¬ x.toInt < lo0) (h2 : ¬ hi < x.toInt) (ho : offs[(x.toInt - lo0).toNat]? = some off) (ht : (pc : Int) + off = (tgt : Int)) (k : G E X nL ws nc ns lv tgt st) : G E X nL ws nc ns lv pc (.int x :: st) := by
  obtain ⟨p, e, s, m, args, below, meth, c, R, A, Q⟩ := X
  obtain ⟨hx, hb, hml, hown, hts, hK, hA, hSt, hNe, hlk, hR⟩ := B
  intro H locs ls hP hD hS hl
  exact lv_tableIn hx hb hd h1 h2 ho ht (k H locs ls hP hD hS hl)
theorem g_tableOut (B : Bd E X cc own nL fr lo mc ms) {dflt lo0 hi : Int} {offs : Array Int} {len : Nat} {x : Int32} {tgt : Nat} (hd : decode cc pc = .ok (.tableswitch dflt lo0 hi offs, len)) (h : x.toInt < lo0 ∨ hi < x.toInt) (ht : (pc : Int) + dflt = (tgt : Int)) (k : G E X nL ws nc ns lv tgt st) : G E X nL ws nc ns lv pc (.int x :: st) := by
  obtain ⟨p, e, s, m, args, below, meth, c, R, A, Q⟩ := X
  obtain ⟨hx, hb, hml, hown, hts, hK, hA, hSt, hNe, hlk, hR⟩ := B
  intro H locs ls hP hD hS hl
  exact lv_tableOut hx hb hd h ht (k H locs ls hP hD hS hl)
theorem g_topi {x : Int32} (k : ∀ y : Int32, y = x → G E X nL ws nc ns lv pc (.int y :: st)) : G E X nL ws nc ns lv pc (.int x :: st) := k x rfl
theorem g_topl {x : Int64} (k : ∀ y : Int64, y = x → G E X nL ws nc ns lv pc (.long y :: st)) : G E X nL ws nc ns lv pc (.long x :: st) := k x rfl
theorem g_ldc (B : Bd E X cc own nL fr lo mc ms) {index : Nat} {v : Int32} (hw : Cond.constant own index v ∈ g_tbl) (hd : decode cc pc = .ok (.ldc index, 2)) (k : G E X nL ws nc ns lv (pc + 2) (.int v :: st)) : G E X nL ws nc ns lv pc st := by
  obtain ⟨p, e, s, m, args, below, meth, c, R, A, Q⟩ := X
  obtain ⟨hx, hb, hml, hown, hts, hK, hA, hSt, hNe, hlk, hR⟩ := B
  intro H locs ls hP hD hS hl
  exact lv_ldc hx hb hown (hts _ hw) hd (k H locs ls hP hD hS hl)
theorem g_ldc2 (B : Bd E X cc own nL fr lo mc ms) {index : Nat} {v : Int64} (hw : Cond.constantLong own index v ∈ g_tbl) (hd : decode cc pc = .ok (.ldc2_w index, 3)) (k : G E X nL ws nc ns lv (pc + 3) (.long v :: st)) : G E X nL ws nc ns lv pc st := by
  obtain ⟨p, e, s, m, args, below, meth, c, R, A, Q⟩ := X
  obtain ⟨hx, hb, hml, hown, hts, hK, hA, hSt, hNe, hlk, hR⟩ := B
  intro H locs ls hP hD hS hl
  exact lv_ldc2 hx hb hown (hts _ hw) hd (k H locs ls hP hD hS hl)
/-- a field: its class, its place, its words -/
def FL (own : String) (idx ci k : Nat) : Prop := ∃ (C : String) (T : u_T) (N : Nat), vwCl[ci]? = some (C, T, N) ∧ k < N ∧ (∀ w ∈ u_ws C T N, w ∈ g_tbl) ∧ Cond.fieldLink own idx (T k).1 (T k).2.1 (T k).2.2.1 ∈ g_tbl
/-- what a store wants besides -/
def PF (ci k : Nat) (ty : FieldType) (fin : Bool) : Prop := ∀ (C : String) (T : u_T) (N : Nat), vwCl[ci]? = some (C, T, N) → (∃ ty0 : Nat → FieldType, ∀ j, j < N → parseFieldDescriptor (T j).2.2.1 = some (ty0 j)) ∧ (∀ a, a < N → ∀ b, b < N → a ≠ b → (T a).2.1 ≠ (T b).2.1) ∧ parseFieldDescriptor (T k).2.2.1 = some ty ∧ (T k).2.2.2 = fin ∧ (T k).1 = C
theorem g_get (B : Bd E X cc own nL fr lo mc ms) {a ci idx : Nat} {fs : List Value} {v : Value} (q k : Nat) (hF : FL own idx ci k) (he : ws[q]? = some (a, .inr (ci, fs))) (hv : fs[k]? = some v) (hd : decode cc pc = .ok (.getfield idx, 3)) (kk : G E X nL ws nc ns lv (pc + 3) (v :: st)) : G E X nL ws nc ns lv pc (.ref a :: st) := by
  obtain ⟨p, e, s, m, args, below, meth, c, R, A, Q⟩ := X
  obtain ⟨hx, hb, hml, hown, hts, hK, hA, hSt, hNe, hlk, hR⟩ := B
  intro H locs ls hP hD hS hl
  obtain ⟨C, T, N, hc, hk, hin, hfl⟩ := hF
  exact va_get (D := E.2.1) (ci := ci) (v := v) (C := C) (T := T) (N := N) hx hb hts hin hown hK hP q he hc k hk (hts _ hfl) (fun _ h9 => h9) hv hd (kk H locs ls hP hD hS hl)
theorem g_put (B : Bd E X cc own nL fr lo mc ms) {a ci idx : Nat} {fs : List Value} {v : Value} {ty : FieldType} {ws' : va_W} (q k : Nat) (hF : FL own idx ci k) (hPF : PF ci k ty false) (he : ws[q]? = some (a, .inr (ci, fs))) (hlt : k < fs.length) (hn : narrow ty v = v) (hfit : fits ty v = true) (hw : ws.set q (a, .inr (ci, fs.set k v)) = ws') (hd : decode cc pc = .ok (.putfield idx, 3)) (kk : G E X nL ws' nc ns lv (pc + 3) st) : G E X nL ws nc ns lv pc (v :: .ref a :: st) := by
  obtain ⟨p, e, s, m, args, below, meth, c, R, A, Q⟩ := X
  obtain ⟨hx, hb, hml, hown, hts, hK, hA, hSt, hNe, hlk, hR⟩ := B
  intro H locs ls hP hD hS hl
  obtain ⟨C, T, N, hc, hk, hin, hfl⟩ := hF
  obtain ⟨⟨ty0, hty⟩, hnm, hpd, hfin, hcl⟩ := hPF C T N hc
  subst hw
  exact va_put (D := E.2.1) (ci := ci) (v := v) (ty := ty) (C := C) (T := T) (N := N) hx hb hts hin ty0 hty hnm hown hK hP hD hS q he hc k hk (hts _ hfl) (fun _ h9 => h9) hfin hpd hn hfit hlt hd (fun H1 locs1 hP1 hD1 hS1 => kk H1 locs1 ls hP1 hD1 hS1 hl)
theorem g_putF (B : Bd E X cc own nL fr lo mc ms) (hI : In X) {a ci idx : Nat} {fs : List Value} {v : Value} {ty : FieldType} {ws' : va_W} (q k : Nat) (hF : FL own idx ci k) (hPF : PF ci k ty true) (hco : ∀ q : vw_C, vwCl[ci]? = some q → q.1 = own) (he : ws[q]? = some (a, .inr (ci, fs))) (hlt : k < fs.length) (hn : narrow ty v = v) (hfit : fits ty v = true) (hw : ws.set q (a, .inr (ci, fs.set k v)) = ws') (hd : decode cc pc = .ok (.putfield idx, 3)) (kk : G E X nL ws' nc ns lv (pc + 3) st) : G E X nL ws nc ns lv pc (v :: .ref a :: st) := by
  obtain ⟨p, e, s, m, args, below, meth, c, R, A, Q⟩ := X
  obtain ⟨hx, hb, hml, hown, hts, hK, hA, hSt, hNe, hlk, hR⟩ := B
  intro H locs ls hP hD hS hl
  obtain ⟨C, T, N, hc, hk, hin, hfl⟩ := hF
  obtain ⟨⟨ty0, hty⟩, hnm, hpd, hfin, hcl⟩ := hPF C T N hc
  have ho : C = own := hco _ hc
  subst hw
  exact va_putF (D := E.2.1) (ci := ci) (v := v) (ty := ty) (C := C) (T := T) (N := N) hx hb hts hin ty0 hty hnm hown hK hP hD hS q he hc k hk (hts _ hfl) (fun _ h9 => h9) hfin hI (hcl.trans ho) hpd hn hfit hlt hd (fun H1 locs1 hP1 hD1 hS1 => kk H1 locs1 ls hP1 hD1 hS1 hl)
theorem g_iald (B : Bd E X cc own nL fr lo mc ms) {a n : Nat} {f : Nat → Int32} {i : Int32} (q : Nat) (he : ws[q]? = some (a, .inl (E.2.2.1 0, n, .inl f))) (hin : vp_in i n) (hd : decode cc pc = .ok (.iaload, 1)) (kk : G E X nL ws nc ns lv (pc + 1) (.int (f i.toNatClampNeg) :: st)) : G E X nL ws nc ns lv pc (.int i :: .ref a :: st) := by
  obtain ⟨p, e, s, m, args, below, meth, c, R, A, Q⟩ := X
  obtain ⟨hx, hb, hml, hown, hts, hK, hA, hSt, hNe, hlk, hR⟩ := B
  intro H locs ls hP hD hS hl
  exact va_iald hx hb hK hP q 0 he rfl hin hd (kk H locs ls hP hD hS hl)
theorem g_bald (B : Bd E X cc own nL fr lo mc ms) {a n : Nat} {f : Nat → Int32} {i : Int32} (q : Nat) (he : ws[q]? = some (a, .inl (E.2.2.1 1, n, .inl f))) (hin : vp_in i n) (hd : decode cc pc = .ok (.baload, 1)) (kk : G E X nL ws nc ns lv (pc + 1) (.int (f i.toNatClampNeg) :: st)) : G E X nL ws nc ns lv pc (.int i :: .ref a :: st) := by
  obtain ⟨p, e, s, m, args, below, meth, c, R, A, Q⟩ := X
  obtain ⟨hx, hb, hml, hown, hts, hK, hA, hSt, hNe, hlk, hR⟩ := B
  intro H locs ls hP hD hS hl
  exact va_bald hx hb hK hP q 1 he rfl hin hd (kk H locs ls hP hD hS hl)
theorem g_zald (B : Bd E X cc own nL fr lo mc ms) {a n : Nat} {f : Nat → Int32} {i : Int32} (q : Nat) (he : ws[q]? = some (a, .inl (E.2.2.1 2, n, .inl f))) (hin : vp_in i n) (hd : decode cc pc = .ok (.baload, 1)) (kk : G E X nL ws nc ns lv (pc + 1) (.int (f i.toNatClampNeg) :: st)) : G E X nL ws nc ns lv pc (.int i :: .ref a :: st) := by
  obtain ⟨p, e, s, m, args, below, meth, c, R, A, Q⟩ := X
  obtain ⟨hx, hb, hml, hown, hts, hK, hA, hSt, hNe, hlk, hR⟩ := B
  intro H locs ls hP hD hS hl
  exact va_zald hx hb hK hP q 2 he rfl hin hd (kk H locs ls hP hD hS hl)
theorem g_lald (B : Bd E X cc own nL fr lo mc ms) {a n : Nat} {f : Nat → Int64} {i : Int32} (q : Nat) (he : ws[q]? = some (a, .inl (E.2.2.1 3, n, .inr (.inl f)))) (hin : vp_in i n) (hd : decode cc pc = .ok (.laload, 1)) (kk : G E X nL ws nc ns lv (pc + 1) (.long (f i.toNatClampNeg) :: st)) : G E X nL ws nc ns lv pc (.int i :: .ref a :: st) := by
  obtain ⟨p, e, s, m, args, below, meth, c, R, A, Q⟩ := X
  obtain ⟨hx, hb, hml, hown, hts, hK, hA, hSt, hNe, hlk, hR⟩ := B
  intro H locs ls hP hD hS hl
  exact va_lald hx hb hK hP q 3 he rfl hin hd (kk H locs ls hP hD hS hl)
theorem g_iast (B : Bd E X cc own nL fr lo mc ms) {a n : Nat} {f : Nat → Int32} {i : Int32} {x : Int32} {ws' : va_W} (q : Nat) (he : ws[q]? = some (a, .inl (E.2.2.1 0, n, .inl f))) (hin : vp_in i n) (hw : ws.set q (a, .inl (E.2.2.1 0, n, .inl (upd f i.toNatClampNeg x))) = ws') (hd : decode cc pc = .ok (.iastore, 1)) (kk : G E X nL ws' nc ns lv (pc + 1) st) : G E X nL ws nc ns lv pc (.int x :: .int i :: .ref a :: st) := by
  obtain ⟨p, e, s, m, args, below, meth, c, R, A, Q⟩ := X
  obtain ⟨hx, hb, hml, hown, hts, hK, hA, hSt, hNe, hlk, hR⟩ := B
  intro H locs ls hP hD hS hl
  subst hw
  exact va_iast hx hb hK hP hD hS q 0 he rfl hin hd (fun H1 locs1 hP1 hD1 hS1 => kk H1 locs1 ls hP1 hD1 hS1 hl)
theorem g_bast (B : Bd E X cc own nL fr lo mc ms) {a n : Nat} {f : Nat → Int32} {i : Int32} {x : Int32} {ws' : va_W} (q : Nat) (he : ws[q]? = some (a, .inl (E.2.2.1 1, n, .inl f))) (hin : vp_in i n) (hw : ws.set q (a, .inl (E.2.2.1 1, n, .inl (upd f i.toNatClampNeg (vp_nar .byte x)))) = ws') (hd : decode cc pc = .ok (.bastore, 1)) (kk : G E X nL ws' nc ns lv (pc + 1) st) : G E X nL ws nc ns lv pc (.int x :: .int i :: .ref a :: st) := by
  obtain ⟨p, e, s, m, args, below, meth, c, R, A, Q⟩ := X
  obtain ⟨hx, hb, hml, hown, hts, hK, hA, hSt, hNe, hlk, hR⟩ := B
  intro H locs ls hP hD hS hl
  subst hw
  exact va_bast hx hb hK hP hD hS q 1 he rfl hin hd (fun H1 locs1 hP1 hD1 hS1 => kk H1 locs1 ls hP1 hD1 hS1 hl)
theorem g_zast (B : Bd E X cc own nL fr lo mc ms) {a n : Nat} {f : Nat → Int32} {i : Int32} {x : Int32} {ws' : va_W} (q : Nat) (he : ws[q]? = some (a, .inl (E.2.2.1 2, n, .inl f))) (hin : vp_in i n) (hw : ws.set q (a, .inl (E.2.2.1 2, n, .inl (upd f i.toNatClampNeg (vp_nar .boolean x)))) = ws') (hd : decode cc pc = .ok (.bastore, 1)) (kk : G E X nL ws' nc ns lv (pc + 1) st) : G E X nL ws nc ns lv pc (.int x :: .int i :: .ref a :: st) := by
  obtain ⟨p, e, s, m, args, below, meth, c, R, A, Q⟩ := X
  obtain ⟨hx, hb, hml, hown, hts, hK, hA, hSt, hNe, hlk, hR⟩ := B
  intro H locs ls hP hD hS hl
  subst hw
  exact va_zast hx hb hK hP hD hS q 2 he rfl hin hd (fun H1 locs1 hP1 hD1 hS1 => kk H1 locs1 ls hP1 hD1 hS1 hl)
theorem g_last (B : Bd E X cc own nL fr lo mc ms) {a n : Nat} {f : Nat → Int64} {i : Int32} {x : Int64} {ws' : va_W} (q : Nat) (he : ws[q]? = some (a, .inl (E.2.2.1 3, n, .inr (.inl f)))) (hin : vp_in i n) (hw : ws.set q (a, .inl (E.2.2.1 3, n, .inr (.inl (vp_updL f i.toNatClampNeg x)))) = ws') (hd : decode cc pc = .ok (.lastore, 1)) (kk : G E X nL ws' nc ns lv (pc + 1) st) : G E X nL ws nc ns lv pc (.long x :: .int i :: .ref a :: st) := by
  obtain ⟨p, e, s, m, args, below, meth, c, R, A, Q⟩ := X
  obtain ⟨hx, hb, hml, hown, hts, hK, hA, hSt, hNe, hlk, hR⟩ := B
  intro H locs ls hP hD hS hl
  subst hw
  exact va_last hx hb hK hP hD hS q 3 he rfl hin hd (fun H1 locs1 hP1 hD1 hS1 => kk H1 locs1 ls hP1 hD1 hS1 hl)
theorem g_alen (B : Bd E X cc own nL fr lo mc ms) {a t0 : Nat} {x : vp_A} {v : Int32} (q : Nat) (ht0 : t0 < 4) (he : ws[q]? = some (a, .inl (E.2.2.1 t0, x))) (hv : Int32.ofNat x.1 = v) (hd : decode cc pc = .ok (.arraylength, 1)) (kk : G E X nL ws nc ns lv (pc + 1) (.int v :: st)) : G E X nL ws nc ns lv pc (.ref a :: st) := by
  obtain ⟨p, e, s, m, args, below, meth, c, R, A, Q⟩ := X
  obtain ⟨hx, hb, hml, hown, hts, hK, hA, hSt, hNe, hlk, hR⟩ := B
  intro H locs ls hP hD hS hl
  match t0, ht0, he with
  | 0, _, he => exact va_alen hx hb hK hP q 0 he (ty := .int) rfl hv hd (kk H locs ls hP hD hS hl)
  | 1, _, he => exact va_alen hx hb hK hP q 1 he (ty := .byte) rfl hv hd (kk H locs ls hP hD hS hl)
  | 2, _, he => exact va_alen hx hb hK hP q 2 he (ty := .boolean) rfl hv hd (kk H locs ls hP hD hS hl)
  | 3, _, he => exact va_alen hx hb hK hP q 3 he (ty := .long) rfl hv hd (kk H locs ls hP hD hS hl)
  | (_ + 4), h, _ => exact absurd h (by omega)
theorem g_sub {ws' : va_W} (is : List Nat) (hn : va_nd is = true) (hs : is.map (fun i => ws[i]?) = ws'.map some) (kk : G E X nL ws' nc ns lv pc st) : G E X nL ws nc ns lv pc st := by
  obtain ⟨p, e, s, m, args, below, meth, c, R, A, Q⟩ := X
  intro H locs ls hP hD hS hl
  have hP' : va_P E.2.1 vwCl ws' H := by
    intro k q hq
    have h1 : (is.map (fun i => ws[i]?))[k]? = some (some q) := by rw [hs, List.getElem?_map, hq]; rfl
    rw [List.getElem?_map] at h1
    cases hi : is[k]? with
    | none => rw [hi] at h1; cases h1
    | some i => rw [hi] at h1; exact hP i q (Option.some.inj h1)
  exact kk H locs ls hP' (hD.sub is hn hs) hS hl
theorem g_lvsub {lv' : List (Nat × Value)} (ks : List Nat) (h : lv_pick lv ks = lv') (kk : G E X nL ws nc ns lv' pc st) : G E X nL ws nc ns lv pc st := by
  obtain ⟨p, e, s, m, args, below, meth, c, R, A, Q⟩ := X
  intro H locs ls hP hD hS hl
  exact kk H locs ls hP hD hS (lv_sub hl ks h)
theorem g_iret (B : Bd E X cc own nL fr lo mc ms) {Q : Option Value → va_W → Prop} (hr : Rt E X (some .int) mc ms Q) {v : Int32} (hd : decode cc pc = .ok (.ireturn, 1)) (hc : nc ≤ mc) (hs : ns ≤ ms) (hq : Q (some (.int v)) ws) : G E X nL ws nc ns lv pc [.int v] := by
  obtain ⟨p, e, s, m, args, below, meth, c, R, A, QQ⟩ := X
  obtain ⟨hx, hb, hml, hown, hts, hK, hA, hSt, hNe, hlk, hR⟩ := B
  intro H locs ls hP hD hS hl
  obtain ⟨hr1, rfl⟩ := hr
  refine W.widen hc hs ?_
  exact W.iret (v := v) hx hb hr1 (fun t ht hW => ⟨⟨_, ws, rfl, hq, by rw [ht]; exact hP, va_K.moved hW.alike hK, hD⟩, hS.F ht⟩) hS.2.2 hd
theorem g_zret (B : Bd E X cc own nL fr lo mc ms) {Q : Option Value → va_W → Prop} (hr : Rt E X (some .boolean) mc ms Q) {v : Int32} (hn : narrow .boolean (.int v) = .int v) (hd : decode cc pc = .ok (.ireturn, 1)) (hc : nc ≤ mc) (hs : ns ≤ ms) (hq : Q (some (.int v)) ws) : G E X nL ws nc ns lv pc [.int v] := by
  obtain ⟨p, e, s, m, args, below, meth, c, R, A, QQ⟩ := X
  obtain ⟨hx, hb, hml, hown, hts, hK, hA, hSt, hNe, hlk, hR⟩ := B
  intro H locs ls hP hD hS hl
  obtain ⟨hr1, rfl⟩ := hr
  refine W.widen hc hs ?_
  exact W.zret (v := v) hx hb hr1 hn (fun t ht hW => ⟨⟨_, ws, rfl, hq, by rw [ht]; exact hP, va_K.moved hW.alike hK, hD⟩, hS.F ht⟩) hS.2.2 hd
theorem g_lret (B : Bd E X cc own nL fr lo mc ms) {Q : Option Value → va_W → Prop} (hr : Rt E X (some .long) mc ms Q) {v : Int64} (hd : decode cc pc = .ok (.lreturn, 1)) (hc : nc ≤ mc) (hs : ns ≤ ms) (hq : Q (some (.long v)) ws) : G E X nL ws nc ns lv pc [.long v] := by
  obtain ⟨p, e, s, m, args, below, meth, c, R, A, QQ⟩ := X
  obtain ⟨hx, hb, hml, hown, hts, hK, hA, hSt, hNe, hlk, hR⟩ := B
  intro H locs ls hP hD hS hl
  obtain ⟨hr1, rfl⟩ := hr
  refine W.widen hc hs ?_
  exact W.lret (v := v) hx hb hr1 (fun t ht hW => ⟨⟨_, ws, rfl, hq, by rw [ht]; exact hP, va_K.moved hW.alike hK, hD⟩, hS.F ht⟩) hS.2.2 hd
theorem g_vret (B : Bd E X cc own nL fr lo mc ms) {Q : Option Value → va_W → Prop} (hr : Rt E X none mc ms Q) (hd : decode cc pc = .ok (.return_, 1)) (hc : nc ≤ mc) (hs : ns ≤ ms) (hq : Q none ws) : G E X nL ws nc ns lv pc [] := by
  obtain ⟨p, e, s, m, args, below, meth, c, R, A, QQ⟩ := X
  obtain ⟨hx, hb, hml, hown, hts, hK, hA, hSt, hNe, hlk, hR⟩ := B
  intro H locs ls hP hD hS hl
  obtain ⟨hr1, rfl⟩ := hr
  refine W.widen hc hs ?_
  exact W.vret hx hb hr1 (fun t ht hW => ⟨⟨_, ws, rfl, hq, by rw [ht]; exact hP, va_K.moved hW.alike hK, hD⟩, hS.F ht⟩) hS.2.2 hd
theorem g_aret (B : Bd E X cc own nL fr lo mc ms) {Q : Option Value → va_W → Prop} {ot : String} (hr : Rt E X (some (.object ot)) mc ms Q) {v : Value} (hv : v = .null ∨ ∃ a, v = .ref a) (hd : decode cc pc = .ok (.areturn, 1)) (hc : nc ≤ mc) (hs : ns ≤ ms) (hq : Q (some v) ws) : G E X nL ws nc ns lv pc [v] := by
  obtain ⟨p, e, s, m, args, below, meth, c, R, A, QQ⟩ := X
  obtain ⟨hx, hb, hml, hown, hts, hK, hA, hSt, hNe, hlk, hR⟩ := B
  intro H locs ls hP hD hS hl
  obtain ⟨hr1, rfl⟩ := hr
  refine W.widen hc hs ?_
  exact W.aret (v := v) hx hb hr1 (Or.inl ⟨_, rfl⟩) hv (fun t ht hW => ⟨⟨_, ws, rfl, hq, by rw [ht]; exact hP, va_K.moved hW.alike hK, hD⟩, hS.F ht⟩) hS.2.2 hd
/-- Object's constructor -/
theorem g_obj (B : Bd E X cc own nL fr lo mc ms) {idx a : Nat} (hw : Cond.methodLink own idx objectInit ∈ g_tbl) (h1 : Cond.instanceMethod objectInit ∈ g_tbl) (h2 : Cond.code objectInit ⟨#[0xb1]⟩ 1 none ∈ g_tbl) (hf : 1 ≤ fr) (hlo : (st.map fun v => v.category).sum + 12 ≤ lo) (hd : decode cc pc = .ok (.invokespecial idx, 3)) (kk : G E X nL ws nc ns lv (pc + 3) st) : G E X nL ws nc ns lv pc (.ref a :: st) := by
  obtain ⟨p, e, s, m, args, below, meth, c, R, A, Q⟩ := X
  obtain ⟨hx, hb, hml, hown, hts, hK, hA, hSt, hNe, hlk, hR⟩ := B
  intro H locs ls hP hD hS hl
  subst hR
  exact W.objInit hx hb hown (hts _ hw) (hts _ h1) (hts _ h2) rfl (by rw [hml]; exact hl.1) rfl hd hf (by show 2 * 0 + _ + 12 ≤ lo; omega) (kk H locs ls hP hD hS hl)
/-- a new array of numbers -/
theorem g_newa (B : Bd E X cc own nL fr lo mc ms) {atype : ArrayType} {ty : FieldType} {t0 : Nat} {n : Int32} {N nc' ns' : Nat} {a0 : vp_A} {ws' : Nat → va_W} (hw : Cond.arrayClass ty ∈ g_tbl) (hty : newarray.typeOf atype = ty) (ht : (g_ty E)[t0]? = some (E.2.2.1 t0, ty)) (hk : refKind ty = false) (ha : ∀ cA : ClassId, vp_cell cA a0 = arrV cA N (fun _ => defaultValue ty)) (hn : ¬ n < 0) (hN : n.toNatClampNeg = N) (hbytes : N * componentBytes ty ≤ 536870912) (hc : nc + 1 = nc') (hs : ns + N = ns') (hcm : nc' ≤ mc) (hsm : ns' ≤ ms) (hws : ∀ q, ws ++ [(q, .inl (E.2.2.1 t0, a0))] = ws' q) (hd : decode cc pc = .ok (.newarray atype, 2)) (kk : ∀ q, G E X nL (ws' q) nc' ns' lv (pc + 2) (.ref q :: st)) : G E X nL ws nc ns lv pc (.int n :: st) := by
  obtain ⟨p, e, s, m, args, below, meth, c, R, A, Q⟩ := X
  obtain ⟨hx, hb, hml, hown, hts, hK, hA, hSt, hNe, hlk, hR⟩ := B
  intro H locs ls hP hD hS hl
  subst hc hs hR hty
  refine va_newa hx hb (hts _ hw) rfl hK hP hD hS hA ha hn hN hbytes hcm hsm hd (fun q cA H1 hK1 hP1 hD1 hS1 => ?_)
  have e1 := (hK1.2 4 _ rfl).2
  have e2 := (hK.2 t0 _ ht).2
  have e3 : cA = E.2.2.1 t0 := by
    cases atype <;> exact Option.some.inj (e1.symm.trans e2)
  subst e3
  rw [hws q] at hP1 hD1
  exact kk q H1 locs ls hP1 hD1 hS1 hl
/-- a class of which objects are made: its words -/
def NL (own : String) (idx ci N : Nat) (fs : List Value) : Prop := ∃ (C : String) (T : u_T) (ty : Nat → FieldType), vwCl[ci]? = some (C, T, N) ∧ (∀ w ∈ u_ws C T N, w ∈ g_tbl) ∧ (∀ k, k < N → parseFieldDescriptor (T k).2.2.1 = some (ty k)) ∧ Cond.classLink own idx C ∈ g_tbl ∧ Cond.instantiable C N ∈ g_tbl ∧ Cond.initialized C ∈ g_tbl ∧ ∀ j, j < N → defaultValue (ty j) = vp_V fs j
theorem g_new (B : Bd E X cc own nL fr lo mc ms) {idx ci N nc' ns' : Nat} {fs : List Value} {ws' : Nat → va_W} (hN : NL own idx ci N fs) (hc : nc + 1 = nc') (hs : ns + N = ns') (hcm : nc' ≤ mc) (hsm : ns' ≤ ms) (hws : ∀ q, ws ++ [(q, .inr (ci, fs))] = ws' q) (hd : decode cc pc = .ok (.new idx, 3)) (kk : ∀ q, G E X nL (ws' q) nc' ns' lv (pc + 3) (.ref q :: st)) : G E X nL ws nc ns lv pc st := by
  obtain ⟨p, e, s, m, args, below, meth, c, R, A, Q⟩ := X
  obtain ⟨hx, hb, hml, hown, hts, hK, hA, hSt, hNe, hlk, hR⟩ := B
  intro H locs ls hP hD hS hl
  subst hc hs hR
  obtain ⟨C, T, ty, h1, h2, h3, h4, h5, h6, h7⟩ := hN
  refine va_new (ci := ci) (fs := fs) (C := C) (T := T) (N := N) hx hb hts h2 ty h3 hown (hts _ h4) (hts _ h5) (hts _ h6) hK hP hD hS hA h1 h7 hcm hsm hd (fun q H1 hP1 hD1 hS1 => ?_)
  rw [hws q] at hP1 hD1
  exact kk q H1 locs ls hP1 hD1 hS1 hl
/-- the static table, from a nest mate -/
theorem g_getsN (B : Bd E X cc "SoundPress$Bytes" nL fr lo mc ms) (hd : decode cc pc = .ok (.getstatic NEST_B, 3)) (kk : G E X nL ws nc ns lv (pc + 3) (.ref E.2.2.2 :: st)) : G E X nL ws nc ns lv pc st := by
  obtain ⟨p, e, s, m, args, below, meth, c, R, A, Q⟩ := X
  obtain ⟨hx, hb, hml, hown, hts, hK, hA, hSt, hNe, hlk, hR⟩ := B
  intro H locs ls hP hD hS hl
  exact va_getsN hx hb hSt.1 hS hown (hNe.2.2.use rfl) (fun _ h => h) hd (kk H locs ls hP hD hS hl)
theorem g_tald (B : Bd E X cc own nL fr lo mc ms) {i : Int32} (hin : vp_in i 16) (hd : decode cc pc = .ok (.iaload, 1)) (kk : G E X nL ws nc ns lv (pc + 1) (.int (g_crc.getD i.toNatClampNeg 0) :: st)) : G E X nL ws nc ns lv pc (.int i :: .ref E.2.2.2 :: st) := by
  obtain ⟨p, e, s, m, args, below, meth, c, R, A, Q⟩ := X
  obtain ⟨hx, hb, hml, hown, hts, hK, hA, hSt, hNe, hlk, hR⟩ := B
  intro H locs ls hP hD hS hl
  exact va_ti hx hb hSt.2 hS hin rfl hd (kk H locs ls hP hD hS hl)
theorem g_mmax (B : Bd E X cc own nL fr lo mc ms) {idx : Nat} {x y : Int32} (h1 : Cond.methodLink own idx Lib.Math.max.name ∈ g_tbl) (h2 : Cond.static Lib.Math.max.name ∈ g_tbl) (h3 : Cond.initialized "java/lang/Math" ∈ g_tbl) (h4 : Cond.code Lib.Math.max.name Lib.Math.max.code 2 (some .int) ∈ g_tbl) (hf : 1 ≤ fr) (hlo : (st.map fun v => v.category).sum + 13 ≤ lo) (hc : nc ≤ mc) (hs : ns ≤ ms) (hd : decode cc pc = .ok (.invokestatic idx, 3)) (kk : G E X nL ws nc ns lv (pc + 3) (.int (if x < y then y else x) :: st)) : G E X nL ws nc ns lv pc (.int y :: .int x :: st) := by
  obtain ⟨p, e, s, m, args, below, meth, c, R, A, Q⟩ := X
  obtain ⟨hx, hb, hml, hown, hts, hK, hA, hSt, hNe, hlk, hR⟩ := B
  intro H locs ls hP hD hS hl
  subst hR
  exact va_mmax hx hb (hml.trans hl.1.symm) hown (hts _ h1) (hts _ h2) (hts _ h3) (hts _ h4) hf hlo hc hs hd (kk H locs ls hP hD hS hl)
theorem g_mmin (B : Bd E X cc own nL fr lo mc ms) {idx : Nat} {x y : Int32} (h1 : Cond.methodLink own idx Lib.Math.min.name ∈ g_tbl) (h2 : Cond.static Lib.Math.min.name ∈ g_tbl) (h3 : Cond.initialized "java/lang/Math" ∈ g_tbl) (h4 : Cond.code Lib.Math.min.name Lib.Math.min.code 2 (some .int) ∈ g_tbl) (hf : 1 ≤ fr) (hlo : (st.map fun v => v.category).sum + 13 ≤ lo) (hc : nc ≤ mc) (hs : ns ≤ ms) (hd : decode cc pc = .ok (.invokestatic idx, 3)) (kk : G E X nL ws nc ns lv (pc + 3) (.int (if y < x then y else x) :: st)) : G E X nL ws nc ns lv pc (.int y :: .int x :: st) := by
  obtain ⟨p, e, s, m, args, below, meth, c, R, A, Q⟩ := X
  obtain ⟨hx, hb, hml, hown, hts, hK, hA, hSt, hNe, hlk, hR⟩ := B
  intro H locs ls hP hD hS hl
  subst hR
  exact va_mmin hx hb (hml.trans hl.1.symm) hown (hts _ h1) (hts _ h2) (hts _ h3) (hts _ h4) hf hlo hc hs hd (kk H locs ls hP hD hS hl)
theorem g_mabs (B : Bd E X cc own nL fr lo mc ms) {idx : Nat} {x : Int32} (h1 : Cond.methodLink own idx Lib.Math.abs.name ∈ g_tbl) (h2 : Cond.static Lib.Math.abs.name ∈ g_tbl) (h3 : Cond.initialized "java/lang/Math" ∈ g_tbl) (h4 : Cond.code Lib.Math.abs.name Lib.Math.abs.code 1 (some .int) ∈ g_tbl) (hf : 1 ≤ fr) (hlo : (st.map fun v => v.category).sum + 13 ≤ lo) (hc : nc ≤ mc) (hs : ns ≤ ms) (hd : decode cc pc = .ok (.invokestatic idx, 3)) (kk : G E X nL ws nc ns lv (pc + 3) (.int (if 0 ≤ x then x else 0 - x) :: st)) : G E X nL ws nc ns lv pc (.int x :: st) := by
  obtain ⟨p, e, s, m, args, below, meth, c, R, A, Q⟩ := X
  obtain ⟨hx, hb, hml, hown, hts, hK, hA, hSt, hNe, hlk, hR⟩ := B
  intro H locs ls hP hD hS hl
  subst hR
  exact va_mabs hx hb (hml.trans hl.1.symm) hown (hts _ h1) (hts _ h2) (hts _ h3) (hts _ h4) hf hlo hc hs hd (kk H locs ls hP hD hS hl)
theorem g_mmaxl (B : Bd E X cc own nL fr lo mc ms) {idx : Nat} {x y : Int64} (h1 : Cond.methodLink own idx Lib.MathLoose.max_long.x ∈ g_tbl) (h2 : Cond.static Lib.MathLoose.max_long.x ∈ g_tbl) (h3 : Cond.initialized "java/lang/Math" ∈ g_tbl) (h4 : Cond.code Lib.MathLoose.max_long.x Lib.MathLoose.max_long.code 4 (some .long) ∈ g_tbl) (hf : 1 ≤ fr) (hlo : (st.map fun v => v.category).sum + 15 ≤ lo) (hc : nc ≤ mc) (hs : ns ≤ ms) (hd : decode cc pc = .ok (.invokestatic idx, 3)) (kk : G E X nL ws nc ns lv (pc + 3) (.long (if y < x then x else y) :: st)) : G E X nL ws nc ns lv pc (.long y :: .long x :: st) := by
  obtain ⟨p, e, s, m, args, below, meth, c, R, A, Q⟩ := X
  obtain ⟨hx, hb, hml, hown, hts, hK, hA, hSt, hNe, hlk, hR⟩ := B
  intro H locs ls hP hD hS hl
  subst hR
  exact va_mmax_long hx hb (hml.trans hl.1.symm) hown (hts _ h1) (hts _ h2) (hts _ h3) (hts _ h4) hf hlo hc hs hd (kk H locs ls hP hD hS hl)
theorem g_mminl (B : Bd E X cc own nL fr lo mc ms) {idx : Nat} {x y : Int64} (h1 : Cond.methodLink own idx Lib.MathLoose.min_long.x ∈ g_tbl) (h2 : Cond.static Lib.MathLoose.min_long.x ∈ g_tbl) (h3 : Cond.initialized "java/lang/Math" ∈ g_tbl) (h4 : Cond.code Lib.MathLoose.min_long.x Lib.MathLoose.min_long.code 4 (some .long) ∈ g_tbl) (hf : 1 ≤ fr) (hlo : (st.map fun v => v.category).sum + 15 ≤ lo) (hc : nc ≤ mc) (hs : ns ≤ ms) (hd : decode cc pc = .ok (.invokestatic idx, 3)) (kk : G E X nL ws nc ns lv (pc + 3) (.long (if y < x then y else x) :: st)) : G E X nL ws nc ns lv pc (.long y :: .long x :: st) := by
  obtain ⟨p, e, s, m, args, below, meth, c, R, A, Q⟩ := X
  obtain ⟨hx, hb, hml, hown, hts, hK, hA, hSt, hNe, hlk, hR⟩ := B
  intro H locs ls hP hD hS hl
  subst hR
  exact va_mmin_long hx hb (hml.trans hl.1.symm) hown (hts _ h1) (hts _ h2) (hts _ h3) (hts _ h4) hf hlo hc hs hd (kk H locs ls hP hD hS hl)
/-- behind a call -/
theorem g_back {p : Program} {l : Launch} {e : Env} {R : Room} {s : State} {m : MethodId} {args : Array Value} {below : List Frame} {meth : Method} {c : Code} {H : Heap} {locs : List Loc} {cells slots mc' ms' : Nat} {Q : State → Prop} {ls : Array Slot} {rest st0 : List Value} {A0 A1 : Nat → Prop} {H0 : Heap} {free : Addr → Prop} {Qc : Option Value → va_W → Prop} {a : Array Value}
    (hr : va_Run p l e R s m args below meth c H locs cells slots mc' ms' (F0 m pc ls st0) rest (g_Qc E Qc A1 a) free) (hS : va_S A0 H0 H locs) (hA : ∀ q, q < H.size → A1 q → A0 q) (hf : ∀ q, free q → A0 q)
    (kk : ∀ (v : Option Value) (w : va_W) (H1 : Heap) (locs1 : List Loc), Qc v w → va_P E.2.1 vwCl w H1 → va_D A1 w → H.size ≤ H1.size → (∀ q : Nat, q < H.size → ¬ A1 q → H1[q]? = H[q]?) → va_S A0 H0 H1 locs1 → W p l e R s m args below meth c H1 locs1 (cells + mc') (slots + ms') Q (F0 m (pc + 3) ls (v.toList ++ rest))) : W p l e R s m args below meth c H locs cells slots Q (F0 m pc ls st0) := by
  intro T hT X
  obtain ⟨v, st₀, t, T', L, h0, X', hL, e1, e2, ⟨⟨v', w, hv, hq, hP, hK, hD⟩, hz, hk⟩, st⟩ := hr T hT X
  cases hv
  rw [h0] at hz hk
  obtain ⟨t2, a1, b1⟩ := kk v w T'.heap (locs ++ L) hq (by rw [e1]; exact hP) hD (by rw [e1]; exact hz) (fun q h1 h2 => by rw [e1]; exact hk q h1 h2)
    ⟨Nat.le_trans hS.1 (by rw [e1]; exact hz), fun q h1 h2 => by rw [e1, hk q (Nat.lt_of_lt_of_le h1 hS.1) (fun z => h2 (hA q (Nat.lt_of_lt_of_le h1 hS.1) z))]; exact hS.2.1 q h1 h2, fun q hq => by
      rcases List.mem_append.mp hq with h | h
      · exact hS.2.2 q h
      · exact hf _ (hL q h)⟩ T' rfl X'
  exact ⟨t2, st t2 a1, b1⟩
theorem g_subP {D : va_G} {cl : List vw_C} {ws wc : va_W} {H : Heap} (hP : va_P D cl ws H) (is : List Nat) (hs : is.map (fun i => ws[i]?) = wc.map some) : va_P D cl wc H := by
  intro k q hq
  have h1 : (is.map (fun i => ws[i]?))[k]? = some (some q) := by rw [hs, List.getElem?_map, hq]; rfl
  rw [List.getElem?_map] at h1
  cases hi : is[k]? with
  | none => rw [hi] at h1; cases h1
  | some i => rw [hi] at h1; exact hP i q (Option.some.inj h1)
/-- a contract's start sees no frames -/
theorem g_blind {args : List Value} {wc : va_W} {sz : Nat} : FrameBlind (va_Pc args (fun U => U.heap.size = sz ∧ va_P E.2.1 vwCl wc U.heap ∧ va_K E.2.1 vwCl (g_ty E) U ∧ va_D (fun _ => True) wc ∧ g_St E (va_A wc sz) U U.heap ∧ g_N U)) := by
  intro a U g mk q
  obtain ⟨q0, q1, qP, qK, qD, qS, qN⟩ := q
  exact ⟨q0, q1, qP, va_K.moved (u := U) (U := U.calling g mk a) (Vm.Alike.refl U.vm) qK, qD, qS.moved (u := U) (U := U.calling g mk a) (Vm.Alike.refl U.vm), qN.same (u := U) (U := U.calling g mk a) rfl⟩
/-- words of a method that is called: link, code -/
def CL (own : String) (idx n : Nat) (M : g_M) : Prop := Cond.methodLink own idx M.1 ∈ g_tbl ∧ g_cw M ∈ g_tbl ∧ Cond.initialized M.1.cls ∈ g_tbl ∧ M.1.cls ≠ "java/lang/invoke/MethodHandle" ∧ M.1.cls ≠ "java/lang/invoke/VarHandle" ∧ (parseMethodDescriptor M.1.desc).map (fun d => d.parameters.length) = some n
theorem g_good {M : g_M} (h : g_cw M ∈ g_tbl) : GoodIn g_tbl (g_w M) := by
  intro w hw
  have h1 : w ∈ g_tbl := by
    rcases List.mem_cons.mp hw with h2 | h2
    · rw [h2]; exact h
    · exact h2
  exact ⟨h1, good_of_word (List.mem_filter.mp h1).2⟩
theorem g_callV (B : Bd E X cc own nL fr lo mc ms) {M : g_M} {f1 l1 c1 s1 idx n b ci nc' ns' : Nat} {As : List Value} {stk : List Value} {wc wr : va_W} {Qc : Option Value → va_W → Prop} {fs : List Value} (hC : CL own idx n M) (hI : Cond.instanceMethod M.1 ∈ g_tbl) (hV : Cond.selects M.1.cls M.1 M.1 ∈ g_tbl) (hE : Ev E M f1 l1 c1 s1 (.ref b :: As) wc Qc) (hn : As.length = n) (isC isR : List Nat) (h1 : isC.map (fun i => ws[i]?) = wc.map some) (h2 : isR.map (fun i => ws[i]?) = wr.map some) (h3 : va_nd isC = true) (h4 : va_nd isR = true) (h5 : ∀ i ∈ isR, i ∉ isC) (q0 : Nat) (he : wc[q0]? = some (b, .inr (ci, fs))) (hcl : ∀ q : vw_C, vwCl[ci]? = some q → q.1 = M.1.cls) (hci : (vwCl[ci]?).isSome = true) (hroom : f1 + 1 ≤ fr ∧ 8 + (M.2.2.1 + 11) + l1 ≤ lo) (hnc : nc + c1 = nc') (hns : ns + s1 = ns') (hcm : nc' ≤ mc) (hsm : ns' ≤ ms) (hstk : stk = As.reverse ++ .ref b :: st) (hst : (st.map fun v => v.category).sum ≤ 8) (hd : decode cc pc = .ok (.invokevirtual idx, 3)) (kk : ∀ (v : Option Value) (w : va_W), Qc v w → G E X nL (wr ++ w) nc' ns' lv (pc + 3) (v.toList ++ st)) : G E X nL ws nc ns lv pc stk := by
  obtain ⟨p, e, s, m, args, below, meth, c, R, A, Q⟩ := X
  obtain ⟨hx, hb, hml, hown, hts, hK, hA, hSt, hNe, hlk, hR⟩ := B
  intro H locs ls hP hD hS hl
  subst hnc hns hR hstk
  obtain ⟨cM, cC, cI, cn1, cn2, cd⟩ := hC
  obtain ⟨q, hq⟩ := Option.isSome_iff_exists.mp hci
  have hPc := g_subP hP isC h1
  have hDc := hD.sub isC h3 h1
  have hFc := va_free (wc := wc) hD hS hA isC h1
  obtain ⟨y, yc, yL, yr⟩ := M
  have hcw : CallW { frames := fr, cells := mc, slots := ms, locals := lo } s args own y.cls idx y yc yL yr (g_w (y, yc, yL, yr)) { frames := f1, cells := c1, slots := s1, locals := l1 } c1 s1 n := ⟨callB_of n hts (g_good cC) rfl rfl rfl (hts _ cI) (hts _ cM) ⟨cn1, cn2, cd⟩ hroom, hts _ hI, hts _ hV⟩
  refine g_back (va_runV (As := As) (rest := st) (Ts := g_tbl) ⟨hx, hb, hml, hown, hts⟩ (hE H.size) hcw ⟨g_blind, ?_, fun U hU hW => ⟨rfl, by rw [hU], by rw [hU]; exact hPc, va_K.moved hW.alike hK, hDc.weaken (fun _ _ _ _ => trivial), ?_, hNe.warm hW⟩⟩ rfl hn hl.1 rfl (lv_room hst) hd ⟨hcm, hsm⟩) hS (fun q _ h => hFc q h) hFc (fun v w H1 locs1 hqc hP1 hD1 hz1 hk1 hS1 => ?_)
  · have h9 := va_recv (q := q) hK hPc hq he
    rw [hcl q hq] at h9
    exact h9
  · rw [hU]
    exact ((hSt.kept (H1 := H) (fun a ha hna => hS.2.1 a ha hna)).narrow hFc).moved hW.alike
  · obtain ⟨hP2, hD2⟩ := va_join hP hD isC isR h1 h2 h4 h5 hk1 hFc hP1 hD1
    exact kk v w hqc H1 locs1 ls hP2 hD2 hS1 hl
theorem g_callI (B : Bd E X cc own nL fr lo mc ms) {M : g_M} {f1 l1 c1 s1 idx n b nc' ns' : Nat} {As : List Value} {stk : List Value} {wc wr : va_W} {Qc : Option Value → va_W → Prop} (hC : CL own idx n M) (hI : Cond.instanceMethod M.1 ∈ g_tbl) (hN : M.1.name = "<init>") (hrt : M.2.2.2 = none) (hE : Ev E M f1 l1 c1 s1 (.ref b :: As) wc Qc) (hn : As.length = n) (isC isR : List Nat) (h1 : isC.map (fun i => ws[i]?) = wc.map some) (h2 : isR.map (fun i => ws[i]?) = wr.map some) (h3 : va_nd isC = true) (h4 : va_nd isR = true) (h5 : ∀ i ∈ isR, i ∉ isC) (hroom : f1 + 1 ≤ fr ∧ 8 + (M.2.2.1 + 11) + l1 ≤ lo) (hnc : nc + c1 = nc') (hns : ns + s1 = ns') (hcm : nc' ≤ mc) (hsm : ns' ≤ ms) (hstk : stk = As.reverse ++ .ref b :: st) (hst : (st.map fun v => v.category).sum ≤ 8) (hd : decode cc pc = .ok (.invokespecial idx, 3)) (kk : ∀ (v : Option Value) (w : va_W), Qc v w → G E X nL (wr ++ w) nc' ns' lv (pc + 3) (v.toList ++ st)) : G E X nL ws nc ns lv pc stk := by
  obtain ⟨p, e, s, m, args, below, meth, c, R, A, Q⟩ := X
  obtain ⟨hx, hb, hml, hown, hts, hK, hA, hSt, hNe, hlk, hR⟩ := B
  intro H locs ls hP hD hS hl
  subst hnc hns hR hstk
  obtain ⟨cM, cC, cI, cn1, cn2, cd⟩ := hC
  have hPc := g_subP hP isC h1
  have hDc := hD.sub isC h3 h1
  have hFc := va_free (wc := wc) hD hS hA isC h1
  obtain ⟨y, yc, yL, yr⟩ := M
  subst hrt
  have hcw : CallB { frames := fr, cells := mc, slots := ms, locals := lo } s args own idx y yc yL none (g_w (y, yc, yL, none)) { frames := f1, cells := c1, slots := s1, locals := l1 } c1 s1 n := callB_of n hts (g_good cC) rfl rfl rfl (hts _ cI) (hts _ cM) ⟨cn1, cn2, cd⟩ hroom
  refine g_back (va_runI (As := As) (rest := st) (Ts := g_tbl) ⟨hx, hb, hml, hown, hts⟩ (hE H.size) ⟨hcw, hN, hts _ hI⟩ ⟨g_blind, fun U hU hW => ⟨rfl, by rw [hU], by rw [hU]; exact hPc, va_K.moved hW.alike hK, hDc.weaken (fun _ _ _ _ => trivial), ?_, hNe.warm hW⟩⟩ rfl hn hl.1 rfl (lv_room hst) hd ⟨hcm, hsm⟩) hS (fun q _ h => hFc q h) hFc (fun v w H1 locs1 hqc hP1 hD1 hz1 hk1 hS1 => ?_)
  · rw [hU]
    exact ((hSt.kept (H1 := H) (fun a ha hna => hS.2.1 a ha hna)).narrow hFc).moved hW.alike
  · obtain ⟨hP2, hD2⟩ := va_join hP hD isC isR h1 h2 h4 h5 hk1 hFc hP1 hD1
    exact kk v w hqc H1 locs1 ls hP2 hD2 hS1 hl
theorem g_callS (B : Bd E X cc own nL fr lo mc ms) {M : g_M} {f1 l1 c1 s1 idx n nc' ns' : Nat} {As : List Value} {stk : List Value} {wc wr : va_W} {Qc : Option Value → va_W → Prop} (hC : CL own idx n M) (hI : Cond.static M.1 ∈ g_tbl) (hE : Ev E M f1 l1 c1 s1 As wc Qc) (hn : As.length = n) (isC isR : List Nat) (h1 : isC.map (fun i => ws[i]?) = wc.map some) (h2 : isR.map (fun i => ws[i]?) = wr.map some) (h3 : va_nd isC = true) (h4 : va_nd isR = true) (h5 : ∀ i ∈ isR, i ∉ isC) (hroom : f1 + 1 ≤ fr ∧ 8 + (M.2.2.1 + 11) + l1 ≤ lo) (hnc : nc + c1 = nc') (hns : ns + s1 = ns') (hcm : nc' ≤ mc) (hsm : ns' ≤ ms) (hstk : stk = As.reverse ++ st) (hst : (st.map fun v => v.category).sum ≤ 8) (hd : decode cc pc = .ok (.invokestatic idx, 3)) (kk : ∀ (v : Option Value) (w : va_W), Qc v w → G E X nL (wr ++ w) nc' ns' lv (pc + 3) (v.toList ++ st)) : G E X nL ws nc ns lv pc stk := by
  obtain ⟨p, e, s, m, args, below, meth, c, R, A, Q⟩ := X
  obtain ⟨hx, hb, hml, hown, hts, hK, hA, hSt, hNe, hlk, hR⟩ := B
  intro H locs ls hP hD hS hl
  subst hnc hns hR hstk
  obtain ⟨cM, cC, cI, cn1, cn2, cd⟩ := hC
  have hPc := g_subP hP isC h1
  have hDc := hD.sub isC h3 h1
  have hFc := va_free (wc := wc) hD hS hA isC h1
  obtain ⟨y, yc, yL, yr⟩ := M
  have hcw : CallB { frames := fr, cells := mc, slots := ms, locals := lo } s args own idx y yc yL yr (g_w (y, yc, yL, yr)) { frames := f1, cells := c1, slots := s1, locals := l1 } c1 s1 n := callB_of n hts (g_good cC) rfl rfl rfl (hts _ cI) (hts _ cM) ⟨cn1, cn2, cd⟩ hroom
  refine g_back (va_runS (As := As) (rest := st) (Ts := g_tbl) ⟨hx, hb, hml, hown, hts⟩ (hE H.size) ⟨hcw, hts _ hI⟩ ⟨g_blind, fun U hU hW => ⟨rfl, by rw [hU], by rw [hU]; exact hPc, va_K.moved hW.alike hK, hDc.weaken (fun _ _ _ _ => trivial), ?_, hNe.warm hW⟩⟩ rfl hn hl.1 rfl (lv_room hst) hd ⟨hcm, hsm⟩) hS (fun q _ h => hFc q h) hFc (fun v w H1 locs1 hqc hP1 hD1 hz1 hk1 hS1 => ?_)
  · rw [hU]
    exact ((hSt.kept (H1 := H) (fun a ha hna => hS.2.1 a ha hna)).narrow hFc).moved hW.alike
  · obtain ⟨hP2, hD2⟩ := va_join hP hD isC isR h1 h2 h4 h5 hk1 hFc hP1 hD1
    exact kk v w hqc H1 locs1 ls hP2 hD2 hS1 hl
theorem g_ri {x x' : Int32} (h : x = x') (k : G E X nL ws nc ns lv pc (.int x' :: st)) : G E X nL ws nc ns lv pc (.int x :: st) := h ▸ k
theorem g_rl {x x' : Int64} (h : x = x') (k : G E X nL ws nc ns lv pc (.long x' :: st)) : G E X nL ws nc ns lv pc (.long x :: st) := h ▸ k
theorem g_hb : yX10_highestBit.cls ≠ "java/lang/invoke/MethodHandle" ∧ yX10_highestBit.cls ≠ "java/lang/invoke/VarHandle" ∧ (parseMethodDescriptor yX10_highestBit.desc).map (fun d => d.parameters.length) = some 1 := ⟨by decide +kernel, by decide +kernel, by decide +kernel⟩
theorem g_callSR (B : Bd E X cc "SoundPress$BitReader" nL fr lo mc ms) {f1 l1 c1 s1 nc' ns' : Nat} {yc : ByteArray} {yL : Nat} {yr : Option FieldType} {As : List Value} {stk : List Value} {wc wr : va_W} {Qc : Option Value → va_W → Prop} (cC : g_cw (yX10_highestBit, yc, yL, yr) ∈ g_tbl) (cI : Cond.initialized RX10 ∈ g_tbl) (hI : Cond.static yX10_highestBit ∈ g_tbl) (hE : Ev E (yX10_highestBit, yc, yL, yr) f1 l1 c1 s1 As wc Qc) (hn : As.length = 1) (isC isR : List Nat) (h1 : isC.map (fun i => ws[i]?) = wc.map some) (h2 : isR.map (fun i => ws[i]?) = wr.map some) (h3 : va_nd isC = true) (h4 : va_nd isR = true) (h5 : ∀ i ∈ isR, i ∉ isC) (hroom : f1 + 1 ≤ fr ∧ 8 + (yL + 11) + l1 ≤ lo) (hnc : nc + c1 = nc') (hns : ns + s1 = ns') (hcm : nc' ≤ mc) (hsm : ns' ≤ ms) (hstk : stk = As.reverse ++ st) (hst : (st.map fun v => v.category).sum ≤ 8) (hd : decode cc pc = .ok (.invokestatic NEST_R, 3)) (kk : ∀ (v : Option Value) (w : va_W), Qc v w → G E X nL (wr ++ w) nc' ns' lv (pc + 3) (v.toList ++ st)) : G E X nL ws nc ns lv pc stk := by
  obtain ⟨p, e, s, m, args, below, meth, c, R, A, Q⟩ := X
  obtain ⟨hx, hb, hml, hown, hts, hK, hA, hSt, hNe, hlk, hR⟩ := B
  intro H locs ls hP hD hS hl
  subst hnc hns hR hstk
  have hPc := g_subP hP isC h1
  have hDc := hD.sub isC h3 h1
  have hFc := va_free (wc := wc) hD hS hA isC h1
  have hcw := va_cnB (R := { frames := fr, cells := mc, slots := ms, locals := lo }) (rm := { frames := f1, cells := c1, slots := s1, locals := l1 }) (mc := c1) (ms := s1) (bytes := yc) (maxL := yL) (ret := yr) 1 hts (g_good (M := (yX10_highestBit, yc, yL, yr)) cC) rfl rfl rfl hNe.1 (hts _ cI) g_hb hroom
  refine g_back (va_runSN (As := As) (rest := st) (Ts := g_tbl) ⟨hx, hb, hml, hown, hts⟩ (hE H.size) ⟨hcw, hts _ hI, trivial⟩ ⟨g_blind, fun U hU hW => ⟨rfl, by rw [hU], by rw [hU]; exact hPc, va_K.moved hW.alike hK, hDc.weaken (fun _ _ _ _ => trivial), ?_, hNe.warm hW⟩⟩ rfl hn hl.1 rfl (lv_room hst) hd ⟨hcm, hsm⟩) hS (fun q _ h => hFc q h) hFc (fun v w H1 locs1 hqc hP1 hD1 hz1 hk1 hS1 => ?_)
  · rw [hU]
    exact ((hSt.kept (H1 := H) (fun a ha hna => hS.2.1 a ha hna)).narrow hFc).moved hW.alike
  · obtain ⟨hP2, hD2⟩ := va_join hP hD isC isR h1 h2 h4 h5 hk1 hFc hP1 hD1
    exact kk v w hqc H1 locs1 ls hP2 hD2 hS1 hl
theorem g_callSW (B : Bd E X cc "SoundPress$BitWriter" nL fr lo mc ms) {f1 l1 c1 s1 nc' ns' : Nat} {yc : ByteArray} {yL : Nat} {yr : Option FieldType} {As : List Value} {stk : List Value} {wc wr : va_W} {Qc : Option Value → va_W → Prop} (cC : g_cw (yX10_highestBit, yc, yL, yr) ∈ g_tbl) (cI : Cond.initialized RX10 ∈ g_tbl) (hI : Cond.static yX10_highestBit ∈ g_tbl) (hE : Ev E (yX10_highestBit, yc, yL, yr) f1 l1 c1 s1 As wc Qc) (hn : As.length = 1) (isC isR : List Nat) (h1 : isC.map (fun i => ws[i]?) = wc.map some) (h2 : isR.map (fun i => ws[i]?) = wr.map some) (h3 : va_nd isC = true) (h4 : va_nd isR = true) (h5 : ∀ i ∈ isR, i ∉ isC) (hroom : f1 + 1 ≤ fr ∧ 8 + (yL + 11) + l1 ≤ lo) (hnc : nc + c1 = nc') (hns : ns + s1 = ns') (hcm : nc' ≤ mc) (hsm : ns' ≤ ms) (hstk : stk = As.reverse ++ st) (hst : (st.map fun v => v.category).sum ≤ 8) (hd : decode cc pc = .ok (.invokestatic NEST_W, 3)) (kk : ∀ (v : Option Value) (w : va_W), Qc v w → G E X nL (wr ++ w) nc' ns' lv (pc + 3) (v.toList ++ st)) : G E X nL ws nc ns lv pc stk := by
  obtain ⟨p, e, s, m, args, below, meth, c, R, A, Q⟩ := X
  obtain ⟨hx, hb, hml, hown, hts, hK, hA, hSt, hNe, hlk, hR⟩ := B
  intro H locs ls hP hD hS hl
  subst hnc hns hR hstk
  have hPc := g_subP hP isC h1
  have hDc := hD.sub isC h3 h1
  have hFc := va_free (wc := wc) hD hS hA isC h1
  have hcw := va_cnB (R := { frames := fr, cells := mc, slots := ms, locals := lo }) (rm := { frames := f1, cells := c1, slots := s1, locals := l1 }) (mc := c1) (ms := s1) (bytes := yc) (maxL := yL) (ret := yr) 1 hts (g_good (M := (yX10_highestBit, yc, yL, yr)) cC) rfl rfl rfl hNe.2.1 (hts _ cI) g_hb hroom
  refine g_back (va_runSN (As := As) (rest := st) (Ts := g_tbl) ⟨hx, hb, hml, hown, hts⟩ (hE H.size) ⟨hcw, hts _ hI, trivial⟩ ⟨g_blind, fun U hU hW => ⟨rfl, by rw [hU], by rw [hU]; exact hPc, va_K.moved hW.alike hK, hDc.weaken (fun _ _ _ _ => trivial), ?_, hNe.warm hW⟩⟩ rfl hn hl.1 rfl (lv_room hst) hd ⟨hcm, hsm⟩) hS (fun q _ h => hFc q h) hFc (fun v w H1 locs1 hqc hP1 hD1 hz1 hk1 hS1 => ?_)
  · rw [hU]
    exact ((hSt.kept (H1 := H) (fun a ha hna => hS.2.1 a ha hna)).narrow hFc).moved hW.alike
  · obtain ⟨hP2, hD2⟩ := va_join hP hD isC isR h1 h2 h4 h5 hk1 hFc hP1 hD1
    exact kk v w hqc H1 locs1 ls hP2 hD2 hS1 hl
/-- System.arraycopy of bytes -/
theorem g_copyb (B : Bd E X cc own nL fr lo mc ms) {idx a a0 n0 n1 : Nat} {f g : Nat → Int32} {sp dp n : Int32} {ws' : va_W} (w1 : Cond.methodLink own idx arraycopyName ∈ g_tbl) (w2 : Cond.native arraycopyName ∈ g_tbl) (w3 : Cond.static arraycopyName ∈ g_tbl) (w4 : Cond.initialized "java/lang/System" ∈ g_tbl) (q0 q1 : Nat) (ha0 : ws[q0]? = some (a0, .inl (E.2.2.1 1, n0, .inl f))) (ha1 : ws[q1]? = some (a, .inl (E.2.2.1 1, n1, .inl g))) (h1 : ¬ sp < 0) (h2 : ¬ dp < 0) (h3 : ¬ n < 0) (h4 : sp.toNatClampNeg + n.toNatClampNeg ≤ n0) (h5 : dp.toNatClampNeg + n.toNatClampNeg ≤ n1) (hfit : ∀ i, i < n.toNatClampNeg → fits .byte (.int (f (sp.toNatClampNeg + i))) = true) (hf : 1 ≤ fr) (hlo : (st.map fun v => v.category).sum + (nativeFrameWords "java/lang/System" "arraycopy" 5 + 11) ≤ lo) (hw : ws.set q1 (a, .inl (E.2.2.1 1, n1, .inl (va_cpy f g sp.toNatClampNeg dp.toNatClampNeg n.toNatClampNeg))) = ws') (hd : decode cc pc = .ok (.invokestatic idx, 3)) (kk : G E X nL ws' nc ns lv (pc + 3) st) : G E X nL ws nc ns lv pc (.int n :: .int dp :: .ref a :: .int sp :: .ref a0 :: st) := by
  obtain ⟨p, e, s, m, args, below, meth, c, R, A, Q⟩ := X
  obtain ⟨hx, hb, hml, hown, hts, hK, hA, hSt, hNe, hlk, hR⟩ := B
  intro H locs ls hP hD hS hl
  subst hR hw
  exact va_copyi hx hb (hml.trans hl.1.symm) hown (hts _ w1) (hts _ w2) (hts _ w3) (hts _ w4) hK hP hD hS q0 q1 1 1 ha0 ha1 (ty := .byte) rfl rfl rfl h1 h2 h3 h4 h5 hfit hf hlo hd (fun H1 locs1 hP1 hD1 hS1 => kk H1 locs1 ls hP1 hD1 hS1 hl)
/-- the law's script -/
def Sc (X : g_X) (b N : Nat) (xs : Nat → Int32) : Prop := match X with
  | (_, _, s, _, _, _, _, _, _, A, _) => va_X b N xs s s.heap ∧ b < s.heap.size ∧ ¬ A b
theorem g_sld (B : Bd E X cc own nL fr lo mc ms) {b N : Nat} {xs : Nat → Int32} (hX : Sc X b N xs) {i : Int32} (hin : vp_in i N) (hd : decode cc pc = .ok (.iaload, 1)) (kk : G E X nL ws nc ns lv (pc + 1) (.int (xs i.toNatClampNeg) :: st)) : G E X nL ws nc ns lv pc (.int i :: .ref b :: st) := by
  obtain ⟨p, e, s, m, args, below, meth, c, R, A, Q⟩ := X
  obtain ⟨hx, hb, hml, hown, hts, hK, hA, hSt, hNe, hlk, hR⟩ := B
  intro H locs ls hP hD hS hl
  obtain ⟨h1, h2, h3⟩ := hX
  exact va_sld hx hb h1 h2 h3 hS hin hd (kk H locs ls hP hD hS hl)
theorem g_slen (B : Bd E X cc own nL fr lo mc ms) {b N : Nat} {xs : Nat → Int32} (hX : Sc X b N xs) (hd : decode cc pc = .ok (.arraylength, 1)) (kk : G E X nL ws nc ns lv (pc + 1) (.int (Int32.ofNat N) :: st)) : G E X nL ws nc ns lv pc (.ref b :: st) := by
  obtain ⟨p, e, s, m, args, below, meth, c, R, A, Q⟩ := X
  obtain ⟨hx, hb, hml, hown, hts, hK, hA, hSt, hNe, hlk, hR⟩ := B
  intro H locs ls hP hD hS hl
  obtain ⟨h1, h2, h3⟩ := hX
  exact va_slen hx hb h1 h2 h3 hS hd (kk H locs ls hP hD hS hl)
theorem g_aload_nN (B : Bd E X cc own nL fr lo mc ms) {k0 : Fin 4} {i : Nat} (hd : decode cc pc = .ok (.aload_n k0, 1)) (hi : (k0 : Nat) = i) (j : Nat) (hj : lv[j]? = some (i, .null)) (k : G E X nL ws nc ns lv (pc + 1) (.null :: st)) : G E X nL ws nc ns lv pc (st) := by
  obtain ⟨p, e, s, m, args, below, meth, c, R, A, Q⟩ := X
  obtain ⟨hx, hb, hml, hown, hts, hK, hA, hSt, hNe, hlk, hR⟩ := B
  intro H locs ls hP hD hS hl
  exact lv_aload_nN hx hb hd hi (lv_at hl j hj) (k H locs ls hP hD hS hl)
theorem g_astore_nN (B : Bd E X cc own nL fr lo mc ms) {k0 : Fin 4} {i : Nat} {lv' : List (Nat × Value)} (hd : decode cc pc = .ok (.astore_n k0, 1)) (hi : (k0 : Nat) = i) (hn : i < nL) (hl' : (i, Value.null) :: lv.filter (fun q => !(q.1 == i) && !(q.1 + 1 == i && q.2.category == 2)) = lv') (k : G E X nL ws nc ns lv' (pc + 1) st) : G E X nL ws nc ns lv pc (.null :: st) := by
  obtain ⟨p, e, s, m, args, below, meth, c, R, A, Q⟩ := X
  obtain ⟨hx, hb, hml, hown, hts, hK, hA, hSt, hNe, hlk, hR⟩ := B
  intro H locs ls hP hD hS hl
  exact lv_astore_nN hx hb hd hi hl hn hl' (fun ls' hl2 => k H locs ls' hP hD hS hl2)
theorem g_aloadN (B : Bd E X cc own nL fr lo mc ms) {i : Nat} (hd : decode cc pc = .ok (.aload i, 2)) (j : Nat) (hj : lv[j]? = some (i, .null)) (k : G E X nL ws nc ns lv (pc + 2) (.null :: st)) : G E X nL ws nc ns lv pc (st) := by
  obtain ⟨p, e, s, m, args, below, meth, c, R, A, Q⟩ := X
  obtain ⟨hx, hb, hml, hown, hts, hK, hA, hSt, hNe, hlk, hR⟩ := B
  intro H locs ls hP hD hS hl
  exact lv_aloadN hx hb hd (lv_at hl j hj) (k H locs ls hP hD hS hl)
theorem g_astoreN (B : Bd E X cc own nL fr lo mc ms) {i : Nat} {lv' : List (Nat × Value)} (hd : decode cc pc = .ok (.astore i, 2)) (hn : i < nL) (hl' : (i, Value.null) :: lv.filter (fun q => !(q.1 == i) && !(q.1 + 1 == i && q.2.category == 2)) = lv') (k : G E X nL ws nc ns lv' (pc + 2) st) : G E X nL ws nc ns lv pc (.null :: st) := by
  obtain ⟨p, e, s, m, args, below, meth, c, R, A, Q⟩ := X
  obtain ⟨hx, hb, hml, hown, hts, hK, hA, hSt, hNe, hlk, hR⟩ := B
  intro H locs ls hP hD hS hl
  exact lv_astoreN hx hb hd hl hn hl' (fun ls' hl2 => k H locs ls' hP hD hS hl2)
theorem g_ldcw (B : Bd E X cc own nL fr lo mc ms) {index : Nat} {v : Int32} (hw : Cond.constant own index v ∈ g_tbl) (hd : decode cc pc = .ok (.ldc_w index, 3)) (k : G E X nL ws nc ns lv (pc + 3) (.int v :: st)) : G E X nL ws nc ns lv pc st := by
  obtain ⟨p, e, s, m, args, below, meth, c, R, A, Q⟩ := X
  obtain ⟨hx, hb, hml, hown, hts, hK, hA, hSt, hNe, hlk, hR⟩ := B
  intro H locs ls hP hD hS hl
  exact lv_ldcw hx hb hown (hts _ hw) hd (k H locs ls hP hD hS hl)
end LAYER
