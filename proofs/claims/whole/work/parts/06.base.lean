/-! ===== 06.base: the walk over pure data. Wb x w lv pc st: from pc with locals lv, stack st and the cells w the machine comes to the end that x names ===== -/
def TB : List Cond := lw_tbl.filter goodWord
theorem TB_of {w : Cond} (h : w ∈ lw_tbl) (hg : goodWord w = true) : w ∈ TB := List.mem_filter.mpr ⟨h, hg⟩
def NWs : List Cond := [.fieldLinkNest RX3 55 "BreakLearner" "FIRST_SHAPE" "[I" "BreakLearner", .fieldLinkNest RX3 74 "BreakLearner" "SHAPE_GAP" "[I" "BreakLearner", .fieldLinkNest RX3 77 "BreakLearner" "SHAPE_SIGNS" "[I" "BreakLearner", .fieldLinkNest RX5 76 "BreakLearner" "FIRST_SHAPE" "[I" "BreakLearner", .fieldLinkNest RX4 32 "BreakLearner" "ROW_BOUND" "[J" "BreakLearner", .fieldLinkNest RX0 49 "BreakLearner" "FACTORIAL" "[I" "BreakLearner", .methodLinkNest RX7 64 yX10_isLevel "BreakLearner", .methodLinkNest RX4 79 yX10_isLevel "BreakLearner", .methodLinkNest RX4 82 yX10_isRule "BreakLearner"]
def NW (U : State) : Prop := ∀ w ∈ NWs, va_Nw w U
theorem NW.warm {s U : State} (hW : s.WarmedH U.vm) (h : NW s) : NW U := by
  intro w hw
  have h0 := h w hw
  simp only [NWs, List.mem_cons, List.not_mem_nil, or_false] at hw
  rcases hw with rfl | rfl | rfl | rfl | rfl | rfl | rfl | rfl | rfl
  · exact va_Nw.warmF hW h0
  · exact va_Nw.warmF hW h0
  · exact va_Nw.warmF hW h0
  · exact va_Nw.warmF hW h0
  · exact va_Nw.warmF hW h0
  · exact va_Nw.warmF hW h0
  · exact va_Nw.warmM hW h0
  · exact va_Nw.warmM hW h0
  · exact va_Nw.warmM hW h0
theorem NW.same {u U : State} (he : u.vm = U.vm) (h : NW u) : NW U := by
  intro w hw
  have h0 := h w hw
  have ht : w.onTables = true := by
    simp only [NWs, List.mem_cons, List.not_mem_nil, or_false] at hw
    rcases hw with rfl | rfl | rfl | rfl | rfl | rfl | rfl | rfl | rfl <;> rfl
  exact va_Nw.same ht he h0
abbrev Gl : Type := va_G × (ClassId × ClassId × ClassId) × (Nat → Nat)
abbrev TY (g : Gl) : List (ClassId × FieldType) := [(g.2.1.1, .int), (g.2.1.2.1, .boolean), (g.2.1.2.2, .object "BreakLearner$Stock")]
abbrev iA (g : Gl) (n : Nat) (f : Nat → Int32) : va_E := .inl (g.2.1.1, n, .inl f)
abbrev zA (g : Gl) (n : Nat) (f : Nat → Int32) : va_E := .inl (g.2.1.2.1, n, .inl f)
abbrev qA (g : Gl) (n : Nat) (f : Nat → Option Nat) : va_E := .inl (g.2.1.2.2, n, .inr (.inr (.inr (.inr f))))
abbrev oO (k : Nat) (fs : List Value) : va_E := .inr (k, fs)
def kFirst (j : Nat) : Int32 := ([0, 0, 2, 5, 9] : List Int32).getD j 0
def kSigns (j : Nat) : Int32 := ([1, 1, 2, 2, 2, 3, 3, 3, 3] : List Int32).getD j 0
def kGap (j : Nat) : Int32 := ([0, 1, 0, 1, 2, 0, 1, 2, 3] : List Int32).getD j 0
def kFact (j : Nat) : Int32 := ([1, 1, 2, 6, 24, 120, 720] : List Int32).getD j 0
def kRow (j : Nat) : Int64 := ([1, 100000, 10000000000, 1000000000000000] : List Int64).getD j 0
/-- the static rows, out of reach of A -/
def SG (b : Nat → Nat) (A : Nat → Prop) (U : State) (H : Heap) : Prop :=
  (va_Z "BreakLearner" "FIRST_SHAPE" "[I" (.ref (b 0)) A U H ∧ va_T .int (b 0) 5 (fun j => .int (kFirst j)) A U H) ∧
  (va_Z "BreakLearner" "SHAPE_SIGNS" "[I" (.ref (b 1)) A U H ∧ va_T .int (b 1) 9 (fun j => .int (kSigns j)) A U H) ∧
  (va_Z "BreakLearner" "SHAPE_GAP" "[I" (.ref (b 2)) A U H ∧ va_T .int (b 2) 9 (fun j => .int (kGap j)) A U H) ∧
  (va_Z "BreakLearner" "FACTORIAL" "[I" (.ref (b 3)) A U H ∧ va_T .int (b 3) 7 (fun j => .int (kFact j)) A U H) ∧
  (va_Z "BreakLearner" "ROW_BOUND" "[J" (.ref (b 4)) A U H ∧ va_T .long (b 4) 4 (fun j => .long (kRow j)) A U H)
theorem SG.moved {b : Nat → Nat} {A : Nat → Prop} {u U : State} {H : Heap} (hvm : u.vm.Alike U.vm) (h : SG b A u H) : SG b A U H := by
  obtain ⟨⟨a1, b1⟩, ⟨a2, b2⟩, ⟨a3, b3⟩, ⟨a4, b4⟩, a5, b5⟩ := h
  exact ⟨⟨a1.moved hvm, b1.moved hvm⟩, ⟨a2.moved hvm, b2.moved hvm⟩, ⟨a3.moved hvm, b3.moved hvm⟩, ⟨a4.moved hvm, b4.moved hvm⟩, a5.moved hvm, b5.moved hvm⟩
theorem SG.kept {b : Nat → Nat} {A : Nat → Prop} {U : State} {H H1 : Heap} (h : SG b A U H) (hq : ∀ a : Nat, a < H.size → ¬ A a → H1[a]? = H[a]?) : SG b A U H1 := by
  obtain ⟨⟨a1, b1⟩, ⟨a2, b2⟩, ⟨a3, b3⟩, ⟨a4, b4⟩, a5, b5⟩ := h
  exact ⟨⟨a1.kept hq, b1.kept hq⟩, ⟨a2.kept hq, b2.kept hq⟩, ⟨a3.kept hq, b3.kept hq⟩, ⟨a4.kept hq, b4.kept hq⟩, a5.kept hq, b5.kept hq⟩
theorem SG.narrow {b : Nat → Nat} {A B : Nat → Prop} {U : State} {H : Heap} (h : SG b A U H) (hAB : ∀ q, B q → A q) : SG b B U H := by
  obtain ⟨⟨a1, b1⟩, ⟨a2, b2⟩, ⟨a3, b3⟩, ⟨a4, b4⟩, a5, b5⟩ := h
  exact ⟨⟨a1.narrow hAB, b1.narrow hAB⟩, ⟨a2.narrow hAB, b2.narrow hAB⟩, ⟨a3.narrow hAB, b3.narrow hAB⟩, ⟨a4.narrow hAB, b4.narrow hAB⟩, a5.narrow hAB, b5.narrow hAB⟩
abbrev Ctx : Type := Program × Launch × Env × Room × State × MethodId × Array Value × List Frame × Method × Code × (Nat → Prop) × (State → Prop) × Gl × Nat
def Wb : Ctx → va_W → List (Nat × Value) → Nat → List Value → Prop
  | (p, l, e, R, s, m, args, below, meth, c, A, Q, g, nL), w, lv, pc, st => ∀ (H : Heap) (locs : List Loc) (ls : Array Slot), va_P g.1 vwCl w H → va_D A w → va_S A s.heap H locs → lv_has ls nL lv → W p l e R s m args below meth c H locs 0 0 Q (F0 m pc ls st)
def Qd (g : Gl) (rv : Option Value) (w1 : va_W) (A : Nat → Prop) : Array Value → State → Outcome → State → Prop := fun _ st oc t => oc = .returned rv ∧ va_P g.1 vwCl w1 t.heap ∧ va_F A st t
def Cx : Ctx → Launch → Gl → ByteArray → String → Nat → Room → Option FieldType → Option Value → va_W → Prop
  | (p, l, _, R, s, m, args, below, meth, c, A, Q, g, nL), l', g', cc, own, nL', R', ret, rv, w1 => p.tables.exec = Jvm.exec ∧ c.code = cc ∧ c.maxLocals = nL ∧ s.vm.findClass own = some m.cls ∧ (∀ w ∈ TB, w.before args s = true) ∧ va_K g.1 vwCl (TY g) s ∧ (∀ q : Nat, s.heap.size ≤ q → A q) ∧ (SG g.2.2 A s s.heap ∧ NW s) ∧ (meth.sig.returnType = ret ∧ meth.locks = false ∧ Q = MQ below (Qd g rv w1 A) args s 0 0 A) ∧ l = l' ∧ g = g' ∧ nL = nL' ∧ R = R'
/-- a method's contract: from the cells w0 it answers rv, and leaves the cells w1 -/
def Pd (g : Gl) (av : List Value) (w0 : va_W) (sz : Nat) : Array Value → State → Prop := va_Pc av (fun U => U.heap.size = sz ∧ va_P g.1 vwCl w0 U.heap ∧ va_K g.1 vwCl (TY g) U ∧ va_D (fun _ => True) w0 ∧ SG g.2.2 (va_A w0 sz) U U.heap ∧ NW U)
def Ct (l : Launch) (g : Gl) (y : MethodName) (cc : ByteArray) (nL : Nat) (ret : Option FieldType) (rm : Room) (av : List Value) (w0 : va_W) (rv : Option Value) (w1 : va_W) : Prop :=
  ∀ sz : Nat, Met l y (.code y cc nL ret :: TB) rm (Pd g av w0 sz) (Qd g rv w1 (va_A w0 sz)) 0 0 (va_A w0 sz)
theorem ent {l : Launch} {g : Gl} {y : MethodName} {cc : ByteArray} {nL : Nat} {ret : Option FieldType} {rm : Room} {av : List Value} {w0 : va_W} {rv : Option Value} {w1 : va_W} {own : String} {lv : List (Nat × Value)}
    (hy : plainName y.cls = true) (ho : y.cls = own) (hn : (lg_sl av).length ≤ nL) (hlv : lv_args 0 av = lv) (hrc : rm.cells = 0)
    (body : ∀ x : Ctx, Cx x l g cc own nL rm ret rv w1 → Wb x w0 lv 0 []) : Ct l g y cc nL ret rm av w0 rv w1 := by
  intro sz
  refine Met.ofW (cc := cc) (maxL := nL) (ret := ret) hy rfl ?_
  intro p e s m args below meth c s₁ B hml hv
  obtain ⟨rfl, hsz, hP, hK, hD0, hG, hNW⟩ := hv
  have hts := atoms_spec (ws := .code y cc nL ret :: TB) B.pre
  have hown : s.vm.findClass own = some m.cls := by rw [← ho]; exact findClass_of_methodNamed B.named
  subst hsz
  subst hlv
  have hl := lv_entry av (n := nL) hn
  rw [lg_entry_eq]
  refine body (p, l, e, rm, s, m, av.toArray, below, meth, c, va_A w0 s.heap.size, MQ below (Qd g rv w1 (va_A w0 s.heap.size)) av.toArray s 0 0 (va_A w0 s.heap.size), g, nL)
    ⟨B.exec, B.bytes, hml, hown, fun w h => hts w (List.mem_cons_of_mem _ h), hK, fun q h => Or.inr h, ⟨hG, hNW⟩, ⟨B.returns, B.notSynchronized, rfl⟩, rfl, rfl, rfl, rfl⟩
    s.heap [] _ hP hD0.self va_S.rf hl

theorem Wb.to {x : Ctx} {w w' : va_W} {lv : List (Nat × Value)} {pc : Nat} {st : List Value} (h : w = w') (k : Wb x w' lv pc st) : Wb x w lv pc st := h ▸ k
theorem Wb.lv {x : Ctx} {w : va_W} {lv lv' : List (Nat × Value)} {pc : Nat} {st : List Value} (k : Wb x w lv' pc st) (ks : List Nat) (h : lv_pick lv ks = lv') : Wb x w lv pc st := by
  obtain ⟨p, l1, e, R1, s, m, args, below, meth, c, A, Q, g1, n1⟩ := x
  intro H locs ls hP hD hS hl
  exact k H locs ls hP hD hS (lv_sub hl ks h)
theorem b_iconst {x : Ctx} {l : Launch} {g : Gl} {cc : ByteArray} {own : String} {nL : Nat} {R : Room} {ret : Option FieldType} {rv : Option Value} {w1 : va_W} (C : Cx x l g cc own nL R ret rv w1) {w : va_W} {lv : List (Nat × Value)} {pc : Nat} {st : List Value} {n : Int} {v : Int32} (hd : decode cc pc = .ok (.iconst n, 1)) (hv : Int32.ofInt n = v) (k : Wb x w lv (pc + 1) (.int v :: st)) : Wb x w lv pc st := by
  obtain ⟨p, l1, e, R1, s, m, args, below, meth, c, A, Q, g1, n1⟩ := x
  obtain ⟨hx, hb, hml, ho, hts, hK, hA, ⟨hG, hNW⟩, ⟨hr, hlk, hQ⟩, rfl, rfl, rfl, rfl⟩ := C
  intro H locs ls hP hD hS hl
  exact lv_iconst hx hb hd hv (k H locs ls hP hD hS hl)
theorem b_bipush {x : Ctx} {l : Launch} {g : Gl} {cc : ByteArray} {own : String} {nL : Nat} {R : Room} {ret : Option FieldType} {rv : Option Value} {w1 : va_W} (C : Cx x l g cc own nL R ret rv w1) {w : va_W} {lv : List (Nat × Value)} {pc : Nat} {st : List Value} {n : Int} {v : Int32} (hd : decode cc pc = .ok (.bipush n, 2)) (hv : (Int8.ofInt n).toInt32 = v) (k : Wb x w lv (pc + 2) (.int v :: st)) : Wb x w lv pc st := by
  obtain ⟨p, l1, e, R1, s, m, args, below, meth, c, A, Q, g1, n1⟩ := x
  obtain ⟨hx, hb, hml, ho, hts, hK, hA, ⟨hG, hNW⟩, ⟨hr, hlk, hQ⟩, rfl, rfl, rfl, rfl⟩ := C
  intro H locs ls hP hD hS hl
  exact lv_bipush hx hb hd hv (k H locs ls hP hD hS hl)
theorem b_sipush {x : Ctx} {l : Launch} {g : Gl} {cc : ByteArray} {own : String} {nL : Nat} {R : Room} {ret : Option FieldType} {rv : Option Value} {w1 : va_W} (C : Cx x l g cc own nL R ret rv w1) {w : va_W} {lv : List (Nat × Value)} {pc : Nat} {st : List Value} {n : Int} {v : Int32} (hd : decode cc pc = .ok (.sipush n, 3)) (hv : (Int16.ofInt n).toInt32 = v) (k : Wb x w lv (pc + 3) (.int v :: st)) : Wb x w lv pc st := by
  obtain ⟨p, l1, e, R1, s, m, args, below, meth, c, A, Q, g1, n1⟩ := x
  obtain ⟨hx, hb, hml, ho, hts, hK, hA, ⟨hG, hNW⟩, ⟨hr, hlk, hQ⟩, rfl, rfl, rfl, rfl⟩ := C
  intro H locs ls hP hD hS hl
  exact lv_sipush hx hb hd hv (k H locs ls hP hD hS hl)
theorem b_lconst {x : Ctx} {l : Launch} {g : Gl} {cc : ByteArray} {own : String} {nL : Nat} {R : Room} {ret : Option FieldType} {rv : Option Value} {w1 : va_W} (C : Cx x l g cc own nL R ret rv w1) {w : va_W} {lv : List (Nat × Value)} {pc : Nat} {st : List Value} {n : Fin 2} {v : Int64} (hd : decode cc pc = .ok (.lconst n, 1)) (hv : Int64.ofNat (n : Nat) = v) (k : Wb x w lv (pc + 1) (.long v :: st)) : Wb x w lv pc st := by
  obtain ⟨p, l1, e, R1, s, m, args, below, meth, c, A, Q, g1, n1⟩ := x
  obtain ⟨hx, hb, hml, ho, hts, hK, hA, ⟨hG, hNW⟩, ⟨hr, hlk, hQ⟩, rfl, rfl, rfl, rfl⟩ := C
  intro H locs ls hP hD hS hl
  exact lv_lconst hx hb hd hv (k H locs ls hP hD hS hl)
theorem b_iload_n {x : Ctx} {l : Launch} {g : Gl} {cc : ByteArray} {own : String} {nL : Nat} {R : Room} {ret : Option FieldType} {rv : Option Value} {w1 : va_W} (C : Cx x l g cc own nL R ret rv w1) {w : va_W} {lv : List (Nat × Value)} {pc : Nat} {st : List Value} {j : Fin 4} {i : Nat} {v : Int32} (hd : decode cc pc = .ok (.iload_n j, 1)) (hi : (j : Nat) = i) (t : Nat) (ht : lv[t]? = some (i, .int v)) (k : Wb x w lv (pc + 1) (.int v :: st)) : Wb x w lv pc st := by
  obtain ⟨p, l1, e, R1, s, m, args, below, meth, c, A, Q, g1, n1⟩ := x
  obtain ⟨hx, hb, hml, ho, hts, hK, hA, ⟨hG, hNW⟩, ⟨hr, hlk, hQ⟩, rfl, rfl, rfl, rfl⟩ := C
  intro H locs ls hP hD hS hl
  exact lv_iload_n hx hb hd hi (lv_at hl t ht) (k H locs ls hP hD hS hl)
theorem b_iload {x : Ctx} {l : Launch} {g : Gl} {cc : ByteArray} {own : String} {nL : Nat} {R : Room} {ret : Option FieldType} {rv : Option Value} {w1 : va_W} (C : Cx x l g cc own nL R ret rv w1) {w : va_W} {lv : List (Nat × Value)} {pc : Nat} {st : List Value} {i : Nat} {v : Int32} (hd : decode cc pc = .ok (.iload i, 2)) (t : Nat) (ht : lv[t]? = some (i, .int v)) (k : Wb x w lv (pc + 2) (.int v :: st)) : Wb x w lv pc st := by
  obtain ⟨p, l1, e, R1, s, m, args, below, meth, c, A, Q, g1, n1⟩ := x
  obtain ⟨hx, hb, hml, ho, hts, hK, hA, ⟨hG, hNW⟩, ⟨hr, hlk, hQ⟩, rfl, rfl, rfl, rfl⟩ := C
  intro H locs ls hP hD hS hl
  exact lv_iload hx hb hd (lv_at hl t ht) (k H locs ls hP hD hS hl)
theorem b_lload_n {x : Ctx} {l : Launch} {g : Gl} {cc : ByteArray} {own : String} {nL : Nat} {R : Room} {ret : Option FieldType} {rv : Option Value} {w1 : va_W} (C : Cx x l g cc own nL R ret rv w1) {w : va_W} {lv : List (Nat × Value)} {pc : Nat} {st : List Value} {j : Fin 4} {i : Nat} {v : Int64} (hd : decode cc pc = .ok (.lload_n j, 1)) (hi : (j : Nat) = i) (t : Nat) (ht : lv[t]? = some (i, .long v)) (k : Wb x w lv (pc + 1) (.long v :: st)) : Wb x w lv pc st := by
  obtain ⟨p, l1, e, R1, s, m, args, below, meth, c, A, Q, g1, n1⟩ := x
  obtain ⟨hx, hb, hml, ho, hts, hK, hA, ⟨hG, hNW⟩, ⟨hr, hlk, hQ⟩, rfl, rfl, rfl, rfl⟩ := C
  intro H locs ls hP hD hS hl
  exact lv_lload_n hx hb hd hi (lv_at hl t ht) (k H locs ls hP hD hS hl)
theorem b_lload {x : Ctx} {l : Launch} {g : Gl} {cc : ByteArray} {own : String} {nL : Nat} {R : Room} {ret : Option FieldType} {rv : Option Value} {w1 : va_W} (C : Cx x l g cc own nL R ret rv w1) {w : va_W} {lv : List (Nat × Value)} {pc : Nat} {st : List Value} {i : Nat} {v : Int64} (hd : decode cc pc = .ok (.lload i, 2)) (t : Nat) (ht : lv[t]? = some (i, .long v)) (k : Wb x w lv (pc + 2) (.long v :: st)) : Wb x w lv pc st := by
  obtain ⟨p, l1, e, R1, s, m, args, below, meth, c, A, Q, g1, n1⟩ := x
  obtain ⟨hx, hb, hml, ho, hts, hK, hA, ⟨hG, hNW⟩, ⟨hr, hlk, hQ⟩, rfl, rfl, rfl, rfl⟩ := C
  intro H locs ls hP hD hS hl
  exact lv_lload hx hb hd (lv_at hl t ht) (k H locs ls hP hD hS hl)
theorem b_aload_n {x : Ctx} {l : Launch} {g : Gl} {cc : ByteArray} {own : String} {nL : Nat} {R : Room} {ret : Option FieldType} {rv : Option Value} {w1 : va_W} (C : Cx x l g cc own nL R ret rv w1) {w : va_W} {lv : List (Nat × Value)} {pc : Nat} {st : List Value} {j : Fin 4} {i : Nat} {v : Nat} (hd : decode cc pc = .ok (.aload_n j, 1)) (hi : (j : Nat) = i) (t : Nat) (ht : lv[t]? = some (i, .ref v)) (k : Wb x w lv (pc + 1) (.ref v :: st)) : Wb x w lv pc st := by
  obtain ⟨p, l1, e, R1, s, m, args, below, meth, c, A, Q, g1, n1⟩ := x
  obtain ⟨hx, hb, hml, ho, hts, hK, hA, ⟨hG, hNW⟩, ⟨hr, hlk, hQ⟩, rfl, rfl, rfl, rfl⟩ := C
  intro H locs ls hP hD hS hl
  exact lv_aload_n hx hb hd hi (lv_at hl t ht) (k H locs ls hP hD hS hl)
theorem b_aload {x : Ctx} {l : Launch} {g : Gl} {cc : ByteArray} {own : String} {nL : Nat} {R : Room} {ret : Option FieldType} {rv : Option Value} {w1 : va_W} (C : Cx x l g cc own nL R ret rv w1) {w : va_W} {lv : List (Nat × Value)} {pc : Nat} {st : List Value} {i : Nat} {v : Nat} (hd : decode cc pc = .ok (.aload i, 2)) (t : Nat) (ht : lv[t]? = some (i, .ref v)) (k : Wb x w lv (pc + 2) (.ref v :: st)) : Wb x w lv pc st := by
  obtain ⟨p, l1, e, R1, s, m, args, below, meth, c, A, Q, g1, n1⟩ := x
  obtain ⟨hx, hb, hml, ho, hts, hK, hA, ⟨hG, hNW⟩, ⟨hr, hlk, hQ⟩, rfl, rfl, rfl, rfl⟩ := C
  intro H locs ls hP hD hS hl
  exact lv_aload hx hb hd (lv_at hl t ht) (k H locs ls hP hD hS hl)
theorem b_istore_n {x : Ctx} {l : Launch} {g : Gl} {cc : ByteArray} {own : String} {nL : Nat} {R : Room} {ret : Option FieldType} {rv : Option Value} {w1 : va_W} (C : Cx x l g cc own nL R ret rv w1) {w : va_W} {lv : List (Nat × Value)} {pc : Nat} {st : List Value} {j : Fin 4} {i : Nat} {v : Int32} {lv' : List (Nat × Value)} (hd : decode cc pc = .ok (.istore_n j, 1)) (hi : (j : Nat) = i) (hn : i < nL) (hl2 : (i, Value.int v) :: lv.filter (fun q => !(q.1 == i) && !(q.1 + 1 == i && q.2.category == 2)) = lv') (k : Wb x w lv' (pc + 1) st) : Wb x w lv pc (.int v :: st) := by
  obtain ⟨p, l1, e, R1, s, m, args, below, meth, c, A, Q, g1, n1⟩ := x
  obtain ⟨hx, hb, hml, ho, hts, hK, hA, ⟨hG, hNW⟩, ⟨hr, hlk, hQ⟩, rfl, rfl, rfl, rfl⟩ := C
  intro H locs ls hP hD hS hl
  exact lv_istore_n hx hb hd hi hl hn hl2 (fun ls hl => k H locs ls hP hD hS hl)
theorem b_istore {x : Ctx} {l : Launch} {g : Gl} {cc : ByteArray} {own : String} {nL : Nat} {R : Room} {ret : Option FieldType} {rv : Option Value} {w1 : va_W} (C : Cx x l g cc own nL R ret rv w1) {w : va_W} {lv : List (Nat × Value)} {pc : Nat} {st : List Value} {i : Nat} {v : Int32} {lv' : List (Nat × Value)} (hd : decode cc pc = .ok (.istore i, 2)) (hn : i < nL) (hl2 : (i, Value.int v) :: lv.filter (fun q => !(q.1 == i) && !(q.1 + 1 == i && q.2.category == 2)) = lv') (k : Wb x w lv' (pc + 2) st) : Wb x w lv pc (.int v :: st) := by
  obtain ⟨p, l1, e, R1, s, m, args, below, meth, c, A, Q, g1, n1⟩ := x
  obtain ⟨hx, hb, hml, ho, hts, hK, hA, ⟨hG, hNW⟩, ⟨hr, hlk, hQ⟩, rfl, rfl, rfl, rfl⟩ := C
  intro H locs ls hP hD hS hl
  exact lv_istore hx hb hd hl hn hl2 (fun ls hl => k H locs ls hP hD hS hl)
theorem b_lstore_n {x : Ctx} {l : Launch} {g : Gl} {cc : ByteArray} {own : String} {nL : Nat} {R : Room} {ret : Option FieldType} {rv : Option Value} {w1 : va_W} (C : Cx x l g cc own nL R ret rv w1) {w : va_W} {lv : List (Nat × Value)} {pc : Nat} {st : List Value} {j : Fin 4} {i : Nat} {v : Int64} {lv' : List (Nat × Value)} (hd : decode cc pc = .ok (.lstore_n j, 1)) (hi : (j : Nat) = i) (hn : i + 1 < nL) (hl2 : (i, Value.long v) :: lv.filter (fun q => !(q.1 == i) && (!(q.1 == i + 1) && !(q.1 + 1 == i && q.2.category == 2))) = lv') (k : Wb x w lv' (pc + 1) st) : Wb x w lv pc (.long v :: st) := by
  obtain ⟨p, l1, e, R1, s, m, args, below, meth, c, A, Q, g1, n1⟩ := x
  obtain ⟨hx, hb, hml, ho, hts, hK, hA, ⟨hG, hNW⟩, ⟨hr, hlk, hQ⟩, rfl, rfl, rfl, rfl⟩ := C
  intro H locs ls hP hD hS hl
  exact lv_lstore_n hx hb hd hi hl hn hl2 (fun ls hl => k H locs ls hP hD hS hl)
theorem b_lstore {x : Ctx} {l : Launch} {g : Gl} {cc : ByteArray} {own : String} {nL : Nat} {R : Room} {ret : Option FieldType} {rv : Option Value} {w1 : va_W} (C : Cx x l g cc own nL R ret rv w1) {w : va_W} {lv : List (Nat × Value)} {pc : Nat} {st : List Value} {i : Nat} {v : Int64} {lv' : List (Nat × Value)} (hd : decode cc pc = .ok (.lstore i, 2)) (hn : i + 1 < nL) (hl2 : (i, Value.long v) :: lv.filter (fun q => !(q.1 == i) && (!(q.1 == i + 1) && !(q.1 + 1 == i && q.2.category == 2))) = lv') (k : Wb x w lv' (pc + 2) st) : Wb x w lv pc (.long v :: st) := by
  obtain ⟨p, l1, e, R1, s, m, args, below, meth, c, A, Q, g1, n1⟩ := x
  obtain ⟨hx, hb, hml, ho, hts, hK, hA, ⟨hG, hNW⟩, ⟨hr, hlk, hQ⟩, rfl, rfl, rfl, rfl⟩ := C
  intro H locs ls hP hD hS hl
  exact lv_lstore hx hb hd hl hn hl2 (fun ls hl => k H locs ls hP hD hS hl)
theorem b_astore_n {x : Ctx} {l : Launch} {g : Gl} {cc : ByteArray} {own : String} {nL : Nat} {R : Room} {ret : Option FieldType} {rv : Option Value} {w1 : va_W} (C : Cx x l g cc own nL R ret rv w1) {w : va_W} {lv : List (Nat × Value)} {pc : Nat} {st : List Value} {j : Fin 4} {i : Nat} {v : Nat} {lv' : List (Nat × Value)} (hd : decode cc pc = .ok (.astore_n j, 1)) (hi : (j : Nat) = i) (hn : i < nL) (hl2 : (i, Value.ref v) :: lv.filter (fun q => !(q.1 == i) && !(q.1 + 1 == i && q.2.category == 2)) = lv') (k : Wb x w lv' (pc + 1) st) : Wb x w lv pc (.ref v :: st) := by
  obtain ⟨p, l1, e, R1, s, m, args, below, meth, c, A, Q, g1, n1⟩ := x
  obtain ⟨hx, hb, hml, ho, hts, hK, hA, ⟨hG, hNW⟩, ⟨hr, hlk, hQ⟩, rfl, rfl, rfl, rfl⟩ := C
  intro H locs ls hP hD hS hl
  exact lv_astore_n hx hb hd hi hl hn hl2 (fun ls hl => k H locs ls hP hD hS hl)
theorem b_astore {x : Ctx} {l : Launch} {g : Gl} {cc : ByteArray} {own : String} {nL : Nat} {R : Room} {ret : Option FieldType} {rv : Option Value} {w1 : va_W} (C : Cx x l g cc own nL R ret rv w1) {w : va_W} {lv : List (Nat × Value)} {pc : Nat} {st : List Value} {i : Nat} {v : Nat} {lv' : List (Nat × Value)} (hd : decode cc pc = .ok (.astore i, 2)) (hn : i < nL) (hl2 : (i, Value.ref v) :: lv.filter (fun q => !(q.1 == i) && !(q.1 + 1 == i && q.2.category == 2)) = lv') (k : Wb x w lv' (pc + 2) st) : Wb x w lv pc (.ref v :: st) := by
  obtain ⟨p, l1, e, R1, s, m, args, below, meth, c, A, Q, g1, n1⟩ := x
  obtain ⟨hx, hb, hml, ho, hts, hK, hA, ⟨hG, hNW⟩, ⟨hr, hlk, hQ⟩, rfl, rfl, rfl, rfl⟩ := C
  intro H locs ls hP hD hS hl
  exact lv_astore hx hb hd hl hn hl2 (fun ls hl => k H locs ls hP hD hS hl)
theorem b_iinc {x : Ctx} {l : Launch} {g : Gl} {cc : ByteArray} {own : String} {nL : Nat} {R : Room} {ret : Option FieldType} {rv : Option Value} {w1 : va_W} (C : Cx x l g cc own nL R ret rv w1) {w : va_W} {lv : List (Nat × Value)} {pc : Nat} {st : List Value} {i : Nat} {n : Int} {v v2 : Int32} {lv' : List (Nat × Value)} (hd : decode cc pc = .ok (.iinc i n, 3)) (t : Nat) (ht : lv[t]? = some (i, .int v)) (hv : v + Int32.ofInt n = v2) (hn : i < nL) (hl2 : (i, Value.int v2) :: lv.filter (fun q => !(q.1 == i) && !(q.1 + 1 == i && q.2.category == 2)) = lv') (k : Wb x w lv' (pc + 3) st) : Wb x w lv pc st := by
  obtain ⟨p, l1, e, R1, s, m, args, below, meth, c, A, Q, g1, n1⟩ := x
  obtain ⟨hx, hb, hml, ho, hts, hK, hA, ⟨hG, hNW⟩, ⟨hr, hlk, hQ⟩, rfl, rfl, rfl, rfl⟩ := C
  intro H locs ls hP hD hS hl
  exact lv_iinc hx hb hd hl ht hv hn hl2 (fun ls hl => k H locs ls hP hD hS hl)
theorem b_iadd {x : Ctx} {l : Launch} {g : Gl} {cc : ByteArray} {own : String} {nL : Nat} {R : Room} {ret : Option FieldType} {rv : Option Value} {w1 : va_W} (C : Cx x l g cc own nL R ret rv w1) {w : va_W} {lv : List (Nat × Value)} {pc : Nat} {st : List Value} {v y : Int32} (hd : decode cc pc = .ok (.iadd, 1)) (k : Wb x w lv (pc + 1) (.int (v + y) :: st)) : Wb x w lv pc (.int y :: .int v :: st) := by
  obtain ⟨p, l1, e, R1, s, m, args, below, meth, c, A, Q, g1, n1⟩ := x
  obtain ⟨hx, hb, hml, ho, hts, hK, hA, ⟨hG, hNW⟩, ⟨hr, hlk, hQ⟩, rfl, rfl, rfl, rfl⟩ := C
  intro H locs ls hP hD hS hl
  exact lv_iadd hx hb hd (k H locs ls hP hD hS hl)
theorem b_isub {x : Ctx} {l : Launch} {g : Gl} {cc : ByteArray} {own : String} {nL : Nat} {R : Room} {ret : Option FieldType} {rv : Option Value} {w1 : va_W} (C : Cx x l g cc own nL R ret rv w1) {w : va_W} {lv : List (Nat × Value)} {pc : Nat} {st : List Value} {v y : Int32} (hd : decode cc pc = .ok (.isub, 1)) (k : Wb x w lv (pc + 1) (.int (v - y) :: st)) : Wb x w lv pc (.int y :: .int v :: st) := by
  obtain ⟨p, l1, e, R1, s, m, args, below, meth, c, A, Q, g1, n1⟩ := x
  obtain ⟨hx, hb, hml, ho, hts, hK, hA, ⟨hG, hNW⟩, ⟨hr, hlk, hQ⟩, rfl, rfl, rfl, rfl⟩ := C
  intro H locs ls hP hD hS hl
  exact lv_isub hx hb hd (k H locs ls hP hD hS hl)
theorem b_imul {x : Ctx} {l : Launch} {g : Gl} {cc : ByteArray} {own : String} {nL : Nat} {R : Room} {ret : Option FieldType} {rv : Option Value} {w1 : va_W} (C : Cx x l g cc own nL R ret rv w1) {w : va_W} {lv : List (Nat × Value)} {pc : Nat} {st : List Value} {v y : Int32} (hd : decode cc pc = .ok (.imul, 1)) (k : Wb x w lv (pc + 1) (.int (v * y) :: st)) : Wb x w lv pc (.int y :: .int v :: st) := by
  obtain ⟨p, l1, e, R1, s, m, args, below, meth, c, A, Q, g1, n1⟩ := x
  obtain ⟨hx, hb, hml, ho, hts, hK, hA, ⟨hG, hNW⟩, ⟨hr, hlk, hQ⟩, rfl, rfl, rfl, rfl⟩ := C
  intro H locs ls hP hD hS hl
  exact lv_imul hx hb hd (k H locs ls hP hD hS hl)
theorem b_iand {x : Ctx} {l : Launch} {g : Gl} {cc : ByteArray} {own : String} {nL : Nat} {R : Room} {ret : Option FieldType} {rv : Option Value} {w1 : va_W} (C : Cx x l g cc own nL R ret rv w1) {w : va_W} {lv : List (Nat × Value)} {pc : Nat} {st : List Value} {v y : Int32} (hd : decode cc pc = .ok (.iand, 1)) (k : Wb x w lv (pc + 1) (.int (v &&& y) :: st)) : Wb x w lv pc (.int y :: .int v :: st) := by
  obtain ⟨p, l1, e, R1, s, m, args, below, meth, c, A, Q, g1, n1⟩ := x
  obtain ⟨hx, hb, hml, ho, hts, hK, hA, ⟨hG, hNW⟩, ⟨hr, hlk, hQ⟩, rfl, rfl, rfl, rfl⟩ := C
  intro H locs ls hP hD hS hl
  exact lv_iand hx hb hd (k H locs ls hP hD hS hl)
theorem b_ior {x : Ctx} {l : Launch} {g : Gl} {cc : ByteArray} {own : String} {nL : Nat} {R : Room} {ret : Option FieldType} {rv : Option Value} {w1 : va_W} (C : Cx x l g cc own nL R ret rv w1) {w : va_W} {lv : List (Nat × Value)} {pc : Nat} {st : List Value} {v y : Int32} (hd : decode cc pc = .ok (.ior, 1)) (k : Wb x w lv (pc + 1) (.int (v ||| y) :: st)) : Wb x w lv pc (.int y :: .int v :: st) := by
  obtain ⟨p, l1, e, R1, s, m, args, below, meth, c, A, Q, g1, n1⟩ := x
  obtain ⟨hx, hb, hml, ho, hts, hK, hA, ⟨hG, hNW⟩, ⟨hr, hlk, hQ⟩, rfl, rfl, rfl, rfl⟩ := C
  intro H locs ls hP hD hS hl
  exact lv_ior hx hb hd (k H locs ls hP hD hS hl)
theorem b_ixor {x : Ctx} {l : Launch} {g : Gl} {cc : ByteArray} {own : String} {nL : Nat} {R : Room} {ret : Option FieldType} {rv : Option Value} {w1 : va_W} (C : Cx x l g cc own nL R ret rv w1) {w : va_W} {lv : List (Nat × Value)} {pc : Nat} {st : List Value} {v y : Int32} (hd : decode cc pc = .ok (.ixor, 1)) (k : Wb x w lv (pc + 1) (.int (v ^^^ y) :: st)) : Wb x w lv pc (.int y :: .int v :: st) := by
  obtain ⟨p, l1, e, R1, s, m, args, below, meth, c, A, Q, g1, n1⟩ := x
  obtain ⟨hx, hb, hml, ho, hts, hK, hA, ⟨hG, hNW⟩, ⟨hr, hlk, hQ⟩, rfl, rfl, rfl, rfl⟩ := C
  intro H locs ls hP hD hS hl
  exact lv_ixor hx hb hd (k H locs ls hP hD hS hl)
theorem b_ishl {x : Ctx} {l : Launch} {g : Gl} {cc : ByteArray} {own : String} {nL : Nat} {R : Room} {ret : Option FieldType} {rv : Option Value} {w1 : va_W} (C : Cx x l g cc own nL R ret rv w1) {w : va_W} {lv : List (Nat × Value)} {pc : Nat} {st : List Value} {v y : Int32} (hd : decode cc pc = .ok (.ishl, 1)) (k : Wb x w lv (pc + 1) (.int (v <<< (y &&& 31)) :: st)) : Wb x w lv pc (.int y :: .int v :: st) := by
  obtain ⟨p, l1, e, R1, s, m, args, below, meth, c, A, Q, g1, n1⟩ := x
  obtain ⟨hx, hb, hml, ho, hts, hK, hA, ⟨hG, hNW⟩, ⟨hr, hlk, hQ⟩, rfl, rfl, rfl, rfl⟩ := C
  intro H locs ls hP hD hS hl
  exact lv_ishl hx hb hd (k H locs ls hP hD hS hl)
theorem b_ishr {x : Ctx} {l : Launch} {g : Gl} {cc : ByteArray} {own : String} {nL : Nat} {R : Room} {ret : Option FieldType} {rv : Option Value} {w1 : va_W} (C : Cx x l g cc own nL R ret rv w1) {w : va_W} {lv : List (Nat × Value)} {pc : Nat} {st : List Value} {v y : Int32} (hd : decode cc pc = .ok (.ishr, 1)) (k : Wb x w lv (pc + 1) (.int (v >>> (y &&& 31)) :: st)) : Wb x w lv pc (.int y :: .int v :: st) := by
  obtain ⟨p, l1, e, R1, s, m, args, below, meth, c, A, Q, g1, n1⟩ := x
  obtain ⟨hx, hb, hml, ho, hts, hK, hA, ⟨hG, hNW⟩, ⟨hr, hlk, hQ⟩, rfl, rfl, rfl, rfl⟩ := C
  intro H locs ls hP hD hS hl
  exact lv_ishr hx hb hd (k H locs ls hP hD hS hl)
theorem b_idiv {x : Ctx} {l : Launch} {g : Gl} {cc : ByteArray} {own : String} {nL : Nat} {R : Room} {ret : Option FieldType} {rv : Option Value} {w1 : va_W} (C : Cx x l g cc own nL R ret rv w1) {w : va_W} {lv : List (Nat × Value)} {pc : Nat} {st : List Value} {v y : Int32} (hd : decode cc pc = .ok (.idiv, 1)) (hne : ¬ y = 0) (k : Wb x w lv (pc + 1) (.int (v / y) :: st)) : Wb x w lv pc (.int y :: .int v :: st) := by
  obtain ⟨p, l1, e, R1, s, m, args, below, meth, c, A, Q, g1, n1⟩ := x
  obtain ⟨hx, hb, hml, ho, hts, hK, hA, ⟨hG, hNW⟩, ⟨hr, hlk, hQ⟩, rfl, rfl, rfl, rfl⟩ := C
  intro H locs ls hP hD hS hl
  exact lv_idiv hx hb hd hne (k H locs ls hP hD hS hl)
theorem b_irem {x : Ctx} {l : Launch} {g : Gl} {cc : ByteArray} {own : String} {nL : Nat} {R : Room} {ret : Option FieldType} {rv : Option Value} {w1 : va_W} (C : Cx x l g cc own nL R ret rv w1) {w : va_W} {lv : List (Nat × Value)} {pc : Nat} {st : List Value} {v y : Int32} (hd : decode cc pc = .ok (.irem, 1)) (hne : ¬ y = 0) (k : Wb x w lv (pc + 1) (.int (v - v / y * y) :: st)) : Wb x w lv pc (.int y :: .int v :: st) := by
  obtain ⟨p, l1, e, R1, s, m, args, below, meth, c, A, Q, g1, n1⟩ := x
  obtain ⟨hx, hb, hml, ho, hts, hK, hA, ⟨hG, hNW⟩, ⟨hr, hlk, hQ⟩, rfl, rfl, rfl, rfl⟩ := C
  intro H locs ls hP hD hS hl
  exact lv_irem hx hb hd hne (k H locs ls hP hD hS hl)
theorem b_ladd {x : Ctx} {l : Launch} {g : Gl} {cc : ByteArray} {own : String} {nL : Nat} {R : Room} {ret : Option FieldType} {rv : Option Value} {w1 : va_W} (C : Cx x l g cc own nL R ret rv w1) {w : va_W} {lv : List (Nat × Value)} {pc : Nat} {st : List Value} {v y : Int64} (hd : decode cc pc = .ok (.ladd, 1)) (k : Wb x w lv (pc + 1) (.long (v + y) :: st)) : Wb x w lv pc (.long y :: .long v :: st) := by
  obtain ⟨p, l1, e, R1, s, m, args, below, meth, c, A, Q, g1, n1⟩ := x
  obtain ⟨hx, hb, hml, ho, hts, hK, hA, ⟨hG, hNW⟩, ⟨hr, hlk, hQ⟩, rfl, rfl, rfl, rfl⟩ := C
  intro H locs ls hP hD hS hl
  exact lv_ladd hx hb hd (k H locs ls hP hD hS hl)
theorem b_lsub {x : Ctx} {l : Launch} {g : Gl} {cc : ByteArray} {own : String} {nL : Nat} {R : Room} {ret : Option FieldType} {rv : Option Value} {w1 : va_W} (C : Cx x l g cc own nL R ret rv w1) {w : va_W} {lv : List (Nat × Value)} {pc : Nat} {st : List Value} {v y : Int64} (hd : decode cc pc = .ok (.lsub, 1)) (k : Wb x w lv (pc + 1) (.long (v - y) :: st)) : Wb x w lv pc (.long y :: .long v :: st) := by
  obtain ⟨p, l1, e, R1, s, m, args, below, meth, c, A, Q, g1, n1⟩ := x
  obtain ⟨hx, hb, hml, ho, hts, hK, hA, ⟨hG, hNW⟩, ⟨hr, hlk, hQ⟩, rfl, rfl, rfl, rfl⟩ := C
  intro H locs ls hP hD hS hl
  exact lv_lsub hx hb hd (k H locs ls hP hD hS hl)
theorem b_lmul {x : Ctx} {l : Launch} {g : Gl} {cc : ByteArray} {own : String} {nL : Nat} {R : Room} {ret : Option FieldType} {rv : Option Value} {w1 : va_W} (C : Cx x l g cc own nL R ret rv w1) {w : va_W} {lv : List (Nat × Value)} {pc : Nat} {st : List Value} {v y : Int64} (hd : decode cc pc = .ok (.lmul, 1)) (k : Wb x w lv (pc + 1) (.long (v * y) :: st)) : Wb x w lv pc (.long y :: .long v :: st) := by
  obtain ⟨p, l1, e, R1, s, m, args, below, meth, c, A, Q, g1, n1⟩ := x
  obtain ⟨hx, hb, hml, ho, hts, hK, hA, ⟨hG, hNW⟩, ⟨hr, hlk, hQ⟩, rfl, rfl, rfl, rfl⟩ := C
  intro H locs ls hP hD hS hl
  exact lv_lmul hx hb hd (k H locs ls hP hD hS hl)
theorem b_land {x : Ctx} {l : Launch} {g : Gl} {cc : ByteArray} {own : String} {nL : Nat} {R : Room} {ret : Option FieldType} {rv : Option Value} {w1 : va_W} (C : Cx x l g cc own nL R ret rv w1) {w : va_W} {lv : List (Nat × Value)} {pc : Nat} {st : List Value} {v y : Int64} (hd : decode cc pc = .ok (.land, 1)) (k : Wb x w lv (pc + 1) (.long (v &&& y) :: st)) : Wb x w lv pc (.long y :: .long v :: st) := by
  obtain ⟨p, l1, e, R1, s, m, args, below, meth, c, A, Q, g1, n1⟩ := x
  obtain ⟨hx, hb, hml, ho, hts, hK, hA, ⟨hG, hNW⟩, ⟨hr, hlk, hQ⟩, rfl, rfl, rfl, rfl⟩ := C
  intro H locs ls hP hD hS hl
  exact lv_land hx hb hd (k H locs ls hP hD hS hl)
theorem b_lor {x : Ctx} {l : Launch} {g : Gl} {cc : ByteArray} {own : String} {nL : Nat} {R : Room} {ret : Option FieldType} {rv : Option Value} {w1 : va_W} (C : Cx x l g cc own nL R ret rv w1) {w : va_W} {lv : List (Nat × Value)} {pc : Nat} {st : List Value} {v y : Int64} (hd : decode cc pc = .ok (.lor, 1)) (k : Wb x w lv (pc + 1) (.long (v ||| y) :: st)) : Wb x w lv pc (.long y :: .long v :: st) := by
  obtain ⟨p, l1, e, R1, s, m, args, below, meth, c, A, Q, g1, n1⟩ := x
  obtain ⟨hx, hb, hml, ho, hts, hK, hA, ⟨hG, hNW⟩, ⟨hr, hlk, hQ⟩, rfl, rfl, rfl, rfl⟩ := C
  intro H locs ls hP hD hS hl
  exact lv_lor hx hb hd (k H locs ls hP hD hS hl)
theorem b_ldiv {x : Ctx} {l : Launch} {g : Gl} {cc : ByteArray} {own : String} {nL : Nat} {R : Room} {ret : Option FieldType} {rv : Option Value} {w1 : va_W} (C : Cx x l g cc own nL R ret rv w1) {w : va_W} {lv : List (Nat × Value)} {pc : Nat} {st : List Value} {v y : Int64} (hd : decode cc pc = .ok (.ldiv, 1)) (hne : ¬ y = 0) (k : Wb x w lv (pc + 1) (.long (v / y) :: st)) : Wb x w lv pc (.long y :: .long v :: st) := by
  obtain ⟨p, l1, e, R1, s, m, args, below, meth, c, A, Q, g1, n1⟩ := x
  obtain ⟨hx, hb, hml, ho, hts, hK, hA, ⟨hG, hNW⟩, ⟨hr, hlk, hQ⟩, rfl, rfl, rfl, rfl⟩ := C
  intro H locs ls hP hD hS hl
  exact lv_ldiv hx hb hd hne (k H locs ls hP hD hS hl)
theorem b_lrem {x : Ctx} {l : Launch} {g : Gl} {cc : ByteArray} {own : String} {nL : Nat} {R : Room} {ret : Option FieldType} {rv : Option Value} {w1 : va_W} (C : Cx x l g cc own nL R ret rv w1) {w : va_W} {lv : List (Nat × Value)} {pc : Nat} {st : List Value} {v y : Int64} (hd : decode cc pc = .ok (.lrem, 1)) (hne : ¬ y = 0) (k : Wb x w lv (pc + 1) (.long (v - v / y * y) :: st)) : Wb x w lv pc (.long y :: .long v :: st) := by
  obtain ⟨p, l1, e, R1, s, m, args, below, meth, c, A, Q, g1, n1⟩ := x
  obtain ⟨hx, hb, hml, ho, hts, hK, hA, ⟨hG, hNW⟩, ⟨hr, hlk, hQ⟩, rfl, rfl, rfl, rfl⟩ := C
  intro H locs ls hP hD hS hl
  exact lv_lrem hx hb hd hne (k H locs ls hP hD hS hl)
theorem b_ineg {x : Ctx} {l : Launch} {g : Gl} {cc : ByteArray} {own : String} {nL : Nat} {R : Room} {ret : Option FieldType} {rv : Option Value} {w1 : va_W} (C : Cx x l g cc own nL R ret rv w1) {w : va_W} {lv : List (Nat × Value)} {pc : Nat} {st : List Value} {v : Int32} (hd : decode cc pc = .ok (.ineg, 1)) (k : Wb x w lv (pc + 1) (.int (-v) :: st)) : Wb x w lv pc (.int v :: st) := by
  obtain ⟨p, l1, e, R1, s, m, args, below, meth, c, A, Q, g1, n1⟩ := x
  obtain ⟨hx, hb, hml, ho, hts, hK, hA, ⟨hG, hNW⟩, ⟨hr, hlk, hQ⟩, rfl, rfl, rfl, rfl⟩ := C
  intro H locs ls hP hD hS hl
  exact lv_ineg hx hb hd (k H locs ls hP hD hS hl)
theorem b_iushr {x : Ctx} {l : Launch} {g : Gl} {cc : ByteArray} {own : String} {nL : Nat} {R : Room} {ret : Option FieldType} {rv : Option Value} {w1 : va_W} (C : Cx x l g cc own nL R ret rv w1) {w : va_W} {lv : List (Nat × Value)} {pc : Nat} {st : List Value} {v y : Int32} (hd : decode cc pc = .ok (.iushr, 1)) (k : Wb x w lv (pc + 1) (.int ((v.toUInt32 >>> (y.toUInt32 &&& Int32.toUInt32 31)).toInt32) :: st)) : Wb x w lv pc (.int y :: .int v :: st) := by
  obtain ⟨p, l1, e, R1, s, m, args, below, meth, c, A, Q, g1, n1⟩ := x
  obtain ⟨hx, hb, hml, ho, hts, hK, hA, ⟨hG, hNW⟩, ⟨hr, hlk, hQ⟩, rfl, rfl, rfl, rfl⟩ := C
  intro H locs ls hP hD hS hl
  exact lv_iushr hx hb hd rfl (k H locs ls hP hD hS hl)
theorem b_i2l {x : Ctx} {l : Launch} {g : Gl} {cc : ByteArray} {own : String} {nL : Nat} {R : Room} {ret : Option FieldType} {rv : Option Value} {w1 : va_W} (C : Cx x l g cc own nL R ret rv w1) {w : va_W} {lv : List (Nat × Value)} {pc : Nat} {st : List Value} {v : Int32} (hd : decode cc pc = .ok (.i2l, 1)) (k : Wb x w lv (pc + 1) (.long v.toInt64 :: st)) : Wb x w lv pc (.int v :: st) := by
  obtain ⟨p, l1, e, R1, s, m, args, below, meth, c, A, Q, g1, n1⟩ := x
  obtain ⟨hx, hb, hml, ho, hts, hK, hA, ⟨hG, hNW⟩, ⟨hr, hlk, hQ⟩, rfl, rfl, rfl, rfl⟩ := C
  intro H locs ls hP hD hS hl
  exact lv_i2l hx hb hd rfl (k H locs ls hP hD hS hl)
theorem b_l2i {x : Ctx} {l : Launch} {g : Gl} {cc : ByteArray} {own : String} {nL : Nat} {R : Room} {ret : Option FieldType} {rv : Option Value} {w1 : va_W} (C : Cx x l g cc own nL R ret rv w1) {w : va_W} {lv : List (Nat × Value)} {pc : Nat} {st : List Value} {v : Int64} (hd : decode cc pc = .ok (.l2i, 1)) (k : Wb x w lv (pc + 1) (.int v.toInt32 :: st)) : Wb x w lv pc (.long v :: st) := by
  obtain ⟨p, l1, e, R1, s, m, args, below, meth, c, A, Q, g1, n1⟩ := x
  obtain ⟨hx, hb, hml, ho, hts, hK, hA, ⟨hG, hNW⟩, ⟨hr, hlk, hQ⟩, rfl, rfl, rfl, rfl⟩ := C
  intro H locs ls hP hD hS hl
  exact lv_l2i hx hb hd rfl (k H locs ls hP hD hS hl)
theorem b_lushr {x : Ctx} {l : Launch} {g : Gl} {cc : ByteArray} {own : String} {nL : Nat} {R : Room} {ret : Option FieldType} {rv : Option Value} {w1 : va_W} (C : Cx x l g cc own nL R ret rv w1) {w : va_W} {lv : List (Nat × Value)} {pc : Nat} {st : List Value} {v : Int64} {y : Int32} (hd : decode cc pc = .ok (.lushr, 1)) (k : Wb x w lv (pc + 1) (.long ((v.toUInt64 >>> (y.toInt64.toUInt64 &&& Int64.toUInt64 63)).toInt64) :: st)) : Wb x w lv pc (.int y :: .long v :: st) := by
  obtain ⟨p, l1, e, R1, s, m, args, below, meth, c, A, Q, g1, n1⟩ := x
  obtain ⟨hx, hb, hml, ho, hts, hK, hA, ⟨hG, hNW⟩, ⟨hr, hlk, hQ⟩, rfl, rfl, rfl, rfl⟩ := C
  intro H locs ls hP hD hS hl
  exact lv_lushr hx hb hd rfl (k H locs ls hP hD hS hl)
theorem b_lshl {x : Ctx} {l : Launch} {g : Gl} {cc : ByteArray} {own : String} {nL : Nat} {R : Room} {ret : Option FieldType} {rv : Option Value} {w1 : va_W} (C : Cx x l g cc own nL R ret rv w1) {w : va_W} {lv : List (Nat × Value)} {pc : Nat} {st : List Value} {v : Int64} {y : Int32} (hd : decode cc pc = .ok (.lshl, 1)) (k : Wb x w lv (pc + 1) (.long (v <<< (y.toInt64 &&& 63)) :: st)) : Wb x w lv pc (.int y :: .long v :: st) := by
  obtain ⟨p, l1, e, R1, s, m, args, below, meth, c, A, Q, g1, n1⟩ := x
  obtain ⟨hx, hb, hml, ho, hts, hK, hA, ⟨hG, hNW⟩, ⟨hr, hlk, hQ⟩, rfl, rfl, rfl, rfl⟩ := C
  intro H locs ls hP hD hS hl
  exact lv_lshl hx hb hd rfl (k H locs ls hP hD hS hl)
theorem b_lcmp {x : Ctx} {l : Launch} {g : Gl} {cc : ByteArray} {own : String} {nL : Nat} {R : Room} {ret : Option FieldType} {rv : Option Value} {w1 : va_W} (C : Cx x l g cc own nL R ret rv w1) {w : va_W} {lv : List (Nat × Value)} {pc : Nat} {st : List Value} {v y : Int64} (hd : decode cc pc = .ok (.lcmp, 1)) (k : Wb x w lv (pc + 1) (.int (lg_cmp v y) :: st)) : Wb x w lv pc (.long y :: .long v :: st) := by
  obtain ⟨p, l1, e, R1, s, m, args, below, meth, c, A, Q, g1, n1⟩ := x
  obtain ⟨hx, hb, hml, ho, hts, hK, hA, ⟨hG, hNW⟩, ⟨hr, hlk, hQ⟩, rfl, rfl, rfl, rfl⟩ := C
  intro H locs ls hP hD hS hl
  exact W.lcmp hx hb hd (k H locs ls hP hD hS hl)
theorem b_dup {x : Ctx} {l : Launch} {g : Gl} {cc : ByteArray} {own : String} {nL : Nat} {R : Room} {ret : Option FieldType} {rv : Option Value} {w1 : va_W} (C : Cx x l g cc own nL R ret rv w1) {w : va_W} {lv : List (Nat × Value)} {pc : Nat} {st : List Value} {va : Value} (hd : decode cc pc = .ok (.dup, 1)) (hva : va.category = 1) (k : Wb x w lv (pc + 1) (va :: va :: st)) : Wb x w lv pc (va :: st) := by
  obtain ⟨p, l1, e, R1, s, m, args, below, meth, c, A, Q, g1, n1⟩ := x
  obtain ⟨hx, hb, hml, ho, hts, hK, hA, ⟨hG, hNW⟩, ⟨hr, hlk, hQ⟩, rfl, rfl, rfl, rfl⟩ := C
  intro H locs ls hP hD hS hl
  exact lv_dup hx hb hd hva (k H locs ls hP hD hS hl)
theorem b_dup2 {x : Ctx} {l : Launch} {g : Gl} {cc : ByteArray} {own : String} {nL : Nat} {R : Room} {ret : Option FieldType} {rv : Option Value} {w1 : va_W} (C : Cx x l g cc own nL R ret rv w1) {w : va_W} {lv : List (Nat × Value)} {pc : Nat} {st : List Value} {va vb : Value} (hd : decode cc pc = .ok (.dup2, 1)) (hva : va.category = 1) (hvb : vb.category = 1) (k : Wb x w lv (pc + 1) (va :: vb :: va :: vb :: st)) : Wb x w lv pc (va :: vb :: st) := by
  obtain ⟨p, l1, e, R1, s, m, args, below, meth, c, A, Q, g1, n1⟩ := x
  obtain ⟨hx, hb, hml, ho, hts, hK, hA, ⟨hG, hNW⟩, ⟨hr, hlk, hQ⟩, rfl, rfl, rfl, rfl⟩ := C
  intro H locs ls hP hD hS hl
  exact lv_dup2_11 hx hb hd hva hvb (k H locs ls hP hD hS hl)
theorem b_pop {x : Ctx} {l : Launch} {g : Gl} {cc : ByteArray} {own : String} {nL : Nat} {R : Room} {ret : Option FieldType} {rv : Option Value} {w1 : va_W} (C : Cx x l g cc own nL R ret rv w1) {w : va_W} {lv : List (Nat × Value)} {pc : Nat} {st : List Value} {va : Value} (hd : decode cc pc = .ok (.pop, 1)) (hva : va.category = 1) (k : Wb x w lv (pc + 1) st) : Wb x w lv pc (va :: st) := by
  obtain ⟨p, l1, e, R1, s, m, args, below, meth, c, A, Q, g1, n1⟩ := x
  obtain ⟨hx, hb, hml, ho, hts, hK, hA, ⟨hG, hNW⟩, ⟨hr, hlk, hQ⟩, rfl, rfl, rfl, rfl⟩ := C
  intro H locs ls hP hD hS hl
  exact lv_pop hx hb hd hva (k H locs ls hP hD hS hl)
theorem b_goto {x : Ctx} {l : Launch} {g : Gl} {cc : ByteArray} {own : String} {nL : Nat} {R : Room} {ret : Option FieldType} {rv : Option Value} {w1 : va_W} (C : Cx x l g cc own nL R ret rv w1) {w : va_W} {lv : List (Nat × Value)} {pc : Nat} {st : List Value} {off : Int} {tgt : Nat} (hd : decode cc pc = .ok (.goto off, 3)) (ht : (pc : Int) + off = (tgt : Int)) (k : Wb x w lv tgt st) : Wb x w lv pc st := by
  obtain ⟨p, l1, e, R1, s, m, args, below, meth, c, A, Q, g1, n1⟩ := x
  obtain ⟨hx, hb, hml, ho, hts, hK, hA, ⟨hG, hNW⟩, ⟨hr, hlk, hQ⟩, rfl, rfl, rfl, rfl⟩ := C
  intro H locs ls hP hD hS hl
  exact lv_goto hx hb hd ht (k H locs ls hP hD hS hl)
theorem b_ldc {x : Ctx} {l : Launch} {g : Gl} {cc : ByteArray} {own : String} {nL : Nat} {R : Room} {ret : Option FieldType} {rv : Option Value} {w1 : va_W} (C : Cx x l g cc own nL R ret rv w1) {w : va_W} {lv : List (Nat × Value)} {pc : Nat} {st : List Value} {index : Nat} {v : Int32} (hw : Cond.constant own index v ∈ TB) (hd : decode cc pc = .ok (.ldc index, 2)) (k : Wb x w lv (pc + 2) (.int v :: st)) : Wb x w lv pc st := by
  obtain ⟨p, l1, e, R1, s, m, args, below, meth, c, A, Q, g1, n1⟩ := x
  obtain ⟨hx, hb, hml, ho, hts, hK, hA, ⟨hG, hNW⟩, ⟨hr, hlk, hQ⟩, rfl, rfl, rfl, rfl⟩ := C
  intro H locs ls hP hD hS hl
  exact lv_ldc hx hb ho (hts _ hw) hd (k H locs ls hP hD hS hl)
theorem b_ldcw {x : Ctx} {l : Launch} {g : Gl} {cc : ByteArray} {own : String} {nL : Nat} {R : Room} {ret : Option FieldType} {rv : Option Value} {w1 : va_W} (C : Cx x l g cc own nL R ret rv w1) {w : va_W} {lv : List (Nat × Value)} {pc : Nat} {st : List Value} {index : Nat} {v : Int32} (hw : Cond.constant own index v ∈ TB) (hd : decode cc pc = .ok (.ldc_w index, 3)) (k : Wb x w lv (pc + 3) (.int v :: st)) : Wb x w lv pc st := by
  obtain ⟨p, l1, e, R1, s, m, args, below, meth, c, A, Q, g1, n1⟩ := x
  obtain ⟨hx, hb, hml, ho, hts, hK, hA, ⟨hG, hNW⟩, ⟨hr, hlk, hQ⟩, rfl, rfl, rfl, rfl⟩ := C
  intro H locs ls hP hD hS hl
  exact lv_ldcw hx hb ho (hts _ hw) hd (k H locs ls hP hD hS hl)
theorem b_ldc2 {x : Ctx} {l : Launch} {g : Gl} {cc : ByteArray} {own : String} {nL : Nat} {R : Room} {ret : Option FieldType} {rv : Option Value} {w1 : va_W} (C : Cx x l g cc own nL R ret rv w1) {w : va_W} {lv : List (Nat × Value)} {pc : Nat} {st : List Value} {index : Nat} {v : Int64} (hw : Cond.constantLong own index v ∈ TB) (hd : decode cc pc = .ok (.ldc2_w index, 3)) (k : Wb x w lv (pc + 3) (.long v :: st)) : Wb x w lv pc st := by
  obtain ⟨p, l1, e, R1, s, m, args, below, meth, c, A, Q, g1, n1⟩ := x
  obtain ⟨hx, hb, hml, ho, hts, hK, hA, ⟨hG, hNW⟩, ⟨hr, hlk, hQ⟩, rfl, rfl, rfl, rfl⟩ := C
  intro H locs ls hP hD hS hl
  exact lv_ldc2 hx hb ho (hts _ hw) hd (k H locs ls hP hD hS hl)
def letK {α β : Type} (v : β) (K : β → Option α) : Option α := K v
theorem b_topi {x : Ctx} {w : va_W} {lv : List (Nat × Value)} {pc : Nat} {st : List Value} {v : Int32} {α : Type} {K : Int32 → Option α} {u : α} (hm : letK v K = some u) (k : ∀ y : Int32, K y = some u → Wb x w lv pc (.int y :: st)) : Wb x w lv pc (.int v :: st) := k v hm
theorem b_topl {x : Ctx} {w : va_W} {lv : List (Nat × Value)} {pc : Nat} {st : List Value} {v : Int64} {α : Type} {K : Int64 → Option α} {u : α} (hm : letK v K = some u) (k : ∀ y : Int64, K y = some u → Wb x w lv pc (.long y :: st)) : Wb x w lv pc (.long v :: st) := k v hm
theorem b_icmp_eq {x : Ctx} {l : Launch} {g : Gl} {cc : ByteArray} {own : String} {nL : Nat} {R : Room} {ret : Option FieldType} {rv : Option Value} {w1 : va_W} (C : Cx x l g cc own nL R ret rv w1) {w : va_W} {lv : List (Nat × Value)} {pc : Nat} {st : List Value} {α : Type} {X Y : Option α} {u : α} {v y : Int32} [Decidable (v = y)] {off : Int} {tgt : Nat} (hd : decode cc pc = .ok (.if_icmp .eq off, 3)) (ht : (pc : Int) + off = (tgt : Int)) (hm : (if v = y then X else Y) = some u) (kt : X = some u → Wb x w lv tgt st) (kf : Y = some u → Wb x w lv (pc + 3) st) : Wb x w lv pc (.int y :: .int v :: st) := by
  obtain ⟨p, l1, e, R1, s, m, args, below, meth, c, A, Q, g1, n1⟩ := x
  obtain ⟨hx, hb, hml, ho, hts, hK, hA, ⟨hG, hNW⟩, ⟨hr, hlk, hQ⟩, rfl, rfl, rfl, rfl⟩ := C
  intro H locs ls hP hD hS hl
  exact lv_icmp_eq hx hb hd ht (fun h => kt ((if_pos h).symm.trans hm) H locs ls hP hD hS hl) (fun h => kf ((if_neg h).symm.trans hm) H locs ls hP hD hS hl)
theorem b_icmp_ne {x : Ctx} {l : Launch} {g : Gl} {cc : ByteArray} {own : String} {nL : Nat} {R : Room} {ret : Option FieldType} {rv : Option Value} {w1 : va_W} (C : Cx x l g cc own nL R ret rv w1) {w : va_W} {lv : List (Nat × Value)} {pc : Nat} {st : List Value} {α : Type} {X Y : Option α} {u : α} {v y : Int32} [Decidable (v = y)] {off : Int} {tgt : Nat} (hd : decode cc pc = .ok (.if_icmp .ne off, 3)) (ht : (pc : Int) + off = (tgt : Int)) (hm : (if v = y then X else Y) = some u) (kt : Y = some u → Wb x w lv tgt st) (kf : X = some u → Wb x w lv (pc + 3) st) : Wb x w lv pc (.int y :: .int v :: st) := by
  obtain ⟨p, l1, e, R1, s, m, args, below, meth, c, A, Q, g1, n1⟩ := x
  obtain ⟨hx, hb, hml, ho, hts, hK, hA, ⟨hG, hNW⟩, ⟨hr, hlk, hQ⟩, rfl, rfl, rfl, rfl⟩ := C
  intro H locs ls hP hD hS hl
  exact lv_icmp_ne hx hb hd ht (fun h => kt ((if_neg h).symm.trans hm) H locs ls hP hD hS hl) (fun h => kf ((if_pos h).symm.trans hm) H locs ls hP hD hS hl)
theorem b_icmp_lt {x : Ctx} {l : Launch} {g : Gl} {cc : ByteArray} {own : String} {nL : Nat} {R : Room} {ret : Option FieldType} {rv : Option Value} {w1 : va_W} (C : Cx x l g cc own nL R ret rv w1) {w : va_W} {lv : List (Nat × Value)} {pc : Nat} {st : List Value} {α : Type} {X Y : Option α} {u : α} {v y : Int32} [Decidable (v < y)] {off : Int} {tgt : Nat} (hd : decode cc pc = .ok (.if_icmp .lt off, 3)) (ht : (pc : Int) + off = (tgt : Int)) (hm : (if v < y then X else Y) = some u) (kt : X = some u → Wb x w lv tgt st) (kf : Y = some u → Wb x w lv (pc + 3) st) : Wb x w lv pc (.int y :: .int v :: st) := by
  obtain ⟨p, l1, e, R1, s, m, args, below, meth, c, A, Q, g1, n1⟩ := x
  obtain ⟨hx, hb, hml, ho, hts, hK, hA, ⟨hG, hNW⟩, ⟨hr, hlk, hQ⟩, rfl, rfl, rfl, rfl⟩ := C
  intro H locs ls hP hD hS hl
  exact lv_icmp_lt hx hb hd ht (fun h => kt ((if_pos h).symm.trans hm) H locs ls hP hD hS hl) (fun h => kf ((if_neg h).symm.trans hm) H locs ls hP hD hS hl)
theorem b_icmp_ge {x : Ctx} {l : Launch} {g : Gl} {cc : ByteArray} {own : String} {nL : Nat} {R : Room} {ret : Option FieldType} {rv : Option Value} {w1 : va_W} (C : Cx x l g cc own nL R ret rv w1) {w : va_W} {lv : List (Nat × Value)} {pc : Nat} {st : List Value} {α : Type} {X Y : Option α} {u : α} {v y : Int32} [Decidable (y ≤ v)] {off : Int} {tgt : Nat} (hd : decode cc pc = .ok (.if_icmp .ge off, 3)) (ht : (pc : Int) + off = (tgt : Int)) (hm : (if y ≤ v then X else Y) = some u) (kt : X = some u → Wb x w lv tgt st) (kf : Y = some u → Wb x w lv (pc + 3) st) : Wb x w lv pc (.int y :: .int v :: st) := by
  obtain ⟨p, l1, e, R1, s, m, args, below, meth, c, A, Q, g1, n1⟩ := x
  obtain ⟨hx, hb, hml, ho, hts, hK, hA, ⟨hG, hNW⟩, ⟨hr, hlk, hQ⟩, rfl, rfl, rfl, rfl⟩ := C
  intro H locs ls hP hD hS hl
  exact lv_icmp_ge hx hb hd ht (fun h => kt ((if_pos h).symm.trans hm) H locs ls hP hD hS hl) (fun h => kf ((if_neg h).symm.trans hm) H locs ls hP hD hS hl)
theorem b_icmp_gt {x : Ctx} {l : Launch} {g : Gl} {cc : ByteArray} {own : String} {nL : Nat} {R : Room} {ret : Option FieldType} {rv : Option Value} {w1 : va_W} (C : Cx x l g cc own nL R ret rv w1) {w : va_W} {lv : List (Nat × Value)} {pc : Nat} {st : List Value} {α : Type} {X Y : Option α} {u : α} {v y : Int32} [Decidable (y < v)] {off : Int} {tgt : Nat} (hd : decode cc pc = .ok (.if_icmp .gt off, 3)) (ht : (pc : Int) + off = (tgt : Int)) (hm : (if y < v then X else Y) = some u) (kt : X = some u → Wb x w lv tgt st) (kf : Y = some u → Wb x w lv (pc + 3) st) : Wb x w lv pc (.int y :: .int v :: st) := by
  obtain ⟨p, l1, e, R1, s, m, args, below, meth, c, A, Q, g1, n1⟩ := x
  obtain ⟨hx, hb, hml, ho, hts, hK, hA, ⟨hG, hNW⟩, ⟨hr, hlk, hQ⟩, rfl, rfl, rfl, rfl⟩ := C
  intro H locs ls hP hD hS hl
  exact lv_icmp_gt hx hb hd ht (fun h => kt ((if_pos h).symm.trans hm) H locs ls hP hD hS hl) (fun h => kf ((if_neg h).symm.trans hm) H locs ls hP hD hS hl)
theorem b_icmp_le {x : Ctx} {l : Launch} {g : Gl} {cc : ByteArray} {own : String} {nL : Nat} {R : Room} {ret : Option FieldType} {rv : Option Value} {w1 : va_W} (C : Cx x l g cc own nL R ret rv w1) {w : va_W} {lv : List (Nat × Value)} {pc : Nat} {st : List Value} {α : Type} {X Y : Option α} {u : α} {v y : Int32} [Decidable (v ≤ y)] {off : Int} {tgt : Nat} (hd : decode cc pc = .ok (.if_icmp .le off, 3)) (ht : (pc : Int) + off = (tgt : Int)) (hm : (if v ≤ y then X else Y) = some u) (kt : X = some u → Wb x w lv tgt st) (kf : Y = some u → Wb x w lv (pc + 3) st) : Wb x w lv pc (.int y :: .int v :: st) := by
  obtain ⟨p, l1, e, R1, s, m, args, below, meth, c, A, Q, g1, n1⟩ := x
  obtain ⟨hx, hb, hml, ho, hts, hK, hA, ⟨hG, hNW⟩, ⟨hr, hlk, hQ⟩, rfl, rfl, rfl, rfl⟩ := C
  intro H locs ls hP hD hS hl
  exact lv_icmp_le hx hb hd ht (fun h => kt ((if_pos h).symm.trans hm) H locs ls hP hD hS hl) (fun h => kf ((if_neg h).symm.trans hm) H locs ls hP hD hS hl)
theorem b_if_eq {x : Ctx} {l : Launch} {g : Gl} {cc : ByteArray} {own : String} {nL : Nat} {R : Room} {ret : Option FieldType} {rv : Option Value} {w1 : va_W} (C : Cx x l g cc own nL R ret rv w1) {w : va_W} {lv : List (Nat × Value)} {pc : Nat} {st : List Value} {α : Type} {X Y : Option α} {u : α} {v : Int32} [Decidable (v = 0)] {off : Int} {tgt : Nat} (hd : decode cc pc = .ok (.ifCond .eq off, 3)) (ht : (pc : Int) + off = (tgt : Int)) (hm : (if v = 0 then X else Y) = some u) (kt : X = some u → Wb x w lv tgt st) (kf : Y = some u → Wb x w lv (pc + 3) st) : Wb x w lv pc (.int v :: st) := by
  obtain ⟨p, l1, e, R1, s, m, args, below, meth, c, A, Q, g1, n1⟩ := x
  obtain ⟨hx, hb, hml, ho, hts, hK, hA, ⟨hG, hNW⟩, ⟨hr, hlk, hQ⟩, rfl, rfl, rfl, rfl⟩ := C
  intro H locs ls hP hD hS hl
  exact lv_if_eq hx hb hd ht (fun h => kt ((if_pos h).symm.trans hm) H locs ls hP hD hS hl) (fun h => kf ((if_neg h).symm.trans hm) H locs ls hP hD hS hl)
theorem b_if_ne {x : Ctx} {l : Launch} {g : Gl} {cc : ByteArray} {own : String} {nL : Nat} {R : Room} {ret : Option FieldType} {rv : Option Value} {w1 : va_W} (C : Cx x l g cc own nL R ret rv w1) {w : va_W} {lv : List (Nat × Value)} {pc : Nat} {st : List Value} {α : Type} {X Y : Option α} {u : α} {v : Int32} [Decidable (v = 0)] {off : Int} {tgt : Nat} (hd : decode cc pc = .ok (.ifCond .ne off, 3)) (ht : (pc : Int) + off = (tgt : Int)) (hm : (if v = 0 then X else Y) = some u) (kt : Y = some u → Wb x w lv tgt st) (kf : X = some u → Wb x w lv (pc + 3) st) : Wb x w lv pc (.int v :: st) := by
  obtain ⟨p, l1, e, R1, s, m, args, below, meth, c, A, Q, g1, n1⟩ := x
  obtain ⟨hx, hb, hml, ho, hts, hK, hA, ⟨hG, hNW⟩, ⟨hr, hlk, hQ⟩, rfl, rfl, rfl, rfl⟩ := C
  intro H locs ls hP hD hS hl
  exact lv_if_ne hx hb hd ht (fun h => kt ((if_neg h).symm.trans hm) H locs ls hP hD hS hl) (fun h => kf ((if_pos h).symm.trans hm) H locs ls hP hD hS hl)
theorem b_if_lt {x : Ctx} {l : Launch} {g : Gl} {cc : ByteArray} {own : String} {nL : Nat} {R : Room} {ret : Option FieldType} {rv : Option Value} {w1 : va_W} (C : Cx x l g cc own nL R ret rv w1) {w : va_W} {lv : List (Nat × Value)} {pc : Nat} {st : List Value} {α : Type} {X Y : Option α} {u : α} {v : Int32} [Decidable (v < 0)] {off : Int} {tgt : Nat} (hd : decode cc pc = .ok (.ifCond .lt off, 3)) (ht : (pc : Int) + off = (tgt : Int)) (hm : (if v < 0 then X else Y) = some u) (kt : X = some u → Wb x w lv tgt st) (kf : Y = some u → Wb x w lv (pc + 3) st) : Wb x w lv pc (.int v :: st) := by
  obtain ⟨p, l1, e, R1, s, m, args, below, meth, c, A, Q, g1, n1⟩ := x
  obtain ⟨hx, hb, hml, ho, hts, hK, hA, ⟨hG, hNW⟩, ⟨hr, hlk, hQ⟩, rfl, rfl, rfl, rfl⟩ := C
  intro H locs ls hP hD hS hl
  exact lv_if_lt hx hb hd ht (fun h => kt ((if_pos h).symm.trans hm) H locs ls hP hD hS hl) (fun h => kf ((if_neg h).symm.trans hm) H locs ls hP hD hS hl)
theorem b_if_ge {x : Ctx} {l : Launch} {g : Gl} {cc : ByteArray} {own : String} {nL : Nat} {R : Room} {ret : Option FieldType} {rv : Option Value} {w1 : va_W} (C : Cx x l g cc own nL R ret rv w1) {w : va_W} {lv : List (Nat × Value)} {pc : Nat} {st : List Value} {α : Type} {X Y : Option α} {u : α} {v : Int32} [Decidable (0 ≤ v)] {off : Int} {tgt : Nat} (hd : decode cc pc = .ok (.ifCond .ge off, 3)) (ht : (pc : Int) + off = (tgt : Int)) (hm : (if 0 ≤ v then X else Y) = some u) (kt : X = some u → Wb x w lv tgt st) (kf : Y = some u → Wb x w lv (pc + 3) st) : Wb x w lv pc (.int v :: st) := by
  obtain ⟨p, l1, e, R1, s, m, args, below, meth, c, A, Q, g1, n1⟩ := x
  obtain ⟨hx, hb, hml, ho, hts, hK, hA, ⟨hG, hNW⟩, ⟨hr, hlk, hQ⟩, rfl, rfl, rfl, rfl⟩ := C
  intro H locs ls hP hD hS hl
  exact lv_if_ge hx hb hd ht (fun h => kt ((if_pos h).symm.trans hm) H locs ls hP hD hS hl) (fun h => kf ((if_neg h).symm.trans hm) H locs ls hP hD hS hl)
theorem b_if_gt {x : Ctx} {l : Launch} {g : Gl} {cc : ByteArray} {own : String} {nL : Nat} {R : Room} {ret : Option FieldType} {rv : Option Value} {w1 : va_W} (C : Cx x l g cc own nL R ret rv w1) {w : va_W} {lv : List (Nat × Value)} {pc : Nat} {st : List Value} {α : Type} {X Y : Option α} {u : α} {v : Int32} [Decidable (0 < v)] {off : Int} {tgt : Nat} (hd : decode cc pc = .ok (.ifCond .gt off, 3)) (ht : (pc : Int) + off = (tgt : Int)) (hm : (if 0 < v then X else Y) = some u) (kt : X = some u → Wb x w lv tgt st) (kf : Y = some u → Wb x w lv (pc + 3) st) : Wb x w lv pc (.int v :: st) := by
  obtain ⟨p, l1, e, R1, s, m, args, below, meth, c, A, Q, g1, n1⟩ := x
  obtain ⟨hx, hb, hml, ho, hts, hK, hA, ⟨hG, hNW⟩, ⟨hr, hlk, hQ⟩, rfl, rfl, rfl, rfl⟩ := C
  intro H locs ls hP hD hS hl
  exact lv_if_gt hx hb hd ht (fun h => kt ((if_pos h).symm.trans hm) H locs ls hP hD hS hl) (fun h => kf ((if_neg h).symm.trans hm) H locs ls hP hD hS hl)
theorem b_if_le {x : Ctx} {l : Launch} {g : Gl} {cc : ByteArray} {own : String} {nL : Nat} {R : Room} {ret : Option FieldType} {rv : Option Value} {w1 : va_W} (C : Cx x l g cc own nL R ret rv w1) {w : va_W} {lv : List (Nat × Value)} {pc : Nat} {st : List Value} {α : Type} {X Y : Option α} {u : α} {v : Int32} [Decidable (v ≤ 0)] {off : Int} {tgt : Nat} (hd : decode cc pc = .ok (.ifCond .le off, 3)) (ht : (pc : Int) + off = (tgt : Int)) (hm : (if v ≤ 0 then X else Y) = some u) (kt : X = some u → Wb x w lv tgt st) (kf : Y = some u → Wb x w lv (pc + 3) st) : Wb x w lv pc (.int v :: st) := by
  obtain ⟨p, l1, e, R1, s, m, args, below, meth, c, A, Q, g1, n1⟩ := x
  obtain ⟨hx, hb, hml, ho, hts, hK, hA, ⟨hG, hNW⟩, ⟨hr, hlk, hQ⟩, rfl, rfl, rfl, rfl⟩ := C
  intro H locs ls hP hD hS hl
  exact lv_if_le hx hb hd ht (fun h => kt ((if_pos h).symm.trans hm) H locs ls hP hD hS hl) (fun h => kf ((if_neg h).symm.trans hm) H locs ls hP hD hS hl)
theorem b_tin {x : Ctx} {l : Launch} {g : Gl} {cc : ByteArray} {own : String} {nL : Nat} {R : Room} {ret : Option FieldType} {rv : Option Value} {w1 : va_W} (C : Cx x l g cc own nL R ret rv w1) {w : va_W} {lv : List (Nat × Value)} {pc : Nat} {st : List Value} {v kk : Int32} {dflt lo hi : Int} {offs : Array Int} {len : Nat} {off : Int} {tgt : Nat} (h : v = kk) (hd : decode cc pc = .ok (.tableswitch dflt lo hi offs, len)) (h1 : ¬ kk.toInt < lo) (h2 : ¬ hi < kk.toInt) (h3 : offs[(kk.toInt - lo).toNat]? = some off) (ht : (pc : Int) + off = (tgt : Int)) (k : Wb x w lv tgt st) : Wb x w lv pc (.int v :: st) := by
  subst h
  obtain ⟨p, l1, e, R1, s, m, args, below, meth, c, A, Q, g1, n1⟩ := x
  obtain ⟨hx, hb, hml, ho, hts, hK, hA, ⟨hG, hNW⟩, ⟨hr, hlk, hQ⟩, rfl, rfl, rfl, rfl⟩ := C
  intro H locs ls hP hD hS hl
  exact lv_tableIn hx hb hd h1 h2 h3 ht (k H locs ls hP hD hS hl)
theorem b_tout {x : Ctx} {l : Launch} {g : Gl} {cc : ByteArray} {own : String} {nL : Nat} {R : Room} {ret : Option FieldType} {rv : Option Value} {w1 : va_W} (C : Cx x l g cc own nL R ret rv w1) {w : va_W} {lv : List (Nat × Value)} {pc : Nat} {st : List Value} {v : Int32} {dflt lo hi : Int} {offs : Array Int} {len : Nat} {tgt : Nat} (hd : decode cc pc = .ok (.tableswitch dflt lo hi offs, len)) (h : v.toInt < lo ∨ hi < v.toInt) (ht : (pc : Int) + dflt = (tgt : Int)) (k : Wb x w lv tgt st) : Wb x w lv pc (.int v :: st) := by
  obtain ⟨p, l1, e, R1, s, m, args, below, meth, c, A, Q, g1, n1⟩ := x
  obtain ⟨hx, hb, hml, ho, hts, hK, hA, ⟨hG, hNW⟩, ⟨hr, hlk, hQ⟩, rfl, rfl, rfl, rfl⟩ := C
  intro H locs ls hP hD hS hl
  exact lv_tableOut hx hb hd h ht (k H locs ls hP hD hS hl)
theorem b_look {x : Ctx} {l : Launch} {g : Gl} {cc : ByteArray} {own : String} {nL : Nat} {R : Room} {ret : Option FieldType} {rv : Option Value} {w1 : va_W} (C : Cx x l g cc own nL R ret rv w1) {w : va_W} {lv : List (Nat × Value)} {pc : Nat} {st : List Value} {v : Int32} {dflt : Int} {ps : Array (Int × Int)} {len : Nat} {off : Int} {tgt : Nat} (hd : decode cc pc = .ok (.lookupswitch dflt ps, len)) (hp : (ps.toList.zip (ps.toList.drop 1)).all (fun (a, next) => a.1 < next.1) = true) (h3 : Op.lookupswitch.offset ps.toList dflt v.toInt = off) (ht : (pc : Int) + off = (tgt : Int)) (k : Wb x w lv tgt st) : Wb x w lv pc (.int v :: st) := by
  obtain ⟨p, l1, e, R1, s, m, args, below, meth, c, A, Q, g1, n1⟩ := x
  obtain ⟨hx, hb, hml, ho, hts, hK, hA, ⟨hG, hNW⟩, ⟨hr, hlk, hQ⟩, rfl, rfl, rfl, rfl⟩ := C
  intro H locs ls hP hD hS hl
  exact lv_lookup hx hb hd hp h3 ht (k H locs ls hP hD hS hl)
theorem sw_some {α : Type} {c : Prop} [Decidable c] {X Y : Option α} {u : α} (h : (if c then X else Y) = some u) : (c ∧ X = some u) ∨ (¬ c ∧ Y = some u) := by
  by_cases hc : c
  · exact Or.inl ⟨hc, (if_pos hc).symm.trans h⟩
  · exact Or.inr ⟨hc, (if_neg hc).symm.trans h⟩
theorem b_iret {x : Ctx} {l : Launch} {g : Gl} {cc : ByteArray} {own : String} {nL : Nat} {R : Room} {w1 : va_W} {v : Int32} (C : Cx x l g cc own nL R (some .int) (some (.int v)) w1) {lv : List (Nat × Value)} {pc : Nat}  (hd : decode cc pc = .ok (.ireturn, 1)) : Wb x w1 lv pc [.int v] := by
  obtain ⟨p, l1, e, R1, s, m, args, below, meth, c, A, Q, g1, n1⟩ := x
  obtain ⟨hx, hb, hml, ho, hts, hK, hA, ⟨hG, hNW⟩, ⟨hr, hlk, hQ⟩, rfl, rfl, rfl, rfl⟩ := C
  intro H locs ls hP hD hS hl
  subst hQ
  exact W.iret (v := v) hx hb hr (fun t ht hW => ⟨rfl, by rw [ht]; exact hP, hS.F ht⟩) hS.2.2 hd hlk
theorem b_zret {x : Ctx} {l : Launch} {g : Gl} {cc : ByteArray} {own : String} {nL : Nat} {R : Room} {w1 : va_W} {v : Int32} (C : Cx x l g cc own nL R (some .boolean) (some (.int v)) w1) {lv : List (Nat × Value)} {pc : Nat}  (hn : narrow .boolean (.int v) = .int v) (hd : decode cc pc = .ok (.ireturn, 1)) : Wb x w1 lv pc [.int v] := by
  obtain ⟨p, l1, e, R1, s, m, args, below, meth, c, A, Q, g1, n1⟩ := x
  obtain ⟨hx, hb, hml, ho, hts, hK, hA, ⟨hG, hNW⟩, ⟨hr, hlk, hQ⟩, rfl, rfl, rfl, rfl⟩ := C
  intro H locs ls hP hD hS hl
  subst hQ
  exact W.zret (v := v) hx hb hr hn (fun t ht hW => ⟨rfl, by rw [ht]; exact hP, hS.F ht⟩) hS.2.2 hd hlk
theorem b_lret {x : Ctx} {l : Launch} {g : Gl} {cc : ByteArray} {own : String} {nL : Nat} {R : Room} {w1 : va_W} {v : Int64} (C : Cx x l g cc own nL R (some .long) (some (.long v)) w1) {lv : List (Nat × Value)} {pc : Nat}  (hd : decode cc pc = .ok (.lreturn, 1)) : Wb x w1 lv pc [.long v] := by
  obtain ⟨p, l1, e, R1, s, m, args, below, meth, c, A, Q, g1, n1⟩ := x
  obtain ⟨hx, hb, hml, ho, hts, hK, hA, ⟨hG, hNW⟩, ⟨hr, hlk, hQ⟩, rfl, rfl, rfl, rfl⟩ := C
  intro H locs ls hP hD hS hl
  subst hQ
  exact W.lret (v := v) hx hb hr (fun t ht hW => ⟨rfl, by rw [ht]; exact hP, hS.F ht⟩) hS.2.2 hd hlk
theorem b_aret {x : Ctx} {l : Launch} {g : Gl} {cc : ByteArray} {own : String} {nL : Nat} {R : Room} {w1 : va_W} {a : Nat} {cn : String} (C : Cx x l g cc own nL R (some (.object cn)) (some (.ref a)) w1) {lv : List (Nat × Value)} {pc : Nat}  (hd : decode cc pc = .ok (.areturn, 1)) : Wb x w1 lv pc [.ref a] := by
  obtain ⟨p, l1, e, R1, s, m, args, below, meth, c, A, Q, g1, n1⟩ := x
  obtain ⟨hx, hb, hml, ho, hts, hK, hA, ⟨hG, hNW⟩, ⟨hr, hlk, hQ⟩, rfl, rfl, rfl, rfl⟩ := C
  intro H locs ls hP hD hS hl
  subst hQ
  exact W.aret (v := .ref a) hx hb hr (Or.inl ⟨_, rfl⟩) (Or.inr ⟨_, rfl⟩) (fun t ht hW => ⟨rfl, by rw [ht]; exact hP, hS.F ht⟩) hS.2.2 hd hlk
theorem b_vret {x : Ctx} {l : Launch} {g : Gl} {cc : ByteArray} {own : String} {nL : Nat} {R : Room} {w1 : va_W} (C : Cx x l g cc own nL R none none w1) {lv : List (Nat × Value)} {pc : Nat}  (hd : decode cc pc = .ok (.return_, 1)) : Wb x w1 lv pc [] := by
  obtain ⟨p, l1, e, R1, s, m, args, below, meth, c, A, Q, g1, n1⟩ := x
  obtain ⟨hx, hb, hml, ho, hts, hK, hA, ⟨hG, hNW⟩, ⟨hr, hlk, hQ⟩, rfl, rfl, rfl, rfl⟩ := C
  intro H locs ls hP hD hS hl
  subst hQ
  exact W.vret hx hb hr (fun t ht hW => ⟨rfl, by rw [ht]; exact hP, hS.F ht⟩) hS.2.2 hd hlk
theorem b_get {x : Ctx} {l : Launch} {g : Gl} {cc : ByteArray} {own : String} {nL : Nat} {R : Room} {ret : Option FieldType} {rv : Option Value} {w1 : va_W} (C : Cx x l g cc own nL R ret rv w1) {w : va_W} {lv : List (Nat × Value)} {pc : Nat} {st : List Value} {Cn ref : String} {T : u_T} {N ci index : Nat} (hin : ∀ w ∈ u_ws Cn T N, w ∈ TB) (hc : vwCl[ci]? = some (Cn, T, N)) (k0 : Nat) (hk : k0 < N) (hlink : Cond.fieldLink own index ref (T k0).2.1 (T k0).2.2.1 ∈ TB) (hsame : ref = (T k0).1) {a : Nat} (q0 : Nat) {fs : List Value} (he : w[q0]? = some (a, .inr (ci, fs))) {v : Value} (hv : fs[k0]? = some v) (hd : decode cc pc = .ok (.getfield index, 3)) (k : Wb x w lv (pc + 3) (v :: st)) : Wb x w lv pc (.ref a :: st) := by
  subst hsame
  obtain ⟨p, l1, e, R1, s, m, args, below, meth, c, A, Q, g1, n1⟩ := x
  obtain ⟨hx, hb, hml, ho, hts, hK, hA, ⟨hG, hNW⟩, ⟨hr, hlk, hQ⟩, rfl, rfl, rfl, rfl⟩ := C
  intro H locs ls hP hD hS hl
  exact va_get hx hb hts hin ho hK hP q0 he hc k0 hk (hts _ hlink) (fun _ h9 => h9) hv hd (k H locs ls hP hD hS hl)
theorem b_put {x : Ctx} {l : Launch} {g : Gl} {cc : ByteArray} {own : String} {nL : Nat} {R : Room} {ret : Option FieldType} {rv : Option Value} {w1 : va_W} (C : Cx x l g cc own nL R ret rv w1) {w : va_W} {lv : List (Nat × Value)} {pc : Nat} {st : List Value} {Cn ref : String} {T : u_T} {N ci index : Nat} (hin : ∀ w ∈ u_ws Cn T N, w ∈ TB) (ty0 : Nat → FieldType) (hty : ∀ k, k < N → parseFieldDescriptor (T k).2.2.1 = some (ty0 k)) (hnm : ∀ a, a < N → ∀ b, b < N → a ≠ b → (T a).2.1 ≠ (T b).2.1) (hc : vwCl[ci]? = some (Cn, T, N)) (k0 : Nat) (hk : k0 < N) (hlink : Cond.fieldLink own index ref (T k0).2.1 (T k0).2.2.1 ∈ TB) (hsame : ref = (T k0).1) (hfin : (T k0).2.2.2 = false) {ty : FieldType} (hdsc : parseFieldDescriptor (T k0).2.2.1 = some ty) {a : Nat} {v : Value} (hn : narrow ty v = v) (hfit : fits ty v = true) (q0 : Nat) {fs : List Value} (he : w[q0]? = some (a, .inr (ci, fs))) (hlen : k0 < fs.length) (hd : decode cc pc = .ok (.putfield index, 3)) {w' : va_W} (hw : w.set q0 (a, .inr (ci, fs.set k0 v)) = w') (k : Wb x w' lv (pc + 3) st) : Wb x w lv pc (v :: .ref a :: st) := by
  subst hsame
  subst hw
  obtain ⟨p, l1, e, R1, s, m, args, below, meth, c, A, Q, g1, n1⟩ := x
  obtain ⟨hx, hb, hml, ho, hts, hK, hA, ⟨hG, hNW⟩, ⟨hr, hlk, hQ⟩, rfl, rfl, rfl, rfl⟩ := C
  intro H locs ls hP hD hS hl
  exact va_put hx hb hts hin ty0 hty hnm ho hK hP hD hS q0 he hc k0 hk (hts _ hlink) (fun _ h9 => h9) hfin hdsc hn hfit hlen hd (fun H1 locs1 hP hD hS => k H1 locs1 ls hP hD hS hl)
def rdK {α β : Type} (n : Nat) (f : Nat → β) (i : Int32) (K : β → Option α) : Option α := if i < 0 ∨ n ≤ i.toNatClampNeg then none else K (f i.toNatClampNeg)
theorem rdK_some {α β : Type} {n : Nat} {f : Nat → β} {i : Int32} {K : β → Option α} {u : α} (h : rdK n f i K = some u) : vp_in i n ∧ K (f i.toNatClampNeg) = some u := by
  unfold rdK at h
  by_cases hc : i < 0 ∨ n ≤ i.toNatClampNeg
  · rw [if_pos hc] at h; cases h
  · rw [if_neg hc] at h; exact ⟨hc, h⟩
def stK {α : Type} (n : Nat) (f : Nat → Int32) (i x : Int32) (K : (Nat → Int32) → Option α) : Option α := if i < 0 ∨ n ≤ i.toNatClampNeg then none else K (upd f i.toNatClampNeg x)
theorem stK_some {α : Type} {n : Nat} {f : Nat → Int32} {i x : Int32} {K : (Nat → Int32) → Option α} {u : α} (h : stK n f i x K = some u) : vp_in i n ∧ K (upd f i.toNatClampNeg x) = some u := by
  unfold stK at h
  by_cases hc : i < 0 ∨ n ≤ i.toNatClampNeg
  · rw [if_pos hc] at h; cases h
  · rw [if_neg hc] at h; exact ⟨hc, h⟩
/-- a divisor that isn't 0 -/
def nzK {α : Type} (y : Int32) (K : Option α) : Option α := if y = 0 then none else K
theorem nzK_some {α : Type} {y : Int32} {K : Option α} {u : α} (h : nzK y K = some u) : ¬ y = 0 ∧ K = some u := by
  unfold nzK at h
  by_cases hc : y = 0
  · rw [if_pos hc] at h; cases h
  · rw [if_neg hc] at h; exact ⟨hc, h⟩
def nzL {α : Type} (y : Int64) (K : Option α) : Option α := if y = 0 then none else K
theorem nzL_some {α : Type} {y : Int64} {K : Option α} {u : α} (h : nzL y K = some u) : ¬ y = 0 ∧ K = some u := by
  unfold nzL at h
  by_cases hc : y = 0
  · rw [if_pos hc] at h; cases h
  · rw [if_neg hc] at h; exact ⟨hc, h⟩
/-- a truth value -/
def zK {α : Type} (v : Int32) (K : Option α) : Option α := if v = 0 ∨ v = 1 then K else none
theorem zK_some {α : Type} {v : Int32} {K : Option α} {u : α} (h : zK v K = some u) : narrow .boolean (.int v) = .int v ∧ K = some u := by
  unfold zK at h
  by_cases hc : v = 0 ∨ v = 1
  · rw [if_pos hc] at h
    refine ⟨?_, h⟩
    rcases hc with rfl | rfl <;> decide
  · rw [if_neg hc] at h; cases h
theorem b_iald {x : Ctx} {l : Launch} {g : Gl} {cc : ByteArray} {own : String} {nL : Nat} {R : Room} {ret : Option FieldType} {rv : Option Value} {w1 : va_W} (C : Cx x l g cc own nL R ret rv w1) {w : va_W} {lv : List (Nat × Value)} {pc : Nat} {st : List Value} {α : Type} {u : α} {K : Int32 → Option α} {a n : Nat} {f : Nat → Int32} {i : Int32} (q0 : Nat) (he : w[q0]? = some (a, .inl (g.2.1.1, n, .inl f))) (hd : decode cc pc = .ok (.iaload, 1)) (hm : rdK n f i K = some u) (k : ∀ v : Int32, K v = some u → Wb x w lv (pc + 1) (.int v :: st)) : Wb x w lv pc (.int i :: .ref a :: st) := by
  obtain ⟨hin, hm⟩ := rdK_some hm
  obtain ⟨p, l1, e, R1, s, m, args, below, meth, c, A, Q, g1, n1⟩ := x
  obtain ⟨hx, hb, hml, ho, hts, hK, hA, ⟨hG, hNW⟩, ⟨hr, hlk, hQ⟩, rfl, rfl, rfl, rfl⟩ := C
  intro H locs ls hP hD hS hl
  exact va_iald hx hb hK hP q0 0 he rfl hin hd (k _ hm H locs ls hP hD hS hl)
theorem b_iast {x : Ctx} {l : Launch} {g : Gl} {cc : ByteArray} {own : String} {nL : Nat} {R : Room} {ret : Option FieldType} {rv : Option Value} {w1 : va_W} (C : Cx x l g cc own nL R ret rv w1) {w : va_W} {lv : List (Nat × Value)} {pc : Nat} {st : List Value} {α : Type} {u : α} {K : (Nat → Int32) → Option α} {a n : Nat} {f : Nat → Int32} {i v : Int32} (q0 : Nat) (he : w[q0]? = some (a, .inl (g.2.1.1, n, .inl f))) (hd : decode cc pc = .ok (.iastore, 1)) (hm : stK n f i v K = some u) (k : ∀ f' : Nat → Int32, K f' = some u → Wb x (w.set q0 (a, .inl (g.2.1.1, n, .inl f'))) lv (pc + 1) st) : Wb x w lv pc (.int v :: .int i :: .ref a :: st) := by
  obtain ⟨hin, hm⟩ := stK_some hm
  obtain ⟨p, l1, e, R1, s, m, args, below, meth, c, A, Q, g1, n1⟩ := x
  obtain ⟨hx, hb, hml, ho, hts, hK, hA, ⟨hG, hNW⟩, ⟨hr, hlk, hQ⟩, rfl, rfl, rfl, rfl⟩ := C
  intro H locs ls hP hD hS hl
  exact va_iast hx hb hK hP hD hS q0 0 he rfl hin hd (fun H1 locs1 hP hD hS => k _ hm H1 locs1 ls hP hD hS hl)
theorem b_zald {x : Ctx} {l : Launch} {g : Gl} {cc : ByteArray} {own : String} {nL : Nat} {R : Room} {ret : Option FieldType} {rv : Option Value} {w1 : va_W} (C : Cx x l g cc own nL R ret rv w1) {w : va_W} {lv : List (Nat × Value)} {pc : Nat} {st : List Value} {α : Type} {u : α} {K : Int32 → Option α} {a n : Nat} {f : Nat → Int32} {i : Int32} (q0 : Nat) (he : w[q0]? = some (a, .inl (g.2.1.2.1, n, .inl f))) (hd : decode cc pc = .ok (.baload, 1)) (hm : rdK n f i K = some u) (k : ∀ v : Int32, K v = some u → Wb x w lv (pc + 1) (.int v :: st)) : Wb x w lv pc (.int i :: .ref a :: st) := by
  obtain ⟨hin, hm⟩ := rdK_some hm
  obtain ⟨p, l1, e, R1, s, m, args, below, meth, c, A, Q, g1, n1⟩ := x
  obtain ⟨hx, hb, hml, ho, hts, hK, hA, ⟨hG, hNW⟩, ⟨hr, hlk, hQ⟩, rfl, rfl, rfl, rfl⟩ := C
  intro H locs ls hP hD hS hl
  exact va_zald hx hb hK hP q0 1 he rfl hin hd (k _ hm H locs ls hP hD hS hl)
theorem b_zast {x : Ctx} {l : Launch} {g : Gl} {cc : ByteArray} {own : String} {nL : Nat} {R : Room} {ret : Option FieldType} {rv : Option Value} {w1 : va_W} (C : Cx x l g cc own nL R ret rv w1) {w : va_W} {lv : List (Nat × Value)} {pc : Nat} {st : List Value} {α : Type} {u : α} {K : (Nat → Int32) → Option α} {a n : Nat} {f : Nat → Int32} {i v : Int32} (q0 : Nat) (he : w[q0]? = some (a, .inl (g.2.1.2.1, n, .inl f))) (hd : decode cc pc = .ok (.bastore, 1)) (hm : stK n f i (vp_nar .boolean v) K = some u) (k : ∀ f' : Nat → Int32, K f' = some u → Wb x (w.set q0 (a, .inl (g.2.1.2.1, n, .inl f'))) lv (pc + 1) st) : Wb x w lv pc (.int v :: .int i :: .ref a :: st) := by
  obtain ⟨hin, hm⟩ := stK_some hm
  obtain ⟨p, l1, e, R1, s, m, args, below, meth, c, A, Q, g1, n1⟩ := x
  obtain ⟨hx, hb, hml, ho, hts, hK, hA, ⟨hG, hNW⟩, ⟨hr, hlk, hQ⟩, rfl, rfl, rfl, rfl⟩ := C
  intro H locs ls hP hD hS hl
  exact va_zast hx hb hK hP hD hS q0 1 he rfl hin hd (fun H1 locs1 hP hD hS => k _ hm H1 locs1 ls hP hD hS hl)
theorem b_alen {x : Ctx} {l : Launch} {g : Gl} {cc : ByteArray} {own : String} {nL : Nat} {R : Room} {ret : Option FieldType} {rv : Option Value} {w1 : va_W} (C : Cx x l g cc own nL R ret rv w1) {w : va_W} {lv : List (Nat × Value)} {pc : Nat} {st : List Value} {a n : Nat} {f : Nat → Int32} (q0 : Nat) (he : w[q0]? = some (a, .inl (g.2.1.1, n, .inl f))) (hd : decode cc pc = .ok (.arraylength, 1)) (k : Wb x w lv (pc + 1) (.int (Int32.ofNat n) :: st)) : Wb x w lv pc (.ref a :: st) := by
  obtain ⟨p, l1, e, R1, s, m, args, below, meth, c, A, Q, g1, n1⟩ := x
  obtain ⟨hx, hb, hml, ho, hts, hK, hA, ⟨hG, hNW⟩, ⟨hr, hlk, hQ⟩, rfl, rfl, rfl, rfl⟩ := C
  intro H locs ls hP hD hS hl
  exact va_alen hx hb hK hP q0 0 he rfl rfl hd (k H locs ls hP hD hS hl)
theorem b_aald {x : Ctx} {l : Launch} {g : Gl} {cc : ByteArray} {own : String} {nL : Nat} {R : Room} {ret : Option FieldType} {rv : Option Value} {w1 : va_W} (C : Cx x l g cc own nL R ret rv w1) {w : va_W} {lv : List (Nat × Value)} {pc : Nat} {st : List Value} {a n a2 : Nat} {f : Nat → Option Nat} {i kk : Int32} (h : i = kk) (q0 : Nat) (he : w[q0]? = some (a, .inl (g.2.1.2.2, n, .inr (.inr (.inr (.inr f)))))) (hin : vp_in kk n) (hf : f kk.toNatClampNeg = some a2) (hd : decode cc pc = .ok (.aaload, 1)) (k : Wb x w lv (pc + 1) (.ref a2 :: st)) : Wb x w lv pc (.int i :: .ref a :: st) := by
  subst h
  obtain ⟨p, l1, e, R1, s, m, args, below, meth, c, A, Q, g1, n1⟩ := x
  obtain ⟨hx, hb, hml, ho, hts, hK, hA, ⟨hG, hNW⟩, ⟨hr, hlk, hQ⟩, rfl, rfl, rfl, rfl⟩ := C
  intro H locs ls hP hD hS hl
  refine va_aldq hx hb hK hP q0 2 he rfl hin hd ?_
  rw [hf]
  exact k H locs ls hP hD hS hl
theorem b_gets0 {x : Ctx} {l : Launch} {g : Gl} {cc : ByteArray} {own : String} {nL : Nat} {R : Room} {ret : Option FieldType} {rv : Option Value} {w1 : va_W} (C : Cx x l g cc own nL R ret rv w1) {w : va_W} {lv : List (Nat × Value)} {pc : Nat} {st : List Value} {index : Nat} (hlink : Cond.fieldLink own index "BreakLearner" "FIRST_SHAPE" "[I" ∈ TB) (hd : decode cc pc = .ok (.getstatic index, 3)) (k : Wb x w lv (pc + 3) (.ref (g.2.2 0) :: st)) : Wb x w lv pc st := by
  obtain ⟨p, l1, e, R1, s, m, args, below, meth, c, A, Q, g1, n1⟩ := x
  obtain ⟨hx, hb, hml, ho, hts, hK, hA, ⟨hG, hNW⟩, ⟨hr, hlk, hQ⟩, rfl, rfl, rfl, rfl⟩ := C
  intro H locs ls hP hD hS hl
  exact va_gets hx hb hG.1.1 hS ho (hts _ hlink) (fun _ h => h) hd (k H locs ls hP hD hS hl)
theorem b_getsN0 {x : Ctx} {l : Launch} {g : Gl} {cc : ByteArray} {own : String} {nL : Nat} {R : Room} {ret : Option FieldType} {rv : Option Value} {w1 : va_W} (C : Cx x l g cc own nL R ret rv w1) {w : va_W} {lv : List (Nat × Value)} {pc : Nat} {st : List Value} {index : Nat} (hlink : Cond.fieldLinkNest own index "BreakLearner" "FIRST_SHAPE" "[I" "BreakLearner" ∈ NWs) (hd : decode cc pc = .ok (.getstatic index, 3)) (k : Wb x w lv (pc + 3) (.ref (g.2.2 0) :: st)) : Wb x w lv pc st := by
  obtain ⟨p, l1, e, R1, s, m, args, below, meth, c, A, Q, g1, n1⟩ := x
  obtain ⟨hx, hb, hml, ho, hts, hK, hA, ⟨hG, hNW⟩, ⟨hr, hlk, hQ⟩, rfl, rfl, rfl, rfl⟩ := C
  intro H locs ls hP hD hS hl
  exact va_getsN hx hb hG.1.1 hS ho (va_Nw.use rfl (hNW _ hlink)) (fun _ h => h) hd (k H locs ls hP hD hS hl)
theorem b_tab0 {x : Ctx} {l : Launch} {g : Gl} {cc : ByteArray} {own : String} {nL : Nat} {R : Room} {ret : Option FieldType} {rv : Option Value} {w1 : va_W} (C : Cx x l g cc own nL R ret rv w1) {w : va_W} {lv : List (Nat × Value)} {pc : Nat} {st : List Value} {α : Type} {u : α} {K : Int32 → Option α} {i : Int32} (hd : decode cc pc = .ok (.iaload, 1)) (hm : rdK 5 kFirst i K = some u) (k : ∀ v : Int32, K v = some u → Wb x w lv (pc + 1) (.int v :: st)) : Wb x w lv pc (.int i :: .ref (g.2.2 0) :: st) := by
  obtain ⟨hin, hm⟩ := rdK_some hm
  obtain ⟨p, l1, e, R1, s, m, args, below, meth, c, A, Q, g1, n1⟩ := x
  obtain ⟨hx, hb, hml, ho, hts, hK, hA, ⟨hG, hNW⟩, ⟨hr, hlk, hQ⟩, rfl, rfl, rfl, rfl⟩ := C
  intro H locs ls hP hD hS hl
  exact va_ti hx hb hG.1.2 hS hin rfl hd (k _ hm H locs ls hP hD hS hl)
theorem b_gets1 {x : Ctx} {l : Launch} {g : Gl} {cc : ByteArray} {own : String} {nL : Nat} {R : Room} {ret : Option FieldType} {rv : Option Value} {w1 : va_W} (C : Cx x l g cc own nL R ret rv w1) {w : va_W} {lv : List (Nat × Value)} {pc : Nat} {st : List Value} {index : Nat} (hlink : Cond.fieldLink own index "BreakLearner" "SHAPE_SIGNS" "[I" ∈ TB) (hd : decode cc pc = .ok (.getstatic index, 3)) (k : Wb x w lv (pc + 3) (.ref (g.2.2 1) :: st)) : Wb x w lv pc st := by
  obtain ⟨p, l1, e, R1, s, m, args, below, meth, c, A, Q, g1, n1⟩ := x
  obtain ⟨hx, hb, hml, ho, hts, hK, hA, ⟨hG, hNW⟩, ⟨hr, hlk, hQ⟩, rfl, rfl, rfl, rfl⟩ := C
  intro H locs ls hP hD hS hl
  exact va_gets hx hb hG.2.1.1 hS ho (hts _ hlink) (fun _ h => h) hd (k H locs ls hP hD hS hl)
theorem b_getsN1 {x : Ctx} {l : Launch} {g : Gl} {cc : ByteArray} {own : String} {nL : Nat} {R : Room} {ret : Option FieldType} {rv : Option Value} {w1 : va_W} (C : Cx x l g cc own nL R ret rv w1) {w : va_W} {lv : List (Nat × Value)} {pc : Nat} {st : List Value} {index : Nat} (hlink : Cond.fieldLinkNest own index "BreakLearner" "SHAPE_SIGNS" "[I" "BreakLearner" ∈ NWs) (hd : decode cc pc = .ok (.getstatic index, 3)) (k : Wb x w lv (pc + 3) (.ref (g.2.2 1) :: st)) : Wb x w lv pc st := by
  obtain ⟨p, l1, e, R1, s, m, args, below, meth, c, A, Q, g1, n1⟩ := x
  obtain ⟨hx, hb, hml, ho, hts, hK, hA, ⟨hG, hNW⟩, ⟨hr, hlk, hQ⟩, rfl, rfl, rfl, rfl⟩ := C
  intro H locs ls hP hD hS hl
  exact va_getsN hx hb hG.2.1.1 hS ho (va_Nw.use rfl (hNW _ hlink)) (fun _ h => h) hd (k H locs ls hP hD hS hl)
theorem b_tab1 {x : Ctx} {l : Launch} {g : Gl} {cc : ByteArray} {own : String} {nL : Nat} {R : Room} {ret : Option FieldType} {rv : Option Value} {w1 : va_W} (C : Cx x l g cc own nL R ret rv w1) {w : va_W} {lv : List (Nat × Value)} {pc : Nat} {st : List Value} {α : Type} {u : α} {K : Int32 → Option α} {i : Int32} (hd : decode cc pc = .ok (.iaload, 1)) (hm : rdK 9 kSigns i K = some u) (k : ∀ v : Int32, K v = some u → Wb x w lv (pc + 1) (.int v :: st)) : Wb x w lv pc (.int i :: .ref (g.2.2 1) :: st) := by
  obtain ⟨hin, hm⟩ := rdK_some hm
  obtain ⟨p, l1, e, R1, s, m, args, below, meth, c, A, Q, g1, n1⟩ := x
  obtain ⟨hx, hb, hml, ho, hts, hK, hA, ⟨hG, hNW⟩, ⟨hr, hlk, hQ⟩, rfl, rfl, rfl, rfl⟩ := C
  intro H locs ls hP hD hS hl
  exact va_ti hx hb hG.2.1.2 hS hin rfl hd (k _ hm H locs ls hP hD hS hl)
theorem b_gets2 {x : Ctx} {l : Launch} {g : Gl} {cc : ByteArray} {own : String} {nL : Nat} {R : Room} {ret : Option FieldType} {rv : Option Value} {w1 : va_W} (C : Cx x l g cc own nL R ret rv w1) {w : va_W} {lv : List (Nat × Value)} {pc : Nat} {st : List Value} {index : Nat} (hlink : Cond.fieldLink own index "BreakLearner" "SHAPE_GAP" "[I" ∈ TB) (hd : decode cc pc = .ok (.getstatic index, 3)) (k : Wb x w lv (pc + 3) (.ref (g.2.2 2) :: st)) : Wb x w lv pc st := by
  obtain ⟨p, l1, e, R1, s, m, args, below, meth, c, A, Q, g1, n1⟩ := x
  obtain ⟨hx, hb, hml, ho, hts, hK, hA, ⟨hG, hNW⟩, ⟨hr, hlk, hQ⟩, rfl, rfl, rfl, rfl⟩ := C
  intro H locs ls hP hD hS hl
  exact va_gets hx hb hG.2.2.1.1 hS ho (hts _ hlink) (fun _ h => h) hd (k H locs ls hP hD hS hl)
theorem b_getsN2 {x : Ctx} {l : Launch} {g : Gl} {cc : ByteArray} {own : String} {nL : Nat} {R : Room} {ret : Option FieldType} {rv : Option Value} {w1 : va_W} (C : Cx x l g cc own nL R ret rv w1) {w : va_W} {lv : List (Nat × Value)} {pc : Nat} {st : List Value} {index : Nat} (hlink : Cond.fieldLinkNest own index "BreakLearner" "SHAPE_GAP" "[I" "BreakLearner" ∈ NWs) (hd : decode cc pc = .ok (.getstatic index, 3)) (k : Wb x w lv (pc + 3) (.ref (g.2.2 2) :: st)) : Wb x w lv pc st := by
  obtain ⟨p, l1, e, R1, s, m, args, below, meth, c, A, Q, g1, n1⟩ := x
  obtain ⟨hx, hb, hml, ho, hts, hK, hA, ⟨hG, hNW⟩, ⟨hr, hlk, hQ⟩, rfl, rfl, rfl, rfl⟩ := C
  intro H locs ls hP hD hS hl
  exact va_getsN hx hb hG.2.2.1.1 hS ho (va_Nw.use rfl (hNW _ hlink)) (fun _ h => h) hd (k H locs ls hP hD hS hl)
theorem b_tab2 {x : Ctx} {l : Launch} {g : Gl} {cc : ByteArray} {own : String} {nL : Nat} {R : Room} {ret : Option FieldType} {rv : Option Value} {w1 : va_W} (C : Cx x l g cc own nL R ret rv w1) {w : va_W} {lv : List (Nat × Value)} {pc : Nat} {st : List Value} {α : Type} {u : α} {K : Int32 → Option α} {i : Int32} (hd : decode cc pc = .ok (.iaload, 1)) (hm : rdK 9 kGap i K = some u) (k : ∀ v : Int32, K v = some u → Wb x w lv (pc + 1) (.int v :: st)) : Wb x w lv pc (.int i :: .ref (g.2.2 2) :: st) := by
  obtain ⟨hin, hm⟩ := rdK_some hm
  obtain ⟨p, l1, e, R1, s, m, args, below, meth, c, A, Q, g1, n1⟩ := x
  obtain ⟨hx, hb, hml, ho, hts, hK, hA, ⟨hG, hNW⟩, ⟨hr, hlk, hQ⟩, rfl, rfl, rfl, rfl⟩ := C
  intro H locs ls hP hD hS hl
  exact va_ti hx hb hG.2.2.1.2 hS hin rfl hd (k _ hm H locs ls hP hD hS hl)
theorem b_gets3 {x : Ctx} {l : Launch} {g : Gl} {cc : ByteArray} {own : String} {nL : Nat} {R : Room} {ret : Option FieldType} {rv : Option Value} {w1 : va_W} (C : Cx x l g cc own nL R ret rv w1) {w : va_W} {lv : List (Nat × Value)} {pc : Nat} {st : List Value} {index : Nat} (hlink : Cond.fieldLink own index "BreakLearner" "FACTORIAL" "[I" ∈ TB) (hd : decode cc pc = .ok (.getstatic index, 3)) (k : Wb x w lv (pc + 3) (.ref (g.2.2 3) :: st)) : Wb x w lv pc st := by
  obtain ⟨p, l1, e, R1, s, m, args, below, meth, c, A, Q, g1, n1⟩ := x
  obtain ⟨hx, hb, hml, ho, hts, hK, hA, ⟨hG, hNW⟩, ⟨hr, hlk, hQ⟩, rfl, rfl, rfl, rfl⟩ := C
  intro H locs ls hP hD hS hl
  exact va_gets hx hb hG.2.2.2.1.1 hS ho (hts _ hlink) (fun _ h => h) hd (k H locs ls hP hD hS hl)
theorem b_getsN3 {x : Ctx} {l : Launch} {g : Gl} {cc : ByteArray} {own : String} {nL : Nat} {R : Room} {ret : Option FieldType} {rv : Option Value} {w1 : va_W} (C : Cx x l g cc own nL R ret rv w1) {w : va_W} {lv : List (Nat × Value)} {pc : Nat} {st : List Value} {index : Nat} (hlink : Cond.fieldLinkNest own index "BreakLearner" "FACTORIAL" "[I" "BreakLearner" ∈ NWs) (hd : decode cc pc = .ok (.getstatic index, 3)) (k : Wb x w lv (pc + 3) (.ref (g.2.2 3) :: st)) : Wb x w lv pc st := by
  obtain ⟨p, l1, e, R1, s, m, args, below, meth, c, A, Q, g1, n1⟩ := x
  obtain ⟨hx, hb, hml, ho, hts, hK, hA, ⟨hG, hNW⟩, ⟨hr, hlk, hQ⟩, rfl, rfl, rfl, rfl⟩ := C
  intro H locs ls hP hD hS hl
  exact va_getsN hx hb hG.2.2.2.1.1 hS ho (va_Nw.use rfl (hNW _ hlink)) (fun _ h => h) hd (k H locs ls hP hD hS hl)
theorem b_tab3 {x : Ctx} {l : Launch} {g : Gl} {cc : ByteArray} {own : String} {nL : Nat} {R : Room} {ret : Option FieldType} {rv : Option Value} {w1 : va_W} (C : Cx x l g cc own nL R ret rv w1) {w : va_W} {lv : List (Nat × Value)} {pc : Nat} {st : List Value} {α : Type} {u : α} {K : Int32 → Option α} {i : Int32} (hd : decode cc pc = .ok (.iaload, 1)) (hm : rdK 7 kFact i K = some u) (k : ∀ v : Int32, K v = some u → Wb x w lv (pc + 1) (.int v :: st)) : Wb x w lv pc (.int i :: .ref (g.2.2 3) :: st) := by
  obtain ⟨hin, hm⟩ := rdK_some hm
  obtain ⟨p, l1, e, R1, s, m, args, below, meth, c, A, Q, g1, n1⟩ := x
  obtain ⟨hx, hb, hml, ho, hts, hK, hA, ⟨hG, hNW⟩, ⟨hr, hlk, hQ⟩, rfl, rfl, rfl, rfl⟩ := C
  intro H locs ls hP hD hS hl
  exact va_ti hx hb hG.2.2.2.1.2 hS hin rfl hd (k _ hm H locs ls hP hD hS hl)
theorem b_gets4 {x : Ctx} {l : Launch} {g : Gl} {cc : ByteArray} {own : String} {nL : Nat} {R : Room} {ret : Option FieldType} {rv : Option Value} {w1 : va_W} (C : Cx x l g cc own nL R ret rv w1) {w : va_W} {lv : List (Nat × Value)} {pc : Nat} {st : List Value} {index : Nat} (hlink : Cond.fieldLink own index "BreakLearner" "ROW_BOUND" "[J" ∈ TB) (hd : decode cc pc = .ok (.getstatic index, 3)) (k : Wb x w lv (pc + 3) (.ref (g.2.2 4) :: st)) : Wb x w lv pc st := by
  obtain ⟨p, l1, e, R1, s, m, args, below, meth, c, A, Q, g1, n1⟩ := x
  obtain ⟨hx, hb, hml, ho, hts, hK, hA, ⟨hG, hNW⟩, ⟨hr, hlk, hQ⟩, rfl, rfl, rfl, rfl⟩ := C
  intro H locs ls hP hD hS hl
  exact va_gets hx hb hG.2.2.2.2.1 hS ho (hts _ hlink) (fun _ h => h) hd (k H locs ls hP hD hS hl)
theorem b_getsN4 {x : Ctx} {l : Launch} {g : Gl} {cc : ByteArray} {own : String} {nL : Nat} {R : Room} {ret : Option FieldType} {rv : Option Value} {w1 : va_W} (C : Cx x l g cc own nL R ret rv w1) {w : va_W} {lv : List (Nat × Value)} {pc : Nat} {st : List Value} {index : Nat} (hlink : Cond.fieldLinkNest own index "BreakLearner" "ROW_BOUND" "[J" "BreakLearner" ∈ NWs) (hd : decode cc pc = .ok (.getstatic index, 3)) (k : Wb x w lv (pc + 3) (.ref (g.2.2 4) :: st)) : Wb x w lv pc st := by
  obtain ⟨p, l1, e, R1, s, m, args, below, meth, c, A, Q, g1, n1⟩ := x
  obtain ⟨hx, hb, hml, ho, hts, hK, hA, ⟨hG, hNW⟩, ⟨hr, hlk, hQ⟩, rfl, rfl, rfl, rfl⟩ := C
  intro H locs ls hP hD hS hl
  exact va_getsN hx hb hG.2.2.2.2.1 hS ho (va_Nw.use rfl (hNW _ hlink)) (fun _ h => h) hd (k H locs ls hP hD hS hl)
theorem b_tab4 {x : Ctx} {l : Launch} {g : Gl} {cc : ByteArray} {own : String} {nL : Nat} {R : Room} {ret : Option FieldType} {rv : Option Value} {w1 : va_W} (C : Cx x l g cc own nL R ret rv w1) {w : va_W} {lv : List (Nat × Value)} {pc : Nat} {st : List Value} {α : Type} {u : α} {K : Int64 → Option α} {i : Int32} (hd : decode cc pc = .ok (.laload, 1)) (hm : rdK 4 kRow i K = some u) (k : ∀ v : Int64, K v = some u → Wb x w lv (pc + 1) (.long v :: st)) : Wb x w lv pc (.int i :: .ref (g.2.2 4) :: st) := by
  obtain ⟨hin, hm⟩ := rdK_some hm
  obtain ⟨p, l1, e, R1, s, m, args, below, meth, c, A, Q, g1, n1⟩ := x
  obtain ⟨hx, hb, hml, ho, hts, hK, hA, ⟨hG, hNW⟩, ⟨hr, hlk, hQ⟩, rfl, rfl, rfl, rfl⟩ := C
  intro H locs ls hP hD hS hl
  exact va_tl hx hb hG.2.2.2.2.2 hS hin rfl hd (k _ hm H locs ls hP hD hS hl)
theorem b_mmax {x : Ctx} {l : Launch} {g : Gl} {cc : ByteArray} {own : String} {nL : Nat} {R : Room} {ret : Option FieldType} {rv : Option Value} {w1 : va_W} (C : Cx x l g cc own nL R ret rv w1) {w : va_W} {lv : List (Nat × Value)} {pc : Nat} {st : List Value} {v y : Int32} {index : Nat} (hlink : Cond.methodLink own index Lib.Math.max.name ∈ TB) (hstat : Cond.static Lib.Math.max.name ∈ TB) (hini : Cond.initialized "java/lang/Math" ∈ TB) (hcode : Cond.code Lib.Math.max.name Lib.Math.max.code 2 (some .int) ∈ TB) (hf : 1 ≤ R.frames) (hlo : (st.map fun v => v.category).sum + 13 ≤ R.locals) (hd : decode cc pc = .ok (.invokestatic index, 3)) (k : Wb x w lv (pc + 3) (.int (if v < y then y else v) :: st)) : Wb x w lv pc (.int y :: .int v :: st) := by
  obtain ⟨p, l1, e, R1, s, m, args, below, meth, c, A, Q, g1, n1⟩ := x
  obtain ⟨hx, hb, hml, ho, hts, hK, hA, ⟨hG, hNW⟩, ⟨hr, hlk, hQ⟩, rfl, rfl, rfl, rfl⟩ := C
  intro H locs ls hP hD hS hl
  exact va_mmax hx hb (by rw [hml]; exact hl.1.symm) ho (hts _ hlink) (hts _ hstat) (hts _ hini) (hts _ hcode) hf hlo (Nat.zero_le _) (Nat.zero_le _) hd (k H locs ls hP hD hS hl)
theorem b_mmin {x : Ctx} {l : Launch} {g : Gl} {cc : ByteArray} {own : String} {nL : Nat} {R : Room} {ret : Option FieldType} {rv : Option Value} {w1 : va_W} (C : Cx x l g cc own nL R ret rv w1) {w : va_W} {lv : List (Nat × Value)} {pc : Nat} {st : List Value} {v y : Int32} {index : Nat} (hlink : Cond.methodLink own index Lib.Math.min.name ∈ TB) (hstat : Cond.static Lib.Math.min.name ∈ TB) (hini : Cond.initialized "java/lang/Math" ∈ TB) (hcode : Cond.code Lib.Math.min.name Lib.Math.min.code 2 (some .int) ∈ TB) (hf : 1 ≤ R.frames) (hlo : (st.map fun v => v.category).sum + 13 ≤ R.locals) (hd : decode cc pc = .ok (.invokestatic index, 3)) (k : Wb x w lv (pc + 3) (.int (if y < v then y else v) :: st)) : Wb x w lv pc (.int y :: .int v :: st) := by
  obtain ⟨p, l1, e, R1, s, m, args, below, meth, c, A, Q, g1, n1⟩ := x
  obtain ⟨hx, hb, hml, ho, hts, hK, hA, ⟨hG, hNW⟩, ⟨hr, hlk, hQ⟩, rfl, rfl, rfl, rfl⟩ := C
  intro H locs ls hP hD hS hl
  exact va_mmin hx hb (by rw [hml]; exact hl.1.symm) ho (hts _ hlink) (hts _ hstat) (hts _ hini) (hts _ hcode) hf hlo (Nat.zero_le _) (Nat.zero_le _) hd (k H locs ls hP hD hS hl)
theorem b_mabs {x : Ctx} {l : Launch} {g : Gl} {cc : ByteArray} {own : String} {nL : Nat} {R : Room} {ret : Option FieldType} {rv : Option Value} {w1 : va_W} (C : Cx x l g cc own nL R ret rv w1) {w : va_W} {lv : List (Nat × Value)} {pc : Nat} {st : List Value} {v : Int32} {index : Nat} (hlink : Cond.methodLink own index Lib.Math.abs.name ∈ TB) (hstat : Cond.static Lib.Math.abs.name ∈ TB) (hini : Cond.initialized "java/lang/Math" ∈ TB) (hcode : Cond.code Lib.Math.abs.name Lib.Math.abs.code 1 (some .int) ∈ TB) (hf : 1 ≤ R.frames) (hlo : (st.map fun v => v.category).sum + 13 ≤ R.locals) (hd : decode cc pc = .ok (.invokestatic index, 3)) (k : Wb x w lv (pc + 3) (.int (if 0 ≤ v then v else 0 - v) :: st)) : Wb x w lv pc (.int v :: st) := by
  obtain ⟨p, l1, e, R1, s, m, args, below, meth, c, A, Q, g1, n1⟩ := x
  obtain ⟨hx, hb, hml, ho, hts, hK, hA, ⟨hG, hNW⟩, ⟨hr, hlk, hQ⟩, rfl, rfl, rfl, rfl⟩ := C
  intro H locs ls hP hD hS hl
  exact va_mabs hx hb (by rw [hml]; exact hl.1.symm) ho (hts _ hlink) (hts _ hstat) (hts _ hini) (hts _ hcode) hf hlo (Nat.zero_le _) (Nat.zero_le _) hd (k H locs ls hP hD hS hl)
theorem b_copy {x : Ctx} {l : Launch} {g : Gl} {cc : ByteArray} {own : String} {nL : Nat} {R : Room} {ret : Option FieldType} {rv : Option Value} {w1 : va_W} (C : Cx x l g cc own nL R ret rv w1) {w : va_W} {lv : List (Nat × Value)} {pc : Nat} {st : List Value} {a0 a n0 n1 : Nat} {f f1 : Nat → Int32} {n : Int32} {N index : Nat} (hlink : Cond.methodLink own index arraycopyName ∈ TB) (hnat : Cond.native arraycopyName ∈ TB) (hstat : Cond.static arraycopyName ∈ TB) (hini : Cond.initialized "java/lang/System" ∈ TB) (q0 q1 : Nat) (he0 : w[q0]? = some (a0, .inl (g.2.1.1, n0, .inl f))) (he1 : w[q1]? = some (a, .inl (g.2.1.1, n1, .inl f1))) (h3 : ¬ n < 0) (hN : n.toNatClampNeg = N) (h4 : N ≤ n0) (h5 : N ≤ n1) (hf : 1 ≤ R.frames) (hlo : (st.map fun v => v.category).sum + (nativeFrameWords "java/lang/System" "arraycopy" 5 + 11) ≤ R.locals) (hd : decode cc pc = .ok (.invokestatic index, 3)) {w' : va_W} (hw : w.set q1 (a, .inl (g.2.1.1, n1, .inl (va_cpy f f1 0 0 N))) = w') (k : Wb x w' lv (pc + 3) st) : Wb x w lv pc (.int n :: .int 0 :: .ref a :: .int 0 :: .ref a0 :: st) := by
  subst hw
  subst hN
  obtain ⟨p, l1, e, R1, s, m, args, below, meth, c, A, Q, g1, n1⟩ := x
  obtain ⟨hx, hb, hml, ho, hts, hK, hA, ⟨hG, hNW⟩, ⟨hr, hlk, hQ⟩, rfl, rfl, rfl, rfl⟩ := C
  intro H locs ls hP hD hS hl
  exact va_copyi hx hb (by rw [hml]; exact hl.1.symm) ho (hts _ hlink) (hts _ hnat) (hts _ hstat) (hts _ hini) hK hP hD hS q0 q1 0 0 he0 he1 rfl rfl rfl (by decide) (by decide) h3 (by rw [show (0 : Int32).toNatClampNeg = 0 by decide, Nat.zero_add]; exact h4) (by rw [show (0 : Int32).toNatClampNeg = 0 by decide, Nat.zero_add]; exact h5) (fun _ _ => rfl) hf hlo hd (fun H1 locs1 hP hD hS => k H1 locs1 ls hP hD hS hl)
/-- cells put at places -/
def plc (w : va_W) : List Nat → va_W → va_W
  | i :: is, e :: es => plc (w.set i e) is es
  | _, _ => w
theorem plc_get : ∀ (is : List Nat) (es w : va_W), is.length = es.length → ∀ (k : Nat) (q : Nat × va_E), (plc w is es)[k]? = some q → (∃ j : Nat, is[j]? = some k ∧ es[j]? = some q) ∨ (k ∉ is ∧ w[k]? = some q)
  | [], [], w, _, k, q, h => Or.inr ⟨List.not_mem_nil, h⟩
  | [], _ :: _, _, hl, _, _, _ => by simp at hl
  | _ :: _, [], _, hl, _, _, _ => by simp at hl
  | i :: is, e :: es, w, hl, k, q, h => by
    rcases plc_get is es (w.set i e) (by simpa using hl) k q h with ⟨j, h1, h2⟩ | ⟨h1, h2⟩
    · exact Or.inl ⟨j + 1, by simpa using h1, by simpa using h2⟩
    · by_cases hk : i = k
      · subst hk
        have hlt : i < w.length := by
          have := (List.getElem?_eq_some_iff.mp h2).1
          simpa using this
        rw [List.getElem?_set_self hlt] at h2
        exact Or.inl ⟨0, by simp, by simpa using h2⟩
      · rw [List.getElem?_set_ne hk] at h2
        exact Or.inr ⟨by simp only [List.mem_cons, not_or]; exact ⟨fun q => hk q.symm, h1⟩, h2⟩
theorem plc_world {D : va_G} {cl : List vw_C} {A : Nat → Prop} {w wc w1 : va_W} {H H1 : Heap} (hP : va_P D cl w H) (hD : va_D A w) (isC : List Nat) (hC : isC.map (fun i => w[i]?) = wc.map some) (h1 : w1.map Prod.fst = wc.map Prod.fst)
    (hk : ∀ q : Nat, q < H.size → ¬ va_A wc H.size q → H1[q]? = H[q]?) (hP1 : va_P D cl w1 H1) : va_P D cl (plc w isC w1) H1 ∧ va_D A (plc w isC w1) := by
  have hlen : isC.length = w1.length := by
    have e1 := congrArg List.length hC
    have e2 := congrArg List.length h1
    simp at e1 e2
    omega
  have at' : ∀ (j i : Nat), isC[j]? = some i → ∃ q, w[i]? = some q ∧ wc[j]? = some q := by
    intro j i hi
    have h2 : (isC.map (fun i => w[i]?))[j]? = some w[i]? := by rw [List.getElem?_map, hi]; rfl
    rw [hC, List.getElem?_map] at h2
    cases hq : wc[j]? with
    | none => rw [hq] at h2; cases h2
    | some q => rw [hq] at h2; exact ⟨q, (Option.some.inj h2).symm, rfl⟩
  have ad : ∀ (k : Nat) (q : Nat × va_E), (plc w isC w1)[k]? = some q → ∃ q0, w[k]? = some q0 ∧ q0.1 = q.1 := by
    intro k q hq
    rcases plc_get isC w1 w hlen k q hq with ⟨j, a1, a2⟩ | ⟨a1, a2⟩
    · obtain ⟨q0, b1, b2⟩ := at' j k a1
      have e1 : (w1.map Prod.fst)[j]? = (wc.map Prod.fst)[j]? := by rw [h1]
      rw [List.getElem?_map, List.getElem?_map, a2, b2] at e1
      exact ⟨q0, b1, (Option.some.inj e1).symm⟩
    · exact ⟨q, a2, rfl⟩
  refine ⟨fun k q hq => ?_, fun i j p q hi hj hpq => ?_, fun k q hq => ?_⟩
  · rcases plc_get isC w1 w hlen k q hq with ⟨j, a1, a2⟩ | ⟨a1, a2⟩
    · exact hP1 j q a2
    · refine (hP k q a2).kept (hk q.1 (hP k q a2).lt ?_)
      rintro (⟨j, e, hj⟩ | hj)
      · have hjl : j < isC.length := by
          have := (List.getElem?_eq_some_iff.mp hj).1
          have e1 := congrArg List.length hC
          simp at e1
          omega
        obtain ⟨q0, b1, b2⟩ := at' j isC[j] (List.getElem?_eq_getElem hjl)
        rw [hj] at b2
        cases b2
        have := hD.1 k isC[j] q (q.1, e) a2 b1 rfl
        exact a1 (this ▸ List.getElem_mem hjl)
      · exact absurd (hP k q a2).lt (by omega)
  · obtain ⟨p0, a1, a2⟩ := ad i p hi
    obtain ⟨q0, b1, b2⟩ := ad j q hj
    exact hD.1 i j p0 q0 a1 b1 (a2.trans (hpq.trans b2.symm))
  · obtain ⟨q0, b1, b2⟩ := ad k q hq
    rw [← b2]
    exact hD.2 k q0 b1
theorem Pd_blind (g : Gl) (av : List Value) (w0 : va_W) (sz : Nat) : FrameBlind (Pd g av w0 sz) := fun a U gg mk q => by
  obtain ⟨q0, q1, qP, qK, qD, qG, qN⟩ := q
  exact ⟨q0, q1, qP, va_K.moved (u := U) (U := U.calling gg mk a) (Vm.Alike.refl U.vm) qK, qD, SG.moved (u := U) (U := U.calling gg mk a) (Vm.Alike.refl U.vm) qG, NW.same (u := U) (U := U.calling gg mk a) rfl qN⟩
theorem good_law {y : MethodName} {cc : ByteArray} {nL : Nat} {ret : Option FieldType} (h : Cond.code y cc nL ret ∈ TB) : GoodIn TB (.code y cc nL ret :: TB) := fun w hw => by
  have hm : w ∈ TB := by
    rcases List.mem_cons.mp hw with rfl | h1
    · exact h
    · exact h1
  exact ⟨hm, good_of_word (List.mem_filter.mp hm).2⟩
/-- what the tables say of a method that is called by a receiver; that is static -/
def CalV (y : MethodName) (cc : ByteArray) (nL : Nat) (ret : Option FieldType) (C : String) (n : Nat) : Prop := Cond.code y cc nL ret ∈ TB ∧ Cond.instanceMethod y ∈ TB ∧ Cond.selects C y y ∈ TB ∧ Cond.initialized C ∈ TB ∧ y.cls = C ∧ y.cls ≠ "java/lang/invoke/MethodHandle" ∧ y.cls ≠ "java/lang/invoke/VarHandle" ∧ (parseMethodDescriptor y.desc).map (fun d => d.parameters.length) = some n
def CalS (y : MethodName) (cc : ByteArray) (nL : Nat) (ret : Option FieldType) (n : Nat) : Prop := Cond.code y cc nL ret ∈ TB ∧ Cond.static y ∈ TB ∧ Cond.initialized y.cls ∈ TB ∧ y.cls ≠ "java/lang/invoke/MethodHandle" ∧ y.cls ≠ "java/lang/invoke/VarHandle" ∧ (parseMethodDescriptor y.desc).map (fun d => d.parameters.length) = some n
theorem b_callV {x : Ctx} {l : Launch} {g : Gl} {cc : ByteArray} {own : String} {nL : Nat} {R : Room} {ret : Option FieldType} {rv : Option Value} {w1 : va_W} (C : Cx x l g cc own nL R ret rv w1) {w : va_W} {lv : List (Nat × Value)} {pc : Nat} {st : List Value} {y : MethodName} {bc : ByteArray} {nc : Nat} {rc : Option FieldType} {rmc : Room} {n index : Nat} {Cn : String} {b : Nat} {wc w1c : va_W} {rvc : Option Value} {As : List Value} (hcl : CalV y bc nc rc Cn n) (hlink : Cond.methodLink own index y ∈ TB) (hct : Ct l g y bc nc rc rmc (.ref b :: As) wc rvc w1c) {ci : Nat} {T : u_T} {N : Nat} {fs : List Value} (hci : vwCl[ci]? = some (Cn, T, N)) (qr : Nat) (hrc : w[qr]? = some (b, .inr (ci, fs))) (hn : As.length = n) (hR : rmc.cells = 0 ∧ rmc.slots = 0 ∧ rmc.frames + 1 ≤ R.frames ∧ 8 + (nc + 11) + rmc.locals ≤ R.locals) (hst : (st.map fun v => v.category).sum ≤ 8) (isC : List Nat) (hC : isC.map (fun i => w[i]?) = wc.map some) (hnd : va_nd isC = true) (h1 : w1c.map Prod.fst = wc.map Prod.fst) {st0 : List Value} (hs0 : st0 = (As.reverse ++ .ref b :: st)) (hd : decode cc pc = .ok (.invokevirtual index, 3)) {w' : va_W} (hw : plc w isC w1c = w') (k : Wb x w' lv (pc + 3) (rvc.toList ++ st)) : Wb x w lv pc st0 := by
  subst hs0
  subst hw
  obtain ⟨p, l1, e, R1, s, m, args, below, meth, c, A, Q, g1, n1⟩ := x
  obtain ⟨hx, hb, hml, ho, hts, hK, hA, ⟨hG, hNW⟩, ⟨hr, hlk, hQ⟩, rfl, rfl, rfl, rfl⟩ := C
  intro H locs ls hP hD hS hl
  obtain ⟨hr1, hr2, hr3, hr4⟩ := hR
  have hPc : va_P g1.1 vwCl wc H := hP.sub (ws' := wc) isC (by
    rw [show isC.filterMap (fun i => w[i]?) = (isC.map (fun i => w[i]?)).filterMap id by rw [List.filterMap_map]; rfl, hC, List.filterMap_map]
    exact List.filterMap_some)
  have hDc : va_D A wc := hD.sub isC hnd hC
  have hFc := va_free (wc := wc) hD hS hA isC hC
  have hGc : SG g1.2.2 (va_A wc H.size) s H := (hG.kept (fun a h1 h2 => hS.2.1 a h1 h2)).narrow hFc
  obtain ⟨c1, c2, c3, c4, c5, c6⟩ := hcl
  have hgood : GoodIn TB (wsV own index Cn y (.code y bc nc rc :: TB)) := fun w hw => by
    rcases List.mem_append.mp hw with h | h
    · have hm : w ∈ TB := by
        simp only [List.mem_cons, List.not_mem_nil, or_false] at h
        rcases h with rfl | rfl | rfl | rfl
        · exact hlink
        · exact c2
        · exact c3
        · exact c4
      exact ⟨hm, good_of_word (List.mem_filter.mp hm).2⟩
    · exact good_law c1 w h
  have hrun := va_runV (cells := 0) (slots := 0) (locs := locs) (below := below) (meth := meth) (e := e) (As := As) (rest := st) (g := F0 m pc ls (As.reverse ++ .ref b :: st)) ⟨hx, hb, hml, ho, hts⟩ (hct H.size) (cwV (C := Cn) n hts hgood rfl hr1 hr2 ⟨c5, c6⟩ ⟨hr3, hr4⟩) ⟨Pd_blind _ _ _ _, va_recv hK hP hci hrc, fun U hU hW => ⟨rfl, by rw [hU], by rw [hU]; exact hPc, va_K.moved hW.alike hK, hDc.weaken (fun _ _ _ _ => trivial), by rw [hU]; exact hGc.moved hW.alike, hNW.warm hW⟩⟩ rfl hn hl.1 rfl (lv_room hst) hd ⟨Nat.zero_le _, Nat.zero_le _⟩
  intro T hT X
  obtain ⟨v, st₀, t, T', L, h0, X', hL, e1, e2, ⟨hv, hP1, hz, hk⟩, go⟩ := hrun T hT X
  cases hv
  rw [h0] at hz hk
  rw [← e1] at hP1
  have hk' : ∀ q : Nat, q < H.size → ¬ va_A wc H.size q → T'.heap[q]? = H[q]? := fun q h1 h2 => by rw [e1]; exact hk q h1 h2
  obtain ⟨hP', hD'⟩ := plc_world hP hD isC hC h1 hk' hP1
  obtain ⟨t2, a1, b1⟩ := k T'.heap (locs ++ L) ls hP' hD' ⟨Nat.le_trans hS.1 (by rw [e1]; exact hz), fun q h1 h2 => by
      rw [hk' q (Nat.lt_of_lt_of_le h1 hS.1) (fun z => h2 (hFc q z))]
      exact hS.2.1 q h1 h2, fun q hq => by
      rcases List.mem_append.mp hq with h | h
      · exact hS.2.2 q h
      · exact hFc _ (hL q h)⟩ hl T' rfl X'
  exact ⟨t2, go t2 a1, b1⟩
theorem b_callS {x : Ctx} {l : Launch} {g : Gl} {cc : ByteArray} {own : String} {nL : Nat} {R : Room} {ret : Option FieldType} {rv : Option Value} {w1 : va_W} (C : Cx x l g cc own nL R ret rv w1) {w : va_W} {lv : List (Nat × Value)} {pc : Nat} {st : List Value} {y : MethodName} {bc : ByteArray} {nc : Nat} {rc : Option FieldType} {rmc : Room} {n index : Nat} {wc w1c : va_W} {rvc : Option Value} {As : List Value} (hcl : CalS y bc nc rc n) (hlink : Cond.methodLink own index y ∈ TB) (hct : Ct l g y bc nc rc rmc As wc rvc w1c) (hn : As.length = n) (hR : rmc.cells = 0 ∧ rmc.slots = 0 ∧ rmc.frames + 1 ≤ R.frames ∧ 8 + (nc + 11) + rmc.locals ≤ R.locals) (hst : (st.map fun v => v.category).sum ≤ 8) (isC : List Nat) (hC : isC.map (fun i => w[i]?) = wc.map some) (hnd : va_nd isC = true) (h1 : w1c.map Prod.fst = wc.map Prod.fst) {st0 : List Value} (hs0 : st0 = (As.reverse ++ st)) (hd : decode cc pc = .ok (.invokestatic index, 3)) {w' : va_W} (hw : plc w isC w1c = w') (k : Wb x w' lv (pc + 3) (rvc.toList ++ st)) : Wb x w lv pc st0 := by
  subst hs0
  subst hw
  obtain ⟨p, l1, e, R1, s, m, args, below, meth, c, A, Q, g1, n1⟩ := x
  obtain ⟨hx, hb, hml, ho, hts, hK, hA, ⟨hG, hNW⟩, ⟨hr, hlk, hQ⟩, rfl, rfl, rfl, rfl⟩ := C
  intro H locs ls hP hD hS hl
  obtain ⟨hr1, hr2, hr3, hr4⟩ := hR
  have hPc : va_P g1.1 vwCl wc H := hP.sub (ws' := wc) isC (by
    rw [show isC.filterMap (fun i => w[i]?) = (isC.map (fun i => w[i]?)).filterMap id by rw [List.filterMap_map]; rfl, hC, List.filterMap_map]
    exact List.filterMap_some)
  have hDc : va_D A wc := hD.sub isC hnd hC
  have hFc := va_free (wc := wc) hD hS hA isC hC
  have hGc : SG g1.2.2 (va_A wc H.size) s H := (hG.kept (fun a h1 h2 => hS.2.1 a h1 h2)).narrow hFc
  obtain ⟨c1, c2, c4, c6⟩ := hcl
  have hgood : GoodIn TB (va_wsS own index y (.code y bc nc rc :: TB)) := fun w hw => by
    rcases List.mem_append.mp hw with h | h
    · have hm : w ∈ TB := by
        simp only [List.mem_cons, List.not_mem_nil, or_false] at h
        rcases h with rfl | rfl | rfl
        · exact hlink
        · exact c2
        · exact c4
      exact ⟨hm, good_of_word (List.mem_filter.mp hm).2⟩
    · exact good_law c1 w h
  have hrun := va_runS (cells := 0) (slots := 0) (locs := locs) (below := below) (meth := meth) (e := e) (As := As) (rest := st) (g := F0 m pc ls (As.reverse ++ st)) ⟨hx, hb, hml, ho, hts⟩ (hct H.size) (va_cwS n hts hgood rfl hr1 hr2 c6 ⟨hr3, hr4⟩) ⟨Pd_blind _ _ _ _, fun U hU hW => ⟨rfl, by rw [hU], by rw [hU]; exact hPc, va_K.moved hW.alike hK, hDc.weaken (fun _ _ _ _ => trivial), by rw [hU]; exact hGc.moved hW.alike, hNW.warm hW⟩⟩ rfl hn hl.1 rfl (lv_room hst) hd ⟨Nat.zero_le _, Nat.zero_le _⟩
  intro T hT X
  obtain ⟨v, st₀, t, T', L, h0, X', hL, e1, e2, ⟨hv, hP1, hz, hk⟩, go⟩ := hrun T hT X
  cases hv
  rw [h0] at hz hk
  rw [← e1] at hP1
  have hk' : ∀ q : Nat, q < H.size → ¬ va_A wc H.size q → T'.heap[q]? = H[q]? := fun q h1 h2 => by rw [e1]; exact hk q h1 h2
  obtain ⟨hP', hD'⟩ := plc_world hP hD isC hC h1 hk' hP1
  obtain ⟨t2, a1, b1⟩ := k T'.heap (locs ++ L) ls hP' hD' ⟨Nat.le_trans hS.1 (by rw [e1]; exact hz), fun q h1 h2 => by
      rw [hk' q (Nat.lt_of_lt_of_le h1 hS.1) (fun z => h2 (hFc q z))]
      exact hS.2.1 q h1 h2, fun q hq => by
      rcases List.mem_append.mp hq with h | h
      · exact hS.2.2 q h
      · exact hFc _ (hL q h)⟩ hl T' rfl X'
  exact ⟨t2, go t2 a1, b1⟩
theorem b_callN {x : Ctx} {l : Launch} {g : Gl} {cc : ByteArray} {own : String} {nL : Nat} {R : Room} {ret : Option FieldType} {rv : Option Value} {w1 : va_W} (C : Cx x l g cc own nL R ret rv w1) {w : va_W} {lv : List (Nat × Value)} {pc : Nat} {st : List Value} {y : MethodName} {bc : ByteArray} {nc : Nat} {rc : Option FieldType} {rmc : Room} {n index : Nat} {wc w1c : va_W} {rvc : Option Value} {As : List Value} (hcl : CalS y bc nc rc n) (hlink : Cond.methodLinkNest own index y "BreakLearner" ∈ NWs) (hct : Ct l g y bc nc rc rmc As wc rvc w1c) (hn : As.length = n) (hR : rmc.cells = 0 ∧ rmc.slots = 0 ∧ rmc.frames + 1 ≤ R.frames ∧ 8 + (nc + 11) + rmc.locals ≤ R.locals) (hst : (st.map fun v => v.category).sum ≤ 8) (isC : List Nat) (hC : isC.map (fun i => w[i]?) = wc.map some) (hnd : va_nd isC = true) (h1 : w1c.map Prod.fst = wc.map Prod.fst) {st0 : List Value} (hs0 : st0 = (As.reverse ++ st)) (hd : decode cc pc = .ok (.invokestatic index, 3)) {w' : va_W} (hw : plc w isC w1c = w') (k : Wb x w' lv (pc + 3) (rvc.toList ++ st)) : Wb x w lv pc st0 := by
  subst hs0
  subst hw
  obtain ⟨p, l1, e, R1, s, m, args, below, meth, c, A, Q, g1, n1⟩ := x
  obtain ⟨hx, hb, hml, ho, hts, hK, hA, ⟨hG, hNW⟩, ⟨hr, hlk, hQ⟩, rfl, rfl, rfl, rfl⟩ := C
  intro H locs ls hP hD hS hl
  obtain ⟨hr1, hr2, hr3, hr4⟩ := hR
  have hPc : va_P g1.1 vwCl wc H := hP.sub (ws' := wc) isC (by
    rw [show isC.filterMap (fun i => w[i]?) = (isC.map (fun i => w[i]?)).filterMap id by rw [List.filterMap_map]; rfl, hC, List.filterMap_map]
    exact List.filterMap_some)
  have hDc : va_D A wc := hD.sub isC hnd hC
  have hFc := va_free (wc := wc) hD hS hA isC hC
  have hGc : SG g1.2.2 (va_A wc H.size) s H := (hG.kept (fun a h1 h2 => hS.2.1 a h1 h2)).narrow hFc
  obtain ⟨c1, c2, c4, c6⟩ := hcl
  have hrun := va_runSN (cells := 0) (slots := 0) (locs := locs) (below := below) (meth := meth) (e := e) (As := As) (rest := st) (g := F0 m pc ls (As.reverse ++ st)) ⟨hx, hb, hml, ho, hts⟩ (hct H.size) ⟨va_cnB (host := "BreakLearner") n hts (good_law c1) rfl hr1 hr2 (hNW _ hlink) (hts _ c4) c6 ⟨hr3, hr4⟩, hts _ c2, trivial⟩ ⟨Pd_blind _ _ _ _, fun U hU hW => ⟨rfl, by rw [hU], by rw [hU]; exact hPc, va_K.moved hW.alike hK, hDc.weaken (fun _ _ _ _ => trivial), by rw [hU]; exact hGc.moved hW.alike, hNW.warm hW⟩⟩ rfl hn hl.1 rfl (lv_room hst) hd ⟨Nat.zero_le _, Nat.zero_le _⟩
  intro T hT X
  obtain ⟨v, st₀, t, T', L, h0, X', hL, e1, e2, ⟨hv, hP1, hz, hk⟩, go⟩ := hrun T hT X
  cases hv
  rw [h0] at hz hk
  rw [← e1] at hP1
  have hk' : ∀ q : Nat, q < H.size → ¬ va_A wc H.size q → T'.heap[q]? = H[q]? := fun q h1 h2 => by rw [e1]; exact hk q h1 h2
  obtain ⟨hP', hD'⟩ := plc_world hP hD isC hC h1 hk' hP1
  obtain ⟨t2, a1, b1⟩ := k T'.heap (locs ++ L) ls hP' hD' ⟨Nat.le_trans hS.1 (by rw [e1]; exact hz), fun q h1 h2 => by
      rw [hk' q (Nat.lt_of_lt_of_le h1 hS.1) (fun z => h2 (hFc q z))]
      exact hS.2.1 q h1 h2, fun q hq => by
      rcases List.mem_append.mp hq with h | h
      · exact hS.2.2 q h
      · exact hFc _ (hL q h)⟩ hl T' rfl X'
  exact ⟨t2, go t2 a1, b1⟩
def bK0 {α : Type} (o : Option Unit) (K : Option α) : Option α := o.bind (fun _ => K)
theorem bK0_some {α : Type} {o : Option Unit} {K : Option α} {u : α} (h : bK0 o K = some u) : o = some () ∧ K = some u := by
  cases o with
  | none => cases h
  | some a => exact ⟨rfl, h⟩
def jn0 {α : Type} (K : Option α) (body : (Option α) → Option α) : Option α := body K
theorem jn0_some {α : Type} {K : Option α} {body : (Option α) → Option α} {u : α} (h : jn0 K body = some u) : ∃ k : Option α, (k  = some u → K  = some u) ∧ body k = some u := ⟨K, fun h => h, h⟩
def bK1 {A1 : Type} {α : Type} (o : Option (A1)) (K : A1 → Option α) : Option α := o.bind (fun a1 => K a1)
theorem bK1_some {A1 : Type} {α : Type} {o : Option (A1)} {K : A1 → Option α} {u : α} (h : bK1 o K = some u) : ∃ (a1 : A1), o = some a1 ∧ K a1 = some u := by
  cases o with
  | none => cases h
  | some a1 =>
    exact ⟨a1, rfl, h⟩
def jn1 {A1 : Type} {α : Type} (K : A1 → Option α) (body : (A1 → Option α) → Option α) : Option α := body K
theorem jn1_some {A1 : Type} {α : Type} {K : A1 → Option α} {body : (A1 → Option α) → Option α} {u : α} (h : jn1 K body = some u) : ∃ k : A1 → Option α, (∀ a1, k a1 = some u → K a1 = some u) ∧ body k = some u := ⟨K, fun _ h => h, h⟩
def wl1 {A1 : Type} {α : Type} (step : A1 → (A1 → Option α) → Option α) : Nat → A1 → Option α
  | 0 => fun _ => none
  | F + 1 => fun a1 => step a1 (wl1 step F)
theorem wl1_W {A1 : Type} {α : Type} {step : A1 → (A1 → Option α) → Option α} {u : α} {Wg : A1 → Prop} (h : ∀ a1 (c : A1 → Option α), (∀ b1, c b1 = some u → Wg b1) → step a1 c = some u → Wg a1) : ∀ (F : Nat) a1, wl1 step F a1 = some u → Wg a1 := by
  intro F
  induction F with
  | zero => intro a1 hm; cases hm
  | succ F ih => intro a1 hm; exact h a1 (wl1 step F) ih hm
def bK2 {A1 A2 : Type} {α : Type} (o : Option (A1 × A2)) (K : A1 → A2 → Option α) : Option α := o.bind (fun (a1, a2) => K a1 a2)
theorem bK2_some {A1 A2 : Type} {α : Type} {o : Option (A1 × A2)} {K : A1 → A2 → Option α} {u : α} (h : bK2 o K = some u) : ∃ (a1 : A1) (a2 : A2), o = some (a1, a2) ∧ K a1 a2 = some u := by
  cases o with
  | none => cases h
  | some a =>
    obtain ⟨a1, a2⟩ := a
    exact ⟨a1, a2, rfl, h⟩
def jn2 {A1 A2 : Type} {α : Type} (K : A1 → A2 → Option α) (body : (A1 → A2 → Option α) → Option α) : Option α := body K
theorem jn2_some {A1 A2 : Type} {α : Type} {K : A1 → A2 → Option α} {body : (A1 → A2 → Option α) → Option α} {u : α} (h : jn2 K body = some u) : ∃ k : A1 → A2 → Option α, (∀ a1 a2, k a1 a2 = some u → K a1 a2 = some u) ∧ body k = some u := ⟨K, fun _ _ h => h, h⟩
def wl2 {A1 A2 : Type} {α : Type} (step : A1 → A2 → (A1 → A2 → Option α) → Option α) : Nat → A1 → A2 → Option α
  | 0 => fun _ _ => none
  | F + 1 => fun a1 a2 => step a1 a2 (wl2 step F)
theorem wl2_W {A1 A2 : Type} {α : Type} {step : A1 → A2 → (A1 → A2 → Option α) → Option α} {u : α} {Wg : A1 → A2 → Prop} (h : ∀ a1 a2 (c : A1 → A2 → Option α), (∀ b1 b2, c b1 b2 = some u → Wg b1 b2) → step a1 a2 c = some u → Wg a1 a2) : ∀ (F : Nat) a1 a2, wl2 step F a1 a2 = some u → Wg a1 a2 := by
  intro F
  induction F with
  | zero => intro a1 a2 hm; cases hm
  | succ F ih => intro a1 a2 hm; exact h a1 a2 (wl2 step F) ih hm
def bK3 {A1 A2 A3 : Type} {α : Type} (o : Option (A1 × A2 × A3)) (K : A1 → A2 → A3 → Option α) : Option α := o.bind (fun (a1, a2, a3) => K a1 a2 a3)
theorem bK3_some {A1 A2 A3 : Type} {α : Type} {o : Option (A1 × A2 × A3)} {K : A1 → A2 → A3 → Option α} {u : α} (h : bK3 o K = some u) : ∃ (a1 : A1) (a2 : A2) (a3 : A3), o = some (a1, a2, a3) ∧ K a1 a2 a3 = some u := by
  cases o with
  | none => cases h
  | some a =>
    obtain ⟨a1, a2, a3⟩ := a
    exact ⟨a1, a2, a3, rfl, h⟩
def jn3 {A1 A2 A3 : Type} {α : Type} (K : A1 → A2 → A3 → Option α) (body : (A1 → A2 → A3 → Option α) → Option α) : Option α := body K
theorem jn3_some {A1 A2 A3 : Type} {α : Type} {K : A1 → A2 → A3 → Option α} {body : (A1 → A2 → A3 → Option α) → Option α} {u : α} (h : jn3 K body = some u) : ∃ k : A1 → A2 → A3 → Option α, (∀ a1 a2 a3, k a1 a2 a3 = some u → K a1 a2 a3 = some u) ∧ body k = some u := ⟨K, fun _ _ _ h => h, h⟩
def wl3 {A1 A2 A3 : Type} {α : Type} (step : A1 → A2 → A3 → (A1 → A2 → A3 → Option α) → Option α) : Nat → A1 → A2 → A3 → Option α
  | 0 => fun _ _ _ => none
  | F + 1 => fun a1 a2 a3 => step a1 a2 a3 (wl3 step F)
theorem wl3_W {A1 A2 A3 : Type} {α : Type} {step : A1 → A2 → A3 → (A1 → A2 → A3 → Option α) → Option α} {u : α} {Wg : A1 → A2 → A3 → Prop} (h : ∀ a1 a2 a3 (c : A1 → A2 → A3 → Option α), (∀ b1 b2 b3, c b1 b2 b3 = some u → Wg b1 b2 b3) → step a1 a2 a3 c = some u → Wg a1 a2 a3) : ∀ (F : Nat) a1 a2 a3, wl3 step F a1 a2 a3 = some u → Wg a1 a2 a3 := by
  intro F
  induction F with
  | zero => intro a1 a2 a3 hm; cases hm
  | succ F ih => intro a1 a2 a3 hm; exact h a1 a2 a3 (wl3 step F) ih hm
def bK4 {A1 A2 A3 A4 : Type} {α : Type} (o : Option (A1 × A2 × A3 × A4)) (K : A1 → A2 → A3 → A4 → Option α) : Option α := o.bind (fun (a1, a2, a3, a4) => K a1 a2 a3 a4)
theorem bK4_some {A1 A2 A3 A4 : Type} {α : Type} {o : Option (A1 × A2 × A3 × A4)} {K : A1 → A2 → A3 → A4 → Option α} {u : α} (h : bK4 o K = some u) : ∃ (a1 : A1) (a2 : A2) (a3 : A3) (a4 : A4), o = some (a1, a2, a3, a4) ∧ K a1 a2 a3 a4 = some u := by
  cases o with
  | none => cases h
  | some a =>
    obtain ⟨a1, a2, a3, a4⟩ := a
    exact ⟨a1, a2, a3, a4, rfl, h⟩
def jn4 {A1 A2 A3 A4 : Type} {α : Type} (K : A1 → A2 → A3 → A4 → Option α) (body : (A1 → A2 → A3 → A4 → Option α) → Option α) : Option α := body K
theorem jn4_some {A1 A2 A3 A4 : Type} {α : Type} {K : A1 → A2 → A3 → A4 → Option α} {body : (A1 → A2 → A3 → A4 → Option α) → Option α} {u : α} (h : jn4 K body = some u) : ∃ k : A1 → A2 → A3 → A4 → Option α, (∀ a1 a2 a3 a4, k a1 a2 a3 a4 = some u → K a1 a2 a3 a4 = some u) ∧ body k = some u := ⟨K, fun _ _ _ _ h => h, h⟩
def wl4 {A1 A2 A3 A4 : Type} {α : Type} (step : A1 → A2 → A3 → A4 → (A1 → A2 → A3 → A4 → Option α) → Option α) : Nat → A1 → A2 → A3 → A4 → Option α
  | 0 => fun _ _ _ _ => none
  | F + 1 => fun a1 a2 a3 a4 => step a1 a2 a3 a4 (wl4 step F)
theorem wl4_W {A1 A2 A3 A4 : Type} {α : Type} {step : A1 → A2 → A3 → A4 → (A1 → A2 → A3 → A4 → Option α) → Option α} {u : α} {Wg : A1 → A2 → A3 → A4 → Prop} (h : ∀ a1 a2 a3 a4 (c : A1 → A2 → A3 → A4 → Option α), (∀ b1 b2 b3 b4, c b1 b2 b3 b4 = some u → Wg b1 b2 b3 b4) → step a1 a2 a3 a4 c = some u → Wg a1 a2 a3 a4) : ∀ (F : Nat) a1 a2 a3 a4, wl4 step F a1 a2 a3 a4 = some u → Wg a1 a2 a3 a4 := by
  intro F
  induction F with
  | zero => intro a1 a2 a3 a4 hm; cases hm
  | succ F ih => intro a1 a2 a3 a4 hm; exact h a1 a2 a3 a4 (wl4 step F) ih hm
def bK5 {A1 A2 A3 A4 A5 : Type} {α : Type} (o : Option (A1 × A2 × A3 × A4 × A5)) (K : A1 → A2 → A3 → A4 → A5 → Option α) : Option α := o.bind (fun (a1, a2, a3, a4, a5) => K a1 a2 a3 a4 a5)
theorem bK5_some {A1 A2 A3 A4 A5 : Type} {α : Type} {o : Option (A1 × A2 × A3 × A4 × A5)} {K : A1 → A2 → A3 → A4 → A5 → Option α} {u : α} (h : bK5 o K = some u) : ∃ (a1 : A1) (a2 : A2) (a3 : A3) (a4 : A4) (a5 : A5), o = some (a1, a2, a3, a4, a5) ∧ K a1 a2 a3 a4 a5 = some u := by
  cases o with
  | none => cases h
  | some a =>
    obtain ⟨a1, a2, a3, a4, a5⟩ := a
    exact ⟨a1, a2, a3, a4, a5, rfl, h⟩
def jn5 {A1 A2 A3 A4 A5 : Type} {α : Type} (K : A1 → A2 → A3 → A4 → A5 → Option α) (body : (A1 → A2 → A3 → A4 → A5 → Option α) → Option α) : Option α := body K
theorem jn5_some {A1 A2 A3 A4 A5 : Type} {α : Type} {K : A1 → A2 → A3 → A4 → A5 → Option α} {body : (A1 → A2 → A3 → A4 → A5 → Option α) → Option α} {u : α} (h : jn5 K body = some u) : ∃ k : A1 → A2 → A3 → A4 → A5 → Option α, (∀ a1 a2 a3 a4 a5, k a1 a2 a3 a4 a5 = some u → K a1 a2 a3 a4 a5 = some u) ∧ body k = some u := ⟨K, fun _ _ _ _ _ h => h, h⟩
def wl5 {A1 A2 A3 A4 A5 : Type} {α : Type} (step : A1 → A2 → A3 → A4 → A5 → (A1 → A2 → A3 → A4 → A5 → Option α) → Option α) : Nat → A1 → A2 → A3 → A4 → A5 → Option α
  | 0 => fun _ _ _ _ _ => none
  | F + 1 => fun a1 a2 a3 a4 a5 => step a1 a2 a3 a4 a5 (wl5 step F)
theorem wl5_W {A1 A2 A3 A4 A5 : Type} {α : Type} {step : A1 → A2 → A3 → A4 → A5 → (A1 → A2 → A3 → A4 → A5 → Option α) → Option α} {u : α} {Wg : A1 → A2 → A3 → A4 → A5 → Prop} (h : ∀ a1 a2 a3 a4 a5 (c : A1 → A2 → A3 → A4 → A5 → Option α), (∀ b1 b2 b3 b4 b5, c b1 b2 b3 b4 b5 = some u → Wg b1 b2 b3 b4 b5) → step a1 a2 a3 a4 a5 c = some u → Wg a1 a2 a3 a4 a5) : ∀ (F : Nat) a1 a2 a3 a4 a5, wl5 step F a1 a2 a3 a4 a5 = some u → Wg a1 a2 a3 a4 a5 := by
  intro F
  induction F with
  | zero => intro a1 a2 a3 a4 a5 hm; cases hm
  | succ F ih => intro a1 a2 a3 a4 a5 hm; exact h a1 a2 a3 a4 a5 (wl5 step F) ih hm
def bK6 {A1 A2 A3 A4 A5 A6 : Type} {α : Type} (o : Option (A1 × A2 × A3 × A4 × A5 × A6)) (K : A1 → A2 → A3 → A4 → A5 → A6 → Option α) : Option α := o.bind (fun (a1, a2, a3, a4, a5, a6) => K a1 a2 a3 a4 a5 a6)
theorem bK6_some {A1 A2 A3 A4 A5 A6 : Type} {α : Type} {o : Option (A1 × A2 × A3 × A4 × A5 × A6)} {K : A1 → A2 → A3 → A4 → A5 → A6 → Option α} {u : α} (h : bK6 o K = some u) : ∃ (a1 : A1) (a2 : A2) (a3 : A3) (a4 : A4) (a5 : A5) (a6 : A6), o = some (a1, a2, a3, a4, a5, a6) ∧ K a1 a2 a3 a4 a5 a6 = some u := by
  cases o with
  | none => cases h
  | some a =>
    obtain ⟨a1, a2, a3, a4, a5, a6⟩ := a
    exact ⟨a1, a2, a3, a4, a5, a6, rfl, h⟩
def jn6 {A1 A2 A3 A4 A5 A6 : Type} {α : Type} (K : A1 → A2 → A3 → A4 → A5 → A6 → Option α) (body : (A1 → A2 → A3 → A4 → A5 → A6 → Option α) → Option α) : Option α := body K
theorem jn6_some {A1 A2 A3 A4 A5 A6 : Type} {α : Type} {K : A1 → A2 → A3 → A4 → A5 → A6 → Option α} {body : (A1 → A2 → A3 → A4 → A5 → A6 → Option α) → Option α} {u : α} (h : jn6 K body = some u) : ∃ k : A1 → A2 → A3 → A4 → A5 → A6 → Option α, (∀ a1 a2 a3 a4 a5 a6, k a1 a2 a3 a4 a5 a6 = some u → K a1 a2 a3 a4 a5 a6 = some u) ∧ body k = some u := ⟨K, fun _ _ _ _ _ _ h => h, h⟩
def wl6 {A1 A2 A3 A4 A5 A6 : Type} {α : Type} (step : A1 → A2 → A3 → A4 → A5 → A6 → (A1 → A2 → A3 → A4 → A5 → A6 → Option α) → Option α) : Nat → A1 → A2 → A3 → A4 → A5 → A6 → Option α
  | 0 => fun _ _ _ _ _ _ => none
  | F + 1 => fun a1 a2 a3 a4 a5 a6 => step a1 a2 a3 a4 a5 a6 (wl6 step F)
theorem wl6_W {A1 A2 A3 A4 A5 A6 : Type} {α : Type} {step : A1 → A2 → A3 → A4 → A5 → A6 → (A1 → A2 → A3 → A4 → A5 → A6 → Option α) → Option α} {u : α} {Wg : A1 → A2 → A3 → A4 → A5 → A6 → Prop} (h : ∀ a1 a2 a3 a4 a5 a6 (c : A1 → A2 → A3 → A4 → A5 → A6 → Option α), (∀ b1 b2 b3 b4 b5 b6, c b1 b2 b3 b4 b5 b6 = some u → Wg b1 b2 b3 b4 b5 b6) → step a1 a2 a3 a4 a5 a6 c = some u → Wg a1 a2 a3 a4 a5 a6) : ∀ (F : Nat) a1 a2 a3 a4 a5 a6, wl6 step F a1 a2 a3 a4 a5 a6 = some u → Wg a1 a2 a3 a4 a5 a6 := by
  intro F
  induction F with
  | zero => intro a1 a2 a3 a4 a5 a6 hm; cases hm
  | succ F ih => intro a1 a2 a3 a4 a5 a6 hm; exact h a1 a2 a3 a4 a5 a6 (wl6 step F) ih hm
def bK7 {A1 A2 A3 A4 A5 A6 A7 : Type} {α : Type} (o : Option (A1 × A2 × A3 × A4 × A5 × A6 × A7)) (K : A1 → A2 → A3 → A4 → A5 → A6 → A7 → Option α) : Option α := o.bind (fun (a1, a2, a3, a4, a5, a6, a7) => K a1 a2 a3 a4 a5 a6 a7)
theorem bK7_some {A1 A2 A3 A4 A5 A6 A7 : Type} {α : Type} {o : Option (A1 × A2 × A3 × A4 × A5 × A6 × A7)} {K : A1 → A2 → A3 → A4 → A5 → A6 → A7 → Option α} {u : α} (h : bK7 o K = some u) : ∃ (a1 : A1) (a2 : A2) (a3 : A3) (a4 : A4) (a5 : A5) (a6 : A6) (a7 : A7), o = some (a1, a2, a3, a4, a5, a6, a7) ∧ K a1 a2 a3 a4 a5 a6 a7 = some u := by
  cases o with
  | none => cases h
  | some a =>
    obtain ⟨a1, a2, a3, a4, a5, a6, a7⟩ := a
    exact ⟨a1, a2, a3, a4, a5, a6, a7, rfl, h⟩
def jn7 {A1 A2 A3 A4 A5 A6 A7 : Type} {α : Type} (K : A1 → A2 → A3 → A4 → A5 → A6 → A7 → Option α) (body : (A1 → A2 → A3 → A4 → A5 → A6 → A7 → Option α) → Option α) : Option α := body K
theorem jn7_some {A1 A2 A3 A4 A5 A6 A7 : Type} {α : Type} {K : A1 → A2 → A3 → A4 → A5 → A6 → A7 → Option α} {body : (A1 → A2 → A3 → A4 → A5 → A6 → A7 → Option α) → Option α} {u : α} (h : jn7 K body = some u) : ∃ k : A1 → A2 → A3 → A4 → A5 → A6 → A7 → Option α, (∀ a1 a2 a3 a4 a5 a6 a7, k a1 a2 a3 a4 a5 a6 a7 = some u → K a1 a2 a3 a4 a5 a6 a7 = some u) ∧ body k = some u := ⟨K, fun _ _ _ _ _ _ _ h => h, h⟩
def wl7 {A1 A2 A3 A4 A5 A6 A7 : Type} {α : Type} (step : A1 → A2 → A3 → A4 → A5 → A6 → A7 → (A1 → A2 → A3 → A4 → A5 → A6 → A7 → Option α) → Option α) : Nat → A1 → A2 → A3 → A4 → A5 → A6 → A7 → Option α
  | 0 => fun _ _ _ _ _ _ _ => none
  | F + 1 => fun a1 a2 a3 a4 a5 a6 a7 => step a1 a2 a3 a4 a5 a6 a7 (wl7 step F)
theorem wl7_W {A1 A2 A3 A4 A5 A6 A7 : Type} {α : Type} {step : A1 → A2 → A3 → A4 → A5 → A6 → A7 → (A1 → A2 → A3 → A4 → A5 → A6 → A7 → Option α) → Option α} {u : α} {Wg : A1 → A2 → A3 → A4 → A5 → A6 → A7 → Prop} (h : ∀ a1 a2 a3 a4 a5 a6 a7 (c : A1 → A2 → A3 → A4 → A5 → A6 → A7 → Option α), (∀ b1 b2 b3 b4 b5 b6 b7, c b1 b2 b3 b4 b5 b6 b7 = some u → Wg b1 b2 b3 b4 b5 b6 b7) → step a1 a2 a3 a4 a5 a6 a7 c = some u → Wg a1 a2 a3 a4 a5 a6 a7) : ∀ (F : Nat) a1 a2 a3 a4 a5 a6 a7, wl7 step F a1 a2 a3 a4 a5 a6 a7 = some u → Wg a1 a2 a3 a4 a5 a6 a7 := by
  intro F
  induction F with
  | zero => intro a1 a2 a3 a4 a5 a6 a7 hm; cases hm
  | succ F ih => intro a1 a2 a3 a4 a5 a6 a7 hm; exact h a1 a2 a3 a4 a5 a6 a7 (wl7 step F) ih hm
def bK8 {A1 A2 A3 A4 A5 A6 A7 A8 : Type} {α : Type} (o : Option (A1 × A2 × A3 × A4 × A5 × A6 × A7 × A8)) (K : A1 → A2 → A3 → A4 → A5 → A6 → A7 → A8 → Option α) : Option α := o.bind (fun (a1, a2, a3, a4, a5, a6, a7, a8) => K a1 a2 a3 a4 a5 a6 a7 a8)
theorem bK8_some {A1 A2 A3 A4 A5 A6 A7 A8 : Type} {α : Type} {o : Option (A1 × A2 × A3 × A4 × A5 × A6 × A7 × A8)} {K : A1 → A2 → A3 → A4 → A5 → A6 → A7 → A8 → Option α} {u : α} (h : bK8 o K = some u) : ∃ (a1 : A1) (a2 : A2) (a3 : A3) (a4 : A4) (a5 : A5) (a6 : A6) (a7 : A7) (a8 : A8), o = some (a1, a2, a3, a4, a5, a6, a7, a8) ∧ K a1 a2 a3 a4 a5 a6 a7 a8 = some u := by
  cases o with
  | none => cases h
  | some a =>
    obtain ⟨a1, a2, a3, a4, a5, a6, a7, a8⟩ := a
    exact ⟨a1, a2, a3, a4, a5, a6, a7, a8, rfl, h⟩
def jn8 {A1 A2 A3 A4 A5 A6 A7 A8 : Type} {α : Type} (K : A1 → A2 → A3 → A4 → A5 → A6 → A7 → A8 → Option α) (body : (A1 → A2 → A3 → A4 → A5 → A6 → A7 → A8 → Option α) → Option α) : Option α := body K
theorem jn8_some {A1 A2 A3 A4 A5 A6 A7 A8 : Type} {α : Type} {K : A1 → A2 → A3 → A4 → A5 → A6 → A7 → A8 → Option α} {body : (A1 → A2 → A3 → A4 → A5 → A6 → A7 → A8 → Option α) → Option α} {u : α} (h : jn8 K body = some u) : ∃ k : A1 → A2 → A3 → A4 → A5 → A6 → A7 → A8 → Option α, (∀ a1 a2 a3 a4 a5 a6 a7 a8, k a1 a2 a3 a4 a5 a6 a7 a8 = some u → K a1 a2 a3 a4 a5 a6 a7 a8 = some u) ∧ body k = some u := ⟨K, fun _ _ _ _ _ _ _ _ h => h, h⟩
def wl8 {A1 A2 A3 A4 A5 A6 A7 A8 : Type} {α : Type} (step : A1 → A2 → A3 → A4 → A5 → A6 → A7 → A8 → (A1 → A2 → A3 → A4 → A5 → A6 → A7 → A8 → Option α) → Option α) : Nat → A1 → A2 → A3 → A4 → A5 → A6 → A7 → A8 → Option α
  | 0 => fun _ _ _ _ _ _ _ _ => none
  | F + 1 => fun a1 a2 a3 a4 a5 a6 a7 a8 => step a1 a2 a3 a4 a5 a6 a7 a8 (wl8 step F)
theorem wl8_W {A1 A2 A3 A4 A5 A6 A7 A8 : Type} {α : Type} {step : A1 → A2 → A3 → A4 → A5 → A6 → A7 → A8 → (A1 → A2 → A3 → A4 → A5 → A6 → A7 → A8 → Option α) → Option α} {u : α} {Wg : A1 → A2 → A3 → A4 → A5 → A6 → A7 → A8 → Prop} (h : ∀ a1 a2 a3 a4 a5 a6 a7 a8 (c : A1 → A2 → A3 → A4 → A5 → A6 → A7 → A8 → Option α), (∀ b1 b2 b3 b4 b5 b6 b7 b8, c b1 b2 b3 b4 b5 b6 b7 b8 = some u → Wg b1 b2 b3 b4 b5 b6 b7 b8) → step a1 a2 a3 a4 a5 a6 a7 a8 c = some u → Wg a1 a2 a3 a4 a5 a6 a7 a8) : ∀ (F : Nat) a1 a2 a3 a4 a5 a6 a7 a8, wl8 step F a1 a2 a3 a4 a5 a6 a7 a8 = some u → Wg a1 a2 a3 a4 a5 a6 a7 a8 := by
  intro F
  induction F with
  | zero => intro a1 a2 a3 a4 a5 a6 a7 a8 hm; cases hm
  | succ F ih => intro a1 a2 a3 a4 a5 a6 a7 a8 hm; exact h a1 a2 a3 a4 a5 a6 a7 a8 (wl8 step F) ih hm
def bK9 {A1 A2 A3 A4 A5 A6 A7 A8 A9 : Type} {α : Type} (o : Option (A1 × A2 × A3 × A4 × A5 × A6 × A7 × A8 × A9)) (K : A1 → A2 → A3 → A4 → A5 → A6 → A7 → A8 → A9 → Option α) : Option α := o.bind (fun (a1, a2, a3, a4, a5, a6, a7, a8, a9) => K a1 a2 a3 a4 a5 a6 a7 a8 a9)
theorem bK9_some {A1 A2 A3 A4 A5 A6 A7 A8 A9 : Type} {α : Type} {o : Option (A1 × A2 × A3 × A4 × A5 × A6 × A7 × A8 × A9)} {K : A1 → A2 → A3 → A4 → A5 → A6 → A7 → A8 → A9 → Option α} {u : α} (h : bK9 o K = some u) : ∃ (a1 : A1) (a2 : A2) (a3 : A3) (a4 : A4) (a5 : A5) (a6 : A6) (a7 : A7) (a8 : A8) (a9 : A9), o = some (a1, a2, a3, a4, a5, a6, a7, a8, a9) ∧ K a1 a2 a3 a4 a5 a6 a7 a8 a9 = some u := by
  cases o with
  | none => cases h
  | some a =>
    obtain ⟨a1, a2, a3, a4, a5, a6, a7, a8, a9⟩ := a
    exact ⟨a1, a2, a3, a4, a5, a6, a7, a8, a9, rfl, h⟩
def jn9 {A1 A2 A3 A4 A5 A6 A7 A8 A9 : Type} {α : Type} (K : A1 → A2 → A3 → A4 → A5 → A6 → A7 → A8 → A9 → Option α) (body : (A1 → A2 → A3 → A4 → A5 → A6 → A7 → A8 → A9 → Option α) → Option α) : Option α := body K
theorem jn9_some {A1 A2 A3 A4 A5 A6 A7 A8 A9 : Type} {α : Type} {K : A1 → A2 → A3 → A4 → A5 → A6 → A7 → A8 → A9 → Option α} {body : (A1 → A2 → A3 → A4 → A5 → A6 → A7 → A8 → A9 → Option α) → Option α} {u : α} (h : jn9 K body = some u) : ∃ k : A1 → A2 → A3 → A4 → A5 → A6 → A7 → A8 → A9 → Option α, (∀ a1 a2 a3 a4 a5 a6 a7 a8 a9, k a1 a2 a3 a4 a5 a6 a7 a8 a9 = some u → K a1 a2 a3 a4 a5 a6 a7 a8 a9 = some u) ∧ body k = some u := ⟨K, fun _ _ _ _ _ _ _ _ _ h => h, h⟩
def wl9 {A1 A2 A3 A4 A5 A6 A7 A8 A9 : Type} {α : Type} (step : A1 → A2 → A3 → A4 → A5 → A6 → A7 → A8 → A9 → (A1 → A2 → A3 → A4 → A5 → A6 → A7 → A8 → A9 → Option α) → Option α) : Nat → A1 → A2 → A3 → A4 → A5 → A6 → A7 → A8 → A9 → Option α
  | 0 => fun _ _ _ _ _ _ _ _ _ => none
  | F + 1 => fun a1 a2 a3 a4 a5 a6 a7 a8 a9 => step a1 a2 a3 a4 a5 a6 a7 a8 a9 (wl9 step F)
theorem wl9_W {A1 A2 A3 A4 A5 A6 A7 A8 A9 : Type} {α : Type} {step : A1 → A2 → A3 → A4 → A5 → A6 → A7 → A8 → A9 → (A1 → A2 → A3 → A4 → A5 → A6 → A7 → A8 → A9 → Option α) → Option α} {u : α} {Wg : A1 → A2 → A3 → A4 → A5 → A6 → A7 → A8 → A9 → Prop} (h : ∀ a1 a2 a3 a4 a5 a6 a7 a8 a9 (c : A1 → A2 → A3 → A4 → A5 → A6 → A7 → A8 → A9 → Option α), (∀ b1 b2 b3 b4 b5 b6 b7 b8 b9, c b1 b2 b3 b4 b5 b6 b7 b8 b9 = some u → Wg b1 b2 b3 b4 b5 b6 b7 b8 b9) → step a1 a2 a3 a4 a5 a6 a7 a8 a9 c = some u → Wg a1 a2 a3 a4 a5 a6 a7 a8 a9) : ∀ (F : Nat) a1 a2 a3 a4 a5 a6 a7 a8 a9, wl9 step F a1 a2 a3 a4 a5 a6 a7 a8 a9 = some u → Wg a1 a2 a3 a4 a5 a6 a7 a8 a9 := by
  intro F
  induction F with
  | zero => intro a1 a2 a3 a4 a5 a6 a7 a8 a9 hm; cases hm
  | succ F ih => intro a1 a2 a3 a4 a5 a6 a7 a8 a9 hm; exact h a1 a2 a3 a4 a5 a6 a7 a8 a9 (wl9 step F) ih hm
def bK10 {A1 A2 A3 A4 A5 A6 A7 A8 A9 A10 : Type} {α : Type} (o : Option (A1 × A2 × A3 × A4 × A5 × A6 × A7 × A8 × A9 × A10)) (K : A1 → A2 → A3 → A4 → A5 → A6 → A7 → A8 → A9 → A10 → Option α) : Option α := o.bind (fun (a1, a2, a3, a4, a5, a6, a7, a8, a9, a10) => K a1 a2 a3 a4 a5 a6 a7 a8 a9 a10)
theorem bK10_some {A1 A2 A3 A4 A5 A6 A7 A8 A9 A10 : Type} {α : Type} {o : Option (A1 × A2 × A3 × A4 × A5 × A6 × A7 × A8 × A9 × A10)} {K : A1 → A2 → A3 → A4 → A5 → A6 → A7 → A8 → A9 → A10 → Option α} {u : α} (h : bK10 o K = some u) : ∃ (a1 : A1) (a2 : A2) (a3 : A3) (a4 : A4) (a5 : A5) (a6 : A6) (a7 : A7) (a8 : A8) (a9 : A9) (a10 : A10), o = some (a1, a2, a3, a4, a5, a6, a7, a8, a9, a10) ∧ K a1 a2 a3 a4 a5 a6 a7 a8 a9 a10 = some u := by
  cases o with
  | none => cases h
  | some a =>
    obtain ⟨a1, a2, a3, a4, a5, a6, a7, a8, a9, a10⟩ := a
    exact ⟨a1, a2, a3, a4, a5, a6, a7, a8, a9, a10, rfl, h⟩
def jn10 {A1 A2 A3 A4 A5 A6 A7 A8 A9 A10 : Type} {α : Type} (K : A1 → A2 → A3 → A4 → A5 → A6 → A7 → A8 → A9 → A10 → Option α) (body : (A1 → A2 → A3 → A4 → A5 → A6 → A7 → A8 → A9 → A10 → Option α) → Option α) : Option α := body K
theorem jn10_some {A1 A2 A3 A4 A5 A6 A7 A8 A9 A10 : Type} {α : Type} {K : A1 → A2 → A3 → A4 → A5 → A6 → A7 → A8 → A9 → A10 → Option α} {body : (A1 → A2 → A3 → A4 → A5 → A6 → A7 → A8 → A9 → A10 → Option α) → Option α} {u : α} (h : jn10 K body = some u) : ∃ k : A1 → A2 → A3 → A4 → A5 → A6 → A7 → A8 → A9 → A10 → Option α, (∀ a1 a2 a3 a4 a5 a6 a7 a8 a9 a10, k a1 a2 a3 a4 a5 a6 a7 a8 a9 a10 = some u → K a1 a2 a3 a4 a5 a6 a7 a8 a9 a10 = some u) ∧ body k = some u := ⟨K, fun _ _ _ _ _ _ _ _ _ _ h => h, h⟩
def wl10 {A1 A2 A3 A4 A5 A6 A7 A8 A9 A10 : Type} {α : Type} (step : A1 → A2 → A3 → A4 → A5 → A6 → A7 → A8 → A9 → A10 → (A1 → A2 → A3 → A4 → A5 → A6 → A7 → A8 → A9 → A10 → Option α) → Option α) : Nat → A1 → A2 → A3 → A4 → A5 → A6 → A7 → A8 → A9 → A10 → Option α
  | 0 => fun _ _ _ _ _ _ _ _ _ _ => none
  | F + 1 => fun a1 a2 a3 a4 a5 a6 a7 a8 a9 a10 => step a1 a2 a3 a4 a5 a6 a7 a8 a9 a10 (wl10 step F)
theorem wl10_W {A1 A2 A3 A4 A5 A6 A7 A8 A9 A10 : Type} {α : Type} {step : A1 → A2 → A3 → A4 → A5 → A6 → A7 → A8 → A9 → A10 → (A1 → A2 → A3 → A4 → A5 → A6 → A7 → A8 → A9 → A10 → Option α) → Option α} {u : α} {Wg : A1 → A2 → A3 → A4 → A5 → A6 → A7 → A8 → A9 → A10 → Prop} (h : ∀ a1 a2 a3 a4 a5 a6 a7 a8 a9 a10 (c : A1 → A2 → A3 → A4 → A5 → A6 → A7 → A8 → A9 → A10 → Option α), (∀ b1 b2 b3 b4 b5 b6 b7 b8 b9 b10, c b1 b2 b3 b4 b5 b6 b7 b8 b9 b10 = some u → Wg b1 b2 b3 b4 b5 b6 b7 b8 b9 b10) → step a1 a2 a3 a4 a5 a6 a7 a8 a9 a10 c = some u → Wg a1 a2 a3 a4 a5 a6 a7 a8 a9 a10) : ∀ (F : Nat) a1 a2 a3 a4 a5 a6 a7 a8 a9 a10, wl10 step F a1 a2 a3 a4 a5 a6 a7 a8 a9 a10 = some u → Wg a1 a2 a3 a4 a5 a6 a7 a8 a9 a10 := by
  intro F
  induction F with
  | zero => intro a1 a2 a3 a4 a5 a6 a7 a8 a9 a10 hm; cases hm
  | succ F ih => intro a1 a2 a3 a4 a5 a6 a7 a8 a9 a10 hm; exact h a1 a2 a3 a4 a5 a6 a7 a8 a9 a10 (wl10 step F) ih hm
def bK11 {A1 A2 A3 A4 A5 A6 A7 A8 A9 A10 A11 : Type} {α : Type} (o : Option (A1 × A2 × A3 × A4 × A5 × A6 × A7 × A8 × A9 × A10 × A11)) (K : A1 → A2 → A3 → A4 → A5 → A6 → A7 → A8 → A9 → A10 → A11 → Option α) : Option α := o.bind (fun (a1, a2, a3, a4, a5, a6, a7, a8, a9, a10, a11) => K a1 a2 a3 a4 a5 a6 a7 a8 a9 a10 a11)
theorem bK11_some {A1 A2 A3 A4 A5 A6 A7 A8 A9 A10 A11 : Type} {α : Type} {o : Option (A1 × A2 × A3 × A4 × A5 × A6 × A7 × A8 × A9 × A10 × A11)} {K : A1 → A2 → A3 → A4 → A5 → A6 → A7 → A8 → A9 → A10 → A11 → Option α} {u : α} (h : bK11 o K = some u) : ∃ (a1 : A1) (a2 : A2) (a3 : A3) (a4 : A4) (a5 : A5) (a6 : A6) (a7 : A7) (a8 : A8) (a9 : A9) (a10 : A10) (a11 : A11), o = some (a1, a2, a3, a4, a5, a6, a7, a8, a9, a10, a11) ∧ K a1 a2 a3 a4 a5 a6 a7 a8 a9 a10 a11 = some u := by
  cases o with
  | none => cases h
  | some a =>
    obtain ⟨a1, a2, a3, a4, a5, a6, a7, a8, a9, a10, a11⟩ := a
    exact ⟨a1, a2, a3, a4, a5, a6, a7, a8, a9, a10, a11, rfl, h⟩
def jn11 {A1 A2 A3 A4 A5 A6 A7 A8 A9 A10 A11 : Type} {α : Type} (K : A1 → A2 → A3 → A4 → A5 → A6 → A7 → A8 → A9 → A10 → A11 → Option α) (body : (A1 → A2 → A3 → A4 → A5 → A6 → A7 → A8 → A9 → A10 → A11 → Option α) → Option α) : Option α := body K
theorem jn11_some {A1 A2 A3 A4 A5 A6 A7 A8 A9 A10 A11 : Type} {α : Type} {K : A1 → A2 → A3 → A4 → A5 → A6 → A7 → A8 → A9 → A10 → A11 → Option α} {body : (A1 → A2 → A3 → A4 → A5 → A6 → A7 → A8 → A9 → A10 → A11 → Option α) → Option α} {u : α} (h : jn11 K body = some u) : ∃ k : A1 → A2 → A3 → A4 → A5 → A6 → A7 → A8 → A9 → A10 → A11 → Option α, (∀ a1 a2 a3 a4 a5 a6 a7 a8 a9 a10 a11, k a1 a2 a3 a4 a5 a6 a7 a8 a9 a10 a11 = some u → K a1 a2 a3 a4 a5 a6 a7 a8 a9 a10 a11 = some u) ∧ body k = some u := ⟨K, fun _ _ _ _ _ _ _ _ _ _ _ h => h, h⟩
def wl11 {A1 A2 A3 A4 A5 A6 A7 A8 A9 A10 A11 : Type} {α : Type} (step : A1 → A2 → A3 → A4 → A5 → A6 → A7 → A8 → A9 → A10 → A11 → (A1 → A2 → A3 → A4 → A5 → A6 → A7 → A8 → A9 → A10 → A11 → Option α) → Option α) : Nat → A1 → A2 → A3 → A4 → A5 → A6 → A7 → A8 → A9 → A10 → A11 → Option α
  | 0 => fun _ _ _ _ _ _ _ _ _ _ _ => none
  | F + 1 => fun a1 a2 a3 a4 a5 a6 a7 a8 a9 a10 a11 => step a1 a2 a3 a4 a5 a6 a7 a8 a9 a10 a11 (wl11 step F)
theorem wl11_W {A1 A2 A3 A4 A5 A6 A7 A8 A9 A10 A11 : Type} {α : Type} {step : A1 → A2 → A3 → A4 → A5 → A6 → A7 → A8 → A9 → A10 → A11 → (A1 → A2 → A3 → A4 → A5 → A6 → A7 → A8 → A9 → A10 → A11 → Option α) → Option α} {u : α} {Wg : A1 → A2 → A3 → A4 → A5 → A6 → A7 → A8 → A9 → A10 → A11 → Prop} (h : ∀ a1 a2 a3 a4 a5 a6 a7 a8 a9 a10 a11 (c : A1 → A2 → A3 → A4 → A5 → A6 → A7 → A8 → A9 → A10 → A11 → Option α), (∀ b1 b2 b3 b4 b5 b6 b7 b8 b9 b10 b11, c b1 b2 b3 b4 b5 b6 b7 b8 b9 b10 b11 = some u → Wg b1 b2 b3 b4 b5 b6 b7 b8 b9 b10 b11) → step a1 a2 a3 a4 a5 a6 a7 a8 a9 a10 a11 c = some u → Wg a1 a2 a3 a4 a5 a6 a7 a8 a9 a10 a11) : ∀ (F : Nat) a1 a2 a3 a4 a5 a6 a7 a8 a9 a10 a11, wl11 step F a1 a2 a3 a4 a5 a6 a7 a8 a9 a10 a11 = some u → Wg a1 a2 a3 a4 a5 a6 a7 a8 a9 a10 a11 := by
  intro F
  induction F with
  | zero => intro a1 a2 a3 a4 a5 a6 a7 a8 a9 a10 a11 hm; cases hm
  | succ F ih => intro a1 a2 a3 a4 a5 a6 a7 a8 a9 a10 a11 hm; exact h a1 a2 a3 a4 a5 a6 a7 a8 a9 a10 a11 (wl11 step F) ih hm
def bK12 {A1 A2 A3 A4 A5 A6 A7 A8 A9 A10 A11 A12 : Type} {α : Type} (o : Option (A1 × A2 × A3 × A4 × A5 × A6 × A7 × A8 × A9 × A10 × A11 × A12)) (K : A1 → A2 → A3 → A4 → A5 → A6 → A7 → A8 → A9 → A10 → A11 → A12 → Option α) : Option α := o.bind (fun (a1, a2, a3, a4, a5, a6, a7, a8, a9, a10, a11, a12) => K a1 a2 a3 a4 a5 a6 a7 a8 a9 a10 a11 a12)
theorem bK12_some {A1 A2 A3 A4 A5 A6 A7 A8 A9 A10 A11 A12 : Type} {α : Type} {o : Option (A1 × A2 × A3 × A4 × A5 × A6 × A7 × A8 × A9 × A10 × A11 × A12)} {K : A1 → A2 → A3 → A4 → A5 → A6 → A7 → A8 → A9 → A10 → A11 → A12 → Option α} {u : α} (h : bK12 o K = some u) : ∃ (a1 : A1) (a2 : A2) (a3 : A3) (a4 : A4) (a5 : A5) (a6 : A6) (a7 : A7) (a8 : A8) (a9 : A9) (a10 : A10) (a11 : A11) (a12 : A12), o = some (a1, a2, a3, a4, a5, a6, a7, a8, a9, a10, a11, a12) ∧ K a1 a2 a3 a4 a5 a6 a7 a8 a9 a10 a11 a12 = some u := by
  cases o with
  | none => cases h
  | some a =>
    obtain ⟨a1, a2, a3, a4, a5, a6, a7, a8, a9, a10, a11, a12⟩ := a
    exact ⟨a1, a2, a3, a4, a5, a6, a7, a8, a9, a10, a11, a12, rfl, h⟩
def jn12 {A1 A2 A3 A4 A5 A6 A7 A8 A9 A10 A11 A12 : Type} {α : Type} (K : A1 → A2 → A3 → A4 → A5 → A6 → A7 → A8 → A9 → A10 → A11 → A12 → Option α) (body : (A1 → A2 → A3 → A4 → A5 → A6 → A7 → A8 → A9 → A10 → A11 → A12 → Option α) → Option α) : Option α := body K
theorem jn12_some {A1 A2 A3 A4 A5 A6 A7 A8 A9 A10 A11 A12 : Type} {α : Type} {K : A1 → A2 → A3 → A4 → A5 → A6 → A7 → A8 → A9 → A10 → A11 → A12 → Option α} {body : (A1 → A2 → A3 → A4 → A5 → A6 → A7 → A8 → A9 → A10 → A11 → A12 → Option α) → Option α} {u : α} (h : jn12 K body = some u) : ∃ k : A1 → A2 → A3 → A4 → A5 → A6 → A7 → A8 → A9 → A10 → A11 → A12 → Option α, (∀ a1 a2 a3 a4 a5 a6 a7 a8 a9 a10 a11 a12, k a1 a2 a3 a4 a5 a6 a7 a8 a9 a10 a11 a12 = some u → K a1 a2 a3 a4 a5 a6 a7 a8 a9 a10 a11 a12 = some u) ∧ body k = some u := ⟨K, fun _ _ _ _ _ _ _ _ _ _ _ _ h => h, h⟩
def wl12 {A1 A2 A3 A4 A5 A6 A7 A8 A9 A10 A11 A12 : Type} {α : Type} (step : A1 → A2 → A3 → A4 → A5 → A6 → A7 → A8 → A9 → A10 → A11 → A12 → (A1 → A2 → A3 → A4 → A5 → A6 → A7 → A8 → A9 → A10 → A11 → A12 → Option α) → Option α) : Nat → A1 → A2 → A3 → A4 → A5 → A6 → A7 → A8 → A9 → A10 → A11 → A12 → Option α
  | 0 => fun _ _ _ _ _ _ _ _ _ _ _ _ => none
  | F + 1 => fun a1 a2 a3 a4 a5 a6 a7 a8 a9 a10 a11 a12 => step a1 a2 a3 a4 a5 a6 a7 a8 a9 a10 a11 a12 (wl12 step F)
theorem wl12_W {A1 A2 A3 A4 A5 A6 A7 A8 A9 A10 A11 A12 : Type} {α : Type} {step : A1 → A2 → A3 → A4 → A5 → A6 → A7 → A8 → A9 → A10 → A11 → A12 → (A1 → A2 → A3 → A4 → A5 → A6 → A7 → A8 → A9 → A10 → A11 → A12 → Option α) → Option α} {u : α} {Wg : A1 → A2 → A3 → A4 → A5 → A6 → A7 → A8 → A9 → A10 → A11 → A12 → Prop} (h : ∀ a1 a2 a3 a4 a5 a6 a7 a8 a9 a10 a11 a12 (c : A1 → A2 → A3 → A4 → A5 → A6 → A7 → A8 → A9 → A10 → A11 → A12 → Option α), (∀ b1 b2 b3 b4 b5 b6 b7 b8 b9 b10 b11 b12, c b1 b2 b3 b4 b5 b6 b7 b8 b9 b10 b11 b12 = some u → Wg b1 b2 b3 b4 b5 b6 b7 b8 b9 b10 b11 b12) → step a1 a2 a3 a4 a5 a6 a7 a8 a9 a10 a11 a12 c = some u → Wg a1 a2 a3 a4 a5 a6 a7 a8 a9 a10 a11 a12) : ∀ (F : Nat) a1 a2 a3 a4 a5 a6 a7 a8 a9 a10 a11 a12, wl12 step F a1 a2 a3 a4 a5 a6 a7 a8 a9 a10 a11 a12 = some u → Wg a1 a2 a3 a4 a5 a6 a7 a8 a9 a10 a11 a12 := by
  intro F
  induction F with
  | zero => intro a1 a2 a3 a4 a5 a6 a7 a8 a9 a10 a11 a12 hm; cases hm
  | succ F ih => intro a1 a2 a3 a4 a5 a6 a7 a8 a9 a10 a11 a12 hm; exact h a1 a2 a3 a4 a5 a6 a7 a8 a9 a10 a11 a12 (wl12 step F) ih hm
