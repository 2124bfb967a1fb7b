/-! ===== 31.base2: Wk: as Wb, with the cells and slots made so far ===== -/
def NIs : List Cond := [.methodLinkNest RX10 11 yX8_init "BreakLearner", .methodLinkNest RX10 25 yX3_init "BreakLearner", .methodLinkNest RX10 41 yX1_init "BreakLearner", .methodLinkNest RX10 48 yX9_init "BreakLearner", .methodLinkNest RX10 55 yX6_init "BreakLearner"]
def NI (U : State) : Prop := (∀ w ∈ NIs, va_Nw w U) ∧ va_AO "BreakLearner$Stock" U
theorem NI.warm {s U : State} (hW : s.WarmedH U.vm) (h : NI s) : NI U := by
  refine ⟨fun w hw => ?_, va_AO.moved hW.alike h.2⟩
  have h0 := h.1 w hw
  simp only [NIs, List.mem_cons, List.not_mem_nil, or_false] at hw
  rcases hw with rfl | rfl | rfl | rfl | rfl <;> exact va_Nw.warmM hW h0
theorem NI.same {u U : State} (he : u.vm = U.vm) (h : NI u) : NI U := by
  refine ⟨fun w hw => ?_, va_AO.moved (by rw [he]; exact Vm.Alike.refl _) h.2⟩
  have h0 := h.1 w hw
  have ht : w.onTables = true := by
    simp only [NIs, List.mem_cons, List.not_mem_nil, or_false] at hw
    rcases hw with rfl | rfl | rfl | rfl | rfl <;> rfl
  exact va_Nw.same ht he h0
def Wk : Ctx → Nat → Nat → va_W → List (Nat × Value) → Nat → List Value → Prop
  | (p, l, e, R, s, m, args, below, meth, c, A, Q, g, nL), kc, ns, w, lv, pc, st => ∀ (H : Heap) (locs : List Loc) (ls : Array Slot), va_P g.1 vwCl w H → va_D A w → va_S A s.heap H locs → lv_has ls nL lv → W p l e R s m args below meth c H locs kc ns Q (F0 m pc ls st)
def Ck : Ctx → Launch → Gl → ByteArray → String → Nat → Room → Prop
  | (p, l, _, R, s, m, args, _, _, c, A, _, g, nL), l', g', cc, own, nL', R' => p.tables.exec = Jvm.exec ∧ c.code = cc ∧ c.maxLocals = nL ∧ s.vm.findClass own = some m.cls ∧ (∀ w ∈ TB, w.before args s = true) ∧ va_K g.1 vwCl (TY g) s ∧ (∀ q : Nat, s.heap.size ≤ q → A q) ∧ (SG g.2.2 A s s.heap ∧ NW s ∧ NI s) ∧ l = l' ∧ g = g' ∧ nL = nL' ∧ R = R'
def Qe (g : Gl) (W1 : (Nat → Nat) → va_W) (A : Nat → Prop) : Array Value → State → Outcome → State → Prop := fun _ st oc t => oc = .returned none ∧ (∃ q : Nat → Nat, va_P g.1 vwCl (W1 q) t.heap ∧ va_D A (W1 q)) ∧ va_F A st t
def Cm : Ctx → ((Nat → Nat) → va_W) → Nat → Nat → Prop
  | (_, _, _, _, s, _, args, below, meth, _, A, Q, g, _), W1, mc, ms => meth.name = "<init>" ∧ meth.sig.returnType = none ∧ meth.locks = false ∧ Q = MQ below (Qe g W1 A) args s mc ms A
def Pe (g : Gl) (av : List Value) (w0 : va_W) (sz : Nat) : Array Value → State → Prop := va_Pc av (fun U => U.heap.size = sz ∧ va_P g.1 vwCl w0 U.heap ∧ va_K g.1 vwCl (TY g) U ∧ va_D (fun _ => True) w0 ∧ SG g.2.2 (va_A w0 sz) U U.heap ∧ NW U ∧ NI U)
def Ci (l : Launch) (g : Gl) (y : MethodName) (cc : ByteArray) (nL : Nat) (rm : Room) (av : List Value) (w0 : va_W) (mc ms : Nat) (W1 : (Nat → Nat) → va_W) : Prop :=
  ∀ sz : Nat, Met l y (.code y cc nL none :: TB) rm (Pe g av w0 sz) (Qe g W1 (va_A w0 sz)) mc ms (va_A w0 sz)
theorem entI {l : Launch} {g : Gl} {y : MethodName} {cc : ByteArray} {nL : Nat} {rm : Room} {av : List Value} {w0 : va_W} {mc ms : Nat} {W1 : (Nat → Nat) → va_W} {own : String} {lv : List (Nat × Value)}
    (hy : plainName y.cls = true) (ho : y.cls = own) (hyn : y.name = "<init>") (hn : (lg_sl av).length ≤ nL) (hlv : lv_args 0 av = lv)
    (body : ∀ x : Ctx, Ck x l g cc own nL rm → Cm x W1 mc ms → Wk x 0 0 w0 lv 0 []) : Ci l g y cc nL rm av w0 mc ms W1 := by
  intro sz
  refine Met.ofW (cc := cc) (maxL := nL) (ret := none) hy rfl ?_
  intro p e s m args below meth c s₁ B hml hv
  obtain ⟨rfl, hsz, hP, hK, hD0, hG, hNW, hNI⟩ := hv
  have hts := atoms_spec (ws := .code y cc nL none :: TB) B.pre
  have hown : s.vm.findClass own = some m.cls := by rw [← ho]; exact findClass_of_methodNamed B.named
  have hin : meth.name = "<init>" := by rw [← hyn]; exact (name_of_methodNamed B.named B.method).1
  subst hsz
  subst hlv
  have hl := lv_entry av (n := nL) hn
  rw [lg_entry_eq]
  exact body (p, l, e, rm, s, m, av.toArray, below, meth, c, va_A w0 s.heap.size, MQ below (Qe g W1 (va_A w0 s.heap.size)) av.toArray s mc ms (va_A w0 s.heap.size), g, nL)
    ⟨B.exec, B.bytes, hml, hown, fun w h => hts w (List.mem_cons_of_mem _ h), hK, fun q h => Or.inr h, ⟨hG, hNW, hNI⟩, rfl, rfl, rfl, rfl⟩ ⟨hin, B.returns, B.notSynchronized, rfl⟩
    s.heap [] _ hP hD0.self va_S.rf hl
theorem Wk.to {x : Ctx} {kc ns : Nat} {w w' : va_W} {lv : List (Nat × Value)} {pc : Nat} {st : List Value} (h : w = w') (k : Wk x kc ns w' lv pc st) : Wk x kc ns w lv pc st := h ▸ k
theorem Wk.lv {x : Ctx} {kc ns : Nat} {w : va_W} {lv lv' : List (Nat × Value)} {pc : Nat} {st : List Value} (k : Wk x kc ns w lv' pc st) (ks : List Nat) (h : lv_pick lv ks = lv') : Wk x kc ns w lv pc st := by
  obtain ⟨p, l1, e, R1, s, m, args, below, meth, c, A, Q, g1, n1⟩ := x
  intro H locs ls hP hD hS hl
  exact k H locs ls hP hD hS (lv_sub hl ks h)
theorem Wk.sub {x : Ctx} {kc ns : Nat} {w w' : va_W} {lv : List (Nat × Value)} {pc : Nat} {st : List Value} (is : List Nat) (hn : va_nd is = true) (hs : is.map (fun i => w[i]?) = w'.map some) (k : Wk x kc ns w' lv pc st) : Wk x kc ns w lv pc st := by
  obtain ⟨p, l1, e, R1, s, m, args, below, meth, c, A, Q, g1, n1⟩ := x
  intro H locs ls hP hD hS hl
  exact k H locs ls (hP.sub (ws' := w') is (by
    rw [show is.filterMap (fun i => w[i]?) = (is.map (fun i => w[i]?)).filterMap id by rw [List.filterMap_map]; rfl, hs, List.filterMap_map]
    exact List.filterMap_some)) (hD.sub is hn hs) hS hl
theorem g_iconst {x : Ctx} {l : Launch} {g : Gl} {cc : ByteArray} {own : String} {nL : Nat} {R : Room} (C : Ck x l g cc own nL R) {kc ns : Nat} {w : va_W} {lv : List (Nat × Value)} {pc : Nat} {st : List Value} {n : Int} {v : Int32} (hd : decode cc pc = .ok (.iconst n, 1)) (hv : Int32.ofInt n = v) (k : Wk x kc ns w lv (pc + 1) (.int v :: st)) : Wk x kc ns w lv pc st := by
  obtain ⟨p, l1, e, R1, s, m, args, below, meth, c, A, Q, g1, n1⟩ := x
  obtain ⟨hx, hb, hml, ho, hts, hK, hA, ⟨hG, hNW, hNI⟩, rfl, rfl, rfl, rfl⟩ := C
  intro H locs ls hP hD hS hl
  exact lv_iconst hx hb hd hv (k H locs ls hP hD hS hl)
theorem g_bipush {x : Ctx} {l : Launch} {g : Gl} {cc : ByteArray} {own : String} {nL : Nat} {R : Room} (C : Ck x l g cc own nL R) {kc ns : Nat} {w : va_W} {lv : List (Nat × Value)} {pc : Nat} {st : List Value} {n : Int} {v : Int32} (hd : decode cc pc = .ok (.bipush n, 2)) (hv : (Int8.ofInt n).toInt32 = v) (k : Wk x kc ns w lv (pc + 2) (.int v :: st)) : Wk x kc ns w lv pc st := by
  obtain ⟨p, l1, e, R1, s, m, args, below, meth, c, A, Q, g1, n1⟩ := x
  obtain ⟨hx, hb, hml, ho, hts, hK, hA, ⟨hG, hNW, hNI⟩, rfl, rfl, rfl, rfl⟩ := C
  intro H locs ls hP hD hS hl
  exact lv_bipush hx hb hd hv (k H locs ls hP hD hS hl)
theorem g_sipush {x : Ctx} {l : Launch} {g : Gl} {cc : ByteArray} {own : String} {nL : Nat} {R : Room} (C : Ck x l g cc own nL R) {kc ns : Nat} {w : va_W} {lv : List (Nat × Value)} {pc : Nat} {st : List Value} {n : Int} {v : Int32} (hd : decode cc pc = .ok (.sipush n, 3)) (hv : (Int16.ofInt n).toInt32 = v) (k : Wk x kc ns w lv (pc + 3) (.int v :: st)) : Wk x kc ns w lv pc st := by
  obtain ⟨p, l1, e, R1, s, m, args, below, meth, c, A, Q, g1, n1⟩ := x
  obtain ⟨hx, hb, hml, ho, hts, hK, hA, ⟨hG, hNW, hNI⟩, rfl, rfl, rfl, rfl⟩ := C
  intro H locs ls hP hD hS hl
  exact lv_sipush hx hb hd hv (k H locs ls hP hD hS hl)
theorem g_lconst {x : Ctx} {l : Launch} {g : Gl} {cc : ByteArray} {own : String} {nL : Nat} {R : Room} (C : Ck x l g cc own nL R) {kc ns : Nat} {w : va_W} {lv : List (Nat × Value)} {pc : Nat} {st : List Value} {n : Fin 2} {v : Int64} (hd : decode cc pc = .ok (.lconst n, 1)) (hv : Int64.ofNat (n : Nat) = v) (k : Wk x kc ns w lv (pc + 1) (.long v :: st)) : Wk x kc ns w lv pc st := by
  obtain ⟨p, l1, e, R1, s, m, args, below, meth, c, A, Q, g1, n1⟩ := x
  obtain ⟨hx, hb, hml, ho, hts, hK, hA, ⟨hG, hNW, hNI⟩, rfl, rfl, rfl, rfl⟩ := C
  intro H locs ls hP hD hS hl
  exact lv_lconst hx hb hd hv (k H locs ls hP hD hS hl)
theorem g_iload_n {x : Ctx} {l : Launch} {g : Gl} {cc : ByteArray} {own : String} {nL : Nat} {R : Room} (C : Ck x l g cc own nL R) {kc ns : Nat} {w : va_W} {lv : List (Nat × Value)} {pc : Nat} {st : List Value} {j : Fin 4} {i : Nat} {v : Int32} (hd : decode cc pc = .ok (.iload_n j, 1)) (hi : (j : Nat) = i) (t : Nat) (ht : lv[t]? = some (i, .int v)) (k : Wk x kc ns w lv (pc + 1) (.int v :: st)) : Wk x kc ns w lv pc st := by
  obtain ⟨p, l1, e, R1, s, m, args, below, meth, c, A, Q, g1, n1⟩ := x
  obtain ⟨hx, hb, hml, ho, hts, hK, hA, ⟨hG, hNW, hNI⟩, rfl, rfl, rfl, rfl⟩ := C
  intro H locs ls hP hD hS hl
  exact lv_iload_n hx hb hd hi (lv_at hl t ht) (k H locs ls hP hD hS hl)
theorem g_iload {x : Ctx} {l : Launch} {g : Gl} {cc : ByteArray} {own : String} {nL : Nat} {R : Room} (C : Ck x l g cc own nL R) {kc ns : Nat} {w : va_W} {lv : List (Nat × Value)} {pc : Nat} {st : List Value} {i : Nat} {v : Int32} (hd : decode cc pc = .ok (.iload i, 2)) (t : Nat) (ht : lv[t]? = some (i, .int v)) (k : Wk x kc ns w lv (pc + 2) (.int v :: st)) : Wk x kc ns w lv pc st := by
  obtain ⟨p, l1, e, R1, s, m, args, below, meth, c, A, Q, g1, n1⟩ := x
  obtain ⟨hx, hb, hml, ho, hts, hK, hA, ⟨hG, hNW, hNI⟩, rfl, rfl, rfl, rfl⟩ := C
  intro H locs ls hP hD hS hl
  exact lv_iload hx hb hd (lv_at hl t ht) (k H locs ls hP hD hS hl)
theorem g_lload_n {x : Ctx} {l : Launch} {g : Gl} {cc : ByteArray} {own : String} {nL : Nat} {R : Room} (C : Ck x l g cc own nL R) {kc ns : Nat} {w : va_W} {lv : List (Nat × Value)} {pc : Nat} {st : List Value} {j : Fin 4} {i : Nat} {v : Int64} (hd : decode cc pc = .ok (.lload_n j, 1)) (hi : (j : Nat) = i) (t : Nat) (ht : lv[t]? = some (i, .long v)) (k : Wk x kc ns w lv (pc + 1) (.long v :: st)) : Wk x kc ns w lv pc st := by
  obtain ⟨p, l1, e, R1, s, m, args, below, meth, c, A, Q, g1, n1⟩ := x
  obtain ⟨hx, hb, hml, ho, hts, hK, hA, ⟨hG, hNW, hNI⟩, rfl, rfl, rfl, rfl⟩ := C
  intro H locs ls hP hD hS hl
  exact lv_lload_n hx hb hd hi (lv_at hl t ht) (k H locs ls hP hD hS hl)
theorem g_lload {x : Ctx} {l : Launch} {g : Gl} {cc : ByteArray} {own : String} {nL : Nat} {R : Room} (C : Ck x l g cc own nL R) {kc ns : Nat} {w : va_W} {lv : List (Nat × Value)} {pc : Nat} {st : List Value} {i : Nat} {v : Int64} (hd : decode cc pc = .ok (.lload i, 2)) (t : Nat) (ht : lv[t]? = some (i, .long v)) (k : Wk x kc ns w lv (pc + 2) (.long v :: st)) : Wk x kc ns w lv pc st := by
  obtain ⟨p, l1, e, R1, s, m, args, below, meth, c, A, Q, g1, n1⟩ := x
  obtain ⟨hx, hb, hml, ho, hts, hK, hA, ⟨hG, hNW, hNI⟩, rfl, rfl, rfl, rfl⟩ := C
  intro H locs ls hP hD hS hl
  exact lv_lload hx hb hd (lv_at hl t ht) (k H locs ls hP hD hS hl)
theorem g_aload_n {x : Ctx} {l : Launch} {g : Gl} {cc : ByteArray} {own : String} {nL : Nat} {R : Room} (C : Ck x l g cc own nL R) {kc ns : Nat} {w : va_W} {lv : List (Nat × Value)} {pc : Nat} {st : List Value} {j : Fin 4} {i : Nat} {v : Nat} (hd : decode cc pc = .ok (.aload_n j, 1)) (hi : (j : Nat) = i) (t : Nat) (ht : lv[t]? = some (i, .ref v)) (k : Wk x kc ns w lv (pc + 1) (.ref v :: st)) : Wk x kc ns w lv pc st := by
  obtain ⟨p, l1, e, R1, s, m, args, below, meth, c, A, Q, g1, n1⟩ := x
  obtain ⟨hx, hb, hml, ho, hts, hK, hA, ⟨hG, hNW, hNI⟩, rfl, rfl, rfl, rfl⟩ := C
  intro H locs ls hP hD hS hl
  exact lv_aload_n hx hb hd hi (lv_at hl t ht) (k H locs ls hP hD hS hl)
theorem g_aload {x : Ctx} {l : Launch} {g : Gl} {cc : ByteArray} {own : String} {nL : Nat} {R : Room} (C : Ck x l g cc own nL R) {kc ns : Nat} {w : va_W} {lv : List (Nat × Value)} {pc : Nat} {st : List Value} {i : Nat} {v : Nat} (hd : decode cc pc = .ok (.aload i, 2)) (t : Nat) (ht : lv[t]? = some (i, .ref v)) (k : Wk x kc ns w lv (pc + 2) (.ref v :: st)) : Wk x kc ns w lv pc st := by
  obtain ⟨p, l1, e, R1, s, m, args, below, meth, c, A, Q, g1, n1⟩ := x
  obtain ⟨hx, hb, hml, ho, hts, hK, hA, ⟨hG, hNW, hNI⟩, rfl, rfl, rfl, rfl⟩ := C
  intro H locs ls hP hD hS hl
  exact lv_aload hx hb hd (lv_at hl t ht) (k H locs ls hP hD hS hl)
theorem g_istore_n {x : Ctx} {l : Launch} {g : Gl} {cc : ByteArray} {own : String} {nL : Nat} {R : Room} (C : Ck x l g cc own nL R) {kc ns : Nat} {w : va_W} {lv : List (Nat × Value)} {pc : Nat} {st : List Value} {j : Fin 4} {i : Nat} {v : Int32} {lv' : List (Nat × Value)} (hd : decode cc pc = .ok (.istore_n j, 1)) (hi : (j : Nat) = i) (hn : i < nL) (hl2 : (i, Value.int v) :: lv.filter (fun q => !(q.1 == i) && !(q.1 + 1 == i && q.2.category == 2)) = lv') (k : Wk x kc ns w lv' (pc + 1) st) : Wk x kc ns w lv pc (.int v :: st) := by
  obtain ⟨p, l1, e, R1, s, m, args, below, meth, c, A, Q, g1, n1⟩ := x
  obtain ⟨hx, hb, hml, ho, hts, hK, hA, ⟨hG, hNW, hNI⟩, rfl, rfl, rfl, rfl⟩ := C
  intro H locs ls hP hD hS hl
  exact lv_istore_n hx hb hd hi hl hn hl2 (fun ls hl => k H locs ls hP hD hS hl)
theorem g_istore {x : Ctx} {l : Launch} {g : Gl} {cc : ByteArray} {own : String} {nL : Nat} {R : Room} (C : Ck x l g cc own nL R) {kc ns : Nat} {w : va_W} {lv : List (Nat × Value)} {pc : Nat} {st : List Value} {i : Nat} {v : Int32} {lv' : List (Nat × Value)} (hd : decode cc pc = .ok (.istore i, 2)) (hn : i < nL) (hl2 : (i, Value.int v) :: lv.filter (fun q => !(q.1 == i) && !(q.1 + 1 == i && q.2.category == 2)) = lv') (k : Wk x kc ns w lv' (pc + 2) st) : Wk x kc ns w lv pc (.int v :: st) := by
  obtain ⟨p, l1, e, R1, s, m, args, below, meth, c, A, Q, g1, n1⟩ := x
  obtain ⟨hx, hb, hml, ho, hts, hK, hA, ⟨hG, hNW, hNI⟩, rfl, rfl, rfl, rfl⟩ := C
  intro H locs ls hP hD hS hl
  exact lv_istore hx hb hd hl hn hl2 (fun ls hl => k H locs ls hP hD hS hl)
theorem g_astore_n {x : Ctx} {l : Launch} {g : Gl} {cc : ByteArray} {own : String} {nL : Nat} {R : Room} (C : Ck x l g cc own nL R) {kc ns : Nat} {w : va_W} {lv : List (Nat × Value)} {pc : Nat} {st : List Value} {j : Fin 4} {i : Nat} {v : Nat} {lv' : List (Nat × Value)} (hd : decode cc pc = .ok (.astore_n j, 1)) (hi : (j : Nat) = i) (hn : i < nL) (hl2 : (i, Value.ref v) :: lv.filter (fun q => !(q.1 == i) && !(q.1 + 1 == i && q.2.category == 2)) = lv') (k : Wk x kc ns w lv' (pc + 1) st) : Wk x kc ns w lv pc (.ref v :: st) := by
  obtain ⟨p, l1, e, R1, s, m, args, below, meth, c, A, Q, g1, n1⟩ := x
  obtain ⟨hx, hb, hml, ho, hts, hK, hA, ⟨hG, hNW, hNI⟩, rfl, rfl, rfl, rfl⟩ := C
  intro H locs ls hP hD hS hl
  exact lv_astore_n hx hb hd hi hl hn hl2 (fun ls hl => k H locs ls hP hD hS hl)
theorem g_astore {x : Ctx} {l : Launch} {g : Gl} {cc : ByteArray} {own : String} {nL : Nat} {R : Room} (C : Ck x l g cc own nL R) {kc ns : Nat} {w : va_W} {lv : List (Nat × Value)} {pc : Nat} {st : List Value} {i : Nat} {v : Nat} {lv' : List (Nat × Value)} (hd : decode cc pc = .ok (.astore i, 2)) (hn : i < nL) (hl2 : (i, Value.ref v) :: lv.filter (fun q => !(q.1 == i) && !(q.1 + 1 == i && q.2.category == 2)) = lv') (k : Wk x kc ns w lv' (pc + 2) st) : Wk x kc ns w lv pc (.ref v :: st) := by
  obtain ⟨p, l1, e, R1, s, m, args, below, meth, c, A, Q, g1, n1⟩ := x
  obtain ⟨hx, hb, hml, ho, hts, hK, hA, ⟨hG, hNW, hNI⟩, rfl, rfl, rfl, rfl⟩ := C
  intro H locs ls hP hD hS hl
  exact lv_astore hx hb hd hl hn hl2 (fun ls hl => k H locs ls hP hD hS hl)
theorem g_iinc {x : Ctx} {l : Launch} {g : Gl} {cc : ByteArray} {own : String} {nL : Nat} {R : Room} (C : Ck x l g cc own nL R) {kc ns : Nat} {w : va_W} {lv : List (Nat × Value)} {pc : Nat} {st : List Value} {i : Nat} {n : Int} {v v2 : Int32} {lv' : List (Nat × Value)} (hd : decode cc pc = .ok (.iinc i n, 3)) (t : Nat) (ht : lv[t]? = some (i, .int v)) (hv : v + Int32.ofInt n = v2) (hn : i < nL) (hl2 : (i, Value.int v2) :: lv.filter (fun q => !(q.1 == i) && !(q.1 + 1 == i && q.2.category == 2)) = lv') (k : Wk x kc ns w lv' (pc + 3) st) : Wk x kc ns w lv pc st := by
  obtain ⟨p, l1, e, R1, s, m, args, below, meth, c, A, Q, g1, n1⟩ := x
  obtain ⟨hx, hb, hml, ho, hts, hK, hA, ⟨hG, hNW, hNI⟩, rfl, rfl, rfl, rfl⟩ := C
  intro H locs ls hP hD hS hl
  exact lv_iinc hx hb hd hl ht hv hn hl2 (fun ls hl => k H locs ls hP hD hS hl)
theorem g_iadd {x : Ctx} {l : Launch} {g : Gl} {cc : ByteArray} {own : String} {nL : Nat} {R : Room} (C : Ck x l g cc own nL R) {kc ns : Nat} {w : va_W} {lv : List (Nat × Value)} {pc : Nat} {st : List Value} {v y : Int32} (hd : decode cc pc = .ok (.iadd, 1)) (k : Wk x kc ns w lv (pc + 1) (.int (v + y) :: st)) : Wk x kc ns w lv pc (.int y :: .int v :: st) := by
  obtain ⟨p, l1, e, R1, s, m, args, below, meth, c, A, Q, g1, n1⟩ := x
  obtain ⟨hx, hb, hml, ho, hts, hK, hA, ⟨hG, hNW, hNI⟩, rfl, rfl, rfl, rfl⟩ := C
  intro H locs ls hP hD hS hl
  exact lv_iadd hx hb hd (k H locs ls hP hD hS hl)
theorem g_isub {x : Ctx} {l : Launch} {g : Gl} {cc : ByteArray} {own : String} {nL : Nat} {R : Room} (C : Ck x l g cc own nL R) {kc ns : Nat} {w : va_W} {lv : List (Nat × Value)} {pc : Nat} {st : List Value} {v y : Int32} (hd : decode cc pc = .ok (.isub, 1)) (k : Wk x kc ns w lv (pc + 1) (.int (v - y) :: st)) : Wk x kc ns w lv pc (.int y :: .int v :: st) := by
  obtain ⟨p, l1, e, R1, s, m, args, below, meth, c, A, Q, g1, n1⟩ := x
  obtain ⟨hx, hb, hml, ho, hts, hK, hA, ⟨hG, hNW, hNI⟩, rfl, rfl, rfl, rfl⟩ := C
  intro H locs ls hP hD hS hl
  exact lv_isub hx hb hd (k H locs ls hP hD hS hl)
theorem g_imul {x : Ctx} {l : Launch} {g : Gl} {cc : ByteArray} {own : String} {nL : Nat} {R : Room} (C : Ck x l g cc own nL R) {kc ns : Nat} {w : va_W} {lv : List (Nat × Value)} {pc : Nat} {st : List Value} {v y : Int32} (hd : decode cc pc = .ok (.imul, 1)) (k : Wk x kc ns w lv (pc + 1) (.int (v * y) :: st)) : Wk x kc ns w lv pc (.int y :: .int v :: st) := by
  obtain ⟨p, l1, e, R1, s, m, args, below, meth, c, A, Q, g1, n1⟩ := x
  obtain ⟨hx, hb, hml, ho, hts, hK, hA, ⟨hG, hNW, hNI⟩, rfl, rfl, rfl, rfl⟩ := C
  intro H locs ls hP hD hS hl
  exact lv_imul hx hb hd (k H locs ls hP hD hS hl)
theorem g_iand {x : Ctx} {l : Launch} {g : Gl} {cc : ByteArray} {own : String} {nL : Nat} {R : Room} (C : Ck x l g cc own nL R) {kc ns : Nat} {w : va_W} {lv : List (Nat × Value)} {pc : Nat} {st : List Value} {v y : Int32} (hd : decode cc pc = .ok (.iand, 1)) (k : Wk x kc ns w lv (pc + 1) (.int (v &&& y) :: st)) : Wk x kc ns w lv pc (.int y :: .int v :: st) := by
  obtain ⟨p, l1, e, R1, s, m, args, below, meth, c, A, Q, g1, n1⟩ := x
  obtain ⟨hx, hb, hml, ho, hts, hK, hA, ⟨hG, hNW, hNI⟩, rfl, rfl, rfl, rfl⟩ := C
  intro H locs ls hP hD hS hl
  exact lv_iand hx hb hd (k H locs ls hP hD hS hl)
theorem g_land {x : Ctx} {l : Launch} {g : Gl} {cc : ByteArray} {own : String} {nL : Nat} {R : Room} (C : Ck x l g cc own nL R) {kc ns : Nat} {w : va_W} {lv : List (Nat × Value)} {pc : Nat} {st : List Value} {v y : Int64} (hd : decode cc pc = .ok (.land, 1)) (k : Wk x kc ns w lv (pc + 1) (.long (v &&& y) :: st)) : Wk x kc ns w lv pc (.long y :: .long v :: st) := by
  obtain ⟨p, l1, e, R1, s, m, args, below, meth, c, A, Q, g1, n1⟩ := x
  obtain ⟨hx, hb, hml, ho, hts, hK, hA, ⟨hG, hNW, hNI⟩, rfl, rfl, rfl, rfl⟩ := C
  intro H locs ls hP hD hS hl
  exact lv_land hx hb hd (k H locs ls hP hD hS hl)
theorem g_lor {x : Ctx} {l : Launch} {g : Gl} {cc : ByteArray} {own : String} {nL : Nat} {R : Room} (C : Ck x l g cc own nL R) {kc ns : Nat} {w : va_W} {lv : List (Nat × Value)} {pc : Nat} {st : List Value} {v y : Int64} (hd : decode cc pc = .ok (.lor, 1)) (k : Wk x kc ns w lv (pc + 1) (.long (v ||| y) :: st)) : Wk x kc ns w lv pc (.long y :: .long v :: st) := by
  obtain ⟨p, l1, e, R1, s, m, args, below, meth, c, A, Q, g1, n1⟩ := x
  obtain ⟨hx, hb, hml, ho, hts, hK, hA, ⟨hG, hNW, hNI⟩, rfl, rfl, rfl, rfl⟩ := C
  intro H locs ls hP hD hS hl
  exact lv_lor hx hb hd (k H locs ls hP hD hS hl)
theorem g_lshl {x : Ctx} {l : Launch} {g : Gl} {cc : ByteArray} {own : String} {nL : Nat} {R : Room} (C : Ck x l g cc own nL R) {kc ns : Nat} {w : va_W} {lv : List (Nat × Value)} {pc : Nat} {st : List Value} {v : Int64} {y : Int32} (hd : decode cc pc = .ok (.lshl, 1)) (k : Wk x kc ns w lv (pc + 1) (.long (v <<< (y.toInt64 &&& 63)) :: st)) : Wk x kc ns w lv pc (.int y :: .long v :: st) := by
  obtain ⟨p, l1, e, R1, s, m, args, below, meth, c, A, Q, g1, n1⟩ := x
  obtain ⟨hx, hb, hml, ho, hts, hK, hA, ⟨hG, hNW, hNI⟩, rfl, rfl, rfl, rfl⟩ := C
  intro H locs ls hP hD hS hl
  exact lv_lshl hx hb hd rfl (k H locs ls hP hD hS hl)
theorem g_i2l {x : Ctx} {l : Launch} {g : Gl} {cc : ByteArray} {own : String} {nL : Nat} {R : Room} (C : Ck x l g cc own nL R) {kc ns : Nat} {w : va_W} {lv : List (Nat × Value)} {pc : Nat} {st : List Value} {v : Int32} (hd : decode cc pc = .ok (.i2l, 1)) (k : Wk x kc ns w lv (pc + 1) (.long v.toInt64 :: st)) : Wk x kc ns w lv pc (.int v :: st) := by
  obtain ⟨p, l1, e, R1, s, m, args, below, meth, c, A, Q, g1, n1⟩ := x
  obtain ⟨hx, hb, hml, ho, hts, hK, hA, ⟨hG, hNW, hNI⟩, rfl, rfl, rfl, rfl⟩ := C
  intro H locs ls hP hD hS hl
  exact lv_i2l hx hb hd rfl (k H locs ls hP hD hS hl)
theorem g_l2i {x : Ctx} {l : Launch} {g : Gl} {cc : ByteArray} {own : String} {nL : Nat} {R : Room} (C : Ck x l g cc own nL R) {kc ns : Nat} {w : va_W} {lv : List (Nat × Value)} {pc : Nat} {st : List Value} {v : Int64} (hd : decode cc pc = .ok (.l2i, 1)) (k : Wk x kc ns w lv (pc + 1) (.int v.toInt32 :: st)) : Wk x kc ns w lv pc (.long v :: st) := by
  obtain ⟨p, l1, e, R1, s, m, args, below, meth, c, A, Q, g1, n1⟩ := x
  obtain ⟨hx, hb, hml, ho, hts, hK, hA, ⟨hG, hNW, hNI⟩, rfl, rfl, rfl, rfl⟩ := C
  intro H locs ls hP hD hS hl
  exact lv_l2i hx hb hd rfl (k H locs ls hP hD hS hl)
theorem g_dup {x : Ctx} {l : Launch} {g : Gl} {cc : ByteArray} {own : String} {nL : Nat} {R : Room} (C : Ck x l g cc own nL R) {kc ns : Nat} {w : va_W} {lv : List (Nat × Value)} {pc : Nat} {st : List Value} {va : Value} (hd : decode cc pc = .ok (.dup, 1)) (hva : va.category = 1) (k : Wk x kc ns w lv (pc + 1) (va :: va :: st)) : Wk x kc ns w lv pc (va :: st) := by
  obtain ⟨p, l1, e, R1, s, m, args, below, meth, c, A, Q, g1, n1⟩ := x
  obtain ⟨hx, hb, hml, ho, hts, hK, hA, ⟨hG, hNW, hNI⟩, rfl, rfl, rfl, rfl⟩ := C
  intro H locs ls hP hD hS hl
  exact lv_dup hx hb hd hva (k H locs ls hP hD hS hl)
theorem g_goto {x : Ctx} {l : Launch} {g : Gl} {cc : ByteArray} {own : String} {nL : Nat} {R : Room} (C : Ck x l g cc own nL R) {kc ns : Nat} {w : va_W} {lv : List (Nat × Value)} {pc : Nat} {st : List Value} {off : Int} {tgt : Nat} (hd : decode cc pc = .ok (.goto off, 3)) (ht : (pc : Int) + off = (tgt : Int)) (k : Wk x kc ns w lv tgt st) : Wk x kc ns w lv pc st := by
  obtain ⟨p, l1, e, R1, s, m, args, below, meth, c, A, Q, g1, n1⟩ := x
  obtain ⟨hx, hb, hml, ho, hts, hK, hA, ⟨hG, hNW, hNI⟩, rfl, rfl, rfl, rfl⟩ := C
  intro H locs ls hP hD hS hl
  exact lv_goto hx hb hd ht (k H locs ls hP hD hS hl)
theorem g_ldc2 {x : Ctx} {l : Launch} {g : Gl} {cc : ByteArray} {own : String} {nL : Nat} {R : Room} (C : Ck x l g cc own nL R) {kc ns : Nat} {w : va_W} {lv : List (Nat × Value)} {pc : Nat} {st : List Value} {index : Nat} {v : Int64} (hw : Cond.constantLong own index v ∈ TB) (hd : decode cc pc = .ok (.ldc2_w index, 3)) (k : Wk x kc ns w lv (pc + 3) (.long v :: st)) : Wk x kc ns w lv pc st := by
  obtain ⟨p, l1, e, R1, s, m, args, below, meth, c, A, Q, g1, n1⟩ := x
  obtain ⟨hx, hb, hml, ho, hts, hK, hA, ⟨hG, hNW, hNI⟩, rfl, rfl, rfl, rfl⟩ := C
  intro H locs ls hP hD hS hl
  exact lv_ldc2 hx hb ho (hts _ hw) hd (k H locs ls hP hD hS hl)
theorem g_lcmp {x : Ctx} {l : Launch} {g : Gl} {cc : ByteArray} {own : String} {nL : Nat} {R : Room} (C : Ck x l g cc own nL R) {kc ns : Nat} {w : va_W} {lv : List (Nat × Value)} {pc : Nat} {st : List Value} {v y : Int64} (hd : decode cc pc = .ok (.lcmp, 1)) (k : Wk x kc ns w lv (pc + 1) (.int (lg_cmp v y) :: st)) : Wk x kc ns w lv pc (.long y :: .long v :: st) := by
  obtain ⟨p, l1, e, R1, s, m, args, below, meth, c, A, Q, g1, n1⟩ := x
  obtain ⟨hx, hb, hml, ho, hts, hK, hA, ⟨hG, hNW, hNI⟩, rfl, rfl, rfl, rfl⟩ := C
  intro H locs ls hP hD hS hl
  exact W.lcmp hx hb hd (k H locs ls hP hD hS hl)
theorem g_tin {x : Ctx} {l : Launch} {g : Gl} {cc : ByteArray} {own : String} {nL : Nat} {R : Room} (C : Ck x l g cc own nL R) {kc ns : Nat} {w : va_W} {lv : List (Nat × Value)} {pc : Nat} {st : List Value} {v kk : Int32} {dflt lo hi : Int} {offs : Array Int} {len : Nat} {off : Int} {tgt : Nat} (h : v = kk) (hd : decode cc pc = .ok (.tableswitch dflt lo hi offs, len)) (h1 : ¬ kk.toInt < lo) (h2 : ¬ hi < kk.toInt) (h3 : offs[(kk.toInt - lo).toNat]? = some off) (ht : (pc : Int) + off = (tgt : Int)) (k : Wk x kc ns w lv tgt st) : Wk x kc ns w lv pc (.int v :: st) := by
  subst h
  obtain ⟨p, l1, e, R1, s, m, args, below, meth, c, A, Q, g1, n1⟩ := x
  obtain ⟨hx, hb, hml, ho, hts, hK, hA, ⟨hG, hNW, hNI⟩, rfl, rfl, rfl, rfl⟩ := C
  intro H locs ls hP hD hS hl
  exact lv_tableIn hx hb hd h1 h2 h3 ht (k H locs ls hP hD hS hl)
theorem g_tout {x : Ctx} {l : Launch} {g : Gl} {cc : ByteArray} {own : String} {nL : Nat} {R : Room} (C : Ck x l g cc own nL R) {kc ns : Nat} {w : va_W} {lv : List (Nat × Value)} {pc : Nat} {st : List Value} {v : Int32} {dflt lo hi : Int} {offs : Array Int} {len : Nat} {tgt : Nat} (hd : decode cc pc = .ok (.tableswitch dflt lo hi offs, len)) (h : v.toInt < lo ∨ hi < v.toInt) (ht : (pc : Int) + dflt = (tgt : Int)) (k : Wk x kc ns w lv tgt st) : Wk x kc ns w lv pc (.int v :: st) := by
  obtain ⟨p, l1, e, R1, s, m, args, below, meth, c, A, Q, g1, n1⟩ := x
  obtain ⟨hx, hb, hml, ho, hts, hK, hA, ⟨hG, hNW, hNI⟩, rfl, rfl, rfl, rfl⟩ := C
  intro H locs ls hP hD hS hl
  exact lv_tableOut hx hb hd h ht (k H locs ls hP hD hS hl)
theorem g_get {x : Ctx} {l : Launch} {g : Gl} {cc : ByteArray} {own : String} {nL : Nat} {R : Room} (C : Ck x l g cc own nL R) {kc ns : Nat} {w : va_W} {lv : List (Nat × Value)} {pc : Nat} {st : List Value} {Cn ref : String} {T : u_T} {N ci index : Nat} (hin : ∀ w ∈ u_ws Cn T N, w ∈ TB) (hc : vwCl[ci]? = some (Cn, T, N)) (k0 : Nat) (hk : k0 < N) (hlink : Cond.fieldLink own index ref (T k0).2.1 (T k0).2.2.1 ∈ TB) (hsame : ref = (T k0).1) {a : Nat} (q0 : Nat) {fs : List Value} (he : w[q0]? = some (a, .inr (ci, fs))) {v : Value} (hv : fs[k0]? = some v) (hd : decode cc pc = .ok (.getfield index, 3)) (k : Wk x kc ns w lv (pc + 3) (v :: st)) : Wk x kc ns w lv pc (.ref a :: st) := by
  subst hsame
  obtain ⟨p, l1, e, R1, s, m, args, below, meth, c, A, Q, g1, n1⟩ := x
  obtain ⟨hx, hb, hml, ho, hts, hK, hA, ⟨hG, hNW, hNI⟩, rfl, rfl, rfl, rfl⟩ := C
  intro H locs ls hP hD hS hl
  exact va_get hx hb hts hin ho hK hP q0 he hc k0 hk (hts _ hlink) (fun _ h9 => h9) hv hd (k H locs ls hP hD hS hl)
theorem g_put {x : Ctx} {l : Launch} {g : Gl} {cc : ByteArray} {own : String} {nL : Nat} {R : Room} (C : Ck x l g cc own nL R) {kc ns : Nat} {w : va_W} {lv : List (Nat × Value)} {pc : Nat} {st : List Value} {Cn ref : String} {T : u_T} {N ci index : Nat} (hin : ∀ w ∈ u_ws Cn T N, w ∈ TB) (ty0 : Nat → FieldType) (hty : ∀ k, k < N → parseFieldDescriptor (T k).2.2.1 = some (ty0 k)) (hnm : ∀ a, a < N → ∀ b, b < N → a ≠ b → (T a).2.1 ≠ (T b).2.1) (hc : vwCl[ci]? = some (Cn, T, N)) (k0 : Nat) (hk : k0 < N) (hlink : Cond.fieldLink own index ref (T k0).2.1 (T k0).2.2.1 ∈ TB) (hsame : ref = (T k0).1) (hfin : (T k0).2.2.2 = false) {ty : FieldType} (hdsc : parseFieldDescriptor (T k0).2.2.1 = some ty) {a : Nat} {v : Value} (hn : narrow ty v = v) (hfit : fits ty v = true) (q0 : Nat) {fs : List Value} (he : w[q0]? = some (a, .inr (ci, fs))) (hlen : k0 < fs.length) (hd : decode cc pc = .ok (.putfield index, 3)) {w' : va_W} (hw : w.set q0 (a, .inr (ci, fs.set k0 v)) = w') (k : Wk x kc ns w' lv (pc + 3) st) : Wk x kc ns w lv pc (v :: .ref a :: st) := by
  subst hsame
  subst hw
  obtain ⟨p, l1, e, R1, s, m, args, below, meth, c, A, Q, g1, n1⟩ := x
  obtain ⟨hx, hb, hml, ho, hts, hK, hA, ⟨hG, hNW, hNI⟩, rfl, rfl, rfl, rfl⟩ := C
  intro H locs ls hP hD hS hl
  exact va_put hx hb hts hin ty0 hty hnm ho hK hP hD hS q0 he hc k0 hk (hts _ hlink) (fun _ h9 => h9) hfin hdsc hn hfit hlen hd (fun H1 locs1 hP hD hS => k H1 locs1 ls hP hD hS hl)
theorem g_icmp_eq {x : Ctx} {l : Launch} {g : Gl} {cc : ByteArray} {own : String} {nL : Nat} {R : Room} (C : Ck x l g cc own nL R) {kc ns : Nat} {w : va_W} {lv : List (Nat × Value)} {pc : Nat} {st : List Value} {v y : Int32} {off : Int} {tgt : Nat} (hd : decode cc pc = .ok (.if_icmp .eq off, 3)) (ht : (pc : Int) + off = (tgt : Int)) (kt : v = y → Wk x kc ns w lv tgt st) (kf : ¬ v = y → Wk x kc ns w lv (pc + 3) st) : Wk x kc ns w lv pc (.int y :: .int v :: st) := by
  obtain ⟨p, l1, e, R1, s, m, args, below, meth, c, A, Q, g1, n1⟩ := x
  obtain ⟨hx, hb, hml, ho, hts, hK, hA, ⟨hG, hNW, hNI⟩, rfl, rfl, rfl, rfl⟩ := C
  intro H locs ls hP hD hS hl
  exact lv_icmp_eq hx hb hd ht (fun h => kt h H locs ls hP hD hS hl) (fun h => kf h H locs ls hP hD hS hl)
theorem g_icmp_ne {x : Ctx} {l : Launch} {g : Gl} {cc : ByteArray} {own : String} {nL : Nat} {R : Room} (C : Ck x l g cc own nL R) {kc ns : Nat} {w : va_W} {lv : List (Nat × Value)} {pc : Nat} {st : List Value} {v y : Int32} {off : Int} {tgt : Nat} (hd : decode cc pc = .ok (.if_icmp .ne off, 3)) (ht : (pc : Int) + off = (tgt : Int)) (kt : ¬ v = y → Wk x kc ns w lv tgt st) (kf : v = y → Wk x kc ns w lv (pc + 3) st) : Wk x kc ns w lv pc (.int y :: .int v :: st) := by
  obtain ⟨p, l1, e, R1, s, m, args, below, meth, c, A, Q, g1, n1⟩ := x
  obtain ⟨hx, hb, hml, ho, hts, hK, hA, ⟨hG, hNW, hNI⟩, rfl, rfl, rfl, rfl⟩ := C
  intro H locs ls hP hD hS hl
  exact lv_icmp_ne hx hb hd ht (fun h => kt h H locs ls hP hD hS hl) (fun h => kf h H locs ls hP hD hS hl)
theorem g_icmp_lt {x : Ctx} {l : Launch} {g : Gl} {cc : ByteArray} {own : String} {nL : Nat} {R : Room} (C : Ck x l g cc own nL R) {kc ns : Nat} {w : va_W} {lv : List (Nat × Value)} {pc : Nat} {st : List Value} {v y : Int32} {off : Int} {tgt : Nat} (hd : decode cc pc = .ok (.if_icmp .lt off, 3)) (ht : (pc : Int) + off = (tgt : Int)) (kt : v < y → Wk x kc ns w lv tgt st) (kf : ¬ v < y → Wk x kc ns w lv (pc + 3) st) : Wk x kc ns w lv pc (.int y :: .int v :: st) := by
  obtain ⟨p, l1, e, R1, s, m, args, below, meth, c, A, Q, g1, n1⟩ := x
  obtain ⟨hx, hb, hml, ho, hts, hK, hA, ⟨hG, hNW, hNI⟩, rfl, rfl, rfl, rfl⟩ := C
  intro H locs ls hP hD hS hl
  exact lv_icmp_lt hx hb hd ht (fun h => kt h H locs ls hP hD hS hl) (fun h => kf h H locs ls hP hD hS hl)
theorem g_icmp_ge {x : Ctx} {l : Launch} {g : Gl} {cc : ByteArray} {own : String} {nL : Nat} {R : Room} (C : Ck x l g cc own nL R) {kc ns : Nat} {w : va_W} {lv : List (Nat × Value)} {pc : Nat} {st : List Value} {v y : Int32} {off : Int} {tgt : Nat} (hd : decode cc pc = .ok (.if_icmp .ge off, 3)) (ht : (pc : Int) + off = (tgt : Int)) (kt : y ≤ v → Wk x kc ns w lv tgt st) (kf : ¬ y ≤ v → Wk x kc ns w lv (pc + 3) st) : Wk x kc ns w lv pc (.int y :: .int v :: st) := by
  obtain ⟨p, l1, e, R1, s, m, args, below, meth, c, A, Q, g1, n1⟩ := x
  obtain ⟨hx, hb, hml, ho, hts, hK, hA, ⟨hG, hNW, hNI⟩, rfl, rfl, rfl, rfl⟩ := C
  intro H locs ls hP hD hS hl
  exact lv_icmp_ge hx hb hd ht (fun h => kt h H locs ls hP hD hS hl) (fun h => kf h H locs ls hP hD hS hl)
theorem g_icmp_gt {x : Ctx} {l : Launch} {g : Gl} {cc : ByteArray} {own : String} {nL : Nat} {R : Room} (C : Ck x l g cc own nL R) {kc ns : Nat} {w : va_W} {lv : List (Nat × Value)} {pc : Nat} {st : List Value} {v y : Int32} {off : Int} {tgt : Nat} (hd : decode cc pc = .ok (.if_icmp .gt off, 3)) (ht : (pc : Int) + off = (tgt : Int)) (kt : y < v → Wk x kc ns w lv tgt st) (kf : ¬ y < v → Wk x kc ns w lv (pc + 3) st) : Wk x kc ns w lv pc (.int y :: .int v :: st) := by
  obtain ⟨p, l1, e, R1, s, m, args, below, meth, c, A, Q, g1, n1⟩ := x
  obtain ⟨hx, hb, hml, ho, hts, hK, hA, ⟨hG, hNW, hNI⟩, rfl, rfl, rfl, rfl⟩ := C
  intro H locs ls hP hD hS hl
  exact lv_icmp_gt hx hb hd ht (fun h => kt h H locs ls hP hD hS hl) (fun h => kf h H locs ls hP hD hS hl)
theorem g_icmp_le {x : Ctx} {l : Launch} {g : Gl} {cc : ByteArray} {own : String} {nL : Nat} {R : Room} (C : Ck x l g cc own nL R) {kc ns : Nat} {w : va_W} {lv : List (Nat × Value)} {pc : Nat} {st : List Value} {v y : Int32} {off : Int} {tgt : Nat} (hd : decode cc pc = .ok (.if_icmp .le off, 3)) (ht : (pc : Int) + off = (tgt : Int)) (kt : v ≤ y → Wk x kc ns w lv tgt st) (kf : ¬ v ≤ y → Wk x kc ns w lv (pc + 3) st) : Wk x kc ns w lv pc (.int y :: .int v :: st) := by
  obtain ⟨p, l1, e, R1, s, m, args, below, meth, c, A, Q, g1, n1⟩ := x
  obtain ⟨hx, hb, hml, ho, hts, hK, hA, ⟨hG, hNW, hNI⟩, rfl, rfl, rfl, rfl⟩ := C
  intro H locs ls hP hD hS hl
  exact lv_icmp_le hx hb hd ht (fun h => kt h H locs ls hP hD hS hl) (fun h => kf h H locs ls hP hD hS hl)
theorem g_if_eq {x : Ctx} {l : Launch} {g : Gl} {cc : ByteArray} {own : String} {nL : Nat} {R : Room} (C : Ck x l g cc own nL R) {kc ns : Nat} {w : va_W} {lv : List (Nat × Value)} {pc : Nat} {st : List Value} {v : Int32} {off : Int} {tgt : Nat} (hd : decode cc pc = .ok (.ifCond .eq off, 3)) (ht : (pc : Int) + off = (tgt : Int)) (kt : v = 0 → Wk x kc ns w lv tgt st) (kf : ¬ v = 0 → Wk x kc ns w lv (pc + 3) st) : Wk x kc ns w lv pc (.int v :: st) := by
  obtain ⟨p, l1, e, R1, s, m, args, below, meth, c, A, Q, g1, n1⟩ := x
  obtain ⟨hx, hb, hml, ho, hts, hK, hA, ⟨hG, hNW, hNI⟩, rfl, rfl, rfl, rfl⟩ := C
  intro H locs ls hP hD hS hl
  exact lv_if_eq hx hb hd ht (fun h => kt h H locs ls hP hD hS hl) (fun h => kf h H locs ls hP hD hS hl)
theorem g_if_ne {x : Ctx} {l : Launch} {g : Gl} {cc : ByteArray} {own : String} {nL : Nat} {R : Room} (C : Ck x l g cc own nL R) {kc ns : Nat} {w : va_W} {lv : List (Nat × Value)} {pc : Nat} {st : List Value} {v : Int32} {off : Int} {tgt : Nat} (hd : decode cc pc = .ok (.ifCond .ne off, 3)) (ht : (pc : Int) + off = (tgt : Int)) (kt : ¬ v = 0 → Wk x kc ns w lv tgt st) (kf : v = 0 → Wk x kc ns w lv (pc + 3) st) : Wk x kc ns w lv pc (.int v :: st) := by
  obtain ⟨p, l1, e, R1, s, m, args, below, meth, c, A, Q, g1, n1⟩ := x
  obtain ⟨hx, hb, hml, ho, hts, hK, hA, ⟨hG, hNW, hNI⟩, rfl, rfl, rfl, rfl⟩ := C
  intro H locs ls hP hD hS hl
  exact lv_if_ne hx hb hd ht (fun h => kt h H locs ls hP hD hS hl) (fun h => kf h H locs ls hP hD hS hl)
theorem g_iast {x : Ctx} {l : Launch} {g : Gl} {cc : ByteArray} {own : String} {nL : Nat} {R : Room} (C : Ck x l g cc own nL R) {kc ns : Nat} {w : va_W} {lv : List (Nat × Value)} {pc : Nat} {st : List Value} {a n : Nat} {f : Nat → Int32} {i v : Int32} (q0 : Nat) (he : w[q0]? = some (a, .inl (g.2.1.1, n, .inl f))) (hin : vp_in i n) (hd : decode cc pc = .ok (.iastore, 1)) (k : Wk x kc ns (w.set q0 (a, .inl (g.2.1.1, n, .inl (upd f i.toNatClampNeg v)))) lv (pc + 1) st) : Wk x kc ns w lv pc (.int v :: .int i :: .ref a :: st) := by
  obtain ⟨p, l1, e, R1, s, m, args, below, meth, c, A, Q, g1, n1⟩ := x
  obtain ⟨hx, hb, hml, ho, hts, hK, hA, ⟨hG, hNW, hNI⟩, rfl, rfl, rfl, rfl⟩ := C
  intro H locs ls hP hD hS hl
  exact va_iast hx hb hK hP hD hS q0 0 he rfl hin hd (fun H1 locs1 hP hD hS => k H1 locs1 ls hP hD hS hl)
theorem g_aast {x : Ctx} {l : Launch} {g : Gl} {cc : ByteArray} {own : String} {nL : Nat} {R : Room} (C : Ck x l g cc own nL R) {kc ns : Nat} {w : va_W} {lv : List (Nat × Value)} {pc : Nat} {st : List Value} {a n a2 ci : Nat} {T : u_T} {N : Nat} {fs : List Value} {f : Nat → Option Nat} {i : Int32} (q0 qk : Nat) (he : w[q0]? = some (a, .inl (g.2.1.2.2, n, .inr (.inr (.inr (.inr f)))))) (hv : w[qk]? = some (a2, .inr (ci, fs))) (hc : vwCl[ci]? = some (RX7, T, N)) (hin : vp_in i n) (hd : decode cc pc = .ok (.aastore, 1)) (k : Wk x kc ns (w.set q0 (a, .inl (g.2.1.2.2, n, .inr (.inr (.inr (.inr (va_up f i.toNatClampNeg (some a2)))))))) lv (pc + 1) st) : Wk x kc ns w lv pc (.ref a2 :: .int i :: .ref a :: st) := by
  obtain ⟨p, l1, e, R1, s, m, args, below, meth, c, A, Q, g1, n1⟩ := x
  obtain ⟨hx, hb, hml, ho, hts, hK, hA, ⟨hG, hNW, hNI⟩, rfl, rfl, rfl, rfl⟩ := C
  intro H locs ls hP hD hS hl
  exact va_astq (r := (RX7, T, N)) hx hb hK hP hD hS q0 2 qk ci he rfl hv hc hin hd (fun H1 locs1 hP hD hS => k H1 locs1 ls hP hD hS hl)
theorem g_newI {x : Ctx} {l : Launch} {g : Gl} {cc : ByteArray} {own : String} {nL : Nat} {R : Room} (C : Ck x l g cc own nL R) {kc ns : Nat} {w : va_W} {lv : List (Nat × Value)} {pc : Nat} {st : List Value} {n : Int32} {N : Nat} (harr : Cond.arrayClass .int ∈ TB) (hn : ¬ n < 0) (hN : n.toNatClampNeg = N) (hby : N * componentBytes .int ≤ 536870912) (hc1 : kc + 1 ≤ R.cells) (hs1 : ns + N ≤ R.slots) (hd : decode cc pc = .ok (.newarray .int, 2)) (k : ∀ q : Nat, Wk x (kc + 1) (ns + N) (w ++ [(q, iA g N (fun _ => 0))]) lv (pc + 2) (.ref q :: st)) : Wk x kc ns w lv pc (.int n :: st) := by
  obtain ⟨p, l1, e, R1, s, m, args, below, meth, c, A, Q, g1, n1⟩ := x
  obtain ⟨hx, hb, hml, ho, hts, hK, hA, ⟨hG, hNW, hNI⟩, rfl, rfl, rfl, rfl⟩ := C
  intro H locs ls hP hD hS hl
  refine va_newa (atype := .int) hx hb (hts _ harr) rfl hK hP hD hS hA (a0 := (N, .inl (fun _ => 0))) (fun cA => by rw [vp_cell_i]; rfl) hn hN hby hc1 hs1 hd (fun q cA H1 hK1 hP1 hD1 hS1 => ?_)
  have e1 := (hK1.2 3 (cA, .int) rfl).2
  have e2 := (hK.2 0 (g1.2.1.1, .int) rfl).2
  have e3 : cA = g1.2.1.1 := Option.some.inj (e1.symm.trans e2)
  subst e3
  exact k q H1 locs ls hP1 hD1 hS1 hl
theorem g_newZ {x : Ctx} {l : Launch} {g : Gl} {cc : ByteArray} {own : String} {nL : Nat} {R : Room} (C : Ck x l g cc own nL R) {kc ns : Nat} {w : va_W} {lv : List (Nat × Value)} {pc : Nat} {st : List Value} {n : Int32} {N : Nat} (harr : Cond.arrayClass .boolean ∈ TB) (hn : ¬ n < 0) (hN : n.toNatClampNeg = N) (hby : N * componentBytes .boolean ≤ 536870912) (hc1 : kc + 1 ≤ R.cells) (hs1 : ns + N ≤ R.slots) (hd : decode cc pc = .ok (.newarray .boolean, 2)) (k : ∀ q : Nat, Wk x (kc + 1) (ns + N) (w ++ [(q, zA g N (fun _ => 0))]) lv (pc + 2) (.ref q :: st)) : Wk x kc ns w lv pc (.int n :: st) := by
  obtain ⟨p, l1, e, R1, s, m, args, below, meth, c, A, Q, g1, n1⟩ := x
  obtain ⟨hx, hb, hml, ho, hts, hK, hA, ⟨hG, hNW, hNI⟩, rfl, rfl, rfl, rfl⟩ := C
  intro H locs ls hP hD hS hl
  refine va_newa (atype := .boolean) hx hb (hts _ harr) rfl hK hP hD hS hA (a0 := (N, .inl (fun _ => 0))) (fun cA => by rw [vp_cell_i]; rfl) hn hN hby hc1 hs1 hd (fun q cA H1 hK1 hP1 hD1 hS1 => ?_)
  have e1 := (hK1.2 3 (cA, .boolean) rfl).2
  have e2 := (hK.2 1 (g1.2.1.2.1, .boolean) rfl).2
  have e3 : cA = g1.2.1.2.1 := Option.some.inj (e1.symm.trans e2)
  subst e3
  exact k q H1 locs ls hP1 hD1 hS1 hl
theorem g_newQ {x : Ctx} {l : Launch} {g : Gl} {cc : ByteArray} {own : String} {nL : Nat} {R : Room} (C : Ck x l g cc own nL R) {kc ns : Nat} {w : va_W} {lv : List (Nat × Value)} {pc : Nat} {st : List Value} {n : Int32} {N index : Nat} (hcl : Cond.classLink own index RX7 ∈ TB) (hn : ¬ n < 0) (hN : n.toNatClampNeg = N) (hby : N * 4 ≤ 536870912) (hc1 : kc + 1 ≤ R.cells) (hs1 : ns + N ≤ R.slots) (hd : decode cc pc = .ok (.anewarray index, 3)) (k : ∀ q : Nat, Wk x (kc + 1) (ns + N) (w ++ [(q, qA g N (fun _ => none))]) lv (pc + 3) (.ref q :: st)) : Wk x kc ns w lv pc (.int n :: st) := by
  obtain ⟨p, l1, e, R1, s, m, args, below, meth, c, A, Q, g1, n1⟩ := x
  obtain ⟨hx, hb, hml, ho, hts, hK, hA, ⟨hG, hNW, hNI⟩, rfl, rfl, rfl, rfl⟩ := C
  intro H locs ls hP hD hS hl
  refine va_newq (C := "BreakLearner$Stock") hx hb ho (hts _ hcl) hNI.2 hK hP hD hS hA hn hN hby hc1 hs1 hd (fun q cA H1 hK1 hP1 hD1 hS1 => ?_)
  obtain ⟨_, _, _, _, _, e1⟩ := (hK1.2 3 (cA, .object "BreakLearner$Stock") rfl).2
  obtain ⟨_, _, _, _, _, e2⟩ := (hK.2 2 (g1.2.1.2.2, .object "BreakLearner$Stock") rfl).2
  have e3 : cA = g1.2.1.2.2 := Option.some.inj (e1.symm.trans e2)
  subst e3
  exact k q H1 locs ls hP1 hD1 hS1 hl
theorem g_new {x : Ctx} {l : Launch} {g : Gl} {cc : ByteArray} {own : String} {nL : Nat} {R : Room} (C : Ck x l g cc own nL R) {kc ns : Nat} {w : va_W} {lv : List (Nat × Value)} {pc : Nat} {st : List Value} {Cn : String} {T : u_T} {N ci index : Nat} (hin : ∀ w ∈ u_ws Cn T N, w ∈ TB) (ty : Nat → FieldType) (hty : ∀ k, k < N → parseFieldDescriptor (T k).2.2.1 = some (ty k)) (hcl : Cond.classLink own index Cn ∈ TB) (hinst : Cond.instantiable Cn N ∈ TB) (hini : Cond.initialized Cn ∈ TB) (hc : vwCl[ci]? = some (Cn, T, N)) {fs : List Value} (hfs : ∀ j, j < N → defaultValue (ty j) = vp_V fs j) (hc1 : kc + 1 ≤ R.cells) (hs1 : ns + N ≤ R.slots) (hd : decode cc pc = .ok (.new index, 3)) (k : ∀ q : Nat, Wk x (kc + 1) (ns + N) (w ++ [(q, oO ci fs)]) lv (pc + 3) (.ref q :: st)) : Wk x kc ns w lv pc st := by
  obtain ⟨p, l1, e, R1, s, m, args, below, meth, c, A, Q, g1, n1⟩ := x
  obtain ⟨hx, hb, hml, ho, hts, hK, hA, ⟨hG, hNW, hNI⟩, rfl, rfl, rfl, rfl⟩ := C
  intro H locs ls hP hD hS hl
  exact va_new hx hb hts hin ty hty ho (hts _ hcl) (hts _ hinst) (hts _ hini) hK hP hD hS hA hc hfs hc1 hs1 hd (fun q H1 hP1 hD1 hS1 => k q H1 locs ls hP1 hD1 hS1 hl)
theorem g_putF {x : Ctx} {l : Launch} {g : Gl} {cc : ByteArray} {own : String} {nL : Nat} {R : Room} (C : Ck x l g cc own nL R) {kc ns : Nat} {w : va_W} {lv : List (Nat × Value)} {pc : Nat} {st : List Value} {W1 : (Nat → Nat) → va_W} {mc ms : Nat} (M : Cm x W1 mc ms) {Cn ref : String} {T : u_T} {N ci index : Nat} (hin : ∀ w ∈ u_ws Cn T N, w ∈ TB) (ty0 : Nat → FieldType) (hty : ∀ k, k < N → parseFieldDescriptor (T k).2.2.1 = some (ty0 k)) (hnm : ∀ a, a < N → ∀ b, b < N → a ≠ b → (T a).2.1 ≠ (T b).2.1) (hc : vwCl[ci]? = some (Cn, T, N)) (k0 : Nat) (hk : k0 < N) (hlink : Cond.fieldLink own index ref (T k0).2.1 (T k0).2.2.1 ∈ TB) (hsame : ref = (T k0).1) (hfin : (T k0).2.2.2 = true) (hdecl : (T k0).1 = own) {ty : FieldType} (hdsc : parseFieldDescriptor (T k0).2.2.1 = some ty) {a : Nat} {v : Value} (hn : narrow ty v = v) (hfit : fits ty v = true) (q0 : Nat) {fs : List Value} (he : w[q0]? = some (a, .inr (ci, fs))) (hlen : k0 < fs.length) (hd : decode cc pc = .ok (.putfield index, 3)) {w' : va_W} (hw : w.set q0 (a, .inr (ci, fs.set k0 v)) = w') (k : Wk x kc ns w' lv (pc + 3) st) : Wk x kc ns w lv pc (v :: .ref a :: st) := by
  subst hsame
  subst hw
  obtain ⟨p, l1, e, R1, s, m, args, below, meth, c, A, Q, g1, n1⟩ := x
  obtain ⟨hx, hb, hml, ho, hts, hK, hA, ⟨hG, hNW, hNI⟩, rfl, rfl, rfl, rfl⟩ := C
  obtain ⟨hnm2, -, -, -⟩ := M
  intro H locs ls hP hD hS hl
  exact va_putF hx hb hts hin ty0 hty hnm ho hK hP hD hS q0 he hc k0 hk (hts _ hlink) (fun _ h9 => h9) hfin hnm2 hdecl hdsc hn hfit hlen hd (fun H1 locs1 hP hD hS => k H1 locs1 ls hP hD hS hl)
theorem g_objInit {x : Ctx} {l : Launch} {g : Gl} {cc : ByteArray} {own : String} {nL : Nat} {R : Room} (C : Ck x l g cc own nL R) {kc ns : Nat} {w : va_W} {lv : List (Nat × Value)} {pc : Nat} {st : List Value} {a index : Nat} (hlink : Cond.methodLink own index objectInit ∈ TB) (hinst : Cond.instanceMethod objectInit ∈ TB) (hcode : Cond.code objectInit ⟨#[0xb1]⟩ 1 none ∈ TB) (hd : decode cc pc = .ok (.invokespecial index, 3)) (hf : 1 ≤ R.frames) (hlo : (st.map fun v => v.category).sum + 12 ≤ R.locals) (k : Wk x kc ns w lv (pc + 3) st) : Wk x kc ns w lv pc (.ref a :: st) := by
  obtain ⟨p, l1, e, R1, s, m, args, below, meth, c, A, Q, g1, n1⟩ := x
  obtain ⟨hx, hb, hml, ho, hts, hK, hA, ⟨hG, hNW, hNI⟩, rfl, rfl, rfl, rfl⟩ := C
  intro H locs ls hP hD hS hl
  exact W.objInit hx hb ho (hts _ hlink) (hts _ hinst) (hts _ hcode) rfl (by rw [hml]; exact hl.1) rfl hd hf (by show 2 * 0 + _ + 12 ≤ _; omega) (k H locs ls hP hD hS hl)
theorem g_vret {x : Ctx} {l : Launch} {g : Gl} {cc : ByteArray} {own : String} {nL : Nat} {R : Room} (C : Ck x l g cc own nL R) {W1 : (Nat → Nat) → va_W} {mc ms : Nat} (M : Cm x W1 mc ms) (q : Nat → Nat) {lv : List (Nat × Value)} {pc : Nat} (hd : decode cc pc = .ok (.return_, 1)) : Wk x mc ms (W1 q) lv pc [] := by
  obtain ⟨p, l1, e, R1, s, m, args, below, meth, c, A, Q, g1, n1⟩ := x
  obtain ⟨hx, hb, hml, ho, hts, hK, hA, ⟨hG, hNW, hNI⟩, rfl, rfl, rfl, rfl⟩ := C
  obtain ⟨-, hr, hlk, hQ⟩ := M
  intro H locs ls hP hD hS hl
  subst hQ
  exact W.vret hx hb hr (fun t ht hW => ⟨rfl, ⟨q, by rw [ht]; exact hP, hD⟩, hS.F ht⟩) hS.2.2 hd hlk
theorem Pe_blind (g : Gl) (av : List Value) (w0 : va_W) (sz : Nat) : FrameBlind (Pe g av w0 sz) := fun a U gg mk q => by
  obtain ⟨q0, q1, qP, qK, qD, qG, qN, qI⟩ := q
  exact ⟨q0, q1, qP, va_K.moved (u := U) (U := U.calling gg mk a) (Vm.Alike.refl U.vm) qK, qD, SG.moved (u := U) (U := U.calling gg mk a) (Vm.Alike.refl U.vm) qG, NW.same (u := U) (U := U.calling gg mk a) rfl qN, NI.same (u := U) (U := U.calling gg mk a) rfl qI⟩
theorem g_callV {x : Ctx} {l : Launch} {g : Gl} {cc : ByteArray} {own : String} {nL : Nat} {R : Room} (C : Ck x l g cc own nL R) {kc ns : Nat} {w : va_W} {lv : List (Nat × Value)} {pc : Nat} {st : List Value} {y : MethodName} {bc : ByteArray} {nc : Nat} {rc : Option FieldType} {rmc : Room} {n index : Nat} {Cn : String} {b : Nat} {wc w1c : va_W} {rvc : Option Value} {As : List Value} (hcl : CalV y bc nc rc Cn n) (hlink : Cond.methodLink own index y ∈ TB) (hct : Ct l g y bc nc rc rmc (.ref b :: As) wc rvc w1c) {ci : Nat} {T : u_T} {N : Nat} {fs : List Value} (hci : vwCl[ci]? = some (Cn, T, N)) (qr : Nat) (hrc : w[qr]? = some (b, .inr (ci, fs))) (hkr : kc ≤ R.cells ∧ ns ≤ R.slots) (hn : As.length = n) (hR : rmc.cells = 0 ∧ rmc.slots = 0 ∧ rmc.frames + 1 ≤ R.frames ∧ 8 + (nc + 11) + rmc.locals ≤ R.locals) (hst : (st.map fun v => v.category).sum ≤ 8) (isC : List Nat) (hC : isC.map (fun i => w[i]?) = wc.map some) (hnd : va_nd isC = true) (h1 : w1c.map Prod.fst = wc.map Prod.fst) {st0 : List Value} (hs0 : st0 = (As.reverse ++ .ref b :: st)) (hd : decode cc pc = .ok (.invokevirtual index, 3)) {w' : va_W} (tags : List (Option Nat)) (hT : tagsOK isC tags = true) (hmx : mixOK wc w1c tags w w') {st2 : List Value} (hs2 : rvc.toList ++ st = st2) (k : Wk x kc ns w' lv (pc + 3) st2) : Wk x kc ns w lv pc st0 := by
  subst hs0
  subst hs2
  have hw : plc w isC w1c = w' := plc_mix hT hnd hmx (by have e1 := congrArg List.length hC; have e2 := congrArg List.length h1; simp at e1 e2; omega)
  subst hw
  obtain ⟨p, l1, e, R1, s, m, args, below, meth, c, A, Q, g1, n1⟩ := x
  obtain ⟨hx, hb, hml, ho, hts, hK, hA, ⟨hG, hNW, hNI⟩, rfl, rfl, rfl, rfl⟩ := C
  intro H locs ls hP hD hS hl
  obtain ⟨hr1, hr2, hr3, hr4⟩ := hR
  have hPc : va_P g1.1 vwCl wc H := hP.sub (ws' := wc) isC (by
    rw [show isC.filterMap (fun i => w[i]?) = (isC.map (fun i => w[i]?)).filterMap id by rw [List.filterMap_map]; rfl, hC, List.filterMap_map]
    exact List.filterMap_some)
  have hDc : va_D A wc := hD.sub isC hnd hC
  have hFc := va_free (wc := wc) hD hS hA isC hC
  have hGc : SG g1.2.2 (va_A wc H.size) s H := (hG.kept (fun a h1 h2 => hS.2.1 a h1 h2)).narrow hFc
  obtain ⟨c1, c2, c3, c4, c5, c6⟩ := hcl
  have hgood : GoodIn TB (wsV own index Cn y (.code y bc nc rc :: TB)) := fun w hw => by
    rcases List.mem_append.mp hw with h | h
    · have hm : w ∈ TB := by
        simp only [List.mem_cons, List.not_mem_nil, or_false] at h
        rcases h with rfl | rfl | rfl | rfl
        · exact hlink
        · exact c2
        · exact c3
        · exact c4
      exact ⟨hm, good_of_word (List.mem_filter.mp hm).2⟩
    · exact good_law c1 w h
  have hrun := va_runV (cells := kc) (slots := ns) (locs := locs) (below := below) (meth := meth) (e := e) (As := As) (rest := st) (g := F0 m pc ls (As.reverse ++ .ref b :: st)) ⟨hx, hb, hml, ho, hts⟩ (hct H.size) (cwV (C := Cn) n hts hgood rfl hr1 hr2 ⟨c5, c6⟩ ⟨hr3, hr4⟩) ⟨Pd_blind _ _ _ _, va_recv hK hP hci hrc, fun U hU hW => ⟨rfl, by rw [hU], by rw [hU]; exact hPc, va_K.moved hW.alike hK, hDc.weaken (fun _ _ _ _ => trivial), by rw [hU]; exact hGc.moved hW.alike, hNW.warm hW⟩⟩ rfl hn hl.1 rfl (lv_room hst) hd ⟨hkr.1, hkr.2⟩
  intro T hT X
  obtain ⟨v, st₀, t, T', L, h0, X', hL, e1, e2, ⟨hv, hP1, hz, hk⟩, go⟩ := hrun T hT X
  cases hv
  rw [h0] at hz hk
  rw [← e1] at hP1
  have hk' : ∀ q : Nat, q < H.size → ¬ va_A wc H.size q → T'.heap[q]? = H[q]? := fun q h1 h2 => by rw [e1]; exact hk q h1 h2
  obtain ⟨hP', hD'⟩ := plc_world hP hD isC hC h1 hk' hP1
  obtain ⟨t2, a1, b1⟩ := k T'.heap (locs ++ L) ls hP' hD' ⟨Nat.le_trans hS.1 (by rw [e1]; exact hz), fun q h1 h2 => by
      rw [hk' q (Nat.lt_of_lt_of_le h1 hS.1) (fun z => h2 (hFc q z))]
      exact hS.2.1 q h1 h2, fun q hq => by
      rcases List.mem_append.mp hq with h | h
      · exact hS.2.2 q h
      · exact hFc _ (hL q h)⟩ hl T' rfl X'
  exact ⟨t2, go t2 a1, b1⟩
theorem g_callS {x : Ctx} {l : Launch} {g : Gl} {cc : ByteArray} {own : String} {nL : Nat} {R : Room} (C : Ck x l g cc own nL R) {kc ns : Nat} {w : va_W} {lv : List (Nat × Value)} {pc : Nat} {st : List Value} {y : MethodName} {bc : ByteArray} {nc : Nat} {rc : Option FieldType} {rmc : Room} {n index : Nat} {wc w1c : va_W} {rvc : Option Value} {As : List Value} (hcl : CalS y bc nc rc n) (hlink : Cond.methodLink own index y ∈ TB) (hct : Ct l g y bc nc rc rmc As wc rvc w1c) (hkr : kc ≤ R.cells ∧ ns ≤ R.slots) (hn : As.length = n) (hR : rmc.cells = 0 ∧ rmc.slots = 0 ∧ rmc.frames + 1 ≤ R.frames ∧ 8 + (nc + 11) + rmc.locals ≤ R.locals) (hst : (st.map fun v => v.category).sum ≤ 8) (isC : List Nat) (hC : isC.map (fun i => w[i]?) = wc.map some) (hnd : va_nd isC = true) (h1 : w1c.map Prod.fst = wc.map Prod.fst) {st0 : List Value} (hs0 : st0 = (As.reverse ++ st)) (hd : decode cc pc = .ok (.invokestatic index, 3)) {w' : va_W} (tags : List (Option Nat)) (hT : tagsOK isC tags = true) (hmx : mixOK wc w1c tags w w') {st2 : List Value} (hs2 : rvc.toList ++ st = st2) (k : Wk x kc ns w' lv (pc + 3) st2) : Wk x kc ns w lv pc st0 := by
  subst hs0
  subst hs2
  have hw : plc w isC w1c = w' := plc_mix hT hnd hmx (by have e1 := congrArg List.length hC; have e2 := congrArg List.length h1; simp at e1 e2; omega)
  subst hw
  obtain ⟨p, l1, e, R1, s, m, args, below, meth, c, A, Q, g1, n1⟩ := x
  obtain ⟨hx, hb, hml, ho, hts, hK, hA, ⟨hG, hNW, hNI⟩, rfl, rfl, rfl, rfl⟩ := C
  intro H locs ls hP hD hS hl
  obtain ⟨hr1, hr2, hr3, hr4⟩ := hR
  have hPc : va_P g1.1 vwCl wc H := hP.sub (ws' := wc) isC (by
    rw [show isC.filterMap (fun i => w[i]?) = (isC.map (fun i => w[i]?)).filterMap id by rw [List.filterMap_map]; rfl, hC, List.filterMap_map]
    exact List.filterMap_some)
  have hDc : va_D A wc := hD.sub isC hnd hC
  have hFc := va_free (wc := wc) hD hS hA isC hC
  have hGc : SG g1.2.2 (va_A wc H.size) s H := (hG.kept (fun a h1 h2 => hS.2.1 a h1 h2)).narrow hFc
  obtain ⟨c1, c2, c4, c6⟩ := hcl
  have hgood : GoodIn TB (va_wsS own index y (.code y bc nc rc :: TB)) := fun w hw => by
    rcases List.mem_append.mp hw with h | h
    · have hm : w ∈ TB := by
        simp only [List.mem_cons, List.not_mem_nil, or_false] at h
        rcases h with rfl | rfl | rfl
        · exact hlink
        · exact c2
        · exact c4
      exact ⟨hm, good_of_word (List.mem_filter.mp hm).2⟩
    · exact good_law c1 w h
  have hrun := va_runS (cells := kc) (slots := ns) (locs := locs) (below := below) (meth := meth) (e := e) (As := As) (rest := st) (g := F0 m pc ls (As.reverse ++ st)) ⟨hx, hb, hml, ho, hts⟩ (hct H.size) (va_cwS n hts hgood rfl hr1 hr2 c6 ⟨hr3, hr4⟩) ⟨Pd_blind _ _ _ _, fun U hU hW => ⟨rfl, by rw [hU], by rw [hU]; exact hPc, va_K.moved hW.alike hK, hDc.weaken (fun _ _ _ _ => trivial), by rw [hU]; exact hGc.moved hW.alike, hNW.warm hW⟩⟩ rfl hn hl.1 rfl (lv_room hst) hd ⟨hkr.1, hkr.2⟩
  intro T hT X
  obtain ⟨v, st₀, t, T', L, h0, X', hL, e1, e2, ⟨hv, hP1, hz, hk⟩, go⟩ := hrun T hT X
  cases hv
  rw [h0] at hz hk
  rw [← e1] at hP1
  have hk' : ∀ q : Nat, q < H.size → ¬ va_A wc H.size q → T'.heap[q]? = H[q]? := fun q h1 h2 => by rw [e1]; exact hk q h1 h2
  obtain ⟨hP', hD'⟩ := plc_world hP hD isC hC h1 hk' hP1
  obtain ⟨t2, a1, b1⟩ := k T'.heap (locs ++ L) ls hP' hD' ⟨Nat.le_trans hS.1 (by rw [e1]; exact hz), fun q h1 h2 => by
      rw [hk' q (Nat.lt_of_lt_of_le h1 hS.1) (fun z => h2 (hFc q z))]
      exact hS.2.1 q h1 h2, fun q hq => by
      rcases List.mem_append.mp hq with h | h
      · exact hS.2.2 q h
      · exact hFc _ (hL q h)⟩ hl T' rfl X'
  exact ⟨t2, go t2 a1, b1⟩
theorem g_callI {x : Ctx} {l : Launch} {g : Gl} {cc : ByteArray} {own : String} {nL : Nat} {R : Room} (C : Ck x l g cc own nL R) {kc ns : Nat} {w : va_W} {lv : List (Nat × Value)} {pc : Nat} {st : List Value} {y : MethodName} {bc : ByteArray} {nc : Nat} {rmc : Room} {n index b mc ms : Nat} {wc wr : va_W} {W1c : (Nat → Nat) → va_W} {As : List Value} (hcl : Cond.code y bc nc none ∈ TB ∧ Cond.instanceMethod y ∈ TB ∧ Cond.initialized y.cls ∈ TB ∧ y.cls ≠ "java/lang/invoke/MethodHandle" ∧ y.cls ≠ "java/lang/invoke/VarHandle" ∧ (parseMethodDescriptor y.desc).map (fun d => d.parameters.length) = some n) (hyn : y.name = "<init>") (hlink : Cond.methodLink own index y ∈ TB) (hct : Ci l g y bc nc rmc (.ref b :: As) wc mc ms W1c) (hn : As.length = n) (hR : rmc.cells = mc ∧ rmc.slots = ms ∧ rmc.frames + 1 ≤ R.frames ∧ 8 + (nc + 11) + rmc.locals ≤ R.locals) (hkr : kc + mc ≤ R.cells ∧ ns + ms ≤ R.slots) (hst : (st.map fun v => v.category).sum ≤ 8) (isC isR : List Nat) (hC : isC.map (fun i => w[i]?) = wc.map some) (hRr : isR.map (fun i => w[i]?) = wr.map some) (hnd : va_nd isC = true) (hndr : va_nd isR = true) (hdis : ∀ i ∈ isR, i ∉ isC) {st0 : List Value} (hs0 : st0 = As.reverse ++ .ref b :: st) (hd : decode cc pc = .ok (.invokespecial index, 3)) (k : ∀ q : Nat → Nat, Wk x (kc + mc) (ns + ms) (wr ++ W1c q) lv (pc + 3) st) : Wk x kc ns w lv pc st0 := by
  subst hs0
  obtain ⟨p, l1, e, R1, s, m, args, below, meth, c, A, Q, g1, n1⟩ := x
  obtain ⟨hx, hb, hml, ho, hts, hK, hA, ⟨hG, hNW, hNI⟩, rfl, rfl, rfl, rfl⟩ := C
  intro H locs ls hP hD hS hl
  obtain ⟨hr1, hr2, hr3, hr4⟩ := hR
  obtain ⟨c1, c2, c4, c6⟩ := hcl
  have hPc : va_P g1.1 vwCl wc H := hP.sub (ws' := wc) isC (by
    rw [show isC.filterMap (fun i => w[i]?) = (isC.map (fun i => w[i]?)).filterMap id by rw [List.filterMap_map]; rfl, hC, List.filterMap_map]
    exact List.filterMap_some)
  have hDc : va_D A wc := hD.sub isC hnd hC
  have hFc := va_free (wc := wc) hD hS hA isC hC
  have hGc : SG g1.2.2 (va_A wc H.size) s H := (hG.kept (fun a h1 h2 => hS.2.1 a h1 h2)).narrow hFc
  have hrun := va_runI (cells := kc) (slots := ns) (locs := locs) (below := below) (meth := meth) (e := e) (As := As) (rest := st) (g := F0 m pc ls (As.reverse ++ .ref b :: st)) ⟨hx, hb, hml, ho, hts⟩ (hct H.size) (cwI n hts (good_law c1) rfl hr1 hr2 (hts _ c4) (hts _ hlink) (hts _ c2) hyn c6 ⟨hr3, hr4⟩) ⟨Pe_blind _ _ _ _, fun U hU hW => ⟨rfl, by rw [hU], by rw [hU]; exact hPc, va_K.moved hW.alike hK, hDc.weaken (fun _ _ _ _ => trivial), by rw [hU]; exact hGc.moved hW.alike, hNW.warm hW, hNI.warm hW⟩⟩ rfl hn hl.1 rfl (lv_room hst) hd hkr
  intro T hT X
  obtain ⟨v, st₀, t, T', L, h0, X', hL, e1, e2, ⟨hv, ⟨q, hP1, hD1⟩, hz, hk⟩, go⟩ := hrun T hT X
  cases hv
  rw [h0] at hz hk
  rw [← e1] at hP1
  have hk' : ∀ q : Nat, q < H.size → ¬ va_A wc H.size q → T'.heap[q]? = H[q]? := fun q h1 h2 => by rw [e1]; exact hk q h1 h2
  obtain ⟨hP', hD'⟩ := va_join (wr := wr) hP hD isC isR hC hRr hndr hdis hk' hFc hP1 hD1
  obtain ⟨t2, a1, b1⟩ := k q T'.heap (locs ++ L) ls hP' hD' ⟨Nat.le_trans hS.1 (by rw [e1]; exact hz), fun q h1 h2 => by
      rw [hk' q (Nat.lt_of_lt_of_le h1 hS.1) (fun z => h2 (hFc q z))]
      exact hS.2.1 q h1 h2, fun q hq => by
      rcases List.mem_append.mp hq with h | h
      · exact hS.2.2 q h
      · exact hFc _ (hL q h)⟩ hl T' rfl X'
  exact ⟨t2, go t2 a1, b1⟩
theorem g_callJ {x : Ctx} {l : Launch} {g : Gl} {cc : ByteArray} {own : String} {nL : Nat} {R : Room} (C : Ck x l g cc own nL R) {kc ns : Nat} {w : va_W} {lv : List (Nat × Value)} {pc : Nat} {st : List Value} {y : MethodName} {bc : ByteArray} {nc : Nat} {rmc : Room} {n index b mc ms : Nat} {wc wr : va_W} {W1c : (Nat → Nat) → va_W} {As : List Value} (hcl : Cond.code y bc nc none ∈ TB ∧ Cond.instanceMethod y ∈ TB ∧ Cond.initialized y.cls ∈ TB ∧ y.cls ≠ "java/lang/invoke/MethodHandle" ∧ y.cls ≠ "java/lang/invoke/VarHandle" ∧ (parseMethodDescriptor y.desc).map (fun d => d.parameters.length) = some n) (hyn : y.name = "<init>") (hlink : Cond.methodLinkNest own index y "BreakLearner" ∈ NIs) (hct : Ci l g y bc nc rmc (.ref b :: As) wc mc ms W1c) (hn : As.length = n) (hR : rmc.cells = mc ∧ rmc.slots = ms ∧ rmc.frames + 1 ≤ R.frames ∧ 8 + (nc + 11) + rmc.locals ≤ R.locals) (hkr : kc + mc ≤ R.cells ∧ ns + ms ≤ R.slots) (hst : (st.map fun v => v.category).sum ≤ 8) (isC isR : List Nat) (hC : isC.map (fun i => w[i]?) = wc.map some) (hRr : isR.map (fun i => w[i]?) = wr.map some) (hnd : va_nd isC = true) (hndr : va_nd isR = true) (hdis : ∀ i ∈ isR, i ∉ isC) {st0 : List Value} (hs0 : st0 = As.reverse ++ .ref b :: st) (hd : decode cc pc = .ok (.invokespecial index, 3)) (k : ∀ q : Nat → Nat, Wk x (kc + mc) (ns + ms) (wr ++ W1c q) lv (pc + 3) st) : Wk x kc ns w lv pc st0 := by
  subst hs0
  obtain ⟨p, l1, e, R1, s, m, args, below, meth, c, A, Q, g1, n1⟩ := x
  obtain ⟨hx, hb, hml, ho, hts, hK, hA, ⟨hG, hNW, hNI⟩, rfl, rfl, rfl, rfl⟩ := C
  intro H locs ls hP hD hS hl
  obtain ⟨hr1, hr2, hr3, hr4⟩ := hR
  obtain ⟨c1, c2, c4, c6⟩ := hcl
  have hPc : va_P g1.1 vwCl wc H := hP.sub (ws' := wc) isC (by
    rw [show isC.filterMap (fun i => w[i]?) = (isC.map (fun i => w[i]?)).filterMap id by rw [List.filterMap_map]; rfl, hC, List.filterMap_map]
    exact List.filterMap_some)
  have hDc : va_D A wc := hD.sub isC hnd hC
  have hFc := va_free (wc := wc) hD hS hA isC hC
  have hGc : SG g1.2.2 (va_A wc H.size) s H := (hG.kept (fun a h1 h2 => hS.2.1 a h1 h2)).narrow hFc
  have hrun := va_runIN (cells := kc) (slots := ns) (locs := locs) (below := below) (meth := meth) (e := e) (As := As) (rest := st) (g := F0 m pc ls (As.reverse ++ .ref b :: st)) ⟨hx, hb, hml, ho, hts⟩ (hct H.size) (⟨va_cnB (host := "BreakLearner") n hts (good_law c1) rfl hr1 hr2 (hNI.1 _ hlink) (hts _ c4) c6 ⟨hr3, hr4⟩, hyn, hts _ c2⟩) ⟨Pe_blind _ _ _ _, fun U hU hW => ⟨rfl, by rw [hU], by rw [hU]; exact hPc, va_K.moved hW.alike hK, hDc.weaken (fun _ _ _ _ => trivial), by rw [hU]; exact hGc.moved hW.alike, hNW.warm hW, hNI.warm hW⟩⟩ rfl hn hl.1 rfl (lv_room hst) hd hkr
  intro T hT X
  obtain ⟨v, st₀, t, T', L, h0, X', hL, e1, e2, ⟨hv, ⟨q, hP1, hD1⟩, hz, hk⟩, go⟩ := hrun T hT X
  cases hv
  rw [h0] at hz hk
  rw [← e1] at hP1
  have hk' : ∀ q : Nat, q < H.size → ¬ va_A wc H.size q → T'.heap[q]? = H[q]? := fun q h1 h2 => by rw [e1]; exact hk q h1 h2
  obtain ⟨hP', hD'⟩ := va_join (wr := wr) hP hD isC isR hC hRr hndr hdis hk' hFc hP1 hD1
  obtain ⟨t2, a1, b1⟩ := k q T'.heap (locs ++ L) ls hP' hD' ⟨Nat.le_trans hS.1 (by rw [e1]; exact hz), fun q h1 h2 => by
      rw [hk' q (Nat.lt_of_lt_of_le h1 hS.1) (fun z => h2 (hFc q z))]
      exact hS.2.1 q h1 h2, fun q hq => by
      rcases List.mem_append.mp hq with h | h
      · exact hS.2.2 q h
      · exact hFc _ (hL q h)⟩ hl T' rfl X'
  exact ⟨t2, go t2 a1, b1⟩
