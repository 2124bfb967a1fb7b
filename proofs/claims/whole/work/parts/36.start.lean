set_option maxRecDepth 20000 in
theorem st_FIRST_SHAPE {s : State} {args : Array Value} {A : Nat → Prop} (hts : ∀ w ∈ lw_tbl, w.before args s = true) (hgv : (Jvm.Cond.and given_1 narrow_1).before args s = true) (hA : ∀ a : Nat, a < s.heap.size → ¬ A a) : ∃ t : Nat, va_Z "BreakLearner" "FIRST_SHAPE" "[I" (.ref t) A s s.heap ∧ va_T .int t 5 (fun j => .int (kFirst j)) A s s.heap := by
  have hs := flat_of_before _ hgv
  obtain ⟨t, h1, h2⟩ := va_Tof (tm := (Term.static "BreakLearner" "FIRST_SHAPE" "[I")) (ty := .int) (N := 5) (f := fun j => .int (kFirst j)) (A := A) (s := s) (args := args) (by omega) (hs _ (by decide +kernel)) (va_eqt (z := 5) (hs _ (by decide +kernel))) (fun j hj => by
    rcases (show j = 0 ∨ j = 1 ∨ j = 2 ∨ j = 3 ∨ j = 4 by omega) with rfl | rfl | rfl | rfl | rfl
    · exact va_eqt (t := Term.elem (Term.static "BreakLearner" "FIRST_SHAPE" "[I") (.int 0)) (z := 0) (hs _ (by decide +kernel))
    · exact va_eqt (t := Term.elem (Term.static "BreakLearner" "FIRST_SHAPE" "[I") (.int 1)) (z := 0) (hs _ (by decide +kernel))
    · exact va_eqt (t := Term.elem (Term.static "BreakLearner" "FIRST_SHAPE" "[I") (.int 2)) (z := 2) (hs _ (by decide +kernel))
    · exact va_eqt (t := Term.elem (Term.static "BreakLearner" "FIRST_SHAPE" "[I") (.int 3)) (z := 5) (hs _ (by decide +kernel))
    · exact va_eqt (t := Term.elem (Term.static "BreakLearner" "FIRST_SHAPE" "[I") (.int 4)) (z := 9) (hs _ (by decide +kernel))
    ) hA
  exact ⟨t, va_Zof (hts (.laysStatic RX10 "FIRST_SHAPE" "[I") (List.mem_of_getElem? (i := 422) (by decide +kernel))) (hts (.initialized RX10) (List.mem_of_getElem? (i := 60) (by decide +kernel))) h1 hA, h2⟩
set_option maxRecDepth 20000 in
theorem st_SHAPE_SIGNS {s : State} {args : Array Value} {A : Nat → Prop} (hts : ∀ w ∈ lw_tbl, w.before args s = true) (hgv : (Jvm.Cond.and given_1 narrow_1).before args s = true) (hA : ∀ a : Nat, a < s.heap.size → ¬ A a) : ∃ t : Nat, va_Z "BreakLearner" "SHAPE_SIGNS" "[I" (.ref t) A s s.heap ∧ va_T .int t 9 (fun j => .int (kSigns j)) A s s.heap := by
  have hs := flat_of_before _ hgv
  obtain ⟨t, h1, h2⟩ := va_Tof (tm := (Term.static "BreakLearner" "SHAPE_SIGNS" "[I")) (ty := .int) (N := 9) (f := fun j => .int (kSigns j)) (A := A) (s := s) (args := args) (by omega) (hs _ (by decide +kernel)) (va_eqt (z := 9) (hs _ (by decide +kernel))) (fun j hj => by
    rcases (show j = 0 ∨ j = 1 ∨ j = 2 ∨ j = 3 ∨ j = 4 ∨ j = 5 ∨ j = 6 ∨ j = 7 ∨ j = 8 by omega) with rfl | rfl | rfl | rfl | rfl | rfl | rfl | rfl | rfl
    · exact va_eqt (t := Term.elem (Term.static "BreakLearner" "SHAPE_SIGNS" "[I") (.int 0)) (z := 1) (hs _ (by decide +kernel))
    · exact va_eqt (t := Term.elem (Term.static "BreakLearner" "SHAPE_SIGNS" "[I") (.int 1)) (z := 1) (hs _ (by decide +kernel))
    · exact va_eqt (t := Term.elem (Term.static "BreakLearner" "SHAPE_SIGNS" "[I") (.int 2)) (z := 2) (hs _ (by decide +kernel))
    · exact va_eqt (t := Term.elem (Term.static "BreakLearner" "SHAPE_SIGNS" "[I") (.int 3)) (z := 2) (hs _ (by decide +kernel))
    · exact va_eqt (t := Term.elem (Term.static "BreakLearner" "SHAPE_SIGNS" "[I") (.int 4)) (z := 2) (hs _ (by decide +kernel))
    · exact va_eqt (t := Term.elem (Term.static "BreakLearner" "SHAPE_SIGNS" "[I") (.int 5)) (z := 3) (hs _ (by decide +kernel))
    · exact va_eqt (t := Term.elem (Term.static "BreakLearner" "SHAPE_SIGNS" "[I") (.int 6)) (z := 3) (hs _ (by decide +kernel))
    · exact va_eqt (t := Term.elem (Term.static "BreakLearner" "SHAPE_SIGNS" "[I") (.int 7)) (z := 3) (hs _ (by decide +kernel))
    · exact va_eqt (t := Term.elem (Term.static "BreakLearner" "SHAPE_SIGNS" "[I") (.int 8)) (z := 3) (hs _ (by decide +kernel))
    ) hA
  exact ⟨t, va_Zof (hts (.laysStatic RX10 "SHAPE_SIGNS" "[I") (List.mem_of_getElem? (i := 430) (by decide +kernel))) (hts (.initialized RX10) (List.mem_of_getElem? (i := 60) (by decide +kernel))) h1 hA, h2⟩
set_option maxRecDepth 20000 in
theorem st_SHAPE_GAP {s : State} {args : Array Value} {A : Nat → Prop} (hts : ∀ w ∈ lw_tbl, w.before args s = true) (hgv : (Jvm.Cond.and given_1 narrow_1).before args s = true) (hA : ∀ a : Nat, a < s.heap.size → ¬ A a) : ∃ t : Nat, va_Z "BreakLearner" "SHAPE_GAP" "[I" (.ref t) A s s.heap ∧ va_T .int t 9 (fun j => .int (kGap j)) A s s.heap := by
  have hs := flat_of_before _ hgv
  obtain ⟨t, h1, h2⟩ := va_Tof (tm := (Term.static "BreakLearner" "SHAPE_GAP" "[I")) (ty := .int) (N := 9) (f := fun j => .int (kGap j)) (A := A) (s := s) (args := args) (by omega) (hs _ (by decide +kernel)) (va_eqt (z := 9) (hs _ (by decide +kernel))) (fun j hj => by
    rcases (show j = 0 ∨ j = 1 ∨ j = 2 ∨ j = 3 ∨ j = 4 ∨ j = 5 ∨ j = 6 ∨ j = 7 ∨ j = 8 by omega) with rfl | rfl | rfl | rfl | rfl | rfl | rfl | rfl | rfl
    · exact va_eqt (t := Term.elem (Term.static "BreakLearner" "SHAPE_GAP" "[I") (.int 0)) (z := 0) (hs _ (by decide +kernel))
    · exact va_eqt (t := Term.elem (Term.static "BreakLearner" "SHAPE_GAP" "[I") (.int 1)) (z := 1) (hs _ (by decide +kernel))
    · exact va_eqt (t := Term.elem (Term.static "BreakLearner" "SHAPE_GAP" "[I") (.int 2)) (z := 0) (hs _ (by decide +kernel))
    · exact va_eqt (t := Term.elem (Term.static "BreakLearner" "SHAPE_GAP" "[I") (.int 3)) (z := 1) (hs _ (by decide +kernel))
    · exact va_eqt (t := Term.elem (Term.static "BreakLearner" "SHAPE_GAP" "[I") (.int 4)) (z := 2) (hs _ (by decide +kernel))
    · exact va_eqt (t := Term.elem (Term.static "BreakLearner" "SHAPE_GAP" "[I") (.int 5)) (z := 0) (hs _ (by decide +kernel))
    · exact va_eqt (t := Term.elem (Term.static "BreakLearner" "SHAPE_GAP" "[I") (.int 6)) (z := 1) (hs _ (by decide +kernel))
    · exact va_eqt (t := Term.elem (Term.static "BreakLearner" "SHAPE_GAP" "[I") (.int 7)) (z := 2) (hs _ (by decide +kernel))
    · exact va_eqt (t := Term.elem (Term.static "BreakLearner" "SHAPE_GAP" "[I") (.int 8)) (z := 3) (hs _ (by decide +kernel))
    ) hA
  exact ⟨t, va_Zof (hts (.laysStatic RX10 "SHAPE_GAP" "[I") (List.mem_of_getElem? (i := 428) (by decide +kernel))) (hts (.initialized RX10) (List.mem_of_getElem? (i := 60) (by decide +kernel))) h1 hA, h2⟩
set_option maxRecDepth 20000 in
theorem st_FACTORIAL {s : State} {args : Array Value} {A : Nat → Prop} (hts : ∀ w ∈ lw_tbl, w.before args s = true) (hgv : (Jvm.Cond.and given_1 narrow_1).before args s = true) (hA : ∀ a : Nat, a < s.heap.size → ¬ A a) : ∃ t : Nat, va_Z "BreakLearner" "FACTORIAL" "[I" (.ref t) A s s.heap ∧ va_T .int t 7 (fun j => .int (kFact j)) A s s.heap := by
  have hs := flat_of_before _ hgv
  obtain ⟨t, h1, h2⟩ := va_Tof (tm := (Term.static "BreakLearner" "FACTORIAL" "[I")) (ty := .int) (N := 7) (f := fun j => .int (kFact j)) (A := A) (s := s) (args := args) (by omega) (hs _ (by decide +kernel)) (va_eqt (z := 7) (hs _ (by decide +kernel))) (fun j hj => by
    rcases (show j = 0 ∨ j = 1 ∨ j = 2 ∨ j = 3 ∨ j = 4 ∨ j = 5 ∨ j = 6 by omega) with rfl | rfl | rfl | rfl | rfl | rfl | rfl
    · exact va_eqt (t := Term.elem (Term.static "BreakLearner" "FACTORIAL" "[I") (.int 0)) (z := 1) (hs _ (by decide +kernel))
    · exact va_eqt (t := Term.elem (Term.static "BreakLearner" "FACTORIAL" "[I") (.int 1)) (z := 1) (hs _ (by decide +kernel))
    · exact va_eqt (t := Term.elem (Term.static "BreakLearner" "FACTORIAL" "[I") (.int 2)) (z := 2) (hs _ (by decide +kernel))
    · exact va_eqt (t := Term.elem (Term.static "BreakLearner" "FACTORIAL" "[I") (.int 3)) (z := 6) (hs _ (by decide +kernel))
    · exact va_eqt (t := Term.elem (Term.static "BreakLearner" "FACTORIAL" "[I") (.int 4)) (z := 24) (hs _ (by decide +kernel))
    · exact va_eqt (t := Term.elem (Term.static "BreakLearner" "FACTORIAL" "[I") (.int 5)) (z := 120) (hs _ (by decide +kernel))
    · exact va_eqt (t := Term.elem (Term.static "BreakLearner" "FACTORIAL" "[I") (.int 6)) (z := 720) (hs _ (by decide +kernel))
    ) hA
  exact ⟨t, va_Zof (hts (.laysStatic RX10 "FACTORIAL" "[I") (List.mem_of_getElem? (i := 764) (by decide +kernel))) (hts (.initialized RX10) (List.mem_of_getElem? (i := 60) (by decide +kernel))) h1 hA, h2⟩
set_option maxRecDepth 20000 in
theorem st_ROW_BOUND {s : State} {args : Array Value} {A : Nat → Prop} (hts : ∀ w ∈ lw_tbl, w.before args s = true) (hgv : (Jvm.Cond.and given_1 narrow_1).before args s = true) (hA : ∀ a : Nat, a < s.heap.size → ¬ A a) : ∃ t : Nat, va_Z "BreakLearner" "ROW_BOUND" "[J" (.ref t) A s s.heap ∧ va_T .long t 4 (fun j => .long (kRow j)) A s s.heap := by
  have hs := flat_of_before _ hgv
  obtain ⟨t, h1, h2⟩ := va_Tof (tm := (Term.static "BreakLearner" "ROW_BOUND" "[J")) (ty := .long) (N := 4) (f := fun j => .long (kRow j)) (A := A) (s := s) (args := args) (by omega) (hs _ (by decide +kernel)) (va_eqt (z := 4) (hs _ (by decide +kernel))) (fun j hj => by
    rcases (show j = 0 ∨ j = 1 ∨ j = 2 ∨ j = 3 by omega) with rfl | rfl | rfl | rfl
    · exact va_eqtl (t := Term.elem (Term.static "BreakLearner" "ROW_BOUND" "[J") (.int 0)) (z := 1) (hs _ (by decide +kernel))
    · exact va_eqtl (t := Term.elem (Term.static "BreakLearner" "ROW_BOUND" "[J") (.int 1)) (z := 100000) (hs _ (by decide +kernel))
    · exact va_eqtl (t := Term.elem (Term.static "BreakLearner" "ROW_BOUND" "[J") (.int 2)) (z := 10000000000) (hs _ (by decide +kernel))
    · exact va_eqtl (t := Term.elem (Term.static "BreakLearner" "ROW_BOUND" "[J") (.int 3)) (z := 1000000000000000) (hs _ (by decide +kernel))
    ) hA
  exact ⟨t, va_Zof (hts (.laysStatic RX10 "ROW_BOUND" "[J") (List.mem_of_getElem? (i := 701) (by decide +kernel))) (hts (.initialized RX10) (List.mem_of_getElem? (i := 60) (by decide +kernel))) h1 hA, h2⟩
theorem mem_lw {w : Cond} (i : Nat) (h : lw_tbl[i]? = some w) : w ∈ lw_tbl := List.mem_of_getElem? h
theorem NWs_in : ∀ w ∈ NWs, w ∈ lw_tbl := by
  intro w hw
  simp only [NWs, List.mem_cons, List.not_mem_nil, or_false] at hw
  rcases hw with rfl | rfl | rfl | rfl | rfl | rfl | rfl | rfl | rfl
  · exact mem_lw 421 (by decide +kernel)
  · exact mem_lw 427 (by decide +kernel)
  · exact mem_lw 429 (by decide +kernel)
  · exact mem_lw 458 (by decide +kernel)
  · exact mem_lw 714 (by decide +kernel)
  · exact mem_lw 763 (by decide +kernel)
  · exact mem_lw 635 (by decide +kernel)
  · exact mem_lw 730 (by decide +kernel)
  · exact mem_lw 731 (by decide +kernel)
theorem NWs_tab : ∀ w ∈ NWs, w.onTables = true := by
  intro w hw
  simp only [NWs, List.mem_cons, List.not_mem_nil, or_false] at hw
  rcases hw with rfl | rfl | rfl | rfl | rfl | rfl | rfl | rfl | rfl <;> rfl
theorem NIs_in : ∀ w ∈ NIs, w ∈ lw_tbl := by
  intro w hw
  simp only [NIs, List.mem_cons, List.not_mem_nil, or_false] at hw
  rcases hw with rfl | rfl | rfl | rfl | rfl
  · exact mem_lw 86 (by decide +kernel)
  · exact mem_lw 152 (by decide +kernel)
  · exact mem_lw 212 (by decide +kernel)
  · exact mem_lw 235 (by decide +kernel)
  · exact mem_lw 264 (by decide +kernel)
theorem NIs_tab : ∀ w ∈ NIs, w.onTables = true := by
  intro w hw
  simp only [NIs, List.mem_cons, List.not_mem_nil, or_false] at hw
  rcases hw with rfl | rfl | rfl | rfl | rfl <;> rfl
theorem shf_eq (a b : Nat) : va_up (va_up (fun _ => none) 0 (some a)) 1 (some b) = shf a b := by
  funext k
  unfold va_up shf
  by_cases h0 : k = 0
  · subst h0; simp
  · by_cases h1 : k = 1
    · subst h1; simp
    · simp [h0, h1]
/-- what holds of the data at the start -/
def IniOK (Inv : ITy) (hsF : Nat → Int32) : Prop := Inv 0 0 (fun _ => 0) 0 0 (fun _ => 0) (fun _ => 0) (fun _ => 0) (fun _ => 0) hsF 0 0 (fun _ => 0) (fun _ => 0) (fun _ => 0) (fun _ => 0) (fun _ => 0) (fun _ => 0) (fun _ => 0) (fun _ => 0) (fun _ => 0) 0 (fun _ => 0) (fun _ => 0) (fun _ => 0) (fun _ => 0) 0 0 0 (fun _ => 0) (fun _ => 0) (fun _ => 0) 0 (fun _ => 0) (fun _ => 0) (fun _ => 0) (fun _ => 0) (fun _ => 0) (fun _ => 0) (fun _ => 0) 0 0 (fun _ => 0) (fun _ => 0) (fun _ => 0) (fun _ => 0) hsF 0 (fun _ => 0) 0 0 (fun _ => 0) (fun _ => 0) (fun _ => 0) (fun _ => 0) hsF 0 0 (fun _ => 0) (fun _ => 0) (fun _ => 0) (fun _ => 0) hsF (fun _ => 0) 0 0 0 0 0 0 0 0 (fun _ => 0) (fun _ => 0) (upd (upd (upd (upd (fun _ => 0) 17 1) 18 1) 19 1) 20 1) (fun _ => 0) (fun _ => 0) (fun _ => 0) (fun _ => 0) (fun _ => 0) (fun _ => 0) (fun _ => 0) (fun _ => 0) (fun _ => 0) (fun _ => 0) (fun _ => 0) (fun _ => 0) (fun _ => 0) (fun _ => 0) (fun _ => 0) (fun _ => 0)
set_option maxHeartbeats 4000000 in
set_option maxRecDepth 100000 in
theorem start_of {p : Program} {e : Env} {s : State} {m : MethodId} {below : List Frame} {meth : Method} {c : Code} (l : Launch) {b L : Nat} {xs : Nat → Int32} (hL : L ≤ 2048) (C0 : lw_At p s m meth c b L xs) (Inv : ITy) (hok : StepOK Inv) (hsF : Nat → Int32) (Fh : Nat) (hmF : m_J7_fill_53178 Fh 5 1 (fun _ => 0) = some hsF) (hini : IniOK Inv hsF) : W p l e room_1 s m #[Value.ref b] below meth c s.heap [] 0 0 (lw_Z below #[Value.ref b] s) (entryFrame m ([Value.ref b] : List Value).toArray 4) := by
  obtain ⟨hx, hb, hr, hml, hown, hts, hX, hbl, hlocks, hgv⟩ := C0
  have hA0 : ∀ a : Nat, a < s.heap.size → ¬ (fun q : Nat => s.heap.size ≤ q) a := fun a h => Nat.not_le.mpr h
  have htb : ∀ w ∈ TB, w.before #[Value.ref b] s = true := fun w h => hts w (List.mem_filter.mp h).1
  obtain ⟨t0, z0, y0⟩ := st_FIRST_SHAPE (A := fun q : Nat => s.heap.size ≤ q) hts hgv hA0
  obtain ⟨t1, z1, y1⟩ := st_SHAPE_SIGNS (A := fun q : Nat => s.heap.size ≤ q) hts hgv hA0
  obtain ⟨t2, z2, y2⟩ := st_SHAPE_GAP (A := fun q : Nat => s.heap.size ≤ q) hts hgv hA0
  obtain ⟨t3, z3, y3⟩ := st_FACTORIAL (A := fun q : Nat => s.heap.size ≤ q) hts hgv hA0
  obtain ⟨t4, z4, y4⟩ := st_ROW_BOUND (A := fun q : Nat => s.heap.size ≤ q) hts hgv hA0
  obtain ⟨c0, i0, k0⟩ := u_known (C := RX0) (T := TX0) (N := 3) (n := 3) htb inX0 (htb _ tb298)
  obtain ⟨c1, i1, k1⟩ := u_known (C := RX1) (T := TX1) (N := 5) (n := 5) htb inX1 (htb _ tb211)
  obtain ⟨c2, i2, k2⟩ := u_known (C := RX3) (T := TX3) (N := 7) (n := 7) htb inX3 (htb _ tb151)
  obtain ⟨c3, i3, k3⟩ := u_known (C := RX4) (T := TX4) (N := 2) (n := 2) htb inX4 (htb _ tb283)
  obtain ⟨c4, i4, k4⟩ := u_known (C := RX5) (T := TX5) (N := 5) (n := 5) htb inX5 (htb _ tb186)
  obtain ⟨c5, i5, k5⟩ := u_known (C := RX6) (T := TX6) (N := 4) (n := 4) htb inX6 (htb _ tb263)
  obtain ⟨c6, i6, k6⟩ := u_known (C := RX7) (T := TX7) (N := 7) (n := 7) htb inX7 (htb _ tb100)
  obtain ⟨c7, i7, k7⟩ := u_known (C := RX8) (T := TX8) (N := 2) (n := 2) htb inX8 (htb _ tb85)
  obtain ⟨c8, i8, k8⟩ := u_known (C := RX9) (T := TX9) (N := 6) (n := 6) htb inX9 (htb _ tb234)
  obtain ⟨c9, i9, k9⟩ := u_known (C := RX10) (T := TX10) (N := 12) (n := 12) htb inX10 (htb _ tb77)
  obtain ⟨c10, i10, k10⟩ := u_known (C := RX11) (T := TX11) (N := 27) (n := 27) htb inX11 (htb _ tb845)
  obtain ⟨dC, dI, hKc⟩ : ∃ (dC : Nat → ClassId) (dI : Nat → Nat → Nat), ∀ (k : Nat) (q : vw_C), vwCl[k]? = some q → u_Kn s q.1 q.2.1 q.2.2 (dC k) (dI k) := by
    refine ⟨fun k => if k = 0 then c0 else if k = 1 then c1 else if k = 2 then c2 else if k = 3 then c3 else if k = 4 then c4 else if k = 5 then c5 else if k = 6 then c6 else if k = 7 then c7 else if k = 8 then c8 else if k = 9 then c9 else c10, fun k => if k = 0 then i0 else if k = 1 then i1 else if k = 2 then i2 else if k = 3 then i3 else if k = 4 then i4 else if k = 5 then i5 else if k = 6 then i6 else if k = 7 then i7 else if k = 8 then i8 else if k = 9 then i9 else i10, ?_⟩
    intro k q hq
    match k, hq with
    | 0, hq => cases hq; exact k0
    | 1, hq => cases hq; exact k1
    | 2, hq => cases hq; exact k2
    | 3, hq => cases hq; exact k3
    | 4, hq => cases hq; exact k4
    | 5, hq => cases hq; exact k5
    | 6, hq => cases hq; exact k6
    | 7, hq => cases hq; exact k7
    | 8, hq => cases hq; exact k8
    | 9, hq => cases hq; exact k9
    | 10, hq => cases hq; exact k10
    | k + 11, hq => simp [vwCl] at hq
  obtain ⟨cI, kI, pI, f1, f2, f3⟩ := Cond.arrayClass_spec (htb _ tb98)
  obtain ⟨cZ, kZ, pZ, f4, f5, f6⟩ := Cond.arrayClass_spec (htb _ tb261)
  have hao : (Cond.arrayOver (.object "BreakLearner$Stock")).before #[Value.ref b] s = true := hts _ (mem_lw 314 (by decide +kernel))
  obtain ⟨pO, cO, kO, f7, f8, f9, f10, f11⟩ := Cond.arrayOver_spec hao
  have hK : va_K (dC, dI) vwCl [(cI, .int), (cZ, .boolean), (cO, .object "BreakLearner$Stock")] s := by
    refine ⟨hKc, fun k q hq => ?_⟩
    match k, hq with
    | 0, hq => cases hq; exact ⟨fun n z => ⟨fun k h => (by cases h), kI, f2, pI, f3⟩, f1⟩
    | 1, hq => cases hq; exact ⟨fun n z => ⟨fun k h => (by cases h), kZ, f5, pZ, f6⟩, f4⟩
    | 2, hq => cases hq; exact ⟨fun n z => ⟨fun k h => (by cases h), kO, f9, pO, f10⟩, kO, pO, f9, f10, f7, f11⟩
    | k + 3, hq => simp at hq
  obtain ⟨g, hg⟩ : ∃ g : Gl, g = ((dC, dI), (cI, cZ, cO), fun k => [t0, t1, t2, t3, t4].getD k 0) := ⟨_, rfl⟩
  have hK1 : va_K g.1 vwCl (TY g) s := by rw [hg]; exact hK
  have hG : SG g.2.2 (fun q : Nat => s.heap.size ≤ q) s s.heap := by rw [hg]; exact ⟨⟨z0, y0⟩, ⟨z1, y1⟩, ⟨z2, y2⟩, ⟨z3, y3⟩, z4, y4⟩
  have hNW : NW s := fun w hw => va_Nw.of (NWs_tab w hw) (hts w (NWs_in w hw))
  have hNI : NI s := ⟨fun w hw => va_Nw.of (NIs_tab w hw) (hts w (NIs_in w hw)), va_AO.of hao⟩
  obtain ⟨x, hxe⟩ : ∃ x : Ctx, x = (p, l, e, room_1, s, m, #[Value.ref b], below, meth, c, fun q : Nat => s.heap.size ≤ q, lw_Z below #[Value.ref b] s, g, 4) := ⟨_, rfl⟩
  have C : Ck x l g code RL 4 room_1 := by subst hxe; exact ⟨hx, hb, hml, hown, htb, hK1, fun _ h => h, ⟨hG, hNW, hNI⟩, rfl, rfl, rfl, rfl⟩
  have D : Cs x b L xs := by subst hxe; exact ⟨hX, hbl, Nat.not_le.mpr hbl, hL, rfl, rfl, rfl, rfl, hr, hlocks⟩
  have key : Wk x 0 0 [] [(0, .ref b)] 0 [] := by
    refine g_new (fs := [.null, .null, .null, .null, .null, .null, .null, .null, .null, .null, .null, .long 0]) C inX10 tyX10 tyX10_ok tb76 tb77 tb60 rfl (fun j hj => by rcases (show j = 0 ∨ j = 1 ∨ j = 2 ∨ j = 3 ∨ j = 4 ∨ j = 5 ∨ j = 6 ∨ j = 7 ∨ j = 8 ∨ j = 9 ∨ j = 10 ∨ j = 11 by omega) with rfl | rfl | rfl | rfl | rfl | rfl | rfl | rfl | rfl | rfl | rfl | rfl <;> rfl) (Nat.le_of_ble_eq_true rfl) (Nat.le_of_ble_eq_true rfl) dL_law_0 (fun qb => Wk.to (w' := [(qb, oO 9 [.null, .null, .null, .null, .null, .null, .null, .null, .null, .null, .null, .long 0])]) rfl ?_)
    refine g_dup C dL_law_3 rfl ?_
    refine g_callI (wr := []) (n := 0) (st := [.ref qb]) C ⟨tb80, tb79, tb60, by decide +kernel, by decide +kernel, by decide +kernel⟩ rfl tb78 (c_X10_init l g qb hsF Fh hmF) rfl ⟨rfl, rfl, by decide, by decide⟩ ⟨(Nat.le_of_ble_eq_true rfl), (Nat.le_of_ble_eq_true rfl)⟩ (Nat.le_of_ble_eq_true rfl) [0] [] rfl rfl (by decide) (by decide) (by decide) rfl dL_law_4 (fun qs => Wk.to (w' := [(qb, oO 9 [.ref (qs 0), .ref (qs 2), .ref (qs 8), .ref (qs 14), .ref (qs 19), .ref (qs 24), .ref (qs 28), .ref (qs 37), .ref (qs 44), .ref (qs 46), .ref (qs 59), .long 0]), (qs 0, oO 7 [.ref (qs 1), .int 0]), (qs 1, iA g 64 (fun _ => 0)), (qs 2, oO 6 [.ref (qs 3), .ref (qs 4), .ref (qs 5), .ref (qs 6), .ref (qs 7), .int 0, .int 0]), (qs 3, iA g 6 (fun _ => 0)), (qs 4, iA g 6 (fun _ => 0)), (qs 5, iA g 6 (fun _ => 0)), (qs 6, iA g 5 (fun _ => 0)), (qs 7, iA g 5 hsF), (qs 8, oO 2 [.ref (qs 9), .ref (qs 10), .ref (qs 11), .int 0, .ref (qs 12), .ref (qs 13), .int 0]), (qs 9, iA g 1372 (fun _ => 0)), (qs 10, iA g 270 (fun _ => 0)), (qs 11, iA g 270 (fun _ => 0)), (qs 12, iA g 5 (fun _ => 0)), (qs 13, iA g 8 (fun _ => 0)), (qs 14, oO 4 [.ref (qs 8), .ref (qs 15), .ref (qs 16), .ref (qs 17), .ref (qs 18)]), (qs 15, iA g 270 (fun _ => 0)), (qs 16, iA g 270 (fun _ => 0)), (qs 17, iA g 270 (fun _ => 0)), (qs 18, iA g 30 (fun _ => 0)), (qs 19, oO 1 [.ref (qs 20), .ref (qs 21), .ref (qs 22), .ref (qs 23), .int 0]), (qs 20, iA g 14 (fun _ => 0)), (qs 21, iA g 14 (fun _ => 0)), (qs 22, iA g 14 (fun _ => 0)), (qs 23, iA g 14 (fun _ => 0)), (qs 24, oO 8 [.ref (qs 25), .ref (qs 26), .ref (qs 27), .int 0, .int 0, .int 0]), (qs 25, zA g 343 (fun _ => 0)), (qs 26, iA g 49 (fun _ => 0)), (qs 27, iA g 301 (fun _ => 0)), (qs 28, oO 5 [.ref (qs 29), .ref (qs 30), .ref (qs 31), .int 0]), (qs 29, iA g 6 (fun _ => 0)), (qs 30, iA g 6 (fun _ => 0)), (qs 31, zA g 6 (fun _ => 0)), (qs 32, oO 4 [.ref (qs 8), .ref (qs 33), .ref (qs 34), .ref (qs 35), .ref (qs 36)]), (qs 33, iA g 270 (fun _ => 0)), (qs 34, iA g 270 (fun _ => 0)), (qs 35, iA g 270 (fun _ => 0)), (qs 36, iA g 30 (fun _ => 0)), (qs 37, oO 3 [.ref (qs 38), .ref (qs 32)]), (qs 38, oO 6 [.ref (qs 39), .ref (qs 40), .ref (qs 41), .ref (qs 42), .ref (qs 43), .int 0, .int 0]), (qs 39, iA g 6 (fun _ => 0)), (qs 40, iA g 6 (fun _ => 0)), (qs 41, iA g 6 (fun _ => 0)), (qs 42, iA g 5 (fun _ => 0)), (qs 43, iA g 5 hsF), (qs 44, oO 0 [.ref (qs 32), .ref (qs 45), .int 0]), (qs 45, iA g 64 (fun _ => 0)), (qs 46, qA g 2 (va_up (va_up (fun _ => none) 0 (some (qs 47))) 1 (some (qs 53)))), (qs 47, oO 6 [.ref (qs 48), .ref (qs 49), .ref (qs 50), .ref (qs 51), .ref (qs 52), .int 0, .int 0]), (qs 48, iA g 6 (fun _ => 0)), (qs 49, iA g 6 (fun _ => 0)), (qs 50, iA g 6 (fun _ => 0)), (qs 51, iA g 5 (fun _ => 0)), (qs 52, iA g 5 hsF), (qs 53, oO 6 [.ref (qs 54), .ref (qs 55), .ref (qs 56), .ref (qs 57), .ref (qs 58), .int 0, .int 0]), (qs 54, iA g 6 (fun _ => 0)), (qs 55, iA g 6 (fun _ => 0)), (qs 56, iA g 6 (fun _ => 0)), (qs 57, iA g 5 (fun _ => 0)), (qs 58, iA g 5 hsF), (qs 59, zA g 2 (fun _ => 0))]) rfl ?_)
    refine g_astore_n (lv' := [(1, .ref qb), (0, .ref b)]) C dL_law_7 rfl (by decide) rfl ?_
    refine g_new (fs := [.int 0, .null, .int 0, .null, .null, .null, .null, .int 0, .null, .null, .int 0, .null, .null, .null, .long 0, .null, .null, .null, .null, .int 0, .null, .null, .null, .null, .int 0, .int 0, .null]) C inX11 tyX11 tyX11_ok tb844 tb845 tb71 rfl (fun j hj => by rcases (show j = 0 ∨ j = 1 ∨ j = 2 ∨ j = 3 ∨ j = 4 ∨ j = 5 ∨ j = 6 ∨ j = 7 ∨ j = 8 ∨ j = 9 ∨ j = 10 ∨ j = 11 ∨ j = 12 ∨ j = 13 ∨ j = 14 ∨ j = 15 ∨ j = 16 ∨ j = 17 ∨ j = 18 ∨ j = 19 ∨ j = 20 ∨ j = 21 ∨ j = 22 ∨ j = 23 ∨ j = 24 ∨ j = 25 ∨ j = 26 by omega) with rfl | rfl | rfl | rfl | rfl | rfl | rfl | rfl | rfl | rfl | rfl | rfl | rfl | rfl | rfl | rfl | rfl | rfl | rfl | rfl | rfl | rfl | rfl | rfl | rfl | rfl | rfl <;> rfl) (Nat.le_of_ble_eq_true rfl) (Nat.le_of_ble_eq_true rfl) dL_law_8 (fun qm => Wk.to (w' := [(qb, oO 9 [.ref (qs 0), .ref (qs 2), .ref (qs 8), .ref (qs 14), .ref (qs 19), .ref (qs 24), .ref (qs 28), .ref (qs 37), .ref (qs 44), .ref (qs 46), .ref (qs 59), .long 0]), (qs 0, oO 7 [.ref (qs 1), .int 0]), (qs 1, iA g 64 (fun _ => 0)), (qs 2, oO 6 [.ref (qs 3), .ref (qs 4), .ref (qs 5), .ref (qs 6), .ref (qs 7), .int 0, .int 0]), (qs 3, iA g 6 (fun _ => 0)), (qs 4, iA g 6 (fun _ => 0)), (qs 5, iA g 6 (fun _ => 0)), (qs 6, iA g 5 (fun _ => 0)), (qs 7, iA g 5 hsF), (qs 8, oO 2 [.ref (qs 9), .ref (qs 10), .ref (qs 11), .int 0, .ref (qs 12), .ref (qs 13), .int 0]), (qs 9, iA g 1372 (fun _ => 0)), (qs 10, iA g 270 (fun _ => 0)), (qs 11, iA g 270 (fun _ => 0)), (qs 12, iA g 5 (fun _ => 0)), (qs 13, iA g 8 (fun _ => 0)), (qs 14, oO 4 [.ref (qs 8), .ref (qs 15), .ref (qs 16), .ref (qs 17), .ref (qs 18)]), (qs 15, iA g 270 (fun _ => 0)), (qs 16, iA g 270 (fun _ => 0)), (qs 17, iA g 270 (fun _ => 0)), (qs 18, iA g 30 (fun _ => 0)), (qs 19, oO 1 [.ref (qs 20), .ref (qs 21), .ref (qs 22), .ref (qs 23), .int 0]), (qs 20, iA g 14 (fun _ => 0)), (qs 21, iA g 14 (fun _ => 0)), (qs 22, iA g 14 (fun _ => 0)), (qs 23, iA g 14 (fun _ => 0)), (qs 24, oO 8 [.ref (qs 25), .ref (qs 26), .ref (qs 27), .int 0, .int 0, .int 0]), (qs 25, zA g 343 (fun _ => 0)), (qs 26, iA g 49 (fun _ => 0)), (qs 27, iA g 301 (fun _ => 0)), (qs 28, oO 5 [.ref (qs 29), .ref (qs 30), .ref (qs 31), .int 0]), (qs 29, iA g 6 (fun _ => 0)), (qs 30, iA g 6 (fun _ => 0)), (qs 31, zA g 6 (fun _ => 0)), (qs 32, oO 4 [.ref (qs 8), .ref (qs 33), .ref (qs 34), .ref (qs 35), .ref (qs 36)]), (qs 33, iA g 270 (fun _ => 0)), (qs 34, iA g 270 (fun _ => 0)), (qs 35, iA g 270 (fun _ => 0)), (qs 36, iA g 30 (fun _ => 0)), (qs 37, oO 3 [.ref (qs 38), .ref (qs 32)]), (qs 38, oO 6 [.ref (qs 39), .ref (qs 40), .ref (qs 41), .ref (qs 42), .ref (qs 43), .int 0, .int 0]), (qs 39, iA g 6 (fun _ => 0)), (qs 40, iA g 6 (fun _ => 0)), (qs 41, iA g 6 (fun _ => 0)), (qs 42, iA g 5 (fun _ => 0)), (qs 43, iA g 5 hsF), (qs 44, oO 0 [.ref (qs 32), .ref (qs 45), .int 0]), (qs 45, iA g 64 (fun _ => 0)), (qs 46, qA g 2 (va_up (va_up (fun _ => none) 0 (some (qs 47))) 1 (some (qs 53)))), (qs 47, oO 6 [.ref (qs 48), .ref (qs 49), .ref (qs 50), .ref (qs 51), .ref (qs 52), .int 0, .int 0]), (qs 48, iA g 6 (fun _ => 0)), (qs 49, iA g 6 (fun _ => 0)), (qs 50, iA g 6 (fun _ => 0)), (qs 51, iA g 5 (fun _ => 0)), (qs 52, iA g 5 hsF), (qs 53, oO 6 [.ref (qs 54), .ref (qs 55), .ref (qs 56), .ref (qs 57), .ref (qs 58), .int 0, .int 0]), (qs 54, iA g 6 (fun _ => 0)), (qs 55, iA g 6 (fun _ => 0)), (qs 56, iA g 6 (fun _ => 0)), (qs 57, iA g 5 (fun _ => 0)), (qs 58, iA g 5 hsF), (qs 59, zA g 2 (fun _ => 0)), (qm, oO 10 [.int 0, .null, .int 0, .null, .null, .null, .null, .int 0, .null, .null, .int 0, .null, .null, .null, .long 0, .null, .null, .null, .null, .int 0, .null, .null, .null, .null, .int 0, .int 0, .null])]) rfl ?_)
    refine g_dup C dL_law_11 rfl ?_
    refine g_callI (wr := [(qb, oO 9 [.ref (qs 0), .ref (qs 2), .ref (qs 8), .ref (qs 14), .ref (qs 19), .ref (qs 24), .ref (qs 28), .ref (qs 37), .ref (qs 44), .ref (qs 46), .ref (qs 59), .long 0]), (qs 0, oO 7 [.ref (qs 1), .int 0]), (qs 1, iA g 64 (fun _ => 0)), (qs 2, oO 6 [.ref (qs 3), .ref (qs 4), .ref (qs 5), .ref (qs 6), .ref (qs 7), .int 0, .int 0]), (qs 3, iA g 6 (fun _ => 0)), (qs 4, iA g 6 (fun _ => 0)), (qs 5, iA g 6 (fun _ => 0)), (qs 6, iA g 5 (fun _ => 0)), (qs 7, iA g 5 hsF), (qs 8, oO 2 [.ref (qs 9), .ref (qs 10), .ref (qs 11), .int 0, .ref (qs 12), .ref (qs 13), .int 0]), (qs 9, iA g 1372 (fun _ => 0)), (qs 10, iA g 270 (fun _ => 0)), (qs 11, iA g 270 (fun _ => 0)), (qs 12, iA g 5 (fun _ => 0)), (qs 13, iA g 8 (fun _ => 0)), (qs 14, oO 4 [.ref (qs 8), .ref (qs 15), .ref (qs 16), .ref (qs 17), .ref (qs 18)]), (qs 15, iA g 270 (fun _ => 0)), (qs 16, iA g 270 (fun _ => 0)), (qs 17, iA g 270 (fun _ => 0)), (qs 18, iA g 30 (fun _ => 0)), (qs 19, oO 1 [.ref (qs 20), .ref (qs 21), .ref (qs 22), .ref (qs 23), .int 0]), (qs 20, iA g 14 (fun _ => 0)), (qs 21, iA g 14 (fun _ => 0)), (qs 22, iA g 14 (fun _ => 0)), (qs 23, iA g 14 (fun _ => 0)), (qs 24, oO 8 [.ref (qs 25), .ref (qs 26), .ref (qs 27), .int 0, .int 0, .int 0]), (qs 25, zA g 343 (fun _ => 0)), (qs 26, iA g 49 (fun _ => 0)), (qs 27, iA g 301 (fun _ => 0)), (qs 28, oO 5 [.ref (qs 29), .ref (qs 30), .ref (qs 31), .int 0]), (qs 29, iA g 6 (fun _ => 0)), (qs 30, iA g 6 (fun _ => 0)), (qs 31, zA g 6 (fun _ => 0)), (qs 32, oO 4 [.ref (qs 8), .ref (qs 33), .ref (qs 34), .ref (qs 35), .ref (qs 36)]), (qs 33, iA g 270 (fun _ => 0)), (qs 34, iA g 270 (fun _ => 0)), (qs 35, iA g 270 (fun _ => 0)), (qs 36, iA g 30 (fun _ => 0)), (qs 37, oO 3 [.ref (qs 38), .ref (qs 32)]), (qs 38, oO 6 [.ref (qs 39), .ref (qs 40), .ref (qs 41), .ref (qs 42), .ref (qs 43), .int 0, .int 0]), (qs 39, iA g 6 (fun _ => 0)), (qs 40, iA g 6 (fun _ => 0)), (qs 41, iA g 6 (fun _ => 0)), (qs 42, iA g 5 (fun _ => 0)), (qs 43, iA g 5 hsF), (qs 44, oO 0 [.ref (qs 32), .ref (qs 45), .int 0]), (qs 45, iA g 64 (fun _ => 0)), (qs 46, qA g 2 (va_up (va_up (fun _ => none) 0 (some (qs 47))) 1 (some (qs 53)))), (qs 47, oO 6 [.ref (qs 48), .ref (qs 49), .ref (qs 50), .ref (qs 51), .ref (qs 52), .int 0, .int 0]), (qs 48, iA g 6 (fun _ => 0)), (qs 49, iA g 6 (fun _ => 0)), (qs 50, iA g 6 (fun _ => 0)), (qs 51, iA g 5 (fun _ => 0)), (qs 52, iA g 5 hsF), (qs 53, oO 6 [.ref (qs 54), .ref (qs 55), .ref (qs 56), .ref (qs 57), .ref (qs 58), .int 0, .int 0]), (qs 54, iA g 6 (fun _ => 0)), (qs 55, iA g 6 (fun _ => 0)), (qs 56, iA g 6 (fun _ => 0)), (qs 57, iA g 5 (fun _ => 0)), (qs 58, iA g 5 hsF), (qs 59, zA g 2 (fun _ => 0))]) (n := 0) (st := [.ref qm]) C ⟨tb848, tb847, tb71, by decide +kernel, by decide +kernel, by decide +kernel⟩ rfl tb846 (c_X11_init l g qm ) rfl ⟨rfl, rfl, by decide, by decide⟩ ⟨(Nat.le_of_ble_eq_true rfl), (Nat.le_of_ble_eq_true rfl)⟩ (Nat.le_of_ble_eq_true rfl) [61] [0, 1, 2, 3, 4, 5, 6, 7, 8, 9, 10, 11, 12, 13, 14, 15, 16, 17, 18, 19, 20, 21, 22, 23, 24, 25, 26, 27, 28, 29, 30, 31, 32, 33, 34, 35, 36, 37, 38, 39, 40, 41, 42, 43, 44, 45, 46, 47, 48, 49, 50, 51, 52, 53, 54, 55, 56, 57, 58, 59, 60] rfl rfl (by decide) (by decide) (by decide) rfl dL_law_12 (fun qt => Wk.to (w' := [(qb, oO 9 [.ref (qs 0), .ref (qs 2), .ref (qs 8), .ref (qs 14), .ref (qs 19), .ref (qs 24), .ref (qs 28), .ref (qs 37), .ref (qs 44), .ref (qs 46), .ref (qs 59), .long 0]), (qs 0, oO 7 [.ref (qs 1), .int 0]), (qs 1, iA g 64 (fun _ => 0)), (qs 2, oO 6 [.ref (qs 3), .ref (qs 4), .ref (qs 5), .ref (qs 6), .ref (qs 7), .int 0, .int 0]), (qs 3, iA g 6 (fun _ => 0)), (qs 4, iA g 6 (fun _ => 0)), (qs 5, iA g 6 (fun _ => 0)), (qs 6, iA g 5 (fun _ => 0)), (qs 7, iA g 5 hsF), (qs 8, oO 2 [.ref (qs 9), .ref (qs 10), .ref (qs 11), .int 0, .ref (qs 12), .ref (qs 13), .int 0]), (qs 9, iA g 1372 (fun _ => 0)), (qs 10, iA g 270 (fun _ => 0)), (qs 11, iA g 270 (fun _ => 0)), (qs 12, iA g 5 (fun _ => 0)), (qs 13, iA g 8 (fun _ => 0)), (qs 14, oO 4 [.ref (qs 8), .ref (qs 15), .ref (qs 16), .ref (qs 17), .ref (qs 18)]), (qs 15, iA g 270 (fun _ => 0)), (qs 16, iA g 270 (fun _ => 0)), (qs 17, iA g 270 (fun _ => 0)), (qs 18, iA g 30 (fun _ => 0)), (qs 19, oO 1 [.ref (qs 20), .ref (qs 21), .ref (qs 22), .ref (qs 23), .int 0]), (qs 20, iA g 14 (fun _ => 0)), (qs 21, iA g 14 (fun _ => 0)), (qs 22, iA g 14 (fun _ => 0)), (qs 23, iA g 14 (fun _ => 0)), (qs 24, oO 8 [.ref (qs 25), .ref (qs 26), .ref (qs 27), .int 0, .int 0, .int 0]), (qs 25, zA g 343 (fun _ => 0)), (qs 26, iA g 49 (fun _ => 0)), (qs 27, iA g 301 (fun _ => 0)), (qs 28, oO 5 [.ref (qs 29), .ref (qs 30), .ref (qs 31), .int 0]), (qs 29, iA g 6 (fun _ => 0)), (qs 30, iA g 6 (fun _ => 0)), (qs 31, zA g 6 (fun _ => 0)), (qs 32, oO 4 [.ref (qs 8), .ref (qs 33), .ref (qs 34), .ref (qs 35), .ref (qs 36)]), (qs 33, iA g 270 (fun _ => 0)), (qs 34, iA g 270 (fun _ => 0)), (qs 35, iA g 270 (fun _ => 0)), (qs 36, iA g 30 (fun _ => 0)), (qs 37, oO 3 [.ref (qs 38), .ref (qs 32)]), (qs 38, oO 6 [.ref (qs 39), .ref (qs 40), .ref (qs 41), .ref (qs 42), .ref (qs 43), .int 0, .int 0]), (qs 39, iA g 6 (fun _ => 0)), (qs 40, iA g 6 (fun _ => 0)), (qs 41, iA g 6 (fun _ => 0)), (qs 42, iA g 5 (fun _ => 0)), (qs 43, iA g 5 hsF), (qs 44, oO 0 [.ref (qs 32), .ref (qs 45), .int 0]), (qs 45, iA g 64 (fun _ => 0)), (qs 46, qA g 2 (va_up (va_up (fun _ => none) 0 (some (qs 47))) 1 (some (qs 53)))), (qs 47, oO 6 [.ref (qs 48), .ref (qs 49), .ref (qs 50), .ref (qs 51), .ref (qs 52), .int 0, .int 0]), (qs 48, iA g 6 (fun _ => 0)), (qs 49, iA g 6 (fun _ => 0)), (qs 50, iA g 6 (fun _ => 0)), (qs 51, iA g 5 (fun _ => 0)), (qs 52, iA g 5 hsF), (qs 53, oO 6 [.ref (qs 54), .ref (qs 55), .ref (qs 56), .ref (qs 57), .ref (qs 58), .int 0, .int 0]), (qs 54, iA g 6 (fun _ => 0)), (qs 55, iA g 6 (fun _ => 0)), (qs 56, iA g 6 (fun _ => 0)), (qs 57, iA g 5 (fun _ => 0)), (qs 58, iA g 5 hsF), (qs 59, zA g 2 (fun _ => 0)), (qm, oO 10 [.int 0, .ref (qt 0), .int 0, .ref (qt 1), .ref (qt 2), .ref (qt 3), .ref (qt 4), .int 0, .ref (qt 5), .ref (qt 6), .int 0, .ref (qt 7), .ref (qt 8), .ref (qt 9), .long 0, .ref (qt 10), .ref (qt 11), .ref (qt 12), .ref (qt 13), .int 0, .ref (qt 14), .ref (qt 15), .ref (qt 16), .ref (qt 17), .int 0, .int 0, .ref (qt 18)]), (qt 0, iA g 64 (fun _ => 0)), (qt 1, iA g 22 (fun _ => 0)), (qt 2, iA g 22 (upd (upd (upd (upd (fun _ => 0) 17 1) 18 1) 19 1) 20 1)), (qt 3, iA g 22 (fun _ => 0)), (qt 4, iA g 308 (fun _ => 0)), (qt 5, iA g 44 (fun _ => 0)), (qt 6, zA g 2 (fun _ => 0)), (qt 7, iA g 6 (fun _ => 0)), (qt 8, iA g 6 (fun _ => 0)), (qt 9, iA g 6 (fun _ => 0)), (qt 10, iA g 1372 (fun _ => 0)), (qt 11, iA g 1372 (fun _ => 0)), (qt 12, iA g 1372 (fun _ => 0)), (qt 13, iA g 8 (fun _ => 0)), (qt 14, iA g 36 (fun _ => 0)), (qt 15, zA g 343 (fun _ => 0)), (qt 16, iA g 343 (fun _ => 0)), (qt 17, iA g 1600 (fun _ => 0)), (qt 18, iA g 64 (fun _ => 0))]) rfl ?_)
    refine g_astore_n (lv' := [(2, .ref qm), (1, .ref qb), (0, .ref b)]) C dL_law_15 rfl (by decide) rfl ?_
    refine g_iconst (v := 0) C dL_law_16 (by decide) ?_
    refine g_istore_n (lv' := [(3, .int 0), (2, .ref qm), (1, .ref qb), (0, .ref b)]) C dL_law_17 rfl (by decide) rfl ?_
    refine Wk.to (w' := [(qb, oO 9 [.ref (qs 0), .ref (qs 2), .ref (qs 8), .ref (qs 14), .ref (qs 19), .ref (qs 24), .ref (qs 28), .ref (qs 37), .ref (qs 44), .ref (qs 46), .ref (qs 59), .long 0]), (qs 0, oO 7 [.ref (qs 1), .int 0]), (qs 1, iA g 64 (fun _ => 0)), (qs 2, oO 6 [.ref (qs 3), .ref (qs 4), .ref (qs 5), .ref (qs 6), .ref (qs 7), .int 0, .int 0]), (qs 3, iA g 6 (fun _ => 0)), (qs 4, iA g 6 (fun _ => 0)), (qs 5, iA g 6 (fun _ => 0)), (qs 6, iA g 5 (fun _ => 0)), (qs 7, iA g 5 hsF), (qs 8, oO 2 [.ref (qs 9), .ref (qs 10), .ref (qs 11), .int 0, .ref (qs 12), .ref (qs 13), .int 0]), (qs 9, iA g 1372 (fun _ => 0)), (qs 10, iA g 270 (fun _ => 0)), (qs 11, iA g 270 (fun _ => 0)), (qs 12, iA g 5 (fun _ => 0)), (qs 13, iA g 8 (fun _ => 0)), (qs 14, oO 4 [.ref (qs 8), .ref (qs 15), .ref (qs 16), .ref (qs 17), .ref (qs 18)]), (qs 15, iA g 270 (fun _ => 0)), (qs 16, iA g 270 (fun _ => 0)), (qs 17, iA g 270 (fun _ => 0)), (qs 18, iA g 30 (fun _ => 0)), (qs 19, oO 1 [.ref (qs 20), .ref (qs 21), .ref (qs 22), .ref (qs 23), .int 0]), (qs 20, iA g 14 (fun _ => 0)), (qs 21, iA g 14 (fun _ => 0)), (qs 22, iA g 14 (fun _ => 0)), (qs 23, iA g 14 (fun _ => 0)), (qs 24, oO 8 [.ref (qs 25), .ref (qs 26), .ref (qs 27), .int 0, .int 0, .int 0]), (qs 25, zA g 343 (fun _ => 0)), (qs 26, iA g 49 (fun _ => 0)), (qs 27, iA g 301 (fun _ => 0)), (qs 28, oO 5 [.ref (qs 29), .ref (qs 30), .ref (qs 31), .int 0]), (qs 29, iA g 6 (fun _ => 0)), (qs 30, iA g 6 (fun _ => 0)), (qs 31, zA g 6 (fun _ => 0)), (qs 32, oO 4 [.ref (qs 8), .ref (qs 33), .ref (qs 34), .ref (qs 35), .ref (qs 36)]), (qs 33, iA g 270 (fun _ => 0)), (qs 34, iA g 270 (fun _ => 0)), (qs 35, iA g 270 (fun _ => 0)), (qs 36, iA g 30 (fun _ => 0)), (qs 37, oO 3 [.ref (qs 38), .ref (qs 32)]), (qs 38, oO 6 [.ref (qs 39), .ref (qs 40), .ref (qs 41), .ref (qs 42), .ref (qs 43), .int 0, .int 0]), (qs 39, iA g 6 (fun _ => 0)), (qs 40, iA g 6 (fun _ => 0)), (qs 41, iA g 6 (fun _ => 0)), (qs 42, iA g 5 (fun _ => 0)), (qs 43, iA g 5 hsF), (qs 44, oO 0 [.ref (qs 32), .ref (qs 45), .int 0]), (qs 45, iA g 64 (fun _ => 0)), (qs 46, qA g 2 (shf (qs 47) (qs 53))), (qs 47, oO 6 [.ref (qs 48), .ref (qs 49), .ref (qs 50), .ref (qs 51), .ref (qs 52), .int 0, .int 0]), (qs 48, iA g 6 (fun _ => 0)), (qs 49, iA g 6 (fun _ => 0)), (qs 50, iA g 6 (fun _ => 0)), (qs 51, iA g 5 (fun _ => 0)), (qs 52, iA g 5 hsF), (qs 53, oO 6 [.ref (qs 54), .ref (qs 55), .ref (qs 56), .ref (qs 57), .ref (qs 58), .int 0, .int 0]), (qs 54, iA g 6 (fun _ => 0)), (qs 55, iA g 6 (fun _ => 0)), (qs 56, iA g 6 (fun _ => 0)), (qs 57, iA g 5 (fun _ => 0)), (qs 58, iA g 5 hsF), (qs 59, zA g 2 (fun _ => 0)), (qm, oO 10 [.int 0, .ref (qt 0), .int 0, .ref (qt 1), .ref (qt 2), .ref (qt 3), .ref (qt 4), .int 0, .ref (qt 5), .ref (qt 6), .int 0, .ref (qt 7), .ref (qt 8), .ref (qt 9), .long 0, .ref (qt 10), .ref (qt 11), .ref (qt 12), .ref (qt 13), .int 0, .ref (qt 14), .ref (qt 15), .ref (qt 16), .ref (qt 17), .int 0, .int 0, .ref (qt 18)]), (qt 0, iA g 64 (fun _ => 0)), (qt 1, iA g 22 (fun _ => 0)), (qt 2, iA g 22 (upd (upd (upd (upd (fun _ => 0) 17 1) 18 1) 19 1) 20 1)), (qt 3, iA g 22 (fun _ => 0)), (qt 4, iA g 308 (fun _ => 0)), (qt 5, iA g 44 (fun _ => 0)), (qt 6, zA g 2 (fun _ => 0)), (qt 7, iA g 6 (fun _ => 0)), (qt 8, iA g 6 (fun _ => 0)), (qt 9, iA g 6 (fun _ => 0)), (qt 10, iA g 1372 (fun _ => 0)), (qt 11, iA g 1372 (fun _ => 0)), (qt 12, iA g 1372 (fun _ => 0)), (qt 13, iA g 8 (fun _ => 0)), (qt 14, iA g 36 (fun _ => 0)), (qt 15, zA g 343 (fun _ => 0)), (qt 16, iA g 343 (fun _ => 0)), (qt 17, iA g 1600 (fun _ => 0)), (qt 18, iA g 64 (fun _ => 0))]) (by rw [shf_eq]) ?_
    have hlp := law_loop C D (kc := 81) (ns := 11734) (Nat.le_of_ble_eq_true rfl) (Nat.le_of_ble_eq_true rfl) Inv hok hL (fun k => [qb, qs 0, qs 1, qs 2, qs 3, qs 4, qs 5, qs 6, qs 7, qs 8, qs 9, qs 10, qs 11, qs 12, qs 13, qs 14, qs 15, qs 16, qs 17, qs 18, qs 19, qs 20, qs 21, qs 22, qs 23, qs 24, qs 25, qs 26, qs 27, qs 28, qs 29, qs 30, qs 31, qs 32, qs 33, qs 34, qs 35, qs 36, qs 37, qs 38, qs 39, qs 40, qs 41, qs 42, qs 43, qs 44, qs 45, qs 46, qs 47, qs 48, qs 49, qs 50, qs 51, qs 52, qs 53, qs 54, qs 55, qs 56, qs 57, qs 58, qs 59, qm, qt 0, qt 1, qt 2, qt 3, qt 4, qt 5, qt 6, qt 7, qt 8, qt 9, qt 10, qt 11, qt 12, qt 13, qt 14, qt 15, qt 16, qt 17, qt 18].getD k 0) (L + 5) 0 (by omega) (by omega) _ _ _ _ _ _ _ _ _ _ _ _ _ _ _ _ _ _ _ _ _ _ _ _ _ _ _ _ _ _ _ _ _ _ _ _ _ _ _ _ _ _ _ _ _ _ _ _ _ _ _ _ _ _ _ _ _ _ _ _ _ _ _ _ _ _ _ _ _ _ _ _ _ _ _ _ _ _ _ _ _ _ _ _ _ _ _ _ _ _ _ hini
    exact Wk.lv (Wk.to rfl hlp) [3, 2, 1, 0] rfl
  have hP : va_P g.1 vwCl [] s.heap := fun k q h => by simp at h
  have hD : va_D (fun q : Nat => s.heap.size ≤ q) [] := ⟨fun i j p q h => by simp at h, fun k q h => by simp at h⟩
  have hl := lv_entry ([.ref b]) (n := 4) (Nat.le_of_ble_eq_true rfl)
  rw [lg_entry_eq]
  subst hxe
  exact key s.heap [] _ hP hD va_S.rf hl
