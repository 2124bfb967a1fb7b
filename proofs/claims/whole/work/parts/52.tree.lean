/-! ===== 52.tree: the nodes and the slots ===== -/
theorem nar1 : vp_nar .boolean 1 = (1 : Int32) := by decide
theorem nar0 : vp_nar .boolean 0 = (0 : Int32) := by decide
theorem n_m9 {k : Nat} (h : k < 2147483648) : ¬ nI k = -9 := by
  intro e
  have := nI_pos h
  rw [e] at this
  exact this (by decide)
def setR (S : Nat → Prop) (f : Nat → Int32) : Prop := ∀ k, k < 343 → (S k ∧ f k = 1) ∨ (¬ S k ∧ f k = 0)
theorem setR.c {S S' : Nat → Prop} {f : Nat → Int32} (h : setR S f) (he : ∀ k, k < 343 → (S k ↔ S' k)) : setR S' f := by
  intro k hk
  rcases h k hk with ⟨a, b⟩ | ⟨a, b⟩
  · exact Or.inl ⟨(he k hk).mp a, b⟩
  · exact Or.inr ⟨fun q => a ((he k hk).mpr q), b⟩
theorem setR.u {S : Nat → Prop} {f : Nat → Int32} (h : setR S f) (n : Nat) : setR (fun k => S k ∨ k = n) (upd f n 1) := by
  intro k hk
  by_cases e : k = n
  · subst e; exact Or.inl ⟨Or.inr rfl, upd_s _ _ _⟩
  · rw [upd_n _ _ e]
    rcases h k hk with ⟨a, b⟩ | ⟨a, b⟩
    · exact Or.inl ⟨Or.inl a, b⟩
    · exact Or.inr ⟨fun q => q.elim a e, b⟩
def cntF (f : Nat → Int32) : Nat := sumN (fun k => if f k = 0 then 0 else 1) 343
theorem cntF_u {f : Nat → Int32} {n : Nat} (hn : n < 343) (h : f n = 0) : cntF (upd f n 1) = cntF f + 1 := by
  have e1 : cntF (upd f n 1) = sumN (fun k => (if f k = 0 then 0 else 1) + (if n = k then (fun _ => 1) k else 0)) 343 := by
    refine sumN_c _ (fun k hk => ?_)
    by_cases e : n = k
    · subst e; rw [upd_s, h]; simp
    · rw [upd_n _ _ (Ne.symm e), if_neg e, Nat.add_zero]
  rw [e1, sumN_add, sumN_one, if_pos hn]; rfl
theorem s_takeNode {S : Nat → Prop} {f : Nat → Int32} (h : setR S f) {n : Nat} (hn : n < 343) : OK (m_X9_takeNode 3000 (nI n) (nI (cntF f)) f) (fun u => u.1 = nI (cntF u.2) ∧ setR (fun k => S k ∨ k = n) u.2) := by
  unfold m_X9_takeNode
  refine OK.rd n rfl hn ?_
  rcases h n hn with ⟨a, b⟩ | ⟨a, b⟩
  · rw [b]
    refine OK.f (by decide) (OK.s ⟨rfl, h.c (fun k hk => ⟨Or.inl, fun q => q.elim id (fun e => by subst e; exact a)⟩)⟩)
  · rw [b]
    refine OK.t rfl (OK.st n rfl hn ?_)
    rw [nar1]
    refine OK.l (OK.s ⟨?_, h.u n⟩)
    show _ = nI (cntF (upd f n 1))
    rw [cntF_u hn b, nI_1]
def ndOf (c k : Nat) : Prop := k = 0 ∨ k = c / 4 ∨ k = c / 4 / 7 ∨ k = c / 4 / 49
def NSp (pl : Nat → Nat) (T k : Nat) : Prop := ∃ c, c < T ∧ 0 < pl c ∧ ndOf c k
theorem cntF_0 {f : Nat → Int32} (h : ∀ k, k < 343 → f k = 0) : cntF f = 0 := sumN_0 _ (fun k hk => by rw [h k hk]; rfl)
theorem s_takeNodes {m : Nat} (hm : m ≤ 270) {cd pl : Nat → Nat} (hb : ∀ k, pl k ≤ 4) {codes levels : Nat → Int32} (hl : jabR m levels (fun j => pl (cd j))) (hc : ∀ j, j < m → codes j = nI (cd j) ∧ cd j < 1372) (z : Int32) (f : Nat → Int32) :
    OK (m_X9_takeNodes 3000 z f (nI m) levels codes) (fun u => u.1 = nI (cntF u.2) ∧ setR (fun k => ∃ j, j < m ∧ 0 < pl (cd j) ∧ ndOf (cd j) k) u.2) := by
  unfold m_X9_takeNodes
  refine OK.w2 (fun t x g => x = nI t ∧ ∀ k, k < t → g k = 0) 343 ?_ (by omega) ⟨rfl, fun k hk => absurd hk (Nat.not_lt_zero _)⟩
  rintro t x g k ⟨rfl, h1⟩ ht hk
  refine OK.le 343 t (by omega) (by omega) (fun h => ?_) (fun h => ?_)
  · have et : t = 343 := by omega
    subst et
    refine OK.w3 (fun t x y g => x = nI t ∧ y = nI (cntF g) ∧ setR (fun k => ∃ j, j < t ∧ 0 < pl (cd j) ∧ ndOf (cd j) k) g) m ?_ (by omega) ⟨rfl, by rw [cntF_0 h1]; rfl, fun k hk => Or.inr ⟨fun ⟨j, hj, _⟩ => absurd hj (Nat.not_lt_zero _), h1 k hk⟩⟩
    rintro t x y g2 k2 ⟨rfl, rfl, h2⟩ ht2 hk2
    refine OK.le m t (by omega) (by omega) (fun h => OK.s ⟨rfl, by rw [show t = m by omega] at h2; exact h2⟩) (fun h => ?_)
    refine OK.rd t rfl (by omega) ?_
    have hpb := hb (cd t)
    rw [hl t h]
    refine OK.le (pl (cd t)) 0 (by omega) (by omega) (fun e => ?_) (fun e => ?_)
    · refine hk2 h _ _ _ ⟨nI_1 t, rfl, h2.c (fun k _ => ⟨fun ⟨j, a, b, c⟩ => ⟨j, by omega, b, c⟩, fun ⟨j, a, b, c⟩ => ⟨j, ?_, b, c⟩⟩)⟩
      rcases Nat.lt_succ_iff_lt_or_eq.mp a with q | q
      · exact q
      · subst q; omega
    · refine OK.rd t rfl (by omega) ?_
      obtain ⟨c1, c2⟩ := hc t h
      rw [c1]
      refine OK.l ?_
      rw [show (4 : Int32) = nI 4 from rfl, show (7 : Int32) = nI 7 from rfl, show (49 : Int32) = nI 49 from rfl, pk_div (by omega) (by omega) (by omega), pk_div (by omega) (by omega) (by omega), pk_div (by omega) (by omega) (by omega)]
      refine OK.b2 (s_takeNode h2 (n := cd t / 4) (by omega)) (fun z1 g3 hq => ?_)
      obtain ⟨q1, q2⟩ := hq
      have q1 : z1 = nI (cntF g3) := q1
      subst q1
      refine OK.b2 (s_takeNode q2 (n := cd t / 4 / 7) (by omega)) (fun z1 g4 hq => ?_)
      obtain ⟨q1, q3⟩ := hq
      have q1 : z1 = nI (cntF g4) := q1
      subst q1
      refine OK.b2 (s_takeNode q3 (n := cd t / 4 / 49) (by omega)) (fun z1 g5 hq => ?_)
      obtain ⟨q1, q4⟩ := hq
      have q1 : z1 = nI (cntF g5) := q1
      subst q1
      refine OK.b2 (s_takeNode q4 (n := 0) (by omega)) (fun z1 g6 hq => ?_)
      obtain ⟨q1, q5⟩ := hq
      have q1 : z1 = nI (cntF g6) := q1
      subst q1
      refine hk2 h _ _ _ ⟨nI_1 t, rfl, q5.c (fun k _ => ⟨fun q => ?_, fun ⟨j, a, b, c⟩ => ?_⟩)⟩
      · rcases q with (((⟨j, a, b, c⟩ | q) | q) | q) | q
        · exact ⟨j, by omega, b, c⟩
        · exact ⟨t, by omega, e, Or.inr (Or.inl q)⟩
        · exact ⟨t, by omega, e, Or.inr (Or.inr (Or.inl q))⟩
        · exact ⟨t, by omega, e, Or.inr (Or.inr (Or.inr q))⟩
        · exact ⟨t, by omega, e, Or.inl q⟩
      · rcases Nat.lt_succ_iff_lt_or_eq.mp a with q | q
        · exact Or.inl (Or.inl (Or.inl (Or.inl ⟨j, q, b, c⟩)))
        · subst q
          rcases c with c | c | c | c
          · exact Or.inr c
          · exact Or.inl (Or.inl (Or.inl (Or.inr c)))
          · exact Or.inl (Or.inl (Or.inr c))
          · exact Or.inl (Or.inr c)
  · refine OK.st t rfl h ?_
    rw [nar0]
    refine hk h _ _ ⟨nI_1 t, fun j hj => ?_⟩
    by_cases e : j = t
    · subst e; exact upd_s _ _ _
    · rw [upd_n _ _ e]; exact h1 j (by omega)
theorem s_layNodes {pl : Nat → Nat} (hb : ∀ k, pl k ≤ 4) (hpos : ∀ c, 0 < pl c → 1 ≤ c / 4) {plan : Nat → Int32} (hpl : tabR plan pl) (f b : Nat → Int32) :
    OK (m_X11_layNodes 3000 f b plan) (fun u => setR (NSp pl 1372) u.1 ∧ ∀ k, k < 343 → u.2 k = -9) := by
  unfold m_X11_layNodes
  refine OK.w3 (fun t x g h => x = nI t ∧ (∀ k, k < t → g k = 0) ∧ ∀ k, k < t → h k = -9) 343 ?_ (by omega) ⟨rfl, fun k hk => absurd hk (Nat.not_lt_zero _), fun k hk => absurd hk (Nat.not_lt_zero _)⟩
  rintro t x g h k ⟨rfl, h1, h9⟩ ht hk
  refine OK.le 343 t (by omega) (by omega) (fun h => ?_) (fun h => ?_)
  · have et : t = 343 := by omega
    subst et
    refine OK.w2 (fun t x g => x = nI t ∧ setR (NSp pl t) g) 1372 ?_ (by omega) ⟨rfl, fun k hk => Or.inr ⟨fun ⟨j, hj, _⟩ => absurd hj (Nat.not_lt_zero _), h1 k hk⟩⟩
    rintro t x g2 k2 ⟨rfl, h2⟩ ht2 hk2
    refine OK.le 1372 t (by omega) (by omega) (fun h => OK.s ⟨by rw [show t = 1372 by omega] at h2; exact h2, h9⟩) (fun h => ?_)
    refine OK.l ?_
    rw [show (4 : Int32) = nI 4 from rfl, pk_div (by omega) (by omega) (by omega)]
    have hpb := hb t
    have hskip : pl t = 0 → setR (NSp pl (t + 1)) g2 := fun e => h2.c (fun k _ => ⟨fun ⟨j, a, b, c⟩ => ⟨j, by omega, b, c⟩, fun ⟨j, a, b, c⟩ => ⟨j, by
      rcases Nat.lt_succ_iff_lt_or_eq.mp a with q | q
      · exact q
      · subst q; omega, b, c⟩⟩)
    refine OK.w2 (fun s x g => x = nI (t / 4 / 7 ^ s) ∧ setR (fun k => NSp pl t k ∨ (0 < s ∧ k = 0) ∨ (0 < s ∧ k = t / 4) ∨ (1 < s ∧ k = t / 4 / 7) ∨ (2 < s ∧ k = t / 4 / 49)) g ∧ (0 < s → 0 < pl t) ∧ (s = 0 → g = g2)) 3 ?_ (by omega) ⟨by rw [Nat.pow_zero, Nat.div_one], h2.c (fun k _ => ⟨Or.inl, fun q => q.elim id (fun q => by omega)⟩), fun q => absurd q (Nat.lt_irrefl _), fun _ => rfl⟩
    rintro s x g3 k3 ⟨rfl, h3, h4, h5⟩ hs hk3
    have hlt : t / 4 / 7 ^ s < 343 := Nat.lt_of_le_of_lt (Nat.div_le_self _ _) (by omega)
    refine OK.le (t / 4 / 7 ^ s) 0 (by omega) (by omega) (fun e => ?_) (fun e => ?_)
    · rcases Nat.eq_zero_or_pos s with q | q
      · subst q
        rw [h5 rfl]
        refine hk2 h _ _ ⟨nI_1 t, hskip ?_⟩
        rcases Nat.eq_zero_or_pos (pl t) with w | w
        · exact w
        · have := hpos t w; rw [Nat.pow_zero, Nat.div_one] at e; omega
      · refine hk2 h _ _ ⟨nI_1 t, h3.c (fun k _ => ⟨fun w => ?_, fun ⟨j, a, b, c⟩ => ?_⟩)⟩
        · rcases w with ⟨j, a, b, c⟩ | w | w | w | w
          · exact ⟨j, by omega, b, c⟩
          · exact ⟨t, by omega, h4 q, Or.inl w.2⟩
          · exact ⟨t, by omega, h4 q, Or.inr (Or.inl w.2)⟩
          · exact ⟨t, by omega, h4 q, Or.inr (Or.inr (Or.inl w.2))⟩
          · exact ⟨t, by omega, h4 q, Or.inr (Or.inr (Or.inr w.2))⟩
        · rcases Nat.lt_succ_iff_lt_or_eq.mp a with w | w
          · exact Or.inl ⟨j, w, b, c⟩
          · subst w
            have hs3 : s = 1 ∨ s = 2 ∨ s = 3 := by omega
            unfold ndOf at c
            refine Or.inr ?_
            rcases hs3 with w | w | w <;> subst w
            · rw [show (7 : Nat) ^ 1 = 7 from rfl] at e; omega
            · rw [show (7 : Nat) ^ 2 = 49 from rfl] at e; omega
            · omega
    · have hs3 : s < 3 := by
        rcases Nat.lt_or_ge s 3 with q | q
        · exact q
        · have : s = 3 := by omega
          subst this
          rw [show (7 : Nat) ^ 3 = 343 from rfl] at e; omega
      refine OK.rd t rfl h ?_
      rw [hpl t h]
      refine OK.le (pl t) 0 (by omega) (by omega) (fun q => ?_) (fun q => ?_)
      · have : s = 0 := by
          rcases Nat.eq_zero_or_pos s with w | w
          · exact w
          · have := h4 w; omega
        rw [h5 this]
        exact hk2 h _ _ ⟨nI_1 t, hskip (by omega)⟩
      · refine OK.st (t / 4 / 7 ^ s) rfl hlt ?_
        refine OK.st 0 rfl (by omega) ?_
        rw [nar1]
        refine OK.l ?_
        rw [show (7 : Int32) = nI 7 from rfl, pk_div (by omega) (by omega) (by omega)]
        refine hk3 hs3 _ _ ⟨by rw [Nat.div_div_eq_div_mul, ← Nat.pow_succ], ((h3.u _).u 0).c (fun k _ => ?_), fun _ => q, fun w => by omega⟩
        have hs3 : s = 0 ∨ s = 1 ∨ s = 2 := by omega
        rcases hs3 with w | w | w <;> subst w
        · rw [Nat.pow_zero, Nat.div_one]
          constructor
          · rintro ((w | w) | w)
            · exact w.elim Or.inl (fun w => by omega)
            · right; omega
            · right; omega
          · rintro (w | w)
            · exact Or.inl (Or.inl (Or.inl w))
            · by_cases e0 : k = 0
              · exact Or.inr e0
              · exact Or.inl (Or.inr (by omega))
        · rw [show (7 : Nat) ^ 1 = 7 from rfl]
          constructor
          · rintro ((w | w) | w)
            · exact w.elim Or.inl (fun w => by right; omega)
            · right; omega
            · right; omega
          · rintro (w | w)
            · exact Or.inl (Or.inl (Or.inl w))
            · by_cases e0 : k = t / 4 / 7
              · exact Or.inl (Or.inr e0)
              · exact Or.inl (Or.inl (Or.inr (by omega)))
        · rw [show (7 : Nat) ^ 2 = 49 from rfl]
          constructor
          · rintro ((w | w) | w)
            · exact w.elim Or.inl (fun w => by right; omega)
            · right; omega
            · right; omega
          · rintro (w | w)
            · exact Or.inl (Or.inl (Or.inl w))
            · by_cases e0 : k = t / 4 / 49
              · exact Or.inl (Or.inr e0)
              · exact Or.inl (Or.inl (Or.inr (by omega)))
  · refine OK.st t rfl h ?_
    refine OK.st t rfl h ?_
    rw [nar0]
    refine hk h _ _ _ ⟨nI_1 t, fun j hj => ?_, fun j hj => ?_⟩
    · by_cases e : j = t
      · subst e; exact upd_s _ _ _
      · rw [upd_n _ _ e]; exact h1 j (by omega)
    · by_cases e : j = t
      · subst e; exact upd_s _ _ _
      · rw [upd_n _ _ e]; exact h9 j (by omega)
/-! ## packing, as it is meant -/
def nodeB (pl : Nat → Nat) (k : Nat) : Bool := (List.range 1372).any (fun c => decide (0 < pl c) && (decide (k = 0) || decide (k = c / 4) || decide (k = c / 4 / 7) || decide (k = c / 4 / 49)))
theorem nodeB_iff (pl : Nat → Nat) (k : Nat) : nodeB pl k = true ↔ NSp pl 1372 k := by
  unfold nodeB NSp ndOf
  simp only [List.any_eq_true, List.mem_range, Bool.and_eq_true, Bool.or_eq_true, decide_eq_true_eq, or_assoc]
def nbR (N : Nat → Bool) (f : Nat → Int32) : Prop := ∀ k, k < 343 → f k = if N k then 1 else 0
theorem setR.nb {pl : Nat → Nat} {f : Nat → Int32} (h : setR (NSp pl 1372) f) : nbR (nodeB pl) f := by
  intro k hk
  rcases h k hk with ⟨a, b⟩ | ⟨a, b⟩
  · rw [b, if_pos ((nodeB_iff pl k).mpr a)]
  · rw [b, if_neg (fun q => a ((nodeB_iff pl k).mp q))]
def cntB (N : Nat → Bool) : Nat := sumN (fun k => if N k then 1 else 0) 343
theorem nbR.cnt {N : Nat → Bool} {f : Nat → Int32} (h : nbR N f) : cntF f = cntB N := sumN_c _ (fun k hk => by
  rw [h k hk]
  cases N k <;> rfl)
def hLN (N : Nat → Bool) (n : Nat) : Nat → Bool
  | 0 => false
  | t + 1 => hLN N n t || N (7 * n + (t + 1))
def frN (N : Nat → Bool) (S : Nat → Nat) (n b : Nat) : Nat → Bool
  | 0 => true
  | t + 1 => frN N S n b t && (!N (7 * n + (t + 1)) || decide (S (b + (t + 1)) = 0))
theorem hLN_up {N : Nat → Bool} {n t : Nat} (h : hLN N n t = true) : ∀ s, t ≤ s → hLN N n s = true := by
  intro s hs
  induction s with
  | zero => rw [show t = 0 by omega] at h; exact h
  | succ s ih =>
    by_cases e : t = s + 1
    · subst e; exact h
    · rw [hLN, ih (by omega)]; rfl
theorem frN_up {N : Nat → Bool} {S : Nat → Nat} {n b t : Nat} (h : frN N S n b t = false) : ∀ s, t ≤ s → frN N S n b s = false := by
  intro s hs
  induction s with
  | zero => rw [show t = 0 by omega] at h; exact h
  | succ s ih =>
    by_cases e : t = s + 1
    · subst e; exact h
    · rw [frN, ih (by omega)]; rfl
def lbF (p : Nat → Bool) : Nat → Nat → Nat
  | 0, b => b
  | f + 1, b => if p b then b else lbF p f (b + 1)
theorem lbF_e {p : Nat → Bool} {t : Nat} (ht : p t = true) : ∀ f b, b ≤ t → t - b < f → (∀ c, b ≤ c → c < t → p c = false) → lbF p f b = t
  | 0, b, _, h, _ => absurd h (Nat.not_lt_zero _)
  | f + 1, b, hb, h, hn => by
    rw [lbF]
    by_cases e : b = t
    · subst e; rw [ht]; rfl
    · rw [hn b (Nat.le_refl _) (by omega)]
      exact lbF_e ht f (b + 1) (by omega) (by omega) (fun c hc hc2 => hn c (by omega) hc2)
def lb (N : Nat → Bool) (S : Nat → Nat) (n : Nat) : Nat := lbF (fun b => frN N S n b 6) 295 0
def plcS (N : Nat → Bool) (S : Nat → Nat) (n b t : Nat) : Nat → Nat := fun i => if b < i ∧ i ≤ b + t ∧ N (7 * n + (i - b)) = true then 7 * n + (i - b) else S i
def pkS (N : Nat → Bool) : Nat → (Nat → Nat)
  | 0 => fun _ => 0
  | n + 1 => if hLN N n 6 then plcS N (pkS N n) n (lb N (pkS N n) n) 6 else pkS N n
def pkB (N : Nat → Bool) (n : Nat) : Int32 := if hLN N n 6 then nI (lb N (pkS N n) n) else -9
theorem frN_free {N : Nat → Bool} {S : Nat → Nat} {n b : Nat} (h : ∀ i, b < i → S i = 0) : ∀ t, frN N S n b t = true
  | 0 => rfl
  | t + 1 => by rw [frN, frN_free h t, h _ (by omega)]; simp
theorem lb_of {N : Nat → Bool} {S : Nat → Nat} {n : Nat} (hn : n < 49) (h : ∀ i, 6 * n < i → S i = 0) : lb N S n ≤ 6 * n ∧ frN N S n (lb N S n) 6 = true ∧ ∀ c, c < lb N S n → frN N S n c 6 = false := by
  obtain ⟨t, ht, hl⟩ := pk_least (fun b => frN N S n b 6 = true) ⟨6 * n, frN_free h 6⟩
  have htl : t ≤ 6 * n := by
    rcases Nat.lt_or_ge (6 * n) t with q | q
    · exact absurd (frN_free h 6) (hl _ q)
    · exact q
  have e : lb N S n = t := lbF_e (p := fun b => frN N S n b 6) ht 295 0 (by omega) (by omega) (fun c _ hc => by
    have := hl c hc
    simpa using this)
  rw [e]
  exact ⟨htl, ht, fun c hc => by simpa using hl c hc⟩
theorem pkS_hi (N : Nat → Bool) : ∀ n, n ≤ 49 → ∀ i, 6 * n < i → pkS N n i = 0
  | 0, _, _, _ => rfl
  | n + 1, hn, i, hi => by
    have ih := pkS_hi N n (by omega)
    rw [pkS]
    by_cases e : hLN N n 6 = true
    · rw [if_pos e]
      have := (lb_of (N := N) (S := pkS N n) (n := n) (by omega) ih).1
      unfold plcS
      rw [if_neg (by omega)]
      exact ih i (by omega)
    · rw [if_neg e]; exact ih i (by omega)
theorem pkS_b (N : Nat → Bool) : ∀ n, n ≤ 49 → ∀ i, pkS N n i < 343
  | 0, _, _ => by show 0 < 343; omega
  | n + 1, hn, i => by
    rw [pkS]
    split
    · unfold plcS
      split
      · omega
      · exact pkS_b N n (by omega) i
    · exact pkS_b N n (by omega) i
def slC (S : Nat → Nat) (f : Nat → Int32) : Prop := ∀ i, i < 301 → f i = nI (S i)
def slM (S : Nat → Nat) (f : Nat → Int32) : Prop := ∀ i, i < 1600 → f i = if S i = 0 then -9 else nI (S i)
theorem s_hasLonger {N : Nat → Bool} {f : Nat → Int32} (hf : nbR N f) {n : Nat} (hn : n < 49) : OK (m_X9_hasLonger 3000 (nI n) f) (fun r => r = if hLN N n 6 then 1 else 0) := by
  unfold m_X9_hasLonger
  refine OK.w1 (fun t x => x = nI (t + 1) ∧ hLN N n t = false) 6 ?_ (by omega) ⟨rfl, rfl⟩
  rintro t x k ⟨rfl, h1⟩ ht hk
  refine OK.lt 6 (t + 1) (by omega) (by omega) (fun h => OK.s (by rw [show t = 6 by omega] at h1; rw [h1]; rfl)) (fun h => ?_)
  refine OK.rd (7 * n + (t + 1)) (by rw [show (7 : Int32) = nI 7 from rfl, pk_mul, nI_add, Nat.mul_comm]) (by omega) ?_
  rw [hf _ (by omega)]
  cases hN : N (7 * n + (t + 1)) with
  | false => exact OK.t rfl (hk (by omega) _ ⟨nI_1 _, by rw [hLN, h1, hN]; rfl⟩)
  | true =>
    refine OK.f (by decide) (OK.s ?_)
    rw [hLN_up (t := t + 1) (by rw [hLN, hN]; simp) 6 (by omega)]; rfl
theorem s_isFree {N : Nat → Bool} {S : Nat → Nat} {f g : Nat → Int32} (hf : nbR N f) (hg : slC S g) (hS : ∀ i, S i < 343) {n b : Nat} (hn : n < 49) (hb : b ≤ 294) : OK (m_X9_isFree 3000 (nI n) (nI b) f g) (fun r => r = if frN N S n b 6 then 1 else 0) := by
  unfold m_X9_isFree
  refine OK.w1 (fun t x => x = nI (t + 1) ∧ frN N S n b t = true) 6 ?_ (by omega) ⟨rfl, rfl⟩
  rintro t x k ⟨rfl, h1⟩ ht hk
  refine OK.lt 6 (t + 1) (by omega) (by omega) (fun h => OK.s (by rw [show t = 6 by omega] at h1; rw [h1]; rfl)) (fun h => ?_)
  refine OK.rd (7 * n + (t + 1)) (by rw [show (7 : Int32) = nI 7 from rfl, pk_mul, nI_add, Nat.mul_comm]) (by omega) ?_
  rw [hf _ (by omega)]
  cases hN : N (7 * n + (t + 1)) with
  | false => exact OK.t rfl (hk (by omega) _ ⟨nI_1 _, by rw [frN, h1, hN]; rfl⟩)
  | true =>
    refine OK.f (by decide) (OK.rd (b + (t + 1)) (nI_add _ _) (by omega) ?_)
    rw [hg _ (by omega)]
    have := hS (b + (t + 1))
    refine OK.eq (S (b + (t + 1))) 0 (by omega) (by omega) (fun e => hk (by omega) _ ⟨nI_1 _, by rw [frN, h1, hN, e]; rfl⟩) (fun e => OK.s ?_)
    rw [frN_up (t := t + 1) (by rw [frN, hN, decide_eq_false e]; simp) 6 (by omega)]; rfl
theorem s_leastBase {N : Nat → Bool} {S : Nat → Nat} {f g : Nat → Int32} (hf : nbR N f) (hg : slC S g) (hS : ∀ i, S i < 343) {n : Nat} (hn : n < 49) (h0 : ∀ i, 6 * n < i → S i = 0) : OK (m_X9_leastBase 3000 (nI n) f g) (fun r => r = nI (lb N S n)) := by
  unfold m_X9_leastBase
  obtain ⟨l1, l2, l3⟩ := lb_of (N := N) hn h0
  refine OK.w1 (fun t x => x = nI t) (lb N S n) ?_ (by omega) rfl
  rintro t x k rfl ht hk
  rw [show nI t + 6 = nI (t + 6) from nI_add t 6]
  refine OK.le 301 (t + 6) (by omega) (by omega) (fun h => by omega) (fun h => ?_)
  refine OK.b1 (s_isFree hf hg hS hn (b := t) (by omega)) (fun r hr => ?_)
  subst hr
  by_cases e : t = lb N S n
  · rw [e, l2]
    exact OK.f (by decide) (OK.s rfl)
  · rw [l3 t (by omega)]
    exact OK.t rfl (hk (by omega) _ (nI_1 t))
def endR (S : Nat → Nat) (E : Nat) : Prop := E ≤ 301 ∧ (∀ i, E ≤ i → S i = 0) ∧ (E = 0 ∨ S (E - 1) ≠ 0)
theorem plcS_0 (N : Nat → Bool) (S : Nat → Nat) (n b i : Nat) : plcS N S n b 0 i = S i := if_neg (by omega)
theorem s_placeLonger {N : Nat → Bool} {S : Nat → Nat} {f g bs : Nat → Int32} (hf : nbR N f) (hg : slC S g) (hS : ∀ i, S i < 343) {n b E : Nat} (hn : n < 49) (hb : b ≤ 294) (hE : endR S E) : OK (m_X9_placeLonger 3000 (nI n) (nI b) (nI E) bs f g) (fun u => (∃ E', u.1 = nI E' ∧ endR (plcS N S n b 6) E') ∧ u.2.1 = upd bs n (nI b) ∧ slC (plcS N S n b 6) u.2.2) := by
  unfold m_X9_placeLonger
  refine OK.st n rfl hn ?_
  refine OK.w3 (fun t x y g => x = nI (t + 1) ∧ (∃ E', y = nI E' ∧ endR (plcS N S n b t) E') ∧ slC (plcS N S n b t) g) 6 ?_ (by omega) ⟨rfl, ⟨E, rfl, ?_⟩, fun i hi => by rw [plcS_0]; exact hg i hi⟩
  rotate_left
  · rw [show plcS N S n b 0 = S from funext (plcS_0 N S n b)]; exact hE
  rintro t x y g2 k ⟨rfl, ⟨E', rfl, h1⟩, h2⟩ ht hk
  refine OK.lt 6 (t + 1) (by omega) (by omega) (fun h => OK.s (by rw [show t = 6 by omega] at h1 h2; exact ⟨⟨E', rfl, h1⟩, rfl, h2⟩)) (fun h => ?_)
  refine OK.l ?_
  rw [show nI n * 7 + nI (t + 1) = nI (7 * n + (t + 1)) by rw [show (7 : Int32) = nI 7 from rfl, pk_mul, nI_add, Nat.mul_comm]]
  refine OK.rd (7 * n + (t + 1)) rfl (by omega) ?_
  rw [hf _ (by omega)]
  cases hN : N (7 * n + (t + 1)) with
  | false =>
    have e : plcS N S n b (t + 1) = plcS N S n b t := by
      funext i
      unfold plcS
      by_cases q : i = b + (t + 1)
      · subst q
        rw [show b + (t + 1) - b = t + 1 by omega, hN, if_neg (by simp), if_neg (by simp)]
      · by_cases w : b < i ∧ i ≤ b + t ∧ N (7 * n + (i - b)) = true
        · rw [if_pos w, if_pos ⟨w.1, by omega, w.2.2⟩]
        · rw [if_neg w, if_neg (fun v => w ⟨v.1, by omega, v.2.2⟩)]
    exact OK.t rfl (hk (by omega) _ _ _ ⟨nI_1 _, ⟨E', rfl, by rw [e]; exact h1⟩, by rw [e]; exact h2⟩)
  | true =>
    have e : ∀ i, i ≠ b + (t + 1) → plcS N S n b (t + 1) i = plcS N S n b t i := by
      intro i q
      unfold plcS
      by_cases w : b < i ∧ i ≤ b + t ∧ N (7 * n + (i - b)) = true
      · rw [if_pos w, if_pos ⟨w.1, by omega, w.2.2⟩]
      · rw [if_neg w, if_neg (fun v => w ⟨v.1, by omega, v.2.2⟩)]
    have e2 : plcS N S n b (t + 1) (b + (t + 1)) = 7 * n + (t + 1) := by
      unfold plcS
      rw [show b + (t + 1) - b = t + 1 by omega, if_pos ⟨by omega, by omega, hN⟩]
    refine OK.f (by decide) (OK.st (b + (t + 1)) (nI_add _ _) (by omega) (OK.l ?_))
    rw [nI_add, nI_1, nI_1, n_imax (by have := h1.1; omega) (by omega)]
    refine hk (by omega) _ _ _ ⟨rfl, ⟨_, rfl, ?_, fun i hi => ?_, ?_⟩, fun i hi => ?_⟩
    · have := h1.1; omega
    · rw [e i (by omega)]; exact h1.2.1 i (by omega)
    · refine Or.inr ?_
      by_cases q : E' ≤ b + (t + 1) + 1
      · rw [show max E' (b + (t + 1) + 1) - 1 = b + (t + 1) by omega, e2]; omega
      · rw [show max E' (b + (t + 1) + 1) = E' by omega, e _ (by omega)]
        rcases h1.2.2 with w | w
        · omega
        · exact w
    · by_cases q : i = b + (t + 1)
      · subst q; rw [upd_s, e2]
      · rw [upd_n _ _ q, e i q]; exact h2 i hi
theorem plcS_b {N : Nat → Bool} {S : Nat → Nat} (hS : ∀ i, S i < 343) {n : Nat} (hn : n < 49) (b t i : Nat) (ht : t ≤ 6) : plcS N S n b t i < 343 := by
  unfold plcS
  split
  · omega
  · exact hS i
theorem s_packFrom {N : Nat → Bool} {m : Nat} (hm : m ≤ 270) {cd pl : Nat → Nat} (hb : ∀ k, pl k ≤ 4) {codes levels : Nat → Int32} (hl : jabR m levels (fun j => pl (cd j))) (hc : ∀ j, j < m → codes j = nI (cd j) ∧ cd j < 1372) (hN : ∀ k, k < 343 → (N k = true ↔ ∃ j, j < m ∧ 0 < pl (cd j) ∧ ndOf (cd j) k))
    {cnt en pk : Int32} {f sl bs : Nat → Int32} (hp : pk = 0 ∨ (pk = 1 ∧ cnt = nI (cntB N) ∧ (∃ E, en = nI E ∧ endR (pkS N 49) E) ∧ slC (pkS N 49) sl ∧ ∀ k, k < 49 → bs k = pkB N k)) :
    OK (m_X9_packFrom 3000 cnt en pk f (nI m) levels codes sl bs) (fun u => u.2.2.1 = 1 ∧ u.1 = nI (cntB N) ∧ (∃ E, u.2.1 = nI E ∧ endR (pkS N 49) E) ∧ slC (pkS N 49) u.2.2.2.2.1 ∧ ∀ k, k < 49 → u.2.2.2.2.2 k = pkB N k) := by
  unfold m_X9_packFrom
  rcases hp with rfl | ⟨rfl, hp⟩
  · refine OK.t rfl ?_
    refine OK.b2 (s_takeNodes hm hb hl hc cnt f) (fun z1 f2 hq => ?_)
    obtain ⟨q1, q2⟩ := hq
    have q1 : z1 = nI (cntF f2) := q1
    have hnb : nbR N f2 := by
      intro k hk
      rcases q2 k hk with ⟨a, b⟩ | ⟨a, b⟩
      · rw [show f2 k = 1 from b, if_pos ((hN k hk).mpr a)]
      · rw [show f2 k = 0 from b, if_neg (fun q => a ((hN k hk).mp q))]
    rw [hnb.cnt] at q1
    subst q1
    refine OK.b1 (s_fill (N := 301) (by omega) 0 sl) (fun f3 hf3 => ?_)
    refine OK.w4 (fun t x y g h => x = nI t ∧ (∃ E, y = nI E ∧ endR (pkS N t) E) ∧ slC (pkS N t) g ∧ ∀ k, k < t → h k = pkB N k) 49 ?_ (by omega) ⟨rfl, ⟨0, rfl, by omega, fun _ _ => rfl, Or.inl rfl⟩, fun i hi => hf3 i hi, fun k hk => absurd hk (Nat.not_lt_zero _)⟩
    rintro t x y g h k ⟨rfl, ⟨E, rfl, h1⟩, h2, h3⟩ ht hk
    refine OK.le 49 t (by omega) (by omega) (fun e => OK.s (by rw [show t = 49 by omega] at h1 h2 h3; exact ⟨rfl, rfl, ⟨E, rfl, h1⟩, h2, h3⟩)) (fun e => ?_)
    refine OK.st t rfl (by omega) ?_
    refine OK.b1 (s_hasLonger hnb e) (fun r hr => ?_)
    subst hr
    have hS := pkS_b N t (by omega)
    have h0 := pkS_hi N t (by omega)
    cases hq : hLN N t 6 with
    | false =>
      have e1 : pkS N (t + 1) = pkS N t := by rw [pkS, hq]; rfl
      refine OK.t rfl (hk e _ _ _ _ ⟨nI_1 t, ⟨E, rfl, by rw [e1]; exact h1⟩, by rw [e1]; exact h2, fun j hj => ?_⟩)
      by_cases q : j = t
      · subst q; rw [upd_s, pkB, hq]; rfl
      · rw [upd_n _ _ q]; exact h3 j (by omega)
    | true =>
      have e1 : pkS N (t + 1) = plcS N (pkS N t) t (lb N (pkS N t) t) 6 := by rw [pkS, hq]; rfl
      have hlb := (lb_of (N := N) e h0).1
      refine OK.f (by decide) (OK.b1 (s_leastBase hnb h2 hS e h0) (fun r hr => ?_))
      subst hr
      refine OK.b3 (s_placeLonger hnb h2 hS e (by omega) h1) (fun z g3 h4 hw => ?_)
      obtain ⟨⟨E', w1, w2⟩, w3, w4⟩ := hw
      have w1 : z = nI E' := w1
      subst w1
      have w3 : g3 = upd (upd h t (-9)) t (nI (lb N (pkS N t) t)) := w3
      subst w3
      refine hk e _ _ _ _ ⟨nI_1 t, ⟨E', rfl, by rw [e1]; exact w2⟩, by rw [e1]; exact w4, fun j hj => ?_⟩
      by_cases q : j = t
      · subst q; rw [upd_s, pkB, hq]; rfl
      · rw [upd_n _ _ q, upd_n _ _ q]; exact h3 j (by omega)
  · exact OK.f (by decide) (OK.s ⟨rfl, hp⟩)
/-! ## the reference's packing -/
theorem s_fitsSlots {N : Nat → Bool} {S : Nat → Nat} {f g : Nat → Int32} (hf : nbR N f) (hg : slM S g) (hS : ∀ i, S i < 343) {n b : Nat} (hn : n < 49) (hb : b ≤ 1000) : OK (m_X11_fitsSlots 3000 (nI n) (nI b) f g) (fun r => r = if frN N S n b 6 then 1 else 0) := by
  unfold m_X11_fitsSlots
  refine OK.w2 (fun t y x => x = nI (t + 1) ∧ y = if frN N S n b t then 1 else 0) 6 ?_ (by omega) ⟨rfl, rfl⟩
  rintro t y x k ⟨rfl, rfl⟩ ht hk
  refine OK.le 7 (t + 1) (by omega) (by omega) (fun h => ?_) (fun h => ?_)
  · rw [show t = 6 by omega]
    exact OK.z (by cases frN N S n b 6 <;> simp) (OK.s rfl)
  refine OK.l ?_
  rw [show (7 : Int32) * nI n + nI (t + 1) = nI (7 * n + (t + 1)) by rw [show (7 : Int32) = nI 7 from rfl, pk_mul, nI_add]]
  refine OK.j1 (fun y => y = if frN N S n b (t + 1) then 1 else 0) (fun y hy => hk (by omega) _ _ ⟨nI_1 _, hy⟩) (fun k1 hk1 => ?_)
  refine OK.j0 (frN N S n b (t + 1) = false) (fun e => hk1 _ (by rw [e]; rfl)) (fun k2 hk2 => ?_)
  cases h1 : frN N S n b t with
  | false => exact OK.t rfl (hk2 (frN_up h1 _ (by omega)))
  | true =>
    refine OK.f (by decide) ?_
    refine OK.j0 (frN N S n b (t + 1) = true) (fun e => hk1 _ (by rw [e]; rfl)) (fun k3 hk3 => ?_)
    refine OK.le 343 (7 * n + (t + 1)) (by omega) (by omega) (fun h => by omega) (fun _ => ?_)
    refine OK.rd _ rfl (by omega) ?_
    rw [hf _ (by omega)]
    cases hN : N (7 * n + (t + 1)) with
    | false => exact OK.t rfl (hk3 (by rw [frN, h1, hN]; rfl))
    | true =>
      refine OK.f (by decide) (OK.rd (b + (t + 1)) (nI_add _ _) (by omega) ?_)
      rw [hg _ (by omega)]
      have := hS (b + (t + 1))
      by_cases e : S (b + (t + 1)) = 0
      · rw [if_pos e]; exact OK.t rfl (hk3 (by rw [frN, h1, hN, e]; rfl))
      · rw [if_neg e]; exact OK.f (n_m9 (by omega)) (hk2 (by rw [frN, hN, decide_eq_false e]; simp))
theorem s_packNode {N : Nat → Bool} {S : Nat → Nat} {f g bs : Nat → Int32} (hf : nbR N f) (hg : slM S g) (hS : ∀ i, S i < 343) {n : Nat} (hn : n < 49) (h0 : ∀ i, 6 * n < i → S i = 0) : OK (m_X11_packNode 3000 (nI n) f g bs) (fun u => slM (if hLN N n 6 then plcS N S n (lb N S n) 6 else S) u.1 ∧ u.2 = if hLN N n 6 then upd bs n (nI (lb N S n)) else bs) := by
  unfold m_X11_packNode
  obtain ⟨l1, l2, l3⟩ := lb_of (N := N) hn h0
  refine OK.w2 (fun t y x => x = nI (t + 1) ∧ y = if hLN N n t then 1 else 0) 6 ?_ (by omega) ⟨rfl, rfl⟩
  rintro t y x k ⟨rfl, rfl⟩ ht hk
  have e7 : (7 : Int32) * nI n + nI (t + 1) = nI (7 * n + (t + 1)) := by rw [show (7 : Int32) = nI 7 from rfl, pk_mul, nI_add]
  refine OK.le 7 (t + 1) (by omega) (by omega) (fun h => ?_) (fun h => ?_)
  · rw [show t = 6 by omega]
    cases hq : hLN N n 6 with
    | false => exact OK.t rfl (OK.s ⟨hg, rfl⟩)
    | true =>
      refine OK.f (by decide) ?_
      refine OK.w1 (fun t x => x = nI t) (lb N S n) ?_ (by omega) rfl
      rintro t x k rfl ht hk
      refine OK.b1 (s_fitsSlots hf hg hS hn (b := t) (by omega)) (fun r hr => ?_)
      subst hr
      by_cases e : t = lb N S n
      · rw [e, l2]
        refine OK.f (by decide) (OK.st n rfl (by omega) ?_)
        refine OK.w2 (fun s x g => x = nI (s + 1) ∧ slM (plcS N S n (lb N S n) s) g) 6 ?_ (by omega) ⟨rfl, fun i hi => by rw [plcS_0]; exact hg i hi⟩
        rintro s x g2 k2 ⟨rfl, h2⟩ hs hk2
        refine OK.le 7 (s + 1) (by omega) (by omega) (fun h => OK.s ⟨by rw [show s = 6 by omega] at h2; exact h2, rfl⟩) (fun h => ?_)
        rw [show (7 : Int32) * nI n + nI (s + 1) = nI (7 * n + (s + 1)) by rw [show (7 : Int32) = nI 7 from rfl, pk_mul, nI_add]]
        refine OK.le 343 (7 * n + (s + 1)) (by omega) (by omega) (fun h => by omega) (fun _ => ?_)
        refine OK.rd _ rfl (by omega) ?_
        rw [hf _ (by omega)]
        cases hN : N (7 * n + (s + 1)) with
        | false =>
          refine OK.t rfl (hk2 (by omega) _ _ ⟨nI_1 _, fun i hi => ?_⟩)
          rw [show plcS N S n (lb N S n) (s + 1) i = plcS N S n (lb N S n) s i from ?_]
          · exact h2 i hi
          unfold plcS
          by_cases q : i = lb N S n + (s + 1)
          · subst q
            rw [show lb N S n + (s + 1) - lb N S n = s + 1 by omega, hN, if_neg (by simp), if_neg (by simp)]
          · by_cases w : lb N S n < i ∧ i ≤ lb N S n + s ∧ N (7 * n + (i - lb N S n)) = true
            · rw [if_pos w, if_pos ⟨w.1, by omega, w.2.2⟩]
            · rw [if_neg w, if_neg (fun v => w ⟨v.1, by omega, v.2.2⟩)]
        | true =>
          refine OK.f (by decide) (OK.st (lb N S n + (s + 1)) (nI_add _ _) (by omega) ?_)
          refine hk2 (by omega) _ _ ⟨nI_1 _, fun i hi => ?_⟩
          by_cases q : i = lb N S n + (s + 1)
          · subst q
            have e2 : plcS N S n (lb N S n) (s + 1) (lb N S n + (s + 1)) = 7 * n + (s + 1) := by
              unfold plcS
              rw [show lb N S n + (s + 1) - lb N S n = s + 1 by omega, if_pos ⟨by omega, by omega, hN⟩]
            rw [upd_s, e2, if_neg (by omega)]
          · rw [upd_n _ _ q, show plcS N S n (lb N S n) (s + 1) i = plcS N S n (lb N S n) s i from ?_]
            · exact h2 i hi
            unfold plcS
            by_cases w : lb N S n < i ∧ i ≤ lb N S n + s ∧ N (7 * n + (i - lb N S n)) = true
            · rw [if_pos w, if_pos ⟨w.1, by omega, w.2.2⟩]
            · rw [if_neg w, if_neg (fun v => w ⟨v.1, by omega, v.2.2⟩)]
      · rw [l3 t (by omega)]
        exact OK.t rfl (hk (by omega) _ (nI_1 t))
  · refine OK.j1 (fun y => y = if hLN N n (t + 1) then 1 else 0) (fun y hy => hk (by omega) _ _ ⟨nI_1 _, hy⟩) (fun k1 hk1 => ?_)
    refine OK.j0 (hLN N n (t + 1) = true) (fun e => hk1 _ (by rw [e]; rfl)) (fun k2 hk2 => ?_)
    cases h1 : hLN N n t with
    | true => exact OK.f (by decide) (hk2 (hLN_up h1 _ (by omega)))
    | false =>
      refine OK.t rfl ?_
      refine OK.j0 (hLN N n (t + 1) = false) (fun e => hk1 _ (by rw [e]; rfl)) (fun k3 hk3 => ?_)
      rw [e7]
      refine OK.le 343 (7 * n + (t + 1)) (by omega) (by omega) (fun h => by omega) (fun _ => ?_)
      refine OK.rd _ rfl (by omega) ?_
      rw [hf _ (by omega)]
      cases hN : N (7 * n + (t + 1)) with
      | false => exact OK.t rfl (hk3 (by rw [hLN, h1, hN]; rfl))
      | true => exact OK.f (by decide) (hk2 (by rw [hLN, hN]; simp))
theorem s_packNode2 {f g bs : Nat → Int32} {n : Nat} (hn : 49 ≤ n) (hn2 : n < 343) : OK (m_X11_packNode 3000 (nI n) f g bs) (fun u => u.1 = g ∧ u.2 = bs) := by
  unfold m_X11_packNode
  refine OK.w2 (fun t y x => x = nI (t + 1) ∧ y = 0) 6 ?_ (by omega) ⟨rfl, rfl⟩
  rintro t y x k ⟨rfl, rfl⟩ ht hk
  refine OK.le 7 (t + 1) (by omega) (by omega) (fun h => OK.t rfl (OK.s ⟨rfl, rfl⟩)) (fun h => ?_)
  refine OK.ju1 (OK.ju0 (OK.t rfl (OK.ju0 ?_)))
  rw [show (7 : Int32) * nI n + nI (t + 1) = nI (7 * n + (t + 1)) by rw [show (7 : Int32) = nI 7 from rfl, pk_mul, nI_add]]
  refine OK.le 343 (7 * n + (t + 1)) (by omega) (by omega) (fun h => hk (by omega) _ _ ⟨nI_1 _, rfl⟩) (fun h => by omega)
theorem hL_par {pl : Nat → Nat} {n : Nat} (hn : n < 49) : ∀ t, t ≤ 6 → hLN (nodeB pl) n t = true → nodeB pl n = true
  | 0, _, h => by cases h
  | t + 1, ht, h => by
    rw [hLN, Bool.or_eq_true] at h
    rcases h with h | h
    · exact hL_par hn t (by omega) h
    · rw [nodeB_iff] at h ⊢
      obtain ⟨c, h1, h2, h3⟩ := h
      refine ⟨c, h1, h2, ?_⟩
      unfold ndOf at *
      omega
theorem s_pack {pl : Nat → Nat} (hb : ∀ k, pl k ≤ 4) (hpos : ∀ c, 0 < pl c → 1 ≤ c / 4) {plan : Nat → Int32} (hpl : tabR plan pl) (f b s : Nat → Int32) :
    OK (m_X11_pack 3000 f b plan s) (fun u => nbR (nodeB pl) u.1 ∧ (∀ k, k < 343 → u.2.1 k = if k < 49 then pkB (nodeB pl) k else -9) ∧ slM (pkS (nodeB pl) 49) u.2.2) := by
  unfold m_X11_pack
  refine OK.b2 (s_layNodes hb hpos hpl f b) (fun f1 f2 hq => ?_)
  obtain ⟨q1, q2⟩ := hq
  have hnb : nbR (nodeB pl) f1 := setR.nb q1
  have q2 : ∀ k, k < 343 → f2 k = -9 := q2
  refine OK.w2 (fun t x g => x = nI t ∧ ∀ k, k < t → g k = -9) 1600 ?_ (by omega) ⟨rfl, fun k hk => absurd hk (Nat.not_lt_zero _)⟩
  rintro t x g k ⟨rfl, h1⟩ ht hk
  refine OK.le 1600 t (by omega) (by omega) (fun h => ?_) (fun h => ?_)
  · have et : t = 1600 := by omega
    subst et
    refine OK.w3 (fun t x h g => x = nI t ∧ (∀ k, k < 343 → h k = if k < 49 ∧ k < t then pkB (nodeB pl) k else -9) ∧ slM (pkS (nodeB pl) (min t 49)) g) 343 ?_ (by omega) ⟨rfl, fun k hk => by rw [q2 k hk, if_neg (by omega)], fun i hi => h1 i hi⟩
    rintro t x bb g2 k2 ⟨rfl, h2, h3⟩ ht2 hk2
    refine OK.le 343 t (by omega) (by omega) (fun h => OK.s ⟨hnb, fun k hk => ?_, ?_⟩) (fun h => ?_)
    · show bb k = _
      rw [h2 k hk]
      by_cases e : k < 49
      · rw [if_pos e, if_pos ⟨e, by omega⟩]
      · rw [if_neg e, if_neg (fun q => e q.1)]
    · rw [show min t 49 = 49 by omega] at h3; exact h3
    refine OK.rd t rfl h ?_
    rw [hnb t h]
    by_cases e49 : t < 49
    · rw [show min t 49 = t by omega] at h3
      have hS := pkS_b (nodeB pl) t (by omega)
      have h0 := pkS_hi (nodeB pl) t (by omega)
      cases hN : nodeB pl t with
      | false =>
        have hno : hLN (nodeB pl) t 6 = false := by
          cases hq : hLN (nodeB pl) t 6 with
          | false => rfl
          | true => rw [hL_par e49 6 (by omega) hq] at hN; cases hN
        refine OK.t rfl (hk2 h _ _ _ ⟨nI_1 t, fun k hk => ?_, ?_⟩)
        · rw [h2 k hk]
          by_cases e : k = t
          · subst e; rw [if_neg (by omega), if_pos (by omega), pkB, hno]; rfl
          · by_cases q : k < 49 ∧ k < t
            · rw [if_pos q, if_pos (by omega)]
            · rw [if_neg q, if_neg (by omega)]
        · rw [show min (t + 1) 49 = t + 1 by omega, pkS, hno]; exact h3
      | true =>
        refine OK.f (by decide) (OK.b2 (s_packNode (bs := bb) hnb h3 hS e49 h0) (fun f11 f12 hw => ?_))
        obtain ⟨w1, w2⟩ := hw
        have w3 : ∀ k, f12 k = (if hLN (nodeB pl) t 6 then upd bb t (nI (lb (nodeB pl) (pkS (nodeB pl) t) t)) else bb) k := fun k => congrFun w2 k
        clear w2
        refine hk2 (by omega) _ _ _ ⟨nI_1 t, fun k hk => ?_, ?_⟩
        · rw [w3 k]
          cases hq : hLN (nodeB pl) t 6 with
          | false =>
            show bb k = _
            rw [h2 k hk]
            by_cases e : k = t
            · subst e; rw [if_neg (by omega), if_pos (by omega), pkB, hq]; rfl
            · by_cases q : k < 49 ∧ k < t
              · rw [if_pos q, if_pos (by omega)]
              · rw [if_neg q, if_neg (by omega)]
          | true =>
            show upd bb t _ k = _
            by_cases e : k = t
            · subst e; rw [upd_s, if_pos (by omega), pkB, hq]; rfl
            · rw [upd_n _ _ e, h2 k hk]
              by_cases q : k < 49 ∧ k < t
              · rw [if_pos q, if_pos (by omega)]
              · rw [if_neg q, if_neg (by omega)]
        · rw [show min (t + 1) 49 = t + 1 by omega, pkS]; exact w1
    · have h3' : slM (pkS (nodeB pl) (min (t + 1) 49)) g2 := by
        rw [show min (t + 1) 49 = min t 49 by omega]; exact h3
      have h2' : ∀ k, k < 343 → bb k = if k < 49 ∧ k < t + 1 then pkB (nodeB pl) k else -9 := by
        intro k hk
        rw [h2 k hk]
        by_cases q : k < 49 ∧ k < t
        · rw [if_pos q, if_pos (by omega)]
        · rw [if_neg q, if_neg (by omega)]
      cases hN : nodeB pl t with
      | false => exact OK.t rfl (hk2 (by omega) _ _ _ ⟨nI_1 t, h2', h3'⟩)
      | true =>
        refine OK.f (by decide) (OK.b2 (s_packNode2 (by omega) h) (fun f11 f12 hw => ?_))
        obtain ⟨w1, w2⟩ := hw
        have w1 : f11 = g2 := w1
        have w2 : f12 = bb := w2
        subst w1; subst w2
        exact hk2 (by omega) _ _ _ ⟨nI_1 t, h2', h3'⟩
  · refine OK.st t rfl h ?_
    refine hk h _ _ ⟨nI_1 t, fun j hj => ?_⟩
    by_cases e : j = t
    · subst e; exact upd_s _ _ _
    · rw [upd_n _ _ e]; exact h1 j (by omega)
theorem s_nodes {N : Nat → Bool} {f : Nat → Int32} (h : nbR N f) : OK (m_X11_nodes 3000 f) (fun r => r = nI (cntB N)) := by
  unfold m_X11_nodes
  refine OK.w2 (fun t y x => x = nI t ∧ y = nI (sumN (fun k => if N k then 1 else 0) t)) 343 ?_ (by omega) ⟨rfl, rfl⟩
  rintro t y x k ⟨rfl, rfl⟩ ht hk
  refine OK.le 343 t (by omega) (by omega) (fun e => OK.s (by rw [show t = 343 by omega]; rfl)) (fun e => ?_)
  refine OK.rd t rfl e ?_
  rw [h t e]
  refine OK.j1 (fun y => y = nI (if N t then 1 else 0)) ?_ (fun k1 hk1 => ?_)
  · rintro y rfl
    refine OK.l ?_
    rw [nI_add, nI_1]
    exact hk e _ _ ⟨rfl, rfl⟩
  · cases hN : N t with
    | false => exact OK.t rfl (hk1 _ (by rw [hN]; rfl))
    | true => exact OK.f (by decide) (hk1 _ (by rw [hN]; rfl))
theorem s_slots {S : Nat → Nat} (hS : ∀ i, S i < 343) {f : Nat → Int32} (h : slM S f) {E : Nat} (hE : endR S E) : OK (m_X11_slots 3000 f) (fun r => r = nI E) := by
  unfold m_X11_slots
  refine OK.w2 (fun t y x => x = nI t ∧ ∃ e, y = nI e ∧ e ≤ t ∧ (∀ i, e ≤ i → i < t → S i = 0) ∧ (e = 0 ∨ S (e - 1) ≠ 0)) 1600 ?_ (by omega) ⟨rfl, 0, rfl, by omega, fun i _ hi => absurd hi (Nat.not_lt_zero _), Or.inl rfl⟩
  rintro t y x k ⟨rfl, e, rfl, a1, a2, a3⟩ ht hk
  refine OK.le 1600 t (by omega) (by omega) (fun q => OK.s ?_) (fun q => ?_)
  · congr 1
    obtain ⟨b1, b2, b3⟩ := hE
    rcases Nat.lt_trichotomy e E with w | w | w
    · rcases b3 with b3 | b3
      · omega
      · exact absurd (a2 (E - 1) (by omega) (by omega)) b3
    · exact w
    · rcases a3 with a3 | a3
      · omega
      · exact absurd (b2 (e - 1) (by omega)) a3
  refine OK.rd t rfl q ?_
  rw [h t q]
  have := hS t
  refine OK.j1 (fun y => y = nI (if S t = 0 then e else t + 1)) ?_ (fun k1 hk1 => ?_)
  · rintro y rfl
    refine hk q _ _ ⟨nI_1 t, _, rfl, ?_⟩
    by_cases w : S t = 0
    · rw [if_pos w]
      refine ⟨by omega, fun i h1 h2 => ?_, a3⟩
      by_cases v : i = t
      · subst v; exact w
      · exact a2 i h1 (by omega)
    · rw [if_neg w]
      exact ⟨by omega, fun i h1 h2 => by omega, Or.inr w⟩
  · by_cases w : S t = 0
    · rw [if_pos w]; exact OK.t rfl (hk1 _ (by rw [if_pos w]))
    · rw [if_neg w]; exact OK.f (n_m9 (by omega)) (hk1 _ (by rw [if_neg w, nI_1]))
