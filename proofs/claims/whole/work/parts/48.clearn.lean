/-! ===== 48.clearn: the class's learning ===== -/
theorem s_fill {N : Nat} (hN : N < 2000) (v : Int32) (f : Nat → Int32) : OK (m_J7_fill_53178 3000 N v f) (fun g => ∀ k, k < N → g k = v) := by
  unfold m_J7_fill_53178
  refine OK.l ?_
  refine OK.w2 (fun i x g => x = nI i ∧ ∀ k, k < i → g k = v) N ?_ (by omega) ⟨rfl, fun k hk => absurd hk (Nat.not_lt_zero _)⟩
  rintro i x g k ⟨rfl, h1⟩ hi hk
  refine OK.le N i (by omega) (by omega) (fun h => OK.s (by rw [show i = N by omega] at h1; exact h1)) (fun h => ?_)
  refine OK.st i rfl h ?_ (by omega)
  refine hk h _ _ ⟨nI_1 i, fun k hk => ?_⟩
  by_cases e : k = i
  · subst e; rw [upd_s]
  · rw [upd_n _ _ e]; exact h1 k (by omega)
theorem s_fillr {N m : Nat} (hN : N < 2000) (hm : m ≤ N) (v : Int32) (f : Nat → Int32) : OK (m_J7_fill_fda19 3000 N 0 (nI m) v f) (fun g => ∀ k, k < m → g k = v) := by
  unfold m_J7_fill_fda19
  refine OK.b0 (Q := fun _ => True) ?_ (fun _ => ?_)
  · unfold m_J7_rangeCheck_23922
    refine OK.le 0 m (by omega) (by omega) (fun _ => ?_) (fun h => by omega)
    refine OK.t (by decide) ?_
    exact OK.le m N (by omega) (by omega) (fun _ => OK.s trivial) (fun h => by omega)
  · refine OK.w2 (fun i x g => x = nI i ∧ ∀ k, k < i → g k = v) m ?_ (by omega) ⟨rfl, fun k hk => absurd hk (Nat.not_lt_zero _)⟩
    rintro i x g k ⟨rfl, h1⟩ hi hk
    refine OK.le m i (by omega) (by omega) (fun h => OK.s (by rw [show i = m by omega] at h1; exact h1)) (fun h => ?_)
    refine OK.st i rfl (by omega) ?_ (by omega)
    refine hk h _ _ ⟨nI_1 i, fun k hk => ?_⟩
    by_cases e : k = i
    · subst e; rw [upd_s]
    · rw [upd_n _ _ e]; exact h1 k (by omega)
def jabR (m : Nat) (f : Nat → Int32) (a : Nat → Nat) : Prop := ∀ j, j < m → f j = nI (a j)
theorem jabR.c {m : Nat} {f : Nat → Int32} {a b : Nat → Nat} (h : jabR m f a) (he : ∀ j, j < m → a j = b j) : jabR m f b := fun j hj => by rw [h j hj, he j hj]
/-- what the learning uses of the index -/
def ixR (W : Nat) (L : Nat → Nat) (m : Nat) (cd st : Nat → Nat) (fits starts : Nat → Int32) : Prop := m ≤ 270 ∧ (∀ i j, i < m → j < m → cd i = cd j → i = j) ∧ (∀ n, 1 ≤ n → n ≤ 4 → starts n = nI (st n)) ∧ st 1 = 0 ∧ st 4 = m ∧ (∀ n, 1 ≤ n → n ≤ 3 → st n ≤ st (n + 1) ∧ ∀ j, st n ≤ j → j < st (n + 1) → clen (cd j) = n) ∧
  ∀ v, v < W → ∀ p, p + 2 ≤ dl (L v) → ∀ t, t < 9 → entR m cd fits L v p t
theorem nmR.inj {m : Nat} {cd : Nat → Nat} {known : Int32} {numbers codes : Nat → Int32} (h : nmR m cd known numbers codes) : ∀ i j, i < m → j < m → cd i = cd j → i = j := by
  intro i j hi hj he
  have h1 := (h.2.2.1 i hi).2.2
  have h2 := (h.2.2.1 j hj).2.2
  rw [he, h2] at h1
  have hm := h.2.1
  have := (nI_eq (by omega) (by omega)).mp h1
  omega
theorem idxR.ix {W : Nat} {L : Nat → Nat} {known : Int32} {numbers codes fits starts : Nat → Int32} (h : idxR W L known numbers codes fits starts) : ∃ m cd st, nmR m cd known numbers codes ∧ ixR W L m cd st fits starts := by
  obtain ⟨m, cd, st, h1, h2, h3, h4, h5, h6⟩ := h
  exact ⟨m, cd, st, h1, h1.2.1, h1.inj, h2, h3, h4, h5, h6⟩
theorem ixR.seg {W : Nat} {L : Nat → Nat} {m : Nat} {cd st : Nat → Nat} {fits starts : Nat → Int32} (h : ixR W L m cd st fits starts) {i n : Nat} (hi : i < m) (h1 : 1 ≤ n) (h3 : n ≤ 3) : clen (cd i) = n ↔ st n ≤ i ∧ i < st (n + 1) := by
  obtain ⟨-, -, -, e1, e4, hs, -⟩ := h
  obtain ⟨a1, b1⟩ := hs 1 (by omega) (by omega)
  obtain ⟨a2, b2⟩ := hs 2 (by omega) (by omega)
  obtain ⟨a3, b3⟩ := hs 3 (by omega) (by omega)
  have c : i < st 2 ∨ (st 2 ≤ i ∧ i < st 3) ∨ (st 3 ≤ i ∧ i < st 4) := by omega
  have hn : n = 1 ∨ n = 2 ∨ n = 3 := by omega
  have b1 : st 1 ≤ i → i < st 2 → clen (cd i) = 1 := b1 i
  have b2 : st 2 ≤ i → i < st 3 → clen (cd i) = 2 := b2 i
  have b3 : st 3 ≤ i → i < st 4 → clen (cd i) = 3 := b3 i
  have a1 : st 1 ≤ st 2 := a1
  have a2 : st 2 ≤ st 3 := a2
  have a3 : st 3 ≤ st 4 := a3
  rcases hn with rfl | rfl | rfl
  · show _ ↔ st 1 ≤ i ∧ i < st 2; omega
  · show _ ↔ st 2 ≤ i ∧ i < st 3; omega
  · show _ ↔ st 3 ≤ i ∧ i < st 4; omega
theorem s_cCountPlace {W : Nat} {L : Nat → Nat} (hL : lsOK W L) {m : Nat} {cd st : Nat → Nat} {fits starts : Nat → Int32} (hx : ixR W L m cd st fits starts) {w p n : Nat} (hw : w < W) (hp : p + 2 ≤ dl (L w)) (hn : n < 3) {a : Nat → Nat} {f : Nat → Int32} (hf : jabR m f a) :
    OK (m_X5_countPlace 3000 (nI (w * 5 + p)) (nI (n + 1)) f fits) (fun g => jabR m g (fun j => a j + hit (L w) p (n + 1) (cd j) (n + 2))) := by
  unfold m_X5_countPlace
  obtain ⟨ok, d2, d6⟩ := hL.w hw
  have hW := hL.1
  obtain ⟨kf1, kf2, kf3, kf4⟩ := kFirst_n n hn
  refine OK.rd (n + 1) rfl (by omega) ?_
  rw [kf1]
  refine OK.w2 (fun g x f => x = nI (fs (n + 1) + g) ∧ jabR m f (fun j => a j + hit (L w) p (n + 1) (cd j) g)) (n + 2) ?_ (by omega) ⟨rfl, hf⟩
  rintro g x f1 k ⟨rfl, h1⟩ hg hk
  refine OK.rd (n + 2) (nI_1 _) (by omega) ?_
  rw [kf2]
  refine OK.le (fs (n + 2)) (fs (n + 1) + g) (by omega) (by omega) (fun h => OK.s (by rw [show g = n + 2 by omega] at h1; exact h1)) (fun h => ?_)
  refine OK.rd ((w * 5 + p) * 9 + (fs (n + 1) + g)) (by rw [show (9 : Int32) = nI 9 from rfl, pk_mul, nI_add]) (by omega) ?_
  obtain ⟨e1, e2⟩ := hx.2.2.2.2.2.2 w hw p hp (fs (n + 1) + g) (by omega)
  have hm := hx.1
  rcases pf_dec (L w) p (fs (n + 1) + g) with q | q
  · obtain ⟨j, hj, e3, e4⟩ := e1 q
    rw [e3]
    refine OK.lt j 0 (by omega) (by omega) (fun h => by omega) (fun _ => ?_)
    refine OK.rd j rfl (by omega) ?_
    refine OK.st j rfl (by omega) ?_
    refine hk (by omega) _ _ ⟨nI_1 _, fun i hi => ?_⟩
    by_cases e : i = j
    · subst e
      rw [upd_s, h1 i hi, nI_1]
      have : one (L w) p (fs (n + 1) + g) (cd i) = 1 := by rw [e4]; exact one_1 q
      simp only [hit, sumN, this, Nat.add_assoc]
    · rw [upd_n _ _ e, h1 i hi]
      have : one (L w) p (fs (n + 1) + g) (cd i) = 0 := one_n q (fun h => e (hx.2.1 i j hi hj (by rw [h, e4])))
      simp only [hit, sumN, this, Nat.add_zero]
  · rw [e2 q]
    refine OK.t (by decide) (hk (by omega) _ _ ⟨nI_1 _, h1.c (fun j _ => ?_)⟩)
    simp only [hit, sumN, one_f q, Nat.add_zero]
/-- the words of a page, in the class's rows -/
def stkR (P : Pg) (words learnt : Int32) (letters breaks sizes rules hs : Nat → Int32) : Prop := words = nI (pW P) ∧ learnt = nI (pT P) ∧ (∀ w, w < pW P → letters w = nI (pL P w) ∧ breaks w = nI (pB P w) ∧ sizes w = nI (dl (pL P w))) ∧ ∀ k, 1 ≤ k → k ≤ 4 → rules k = nI (pR P k) ∧ hs k = nI (pH P k)
theorem s_digitOf {W : Nat} {L : Nat → Nat} (hL : lsOK W L) {pl : Nat → Nat} {d : Nat → Int32} (hd : digR W L pl 5 d) {w p : Nat} (hw : w < W) (hp : p + 2 ≤ dl (L w)) : OK (m_X5_digitOf 3000 (nI w) (nI p) d) (fun r => r = nI (digS pl (L w) p)) := by
  unfold m_X5_digitOf
  obtain ⟨-, -, d6⟩ := hL.w hw
  have hW := hL.1
  refine OK.rd (5 * w + p) (by rw [show (5 : Int32) = nI 5 from rfl, pk_mul, nI_add, Nat.mul_comm]) (by omega) ?_
  rw [hd w hw p hp]
  exact OK.s rfl
theorem s_countWords {P : Pg} (hP : pgOK P) {m : Nat} {cd st : Nat → Nat} {fits starts : Nat → Int32} (hx : ixR (pW P) (pL P) m cd st fits starts) {words learnt : Int32} {letters breaks sizes rules hs : Nat → Int32} (hs_ : stkR P words learnt letters breaks sizes rules hs) {mask lev n : Nat} (hm : mask < 64) (hl : lev < 100) (hn : n < 3) {pl : Nat → Nat} (hb : ∀ k, pl k ≤ 4) {d : Nat → Int32} (hd : digR (pW P) (pL P) pl 5 d) {a b : Nat → Nat} {g h : Nat → Int32} (hg : jabR m g a) (hh : jabR m h b) :
    OK (m_X5_countWords 3000 (nI mask) (nI lev) (nI (n + 1)) words sizes d breaks g fits h) (fun u => (u.1 = 1 ∨ (u.1 = 0 ∧ ∀ w, w < pW P → mask / 2 ^ w % 2 = 1 → ∀ p, p + 2 ≤ dl (pL P w) → gX P pl lev w p = 0)) ∧ jabR m u.2.1 (fun j => a j + cG P mask pl lev (n + 1) (cd j)) ∧ jabR m u.2.2 (fun j => b j + cB P mask pl lev (n + 1) (cd j))) := by
  unfold m_X5_countWords
  obtain ⟨rfl, -, s3, -⟩ := hs_
  have hW := hP.1.1
  rw [show (2 : Int32) = nI 2 from rfl, n_irm (a := lev) (by omega) (by omega) (by omega)]
  refine OK.j1 (fun y => y = nI (lev % 2)) (fun y hy => ?_) (fun k3 hk3 => ?_)
  rotate_left
  · exact OK.eq (lev % 2) 1 (by omega) (by omega) (fun e => hk3 _ (by rw [e]; rfl)) (fun e => hk3 _ (by rw [show lev % 2 = 0 by omega]; rfl))
  subst hy
  refine OK.w4 (fun t x y g h => y = nI t ∧ (x = 1 ∨ (x = 0 ∧ ∀ w, w < t → mask / 2 ^ w % 2 = 1 → ∀ p, p + 2 ≤ dl (pL P w) → gX P pl lev w p = 0)) ∧ jabR m g (fun j => a j + cntW (pL P) mask (n + 1) (cd j) (gX P pl lev) t) ∧ jabR m h (fun j => b j + cntW (pL P) mask (n + 1) (cd j) (bX P pl lev) t)) (pW P) ?_ (by omega) ⟨rfl, Or.inr ⟨rfl, fun w hw => absurd hw (Nat.not_lt_zero _)⟩, hg, hh⟩
  rintro t x y g1 h1 k ⟨rfl, hxg, q1, q2⟩ ht hk
  refine OK.le (pW P) t (by omega) (by omega) (fun h => ?_) (fun htl => ?_)
  · have e : t = pW P := by omega
    subst e
    refine OK.z (by rcases hxg with h | ⟨h, -⟩; exact Or.inr h; exact Or.inl h) (OK.s ⟨hxg, q1, q2⟩)
  obtain ⟨ok, d2, d6⟩ := hP.1.w htl
  have hmb : mask / 2 ^ t % 2 < 2 := Nat.mod_lt _ (by omega)
  rw [bit_at (b := mask) (p := t) (by omega) (by omega)]
  refine OK.eq (mask / 2 ^ t % 2) 0 (by omega) (by omega) (fun e => ?_) (fun e => ?_)
  · refine hk htl _ _ _ _ ⟨nI_1 t, ?_, q1.c (fun j _ => ?_), q2.c (fun j _ => ?_)⟩
    · rcases hxg with h | ⟨h, h2⟩
      · exact Or.inl h
      · refine Or.inr ⟨h, fun w hw e2 p hp => ?_⟩
        rcases Nat.lt_succ_iff_lt_or_eq.mp hw with h3 | h3
        · exact h2 w h3 e2 p hp
        · subst h3; omega
    · simp only [cntW, sumN, e, Nat.zero_mul, Nat.add_zero]
    · simp only [cntW, sumN, e, Nat.zero_mul, Nat.add_zero]
  have em : mask / 2 ^ t % 2 = 1 := by omega
  obtain ⟨-, sb, ss⟩ := s3 t htl
  refine OK.w4 (fun i x y g h => y = nI i ∧ (x = 1 ∨ (x = 0 ∧ (∀ w, w < t → mask / 2 ^ w % 2 = 1 → ∀ p, p + 2 ≤ dl (pL P w) → gX P pl lev w p = 0) ∧ ∀ p, p < i → gX P pl lev t p = 0)) ∧ jabR m g (fun j => a j + cntW (pL P) mask (n + 1) (cd j) (gX P pl lev) t + sumN (fun p => gX P pl lev t p * hit (pL P t) p (n + 1) (cd j) (n + 2)) i) ∧ jabR m h (fun j => b j + cntW (pL P) mask (n + 1) (cd j) (bX P pl lev) t + sumN (fun p => bX P pl lev t p * hit (pL P t) p (n + 1) (cd j) (n + 2)) i)) (dl (pL P t) - 1) ?_ (by omega) ⟨rfl, hxg.imp id (fun ⟨h, h2⟩ => ⟨h, h2, fun p hp => absurd hp (Nat.not_lt_zero _)⟩), q1, q2⟩
  rintro i x y g2 h2 k2 ⟨rfl, hxg2, r1, r2⟩ hi hk2
  refine OK.rd t rfl (by omega) ?_
  rw [ss, show nI (dl (pL P t)) - 1 = nI (dl (pL P t) - 1) by rw [show (1 : Int32) = nI 1 from rfl, pk_sub (by omega)]]
  refine OK.le (dl (pL P t) - 1) i (by omega) (by omega) (fun h => ?_) (fun hil => ?_)
  · have e2 : i = dl (pL P t) - 1 := by omega
    subst e2
    refine hk htl _ _ _ _ ⟨nI_1 t, ?_, r1.c (fun j _ => ?_), r2.c (fun j _ => ?_)⟩
    · rcases hxg2 with h | ⟨h, h3, h4⟩
      · exact Or.inl h
      · refine Or.inr ⟨h, fun w hw e2 p hp => ?_⟩
        rcases Nat.lt_succ_iff_lt_or_eq.mp hw with h5 | h5
        · exact h3 w h5 e2 p hp
        · subst h5; exact h4 p (by omega)
    · rw [cntW, sumN, em, Nat.one_mul, Nat.add_assoc]
    · rw [cntW, sumN, em, Nat.one_mul, Nat.add_assoc]
  refine OK.b1 (s_digitOf hP.1 hd htl (p := i) (by omega)) (fun r hr => ?_)
  subst hr
  have hd4 : digS pl (pL P t) i ≤ 4 := mxT_b hb (pL P t) i 9
  rw [n_irm (a := digS pl (pL P t) i) (by omega) (by omega) (by omega)]
  refine OK.j1 (fun y => y = nI (digS pl (pL P t) i % 2)) (fun y hy => ?_) (fun k3 hk3 => ?_)
  rotate_left
  · exact OK.eq (digS pl (pL P t) i % 2) 1 (by omega) (by omega) (fun e => hk3 _ (by rw [e]; rfl)) (fun e => hk3 _ (by rw [show digS pl (pL P t) i % 2 = 0 by omega]; rfl))
  subst hy
  refine OK.rd t rfl (by omega) ?_
  rw [sb]
  have hB := hP.b htl
  rw [bit_at (b := pB P t) (p := i) (by omega) (by omega)]
  have hbb : pB P t / 2 ^ i % 2 < 2 := Nat.mod_lt _ (by omega)
  refine OK.j1 (fun y => y = nI (pB P t / 2 ^ i % 2)) (fun y hy => ?_) (fun k3 hk3 => ?_)
  rotate_left
  · exact OK.eq (pB P t / 2 ^ i % 2) 1 (by omega) (by omega) (fun e => hk3 _ (by rw [e]; rfl)) (fun e => hk3 _ (by rw [show pB P t / 2 ^ i % 2 = 0 by omega]; rfl))
  subst hy
  refine OK.l ?_
  rw [show nI t * 5 + nI i = nI (t * 5 + i) by rw [show (5 : Int32) = nI 5 from rfl, pk_mul, nI_add]]
  have eg : gX P pl lev t i = gd lev (pB P t / 2 ^ i % 2) (digS pl (pL P t) i % 2) := rfl
  have eb : bX P pl lev t i = bd lev (pB P t / 2 ^ i % 2) (digS pl (pL P t) i % 2) := rfl
  have hcp := fun (f : Nat → Int32) (c : Nat → Nat) (hf : jabR m f c) => s_cCountPlace hP.1 hx (w := t) (p := i) (n := n) htl (by omega) hn hf
  have hbk : digS pl (pL P t) i % 2 ≤ 1 := m2 _
  have hbr : pB P t / 2 ^ i % 2 ≤ 1 := m2 _
  generalize pB P t / 2 ^ i % 2 = br at eg eb hbr ⊢
  generalize digS pl (pL P t) i % 2 = bk at eg eb hbk ⊢
  have c1 : br = 0 ∨ br = 1 := by omega
  have c2 : bk = 0 ∨ bk = 1 := by omega
  -- no good, no harm
  have fin0 : gX P pl lev t i = 0 → bX P pl lev t i = 0 → OK (k2 x (nI i + 1) g2 h2) (fun u => (u.1 = 1 ∨ (u.1 = 0 ∧ ∀ w, w < pW P → mask / 2 ^ w % 2 = 1 → ∀ p, p + 2 ≤ dl (pL P w) → gX P pl lev w p = 0)) ∧ jabR m u.2.1 (fun j => a j + cG P mask pl lev (n + 1) (cd j)) ∧ jabR m u.2.2 (fun j => b j + cB P mask pl lev (n + 1) (cd j))) := by
    intro z1 z2
    refine hk2 hil _ _ _ _ ⟨nI_1 i, ?_, r1.c (fun j _ => ?_), r2.c (fun j _ => ?_)⟩
    · rcases hxg2 with h | ⟨h, h3, h4⟩
      · exact Or.inl h
      · refine Or.inr ⟨h, h3, fun p hp => ?_⟩
        rcases Nat.lt_succ_iff_lt_or_eq.mp hp with h5 | h5
        · exact h4 p h5
        · subst h5; exact z1
    · simp only [sumN, z1, Nat.zero_mul, Nat.add_zero]
    · simp only [sumN, z2, Nat.zero_mul, Nat.add_zero]
  have finB : gX P pl lev t i = 0 → bX P pl lev t i = 1 → OK (bK1 (m_X5_countPlace 3000 (nI (t * 5 + i)) (nI (n + 1)) h2 fits) (fun f23 => k2 x (nI i + 1) g2 f23)) (fun u => (u.1 = 1 ∨ (u.1 = 0 ∧ ∀ w, w < pW P → mask / 2 ^ w % 2 = 1 → ∀ p, p + 2 ≤ dl (pL P w) → gX P pl lev w p = 0)) ∧ jabR m u.2.1 (fun j => a j + cG P mask pl lev (n + 1) (cd j)) ∧ jabR m u.2.2 (fun j => b j + cB P mask pl lev (n + 1) (cd j))) := by
    intro z1 z2
    refine OK.b1 (hcp h2 _ r2) (fun h3 hq => ?_)
    refine hk2 hil _ _ _ _ ⟨nI_1 i, ?_, r1.c (fun j _ => ?_), hq.c (fun j _ => ?_)⟩
    · rcases hxg2 with h | ⟨h, h3, h4⟩
      · exact Or.inl h
      · refine Or.inr ⟨h, h3, fun p hp => ?_⟩
        rcases Nat.lt_succ_iff_lt_or_eq.mp hp with h5 | h5
        · exact h4 p h5
        · subst h5; exact z1
    · simp only [sumN, z1, Nat.zero_mul, Nat.add_zero]
    · rw [sumN, z2, Nat.one_mul, Nat.add_assoc]
  have finG : gX P pl lev t i = 1 → bX P pl lev t i = 0 → OK (bK1 (m_X5_countPlace 3000 (nI (t * 5 + i)) (nI (n + 1)) g2 fits) (fun f25 => k2 1 (nI i + 1) f25 h2)) (fun u => (u.1 = 1 ∨ (u.1 = 0 ∧ ∀ w, w < pW P → mask / 2 ^ w % 2 = 1 → ∀ p, p + 2 ≤ dl (pL P w) → gX P pl lev w p = 0)) ∧ jabR m u.2.1 (fun j => a j + cG P mask pl lev (n + 1) (cd j)) ∧ jabR m u.2.2 (fun j => b j + cB P mask pl lev (n + 1) (cd j))) := by
    intro z1 z2
    refine OK.b1 (hcp g2 _ r1) (fun g3 hq => ?_)
    refine hk2 hil _ _ _ _ ⟨nI_1 i, Or.inl rfl, hq.c (fun j _ => ?_), r2.c (fun j _ => ?_)⟩
    · rw [sumN, z1, Nat.one_mul, Nat.add_assoc]
    · simp only [sumN, z2, Nat.zero_mul, Nat.add_zero]
  rw [eg, eb] at fin0 finB finG
  refine OK.ju0 ?_
  refine OK.ju0 ?_
  have c3 : lev % 2 = 0 ∨ lev % 2 = 1 := by omega
  rcases c3 with e3 | e3 <;> rcases c1 with rfl | rfl <;> rcases c2 with rfl | rfl <;> rw [e3]
  · exact OK.t rfl (OK.t rfl (OK.ju0 (OK.t rfl (OK.t rfl (fin0 (by simp [gd, e3]) (by simp [bd, e3]))))))
  · exact OK.t rfl (OK.f (by decide) (OK.t rfl (finG (by simp [gd, e3]) (by simp [bd, e3]))))
  · exact OK.t rfl (OK.t rfl (OK.ju0 (OK.t rfl (OK.t rfl (fin0 (by simp [gd, e3]) (by simp [bd, e3]))))))
  · exact OK.t rfl (OK.f (by decide) (OK.f (by decide) (OK.ju0 (OK.t rfl (OK.f (by decide) (finB (by simp [gd, e3]) (by simp [bd, e3])))))))
  · exact OK.f (by decide) (OK.t rfl (OK.ju0 (OK.f (by decide) (OK.t rfl (finB (by simp [gd, e3]) (by simp [bd, e3]))))))
  · exact OK.f (by decide) (OK.t rfl (OK.ju0 (OK.f (by decide) (OK.t rfl (finB (by simp [gd, e3]) (by simp [bd, e3]))))))
  · exact OK.f (by decide) (OK.f (by decide) (OK.t rfl (finG (by simp [gd, e3]) (by simp [bd, e3]))))
  · exact OK.f (by decide) (OK.f (by decide) (OK.f (by decide) (OK.ju0 (OK.f (by decide) (OK.f (by decide) (fin0 (by simp [gd, e3]) (by simp [bd, e3])))))))
