/-! ===== 58.judge2: the row of doings; which word it was ===== -/
theorem lgc (x y : Int64) : lg_cmp x y < 0 ↔ x < y := by
  unfold lg_cmp
  by_cases h1 : y < x
  · rw [if_pos h1]
    simp only [show ¬ (1 : Int32) < 0 by decide, false_iff]
    rw [Int64.lt_iff_toInt_lt] at *; omega
  · rw [if_neg h1]
    by_cases h2 : x = y
    · subst h2; simp
    · rw [if_neg h2]
      simp only [show (-1 : Int32) < 0 by decide, true_iff]
      rw [Int64.lt_iff_toInt_lt] at *
      have : x.toInt ≠ y.toInt := fun q => h2 (Int64.toInt_inj.mp q)
      omega
def td (n k i : Nat) : Nat := k / 100000 ^ (n - 1 - i) % 100000
def js (P : Pg) (n k : Nat) : Nat → Option Pg
  | 0 => some P
  | i + 1 => (js P n k i).bind (fun Q => doT Q (td n k i))
theorem js_s {P Q : Pg} {n k i : Nat} (h : js P n k i = some Q) : js P n k (i + 1) = doT Q (td n k i) := by rw [js, h]; rfl
theorem js_n {P : Pg} {n k i : Nat} (h : js P n k i = none) : ∀ j, i ≤ j → js P n k j = none := by
  intro j hj
  induction j with
  | zero => rw [show i = 0 by omega] at h; exact h
  | succ j ih =>
    by_cases e : i = j + 1
    · subst e; exact h
    · rw [js, ih (by omega)]; rfl
def JF (P : Pg) (n k : Nat) (r : Int32) : Prop := (∃ i Q, i < n ∧ js P n k i = some Q ∧ doT Q (td n k i) = none ∧ r = nI i) ∨ (∃ Q, js P n k n = some Q ∧ r = -9)
theorem JF_u {P : Pg} {n k : Nat} {r r' : Int32} (h : JF P n k r) (h' : JF P n k r') : r = r' := by
  rcases h with ⟨i, s, h1, h2, h3, h4⟩ | ⟨s, h1, h2⟩
  · have e1 : js P n k (i + 1) = none := by rw [js_s h2]; exact h3
    rcases h' with ⟨j, s', g1, g2, g3, g4⟩ | ⟨s', g1, g2⟩
    · have e2 : js P n k (j + 1) = none := by rw [js_s g2]; exact g3
      rcases Nat.lt_trichotomy i j with q | q | q
      · rw [js_n e1 j (by omega)] at g2; cases g2
      · rw [h4, g4, q]
      · rw [js_n e2 i (by omega)] at h2; cases h2
    · rw [js_n e1 n (by omega)] at g1; cases g1
  · rcases h' with ⟨j, s', g1, g2, g3, g4⟩ | ⟨s', g1, g2⟩
    · have e2 : js P n k (j + 1) = none := by rw [js_s g2]; exact g3
      rw [js_n e2 n (by omega)] at h1; cases h1
    · rw [h2, g2]
theorem js_ok {P : Pg} (hP : pgOK P) {n k : Nat} : ∀ i Q, js P n k i = some Q → pgOK Q ∧ pW Q = pW P ∧ pL Q = pL P
  | 0, Q, h => by cases h; exact ⟨hP, rfl, rfl⟩
  | i + 1, Q, h => by
    cases hq : js P n k i with
    | none => rw [js, hq] at h; cases h
    | some Q0 =>
      rw [js_s hq] at h
      obtain ⟨a, b, c⟩ := js_ok hP i Q0 hq
      obtain ⟨d, e, f⟩ := doT_ok a h
      exact ⟨d, e.trans b, f.trans c⟩
theorem kRow_n : ∀ j, j < 4 → kRow j = lN (100000 ^ j) := by decide +kernel
theorem p5_b {j : Nat} (h : j ≤ 3) : 100000 ^ j ≤ 1000000000000000 := Nat.le_trans (Nat.pow_le_pow_right (by omega) h) (by decide)
theorem p5_0 (j : Nat) : 0 < 100000 ^ j := Nat.pow_pos (by omega)
theorem told_n {k j : Nat} (hk : k < 1000000000000000) (hj : j ≤ 3) : (lrm (lN k / lN (100000 ^ j)) 100000).toInt32 = nI (k / 100000 ^ j % 100000) := by
  have hp := p5_b hj
  rw [pk_lDiv (by omega) (p5_0 j) (by omega)]
  have hq : k / 100000 ^ j < 1000000000000000 := Nat.lt_of_le_of_lt (Nat.div_le_self _ _) hk
  have := pk_lRem (a := k / 100000 ^ j) (b := 100000) (by omega) (by omega) (by omega)
  show (lN (k / 100000 ^ j) - lN (k / 100000 ^ j) / lN 100000 * lN 100000).toInt32 = _
  rw [this, l32]
theorem lN_ne0 {n : Nat} (h0 : 0 < n) (h : n < 2 ^ 63) : ¬ lN n = 0 := by
  intro e
  have e : lN n = lN 0 := e
  rw [pk_lEQ h (by omega)] at e
  omega
theorem s_firstWrong {P : Pg} (hP : pgOK P) {m : Nat} {cd st : Nat → Nat} {known : Int32} {numbers codes fits starts : Nat → Int32} (hn : nmR m cd known numbers codes) (hx : ixR (pW P) (pL P) m cd st fits starts) {words learnt : Int32} {letters breaks sizes rules hs : Nat → Int32} (hs_ : stkR P words learnt letters breaks sizes rules hs) {n k : Nat} (h1 : 1 ≤ n) (h3 : n ≤ 3) (hk : k < 100000 ^ n) (z1 z2 : Int32) (f1 f2 f3 f4 f5 levels digits good bad : Nat → Int32) :
    OK (m_X4_firstWrong 3000 (nI n) (lN k) words learnt z1 z2 f1 f2 f3 f4 f5 letters breaks sizes rules hs levels known digits good bad fits starts numbers) (fun u => JF P n k u.1) := by
  unfold m_X4_firstWrong
  have hk15 : k < 1000000000000000 := Nat.lt_of_lt_of_le hk (p5_b h3)
  refine OK.b7 (s_copyFrom hP hs_ z1 z2 f1 f2 f3 f4 f5) (fun y1 y2 g3 g4 g5 g6 g7 hq => ?_)
  have hq : stkR P y1 y2 g3 g4 g5 g6 g7 := hq
  have hlf := s_learnFrom hP hx hq (mask := 63) (by omega) levels digits good bad
  rw [← hn.1] at hlf
  refine OK.b4 hlf (fun l8 l9 l10 l11 hw => ?_)
  refine OK.w9 (fun t x lr br ru hh le di _ _ => x = nI t ∧ ∃ Q, js P n k t = some Q ∧ jgR Q m cd y1 lr g3 br g5 ru hh le di) n ?_ (by omega) ⟨rfl, P, rfl, hq, hw.1, hw.2⟩
  rintro t x lr br ru hh le di go ba c ⟨rfl, Q, hQ, hj⟩ ht hc
  refine OK.le n t (by omega) (by omega) (fun e => OK.s (Or.inr ⟨Q, by rw [show n = t by omega]; rw [show n = t by omega] at hQ; exact hQ, rfl⟩)) (fun e => ?_)
  refine OK.rd (n - 1 - t) (by rw [n_sub1 (by omega), pk_sub (by omega)]) (by omega) ?_
  rw [kRow_n _ (by omega)]
  have hp := p5_b (j := n - 1 - t) (by omega)
  refine OK.nl (lN_ne0 (p5_0 _) (by omega)) ?_
  rw [told_n hk15 (by omega)]
  obtain ⟨q1, q2, q3⟩ := js_ok hP t Q hQ
  have hx' : ixR (pW Q) (pL Q) m cd st fits starts := by rw [q2, q3]; exact hx
  refine OK.b9 (s_goesOn q1 hn hx' hj (n := td n k t) (Nat.mod_lt _ (by omega)) go ba) (fun r a1 a2 a3 a4 a5 a6 a7 a8 hg => ?_)
  rcases hg with ⟨b1, b2⟩ | ⟨P', b1, b2, b3⟩
  · exact OK.t b2 (OK.s (Or.inl ⟨t, Q, e, hQ, b1, rfl⟩))
  · exact OK.f (by rw [show r = 1 from b2]; decide) (hc e _ _ _ _ _ _ _ _ _ ⟨nI_1 t, P', by rw [js_s hQ]; exact b1, b3⟩)
def jgIn (x : Int32) (y : Int64) (n k : Nat) : Prop := 1 ≤ n ∧ n ≤ 3 ∧ x = nI n ∧ k < 100000 ^ n ∧ y = lN k
def jgA (P : Pg) (x : Int32) (y : Int64) (r : Int32) : Prop := (∃ n k, jgIn x y n k ∧ JF P n k r) ∨ ((∀ n k, ¬ jgIn x y n k) ∧ r = -2)
theorem jgA_u {P : Pg} {x : Int32} {y : Int64} {r r' : Int32} (h : jgA P x y r) (h' : jgA P x y r') : r = r' := by
  rcases h with ⟨n, k, h1, h2⟩ | ⟨h1, h2⟩ <;> rcases h' with ⟨n', k', h1', h2'⟩ | ⟨h1', h2'⟩
  · obtain ⟨a1, a2, a3, a4, a5⟩ := h1
    obtain ⟨b1, b2, b3, b4, b5⟩ := h1'
    rw [a3, nI_eq (by omega) (by omega)] at b3
    subst b3
    have := p5_b a2
    rw [a5, pk_lEQ (by omega) (by omega)] at b5
    subst b5
    exact JF_u h2 h2'
  · exact absurd h1 (h1' n k)
  · exact absurd h1' (h1 n' k')
  · rw [h2, h2']
theorem jg_le {y : Int64} {n : Nat} (hn : n ≤ 3) : (0 ≤ y ∧ y < lN (100000 ^ n)) ↔ ∃ k, k < 100000 ^ n ∧ y = lN k := by
  have hp := p5_b hn
  constructor
  · rintro ⟨h1, h2⟩
    obtain ⟨k, hk, rfl⟩ := pk_lOf (Int64.not_lt.mpr h1)
    rw [pk_lLT hk (by omega)] at h2
    exact ⟨k, h2, rfl⟩
  · rintro ⟨k, h1, rfl⟩
    refine ⟨?_, (pk_lLT (by omega) (by omega)).mpr h1⟩
    show lN 0 ≤ lN k
    exact (pk_lLE (by omega) (by omega)).mpr (by omega)
theorem s_cJudge {P : Pg} (hP : pgOK P) {m : Nat} {cd st : Nat → Nat} {known : Int32} {numbers codes fits starts : Nat → Int32} (hn : nmR m cd known numbers codes) (hx : ixR (pW P) (pL P) m cd st fits starts) {words learnt : Int32} {letters breaks sizes rules hs : Nat → Int32} (hs_ : stkR P words learnt letters breaks sizes rules hs) (x : Int32) (y : Int64) (z1 z2 : Int32) (f1 f2 f3 f4 f5 levels digits good bad : Nat → Int32) :
    OK (m_X10_judge 3000 x y words learnt z1 z2 letters breaks sizes rules hs f1 f2 f3 f4 f5 levels known digits good bad fits starts numbers) (fun u => jgA P x y u.1) := by
  unfold m_X10_judge
  have hno : ¬ inB 1 3 x → ∀ n k, ¬ jgIn x y n k := fun q n k w => q ⟨n, w.1, w.2.1, w.2.2.1⟩
  by_cases hb : inB 1 3 x
  · obtain ⟨n, n1, n3, rfl⟩ := hb
    refine OK.lt n 1 (by omega) (by omega) (fun q => by omega) (fun _ => ?_)
    refine OK.lt 3 n (by omega) (by omega) (fun q => by omega) (fun _ => ?_)
    have hno2 : ¬ (0 ≤ y ∧ y < lN (100000 ^ n)) → ∀ n' k, ¬ jgIn (nI n) y n' k := by
      rintro q n' k ⟨a1, a2, a3, a4, a5⟩
      rw [nI_eq (by omega) (by omega)] at a3
      subst a3
      exact q ((jg_le n3).mpr ⟨k, a4, a5⟩)
    refine OK.i (fun q => OK.s (Or.inr ⟨hno2 (fun w => absurd w.1 (Int64.not_le.mpr ((lgc _ _).mp q))), rfl⟩)) (fun q => ?_)
    refine OK.rd n rfl (by omega) ?_
    rw [kRow_n n (by omega)]
    refine OK.i (fun q2 => ?_) (fun q2 => OK.s (Or.inr ⟨hno2 (fun w => q2 ((lgc _ _).mpr w.2)), rfl⟩))
    obtain ⟨k, hk, rfl⟩ := (jg_le n3).mp ⟨Int64.not_lt.mp (fun w => q ((lgc _ _).mpr w)), (lgc _ _).mp q2⟩
    refine OK.b12 (s_firstWrong hP hn hx hs_ n1 n3 hk z1 z2 f1 f2 f3 f4 f5 levels digits good bad) (fun r a1 a2 a3 a4 a5 a6 a7 a8 a9 a10 a11 hg => OK.s (Or.inl ⟨n, k, ⟨n1, n3, rfl, hk, rfl⟩, hg⟩))
  · refine OK.i (fun _ => OK.s (Or.inr ⟨hno hb, rfl⟩)) (fun q => ?_)
    refine OK.t (Int32.not_le.mp (fun w => hb ((inB_le (by omega) (by omega)).mpr ⟨Int32.not_lt.mp q, w⟩))) (OK.s (Or.inr ⟨hno hb, rfl⟩))
theorem s_longPower {n : Nat} (hn : n ≤ 100) : OK (m_X11_longPower 3000 100000 (nI n)) (fun r => r = lN (100000 ^ n)) := by
  unfold m_X11_longPower
  refine OK.w2 (fun t x y => x = lN (100000 ^ t) ∧ y = nI t) n ?_ (by omega) ⟨rfl, rfl⟩
  rintro t x y k ⟨rfl, rfl⟩ ht hk
  refine OK.le n t (by omega) (by omega) (fun h => OK.s (by rw [show t = n by omega])) (fun h => OK.l ?_)
  rw [nI_1]
  refine hk h _ _ ⟨?_, rfl⟩
  show Int64.ofNat (100000 ^ t) * Int64.ofNat 100000 = Int64.ofNat (100000 ^ (t + 1))
  rw [Nat.pow_succ, Int64.ofNat_mul]
theorem s_begin {P : Pg} (hP : pgOK P) {p1 : Nat → Int32} (hp : pageR P p1) (f : Nat → Int32) : OK (m_X11_begin 3000 f p1) (fun g => pageR P g) := by
  unfold m_X11_begin
  refine OK.w2 (fun t x g => x = nI t ∧ ∀ k, k < t → g k = p1 k) 22 ?_ (by omega) ⟨rfl, fun k hk => absurd hk (Nat.not_lt_zero _)⟩
  rintro t x g k ⟨rfl, h1⟩ ht hk
  refine OK.le 22 t (by omega) (by omega) (fun h => OK.s (hp.c hP (by rw [show t = 22 by omega] at h1; exact h1))) (fun h => ?_)
  refine OK.rd t rfl h (OK.st t rfl h ?_)
  refine hk h _ _ ⟨nI_1 t, fun j hj => ?_⟩
  by_cases e : j = t
  · subst e; exact upd_s _ _ _
  · rw [upd_n _ _ e]; exact h1 j (by omega)
theorem s_rJudge {P : Pg} (hP : pgOK P) {p1 : Nat → Int32} (hp : pageR P p1) (x : Int32) (y : Int64) (th z : Int32) (trial plan f d g h : Nat → Int32) : OK (m_X11_judge 3000 x y th z trial p1 plan f d g h) (fun u => jgA P x y u.1) := by
  unfold m_X11_judge
  refine OK.b1 (s_inB (a := 1) (b := 3) (by omega) (by omega) x) (fun r hr => ?_)
  rcases hr with ⟨⟨n, n1, n3, rfl⟩, rfl⟩ | ⟨hb, rfl⟩
  rotate_left
  · exact OK.t rfl (OK.s (Or.inr ⟨fun n k w => hb ⟨n, w.1, w.2.1, w.2.2.1⟩, rfl⟩))
  refine OK.f (by decide) ?_
  refine OK.b1 (s_longPower (n := n) (by omega)) (fun r hr => ?_)
  subst hr
  have hp5 := p5_b n3
  have h05 := p5_0 n
  have hno2 : ¬ (0 ≤ y ∧ y < lN (100000 ^ n)) → ∀ n' k, ¬ jgIn (nI n) y n' k := by
    rintro q n' k ⟨a1, a2, a3, a4, a5⟩
    rw [nI_eq (by omega) (by omega)] at a3
    subst a3
    exact q ((jg_le n3).mpr ⟨k, a4, a5⟩)
  have e1 : lN (100000 ^ n) - 1 = lN (100000 ^ n - 1) := by
    show Int64.ofNat (100000 ^ n) - Int64.ofNat 1 = Int64.ofNat (100000 ^ n - 1)
    rw [Int64.ofNat_sub _ _ (by omega)]
  rw [e1]
  have e2 : (0 ≤ y ∧ y ≤ lN (100000 ^ n - 1)) ↔ (0 ≤ y ∧ y < lN (100000 ^ n)) := by
    refine and_congr_right (fun h0 => ?_)
    obtain ⟨k, hk, rfl⟩ := pk_lOf (Int64.not_lt.mpr h0)
    rw [pk_lLE hk (by omega), pk_lLT hk (by omega)]
    omega
  refine OK.b1 (s_in y 0 (lN (100000 ^ n - 1))) (fun r hr => ?_)
  by_cases hy : 0 ≤ y ∧ y < lN (100000 ^ n)
  · rw [if_pos (e2.mpr hy)] at hr
    subst hr
    refine OK.f (by decide) ?_
    obtain ⟨k, hk, rfl⟩ := (jg_le n3).mp hy
    have hk15 : k < 1000000000000000 := Nat.lt_of_lt_of_le hk (p5_b n3)
    refine OK.b1 (s_begin hP hp trial) (fun f4 hf4 => ?_)
    refine OK.w8 (fun t x _ tr _ _ _ _ _ => x = nI t ∧ ∃ Q, js P n k t = some Q ∧ pageR Q tr) n ?_ (by omega) ⟨rfl, P, rfl, hf4⟩
    rintro t x z1 tr g1 g2 g3 g4 g5 c ⟨rfl, Q, hQ, hj⟩ ht hc
    refine OK.le n t (by omega) (by omega) (fun e => OK.s (Or.inl ⟨n, k, ⟨n1, n3, rfl, hk, rfl⟩, Or.inr ⟨Q, by rw [show n = t by omega]; rw [show n = t by omega] at hQ; exact hQ, rfl⟩⟩)) (fun e => ?_)
    rw [n_sub1 (by omega), pk_sub (by omega)]
    refine OK.b1 (s_longPower (n := n - 1 - t) (by omega)) (fun r hr => ?_)
    subst hr
    have hp := p5_b (j := n - 1 - t) (by omega)
    refine OK.nl (lN_ne0 (p5_0 _) (by omega)) ?_
    rw [told_n hk15 (by omega)]
    obtain ⟨q1, q2, q3⟩ := js_ok hP t Q hQ
    refine OK.b8 (s_does q1 hj (n := td n k t) (Nat.mod_lt _ (by omega)) z1 g1 g2 g3 g4 g5) (fun r a1 a2 a3 a4 a5 a6 a7 hg => ?_)
    rcases hg with ⟨b1, b2⟩ | ⟨P', b1, b2, b3⟩
    · exact OK.t b2 (OK.s (Or.inl ⟨n, k, ⟨n1, n3, rfl, hk, rfl⟩, Or.inl ⟨t, Q, e, hQ, b1, rfl⟩⟩))
    · exact OK.f (by rw [show r = 1 from b2]; decide) (hc e _ _ _ _ _ _ _ _ ⟨nI_1 t, P', by rw [js_s hQ]; exact b1, b3⟩)
  · rw [if_neg (fun q => hy (e2.mp q))] at hr
    exact OK.t hr (OK.s (Or.inr ⟨hno2 hy, rfl⟩))
/-! ## which word it was -/
def agN (pl : Nat → Nat) (sp sd sh : Nat → Nat) (c : Nat) : Nat → Bool
  | 0 => true
  | j + 1 => agN pl sp sd sh c j && (decide (digS pl c (sp j) = sd j) == decide (sh j = 1))
theorem agN_up {pl sp sd sh : Nat → Nat} {c t : Nat} (h : agN pl sp sd sh c t = false) : ∀ s, t ≤ s → agN pl sp sd sh c s = false := by
  intro s hs
  induction s with
  | zero => rw [show t = 0 by omega] at h; exact h
  | succ s ih =>
    by_cases e : t = s + 1
    · subst e; exact h
    · rw [agN, ih (by omega)]; rfl
def cw (i : Nat) : Nat := 100 * (i / 25 + 1) + 10 * (i / 5 % 5 + 1) + i % 5 + 1
theorem cw_w {i : Nat} (h : i < 125) : dl (cw i) = 3 ∧ okW (cw i) := wd3 (by omega) (by omega) (by omega)
def snR (n : Nat) (sp sd sh : Nat → Nat) (f g h : Nat → Int32) : Prop := n ≤ 6 ∧ ∀ j, j < n → f j = nI (sp j) ∧ sp j ≤ 1 ∧ g j = nI (sd j) ∧ sd j ≤ 4 ∧ h j = nI (sh j) ∧ sh j ≤ 1
theorem s_agrees {i : Nat} (hi : i < 125) {n : Nat} {sp sd sh : Nat → Nat} {f g h : Nat → Int32} (hs : snR n sp sd sh f g h) {numbers levels : Nat → Int32} {pl : Nat → Nat} (hpl : lvlR numbers levels pl) (hb : ∀ k, pl k ≤ 4) (z : Int32) (sg_ : Nat → Int32) : OK (m_X6_agrees 3000 (nI (cw i)) (nI n) z sg_ f levels numbers g h) (fun u => u.1 = if agN pl sp sd sh (cw i) n then 1 else 0) := by
  unfold m_X6_agrees
  obtain ⟨w1, w2⟩ := cw_w hi
  obtain ⟨hn, hs⟩ := hs
  have hsp := s_spell (c := cw i) w2.1 z sg_
  rw [w1] at hsp
  refine OK.b2 hsp (fun z1 f1 hq => ?_)
  obtain ⟨q1, q2⟩ := hq
  have q1 : z1 = nI 3 := q1
  subst q1
  have q2 : ∀ k, k ≤ 3 + 1 → f1 k = nI (sg (cw i) k) := q2
  have hspl : spelt (cw i) f1 := by intro k hk; rw [w1] at hk; exact q2 k hk
  refine OK.w1 (fun t x => x = nI t ∧ agN pl sp sd sh (cw i) t = true) n ?_ (by omega) ⟨rfl, rfl⟩
  rintro t x k ⟨rfl, h1⟩ ht hk
  refine OK.le n t (by omega) (by omega) (fun e => OK.s (by rw [show t = n by omega] at h1; rw [h1]; rfl)) (fun e => ?_)
  obtain ⟨a1, a2, a3, a4, a5, a6⟩ := hs t e
  refine OK.rd t rfl (by omega) ?_
  rw [a1]
  have hdg := s_digitOfSpelt (p := sp t) w2 (by omega) hspl hpl hb
  rw [w1] at hdg
  refine OK.b1 hdg (fun r hr => ?_)
  subst hr
  refine OK.rd t rfl (by omega) ?_
  rw [a3]
  have hd4 := digS_b hb (cw i) (sp t)
  refine OK.j1 (fun y => y = if digS pl (cw i) (sp t) = sd t then 1 else 0) ?_ (fun k1 hk1 => OK.eq _ _ (by omega) (by omega) (fun q => hk1 _ (by rw [if_pos q])) (fun q => hk1 _ (by rw [if_neg q])))
  rintro y rfl
  refine OK.rd t rfl (by omega) ?_
  rw [a5]
  have hfin : (decide (digS pl (cw i) (sp t) = sd t) == decide (sh t = 1)) = false → (if agN pl sp sd sh (cw i) n then (1 : Int32) else 0) = 0 := fun q => by
    rw [agN_up (t := t + 1) (by rw [agN, q]; simp) n (by omega)]; rfl
  have hgo : (decide (digS pl (cw i) (sp t) = sd t) == decide (sh t = 1)) = true → agN pl sp sd sh (cw i) (t + 1) = true := fun q => by rw [agN, h1, q]; rfl
  have hsh : sh t = 0 ∨ sh t = 1 := by omega
  by_cases q : digS pl (cw i) (sp t) = sd t
  · rw [if_pos q]
    rcases hsh with w | w
    · rw [w]
      exact OK.f (by decide) (OK.s (hfin (by rw [decide_eq_true q, w]; rfl)).symm)
    · rw [w]
      exact OK.t rfl (hk e _ ⟨nI_1 t, hgo (by rw [decide_eq_true q, w]; rfl)⟩)
  · rw [if_neg q]
    rcases hsh with w | w
    · rw [w]
      exact OK.t rfl (hk e _ ⟨nI_1 t, hgo (by rw [decide_eq_false q, w]; rfl)⟩)
    · rw [w]
      exact OK.f (by decide) (OK.s (hfin (by rw [decide_eq_false q, w]; rfl)).symm)
theorem s_lettersOf {i : Nat} (hi : i < 125) : OK (m_X6_lettersOf 3000 (nI i)) (fun r => r = nI (cw i)) := by
  unfold m_X6_lettersOf
  refine OK.s ?_
  rw [show (25 : Int32) = nI 25 from rfl, show (5 : Int32) = nI 5 from rfl, pk_div (by omega) (by omega) (by omega), pk_div (by omega) (by omega) (by omega), n_irm (by omega) (by omega) (by omega), n_irm (by omega) (by omega) (by omega), show (100 : Int32) = nI 100 from rfl, show (10 : Int32) = nI 10 from rfl]
  simp only [nI_1, pk_mul, nI_add]
  unfold cw
  congr 1; omega
def cntA (pl sp sd sh : Nat → Nat) (n : Nat) : Nat → Nat := sumN (fun i => if agN pl sp sd sh (cw i) n then 1 else 0)
def fstA (pl sp sd sh : Nat → Nat) (n : Nat) (r : Int32) : Prop := (∃ i, i < 125 ∧ agN pl sp sd sh (cw i) n = true ∧ (∀ j, j < i → agN pl sp sd sh (cw j) n = false) ∧ r = nI (cw i)) ∨ ((∀ i, i < 125 → agN pl sp sd sh (cw i) n = false) ∧ r = -9)
theorem fstA_u {pl sp sd sh : Nat → Nat} {n : Nat} {r r' : Int32} (h : fstA pl sp sd sh n r) (h' : fstA pl sp sd sh n r') : r = r' := by
  rcases h with ⟨i, a1, a2, a3, a4⟩ | ⟨a1, a2⟩ <;> rcases h' with ⟨j, b1, b2, b3, b4⟩ | ⟨b1, b2⟩
  · rcases Nat.lt_trichotomy i j with q | q | q
    · rw [b3 i q] at a2; cases a2
    · rw [a4, b4, q]
    · rw [a3 j q] at b2; cases b2
  · rw [b1 i a1] at a2; cases a2
  · rw [a1 j b1] at b2; cases b2
  · rw [a2, b2]
theorem s_countSeen {n : Nat} {sp sd sh : Nat → Nat} {f g h : Nat → Int32} (hs : snR n sp sd sh f g h) {numbers levels : Nat → Int32} {pl : Nat → Nat} (hpl : lvlR numbers levels pl) (hb : ∀ k, pl k ≤ 4) (z : Int32) (sg_ : Nat → Int32) : OK (m_X6_countWords 3000 (nI n) f g h z levels sg_ numbers) (fun u => u.1 = nI (cntA pl sp sd sh n 125)) := by
  unfold m_X6_countWords
  refine OK.w4 (fun t x y _ _ => x = nI (cntA pl sp sd sh n t) ∧ y = nI t) 125 ?_ (by omega) ⟨rfl, rfl⟩
  rintro t x y z1 g1 k ⟨rfl, rfl⟩ ht hk
  refine OK.le 125 t (by omega) (by omega) (fun e => OK.s (by rw [show t = 125 by omega])) (fun e => ?_)
  refine OK.b1 (s_lettersOf e) (fun r hr => ?_)
  subst hr
  refine OK.b3 (s_agrees e hs hpl hb z1 g1) (fun r a1 a2 hq => ?_)
  have hq : r = if agN pl sp sd sh (cw t) n then 1 else 0 := hq
  subst hq
  cases ha : agN pl sp sd sh (cw t) n with
  | false =>
    refine OK.t rfl (hk e _ _ _ _ ⟨?_, nI_1 t⟩)
    show _ = nI (cntA pl sp sd sh n t + if agN pl sp sd sh (cw t) n then 1 else 0)
    rw [ha]; rfl
  | true =>
    refine OK.f (by decide) (hk e _ _ _ _ ⟨?_, nI_1 t⟩)
    show _ = nI (cntA pl sp sd sh n t + if agN pl sp sd sh (cw t) n then 1 else 0)
    rw [ha, nI_1]; rfl
theorem s_firstSeen {n : Nat} {sp sd sh : Nat → Nat} {f g h : Nat → Int32} (hs : snR n sp sd sh f g h) {numbers levels : Nat → Int32} {pl : Nat → Nat} (hpl : lvlR numbers levels pl) (hb : ∀ k, pl k ≤ 4) (z : Int32) (sg_ : Nat → Int32) : OK (m_X6_firstWord 3000 (nI n) f g h z levels sg_ numbers) (fun u => fstA pl sp sd sh n u.1) := by
  unfold m_X6_firstWord
  refine OK.w3 (fun t x _ _ => x = nI t ∧ ∀ j, j < t → agN pl sp sd sh (cw j) n = false) 125 ?_ (by omega) ⟨rfl, fun j hj => absurd hj (Nat.not_lt_zero _)⟩
  rintro t x z1 g1 k ⟨rfl, h1⟩ ht hk
  refine OK.le 125 t (by omega) (by omega) (fun e => OK.s (Or.inr ⟨by rw [show t = 125 by omega] at h1; exact h1, rfl⟩)) (fun e => ?_)
  refine OK.b1 (s_lettersOf e) (fun r hr => ?_)
  subst hr
  refine OK.b3 (s_agrees e hs hpl hb z1 g1) (fun r a1 a2 hq => ?_)
  have hq : r = if agN pl sp sd sh (cw t) n then 1 else 0 := hq
  subst hq
  cases ha : agN pl sp sd sh (cw t) n with
  | false =>
    refine OK.t rfl (hk e _ _ _ ⟨nI_1 t, fun j hj => ?_⟩)
    rcases Nat.lt_succ_iff_lt_or_eq.mp hj with q | q
    · exact h1 j q
    · subst q; exact ha
  | true =>
    refine OK.f (by decide) (OK.b1 (s_lettersOf e) (fun r hr => OK.s (Or.inl ⟨t, e, ha, h1, hr⟩)))
theorem cntA_0 {pl sp sd sh : Nat → Nat} {n : Nat} : ∀ t, cntA pl sp sd sh n t = 0 ↔ ∀ j, j < t → agN pl sp sd sh (cw j) n = false
  | 0 => ⟨fun _ j hj => absurd hj (Nat.not_lt_zero _), fun _ => rfl⟩
  | t + 1 => by
    have ih := cntA_0 (pl := pl) (sp := sp) (sd := sd) (sh := sh) (n := n) t
    have e : cntA pl sp sd sh n (t + 1) = cntA pl sp sd sh n t + if agN pl sp sd sh (cw t) n then 1 else 0 := rfl
    constructor
    · intro h j hj
      rw [e] at h
      rcases Nat.lt_succ_iff_lt_or_eq.mp hj with q | q
      · exact ih.mp (by omega) j q
      · subst q
        cases ha : agN pl sp sd sh (cw j) n with
        | false => rfl
        | true => rw [ha] at h; simp at h
    · intro h
      rw [e, ih.mpr (fun j hj => h j (by omega)), h t (by omega)]; rfl
theorem cntA_b {pl sp sd sh : Nat → Nat} {n : Nat} (t : Nat) : cntA pl sp sd sh n t ≤ t := by
  have := sumN_b (f := fun i => if agN pl sp sd sh (cw i) n then 1 else 0) (M := 1) t (fun i _ => by split <;> omega)
  unfold cntA; omega
theorem s_rWhich {P : Pg} (hP : pgOK P) {p1 : Nat → Int32} (hp : pageR P p1) {n : Nat} {sp sd sh : Nat → Nat} {f g h : Nat → Int32} (hs : snR n sp sd sh f g h) (th z z1 z2 : Int32) (plan sg_ dg gd_ bd_ : Nat → Int32) (x : Int32) (hx : inB 0 1 x) :
    OK (m_X11_which 3000 x th (nI n) z z1 z2 p1 plan sg_ dg gd_ bd_ f g h) (fun u => (x = 0 ∧ u.1 = nI (cntA (plS P 63 (pT P)) sp sd sh n 125)) ∨ (¬ x = 0 ∧ fstA (plS P 63 (pT P)) sp sd sh n u.1)) := by
  unfold m_X11_which
  refine OK.b1 (s_inB (a := 0) (b := 1) (by omega) (by omega) x) (fun r hr => ?_)
  rcases hr with ⟨-, rfl⟩ | ⟨hr, -⟩
  rotate_left
  · exact absurd hx hr
  refine OK.f (by decide) ?_
  have hb := plS_4 hP 63
  refine OK.b6 (s_learnAll hP hp z plan sg_ dg gd_ bd_) (fun y1 f2 f3 f4 f5 f6 hq => ?_)
  obtain ⟨q1, -⟩ := hq
  have q1 : tabR f2 (plS P 63 (pT P)) := q1
  obtain ⟨hn, hs⟩ := hs
  refine OK.w5 (fun t x _ a b _ => x = nI t ∧ a = nI (cntA (plS P 63 (pT P)) sp sd sh n t) ∧ ((cntA (plS P 63 (pT P)) sp sd sh n t = 0 ∧ b = -9) ∨ (0 < cntA (plS P 63 (pT P)) sp sd sh n t ∧ ∃ i, i < t ∧ agN (plS P 63 (pT P)) sp sd sh (cw i) n = true ∧ (∀ j, j < i → agN (plS P 63 (pT P)) sp sd sh (cw j) n = false) ∧ b = nI (cw i)))) 125 ?_ (by omega) ⟨rfl, rfl, Or.inl ⟨rfl, rfl⟩⟩
  rintro t y z3 a b g1 k ⟨rfl, rfl, h1⟩ ht hk
  refine OK.le 125 t (by omega) (by omega) (fun e => ?_) (fun e => ?_)
  · have et : t = 125 := by omega
    subst et
    refine OK.i (fun q => OK.s (Or.inl ⟨q, rfl⟩)) (fun q => OK.s (Or.inr ⟨q, ?_⟩))
    rcases h1 with ⟨a1, a2⟩ | ⟨a1, i, a2, a3, a4, a5⟩
    · exact Or.inr ⟨(cntA_0 125).mp a1, a2⟩
    · exact Or.inl ⟨i, a2, a3, a4, a5⟩
  obtain ⟨w1, w2⟩ := cw_w e
  have ew : ((((100 * ((nI t / 25) + 1)) + (10 * ((irm (nI t / 5) 5) + 1))) + (irm (nI t) 5)) + 1 : Int32) = nI (cw t) := by
    rw [show (25 : Int32) = nI 25 from rfl, show (5 : Int32) = nI 5 from rfl, pk_div (by omega) (by omega) (by omega), pk_div (by omega) (by omega) (by omega), n_irm (by omega) (by omega) (by omega), n_irm (by omega) (by omega) (by omega), show (100 : Int32) = nI 100 from rfl, show (10 : Int32) = nI 10 from rfl]
    simp only [nI_1, pk_mul, nI_add]
    unfold cw
    rfl
  rw [ew]
  refine OK.l ?_
  refine OK.b2 (s_laySigns (c := cw t) w2.1 z3 g1) (fun z4 g2 hq => ?_)
  obtain ⟨q3, q4⟩ := hq
  have q3 : z4 = nI (dl (cw t) + 2) := q3
  subst q3
  have hcb := cntA_b (pl := plS P 63 (pT P)) (sp := sp) (sd := sd) (sh := sh) (n := n) t
  refine OK.w2 (fun s y x => x = nI s ∧ y = if agN (plS P 63 (pT P)) sp sd sh (cw t) s then 1 else 0) n ?_ (by omega) ⟨rfl, rfl⟩
  rintro s y x' k2 ⟨rfl, rfl⟩ hs2 hk2
  refine OK.le n s (by omega) (by omega) (fun e2 => ?_) (fun e2 => ?_)
  · have es : s = n := by omega
    subst es
    have ec : cntA (plS P 63 (pT P)) sp sd sh s (t + 1) = cntA (plS P 63 (pT P)) sp sd sh s t + if agN (plS P 63 (pT P)) sp sd sh (cw t) s then 1 else 0 := rfl
    refine OK.j1 (fun b' => (cntA (plS P 63 (pT P)) sp sd sh s (t + 1) = 0 ∧ b' = -9) ∨ (0 < cntA (plS P 63 (pT P)) sp sd sh s (t + 1) ∧ ∃ i, i < t + 1 ∧ agN (plS P 63 (pT P)) sp sd sh (cw i) s = true ∧ (∀ j, j < i → agN (plS P 63 (pT P)) sp sd sh (cw j) s = false) ∧ b' = nI (cw i))) ?_ (fun k3 hk3 => ?_)
    · intro b' hb'
      refine OK.ju1 ?_
      cases ha : agN (plS P 63 (pT P)) sp sd sh (cw t) s with
      | false =>
        refine OK.t rfl (OK.l (hk e _ _ _ _ _ ⟨nI_1 t, ?_, hb'⟩))
        rw [ec, ha]; exact nI_add _ 0
      | true =>
        refine OK.f (by decide) (OK.l (hk e _ _ _ _ _ ⟨nI_1 t, ?_, hb'⟩))
        rw [ec, ha]; exact nI_1 _
    · have hkeep : (agN (plS P 63 (pT P)) sp sd sh (cw t) s = false ∨ 0 < cntA (plS P 63 (pT P)) sp sd sh s t) → OK (k3 b) _ := fun hq => hk3 _ (by
        rcases h1 with ⟨a1, a2⟩ | ⟨a1, i, a2, a3, a4, a5⟩
        · rcases hq with hq | hq
          · left; exact ⟨by rw [ec, hq, a1]; rfl, a2⟩
          · omega
        · right; exact ⟨by omega, i, by omega, a3, a4, a5⟩)
      refine OK.j0 (agN (plS P 63 (pT P)) sp sd sh (cw t) s = false ∨ 0 < cntA (plS P 63 (pT P)) sp sd sh s t) hkeep (fun k4 hk4 => ?_)
      cases ha : agN (plS P 63 (pT P)) sp sd sh (cw t) s with
      | false => exact OK.t rfl (hk4 (Or.inl ha))
      | true =>
        refine OK.f (by decide) ?_
        refine OK.eq (cntA (plS P 63 (pT P)) sp sd sh s t) 0 (by omega) (by omega) (fun q => hk3 _ (Or.inr ⟨by rw [ec, ha]; simp, t, by omega, ha, (cntA_0 t).mp q, rfl⟩)) (fun q => hk4 (Or.inr (by omega)))
  · refine OK.j1 (fun y => y = if agN (plS P 63 (pT P)) sp sd sh (cw t) (s + 1) then 1 else 0) (fun y hy => hk2 e2 _ _ ⟨nI_1 s, hy⟩) (fun k3 hk3 => ?_)
    refine OK.j0 (agN (plS P 63 (pT P)) sp sd sh (cw t) (s + 1) = false) (fun q => hk3 _ (by rw [q]; rfl)) (fun k4 hk4 => ?_)
    cases ha : agN (plS P 63 (pT P)) sp sd sh (cw t) s with
    | false => exact OK.t rfl (hk4 (agN_up ha _ (by omega)))
    | true =>
      refine OK.f (by decide) ?_
      obtain ⟨a1, a2, a3, a4, a5, a6⟩ := hs s e2
      refine OK.rd s rfl (by omega) ?_
      rw [a1]
      refine OK.b1 (s_digitAt (p := sp s) w2 (by omega) q4 q1 hb) (fun r hr => ?_)
      subst hr
      refine OK.rd s rfl (by omega) ?_
      rw [a3]
      have hd4 := digS_b hb (cw t) (sp s)
      refine OK.j1 (fun y => y = if digS (plS P 63 (pT P)) (cw t) (sp s) = sd s then 1 else 0) ?_ (fun k1 hk1 => OK.eq _ _ (by omega) (by omega) (fun q => hk1 _ (by rw [if_pos q])) (fun q => hk1 _ (by rw [if_neg q])))
      rintro y rfl
      refine OK.rd s rfl (by omega) ?_
      rw [a5]
      refine OK.j1 (fun y => y = if sh s = 1 then 1 else 0) ?_ (fun k1 hk1 => OK.eq (sh s) 1 (by omega) (by omega) (fun q => hk1 _ (by rw [if_pos q])) (fun q => hk1 _ (by rw [if_neg q])))
      rintro y rfl
      by_cases q : digS (plS P 63 (pT P)) (cw t) (sp s) = sd s
      · rw [if_pos q]
        by_cases w : sh s = 1
        · rw [if_pos w]; exact OK.t rfl (hk3 _ (by rw [agN, ha, decide_eq_true q, decide_eq_true w]; rfl))
        · rw [if_neg w]; exact OK.f (by decide) (hk4 (by rw [agN, ha, decide_eq_true q, decide_eq_false w]; rfl))
      · rw [if_neg q]
        by_cases w : sh s = 1
        · rw [if_pos w]; exact OK.f (by decide) (hk4 (by rw [agN, ha, decide_eq_false q, decide_eq_true w]; rfl))
        · rw [if_neg w]; exact OK.t rfl (hk3 _ (by rw [agN, ha, decide_eq_false q, decide_eq_false w]; rfl))
