/-! ===== 56.pattern: strings, patterns, what a pattern earns, words asked ===== -/
theorem isF_b {c : Nat} (h : isF c = true) : 1 ≤ c ∧ c ≤ 666 := by
  unfold isF at h
  simp only [Bool.and_eq_true, decide_eq_true_eq] at h
  omega
theorem isS_F {c : Nat} (h : isS c = true) : isF c = true := by
  unfold isS at h
  simp only [Bool.and_eq_true] at h
  exact h.1.1.1
theorem s_nodeOf (x : Int32) : OK (m_X2_nodeOf 3000 x) (fun r => (∃ c, isF c = true ∧ x = nI c ∧ r = nI (nd c)) ∨ ((∀ c, isF c = true → x ≠ nI c) ∧ r = -1)) := by
  by_cases h1 : inB 1 666 x
  · obtain ⟨c, a, b, rfl⟩ := h1
    refine ⟨_, bf_nodeOf c (by omega), ?_⟩
    by_cases h : isF c = true
    · exact Or.inl ⟨c, h, rfl, by rw [if_pos h]⟩
    · refine Or.inr ⟨fun d hd e => ?_, by rw [if_neg h]⟩
      have := isF_b hd
      rw [nI_eq (by omega) (by omega)] at e
      subst e; exact h hd
  · unfold m_X2_nodeOf
    have hno : ∀ c, isF c = true → x ≠ nI c := fun c hc e => h1 ⟨c, (isF_b hc).1, (isF_b hc).2, e⟩
    refine OK.i (fun _ => OK.s (Or.inr ⟨hno, rfl⟩)) (fun a => OK.f (fun b => h1 ((inB_le (by omega) (by omega)).mpr ⟨Int32.not_lt.mp a, b⟩)) (OK.s (Or.inr ⟨hno, rfl⟩)))
theorem s_rAreF (x : Int32) : OK (m_X11_areFigures 3000 x 1 3 6) (fun r => (∃ c, isF c = true ∧ x = nI c ∧ r = 1) ∨ ((∀ c, isF c = true → x ≠ nI c) ∧ r = 0)) := by
  by_cases h0 : x ≤ 0
  · refine (s_areFigures0 h0).mono (fun r hr => Or.inr ⟨fun c hc e => ?_, hr⟩)
    have := isF_b hc
    subst e
    exact nI_nle (by omega) (by omega) h0
  · have hx : ¬ x < 0 := fun q => h0 (Int32.le_of_lt q)
    obtain ⟨c, hc, rfl⟩ := nI_of hx
    have hc0 : 0 < c := by
      rcases Nat.eq_zero_or_pos c with q | q
      · subst q; exact absurd (by decide : nI 0 ≤ 0) h0
      · exact q
    by_cases h1 : c < 1000
    · refine ⟨_, bf_areF c h1, ?_⟩
      by_cases h : isF c = true
      · exact Or.inl ⟨c, h, rfl, by rw [if_pos h]⟩
      · refine Or.inr ⟨fun d hd e => ?_, by rw [if_neg h]⟩
        have := isF_b hd
        rw [nI_eq (by omega) (by omega)] at e
        subst e; exact h hd
    · refine (s_areFigures (lo := 1) (hi := 3) (high := 6) hc hc0 (by omega) (by omega) (by omega)).mono (fun r hr => ?_)
      have h3 : 3 < dl c := by rw [dl_lt hc]; exact Nat.div_pos (by omega) (by omega)
      rcases hr with ⟨_, _, q, _⟩ | ⟨hr, _⟩
      · omega
      · refine Or.inr ⟨fun d hd e => ?_, hr⟩
        have := isF_b hd
        rw [nI_eq (by omega) (by omega)] at e
        omega
theorem s_rIsString (x : Int32) : OK (m_X11_isString 3000 x) (fun r => (∃ c, isS c = true ∧ x = nI c ∧ r = 1) ∨ ((∀ c, isS c = true → x ≠ nI c) ∧ r = 0)) := by
  by_cases h : ∃ c, c < 1000 ∧ x = nI c
  · obtain ⟨c, hc, rfl⟩ := h
    refine ⟨_, bf_isS c hc, ?_⟩
    by_cases h : isS c = true
    · exact Or.inl ⟨c, h, rfl, by rw [if_pos h]⟩
    · refine Or.inr ⟨fun d hd e => ?_, by rw [if_neg h]⟩
      have := isF_b (isS_F hd)
      rw [nI_eq (by omega) (by omega)] at e
      subst e; exact h hd
  · unfold m_X11_isString
    have hno : ∀ c, isF c = true → x ≠ nI c := fun c hc e => h ⟨c, by have := isF_b hc; omega, e⟩
    refine OK.b1 (s_rAreF x) (fun r hr => ?_)
    rcases hr with ⟨c, hc, e, -⟩ | ⟨-, rfl⟩
    · exact absurd e (hno c hc)
    · exact OK.t rfl (OK.s (Or.inr ⟨fun c hc => hno c (isS_F hc), rfl⟩))
theorem isString_m1 : m_X2_isString 3000 (-1) = some 0 := by decide +kernel
theorem s_isStringN {c : Nat} (hc : isF c = true) : OK (m_X2_isString 3000 (nI (nd c))) (fun r => r = if isS c then 1 else 0) := by
  obtain ⟨a, b, d, e⟩ := bf_F c (by have := isF_b hc; omega) hc
  refine ⟨_, bf_isString (nd c) a, ?_⟩
  rw [d]
theorem s_isPattern {c : Nat} (hc : isF c = true) (y : Int32) : OK (m_X2_isPattern 3000 (nI (nd c)) y) (fun r => (isS c = true ∧ inB 0 (dl c) y ∧ r = 1) ∨ (¬ (isS c = true ∧ inB 0 (dl c) y) ∧ r = 0)) := by
  unfold m_X2_isPattern
  obtain ⟨a, b, d, e⟩ := bf_F c (by have := isF_b hc; omega) hc
  have hdl : dl c ≤ 3 := by rw [e]; split; omega; split <;> omega
  refine OK.b1 (s_isStringN hc) (fun r hr => ?_)
  subst hr
  cases hS : isS c with
  | false => exact OK.t rfl (OK.s (Or.inr ⟨fun q => Bool.noConfusion q.1, rfl⟩))
  | true =>
    refine OK.f (by decide) ?_
    refine OK.i (fun h => OK.s (Or.inr ⟨fun q => absurd ((inB_le (by omega) (by omega)).mp q.2).1 (Int32.not_le.mpr h), rfl⟩)) (fun h => ?_)
    refine OK.b1 (Q := fun r => r = nI (dl c)) ⟨_, bf_signsOf (nd c) a, by rw [e]⟩ (fun r hr => ?_)
    subst hr
    refine OK.i (fun h2 => OK.s (Or.inr ⟨fun q => absurd ((inB_le (by omega) (by omega)).mp q.2).2 (Int32.not_le.mpr h2), rfl⟩)) (fun h2 => ?_)
    exact OK.s (Or.inl ⟨rfl, (inB_le (by omega) (by omega)).mpr ⟨Int32.not_lt.mp h, Int32.not_lt.mp h2⟩, rfl⟩)
theorem isPattern_m1 (y : Int32) : OK (m_X2_isPattern 3000 (-1) y) (fun r => r = 0) := by
  unfold m_X2_isPattern
  exact OK.b1 (Q := fun r => r = 0) ⟨_, isString_m1, rfl⟩ (fun r hr => OK.t hr (OK.s rfl))
theorem s_levelOf {n g : Nat} (hn : n < 343) (hg : g ≤ 3) {numbers levels : Nat → Int32} {pl : Nat → Nat} (h : lvlR numbers levels pl) : OK (m_X5_levelOf 3000 (nI n) (nI g) levels numbers) (fun r => r = nI (pl (4 * n + g))) := by
  unfold m_X5_levelOf
  rw [show nI n * 4 + nI g = nI (4 * n + g) by rw [show (4 : Int32) = nI 4 from rfl, pk_mul, nI_add, Nat.mul_comm]]
  exact OK.b1 (s_levelByCode (by omega) h) (fun r hr => OK.s hr)
/-! ## without a string -/
def plW (pl : Nat → Nat) (n : Nat) (k : Nat) : Nat := if k / 4 = n then 0 else pl k
theorem plW_b {pl : Nat → Nat} (hb : ∀ k, pl k ≤ 4) (n : Nat) : ∀ k, plW pl n k ≤ 4 := fun k => by unfold plW; split; omega; exact hb k
theorem s_digitWithout {W : Nat} {L : Nat → Nat} (hL : lsOK W L) {m : Nat} {cd st : Nat → Nat} {known : Int32} {numbers codes fits starts : Nat → Int32} (hn : nmR m cd known numbers codes) (hx : ixR W L m cd st fits starts) {pl : Nat → Nat} (hb : ∀ k, pl k ≤ 4) {levels : Nat → Int32} (hl : jabR m levels (fun j => pl (cd j))) {w p n : Nat} (hw : w < W) (hp : p + 2 ≤ dl (L w)) (hnd : n < 343) :
    OK (m_X5_digitWithout 3000 (nI (w * 5 + p)) (nI n) fits codes levels) (fun r => r = nI (digS (plW pl n) (L w) p)) := by
  unfold m_X5_digitWithout
  obtain ⟨ok, d2, d6⟩ := hL.w hw
  have hW := hL.1
  have hm := hx.1
  refine OK.w2 (fun t x y => x = nI (mxT (plW pl n) (L w) p t) ∧ y = nI t) 9 ?_ (by omega) ⟨rfl, rfl⟩
  rintro t x y k ⟨rfl, rfl⟩ ht hk
  refine OK.le 9 t (by omega) (by omega) (fun h => OK.s (by rw [show t = 9 by omega]; rfl)) (fun h => ?_)
  refine OK.rd ((w * 5 + p) * 9 + t) (by rw [show (9 : Int32) = nI 9 from rfl, pk_mul, nI_add]) (by omega) ?_
  obtain ⟨e1, e2⟩ := hx.2.2.2.2.2.2 w hw p hp t h
  have hmb := mxT_b (plW_b hb n) (L w) p t
  rcases pf_dec (L w) p t with q | q
  · obtain ⟨j, hj, e3, e4⟩ := e1 q
    rw [e3]
    refine OK.lt j 0 (by omega) (by omega) (fun h => by omega) (fun _ => ?_)
    refine OK.rd j rfl (by omega) ?_
    obtain ⟨c1, c2, c3⟩ := hn.2.2.1 j hj
    rw [c1, show (4 : Int32) = nI 4 from rfl, pk_div (by omega) (by omega) (by omega)]
    have hpb := hb (cd j)
    refine OK.eq (cd j / 4) n (by omega) (by omega) (fun h9 => ?_) (fun h9 => ?_)
    · refine hk h _ _ ⟨?_, nI_1 t⟩
      rw [mxT_t q, ← e4, show plW pl n (cd j) = 0 from if_pos h9, Nat.max_zero]
    · refine OK.rd j rfl (by omega) ?_
      rw [hl j hj]
      refine OK.l ?_
      rw [n_imax (by omega) (by show pl (cd j) < _; omega), nI_1]
      refine hk h _ _ ⟨?_, rfl⟩
      rw [mxT_t q, ← e4, show plW pl n (cd j) = pl (cd j) from if_neg h9]
  · rw [e2 q]
    refine OK.t (by decide) (hk h _ _ ⟨?_, nI_1 t⟩)
    rw [mxT_f q]
theorem n_and1 : ∀ d, d < 5 → nI d &&& 1 = nI (d % 2) := by decide +kernel
theorem s_rightWithout {P : Pg} (hP : pgOK P) {m : Nat} {cd st : Nat → Nat} {known : Int32} {numbers codes fits starts : Nat → Int32} (hn : nmR m cd known numbers codes) (hx : ixR (pW P) (pL P) m cd st fits starts) {pl : Nat → Nat} (hb : ∀ k, pl k ≤ 4) {levels : Nat → Int32} (hl : jabR m levels (fun j => pl (cd j))) {words : Int32} {sizes breaks : Nat → Int32} (hwd : words = nI (pW P)) (hsz : ∀ w, w < pW P → sizes w = nI (dl (pL P w))) (hbr : ∀ w, w < pW P → breaks w = nI (pB P w)) {n : Nat} (hnd : n < 343) :
    OK (m_X5_rightWithout 3000 (nI n) words sizes levels fits codes breaks) (fun r => r = nI (RT P (plW pl n))) := by
  unfold m_X5_rightWithout
  subst hwd
  have hW := hP.1.1
  refine OK.w2 (fun t x y => x = nI (sumN (rtW P (plW pl n)) t) ∧ y = nI t) (pW P) ?_ (by omega) ⟨rfl, rfl⟩
  rintro t x y k ⟨rfl, rfl⟩ ht hk
  refine OK.le (pW P) t (by omega) (by omega) (fun h => OK.s (by rw [show t = pW P by omega]; rfl)) (fun h => ?_)
  obtain ⟨ok, d2, d6⟩ := hP.1.w h
  have hB := hP.b h
  refine OK.w2 (fun s x y => x = nI (sumN (rtW P (plW pl n)) t + sumN (fun p => if digS (plW pl n) (pL P t) p % 2 = bitB (pB P) t p then 1 else 0) s) ∧ y = nI s) (dl (pL P t) - 1) ?_ (by omega) ⟨rfl, rfl⟩
  rintro s x y k2 ⟨rfl, rfl⟩ hs hk2
  refine OK.rd t rfl (by omega) ?_
  rw [hsz t h, n_sub1 (by omega)]
  refine OK.le (dl (pL P t) - 1) s (by omega) (by omega) (fun e => ?_) (fun e => ?_)
  · refine hk h _ _ ⟨?_, nI_1 t⟩
    rw [show s = dl (pL P t) - 1 by omega]; rfl
  · rw [show nI t * 5 + nI s = nI (t * 5 + s) by rw [show (5 : Int32) = nI 5 from rfl, pk_mul, nI_add]]
    refine OK.b1 (s_digitWithout hP.1 hn hx hb hl h (p := s) (by omega) hnd) (fun r hr => ?_)
    subst hr
    refine OK.l ?_
    have hd4 := digS_b (plW_b hb n) (pL P t) s
    rw [n_and1 _ (by omega)]
    refine OK.rd t rfl (by omega) ?_
    rw [hbr t h, bit_at (by omega) (by omega)]
    refine OK.eq _ _ (by omega) (by omega) (fun q => ?_) (fun q => ?_)
    · refine hk2 e _ _ ⟨?_, nI_1 s⟩
      rw [nI_1]
      show _ = nI (_ + (sumN _ s + if digS (plW pl n) (pL P t) s % 2 = bitB (pB P) t s then 1 else 0))
      rw [if_pos (show digS (plW pl n) (pL P t) s % 2 = bitB (pB P) t s from q)]; rfl
    · refine hk2 e _ _ ⟨?_, nI_1 s⟩
      show _ = nI (_ + (sumN _ s + if digS (plW pl n) (pL P t) s % 2 = bitB (pB P) t s then 1 else 0))
      rw [if_neg (show ¬ digS (plW pl n) (pL P t) s % 2 = bitB (pB P) t s from q)]; rfl
/-! ## words of three and of four letters -/
theorem wd3 {a b c : Nat} (ha : a < 5) (hb : b < 5) (hc : c < 5) : dl (100 * (a + 1) + 10 * (b + 1) + c + 1) = 3 ∧ okW (100 * (a + 1) + 10 * (b + 1) + c + 1) := by
  have f0 : figs 5 0 := fun t ht => absurd ht (Nat.not_lt_zero _)
  obtain ⟨p1, q1⟩ := dl_push (c := 0) (d := a + 1) (by omega) (by omega) (by omega) f0
  obtain ⟨p2, q2⟩ := dl_push (c := 10 * 0 + (a + 1)) (d := b + 1) (by omega) (by omega) (by omega) q1
  obtain ⟨p3, q3⟩ := dl_push (c := 10 * (10 * 0 + (a + 1)) + (b + 1)) (d := c + 1) (by omega) (by omega) (by omega) q2
  rw [show 10 * (10 * (10 * 0 + (a + 1)) + (b + 1)) + (c + 1) = 100 * (a + 1) + 10 * (b + 1) + c + 1 by omega] at p3 q3
  exact ⟨by rw [p3, p2, p1]; rfl, by omega, q3⟩
theorem wd4 {a b c d : Nat} (ha : a < 5) (hb : b < 5) (hc : c < 5) (hd : d < 5) : dl (1000 * (a + 1) + 100 * (b + 1) + 10 * (c + 1) + d + 1) = 4 ∧ okW (1000 * (a + 1) + 100 * (b + 1) + 10 * (c + 1) + d + 1) := by
  obtain ⟨p, q⟩ := wd3 ha hb hc
  obtain ⟨p3, q3⟩ := dl_push (d := d + 1) (by omega) (by omega) (by omega) q.2
  rw [show 10 * (100 * (a + 1) + 10 * (b + 1) + c + 1) + (d + 1) = 1000 * (a + 1) + 100 * (b + 1) + 10 * (c + 1) + d + 1 by omega] at p3 q3
  exact ⟨by rw [p3, p], by omega, q3⟩
theorem spelt_of {c : Nat} {g : Nat → Int32} (h : ∀ k, k ≤ dl c + 1 → g k = nI (sg c k)) : spelt c g := h
theorem lush33 (z : Int64) : z.toBitVec.toNat / 2 ^ 33 < 2147483648 ∧ (lush z 33).toInt32 = nI (z.toBitVec.toNat / 2 ^ 33) := by
  refine ⟨?_, ?_⟩
  · have := z.toBitVec.isLt
    omega
  · apply Int32.toBitVec_inj.mp
    apply BitVec.eq_of_toNat_eq
    have e : ((33 : Int32).toInt64.toUInt64 &&& Int64.toUInt64 63) = 33 := by decide
    unfold lush
    rw [e]
    have := z.toUInt64.toNat_lt
    simp
    rw [BitVec.signExtend_eq_setWidth_of_le _ (by decide)]
    have h64 := z.toBitVec.isLt
    simp [BitVec.toNat_setWidth, Nat.shiftRight_eq_div_pow]
    rw [pk_tn (by omega), Nat.mod_eq_of_lt (by omega)]
def dwc (B : Nat) : Nat := 1000 * (B % 5 + 1) + 100 * (B / 8 % 5 + 1) + 10 * (B / 64 % 5 + 1) + B / 512 % 5 + 1
theorem dwc_w (B : Nat) : dl (dwc B) = 4 ∧ okW (dwc B) := wd4 (Nat.mod_lt _ (by omega)) (Nat.mod_lt _ (by omega)) (Nat.mod_lt _ (by omega)) (Nat.mod_lt _ (by omega))
def dSum (pl : Nat → Nat) (c : Nat) : Nat → Nat := sumN (fun p => digS pl c p)
theorem s_digitsOfDrawn {B : Nat} (hB : B < 2147483648) {numbers levels : Nat → Int32} {pl : Nat → Nat} (hpl : lvlR numbers levels pl) (hb : ∀ k, pl k ≤ 4) (z : Int32) (f : Nat → Int32) : OK (m_X10_digitsOfDrawn 3000 (nI B) z f levels numbers) (fun u => u.1 = nI (dSum pl (dwc B) 3)) := by
  unfold m_X10_digitsOfDrawn
  refine OK.w2 (fun t x y => x = nI (match t with | 0 => 0 | 1 => B % 5 + 1 | 2 => 10 * (B % 5 + 1) + (B / 8 % 5 + 1) | 3 => 100 * (B % 5 + 1) + 10 * (B / 8 % 5 + 1) + (B / 64 % 5 + 1) | _ => dwc B) ∧ y = nI t) 4 ?_ (by omega) ⟨rfl, rfl⟩
  rintro t x y k ⟨rfl, rfl⟩ ht hk
  refine OK.le 4 t (by omega) (by omega) (fun h => ?_) (fun h => ?_)
  · have et : t = 4 := by omega
    subst et
    obtain ⟨w1, w2⟩ := dwc_w B
    have hsp := s_spell (c := dwc B) w2.1 z f
    rw [w1] at hsp
    refine OK.b2 hsp (fun z1 f1 hq => ?_)
    obtain ⟨q1, q2⟩ := hq
    have q1 : z1 = nI 4 := q1
    have q2 : ∀ k, k ≤ 4 + 1 → f1 k = nI (sg (dwc B) k) := q2
    have hs : spelt (dwc B) f1 := by intro k hk; rw [w1] at hk; exact q2 k hk
    rw [q1]
    refine OK.w2 (fun s x y => x = nI (dSum pl (dwc B) s) ∧ y = nI s) 3 ?_ (by omega) ⟨rfl, rfl⟩
    rintro s x y k2 ⟨rfl, rfl⟩ hs2 hk2
    refine OK.le 3 s (by omega) (by omega) (fun e => OK.s (by show nI _ = _; rw [show s = 3 by omega])) (fun e => ?_)
    have hdg := s_digitOfSpelt (p := s) w2 (by omega) hs hpl hb
    rw [w1] at hdg
    refine OK.b1 hdg (fun r hr => ?_)
    subst hr
    refine OK.l ?_
    rw [nI_add, nI_1]
    exact hk2 e _ _ ⟨rfl, rfl⟩
  · have key : ∀ i, i < 4 → irm (nI B >>> ((3 * nI i) &&& 31)) 5 = nI (B / 8 ^ i % 5) := by
      intro i hi
      rw [show (3 : Int32) * nI i = nI (3 * i) by rw [show (3 : Int32) = nI 3 from rfl, pk_mul], pk_shrN hB _ (3 * i) (sh_am _ (by omega)), show (5 : Int32) = nI 5 from rfl, n_irm (Nat.lt_of_le_of_lt (Nat.div_le_self _ _) hB) (by omega) (by omega), Nat.pow_mul]
    refine OK.l ?_
    rw [key t h]
    have h4 : t = 0 ∨ t = 1 ∨ t = 2 ∨ t = 3 := by omega
    rcases h4 with e | e | e | e <;> subst e
    · refine hk h _ _ ⟨?_, nI_1 _⟩
      show nI 0 * nI 10 + nI (B / 8 ^ 0 % 5) + 1 = nI (B % 5 + 1)
      rw [pk_mul, nI_add, nI_1, Nat.pow_zero, Nat.div_one]; congr 1; omega
    · refine hk h _ _ ⟨?_, nI_1 _⟩
      show nI (B % 5 + 1) * nI 10 + nI (B / 8 ^ 1 % 5) + 1 = nI (10 * (B % 5 + 1) + (B / 8 % 5 + 1))
      rw [pk_mul, nI_add, nI_1, Nat.pow_one]; congr 1; omega
    · refine hk h _ _ ⟨?_, nI_1 _⟩
      show nI (10 * (B % 5 + 1) + (B / 8 % 5 + 1)) * nI 10 + nI (B / 8 ^ 2 % 5) + 1 = nI (100 * (B % 5 + 1) + 10 * (B / 8 % 5 + 1) + (B / 64 % 5 + 1))
      rw [pk_mul, nI_add, nI_1, show (8 : Nat) ^ 2 = 64 from rfl]; congr 1; omega
    · refine hk h _ _ ⟨?_, nI_1 _⟩
      show nI (100 * (B % 5 + 1) + 10 * (B / 8 % 5 + 1) + (B / 64 % 5 + 1)) * nI 10 + nI (B / 8 ^ 3 % 5) + 1 = nI (dwc B)
      rw [pk_mul, nI_add, nI_1, show (8 : Nat) ^ 3 = 512 from rfl]; unfold dwc; congr 1; omega
/-! ## the seeds -/
def sdN (z : Int64) : Int64 := z * 6364136223846793005 + 1442695040888963407
def sdW (z : Int64) (B : Nat) : Prop := B < 2147483648 ∧ (lush (sdN z) 33).toInt32 = nI B
def sdI (z : Int64) : Nat → Int64
  | 0 => z
  | i + 1 => sdN (sdI z i)
def sdB (z : Int64) (i : Nat) : Nat := (sdI z (i + 1)).toBitVec.toNat / 2 ^ 33
theorem sdB_e (z : Int64) (i : Nat) : sdB z i < 2147483648 ∧ (lush (sdI z (i + 1)) 33).toInt32 = nI (sdB z i) := lush33 (sdI z (i + 1))
def drS (pl : Nat → Nat) (z : Int64) : Nat → Nat := sumN (fun i => dSum pl (dwc (sdB z i)) 3)
theorem s_cDrawn {n : Nat} (h1 : 1 ≤ n) (h2 : n ≤ 20) {numbers levels : Nat → Int32} {pl : Nat → Nat} (hpl : lvlR numbers levels pl) (hb : ∀ k, pl k ≤ 4) (sd : Int64) (z : Int32) (f : Nat → Int32) : OK (m_X10_drawn 3000 (nI n) sd z f numbers levels) (fun u => u.1 = nI (drS pl sd n) ∧ u.2.1 = sdI sd n) := by
  unfold m_X10_drawn
  refine OK.lt n 1 (by omega) (by omega) (fun h => by omega) (fun _ => ?_)
  refine OK.le n 20 (by omega) (by omega) (fun _ => ?_) (fun h => by omega)
  refine OK.w5 (fun t x y a _ _ => x = nI (drS pl sd t) ∧ y = nI t ∧ a = sdI sd t) n ?_ (by omega) ⟨rfl, rfl, rfl⟩
  rintro t x y a z1 f1 k ⟨rfl, rfl, rfl⟩ ht hk
  refine OK.le n t (by omega) (by omega) (fun h => OK.s (by rw [show t = n by omega]; exact ⟨rfl, rfl⟩)) (fun h => ?_)
  refine OK.l ?_
  obtain ⟨e1, e2⟩ := sdB_e sd t
  rw [show sdI sd t * 6364136223846793005 + 1442695040888963407 = sdI sd (t + 1) from rfl, e2]
  refine OK.b3 (s_digitsOfDrawn e1 hpl hb z1 f1) (fun r z2 f2 hq => ?_)
  have hq : r = nI (dSum pl (dwc (sdB sd t)) 3) := hq
  subst hq
  refine OK.l ?_
  rw [nI_add, nI_1]
  exact hk h _ _ _ _ _ ⟨rfl, rfl, rfl⟩
theorem s_rDrawn {P : Pg} (hP : pgOK P) {p1 : Nat → Int32} (hp : pageR P p1) {n : Nat} (h1 : 1 ≤ n) (h2 : n ≤ 20) (th : Int32) (sd : Int64) (z : Int32) (plan sg_ dg gd_ bd_ : Nat → Int32) : OK (m_X11_drawn 3000 (nI n) th sd z p1 plan sg_ dg gd_ bd_) (fun u => u.1 = nI (drS (plS P 63 (pT P)) sd n) ∧ u.2.2.1 = sdI sd n) := by
  unfold m_X11_drawn
  refine OK.b1 (s_inB (a := 1) (b := 20) (by omega) (by omega) (nI n)) (fun r hr => ?_)
  rcases hr with ⟨-, rfl⟩ | ⟨hr, -⟩
  rotate_left
  · exact absurd ⟨n, h1, h2, rfl⟩ hr
  refine OK.f (by decide) ?_
  have hb := plS_4 hP 63
  refine OK.b6 (s_learnAll hP hp z plan sg_ dg gd_ bd_) (fun z1 f2 f3 f4 f5 f6 hq => ?_)
  obtain ⟨q1, -⟩ := hq
  have q1 : tabR f2 (plS P 63 (pT P)) := q1
  refine OK.w5 (fun t x y a _ _ => x = nI (drS (plS P 63 (pT P)) sd t) ∧ y = nI t ∧ a = sdI sd t) n ?_ (by omega) ⟨rfl, rfl, rfl⟩
  rintro t x y a z1 g k ⟨rfl, rfl, rfl⟩ ht hk
  refine OK.le n t (by omega) (by omega) (fun h => OK.s (by rw [show t = n by omega]; exact ⟨rfl, rfl⟩)) (fun h => ?_)
  refine OK.l ?_
  obtain ⟨e1, e2⟩ := sdB_e sd t
  rw [show sdI sd t * 6364136223846793005 + 1442695040888963407 = sdI sd (t + 1) from rfl]
  refine OK.l ?_
  rw [e2]
  obtain ⟨w1, w2⟩ := dwc_w (sdB sd t)
  have hv : ∀ d, 0 < d → d < 2147483648 → irm (nI (sdB sd t) / nI d) 5 = nI (sdB sd t / d % 5) := by
    intro d h0 hd
    rw [pk_div e1 h0 hd, show (5 : Int32) = nI 5 from rfl, n_irm (Nat.lt_of_le_of_lt (Nat.div_le_self _ _) e1) (by omega) (by omega)]
  have ew : (((((1000 * ((irm (nI (sdB sd t)) 5) + 1)) + (100 * ((irm (nI (sdB sd t) / 8) 5) + 1))) + (10 * ((irm (nI (sdB sd t) / 64) 5) + 1))) + (irm (nI (sdB sd t) / 512) 5)) + 1 : Int32) = nI (dwc (sdB sd t)) := by
    rw [show (8 : Int32) = nI 8 from rfl, show (64 : Int32) = nI 64 from rfl, show (512 : Int32) = nI 512 from rfl, hv 8 (by omega) (by omega), hv 64 (by omega) (by omega), hv 512 (by omega) (by omega), show (5 : Int32) = nI 5 from rfl, n_irm e1 (by omega) (by omega)]
    rw [show (1000 : Int32) = nI 1000 from rfl, show (100 : Int32) = nI 100 from rfl, show (10 : Int32) = nI 10 from rfl]
    simp only [nI_1, pk_mul, nI_add]
    rfl
  rw [ew]
  have hsp := s_laySigns (c := dwc (sdB sd t)) w2.1 z1 g
  refine OK.b2 hsp (fun z2 g2 hq => ?_)
  obtain ⟨q3, q4⟩ := hq
  have q3 : z2 = nI (dl (dwc (sdB sd t)) + 2) := q3
  subst q3
  refine OK.w2 (fun s x y => x = nI (drS (plS P 63 (pT P)) sd t + dSum (plS P 63 (pT P)) (dwc (sdB sd t)) s) ∧ y = nI s) 3 ?_ (by omega) ⟨rfl, rfl⟩
  rintro s x y k2 ⟨rfl, rfl⟩ hs2 hk2
  refine OK.le 3 s (by omega) (by omega) (fun e => hk h _ _ _ _ _ ⟨by rw [show s = 3 by omega]; rfl, nI_1 t, rfl⟩) (fun e => ?_)
  refine OK.b1 (s_digitAt (p := s) w2 (by omega) q4 q1 hb) (fun r hr => ?_)
  subst hr
  refine OK.l ?_
  rw [nI_add, nI_1]
  exact hk2 e _ _ ⟨by rw [Nat.add_assoc]; rfl, rfl⟩
