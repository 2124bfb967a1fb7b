/-! ===== 44.codes: patterns at a place, digits ===== -/
def sS (t : Nat) : Nat := [1, 1, 2, 2, 2, 3, 3, 3, 3].getD t 0
def sG (t : Nat) : Nat := [0, 1, 0, 1, 2, 0, 1, 2, 3].getD t 0
theorem kS_n : ∀ t, t < 9 → kSigns t = nI (sS t) := by decide +kernel
theorem kG_n : ∀ t, t < 9 → kGap t = nI (sG t) := by decide +kernel
theorem sSG : ∀ t, t < 9 → 1 ≤ sS t ∧ sS t ≤ 3 ∧ sG t ≤ sS t := by decide +kernel
/-- does the t-th shape fit a place p of a word; its code there -/
def pf (c p t : Nat) : Prop := sG t ≤ p + 2 ∧ p + 2 - sG t + sS t ≤ dl c + 2
def pcd (c p t : Nat) : Nat := strv (sg c) (p + 2 - sG t) (sS t) * 4 + sG t
theorem pf_dec (c p t : Nat) : pf c p t ∨ ¬ pf c p t := Classical.em _
/-- what holds of a row that spells a word -/
def spelt (c : Nat) (f : Nat → Int32) : Prop := ∀ k, k ≤ dl c + 1 → f k = nI (sg c k)
/-- a word that the machine may meet: at most six figures, none above 5 -/
def okW (c : Nat) : Prop := c < 1000000 ∧ figs 5 c
theorem isW.ok {c : Nat} (hc : c < 2147483648) (h : isW c) : okW c := ⟨by have := isW_b hc h; omega, h.2.2⟩
theorem okW.sg {c : Nat} (h : okW c) (k : Nat) : sg c k ≤ 6 := sg_b (by have := h.1; omega) (by omega) h.2 k
theorem strv3 {s : Nat → Nat} (hs : ∀ k, s k ≤ 6) (a : Nat) {n : Nat} (hn : n ≤ 3) : strv s a n < 343 := by
  have h1 := strv_b hs a n
  have h2 : 7 ^ n ≤ 7 ^ 3 := Nat.pow_le_pow_right (by omega) hn
  omega
theorem pcd_b {c : Nat} (h : okW c) (p : Nat) {t : Nat} (ht : t < 9) : pcd c p t < 1372 := by
  unfold pcd
  have h1 := strv3 h.sg (p + 2 - sG t) (sSG t ht).2.1
  have h2 := sSG t ht
  omega
theorem s_codeAt {c p t : Nat} (hw : okW c) (hp : p < 100) (ht : t < 9) {f : Nat → Int32} (hf : spelt c f) :
    OK (m_X3_codeAt 3000 (nI p) (nI t) (nI (dl c)) f) (fun r => (pf c p t ∧ r = nI (pcd c p t)) ∨ (¬ pf c p t ∧ r = -1)) := by
  unfold m_X3_codeAt
  have hd := dl_6 hw.1
  obtain ⟨s1, s2, s3⟩ := sSG t ht
  refine OK.rd t rfl ht ?_
  rw [kG_n t ht]
  refine OK.l ?_
  refine OK.rd t rfl ht ?_
  rw [kS_n t ht]
  refine OK.l ?_
  by_cases h0 : sG t ≤ p + 2
  · rw [show nI p + 2 - nI (sG t) = nI (p + 2 - sG t) by rw [show nI p + 2 = nI (p + 2) from nI_add p 2, pk_sub h0], nI_add, show nI (dl c) + 2 = nI (dl c + 2) from nI_add _ 2]
    refine OK.lt (p + 2 - sG t) 0 (by omega) (by omega) (fun h => by omega) (fun _ => ?_)
    refine OK.le (p + 2 - sG t + sS t) (dl c + 2) (by omega) (by omega) (fun h1 => ?_) (fun h1 => OK.s (Or.inr ⟨fun q => ?_, rfl⟩))
    · refine OK.w2 (fun i a b => a = nI (strv (sg c) (p + 2 - sG t) i) ∧ b = nI (p + 2 - sG t + i)) (sS t) ?_ (by omega) ⟨rfl, rfl⟩
      rintro i a b k ⟨rfl, rfl⟩ hi hk
      have hb := strv3 hw.sg (p + 2 - sG t) (n := i) (by omega)
      refine OK.le (p + 2 - sG t + sS t) (p + 2 - sG t + i) (by omega) (by omega) (fun h2 => OK.s (Or.inl ⟨⟨h0, h1⟩, ?_⟩)) (fun h2 => ?_)
      · rw [show i = sS t by omega]
        unfold pcd
        rw [show (4 : Int32) = nI 4 from rfl, pk_mul, nI_add]
      · refine OK.rd (p + 2 - sG t + i) rfl (by omega) ?_
        rw [hf _ (by omega)]
        refine OK.l (hk (by omega) _ _ ⟨?_, ?_⟩)
        · rw [show (7 : Int32) = nI 7 from rfl, pk_mul, nI_add, strv, Nat.mul_comm]
        · rw [nI_1]; rfl
    · exact absurd q.2 (by omega)
  · refine OK.t ?_ (OK.s (Or.inr ⟨fun q => h0 q.1, rfl⟩))
    rw [show nI p + 2 = nI (p + 2) from nI_add p 2]
    exact pk_sneg (by omega) (by omega)
theorem s_stringAt {c a n : Nat} (hw : okW c) {f : Nat → Int32} (hf : spelt c f) (h : a + n ≤ dl c + 2) (hn : n ≤ 3) : OK (m_X11_stringAt 3000 (nI a) (nI n) f) (fun r => r = nI (strv (sg c) a n)) := by
  unfold m_X11_stringAt
  have hd := dl_6 hw.1
  refine OK.w2 (fun i x y => x = nI (strv (sg c) a i) ∧ y = nI i) n ?_ (by omega) ⟨rfl, rfl⟩
  rintro i x y k ⟨rfl, rfl⟩ hi hk
  have hb := strv3 hw.sg a (n := i) (by omega)
  refine OK.le n i (by omega) (by omega) (fun h2 => OK.s (by rw [show i = n by omega])) (fun h2 => ?_)
  refine OK.rd (a + i) (nI_add _ _) (by omega) ?_
  rw [hf _ (by omega)]
  refine OK.l (hk (by omega) _ _ ⟨?_, nI_1 i⟩)
  rw [show (7 : Int32) = nI 7 from rfl, pk_mul, nI_add, strv]
/-- no pattern is a full stop alone, at a place of a word -/
theorem str_n6 {c p t : Nat} (hw : okW c) (ht : t < 9) (hp : p + 2 ≤ dl c) (h : pf c p t) : strv (sg c) (p + 2 - sG t) (sS t) ≠ 6 := by
  have hs := hw.2
  have g1 : ∀ k, 1 ≤ k → k ≤ dl c → 1 ≤ sg c k ∧ sg c k ≤ 5 := fun k h0 h1 => sg_1 hs (by omega) h1
  have g0 : sg c 0 = 6 := rfl
  have g2 : sg c (dl c + 1) = 6 := by unfold sg; rw [if_neg (by omega), if_pos rfl]
  have gp : ∀ k, k ≤ dl c + 1 → 1 ≤ sg c k := by
    intro k hk
    by_cases h0 : k = 0
    · subst h0; omega
    · by_cases h1 : k = dl c + 1
      · subst h1; omega
      · exact (g1 k (by omega) (by omega)).1
  have hcase : ∀ t, t < 9 → (sS t = 1 ∧ sG t ≤ 1) ∨ sS t = 2 ∨ sS t = 3 := by decide +kernel
  obtain ⟨q1, q2⟩ := h
  rcases hcase t ht with ⟨e1, e2⟩ | e1 | e1
  · rw [e1]
    have := g1 (p + 2 - sG t) (by omega) (by omega)
    simp only [strv, Nat.add_zero]
    omega
  · rw [e1] at q2 ⊢
    have := gp (p + 2 - sG t + 0) (by omega)
    simp only [strv]
    omega
  · rw [e1] at q2 ⊢
    have := gp (p + 2 - sG t + 0) (by omega)
    simp only [strv]
    omega
theorem s_fits {c p t : Nat} (hw : okW c) (hp : p + 2 ≤ dl c) (ht : t < 9) {f : Nat → Int32} (hf : spelt c f) :
    OK (m_X11_fits 3000 (nI p) (nI (sS t)) (nI (sG t)) (nI (dl c + 2)) f) (fun r => (pf c p t ∧ r = nI (pcd c p t)) ∨ (¬ pf c p t ∧ r = -9)) := by
  unfold m_X11_fits
  have hd := dl_6 hw.1
  obtain ⟨s1, s2, s3⟩ := sSG t ht
  refine OK.l ?_
  by_cases h0 : sG t ≤ p + 2
  · rw [show nI p + 2 - nI (sG t) = nI (p + 2 - sG t) by rw [show nI p + 2 = nI (p + 2) from nI_add p 2, pk_sub h0], nI_add]
    refine OK.lt (p + 2 - sG t) 0 (by omega) (by omega) (fun h => by omega) (fun _ => ?_)
    refine OK.le (p + 2 - sG t + sS t) (dl c + 2) (by omega) (by omega) (fun h1 => ?_) (fun h1 => OK.s (Or.inr ⟨fun q => absurd q.2 (by omega), rfl⟩))
    refine OK.b1 (s_stringAt hw hf h1 s2) (fun r hr => ?_)
    subst hr
    have hb := strv3 hw.sg (p + 2 - sG t) (n := sS t) s2
    refine OK.eq _ 6 (by omega) (by omega) (fun h => absurd h (str_n6 hw ht hp ⟨h0, h1⟩)) (fun _ => OK.s (Or.inl ⟨⟨h0, h1⟩, ?_⟩))
    unfold pcd
    rw [show (4 : Int32) = nI 4 from rfl, pk_mul, nI_add, Nat.mul_comm]
  · refine OK.t ?_ (OK.s (Or.inr ⟨fun q => h0 q.1, rfl⟩))
    rw [show nI p + 2 = nI (p + 2) from nI_add p 2]
    exact pk_sneg (by omega) (by omega)
/-! ## the greatest level at a place -/
def pfb (c p t : Nat) : Bool := decide (sG t ≤ p + 2) && decide (p + 2 - sG t + sS t ≤ dl c + 2)
theorem pfb_t {c p t : Nat} (h : pf c p t) : pfb c p t = true := by simp only [pfb, Bool.and_eq_true, decide_eq_true_eq]; exact h
theorem pfb_f {c p t : Nat} (h : ¬ pf c p t) : pfb c p t = false := by
  cases hb : pfb c p t with
  | false => rfl
  | true =>
    simp only [pfb, Bool.and_eq_true, decide_eq_true_eq] at hb
    exact absurd hb h
def mxT (pl : Nat → Nat) (c p : Nat) : Nat → Nat
  | 0 => 0
  | t + 1 => bif pfb c p t then max (mxT pl c p t) (pl (pcd c p t)) else mxT pl c p t
theorem mxT_t {pl : Nat → Nat} {c p t : Nat} (h : pf c p t) : mxT pl c p (t + 1) = max (mxT pl c p t) (pl (pcd c p t)) := by rw [mxT, pfb_t h]; rfl
theorem mxT_f {pl : Nat → Nat} {c p t : Nat} (h : ¬ pf c p t) : mxT pl c p (t + 1) = mxT pl c p t := by rw [mxT, pfb_f h]; rfl
def digS (pl : Nat → Nat) (c p : Nat) : Nat := mxT pl c p 9
theorem mxT_b {pl : Nat → Nat} {M : Nat} (h : ∀ k, pl k ≤ M) (c p : Nat) : ∀ t, mxT pl c p t ≤ M
  | 0 => Nat.zero_le _
  | t + 1 => by
    have h1 := mxT_b h c p t
    have h2 := h (pcd c p t)
    rcases pf_dec c p t with q | q
    · rw [mxT_t q]; omega
    · rw [mxT_f q]; exact h1
theorem n_imax {a b : Nat} (ha : a < 2147483648) (hb : b < 2147483648) : imax (nI a) (nI b) = nI (max a b) := by
  show (if nI a < nI b then nI b else nI a) = _
  by_cases h : a < b
  · rw [if_pos ((nI_ltI ha hb).mpr h), Nat.max_eq_right (by omega)]
  · rw [if_neg (fun q => h ((nI_ltI ha hb).mp q)), Nat.max_eq_left (by omega)]
/-- a table of levels by code, for a plan -/
def tabR (f : Nat → Int32) (pl : Nat → Nat) : Prop := ∀ k, k < 1372 → f k = nI (pl k)
theorem s_digitAt {c p : Nat} (hw : okW c) (hp : p + 2 ≤ dl c) {f : Nat → Int32} (hf : spelt c f) {plan : Nat → Int32} {pl : Nat → Nat} (hpl : tabR plan pl) (hb : ∀ k, pl k ≤ 4) :
    OK (m_X11_digitAt 3000 (nI p) (nI (dl c + 2)) f plan) (fun r => r = nI (digS pl c p)) := by
  unfold m_X11_digitAt
  refine OK.w2 (fun i x y => x = nI (mxT pl c p ((i + 1) * (i + 2) / 2 - 1)) ∧ y = nI (i + 1)) 3 ?_ (by omega) ⟨rfl, rfl⟩
  rintro i x y k ⟨rfl, rfl⟩ hi hk
  refine OK.le 4 (i + 1) (by omega) (by omega) (fun h2 => OK.s ?_) (fun h2 => ?_)
  · have : i = 3 := by omega
    subst this; rfl
  refine OK.w2 (fun j x y => x = nI (mxT pl c p ((i + 1) * (i + 2) / 2 - 1 + j)) ∧ y = nI j) (i + 2) ?_ (by omega) ⟨rfl, rfl⟩
  rintro j x y k2 ⟨rfl, rfl⟩ hj hk2
  refine OK.lt (i + 1) j (by omega) (by omega) (fun h3 => ?_) (fun h3 => ?_)
  · refine hk (by omega) _ _ ⟨?_, nI_1 _⟩
    have : j = i + 2 := by omega
    subst this
    have h4 : ∀ i, i < 3 → (i + 1) * (i + 2) / 2 - 1 + (i + 2) = (i + 1 + 1) * (i + 1 + 2) / 2 - 1 := by decide
    rw [h4 i (by omega)]
  · have h4 : ∀ i, i < 3 → ∀ j, j < i + 2 → (i + 1) * (i + 2) / 2 - 1 + j < 9 ∧ sS ((i + 1) * (i + 2) / 2 - 1 + j) = i + 1 ∧ sG ((i + 1) * (i + 2) / 2 - 1 + j) = j := by decide
    obtain ⟨h5, h6, h7⟩ := h4 i (by omega) j (by omega)
    have hft := s_fits hw hp h5 hf
    have hm := mxT_b hb c p ((i + 1) * (i + 2) / 2 - 1 + j)
    rw [← Nat.add_assoc] at hk2
    generalize (i + 1) * (i + 2) / 2 - 1 + j = t at h5 h6 h7 hft hm hk2
    rw [h6, h7] at hft
    refine OK.b1 hft (fun r hr => ?_)
    refine OK.j1 (fun y => y = nI (mxT pl c p (t + 1))) (fun y hy => hk2 (by omega) _ _ ⟨hy, nI_1 _⟩) (fun k3 hk3 => ?_)
    refine OK.j0 (mxT pl c p (t + 1) = mxT pl c p t) (fun h => hk3 _ (by rw [h])) (fun k4 hk4 => ?_)
    rcases hr with ⟨q, rfl⟩ | ⟨q, rfl⟩
    · have hc := pcd_b hw p h5
      have hp4 := hb (pcd c p t)
      refine OK.f (fun h => ?_) ?_
      · have := congrArg Int32.toInt h
        rw [nI_toInt (by omega)] at this
        have e9 : ((-9 : Int32)).toInt = -9 := by decide
        omega
      refine OK.rd (pcd c p t) rfl hc ?_
      rw [hpl _ hc]
      refine OK.le _ _ (by omega) (by omega) (fun h8 => hk4 ?_) (fun h8 => ?_)
      · rw [mxT_t q, Nat.max_eq_left h8]
      · refine OK.rd (pcd c p t) rfl hc ?_
        rw [hpl _ hc]
        exact hk3 _ (by rw [mxT_t q, Nat.max_eq_right (by omega)])
    · exact OK.t rfl (hk4 (mxT_f q))
/-- levels by numbers, for a plan -/
def lvlR (numbers levels : Nat → Int32) (pl : Nat → Nat) : Prop := ∀ k, k < 1372 → (numbers k = 0 ∧ pl k = 0) ∨ ∃ j, j < 270 ∧ numbers k = nI (j + 1) ∧ levels j = nI (pl k)
theorem s_levelByCode {k : Nat} (hk : k < 1372) {numbers levels : Nat → Int32} {pl : Nat → Nat} (h : lvlR numbers levels pl) : OK (m_X5_levelByCode 3000 (nI k) numbers levels) (fun r => r = nI (pl k)) := by
  unfold m_X5_levelByCode
  refine OK.rd k rfl hk (OK.l ?_)
  rcases h k hk with ⟨h1, h2⟩ | ⟨j, hj, h1, h2⟩
  · rw [h1]
    exact OK.t (by decide) (OK.s (by rw [h2]; rfl))
  · rw [h1, nI_pred]
    refine OK.lt j 0 (by omega) (by omega) (fun h => by omega) (fun _ => ?_)
    exact OK.rd j rfl hj (OK.s h2)
theorem s_digitOfSpelt {c p : Nat} (hw : okW c) (hp : p < 100) {f : Nat → Int32} (hf : spelt c f) {numbers levels : Nat → Int32} {pl : Nat → Nat} (hpl : lvlR numbers levels pl) (hb : ∀ k, pl k ≤ 4) :
    OK (m_X5_digitOfSpelt 3000 (nI p) (nI (dl c)) f levels numbers) (fun r => r = nI (digS pl c p)) := by
  unfold m_X5_digitOfSpelt
  refine OK.w2 (fun t x y => x = nI (mxT pl c p t) ∧ y = nI t) 9 ?_ (by omega) ⟨rfl, rfl⟩
  rintro t x y k ⟨rfl, rfl⟩ ht hk
  refine OK.le 9 t (by omega) (by omega) (fun h => OK.s (by rw [show t = 9 by omega]; rfl)) (fun h => ?_)
  refine OK.b1 (s_codeAt hw hp h hf) (fun r hr => ?_)
  have hm := mxT_b hb c p t
  rcases hr with ⟨q, rfl⟩ | ⟨q, rfl⟩
  · have hc := pcd_b hw p h
    have hp4 := hb (pcd c p t)
    refine OK.lt _ 0 (by omega) (by omega) (fun h => by omega) (fun _ => ?_)
    refine OK.b1 (s_levelByCode hc hpl) (fun r hr => ?_)
    subst hr
    refine OK.l (hk (by omega) _ _ ⟨?_, nI_1 t⟩)
    rw [n_imax (by omega) (by omega), mxT_t q]
  · exact OK.t (by decide) (hk (by omega) _ _ ⟨by rw [mxT_f q], nI_1 t⟩)
