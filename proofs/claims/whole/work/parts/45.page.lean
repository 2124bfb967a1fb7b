/-! ===== 45.page: pages, what is learnt from them (the numbers), and the reference's learning ===== -/
abbrev Pg : Type := Nat × (Nat → Nat) × (Nat → Nat) × (Nat → Nat) × (Nat → Nat) × Nat
abbrev pW (P : Pg) : Nat := P.1
abbrev pL (P : Pg) : Nat → Nat := P.2.1
abbrev pB (P : Pg) : Nat → Nat := P.2.2.1
abbrev pR (P : Pg) : Nat → Nat := P.2.2.2.1
abbrev pH (P : Pg) : Nat → Nat := P.2.2.2.2.1
abbrev pT (P : Pg) : Nat := P.2.2.2.2.2
/-- the letters alone -/
def lsOK (W : Nat) (L : Nat → Nat) : Prop := W ≤ 6 ∧ ∀ w, w < W → isW (L w) ∧ L w < 2147483648
def pgOK (P : Pg) : Prop := lsOK (pW P) (pL P) ∧ (∀ w, w < pW P → pB P w < 2 ^ (dl (pL P w) - 1)) ∧ (∀ k, 1 ≤ k → k ≤ 4 → pR P k ≤ 2 ∧ 1 ≤ pH P k ∧ pH P k ≤ 9) ∧ pT P ≤ 4
theorem lsOK.w {W : Nat} {L : Nat → Nat} (h : lsOK W L) {w : Nat} (hw : w < W) : okW (L w) ∧ 2 ≤ dl (L w) ∧ dl (L w) ≤ 6 := by
  obtain ⟨h1, h2⟩ := h.2 w hw
  exact ⟨h1.ok h2, h1.1, h1.2.1⟩
theorem pgOK.b {P : Pg} (h : pgOK P) {w : Nat} (hw : w < pW P) : pB P w < 32 := by
  have h1 := h.2.1 w hw
  have h2 := h.1.w hw
  have h3 : 2 ^ (dl (pL P w) - 1) ≤ 2 ^ 5 := Nat.pow_le_pow_right (by omega) (by omega)
  omega
def pageR (P : Pg) (f : Nat → Int32) : Prop := f 0 = nI (pW P) ∧ (∀ w, w < pW P → f (1 + w) = nI (pL P w) ∧ f (7 + w) = nI (pB P w)) ∧ (∀ k, k < 4 → f (13 + k) = nI (pR P (k + 1)) ∧ f (17 + k) = nI (pH P (k + 1))) ∧ f 21 = nI (pT P)
/-! ## sums -/
def sumN (f : Nat → Nat) : Nat → Nat
  | 0 => 0
  | n + 1 => sumN f n + f n
theorem sumN_b {f : Nat → Nat} {M : Nat} : ∀ n, (∀ i, i < n → f i ≤ M) → sumN f n ≤ n * M
  | 0, _ => by simp [sumN]
  | n + 1, h => by
    have h1 := sumN_b n (fun i hi => h i (by omega))
    have h2 := h n (by omega)
    rw [sumN, Nat.succ_mul]
    omega
theorem sumN_c {f g : Nat → Nat} : ∀ n, (∀ i, i < n → f i = g i) → sumN f n = sumN g n
  | 0, _ => rfl
  | n + 1, h => by rw [sumN, sumN, sumN_c n (fun i hi => h i (by omega)), h n (by omega)]
theorem sumN_0 {f : Nat → Nat} : ∀ n, (∀ i, i < n → f i = 0) → sumN f n = 0
  | 0, _ => rfl
  | n + 1, h => by rw [sumN, sumN_0 n (fun i hi => h i (by omega)), h n (by omega)]
theorem sumN_pos {f : Nat → Nat} : ∀ n, 0 < sumN f n → ∃ i, i < n ∧ 0 < f i
  | 0, h => by simp [sumN] at h
  | n + 1, h => by
    rw [sumN] at h
    by_cases h1 : 0 < f n
    · exact ⟨n, by omega, h1⟩
    · obtain ⟨i, hi, h2⟩ := sumN_pos (f := f) n (by omega)
      exact ⟨i, by omega, h2⟩
/-! ## counts -/
def fs (n : Nat) : Nat := n * (n + 1) / 2 - 1
theorem fs_n : ∀ n, n < 3 → ∀ j, j < n + 2 → fs (n + 1) + j < 9 ∧ sS (fs (n + 1) + j) = n + 1 ∧ sG (fs (n + 1) + j) = j := by decide +kernel
def one (c p t k : Nat) : Nat := bif pfb c p t && (pcd c p t == k) then 1 else 0
theorem one_1 {c p t : Nat} (h : pf c p t) : one c p t (pcd c p t) = 1 := by simp [one, pfb_t h]
theorem one_n {c p t k : Nat} (h : pf c p t) (hk : k ≠ pcd c p t) : one c p t k = 0 := by
  have e : (pcd c p t == k) = false := beq_eq_false_iff_ne.mpr (Ne.symm hk)
  simp [one, pfb_t h, e]
theorem one_f {c p t k : Nat} (h : ¬ pf c p t) : one c p t k = 0 := by simp [one, pfb_f h]
theorem one_b (c p t k : Nat) : one c p t k ≤ 1 := by unfold one; cases pfb c p t && (pcd c p t == k) <;> simp
theorem one_pos {c p t k : Nat} (h : 0 < one c p t k) : pf c p t ∧ pcd c p t = k := by
  rcases pf_dec c p t with q | q
  · by_cases hk : k = pcd c p t
    · exact ⟨q, hk.symm⟩
    · rw [one_n q hk] at h; omega
  · rw [one_f q] at h; omega
def hit (c p n k : Nat) : Nat → Nat := sumN (fun g => one c p (fs n + g) k)
def gd (lev br bk : Nat) : Nat := if lev % 2 = 1 then br * (1 - bk) else bk * (1 - br)
def bd (lev br bk : Nat) : Nat := if lev % 2 = 1 then 1 - br else bk * br
/-- over words, places, patterns of n signs: how often a pattern k lies where x is 1 -/
def cntW (L : Nat → Nat) (mask n k : Nat) (x : Nat → Nat → Nat) : Nat → Nat := sumN (fun w => mask / 2 ^ w % 2 * sumN (fun p => x w p * hit (L w) p n k (n + 1)) (dl (L w) - 1))
def bitB (B : Nat → Nat) (w p : Nat) : Nat := B w / 2 ^ p % 2
def gX (P : Pg) (pl : Nat → Nat) (lev w p : Nat) : Nat := gd lev (bitB (pB P) w p) (digS pl (pL P w) p % 2)
def bX (P : Pg) (pl : Nat → Nat) (lev w p : Nat) : Nat := bd lev (bitB (pB P) w p) (digS pl (pL P w) p % 2)
def cG (P : Pg) (mask : Nat) (pl : Nat → Nat) (lev n k : Nat) : Nat := cntW (pL P) mask n k (gX P pl lev) (pW P)
def cB (P : Pg) (mask : Nat) (pl : Nat → Nat) (lev n k : Nat) : Nat := cntW (pL P) mask n k (bX P pl lev) (pW P)
theorem hit_b (c p n k g : Nat) : hit c p n k g ≤ g := by
  have := sumN_b (f := fun g => one c p (fs n + g) k) (M := 1) g (fun i _ => one_b _ _ _ _)
  unfold hit; omega
theorem gd_b {lev br bk : Nat} (h1 : br ≤ 1) (h2 : bk ≤ 1) : gd lev br bk ≤ 1 := by
  have e1 : br = 0 ∨ br = 1 := by omega
  have e2 : bk = 0 ∨ bk = 1 := by omega
  unfold gd
  rcases e1 with rfl | rfl <;> rcases e2 with rfl | rfl <;> split <;> simp
theorem bd_b {lev br bk : Nat} (h1 : br ≤ 1) (h2 : bk ≤ 1) : bd lev br bk ≤ 1 := by
  have e1 : br = 0 ∨ br = 1 := by omega
  have e2 : bk = 0 ∨ bk = 1 := by omega
  unfold bd
  rcases e1 with rfl | rfl <;> rcases e2 with rfl | rfl <;> split <;> simp
theorem m2 (a : Nat) : a % 2 ≤ 1 := by omega
theorem cnt_b {W : Nat} {L : Nat → Nat} (h : lsOK W L) (mask : Nat) {n : Nat} (hn : n ≤ 3) (k : Nat) {x : Nat → Nat → Nat} (hx : ∀ w p, x w p ≤ 1) : cntW L mask n k x W ≤ 720 := by
  have h1 : cntW L mask n k x W ≤ W * 20 := by
    refine sumN_b W (fun w hw => ?_)
    obtain ⟨-, h2, h6⟩ := h.w hw
    have h3 : sumN (fun p => x w p * hit (L w) p n k (n + 1)) (dl (L w) - 1) ≤ (dl (L w) - 1) * 4 := by
      refine sumN_b _ (fun p _ => ?_)
      have a1 := hx w p
      have a2 := hit_b (L w) p n k (n + 1)
      have a3 : x w p * hit (L w) p n k (n + 1) ≤ 1 * hit (L w) p n k (n + 1) := Nat.mul_le_mul_right _ a1
      omega
    have h4 : mask / 2 ^ w % 2 ≤ 1 := m2 _
    have h5 : mask / 2 ^ w % 2 * sumN (fun p => x w p * hit (L w) p n k (n + 1)) (dl (L w) - 1) ≤ 1 * sumN (fun p => x w p * hit (L w) p n k (n + 1)) (dl (L w) - 1) := Nat.mul_le_mul_right _ h4
    omega
  have := h.1
  omega
/-! ## what a rule keeps; the plan -/
def kp (r h g b : Nat) : Bool := decide (1 ≤ g) && (if r = 0 then decide (b + h ≤ g) else if r = 1 then decide (b = 0) && decide (h ≤ g) else decide (h * b + h ≤ g))
def stP (P : Pg) (mask lev : Nat) (pl : Nat → Nat) (n : Nat) : Nat → Nat := fun k => bif kp (pR P lev) (pH P lev) (cG P mask pl lev n k) (cB P mask pl lev n k) then lev else pl k
def lvP (P : Pg) (mask lev : Nat) (pl : Nat → Nat) : Nat → (Nat → Nat)
  | 0 => pl
  | n + 1 => stP P mask lev (lvP P mask lev pl n) (n + 1)
def plS (P : Pg) (mask : Nat) : Nat → (Nat → Nat)
  | 0 => fun _ => 0
  | t + 1 => lvP P mask (t + 1) (plS P mask t) 3
theorem lvP_b (P : Pg) (mask lev : Nat) {pl : Nat → Nat} (h : ∀ k, pl k ≤ lev) : ∀ n k, lvP P mask lev pl n k ≤ lev
  | 0, k => h k
  | n + 1, k => by
    show (bif _ then lev else lvP P mask lev pl n k) ≤ lev
    have := lvP_b P mask lev h n k
    cases kp (pR P lev) (pH P lev) (cG P mask (lvP P mask lev pl n) lev (n + 1) k) (cB P mask (lvP P mask lev pl n) lev (n + 1) k)
    · exact this
    · exact Nat.le_refl _
theorem plS_b (P : Pg) (mask : Nat) : ∀ t k, plS P mask t k ≤ t
  | 0, _ => Nat.le_refl _
  | t + 1, k => lvP_b P mask (t + 1) (fun k => Nat.le_trans (plS_b P mask t k) (by omega)) 3 k
/-- digits of all places, laid with s places a word -/
def digR (W : Nat) (L : Nat → Nat) (pl : Nat → Nat) (s : Nat) (d : Nat → Int32) : Prop := ∀ w, w < W → ∀ p, p + 2 ≤ dl (L w) → d (s * w + p) = nI (digS pl (L w) p)
theorem s_layDigits {P : Pg} (hP : pgOK P) {p1 : Nat → Int32} (hp : pageR P p1) {plan : Nat → Int32} {pl : Nat → Nat} (hpl : tabR plan pl) (hb : ∀ k, pl k ≤ 4) (z : Int32) (f d : Nat → Int32) :
    OK (m_X11_layDigits 3000 z p1 f d plan) (fun u => digR (pW P) (pL P) pl 6 u.2.2) := by
  unfold m_X11_layDigits
  have hW := hP.1.1
  refine OK.w4 (fun t x _ _ g => x = nI t ∧ digR t (pL P) pl 6 g) (pW P) ?_ (by omega) ⟨rfl, fun w hw => absurd hw (Nat.not_lt_zero _)⟩
  rintro t x z1 g1 g2 k ⟨rfl, hg⟩ ht hk
  refine OK.rd 0 rfl (by omega) ?_
  rw [hp.1]
  refine OK.le (pW P) t (by omega) (by omega) (fun h => OK.s (by rw [show t = pW P by omega] at hg; exact hg)) (fun h => ?_)
  refine OK.rd (1 + t) (nI_add 1 t) (by omega) ?_
  rw [(hp.2.1 t h).1]
  obtain ⟨hw, hd2, hd6⟩ := hP.1.w h
  refine OK.b2 (s_laySigns hw.1 z1 g1) (fun a f2 ha => ?_)
  obtain ⟨ha1, ha2⟩ := ha
  have ha1 : a = nI (dl (pL P t) + 2) := ha1
  subst ha1
  rw [show (3 : Int32) = nI 3 from rfl, pk_sub (by omega)]
  refine OK.w2 (fun j x g => x = nI j ∧ digR t (pL P) pl 6 g ∧ ∀ p, p < j → g (6 * t + p) = nI (digS pl (pL P t) p)) (dl (pL P t) - 1) ?_ (by omega) ⟨rfl, hg, fun p hp => absurd hp (Nat.not_lt_zero _)⟩
  rintro j x g k2 ⟨rfl, h1, h2⟩ hj hk2
  refine OK.le (dl (pL P t) + 2 - 3) j (by omega) (by omega) (fun h3 => ?_) (fun h3 => ?_)
  · refine hk h _ _ _ _ ⟨nI_1 t, fun w hw2 p hp2 => ?_⟩
    rcases Nat.lt_succ_iff_lt_or_eq.mp hw2 with q | q
    · exact h1 w q p hp2
    · subst q; exact h2 p (by omega)
  · refine OK.b1 (s_digitAt hw (by omega) ha2 hpl hb) (fun r hr => ?_)
    subst hr
    refine OK.st (6 * t + j) (by rw [show (6 : Int32) = nI 6 from rfl, pk_mul, nI_add]) (by omega) ?_
    refine hk2 (by omega) _ _ ⟨nI_1 j, fun w hw2 p hp2 => ?_, fun p hp2 => ?_⟩
    · obtain ⟨-, -, h6⟩ := hP.1.w (show w < pW P by omega)
      rw [upd_n _ _ (by omega)]; exact h1 w hw2 p hp2
    · by_cases q : p = j
      · subst q; rw [upd_s]
      · rw [upd_n _ _ (by omega)]; exact h2 p (by omega)
/-! ## the reference counts -/
theorem s_rCountPlace {c p n : Nat} (hw : okW c) (hp : p + 2 ≤ dl c) (hn : n < 3) {f : Nat → Int32} (hf : spelt c f) {yg yb : Nat} (hyg : yg ≤ 1) (hyb : yb ≤ 1) {a b : Nat → Nat} {g h : Nat → Int32} (hg : tabR g a) (hh : tabR h b) :
    OK (m_X11_countPlace 3000 (nI (n + 1)) (nI p) (nI yg) (nI yb) (nI (dl c + 2)) f g h) (fun u => tabR u.1 (fun k => a k + yg * hit c p (n + 1) k (n + 2)) ∧ tabR u.2 (fun k => b k + yb * hit c p (n + 1) k (n + 2))) := by
  unfold m_X11_countPlace
  refine OK.w3 (fun j x g h => x = nI j ∧ tabR g (fun k => a k + yg * hit c p (n + 1) k j) ∧ tabR h (fun k => b k + yb * hit c p (n + 1) k j)) (n + 2) ?_ (by omega) ⟨rfl, fun k hk => by simp [hit, sumN, hg k hk], fun k hk => by simp [hit, sumN, hh k hk]⟩
  rintro j x g h k ⟨rfl, h1, h2⟩ hj hk
  refine OK.lt (n + 1) j (by omega) (by omega) (fun h3 => OK.s ?_) (fun h3 => ?_)
  · rw [show j = n + 2 by omega] at h1 h2; exact ⟨h1, h2⟩
  obtain ⟨t1, t2, t3⟩ := fs_n n hn j (by omega)
  have hft := s_fits hw hp t1 hf
  rw [t2, t3] at hft
  refine OK.b1 hft (fun r hr => ?_)
  rcases hr with ⟨q, rfl⟩ | ⟨q, rfl⟩
  · have hc := pcd_b hw p t1
    refine OK.f (fun h => ?_) ?_
    · have := congrArg Int32.toInt h
      rw [nI_toInt (by omega)] at this
      have e9 : ((-9 : Int32)).toInt = -9 := by decide
      omega
    refine OK.rd _ rfl hc ?_
    refine OK.j1 (fun y => y = nI yg) (fun y hy => ?_) (fun k3 hk3 => ?_)
    · subst hy
      refine OK.st _ rfl hc ?_
      refine OK.rd _ rfl hc ?_
      refine OK.j1 (fun y => y = nI yb) (fun y hy => ?_) (fun k3 hk3 => ?_)
      · subst hy
        refine OK.st _ rfl hc ?_
        refine hk (by omega) _ _ _ ⟨nI_1 j, fun k hk => ?_, fun k hk => ?_⟩
        · by_cases e : k = pcd c p (fs (n + 1) + j)
          · subst e
            rw [upd_s, h1 _ hc, nI_add]
            simp only [hit, sumN, one_1 q, Nat.mul_add, Nat.mul_one, Nat.add_assoc]
          · rw [upd_n _ _ e, h1 _ hk]
            simp only [hit, sumN, one_n q e, Nat.add_zero]
        · by_cases e : k = pcd c p (fs (n + 1) + j)
          · subst e
            rw [upd_s, h2 _ hc, nI_add]
            simp only [hit, sumN, one_1 q, Nat.mul_add, Nat.mul_one, Nat.add_assoc]
          · rw [upd_n _ _ e, h2 _ hk]
            simp only [hit, sumN, one_n q e, Nat.add_zero]
      · refine OK.eq yb 0 (by omega) (by omega) (fun e => hk3 _ (by rw [e]; rfl)) (fun e => hk3 _ (by rw [show yb = 1 by omega]; rfl))
    · refine OK.eq yg 0 (by omega) (by omega) (fun e => hk3 _ (by rw [e]; rfl)) (fun e => hk3 _ (by rw [show yg = 1 by omega]; rfl))
  · refine OK.t rfl (hk (by omega) _ _ _ ⟨nI_1 j, fun k hk => ?_, fun k hk => ?_⟩)
    · rw [h1 k hk]; simp only [hit, sumN, one_f q, Nat.add_zero]
    · rw [h2 k hk]; simp only [hit, sumN, one_f q, Nat.add_zero]
