/-! ===== 50.reads: what is right, what is wrong, how many patterns ===== -/
theorem n_sub1 {a : Nat} (h : 1 ≤ a) : nI a - 1 = nI (a - 1) := by rw [show (1 : Int32) = nI 1 from rfl, pk_sub h]
theorem n_or : ∀ p, p < 6 → ∀ x, x < 2 ^ p → ∀ b, b < 2 → nI x ||| nI (b * 2 ^ p) = nI (x + b * 2 ^ p) := by decide +kernel
theorem n_odd : ∀ d, d < 5 → ∀ p, p < 6 → (nI d &&& 1) <<< (nI p &&& 31) = nI (d % 2 * 2 ^ p) := by decide +kernel
def bsum (f : Nat → Nat) (n : Nat) : Nat := sumN (fun p => f p * 2 ^ p) n
theorem bsum_s (f : Nat → Nat) (n : Nat) : bsum f (n + 1) = bsum f n + f n * 2 ^ n := rfl
theorem bsum_lt {f : Nat → Nat} (hf : ∀ p, f p ≤ 1) : ∀ n, bsum f n < 2 ^ n
  | 0 => Nat.one_pos
  | n + 1 => by
    have := bsum_lt hf n
    have h1 := hf n
    have h2 : f n * 2 ^ n ≤ 1 * 2 ^ n := Nat.mul_le_mul_right _ h1
    rw [bsum_s, Nat.pow_succ]; omega
theorem bsum_bit {f : Nat → Nat} (hf : ∀ p, f p ≤ 1) {p : Nat} : ∀ n, p < n → bsum f n / 2 ^ p % 2 = f p
  | 0, h => absurd h (Nat.not_lt_zero _)
  | n + 1, h => by
    rw [bsum_s]
    by_cases e : p = n
    · subst e
      rw [Nat.add_mul_div_right _ _ (Nat.two_pow_pos p), Nat.div_eq_of_lt (bsum_lt hf p)]
      have := hf p
      omega
    · have e2 : 2 ^ n = 2 ^ (n - p - 1) * 2 * 2 ^ p := by
        rw [← Nat.pow_succ, ← Nat.pow_add]; congr 1; omega
      rw [e2, ← Nat.mul_assoc, Nat.add_mul_div_right _ _ (Nat.two_pow_pos p), ← Nat.mul_assoc, Nat.add_mul_mod_self_right]
      exact bsum_bit hf n (by omega)
def brN (pl : Nat → Nat) (c n : Nat) : Nat := bsum (fun p => digS pl c p % 2) n
theorem brN_lt (pl : Nat → Nat) (c n : Nat) : brN pl c n < 2 ^ n := bsum_lt (fun p => m2 _) n
theorem digS_b {pl : Nat → Nat} (hb : ∀ k, pl k ≤ 4) (c p : Nat) : digS pl c p ≤ 4 := mxT_b hb c p 9
theorem s_brokenPlaces {W : Nat} {L : Nat → Nat} (hL : lsOK W L) {pl : Nat → Nat} (hb : ∀ k, pl k ≤ 4) {d sizes : Nat → Int32} (hd : digR W L pl 5 d) (hsz : ∀ w, w < W → sizes w = nI (dl (L w))) {w : Nat} (hw : w < W) :
    OK (m_X5_brokenPlaces 3000 (nI w) sizes d) (fun r => r = nI (brN pl (L w) (dl (L w) - 1))) := by
  unfold m_X5_brokenPlaces
  obtain ⟨-, d2, d6⟩ := hL.w hw
  have hW := hL.1
  refine OK.w2 (fun t x y => x = nI (brN pl (L w) t) ∧ y = nI t) (dl (L w) - 1) ?_ (by omega) ⟨rfl, rfl⟩
  rintro t x y k ⟨rfl, rfl⟩ ht hk
  refine OK.rd w rfl (by omega) ?_
  rw [hsz w hw, n_sub1 (by omega)]
  refine OK.le (dl (L w) - 1) t (by omega) (by omega) (fun h => OK.s (by rw [show t = dl (L w) - 1 by omega])) (fun h => ?_)
  refine OK.b1 (s_digitOf hL hd hw (p := t) (by omega)) (fun r hr => ?_)
  subst hr
  refine OK.l ?_
  rw [n_odd _ (Nat.lt_succ_of_le (digS_b hb _ _)) t (by omega), n_or t (by omega) _ (brN_lt _ _ _) _ (Nat.mod_lt _ (by omega)), nI_1]
  exact hk h _ _ ⟨rfl, rfl⟩
theorem s_wrongPlaces {W : Nat} {L B : Nat → Nat} (hL : lsOK W L) {pl : Nat → Nat} (hb : ∀ k, pl k ≤ 4) {d sizes breaks : Nat → Int32} (hd : digR W L pl 5 d) (hsz : ∀ w, w < W → sizes w = nI (dl (L w))) (hbr : ∀ w, w < W → breaks w = nI (B w)) {w : Nat} (hw : w < W) :
    OK (m_X5_wrongPlaces 3000 (nI w) d sizes breaks) (fun r => r = nI (brN pl (L w) (dl (L w) - 1)) ^^^ nI (B w)) := by
  unfold m_X5_wrongPlaces
  have hW := hL.1
  refine OK.b1 (s_brokenPlaces hL hb hd hsz hw) (fun r hr => ?_)
  subst hr
  refine OK.rd w rfl (by omega) ?_
  rw [hbr w hw]
  exact OK.s rfl
def rtN (x y n : Nat) : Nat := sumN (fun p => if x / 2 ^ p % 2 = y / 2 ^ p % 2 then 1 else 0) n
set_option maxRecDepth 100000 in
theorem bf_right : ∀ n, n < 6 → ∀ x, x < 2 ^ n → ∀ y, y < 2 ^ n → m_J6_bitCount_0f7a4 3000 (nI x ^^^ nI y) = some (nI (n - rtN x y n)) ∧ (nI x ^^^ nI y = 0 ↔ rtN x y n = n) := by decide +kernel
def rtW (P : Pg) (pl : Nat → Nat) (w : Nat) : Nat := sumN (fun p => if digS pl (pL P w) p % 2 = bitB (pB P) w p then 1 else 0) (dl (pL P w) - 1)
theorem rtW_b (P : Pg) (pl : Nat → Nat) (w : Nat) : rtW P pl w ≤ dl (pL P w) - 1 := by
  have := sumN_b (f := fun p => if digS pl (pL P w) p % 2 = bitB (pB P) w p then 1 else 0) (M := 1) (dl (pL P w) - 1) (fun i _ => by split <;> omega)
  unfold rtW; omega
theorem rtW_e (P : Pg) (pl : Nat → Nat) (w : Nat) : rtW P pl w = rtN (brN pl (pL P w) (dl (pL P w) - 1)) (pB P w) (dl (pL P w) - 1) := by
  refine sumN_c _ (fun p hp => ?_)
  show (if _ then 1 else 0) = if _ then 1 else 0
  rw [show brN pl (pL P w) (dl (pL P w) - 1) / 2 ^ p % 2 = digS pl (pL P w) p % 2 from bsum_bit (fun p => m2 _) _ hp]
  rfl
def RT (P : Pg) (pl : Nat → Nat) : Nat := sumN (rtW P pl) (pW P)
theorem rt_of {P : Pg} (hP : pgOK P) (pl : Nat → Nat) {w : Nat} (hw : w < pW P) : m_J6_bitCount_0f7a4 3000 (nI (brN pl (pL P w) (dl (pL P w) - 1)) ^^^ nI (pB P w)) = some (nI (dl (pL P w) - 1 - rtW P pl w)) ∧ (nI (brN pl (pL P w) (dl (pL P w) - 1)) ^^^ nI (pB P w) = 0 ↔ rtW P pl w = dl (pL P w) - 1) := by
  obtain ⟨-, d2, d6⟩ := hP.1.w hw
  rw [rtW_e]
  exact bf_right _ (by omega) _ (brN_lt _ _ _) _ (hP.2.1 w hw)
theorem RT_b {P : Pg} (hP : pgOK P) (pl : Nat → Nat) : ∀ n, n ≤ pW P → sumN (rtW P pl) n ≤ n * 5 := fun n hn => sumN_b n (fun i hi => by
  have := rtW_b P pl i
  have := (hP.1.w (w := i) (by omega)).2.2
  omega)
theorem s_rightPlaces {P : Pg} (hP : pgOK P) {pl : Nat → Nat} (hb : ∀ k, pl k ≤ 4) {words : Int32} {d sizes breaks : Nat → Int32} (hwd : words = nI (pW P)) (hd : digR (pW P) (pL P) pl 5 d) (hsz : ∀ w, w < pW P → sizes w = nI (dl (pL P w))) (hbr : ∀ w, w < pW P → breaks w = nI (pB P w)) :
    OK (m_X5_rightPlaces 3000 words sizes d breaks) (fun r => r = nI (RT P pl)) := by
  unfold m_X5_rightPlaces
  subst hwd
  have hW := hP.1.1
  refine OK.w2 (fun t x y => x = nI (sumN (rtW P pl) t) ∧ y = nI t) (pW P) ?_ (by omega) ⟨rfl, rfl⟩
  rintro t x y k ⟨rfl, rfl⟩ ht hk
  refine OK.le (pW P) t (by omega) (by omega) (fun h => OK.s (by rw [show t = pW P by omega]; rfl)) (fun h => ?_)
  refine OK.rd t rfl (by omega) ?_
  obtain ⟨-, d2, d6⟩ := hP.1.w h
  rw [hsz t h, n_sub1 (by omega)]
  refine OK.b1 (s_wrongPlaces hP.1 hb hd hsz hbr h) (fun r hr => ?_)
  subst hr
  refine OK.b1 (Q := fun r => r = nI (dl (pL P t) - 1 - rtW P pl t)) ⟨_, (rt_of hP pl h).1, rfl⟩ (fun r hr => ?_)
  subst hr
  refine OK.l ?_
  have := rtW_b P pl t
  rw [pk_sub (by omega), nI_add, nI_1]
  exact hk h _ _ ⟨by rw [show dl (pL P t) - 1 - (dl (pL P t) - 1 - rtW P pl t) = rtW P pl t by omega]; rfl, rfl⟩
def WW (P : Pg) (pl : Nat → Nat) : Nat → Nat := bsum (fun w => if rtW P pl w = dl (pL P w) - 1 then 0 else 1)
theorem WW_lt (P : Pg) (pl : Nat → Nat) (n : Nat) : WW P pl n < 2 ^ n := bsum_lt (fun w => by split <;> omega) n
theorem n_or0 (x : Int32) : x ||| 0 = x := by simp
theorem s_wrongWords {P : Pg} (hP : pgOK P) {pl : Nat → Nat} (hb : ∀ k, pl k ≤ 4) {words : Int32} {d sizes breaks : Nat → Int32} (hwd : words = nI (pW P)) (hd : digR (pW P) (pL P) pl 5 d) (hsz : ∀ w, w < pW P → sizes w = nI (dl (pL P w))) (hbr : ∀ w, w < pW P → breaks w = nI (pB P w)) :
    OK (m_X5_wrongWords 3000 words d sizes breaks) (fun r => r = nI (WW P pl (pW P))) := by
  unfold m_X5_wrongWords
  subst hwd
  have hW := hP.1.1
  refine OK.w2 (fun t x y => x = nI (WW P pl t) ∧ y = nI t) (pW P) ?_ (by omega) ⟨rfl, rfl⟩
  rintro t x y k ⟨rfl, rfl⟩ ht hk
  refine OK.le (pW P) t (by omega) (by omega) (fun h => OK.s (by rw [show t = pW P by omega])) (fun h => ?_)
  refine OK.b1 (s_wrongPlaces hP.1 hb hd hsz hbr h) (fun r hr => ?_)
  subst hr
  have e := (rt_of hP pl h).2
  refine OK.i (fun h2 => hk h _ _ ⟨?_, nI_1 t⟩) (fun h2 => OK.l ?_)
  · show _ = nI (WW P pl t + (if rtW P pl t = dl (pL P t) - 1 then 0 else 1) * _)
    rw [if_pos (e.mp h2), Nat.zero_mul]; rfl
  · refine hk h _ _ ⟨?_, nI_1 t⟩
    have := n_or t (by omega) _ (WW_lt P pl t) 1 (by omega)
    rw [Nat.one_mul] at this
    rw [shl_at (by omega), this]
    show _ = nI (WW P pl t + (if rtW P pl t = dl (pL P t) - 1 then 0 else 1) * _)
    rw [if_neg (fun q => h2 (e.mpr q)), Nat.one_mul]
/-! ## the reference's reads -/
theorem s_isRight {P : Pg} (hP : pgOK P) {p1 : Nat → Int32} (hp : pageR P p1) {pl : Nat → Nat} (hb : ∀ k, pl k ≤ 4) {d : Nat → Int32} (hd : digR (pW P) (pL P) pl 6 d) {w p : Nat} (hw : w < pW P) (hpl : p + 2 ≤ dl (pL P w)) :
    OK (m_X11_isRight 3000 (nI w) (nI p) p1 d) (fun r => r = if digS pl (pL P w) p % 2 = bitB (pB P) w p then 1 else 0) := by
  unfold m_X11_isRight
  obtain ⟨-, d2, d6⟩ := hP.1.w hw
  have hW := hP.1.1
  have hB := hP.b hw
  refine OK.rd (6 * w + p) (by rw [show (6 : Int32) = nI 6 from rfl, pk_mul, nI_add]) (by omega) ?_
  rw [hd w hw p hpl]
  have hd4 := digS_b hb (pL P w) p
  rw [show (2 : Int32) = nI 2 from rfl, n_irm (by omega) (by omega) (by omega)]
  refine OK.j1 (fun y => y = nI (digS pl (pL P w) p % 2)) ?_ (fun k hk => ?_)
  · rintro y rfl
    refine OK.rd (7 + w) (nI_add 7 w) (by omega) ?_
    rw [(hp.2.1 w hw).2]
    refine OK.b1 (s_has (by omega) (by omega)) (fun r hr => ?_)
    subst hr
    refine OK.eq _ _ (by omega) (by omega) (fun h => OK.s (by rw [if_pos (show digS pl (pL P w) p % 2 = bitB (pB P) w p from h)])) (fun h => OK.s (by rw [if_neg (show ¬ digS pl (pL P w) p % 2 = bitB (pB P) w p from h)]))
  · refine OK.i (fun h => hk _ h.symm) (fun h => hk _ ?_)
    have h2 : ¬ digS pl (pL P w) p % 2 = 1 := fun q => h (by rw [q]; rfl)
    rw [show digS pl (pL P w) p % 2 = 0 by omega]; rfl
theorem s_rightOf {P : Pg} (hP : pgOK P) {p1 : Nat → Int32} (hp : pageR P p1) {pl : Nat → Nat} (hb : ∀ k, pl k ≤ 4) {d : Nat → Int32} (hd : digR (pW P) (pL P) pl 6 d) {w : Nat} (hw : w < pW P) :
    OK (m_X11_rightOf 3000 (nI w) p1 d) (fun r => r = nI (rtW P pl w)) := by
  unfold m_X11_rightOf
  obtain ⟨ok, d2, d6⟩ := hP.1.w hw
  have hW := hP.1.1
  refine OK.w2 (fun t x y => x = nI (sumN (fun p => if digS pl (pL P w) p % 2 = bitB (pB P) w p then 1 else 0) t) ∧ y = nI t) (dl (pL P w) - 1) ?_ (by omega) ⟨rfl, rfl⟩
  rintro t x y k ⟨rfl, rfl⟩ ht hk
  refine OK.rd (1 + w) (nI_add 1 w) (by omega) ?_
  rw [(hp.2.1 w hw).1]
  refine OK.b1 (s_length (by have := ok.1; omega)) (fun r hr => ?_)
  subst hr
  rw [n_sub1 (by omega)]
  refine OK.le (dl (pL P w) - 1) t (by omega) (by omega) (fun h => OK.s (by rw [show t = dl (pL P w) - 1 by omega]; rfl)) (fun h => ?_)
  refine OK.b1 (s_isRight hP hp hb hd hw (p := t) (by omega)) (fun r hr => ?_)
  subst hr
  refine OK.j1 (fun y => y = nI (if digS pl (pL P w) t % 2 = bitB (pB P) w t then 1 else 0)) ?_ (fun k1 hk1 => ?_)
  · rintro y rfl
    refine OK.l ?_
    rw [nI_add, nI_1]
    exact hk h _ _ ⟨rfl, rfl⟩
  · by_cases e : digS pl (pL P w) t % 2 = bitB (pB P) w t
    · rw [if_pos e]; exact OK.f (by decide) (hk1 _ (by rw [if_pos e]; rfl))
    · rw [if_neg e]; exact OK.t rfl (hk1 _ (by rw [if_neg e]; rfl))
theorem s_rightOfAll {P : Pg} (hP : pgOK P) {p1 : Nat → Int32} (hp : pageR P p1) {pl : Nat → Nat} (hb : ∀ k, pl k ≤ 4) {d : Nat → Int32} (hd : digR (pW P) (pL P) pl 6 d) :
    OK (m_X11_rightOfAll 3000 p1 d) (fun r => r = nI (RT P pl)) := by
  unfold m_X11_rightOfAll
  have hW := hP.1.1
  refine OK.w2 (fun t x y => x = nI (sumN (rtW P pl) t) ∧ y = nI t) (pW P) ?_ (by omega) ⟨rfl, rfl⟩
  rintro t x y k ⟨rfl, rfl⟩ ht hk
  refine OK.rd 0 rfl (by omega) ?_
  rw [hp.1]
  refine OK.le (pW P) t (by omega) (by omega) (fun h => OK.s (by rw [show t = pW P by omega]; rfl)) (fun h => ?_)
  refine OK.b1 (s_rightOf hP hp hb hd h) (fun r hr => ?_)
  subst hr
  refine OK.l ?_
  rw [nI_add, nI_1]
  exact hk h _ _ ⟨rfl, rfl⟩
theorem s_rWrongWords {P : Pg} (hP : pgOK P) {p1 : Nat → Int32} (hp : pageR P p1) {pl : Nat → Nat} (hb : ∀ k, pl k ≤ 4) {d : Nat → Int32} (hd : digR (pW P) (pL P) pl 6 d) :
    OK (m_X11_wrongWords 3000 p1 d) (fun r => r = nI (WW P pl (pW P))) := by
  unfold m_X11_wrongWords
  have hW := hP.1.1
  refine OK.w2 (fun t x y => x = nI (WW P pl t) ∧ y = nI t) (pW P) ?_ (by omega) ⟨rfl, rfl⟩
  rintro t x y k ⟨rfl, rfl⟩ ht hk
  refine OK.rd 0 rfl (by omega) ?_
  rw [hp.1]
  refine OK.le (pW P) t (by omega) (by omega) (fun h => OK.s (by rw [show t = pW P by omega])) (fun h => ?_)
  refine OK.b1 (s_rightOf hP hp hb hd h) (fun r hr => ?_)
  subst hr
  obtain ⟨ok, d2, d6⟩ := hP.1.w h
  refine OK.rd (1 + t) (nI_add 1 t) (by omega) ?_
  rw [(hp.2.1 t h).1]
  refine OK.b1 (s_length (by have := ok.1; omega)) (fun r hr => ?_)
  subst hr
  rw [n_sub1 (by omega)]
  have hrb := rtW_b P pl t
  refine OK.j1 (fun y => y = nI ((if rtW P pl t = dl (pL P t) - 1 then 0 else 1) * 2 ^ t)) ?_ (fun k1 hk1 => ?_)
  · rintro y rfl
    refine OK.l ?_
    rw [n_or t (by omega) _ (WW_lt P pl t) _ (by split <;> omega), nI_1]
    exact hk h _ _ ⟨rfl, rfl⟩
  · refine OK.le (dl (pL P t) - 1) (rtW P pl t) (by omega) (by omega) (fun h2 => hk1 _ ?_) (fun h2 => hk1 _ ?_)
    · rw [if_pos (by omega), Nat.zero_mul]; rfl
    · rw [if_neg (by omega), Nat.one_mul, shl_at (by omega)]
def PL (P : Pg) : Nat → Nat := sumN (fun w => dl (pL P w) - 1)
theorem s_allPlaces {P : Pg} (hP : pgOK P) {words : Int32} {sizes : Nat → Int32} (hwd : words = nI (pW P)) (hsz : ∀ w, w < pW P → sizes w = nI (dl (pL P w))) : OK (m_X7_allPlaces 3000 words sizes) (fun r => r = nI (PL P (pW P))) := by
  unfold m_X7_allPlaces
  subst hwd
  have hW := hP.1.1
  refine OK.w2 (fun t x y => x = nI (PL P t) ∧ y = nI t) (pW P) ?_ (by omega) ⟨rfl, rfl⟩
  rintro t x y k ⟨rfl, rfl⟩ ht hk
  refine OK.le (pW P) t (by omega) (by omega) (fun h => OK.s (by rw [show t = pW P by omega])) (fun h => ?_)
  refine OK.rd t rfl (by omega) ?_
  obtain ⟨ok, d2, d6⟩ := hP.1.w h
  rw [hsz t h, n_sub1 (by omega)]
  refine OK.l ?_
  rw [nI_add, nI_1]
  exact hk h _ _ ⟨rfl, rfl⟩
theorem s_placesOf {P : Pg} (hP : pgOK P) {p1 : Nat → Int32} (hp : pageR P p1) : OK (m_X11_placesOf 3000 p1) (fun r => r = nI (PL P (pW P))) := by
  unfold m_X11_placesOf
  have hW := hP.1.1
  refine OK.w2 (fun t x y => x = nI (PL P t) ∧ y = nI t) (pW P) ?_ (by omega) ⟨rfl, rfl⟩
  rintro t x y k ⟨rfl, rfl⟩ ht hk
  refine OK.rd 0 rfl (by omega) ?_
  rw [hp.1]
  refine OK.le (pW P) t (by omega) (by omega) (fun h => OK.s (by rw [show t = pW P by omega])) (fun h => ?_)
  obtain ⟨ok, d2, d6⟩ := hP.1.w h
  refine OK.rd (1 + t) (nI_add 1 t) (by omega) ?_
  rw [(hp.2.1 t h).1]
  refine OK.b1 (s_length (by have := ok.1; omega)) (fun r hr => ?_)
  subst hr
  rw [n_sub1 (by omega)]
  refine OK.l ?_
  rw [nI_add, nI_1]
  exact hk h _ _ ⟨rfl, rfl⟩
/-! ## how many patterns -/
theorem sumN_add (f g : Nat → Nat) : ∀ n, sumN (fun i => f i + g i) n = sumN f n + sumN g n
  | 0 => rfl
  | n + 1 => by
    have := sumN_add f g n
    show sumN (fun i => f i + g i) n + (f n + g n) = sumN f n + f n + (sumN g n + g n)
    omega
theorem sumN_swap (f : Nat → Nat → Nat) (m : Nat) : ∀ n, sumN (fun i => sumN (fun j => f i j) m) n = sumN (fun j => sumN (fun i => f i j) n) m
  | 0 => (sumN_0 m (fun _ _ => rfl)).symm
  | n + 1 => by
    show sumN (fun i => sumN (fun j => f i j) m) n + sumN (fun j => f n j) m = sumN (fun j => sumN (fun i => f i j) n + f n j) m
    rw [sumN_swap f m n, sumN_add]
theorem sumN_one {g : Nat → Nat} {c : Nat} : ∀ n, sumN (fun k => if c = k then g k else 0) n = if c < n then g c else 0
  | 0 => rfl
  | n + 1 => by
    show sumN (fun k => if c = k then g k else 0) n + (if c = n then g n else 0) = _
    rw [sumN_one n]
    by_cases e : c = n
    · subst e; rw [if_neg (Nat.lt_irrefl _), if_pos rfl, if_pos (Nat.lt_succ_self _), Nat.zero_add]
    · rw [if_neg e, Nat.add_zero]
      by_cases e2 : c < n
      · rw [if_pos e2, if_pos (by omega)]
      · rw [if_neg e2, if_neg (by omega)]
theorem sum_codes {m N : Nat} {cd g : Nat → Nat} (hin : ∀ i j, i < m → j < m → cd i = cd j → i = j) (hN : ∀ j, j < m → cd j < N) (hz : ∀ k, k < N → 0 < g k → ∃ j, j < m ∧ cd j = k) : sumN (fun j => g (cd j)) m = sumN g N := by
  have h1 : sumN (fun j => g (cd j)) m = sumN (fun j => sumN (fun k => if cd j = k then g k else 0) N) m := by
    refine sumN_c m (fun j hj => ?_)
    rw [sumN_one, if_pos (hN j hj)]
  rw [h1, ← sumN_swap (fun k j => if cd j = k then g k else 0) m N]
  refine sumN_c N (fun k hk => ?_)
  rcases Nat.eq_zero_or_pos (g k) with e | e
  · rw [e]; exact sumN_0 m (fun j _ => by split <;> rfl)
  · obtain ⟨j, hj, rfl⟩ := hz k hk e
    have h2 : sumN (fun i => if cd i = cd j then g (cd j) else 0) m = sumN (fun i => if j = i then (fun _ => g (cd j)) i else 0) m := by
      refine sumN_c m (fun i hi => ?_)
      dsimp only
      by_cases e2 : j = i
      · subst e2; rw [if_pos rfl, if_pos rfl]
      · rw [if_neg e2, if_neg (fun q => e2 (hin j i hj hi q.symm))]
    rw [h2, sumN_one, if_pos hj]
def nPat (pl : Nat → Nat) (lev : Nat) : Nat → Nat := sumN (fun k => if pl k = lev then 1 else 0)
def nAll (pl : Nat → Nat) : Nat → Nat := sumN (fun k => if pl k = 0 then 0 else 1)
theorem s_countOf {m : Nat} (hm : m ≤ 270) {cd pl : Nat → Nat} (hb : ∀ k, pl k ≤ 4) {levels : Nat → Int32} (hl : jabR m levels (fun j => pl (cd j))) {lev : Nat} (hlev : lev ≤ 4) : OK (m_X5_countOf 3000 (nI lev) (nI m) levels) (fun r => r = nI (sumN (fun j => if pl (cd j) = lev then 1 else 0) m)) := by
  unfold m_X5_countOf
  refine OK.w2 (fun t x y => x = nI (sumN (fun j => if pl (cd j) = lev then 1 else 0) t) ∧ y = nI t) m ?_ (by omega) ⟨rfl, rfl⟩
  rintro t x y k ⟨rfl, rfl⟩ ht hk
  refine OK.le m t (by omega) (by omega) (fun h => OK.s (by rw [show t = m by omega])) (fun h => ?_)
  refine OK.rd t rfl (by omega) ?_
  rw [hl t h]
  have := hb (cd t)
  refine OK.eq (pl (cd t)) lev (by omega) (by omega) (fun e => ?_) (fun e => ?_)
  · refine hk h _ _ ⟨?_, nI_1 t⟩
    rw [nI_1]
    show _ = nI (sumN _ t + if pl (cd t) = lev then 1 else 0)
    rw [if_pos e]
  · refine hk h _ _ ⟨?_, nI_1 t⟩
    show _ = nI (sumN _ t + if pl (cd t) = lev then 1 else 0)
    rw [if_neg e]; rfl
theorem codes_of {P : Pg} {m : Nat} {cd st : Nat → Nat} {known : Int32} {numbers codes fits starts : Nat → Int32} (hn : nmR m cd known numbers codes) (hx : ixR (pW P) (pL P) m cd st fits starts) {mask t : Nat} {g : Nat → Nat} (hg : ∀ k, plS P mask t k = 0 → g k = 0) : sumN (fun j => g (cd j)) m = sumN g 1372 := by
  refine sum_codes hx.2.1 (fun j hj => (hn.2.2.1 j hj).2.1) (fun k hk h => ?_)
  rcases Nat.eq_zero_or_pos (plS P mask t k) with e | e
  · rw [hg k e] at h; omega
  · obtain ⟨w, p, s, a1, a2, a3, a4, a5⟩ := plS_known t e
    obtain ⟨j, b1, b2, b3⟩ := (hx.2.2.2.2.2.2 w a1 p a2 s a3).1 a4
    exact ⟨j, b1, by rw [b3, a5]⟩
theorem c_countOf {P : Pg} {m : Nat} {cd st : Nat → Nat} {known : Int32} {numbers codes fits starts : Nat → Int32} (hn : nmR m cd known numbers codes) (hx : ixR (pW P) (pL P) m cd st fits starts) {mask t : Nat} (ht : t ≤ 4) {levels : Nat → Int32} (hl : jabR m levels (fun j => plS P mask t (cd j))) {lev : Nat} (h1 : 1 ≤ lev) (hlev : lev ≤ 4) : OK (m_X5_countOf 3000 (nI lev) known levels) (fun r => r = nI (nPat (plS P mask t) lev 1372)) := by
  rw [hn.1]
  refine (s_countOf hn.2.1 (fun k => Nat.le_trans (plS_b P mask t k) ht) hl hlev).mono (fun r hr => ?_)
  rw [hr, codes_of (g := fun k => if plS P mask t k = lev then 1 else 0) hn hx (fun k e => by rw [e, if_neg (by omega)])]; rfl
theorem sumN_split (pl : Nat → Nat) (cd : Nat → Nat) : ∀ m, sumN (fun j => if pl (cd j) = 0 then 1 else 0) m + sumN (fun j => if pl (cd j) = 0 then 0 else 1) m = m
  | 0 => rfl
  | m + 1 => by
    have := sumN_split pl cd m
    show sumN (fun j => if pl (cd j) = 0 then 1 else 0) m + (if pl (cd m) = 0 then 1 else 0) + (sumN (fun j => if pl (cd j) = 0 then 0 else 1) m + if pl (cd m) = 0 then 0 else 1) = m + 1
    split <;> omega
theorem c_countAll {P : Pg} {m : Nat} {cd st : Nat → Nat} {known : Int32} {numbers codes fits starts : Nat → Int32} (hn : nmR m cd known numbers codes) (hx : ixR (pW P) (pL P) m cd st fits starts) {mask t : Nat} (ht : t ≤ 4) {levels : Nat → Int32} (hl : jabR m levels (fun j => plS P mask t (cd j))) : OK (m_X5_countAll 3000 known levels) (fun r => r = nI (nAll (plS P mask t) 1372)) := by
  unfold m_X5_countAll
  rw [hn.1]
  refine OK.b1 (s_countOf (lev := 0) hn.2.1 (fun k => Nat.le_trans (plS_b P mask t k) ht) hl (by omega)) (fun r hr => ?_)
  subst hr
  have h1 := sumN_split (plS P mask t) cd m
  have h2 := codes_of (g := fun k => if plS P mask t k = 0 then 0 else 1) hn hx (fun k e => by rw [e, if_pos rfl])
  rw [pk_sub (by omega)]
  refine OK.s ?_
  unfold nAll
  rw [← h2]; congr 1; omega
theorem s_patternsOf {plan : Nat → Int32} {pl : Nat → Nat} (hpl : tabR plan pl) (hb : ∀ k, pl k ≤ 4) {lev : Nat} (hlev : lev ≤ 4) : OK (m_X11_patternsOf 3000 (nI lev) plan) (fun r => r = nI (if lev = 0 then nAll pl 1372 else nPat pl lev 1372)) := by
  unfold m_X11_patternsOf
  refine OK.w2 (fun t x y => x = nI (if lev = 0 then nAll pl t else nPat pl lev t) ∧ y = nI t) 1372 ?_ (by omega) ⟨by split <;> rfl, rfl⟩
  rintro t x y k ⟨rfl, rfl⟩ ht hk
  refine OK.le 1372 t (by omega) (by omega) (fun h => OK.s (by rw [show t = 1372 by omega])) (fun h => ?_)
  have hbt := hb t
  refine OK.j1 (fun y => y = nI (if lev = 0 then (if pl t = 0 then 0 else 1) else if pl t = lev then 1 else 0)) ?_ (fun k1 hk1 => ?_)
  · rintro y rfl
    refine OK.l ?_
    rw [nI_add, nI_1]
    refine hk h _ _ ⟨?_, rfl⟩
    by_cases e : lev = 0
    · rw [if_pos e, if_pos e, if_pos e]; rfl
    · rw [if_neg e, if_neg e, if_neg e]; rfl
  · refine OK.eq lev 0 (by omega) (by omega) (fun e => ?_) (fun e => ?_)
    · refine OK.rd t rfl h ?_
      rw [hpl t h]
      refine OK.le (pl t) 0 (by omega) (by omega) (fun e2 => hk1 _ ?_) (fun e2 => hk1 _ ?_)
      · rw [if_pos e, if_pos (by omega)]; rfl
      · rw [if_pos e, if_neg (by omega)]; rfl
    · refine OK.rd t rfl h ?_
      rw [hpl t h]
      refine OK.eq (pl t) lev (by omega) (by omega) (fun e2 => hk1 _ ?_) (fun e2 => hk1 _ ?_)
      · rw [if_neg e, if_pos e2]; rfl
      · rw [if_neg e, if_neg e2]; rfl
