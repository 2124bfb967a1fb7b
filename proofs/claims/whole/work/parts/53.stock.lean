/-! ===== 53.stock: words, places, levels; words put, taken, turned ===== -/
def inW (W : Nat) (x : Int32) : Prop := ∃ w, w < W ∧ x = nI w
theorem inW_le {W : Nat} (hW : W < 2147483648) {x : Int32} : inW W x ↔ (0 ≤ x ∧ x < nI W) := by
  constructor
  · rintro ⟨w, h1, rfl⟩
    exact ⟨nI_pos' (by omega), (nI_ltI (by omega) hW).mpr h1⟩
  · rintro ⟨h1, h2⟩
    rcases pk_ix x hW with h | h | ⟨j, h3, h4⟩
    · exact absurd h1 (Int32.not_le.mpr h)
    · exact absurd h2 (Int32.not_lt.mpr h)
    · exact ⟨j, h3, h4⟩
theorem s_hasWord {W : Nat} (hW : W ≤ 6) (x : Int32) : OK (m_X7_hasWord 3000 x (nI W)) (fun r => (inW W x ∧ r = 1) ∨ (¬ inW W x ∧ r = 0)) := by
  unfold m_X7_hasWord
  refine OK.i (fun h => OK.s (Or.inr ⟨fun q => absurd ((inW_le (by omega)).mp q).1 (Int32.not_le.mpr h), rfl⟩)) (fun h => ?_)
  refine OK.i (fun h2 => OK.s (Or.inr ⟨fun q => absurd ((inW_le (by omega)).mp q).2 (Int32.not_lt.mpr h2), rfl⟩)) (fun h2 => ?_)
  exact OK.s (Or.inl ⟨(inW_le (by omega)).mpr ⟨Int32.not_lt.mp h, Int32.not_le.mp h2⟩, rfl⟩)
theorem nI_m1 : nI 0 - 1 = (-1 : Int32) := by decide
theorem s_in0 {W : Nat} (hW : W < 100000) (x : Int32) : OK (m_X11_in 3000 x.toInt64 0 ((nI W - 1).toInt64)) (fun r => (inW W x ∧ r = 1) ∨ (¬ inW W x ∧ r = 0)) := by
  refine (s_in32 x 0 (nI W - 1)).mono (fun r hr => ?_)
  have e : (0 ≤ x ∧ x ≤ nI W - 1) ↔ inW W x := by
    rw [inW_le (by omega)]
    refine and_congr_right (fun h0 => ?_)
    obtain ⟨j, hj, rfl⟩ := nI_of (Int32.not_lt.mpr h0)
    cases W with
    | zero =>
      rw [nI_m1, nI_ltI hj (by omega)]
      constructor
      · intro h
        exact absurd (Int32.le_trans h0 h) (by decide)
      · intro h; omega
    | succ W => rw [nI_pred, nI_leI hj (by omega), nI_ltI hj (by omega)]; omega
  by_cases h : inW W x
  · exact Or.inl ⟨h, by rw [hr]; exact if_pos (e.mpr h)⟩
  · exact Or.inr ⟨h, by rw [hr]; exact if_neg (fun q => h (e.mp q))⟩
theorem s_noWord {P : Pg} (hP : pgOK P) {p1 : Nat → Int32} (hp : pageR P p1) (x : Int32) : OK (m_X11_noWord 3000 x p1) (fun r => (inW (pW P) x ∧ r = 0) ∨ (¬ inW (pW P) x ∧ r = 1)) := by
  unfold m_X11_noWord
  have hW := hP.1.1
  refine OK.rd 0 rfl (by omega) ?_
  rw [hp.1]
  refine OK.b1 (s_in0 (by omega) x) (fun r hr => ?_)
  rcases hr with ⟨h, rfl⟩ | ⟨h, rfl⟩
  · exact OK.f (by decide) (OK.s (Or.inl ⟨h, rfl⟩))
  · exact OK.t rfl (OK.s (Or.inr ⟨h, rfl⟩))
def inP (W : Nat) (L : Nat → Nat) (x y : Int32) : Prop := ∃ w p, w < W ∧ x = nI w ∧ p + 2 ≤ dl (L w) ∧ y = nI p
theorem s_hasPlace {W : Nat} {L : Nat → Nat} (hL : lsOK W L) {sizes : Nat → Int32} (hsz : ∀ w, w < W → sizes w = nI (dl (L w))) (x y : Int32) : OK (m_X7_hasPlace 3000 x y (nI W) sizes) (fun r => (inP W L x y ∧ r = 1) ∨ (¬ inP W L x y ∧ r = 0)) := by
  unfold m_X7_hasPlace
  have hW := hL.1
  refine OK.b1 (s_hasWord hW x) (fun r hr => ?_)
  rcases hr with ⟨⟨w, h, rfl⟩, rfl⟩ | ⟨h, rfl⟩
  · refine OK.f (by decide) ?_
    obtain ⟨-, d2, d6⟩ := hL.w h
    have e : inP W L (nI w) y ↔ inW (dl (L w) - 1) y := by
      constructor
      · rintro ⟨v, p, a, b, c, d⟩
        rw [nI_eq (by omega) (by omega)] at b
        subst b
        exact ⟨p, by omega, d⟩
      · rintro ⟨p, a, b⟩
        exact ⟨w, p, h, rfl, by omega, b⟩
    rw [e]
    refine OK.i (fun h1 => OK.s (Or.inr ⟨fun q => absurd ((inW_le (by omega)).mp q).1 (Int32.not_le.mpr h1), rfl⟩)) (fun h1 => ?_)
    refine OK.rd w rfl (by omega) ?_
    rw [hsz w h, n_sub1 (by omega)]
    refine OK.i (fun h2 => OK.s (Or.inr ⟨fun q => absurd ((inW_le (by omega)).mp q).2 (Int32.not_lt.mpr h2), rfl⟩)) (fun h2 => ?_)
    exact OK.s (Or.inl ⟨(inW_le (by omega)).mpr ⟨Int32.not_lt.mp h1, Int32.not_le.mp h2⟩, rfl⟩)
  · exact OK.t rfl (OK.s (Or.inr ⟨fun ⟨w, p, a, b, _⟩ => h ⟨w, a, b⟩, rfl⟩))
theorem s_noPlace {P : Pg} (hP : pgOK P) {p1 : Nat → Int32} (hp : pageR P p1) (x y : Int32) : OK (m_X11_noPlace 3000 x y p1) (fun r => (inP (pW P) (pL P) x y ∧ r = 0) ∨ (¬ inP (pW P) (pL P) x y ∧ r = 1)) := by
  unfold m_X11_noPlace
  have hW := hP.1.1
  refine OK.b1 (s_noWord hP hp x) (fun r hr => ?_)
  refine OK.ju0 ?_
  rcases hr with ⟨⟨w, h, rfl⟩, rfl⟩ | ⟨h, rfl⟩
  · refine OK.t rfl ?_
    obtain ⟨ok, d2, d6⟩ := hP.1.w h
    refine OK.rd (1 + w) (nI_add 1 w) (by omega) ?_
    rw [(hp.2.1 w h).1]
    refine OK.b1 (s_length (by have := ok.1; omega)) (fun r hr => ?_)
    subst hr
    rw [show nI (dl (pL P w)) - 2 = nI (dl (pL P w) - 1) - 1 by rw [n_sub1 (by omega), show (2 : Int32) = nI 2 from rfl, pk_sub (by omega)]; congr 1]
    have e : inP (pW P) (pL P) (nI w) y ↔ inW (dl (pL P w) - 1) y := by
      constructor
      · rintro ⟨v, p, a, b, c, d⟩
        rw [nI_eq (by omega) (by omega)] at b
        subst b
        exact ⟨p, by omega, d⟩
      · rintro ⟨p, a, b⟩
        exact ⟨w, p, h, rfl, by omega, b⟩
    rw [e]
    refine OK.b1 (s_in0 (by omega) y) (fun r hr => ?_)
    rcases hr with ⟨h1, rfl⟩ | ⟨h1, rfl⟩
    · exact OK.f (by decide) (OK.s (Or.inl ⟨h1, rfl⟩))
    · exact OK.t rfl (OK.s (Or.inr ⟨h1, rfl⟩))
  · exact OK.f (by decide) (OK.s (Or.inr ⟨fun ⟨w, p, a, b, _⟩ => h ⟨w, a, b⟩, rfl⟩))
/-- x lies between, as numbers -/
def inB (a b : Nat) (x : Int32) : Prop := ∃ k, a ≤ k ∧ k ≤ b ∧ x = nI k
theorem inB_le {a b : Nat} (hab : a ≤ b) (hb : b < 2147483648) {x : Int32} : inB a b x ↔ (nI a ≤ x ∧ x ≤ nI b) := by
  constructor
  · rintro ⟨k, h1, h2, rfl⟩
    exact ⟨nI_le h1 (by omega), nI_le h2 (by omega)⟩
  · rintro ⟨h1, h2⟩
    have h0 : ¬ x < 0 := Int32.not_lt.mpr (Int32.le_trans (nI_pos' (n := a) (by omega)) h1)
    obtain ⟨j, hj, rfl⟩ := nI_of h0
    exact ⟨j, (nI_leI (by omega) hj).mp h1, (nI_leI hj (by omega)).mp h2, rfl⟩
theorem s_inB {a b : Nat} (hab : a ≤ b) (hb : b < 2147483648) (x : Int32) : OK (m_X11_in 3000 x.toInt64 (lN a) (lN b)) (fun r => (inB a b x ∧ r = 1) ∨ (¬ inB a b x ∧ r = 0)) := by
  rw [← nI_l (n := a) (by omega), ← nI_l hb]
  refine (s_in32 x (nI a) (nI b)).mono (fun r hr => ?_)
  by_cases h : inB a b x
  · exact Or.inl ⟨h, by rw [hr]; exact if_pos ((inB_le hab hb).mp h)⟩
  · exact Or.inr ⟨h, by rw [hr]; exact if_neg (fun q => h ((inB_le hab hb).mpr q))⟩
theorem s_isLevel (x : Int32) : OK (m_X10_isLevel 3000 x) (fun r => (inB 1 4 x ∧ r = 1) ∨ (¬ inB 1 4 x ∧ r = 0)) := by
  unfold m_X10_isLevel
  refine OK.i (fun h => OK.s (Or.inr ⟨fun q => absurd ((inB_le (by omega) (by omega)).mp q).1 (Int32.not_le.mpr h), rfl⟩)) (fun h => ?_)
  refine OK.i (fun h2 => OK.s (Or.inr ⟨fun q => absurd ((inB_le (by omega) (by omega)).mp q).2 (Int32.not_le.mpr h2), rfl⟩)) (fun h2 => ?_)
  exact OK.s (Or.inl ⟨(inB_le (by omega) (by omega)).mpr ⟨Int32.not_lt.mp h, Int32.not_lt.mp h2⟩, rfl⟩)
theorem le_lt3 (x : Int32) : x ≤ 2 ↔ ¬ (3 : Int32) ≤ x := by
  rw [Int32.le_iff_toInt_le, Int32.le_iff_toInt_le]
  rw [show (2 : Int32).toInt = 2 from rfl, show (3 : Int32).toInt = 3 from rfl]; omega
theorem le_lt2 (x : Int32) : x ≤ 1 ↔ ¬ (2 : Int32) ≤ x := by
  rw [Int32.le_iff_toInt_le, Int32.le_iff_toInt_le]
  rw [show (2 : Int32).toInt = 2 from rfl, show (1 : Int32).toInt = 1 from rfl]; omega
theorem s_isRule (x y : Int32) : OK (m_X10_isRule 3000 x y) (fun r => (inB 0 2 x ∧ inB 1 9 y ∧ r = 1) ∨ (¬ (inB 0 2 x ∧ inB 1 9 y) ∧ r = 0)) := by
  unfold m_X10_isRule
  refine OK.i (fun h => OK.s (Or.inr ⟨fun q => absurd ((inB_le (by omega) (by omega)).mp q.1).1 (Int32.not_le.mpr h), rfl⟩)) (fun h => ?_)
  refine OK.i (fun h2 => OK.s (Or.inr ⟨fun q => absurd h2 ((le_lt3 x).mp ((inB_le (by omega) (by omega)).mp q.1).2), rfl⟩)) (fun h2 => ?_)
  refine OK.i (fun h3 => OK.s (Or.inr ⟨fun q => absurd ((inB_le (by omega) (by omega)).mp q.2).1 (Int32.not_le.mpr h3), rfl⟩)) (fun h3 => ?_)
  refine OK.i (fun h4 => OK.s (Or.inr ⟨fun q => absurd ((inB_le (by omega) (by omega)).mp q.2).2 (Int32.not_le.mpr h4), rfl⟩)) (fun h4 => ?_)
  exact OK.s (Or.inl ⟨(inB_le (by omega) (by omega)).mpr ⟨Int32.not_lt.mp h, (le_lt3 x).mpr h2⟩, (inB_le (by omega) (by omega)).mpr ⟨Int32.not_lt.mp h3, Int32.not_lt.mp h4⟩, rfl⟩)
theorem s_isShelf (x : Int32) : OK (m_X10_isShelf 3000 x) (fun r => (inB 0 1 x ∧ r = 1) ∨ (¬ inB 0 1 x ∧ r = 0)) := by
  unfold m_X10_isShelf
  refine OK.i (fun h => OK.s (Or.inr ⟨fun q => absurd ((inB_le (by omega) (by omega)).mp q).1 (Int32.not_le.mpr h), rfl⟩)) (fun h => ?_)
  refine OK.i (fun h2 => OK.s (Or.inr ⟨fun q => absurd h2 ((le_lt2 x).mp ((inB_le (by omega) (by omega)).mp q).2), rfl⟩)) (fun h2 => ?_)
  exact OK.s (Or.inl ⟨(inB_le (by omega) (by omega)).mpr ⟨Int32.not_lt.mp h, (le_lt2 x).mpr h2⟩, rfl⟩)
/-! ## words put and taken -/
theorem s_move {a b : Nat} (ha : a < 6) (hb : b < 6) (f g h : Nat → Int32) : OK (m_X7_move 3000 (nI a) (nI b) f g h) (fun u => u.1 = upd f b (f a) ∧ u.2.1 = upd g b (g a) ∧ u.2.2 = upd h b (h a)) := by
  unfold m_X7_move
  refine OK.rd a rfl ha (OK.st b rfl hb (OK.rd a rfl ha (OK.st b rfl hb (OK.rd a rfl ha (OK.st b rfl hb (OK.s ⟨rfl, rfl, rfl⟩))))))
/-- up to t, moved behind v -/
def shU (W v t : Nat) (f g : Nat → Int32) : Prop := (∀ w, w < W - t → g w = f w) ∧ ∀ w, W - t ≤ w → w < W → g (w + 1) = f w
theorem shU.st {W v t : Nat} {f g : Nat → Int32} (h : shU W v t f g) (ht : t < W) : shU W v (t + 1) f (upd g (W - t) (g (W - t - 1))) := by
  refine ⟨fun w hw => ?_, fun w h1 h2 => ?_⟩
  · rw [upd_n _ _ (by omega)]; exact h.1 w (by omega)
  · by_cases e : w = W - t - 1
    · subst e
      rw [show W - t - 1 + 1 = W - t by omega, upd_s]
      exact h.1 _ (by omega)
    · rw [upd_n _ _ (by omega)]; exact h.2 w (by omega) h2
theorem s_putAt {W v c b : Nat} (hv : v ≤ W) (hW : W < 6) (hc : isW c) (hc2 : c < 2147483648) (f g h : Nat → Int32) : OK (m_X7_putAt 3000 (nI v) (nI c) (nI b) (nI W) f g h) (fun u => u.1 = nI (W + 1) ∧ (u.2.1 v = nI c ∧ u.2.2.1 v = nI b ∧ u.2.2.2 v = nI (dl c)) ∧ (∀ w, w < v → u.2.1 w = f w ∧ u.2.2.1 w = g w ∧ u.2.2.2 w = h w) ∧ ∀ w, v ≤ w → w < W → u.2.1 (w + 1) = f w ∧ u.2.2.1 (w + 1) = g w ∧ u.2.2.2 (w + 1) = h w) := by
  unfold m_X7_putAt
  refine OK.lt v 0 (by omega) (by omega) (fun q => by omega) (fun _ => ?_)
  refine OK.lt W v (by omega) (by omega) (fun q => by omega) (fun _ => ?_)
  refine OK.lt W 6 (by omega) (by omega) (fun _ => ?_) (fun q => by omega)
  refine OK.w4 (fun t x f' g' h' => x = nI (W - t) ∧ shU W v t f f' ∧ shU W v t g g' ∧ shU W v t h h') (W - v) ?_ (by omega) ⟨rfl, ⟨fun _ _ => rfl, fun w h1 h2 => by omega⟩, ⟨fun _ _ => rfl, fun w h1 h2 => by omega⟩, ⟨fun _ _ => rfl, fun w h1 h2 => by omega⟩⟩
  rintro t x f' g' h' k ⟨rfl, a1, a2, a3⟩ ht hk
  refine OK.le (W - t) v (by omega) (by omega) (fun e => ?_) (fun e => ?_)
  · have et : t = W - v := by omega
    subst et
    refine OK.st v rfl (by omega) (OK.st v rfl (by omega) ?_)
    refine OK.b1 (s_wordSize hc2) (fun r hr => ?_)
    rcases hr with ⟨-, rfl⟩ | ⟨hr, -⟩
    · refine OK.st v rfl (by omega) (OK.l (OK.s ⟨nI_1 W, ⟨upd_s _ _ _, upd_s _ _ _, upd_s _ _ _⟩, fun w hw => ⟨?_, ?_, ?_⟩, fun w h1 h2 => ⟨?_, ?_, ?_⟩⟩))
      · exact (upd_n _ _ (by omega)).trans (a1.1 w (by omega))
      · exact (upd_n _ _ (by omega)).trans (a2.1 w (by omega))
      · exact (upd_n _ _ (by omega)).trans (a3.1 w (by omega))
      · exact (upd_n _ _ (by omega)).trans (a1.2 w (by omega) h2)
      · exact (upd_n _ _ (by omega)).trans (a2.2 w (by omega) h2)
      · exact (upd_n _ _ (by omega)).trans (a3.2 w (by omega) h2)
    · exact absurd hc hr
  · rw [n_sub1 (by omega)]
    refine OK.b3 (s_move (a := W - t - 1) (b := W - t) (by omega) (by omega) f' g' h') (fun f1 g1 h1 hq => ?_)
    obtain ⟨q1, q2, q3⟩ := hq
    have q1 : f1 = _ := q1
    have q2 : g1 = _ := q2
    have q3 : h1 = _ := q3
    subst q1 q2 q3
    refine hk (by omega) _ _ _ _ ⟨?_, a1.st (by omega), a2.st (by omega), a3.st (by omega)⟩
    rw [show W - t = (W - (t + 1)) + 1 by omega]; exact pk_m1 _
def shD (W v t : Nat) (f g : Nat → Int32) : Prop := (∀ w, w < v → g w = f w) ∧ (∀ w, v ≤ w → w < v + t → g w = f (w + 1)) ∧ ∀ w, v + t ≤ w → w < W → g w = f w
theorem shD.st {W v t : Nat} {f g : Nat → Int32} (h : shD W v t f g) (ht : v + t + 1 < W) : shD W v (t + 1) f (upd g (v + t) (g (v + t + 1))) := by
  refine ⟨fun w hw => ?_, fun w h1 h2 => ?_, fun w h1 h2 => ?_⟩
  · rw [upd_n _ _ (by omega)]; exact h.1 w hw
  · by_cases e : w = v + t
    · subst e
      rw [upd_s]; exact h.2.2 _ (by omega) ht
    · rw [upd_n _ _ e]; exact h.2.1 w h1 (by omega)
  · rw [upd_n _ _ (by omega)]; exact h.2.2 w (by omega) h2
theorem s_takeAt {W v : Nat} (hv : v < W) (hW : W ≤ 6) (f g h : Nat → Int32) : OK (m_X7_takeAt 3000 (nI v) (nI W) f g h) (fun u => u.1 = nI (W - 1) ∧ (∀ w, w < v → u.2.1 w = f w ∧ u.2.2.1 w = g w ∧ u.2.2.2 w = h w) ∧ ∀ w, v ≤ w → w + 1 < W → u.2.1 w = f (w + 1) ∧ u.2.2.1 w = g (w + 1) ∧ u.2.2.2 w = h (w + 1)) := by
  unfold m_X7_takeAt
  refine OK.b1 (s_hasWord hW (nI v)) (fun r hr => ?_)
  rcases hr with ⟨-, rfl⟩ | ⟨hr, -⟩
  rotate_left
  · exact absurd ⟨v, hv, rfl⟩ hr
  refine OK.f (by decide) ?_
  refine OK.w4 (fun t x f' g' h' => x = nI (v + t) ∧ shD W v t f f' ∧ shD W v t g g' ∧ shD W v t h h') (W - 1 - v) ?_ (by omega) ⟨rfl, ⟨fun _ _ => rfl, fun w h1 h2 => by omega, fun _ _ _ => rfl⟩, ⟨fun _ _ => rfl, fun w h1 h2 => by omega, fun _ _ _ => rfl⟩, ⟨fun _ _ => rfl, fun w h1 h2 => by omega, fun _ _ _ => rfl⟩⟩
  rintro t x f' g' h' k ⟨rfl, a1, a2, a3⟩ ht hk
  rw [nI_1]
  refine OK.le W (v + t + 1) (by omega) (by omega) (fun e => OK.l (OK.s ⟨n_sub1 (by omega), fun w hw => ⟨a1.1 w hw, a2.1 w hw, a3.1 w hw⟩, fun w h1 h2 => ⟨a1.2.1 w h1 (by omega), a2.2.1 w h1 (by omega), a3.2.1 w h1 (by omega)⟩⟩)) (fun e => ?_)
  refine OK.b3 (s_move (a := v + t + 1) (b := v + t) (by omega) (by omega) f' g' h') (fun f1 g1 h1 hq => ?_)
  obtain ⟨q1, q2, q3⟩ := hq
  have q1 : f1 = _ := q1
  have q2 : g1 = _ := q2
  have q3 : h1 = _ := q3
  subst q1 q2 q3
  exact hk (by omega) _ _ _ _ ⟨rfl, a1.st e, a2.st e, a3.st e⟩
theorem n_xor : ∀ p, p < 5 → ∀ x, x < 32 → nI x ^^^ nI (2 ^ p) = nI (x ^^^ 2 ^ p) := by decide +kernel
theorem x_lt : ∀ n, n < 6 → ∀ p, p < n → ∀ x, x < 2 ^ n → x ^^^ 2 ^ p < 2 ^ n := by decide +kernel
theorem s_flip {W : Nat} {L : Nat → Nat} (hL : lsOK W L) {sizes breaks : Nat → Int32} (hsz : ∀ w, w < W → sizes w = nI (dl (L w))) {w p b : Nat} (hw : w < W) (hp : p + 2 ≤ dl (L w)) (hb : breaks w = nI b) (hb2 : b < 32) : OK (m_X7_flip 3000 (nI w) (nI p) (nI W) sizes breaks) (fun u => u = upd breaks w (nI (b ^^^ 2 ^ p))) := by
  unfold m_X7_flip
  have hW := hL.1
  obtain ⟨-, d2, d6⟩ := hL.w hw
  refine OK.b1 (s_hasPlace hL hsz (nI w) (nI p)) (fun r hr => ?_)
  rcases hr with ⟨-, rfl⟩ | ⟨hr, -⟩
  · refine OK.f (by decide) (OK.rd w rfl (by omega) ?_)
    rw [hb, shl_at (by omega), n_xor p (by omega) b hb2]
    exact OK.st w rfl (by omega) (OK.s rfl)
  · exact absurd ⟨w, p, hw, rfl, hp, rfl⟩ hr
theorem s_setRule {k : Nat} (h1 : 1 ≤ k) (h4 : k ≤ 4) (x y : Int32) (rules hs : Nat → Int32) : OK (m_X7_setRule 3000 (nI k) x y rules hs) (fun u => u.1 = upd rules k x ∧ u.2 = upd hs k y) := by
  unfold m_X7_setRule
  refine OK.b1 (s_isLevel (nI k)) (fun r hr => ?_)
  rcases hr with ⟨-, rfl⟩ | ⟨hr, -⟩
  · exact OK.f (by decide) (OK.st k rfl (by omega) (OK.st k rfl (by omega) (OK.s ⟨rfl, rfl⟩)))
  · exact absurd ⟨k, h1, h4, rfl⟩ hr
theorem s_copyFrom {P : Pg} (hP : pgOK P) {words learnt : Int32} {letters breaks sizes rules hs : Nat → Int32} (h : stkR P words learnt letters breaks sizes rules hs) (z1 z2 : Int32) (f1 f2 f3 f4 f5 : Nat → Int32) : OK (m_X7_copyFrom 3000 z1 z2 words learnt letters f1 breaks f2 sizes f3 rules f4 hs f5) (fun u => stkR P u.1 u.2.1 u.2.2.1 u.2.2.2.1 u.2.2.2.2.1 u.2.2.2.2.2.1 u.2.2.2.2.2.2) := by
  unfold m_X7_copyFrom
  have hW := hP.1.1
  obtain ⟨a, b, c, d⟩ := h
  have cp : ∀ (f g : Nat → Int32) (n k : Nat), k < n → va_cpy f g 0 0 n k = f k := fun f g n k hk => by rw [pk_cpy_in (by omega) (by omega)]; congr 1; omega
  refine OK.s ⟨a, b, fun w hw => ⟨?_, ?_, ?_⟩, fun k h1 h4 => ⟨?_, ?_⟩⟩
  · exact (cp _ _ _ _ (by omega)).trans (c w hw).1
  · exact (cp _ _ _ _ (by omega)).trans (c w hw).2.1
  · exact (cp _ _ _ _ (by omega)).trans (c w hw).2.2
  · exact (cp _ _ _ _ (by omega)).trans (d k h1 h4).1
  · exact (cp _ _ _ _ (by omega)).trans (d k h1 h4).2
