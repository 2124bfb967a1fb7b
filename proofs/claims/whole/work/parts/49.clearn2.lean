/-! ===== 49.clearn2: what the class keeps; its digits; its learning ===== -/
theorem s_keepPatterns {W : Nat} {L : Nat → Nat} {m : Nat} {cd st : Nat → Nat} {fits starts : Nat → Int32} (hx : ixR W L m cd st fits starts) {lev n r h : Nat} (hl1 : 1 ≤ lev) (hl : lev ≤ 4) (hn : n < 3) {rules hs : Nat → Int32} (hr : rules lev = nI r) (hh : hs lev = nI h) (hr2 : r ≤ 2) (hh9 : h ≤ 9) {a b l : Nat → Nat} {good bad levels : Nat → Int32} (hg : jabR m good a) (hb : jabR m bad b) (hab : ∀ j, j < m → clen (cd j) = n + 1 → a j ≤ 1000 ∧ b j ≤ 1000) (hlv : jabR m levels l) :
    OK (m_X5_keepPatterns 3000 (nI lev) (nI (n + 1)) starts rules hs good bad levels) (fun g => jabR m g (fun j => if clen (cd j) = n + 1 then (bif kp r h (a j) (b j) then lev else l j) else l j)) := by
  unfold m_X5_keepPatterns
  have hm := hx.1
  have hst := hx.2.2.1
  have hmono := (hx.2.2.2.2.2.1 (n + 1) (by omega) (by omega)).1
  have h4 : st (n + 2) ≤ m := by
    have e4 := hx.2.2.2.2.1
    have m2 := (hx.2.2.2.2.2.1 2 (by omega) (by omega)).1
    have m3 := (hx.2.2.2.2.2.1 3 (by omega) (by omega)).1
    have m2 : st 2 ≤ st 3 := m2
    have m3 : st 3 ≤ st 4 := m3
    have : n = 0 ∨ n = 1 ∨ n = 2 := by omega
    rcases this with rfl | rfl | rfl
    · show st 2 ≤ m; omega
    · show st 3 ≤ m; omega
    · show st 4 ≤ m; omega
  have hmono : st (n + 1) ≤ st (n + 2) := hmono
  refine OK.rd (n + 1) rfl (by omega) ?_
  rw [hst (n + 1) (by omega) (by omega)]
  refine OK.w2 (fun i x g => x = nI (st (n + 1) + i) ∧ jabR m g (fun j => if clen (cd j) = n + 1 ∧ j < st (n + 1) + i then (bif kp r h (a j) (b j) then lev else l j) else l j)) (st (n + 2) - st (n + 1)) ?_ (by omega) ⟨rfl, hlv.c (fun j hj => ?_)⟩
  rotate_left
  · rw [if_neg]
    rintro ⟨h1, h2⟩
    have := (hx.seg hj (n := n + 1) (by omega) (by omega)).mp h1
    omega
  rintro i x g k ⟨rfl, h1⟩ hi hk
  refine OK.rd (n + 2) (nI_1 _) (by omega) ?_
  rw [hst (n + 2) (by omega) (by omega)]
  refine OK.le (st (n + 2)) (st (n + 1) + i) (by omega) (by omega) (fun h5 => OK.s (h1.c (fun j hj => ?_))) (fun h5 => ?_)
  · by_cases e : clen (cd j) = n + 1
    · have : st (n + 1) ≤ j ∧ j < st (n + 2) := (hx.seg hj (n := n + 1) (by omega) (by omega)).mp e
      rw [if_pos ⟨e, by omega⟩, if_pos e]
    · rw [if_neg (fun q => e q.1), if_neg e]
  have hjm : st (n + 1) + i < m := by omega
  have hcl : clen (cd (st (n + 1) + i)) = n + 1 := (hx.seg hjm (n := n + 1) (by omega) (by omega)).mpr ⟨by omega, h5⟩
  obtain ⟨ha, hb2⟩ := hab _ hjm hcl
  refine OK.rd lev rfl (by omega) ?_
  rw [hr]
  refine OK.rd lev rfl (by omega) ?_
  rw [hh]
  refine OK.rd (st (n + 1) + i) rfl (by omega) ?_
  rw [hg _ hjm]
  refine OK.rd (st (n + 1) + i) rfl (by omega) ?_
  rw [hb _ hjm]
  refine OK.b1 (s_isKept hr2 ha hb2 hh9) (fun x hx2 => ?_)
  have key : ∀ g' : Nat → Int32, (∀ j, j < m → j ≠ st (n + 1) + i → g' j = g j) → g' (st (n + 1) + i) = nI (bif kp r h (a (st (n + 1) + i)) (b (st (n + 1) + i)) then lev else l (st (n + 1) + i)) → OK (k (nI (st (n + 1) + i) + 1) g') (fun g => jabR m g (fun j => if clen (cd j) = n + 1 then (bif kp r h (a j) (b j) then lev else l j) else l j)) := by
    intro g' e1 e2
    refine hk (by omega) _ _ ⟨nI_1 _, fun j hj => ?_⟩
    by_cases e : j = st (n + 1) + i
    · subst e
      dsimp only
      rw [if_pos ⟨hcl, by omega⟩]; exact e2
    · rw [e1 j hj e, h1 j hj]
      dsimp only
      by_cases e3 : clen (cd j) = n + 1 ∧ j < st (n + 1) + i
      · rw [if_pos e3, if_pos ⟨e3.1, by omega⟩]
      · rw [if_neg e3, if_neg (fun q => e3 ⟨q.1, by omega⟩)]
  cases hkp : kp r h (a (st (n + 1) + i)) (b (st (n + 1) + i)) with
  | false =>
    rw [hkp] at hx2 key
    have hx2 : x = 0 := hx2
    subst hx2
    refine OK.t rfl (key g (fun _ _ _ => rfl) ?_)
    rw [h1 _ hjm]
    dsimp only
    rw [if_neg (fun q => absurd q.2 (Nat.lt_irrefl _))]; rfl
  | true =>
    rw [hkp] at hx2 key
    have hx2 : x = 1 := hx2
    subst hx2
    refine OK.f (by decide) (OK.st _ rfl (by omega) (key _ (fun j _ e => upd_n _ _ e) ?_))
    rw [upd_s]; rfl
/-! ## digits by a plan that grew -/
theorem mxT_ge {pl : Nat → Nat} {c p t : Nat} (h : pf c p t) : ∀ T, t < T → pl (pcd c p t) ≤ mxT pl c p T
  | 0, h1 => by omega
  | T + 1, h1 => by
    by_cases e : t = T
    · subst e; rw [mxT_t h]; omega
    · have h2 := mxT_ge (pl := pl) h T (by omega)
      rcases pf_dec c p T with q | q
      · rw [mxT_t q]; omega
      · rw [mxT_f q]; exact h2
theorem mxT_c {pl pl' : Nat → Nat} {c p : Nat} : ∀ T, (∀ t, t < T → pf c p t → pl' (pcd c p t) = pl (pcd c p t)) → mxT pl' c p T = mxT pl c p T
  | 0, _ => rfl
  | T + 1, h => by
    have h2 := mxT_c T (fun t ht hf => h t (by omega) hf)
    rcases pf_dec c p T with q | q
    · rw [mxT_t q, mxT_t q, h2, h T (by omega) q]
    · rw [mxT_f q, mxT_f q, h2]
def hasL (pl : Nat → Nat) (lev c p n g : Nat) : Prop := ∃ i, i < g ∧ pf c p (fs (n + 1) + i) ∧ pl (pcd c p (fs (n + 1) + i)) = lev
theorem sh_of : ∀ n, n < 3 → ∀ t, t < 9 → sS t = n + 1 → ∃ i, i < n + 2 ∧ t = fs (n + 1) + i := by decide +kernel
theorem dig_raise {pl pl' : Nat → Nat} {lev c p n : Nat} (hw : okW c) (hn : n < 3) (hb : ∀ k, pl k ≤ lev) (hA : ∀ k, pl' k = pl k ∨ (pl' k = lev ∧ clen k = n + 1)) :
    (hasL pl' lev c p n (n + 2) → digS pl' c p = lev) ∧ (¬ hasL pl' lev c p n (n + 2) → digS pl' c p = digS pl c p) := by
  refine ⟨fun h => ?_, fun h => ?_⟩
  · obtain ⟨i, hi, h1, h2⟩ := h
    have h3 := (fs_n n hn i hi).1
    have h4 := mxT_ge (pl := pl') h1 9 h3
    have h5 : digS pl' c p ≤ lev := mxT_b (fun k => by rcases hA k with e | e; rw [e]; exact hb k; omega) c p 9
    unfold digS at *
    omega
  · refine mxT_c 9 (fun t ht hf => ?_)
    rcases hA (pcd c p t) with e | ⟨e1, e2⟩
    · exact e
    · rw [clen_pcd hw ht hf] at e2
      obtain ⟨i, hi, rfl⟩ := sh_of n hn t ht e2
      exact absurd ⟨i, hi, hf, e1⟩ h
theorem s_raiseDigits {W : Nat} {L : Nat → Nat} (hL : lsOK W L) {m : Nat} {cd st : Nat → Nat} {fits starts : Nat → Int32} (hx : ixR W L m cd st fits starts) {sizes : Nat → Int32} (hsz : ∀ w, w < W → sizes w = nI (dl (L w))) {lev n : Nat} (hl : lev ≤ 4) (hn : n < 3) {pl pl' : Nat → Nat} (hb : ∀ k, pl k ≤ lev) (hA : ∀ k, pl' k = pl k ∨ (pl' k = lev ∧ clen k = n + 1)) {levels d : Nat → Int32} (hlv : jabR m levels (fun j => pl' (cd j))) (hd : digR W L pl 5 d) :
    OK (m_X5_raiseDigits 3000 (nI lev) (nI (n + 1)) (nI W) sizes fits levels d) (fun g => digR W L pl' 5 g) := by
  unfold m_X5_raiseDigits
  have hW := hL.1
  have hm := hx.1
  obtain ⟨kf1, kf2, kf3, kf4⟩ := kFirst_n n hn
  have hb' : ∀ k, pl' k ≤ lev := fun k => by rcases hA k with e | e; rw [e]; exact hb k; omega
  refine OK.w2 (fun t x g => x = nI t ∧ digR t L pl' 5 g ∧ ∀ w, t ≤ w → w < W → ∀ p, p + 2 ≤ dl (L w) → g (5 * w + p) = nI (digS pl (L w) p)) W ?_ (by omega) ⟨rfl, fun w hw => absurd hw (Nat.not_lt_zero _), fun w _ hw => hd w hw⟩
  rintro t x g k ⟨rfl, h1, h2⟩ ht hk
  refine OK.le W t (by omega) (by omega) (fun h => OK.s (by rw [show t = W by omega] at h1; exact h1)) (fun htl => ?_)
  obtain ⟨ok, d2, d6⟩ := hL.w htl
  refine OK.w2 (fun i x g => x = nI i ∧ digR t L pl' 5 g ∧ (∀ w, t < w → w < W → ∀ p, p + 2 ≤ dl (L w) → g (5 * w + p) = nI (digS pl (L w) p)) ∧ (∀ p, p < i → g (5 * t + p) = nI (digS pl' (L t) p)) ∧ ∀ p, i ≤ p → p + 2 ≤ dl (L t) → g (5 * t + p) = nI (digS pl (L t) p)) (dl (L t) - 1) ?_ (by omega) ⟨rfl, h1, fun w hw1 hw2 => h2 w (by omega) hw2, fun p hp => absurd hp (Nat.not_lt_zero _), fun p _ hp => h2 t (by omega) htl p hp⟩
  rintro i x g1 k1 ⟨rfl, a1, a2, a3, a4⟩ hi hk1
  refine OK.rd t rfl (by omega) ?_
  rw [hsz t htl, show nI (dl (L t)) - 1 = nI (dl (L t) - 1) by rw [show (1 : Int32) = nI 1 from rfl, pk_sub (by omega)]]
  refine OK.le (dl (L t) - 1) i (by omega) (by omega) (fun h => ?_) (fun hil => ?_)
  · refine hk htl _ _ ⟨nI_1 t, fun w hw p hp => ?_, fun w hw1 hw2 => a2 w (by omega) hw2⟩
    rcases Nat.lt_succ_iff_lt_or_eq.mp hw with e | e
    · exact a1 w e p hp
    · subst e; exact a3 p (by omega)
  refine OK.l ?_
  rw [show nI t * 5 + nI i = nI (t * 5 + i) by rw [show (5 : Int32) = nI 5 from rfl, pk_mul, nI_add]]
  refine OK.rd (n + 1) rfl (by omega) ?_
  rw [kf1]
  obtain ⟨rz1, rz2⟩ := dig_raise (p := i) ok hn hb hA
  have hapart : ∀ w p, w < W → p + 2 ≤ dl (L w) → (w ≠ t ∨ p ≠ i) → 5 * w + p ≠ t * 5 + i := by
    intro w p e1 e2 e3
    have := (hL.w e1).2.2
    omega
  refine OK.w2 (fun s x g => x = nI (fs (n + 1) + s) ∧ (∀ w p, w < W → p + 2 ≤ dl (L w) → (w ≠ t ∨ p ≠ i) → g (5 * w + p) = g1 (5 * w + p)) ∧ ((hasL pl' lev (L t) i n s ∧ g (5 * t + i) = nI lev) ∨ (¬ hasL pl' lev (L t) i n s ∧ g (5 * t + i) = nI (digS pl (L t) i)))) (n + 2) ?_ (by omega) ⟨rfl, fun _ _ _ _ _ => rfl, Or.inr ⟨fun ⟨j, hj, _⟩ => absurd hj (Nat.not_lt_zero _), a4 i (by omega) (by omega)⟩⟩
  rintro s x g2 k2 ⟨rfl, b1, b2⟩ hs hk2
  refine OK.rd (n + 2) (nI_1 _) (by omega) ?_
  rw [kf2]
  refine OK.le (fs (n + 2)) (fs (n + 1) + s) (by omega) (by omega) (fun h => ?_) (fun h => ?_)
  · have es : s = n + 2 := by omega
    subst es
    refine hk1 hil _ _ ⟨nI_1 i, fun w hw p hp => ?_, fun w hw1 hw2 p hp => ?_, fun p hp => ?_, fun p hp1 hp2 => ?_⟩
    · rw [b1 w p (by omega) hp (Or.inl (by omega))]; exact a1 w hw p hp
    · rw [b1 w p hw2 hp (Or.inl (by omega))]; exact a2 w hw1 hw2 p hp
    · by_cases e : p = i
      · subst e
        rcases b2 with ⟨c1, c2⟩ | ⟨c1, c2⟩
        · rw [c2, rz1 c1]
        · rw [c2, rz2 c1]
      · rw [b1 t p htl (by omega) (Or.inr e)]; exact a3 p (by omega)
    · rw [b1 t p htl hp2 (Or.inr (by omega))]; exact a4 p (by omega) hp2
  refine OK.rd ((t * 5 + i) * 9 + (fs (n + 1) + s)) (by rw [show (9 : Int32) = nI 9 from rfl, pk_mul, nI_add]) (by omega) ?_
  obtain ⟨e1, e2⟩ := hx.2.2.2.2.2.2 t htl i (by omega) (fs (n + 1) + s) (by omega)
  have nohas : ¬ (pf (L t) i (fs (n + 1) + s) ∧ pl' (pcd (L t) i (fs (n + 1) + s)) = lev) → ((hasL pl' lev (L t) i n (s + 1) ∧ g2 (5 * t + i) = nI lev) ∨ (¬ hasL pl' lev (L t) i n (s + 1) ∧ g2 (5 * t + i) = nI (digS pl (L t) i))) := by
    intro hno
    have e : hasL pl' lev (L t) i n (s + 1) ↔ hasL pl' lev (L t) i n s := by
      constructor
      · rintro ⟨j, c1, c2, c3⟩
        refine ⟨j, ?_, c2, c3⟩
        rcases Nat.lt_succ_iff_lt_or_eq.mp c1 with h | h
        · exact h
        · subst h; exact absurd ⟨c2, c3⟩ hno
      · rintro ⟨j, c1, c2, c3⟩
        exact ⟨j, by omega, c2, c3⟩
    rw [e]; exact b2
  rcases pf_dec (L t) i (fs (n + 1) + s) with q | q
  · obtain ⟨j, hj, e3, e4⟩ := e1 q
    rw [e3]
    refine OK.lt j 0 (by omega) (by omega) (fun h => by omega) (fun _ => ?_)
    refine OK.rd j rfl (by omega) ?_
    have ee : levels j = nI (pl' (pcd (L t) i (fs (n + 1) + s))) := by rw [hlv j hj]; dsimp only; rw [e4]
    rw [ee]
    have hbk := hb' (pcd (L t) i (fs (n + 1) + s))
    refine OK.eq (pl' (pcd (L t) i (fs (n + 1) + s))) lev (by omega) (by omega) (fun h9 => ?_) (fun h9 => ?_)
    · refine OK.st (t * 5 + i) rfl (by omega) ?_
      refine hk2 (by omega) _ _ ⟨nI_1 _, fun w p c1 c2 c3 => ?_, Or.inl ⟨⟨s, by omega, q, h9⟩, ?_⟩⟩
      · rw [upd_n _ _ (hapart w p c1 c2 c3)]; exact b1 w p c1 c2 c3
      · rw [show 5 * t + i = t * 5 + i by omega, upd_s]
    · exact hk2 (by omega) _ _ ⟨nI_1 _, b1, nohas (fun c => h9 c.2)⟩
  · rw [e2 q]
    exact OK.t (by decide) (hk2 (by omega) _ _ ⟨nI_1 _, b1, nohas (fun c => q c.1)⟩)
/-! ## where nothing is counted -/
theorem cG_0 {P : Pg} {mask : Nat} {pl : Nat → Nat} {lev n : Nat} (h : ∀ w, w < pW P → mask / 2 ^ w % 2 = 1 → ∀ p, p + 2 ≤ dl (pL P w) → gX P pl lev w p = 0) (k : Nat) : cG P mask pl lev n k = 0 := by
  refine sumN_0 _ (fun w hw => ?_)
  show mask / 2 ^ w % 2 * sumN _ _ = 0
  rcases bit_01 (mask / 2 ^ w) with e | e
  · rw [e, Nat.zero_mul]
  · rw [sumN_0 _ (fun p hp => by rw [h w hw e p (by omega), Nat.zero_mul]), Nat.mul_zero]
theorem hit_0 {c p n k g : Nat} (hw : okW c) (hn : n < 3) (hg : g ≤ n + 2) (hk : clen k ≠ n + 1) : hit c p (n + 1) k g = 0 := by
  refine sumN_0 _ (fun i hi => ?_)
  show one c p (fs (n + 1) + i) k = 0
  obtain ⟨h1, h2, -⟩ := fs_n n hn i (by omega)
  rcases Nat.eq_zero_or_pos (one c p (fs (n + 1) + i) k) with e | e
  · exact e
  · obtain ⟨e1, e2⟩ := one_pos e
    rw [← e2, clen_pcd hw h1 e1, h2] at hk
    exact absurd rfl hk
theorem cnt_0 {W : Nat} {L : Nat → Nat} (hL : lsOK W L) {mask n k : Nat} (hn : n < 3) (hk : clen k ≠ n + 1) (x : Nat → Nat → Nat) : cntW L mask (n + 1) k x W = 0 := by
  refine sumN_0 _ (fun w hw => ?_)
  show mask / 2 ^ w % 2 * sumN _ _ = 0
  rw [sumN_0 _ (fun p _ => ?_), Nat.mul_zero]
  rw [hit_0 (hL.w hw).1 hn (by omega) hk, Nat.mul_zero]
theorem kp_0 (r h b : Nat) : kp r h 0 b = false := by simp [kp]
theorem digS_0 (c p : Nat) : digS (fun _ => 0) c p = 0 := Nat.le_zero.mp (mxT_b (M := 0) (fun _ => Nat.le_refl _) c p 9)
theorem s_learnFrom {P : Pg} (hP : pgOK P) {m : Nat} {cd st : Nat → Nat} {fits starts : Nat → Int32} (hx : ixR (pW P) (pL P) m cd st fits starts) {words learnt : Int32} {letters breaks sizes rules hs : Nat → Int32} (hs_ : stkR P words learnt letters breaks sizes rules hs) {mask : Nat} (hm : mask < 64) (levels digits good bad : Nat → Int32) :
    OK (m_X5_learnFrom 3000 (nI mask) words learnt levels (nI m) digits good bad sizes breaks fits rules hs starts) (fun u => jabR m u.1 (fun j => plS P mask (pT P) (cd j)) ∧ digR (pW P) (pL P) (plS P mask (pT P)) 5 u.2.1) := by
  unfold m_X5_learnFrom
  have hm2 := hx.1
  have hT := hP.2.2.2
  have hs2 := hs_
  obtain ⟨e1, rfl, s3, s4⟩ := hs_
  have hsz : ∀ w, w < pW P → sizes w = nI (dl (pL P w)) := fun w hw => (s3 w hw).2.2
  refine OK.b1 (s_fillr (N := 270) (m := m) (by omega) hm2 0 levels) (fun f1 hf1 => ?_)
  refine OK.b1 (s_fill (N := 30) (by omega) 0 digits) (fun f2 hf2 => ?_)
  have hW := hP.1.1
  refine OK.w5 (fun t x lv d _ _ => x = nI (t + 1) ∧ jabR m lv (fun j => plS P mask t (cd j)) ∧ digR (pW P) (pL P) (plS P mask t) 5 d) (pT P) ?_ (by omega) ⟨rfl, fun j hj => hf1 j hj, fun w hw p hp => ?_⟩
  rotate_left
  · have := (hP.1.w hw).2.2
    rw [hf2 _ (by omega)]
    show (0 : Int32) = nI (digS (fun _ => 0) (pL P w) p)
    rw [digS_0]; rfl
  rintro t x lv d g h k ⟨rfl, a1, a2⟩ ht hk
  have hb4 : ∀ k, plS P mask t k ≤ t + 1 := fun k => Nat.le_trans (plS_b P mask t k) (by omega)
  refine OK.lt (pT P) (t + 1) (by omega) (by omega) (fun h => OK.s (by rw [show t = pT P by omega] at a1 a2; exact ⟨a1, a2⟩)) (fun htl => ?_)
  refine OK.b1 (s_fillr (N := 270) (m := m) (by omega) hm2 0 g) (fun g1 hg1 => ?_)
  refine OK.b1 (s_fillr (N := 270) (m := m) (by omega) hm2 0 h) (fun h1 hh1 => ?_)
  obtain ⟨r1, r2, r3⟩ := hP.2.2.1 (t + 1) (by omega) (by omega)
  obtain ⟨sr, sh⟩ := s4 (t + 1) (by omega) (by omega)
  refine OK.w5 (fun j x lv d g h => x = nI (j + 1) ∧ jabR m lv (fun i => lvP P mask (t + 1) (plS P mask t) j (cd i)) ∧ digR (pW P) (pL P) (lvP P mask (t + 1) (plS P mask t) j) 5 d ∧ ∃ a b, jabR m g a ∧ jabR m h b ∧ ∀ i, i < m → j < clen (cd i) → a i = 0 ∧ b i = 0) 3 ?_ (by omega) ⟨rfl, a1, a2, fun _ => 0, fun _ => 0, fun j hj => hg1 j hj, fun j hj => hh1 j hj, fun _ _ _ => ⟨rfl, rfl⟩⟩
  rintro j x lv2 d2 g2 h2 k2 ⟨rfl, b1, b2, a, b, b3, b4, b5⟩ hj hk2
  have hbj := lvP_b P mask (t + 1) hb4 j
  have hbj4 : ∀ k, lvP P mask (t + 1) (plS P mask t) j k ≤ 4 := fun k => Nat.le_trans (hbj k) (by omega)
  refine OK.lt 3 (j + 1) (by omega) (by omega) (fun h => ?_) (fun hj3 => ?_)
  · have e3 : j = 3 := by omega
    subst e3
    exact hk (by omega) _ _ _ _ _ ⟨nI_1 _, b1, b2⟩
  have hj3 : j < 3 := by omega
  refine OK.b3 (s_countWords hP hx hs2 hm (lev := t + 1) (n := j) (by omega) hj3 hbj4 b2 b3 b4) (fun r g3 h3 hq => ?_)
  obtain ⟨q1, q2, q3⟩ := hq
  have q2 : jabR m g3 (fun i => a i + cG P mask (lvP P mask (t + 1) (plS P mask t) j) (t + 1) (j + 1) (cd i)) := q2
  have q3 : jabR m h3 (fun i => b i + cB P mask (lvP P mask (t + 1) (plS P mask t) j) (t + 1) (j + 1) (cd i)) := q3
  have hrest : ∀ i, i < m → j + 1 < clen (cd i) → a i + cG P mask (lvP P mask (t + 1) (plS P mask t) j) (t + 1) (j + 1) (cd i) = 0 ∧ b i + cB P mask (lvP P mask (t + 1) (plS P mask t) j) (t + 1) (j + 1) (cd i) = 0 := by
    intro i hi hc
    obtain ⟨e1, e2⟩ := b5 i hi (by omega)
    have e3 := cnt_0 hP.1 (mask := mask) hj3 (k := cd i) (by omega) (gX P (lvP P mask (t + 1) (plS P mask t) j) (t + 1))
    have e4 := cnt_0 hP.1 (mask := mask) hj3 (k := cd i) (by omega) (bX P (lvP P mask (t + 1) (plS P mask t) j) (t + 1))
    unfold cG cB
    omega
  have elv : ∀ k, lvP P mask (t + 1) (plS P mask t) (j + 1) k = bif kp (pR P (t + 1)) (pH P (t + 1)) (cG P mask (lvP P mask (t + 1) (plS P mask t) j) (t + 1) (j + 1) k) (cB P mask (lvP P mask (t + 1) (plS P mask t) j) (t + 1) (j + 1) k) then t + 1 else lvP P mask (t + 1) (plS P mask t) j k := fun _ => rfl
  rcases q1 with q1 | ⟨q1, q4⟩
  · have q1 : r = 1 := q1
    subst q1
    refine OK.f (by decide) ?_
    have hA : ∀ k, lvP P mask (t + 1) (plS P mask t) (j + 1) k = lvP P mask (t + 1) (plS P mask t) j k ∨ (lvP P mask (t + 1) (plS P mask t) (j + 1) k = t + 1 ∧ clen k = j + 1) := by
      intro k
      rw [elv k]
      by_cases hc : clen k = j + 1
      · cases kp (pR P (t + 1)) (pH P (t + 1)) (cG P mask (lvP P mask (t + 1) (plS P mask t) j) (t + 1) (j + 1) k) (cB P mask (lvP P mask (t + 1) (plS P mask t) j) (t + 1) (j + 1) k)
        · exact Or.inl rfl
        · exact Or.inr ⟨rfl, hc⟩
      · have e3 := cnt_0 hP.1 (mask := mask) hj3 (k := k) hc (gX P (lvP P mask (t + 1) (plS P mask t) j) (t + 1))
        have e3 : cG P mask (lvP P mask (t + 1) (plS P mask t) j) (t + 1) (j + 1) k = 0 := e3
        rw [e3, kp_0]
        exact Or.inl rfl
    refine OK.b1 (s_keepPatterns hx (lev := t + 1) (n := j) (by omega) (by omega) hj3 sr sh r1 r3 q2 q3 (fun i hi hc => ?_) b1) (fun lv3 hlv3 => ?_)
    · obtain ⟨e1, e2⟩ := b5 i hi (by omega)
      have c1 := cnt_b hP.1 mask (n := j + 1) (by omega) (cd i) (gX_b P (lvP P mask (t + 1) (plS P mask t) j) (t + 1))
      have c2 := cnt_b hP.1 mask (n := j + 1) (by omega) (cd i) (bX_b P (lvP P mask (t + 1) (plS P mask t) j) (t + 1))
      unfold cG cB
      omega
    have hlv4 : jabR m lv3 (fun i => lvP P mask (t + 1) (plS P mask t) (j + 1) (cd i)) := by
      refine hlv3.c (fun i hi => ?_)
      by_cases hc : clen (cd i) = j + 1
      · obtain ⟨e1, e2⟩ := b5 i hi (by omega)
        rw [if_pos hc, elv, e1, e2, Nat.zero_add, Nat.zero_add]
      · rw [if_neg hc]
        rcases hA (cd i) with e | e
        · rw [e]
        · exact absurd e.2 hc
    subst e1
    refine OK.b1 (s_raiseDigits hP.1 hx hsz (lev := t + 1) (n := j) (by omega) hj3 hbj hA hlv4 b2) (fun d3 hd3 => ?_)
    exact hk2 hj3 _ _ _ _ _ ⟨nI_1 _, hlv4, hd3, _, _, q2, q3, hrest⟩
  · have q1 : r = 0 := q1
    subst q1
    refine OK.t rfl ?_
    have hsame : ∀ k, lvP P mask (t + 1) (plS P mask t) (j + 1) k = lvP P mask (t + 1) (plS P mask t) j k := by
      intro k
      rw [elv k, cG_0 q4, kp_0]; rfl
    refine hk2 hj3 _ _ _ _ _ ⟨nI_1 _, b1.c (fun i _ => (hsame _).symm), fun w hw p hp => ?_, _, _, q2, q3, hrest⟩
    rw [b2 w hw p hp]
    congr 1
    exact (mxT_c 9 (fun t _ _ => hsame _)).symm
/-! ## what is kept is known -/
theorem cG_pos {P : Pg} {mask : Nat} {pl : Nat → Nat} {lev n k : Nat} (hn : n < 3) (h : 0 < cG P mask pl lev (n + 1) k) : ∃ w p t, w < pW P ∧ p + 2 ≤ dl (pL P w) ∧ t < 9 ∧ pf (pL P w) p t ∧ pcd (pL P w) p t = k := by
  obtain ⟨w, hw, h1⟩ := sumN_pos _ h
  have h2 : 0 < sumN (fun p => gX P pl lev w p * hit (pL P w) p (n + 1) k (n + 1 + 1)) (dl (pL P w) - 1) := Nat.pos_of_mul_pos_left h1
  obtain ⟨p, hp, h3⟩ := sumN_pos _ h2
  have h4 : 0 < hit (pL P w) p (n + 1) k (n + 1 + 1) := Nat.pos_of_mul_pos_left h3
  obtain ⟨g, hg, h5⟩ := sumN_pos _ h4
  obtain ⟨e1, e2⟩ := one_pos h5
  exact ⟨w, p, _, hw, by omega, (fs_n n hn g (by omega)).1, e1, e2⟩
theorem lvP_known {P : Pg} {mask lev : Nat} {pl : Nat → Nat} {k : Nat} (hpl : 0 < pl k → ∃ w p t, w < pW P ∧ p + 2 ≤ dl (pL P w) ∧ t < 9 ∧ pf (pL P w) p t ∧ pcd (pL P w) p t = k) : ∀ n, n ≤ 3 → 0 < lvP P mask lev pl n k → ∃ w p t, w < pW P ∧ p + 2 ≤ dl (pL P w) ∧ t < 9 ∧ pf (pL P w) p t ∧ pcd (pL P w) p t = k
  | 0, _, h => hpl h
  | n + 1, hn, h => by
    have e : lvP P mask lev pl (n + 1) k = bif kp (pR P lev) (pH P lev) (cG P mask (lvP P mask lev pl n) lev (n + 1) k) (cB P mask (lvP P mask lev pl n) lev (n + 1) k) then lev else lvP P mask lev pl n k := rfl
    rcases Nat.eq_zero_or_pos (cG P mask (lvP P mask lev pl n) lev (n + 1) k) with e2 | e2
    · rw [e, e2, kp_0] at h
      exact lvP_known hpl n (by omega) h
    · exact cG_pos (by omega) e2
theorem plS_known {P : Pg} {mask k : Nat} : ∀ t, 0 < plS P mask t k → ∃ w p t, w < pW P ∧ p + 2 ≤ dl (pL P w) ∧ t < 9 ∧ pf (pL P w) p t ∧ pcd (pL P w) p t = k
  | 0, h => absurd h (Nat.lt_irrefl 0)
  | t + 1, h => lvP_known (plS_known t) 3 (by omega) h
theorem lvl_of {P : Pg} {m : Nat} {cd st : Nat → Nat} {known : Int32} {numbers codes fits starts : Nat → Int32} (hn : nmR m cd known numbers codes) (hx : ixR (pW P) (pL P) m cd st fits starts) {mask t : Nat} {levels : Nat → Int32} (hl : jabR m levels (fun j => plS P mask t (cd j))) : lvlR numbers levels (plS P mask t) := by
  intro k hk
  rcases hn.2.2.2 k hk with h | ⟨j, hj, h1, h2⟩
  · refine Or.inl ⟨h, ?_⟩
    rcases Nat.eq_zero_or_pos (plS P mask t k) with e | e
    · exact e
    · obtain ⟨w, p, s, a1, a2, a3, a4, a5⟩ := plS_known t e
      obtain ⟨j, b1, b2, b3⟩ := (hx.2.2.2.2.2.2 w a1 p a2 s a3).1 a4
      have := (hn.2.2.1 j b1).2.2
      rw [b3, a5, h] at this
      exact absurd this.symm (nI_ne0 (by omega) (by have := hx.1; omega))
  · exact Or.inr ⟨j, by have := hx.1; omega, h1, by rw [hl j hj]; dsimp only; rw [h2]⟩
