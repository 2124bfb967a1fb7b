/-! ===== 55.doings: doings noted and undone; learning anew ===== -/
def lnR (P : Pg) (known : Int32) (numbers codes fits starts levels digits : Nat → Int32) : Prop := ∃ (m : Nat) (cd st : Nat → Nat), nmR m cd known numbers codes ∧ ixR (pW P) (pL P) m cd st fits starts ∧ jabR m levels (fun j => plS P 63 (pT P) (cd j)) ∧ digR (pW P) (pL P) (plS P 63 (pT P)) 5 digits
theorem s_learnAnew {P P0 : Pg} (hP : pgOK P) {known : Int32} {numbers codes fits starts levels digits : Nat → Int32} (h0 : lnR P0 known numbers codes fits starts levels digits) {words learnt : Int32} {letters breaks sizes rules hs : Nat → Int32} (hs_ : stkR P words learnt letters breaks sizes rules hs) (z y1 y2 : Int32) (signs good bad : Nat → Int32) :
    OK (m_X10_learnAnew 3000 known z words learnt numbers codes starts signs fits letters sizes levels digits good bad breaks rules hs y1 y2) (fun u => lnR P u.1 u.2.2.1 u.2.2.2.1 u.2.2.2.2.2.2.1 u.2.2.2.2.1 u.2.2.2.2.2.2.2.1 u.2.2.2.2.2.2.2.2.1 ∧ u.2.2.2.2.2.2.2.2.2.2.2.1 = 0 ∧ u.2.2.2.2.2.2.2.2.2.2.2.2 = 0) := by
  unfold m_X10_learnAnew
  obtain ⟨m0, cd0, st0, n0, -⟩ := h0
  have hs2 := hs_
  obtain ⟨rfl, e2, s3, s4⟩ := hs_
  refine OK.b7 (s_takeFrom hP.1 (fun w hw => ⟨(s3 w hw).1, (s3 w hw).2.2⟩) n0 z starts signs fits) (fun z1 z2 f3 f4 f5 f6 f7 hq => ?_)
  obtain ⟨m, cd, st, hn, hx⟩ := idxR.ix hq
  have hn1 : z1 = nI m := hn.1
  rw [hn1]
  refine OK.b4 (s_learnFrom hP hx hs2 (mask := 63) (by omega) levels digits good bad) (fun f8 f9 f10 f11 hw => ?_)
  exact OK.s ⟨⟨m, cd, st, by rw [← hn1]; exact hn, hx, hw.1, hw.2⟩, rfl, rfl⟩
def sameR (P Q : Pg) : Prop := ∀ k, 1 ≤ k → k ≤ 4 → pR P k = pR Q k ∧ pH P k = pH Q k
def sameW (P Q : Pg) : Prop := pW P = pW Q ∧ ∀ w, w < pW Q → pL P w = pL Q w ∧ pB P w = pB Q w
def unR (kd wh fi se : Int32) (P Q : Pg) : Prop :=
  (kd = 1 ∧ pW P = pW Q + 1 ∧ (∀ w, w < pW Q → pL P w = pL Q w ∧ pB P w = pB Q w) ∧ sameR P Q ∧ pT P = pT Q) ∨
  (kd = 2 ∧ ∃ v, wh = nI v ∧ v ≤ pW P ∧ pW Q = pW P + 1 ∧ fi = nI (pL Q v) ∧ se = nI (pB Q v) ∧ (∀ w, w < v → pL P w = pL Q w ∧ pB P w = pB Q w) ∧ (∀ w, v ≤ w → w < pW P → pL P w = pL Q (w + 1) ∧ pB P w = pB Q (w + 1)) ∧ sameR P Q ∧ pT P = pT Q) ∨
  (kd = 3 ∧ ∃ v p, wh = nI v ∧ fi = nI p ∧ v < pW Q ∧ p + 2 ≤ dl (pL Q v) ∧ pW P = pW Q ∧ (∀ w, w < pW Q → pL P w = pL Q w ∧ pB P w = if w = v then pB Q w ^^^ 2 ^ p else pB Q w) ∧ sameR P Q ∧ pT P = pT Q) ∨
  (kd = 4 ∧ ∃ k, 1 ≤ k ∧ k ≤ 4 ∧ wh = nI k ∧ fi = nI (pR Q k) ∧ se = nI (pH Q k) ∧ sameW P Q ∧ (∀ j, 1 ≤ j → j ≤ 4 → j ≠ k → pR P j = pR Q j ∧ pH P j = pH Q j) ∧ pT P = pT Q) ∨
  (kd = 5 ∧ pT P = pT Q + 1 ∧ sameW P Q ∧ sameR P Q)
theorem s_takeBack {P Q : Pg} (hP : pgOK P) (hQ : pgOK Q) {words learnt : Int32} {letters breaks sizes rules hs : Nat → Int32} (hs_ : stkR P words learnt letters breaks sizes rules hs) {c : Nat} (hc : c < 14) {kinds wheres firsts seconds : Nat → Int32} (hu : unR (kinds c) (wheres c) (firsts c) (seconds c) P Q) :
    OK (m_X1_takeBack 3000 (nI (c + 1)) words learnt wheres kinds firsts seconds rules hs sizes breaks letters) (fun u => u.1 = nI c ∧ stkR Q u.2.1 u.2.2.1 u.2.2.2.2.2.2.2 u.2.2.2.2.2.2.1 u.2.2.2.2.2.1 u.2.2.2.1 u.2.2.2.2.1) := by
  unfold m_X1_takeBack
  have hW := hP.1.1
  have hWQ := hQ.1.1
  have hT := hP.2.2.2
  obtain ⟨rfl, rfl, s3, s4⟩ := hs_
  refine OK.le 1 (c + 1) (by omega) (by omega) (fun _ => ?_) (fun h => by omega)
  refine OK.l ?_
  rw [nI_pred]
  refine OK.rd c rfl (by omega) (OK.rd c rfl (by omega) ?_)
  rcases hu with ⟨h1, h2, h3, h4, h5⟩ | ⟨h1, v, h2, h3, h4, h5, h6, h7, h8, h9, h10⟩ | ⟨h1, v, p, h2, h3, h4, h5, h6, h7, h8, h9⟩ | ⟨h1, k, h2, h3, h4, h5, h6, h7, h8, h9⟩ | ⟨h1, h2, h3, h4⟩
  · rw [h1]
    refine OK.t rfl ?_
    rw [n_sub1 (by omega)]
    refine OK.b4 (s_takeAt (W := pW P) (v := pW P - 1) (by omega) hW letters breaks sizes) (fun z f g h hq => ?_)
    obtain ⟨q1, q2, q3⟩ := hq
    refine OK.s ⟨rfl, ?_, by rw [h5], fun w hw => ?_, fun k a b => ?_⟩
    · rw [show z = _ from q1, h2, Nat.add_sub_cancel]
    · obtain ⟨a1, a2, a3⟩ := q2 w (by omega)
      obtain ⟨b1, b2, b3⟩ := s3 w (by omega)
      obtain ⟨c1, c2⟩ := h3 w hw
      rw [← c1, ← c2]
      exact ⟨a1.trans b1, a2.trans b2, a3.trans b3⟩
    · rw [← (h4 k a b).1, ← (h4 k a b).2]; exact s4 k a b
  · rw [h1]
    refine OK.f (by decide) (OK.t rfl ?_)
    refine OK.rd c rfl (by omega) (OK.rd c rfl (by omega) ?_)
    rw [h2, h5, h6]
    obtain ⟨w1, w2⟩ := hQ.1.2 v (by omega)
    refine OK.b4 (s_putAt (W := pW P) (v := v) (b := pB Q v) h3 (by omega) w1 w2 letters breaks sizes) (fun z f g h hq => ?_)
    obtain ⟨q1, q2, q3, q4⟩ := hq
    refine OK.s ⟨rfl, ?_, by rw [h10], fun w hw => ?_, fun k a b => ?_⟩
    · rw [show z = _ from q1, h4]
    · rcases Nat.lt_trichotomy w v with e | e | e
      · obtain ⟨a1, a2, a3⟩ := q3 w e
        obtain ⟨b1, b2, b3⟩ := s3 w (by omega)
        obtain ⟨c1, c2⟩ := h7 w e
        rw [← c1, ← c2]
        exact ⟨a1.trans b1, a2.trans b2, a3.trans b3⟩
      · subst e; exact q2
      · obtain ⟨a1, a2, a3⟩ := q4 (w - 1) (by omega) (by omega)
        obtain ⟨b1, b2, b3⟩ := s3 (w - 1) (by omega)
        obtain ⟨c1, c2⟩ := h8 (w - 1) (by omega) (by omega)
        rw [show w - 1 + 1 = w by omega] at a1 a2 a3 c1 c2
        rw [← c1, ← c2]
        exact ⟨a1.trans b1, a2.trans b2, a3.trans b3⟩
    · rw [← (h9 k a b).1, ← (h9 k a b).2]; exact s4 k a b
  · rw [h1]
    refine OK.f (by decide) (OK.f (by decide) (OK.t rfl ?_))
    refine OK.rd c rfl (by omega) ?_
    rw [h2, h3]
    have hv := (h7 v h4).1
    refine OK.b1 (s_flip hP.1 (fun w hw => (s3 w hw).2.2) (w := v) (p := p) (by omega) (by rw [hv]; exact h5) (s3 v (by omega)).2.1 (hP.b (by omega))) (fun f hq => ?_)
    subst hq
    refine OK.s ⟨rfl, by rw [h6], by rw [h9], fun w hw => ?_, fun k a b => ?_⟩
    · obtain ⟨b1, b2, b3⟩ := s3 w (by omega)
      obtain ⟨c1, c2⟩ := h7 w hw
      rw [← c1]
      refine ⟨b1, ?_, b3⟩
      show upd breaks v _ w = _
      by_cases e : w = v
      · subst e
        rw [upd_s, c2, if_pos rfl, Nat.xor_assoc, Nat.xor_self, Nat.xor_zero]
      · rw [upd_n _ _ e, b2, c2, if_neg e]
    · rw [← (h8 k a b).1, ← (h8 k a b).2]; exact s4 k a b
  · rw [h1]
    refine OK.f (by decide) (OK.f (by decide) (OK.f (by decide) (OK.t rfl ?_)))
    refine OK.rd c rfl (by omega) (OK.rd c rfl (by omega) ?_)
    rw [h4, h5, h6]
    refine OK.b2 (s_setRule h2 h3 _ _ rules hs) (fun f g hq => ?_)
    obtain ⟨q1, q2⟩ := hq
    have q1 : f = _ := q1
    have q2 : g = _ := q2
    subst q1 q2
    refine OK.s ⟨rfl, by rw [h7.1], by rw [h9], fun w hw => ?_, fun j a b => ?_⟩
    · rw [← (h7.2 w hw).1, ← (h7.2 w hw).2]; exact s3 w (by rw [h7.1]; exact hw)
    · show upd rules k _ j = _ ∧ upd hs k _ j = _
      by_cases e : j = k
      · subst e; exact ⟨upd_s _ _ _, upd_s _ _ _⟩
      · rw [upd_n _ _ e, upd_n _ _ e, ← (h8 j a b e).1, ← (h8 j a b e).2]; exact s4 j a b
  · rw [h1]
    refine OK.f (by decide) (OK.f (by decide) (OK.f (by decide) (OK.f (by decide) (OK.l ?_))))
    refine OK.s ⟨rfl, by rw [h3.1], ?_, fun w hw => ?_, fun j a b => ?_⟩
    · rw [h2, nI_pred, show (0 : Int32) = nI 0 from rfl, n_imax (by omega) (by omega), Nat.zero_max]
    · rw [← (h3.2 w hw).1, ← (h3.2 w hw).2]; exact s3 w (by rw [h3.1]; exact hw)
    · rw [← (h4 j a b).1, ← (h4 j a b).2]; exact s4 j a b
/-! ## notes -/
def nL (n : Nat) : Nat := if n = 14 then 13 else n
def nS (n : Nat) : Nat := if n = 14 then 1 else 0
def ntR (n : Nat) (x : Int32) (f g : Nat → Int32) : Prop := (∀ i, i < nL n → g i = f (i + nS n)) ∧ g (nL n) = x
def fgR (t : Nat) (f g : Nat → Int32) : Prop := (∀ i, i < t → g i = f (i + 1)) ∧ ∀ i, t ≤ i → i < 14 → g i = f i
theorem fgR.st {t : Nat} {f g : Nat → Int32} (h : fgR t f g) (ht : t < 13) : fgR (t + 1) f (upd g t (g (t + 1))) := by
  refine ⟨fun i hi => ?_, fun i h1 h2 => ?_⟩
  · by_cases e : i = t
    · subst e; rw [upd_s]; exact h.2 _ (by omega) (by omega)
    · rw [upd_n _ _ e]; exact h.1 i (by omega)
  · rw [upd_n _ _ (by omega)]; exact h.2 i (by omega) h2
theorem s_note {n : Nat} (hn : n ≤ 14) (kd wh fi se : Int32) (f1 f2 f3 f4 : Nat → Int32) : OK (m_X1_note 3000 kd wh fi se (nI n) f1 f2 f3 f4) (fun u => u.1 = nI (nL n + 1) ∧ ntR n kd f1 u.2.1 ∧ ntR n wh f2 u.2.2.1 ∧ ntR n fi f3 u.2.2.2.1 ∧ ntR n se f4 u.2.2.2.2) := by
  unfold m_X1_note
  refine OK.j5 (fun z g1 g2 g3 g4 => z = nI (nL n) ∧ (∀ i, i < nL n → g1 i = f1 (i + nS n)) ∧ (∀ i, i < nL n → g2 i = f2 (i + nS n)) ∧ (∀ i, i < nL n → g3 i = f3 (i + nS n)) ∧ (∀ i, i < nL n → g4 i = f4 (i + nS n))) ?_ (fun k hk => ?_)
  · rintro z g1 g2 g3 g4 ⟨rfl, a1, a2, a3, a4⟩
    have hl : nL n < 14 := by unfold nL; split <;> omega
    refine OK.st _ rfl hl (OK.st _ rfl hl (OK.st _ rfl hl (OK.st _ rfl hl (OK.l (OK.s ⟨nI_1 _, ⟨fun i hi => ?_, upd_s _ _ _⟩, ⟨fun i hi => ?_, upd_s _ _ _⟩, ⟨fun i hi => ?_, upd_s _ _ _⟩, ⟨fun i hi => ?_, upd_s _ _ _⟩⟩)))))
    · exact (upd_n _ _ (by omega)).trans (a1 i hi)
    · exact (upd_n _ _ (by omega)).trans (a2 i hi)
    · exact (upd_n _ _ (by omega)).trans (a3 i hi)
    · exact (upd_n _ _ (by omega)).trans (a4 i hi)
  · refine OK.lt n 14 (by omega) (by omega) (fun h => hk _ _ _ _ _ ?_) (fun h => ?_)
    · have e1 : nL n = n := if_neg (by omega)
      have e2 : nS n = 0 := if_neg (by omega)
      rw [e1, e2]
      exact ⟨rfl, fun _ _ => rfl, fun _ _ => rfl, fun _ _ => rfl, fun _ _ => rfl⟩
    · have en : n = 14 := by omega
      subst en
      refine OK.b5 (Q := fun u => u.1 = nI 13 ∧ fgR 13 f1 u.2.1 ∧ fgR 13 f2 u.2.2.1 ∧ fgR 13 f3 u.2.2.2.1 ∧ fgR 13 f4 u.2.2.2.2) ?_ (fun z g1 g2 g3 g4 hq => hk _ _ _ _ _ ⟨hq.1, hq.2.1.1, hq.2.2.1.1, hq.2.2.2.1.1, hq.2.2.2.2.1⟩)
      unfold m_X1_forgetFirst
      refine OK.w5 (fun t x g1 g2 g3 g4 => x = nI (t + 1) ∧ fgR t f1 g1 ∧ fgR t f2 g2 ∧ fgR t f3 g3 ∧ fgR t f4 g4) 13 ?_ (by omega) ⟨rfl, ⟨fun i hi => absurd hi (Nat.not_lt_zero _), fun _ _ _ => rfl⟩, ⟨fun i hi => absurd hi (Nat.not_lt_zero _), fun _ _ _ => rfl⟩, ⟨fun i hi => absurd hi (Nat.not_lt_zero _), fun _ _ _ => rfl⟩, ⟨fun i hi => absurd hi (Nat.not_lt_zero _), fun _ _ _ => rfl⟩⟩
      rintro t x g1 g2 g3 g4 k2 ⟨rfl, a1, a2, a3, a4⟩ ht hk2
      rw [nI_pred]
      refine OK.le 14 (t + 1) (by omega) (by omega) (fun h => OK.s ?_) (fun h => ?_)
      · have et : t = 13 := by omega
        subst et
        exact ⟨rfl, a1, a2, a3, a4⟩
      · refine OK.rd (t + 1) rfl (by omega) (OK.st t rfl (by omega) (OK.rd (t + 1) rfl (by omega) (OK.st t rfl (by omega) (OK.rd (t + 1) rfl (by omega) (OK.st t rfl (by omega) (OK.rd (t + 1) rfl (by omega) (OK.st t rfl (by omega) ?_)))))))
        exact hk2 (by omega) _ _ _ _ _ ⟨nI_1 _, a1.st (by omega), a2.st (by omega), a3.st (by omega), a4.st (by omega)⟩
def bkR (n : Nat) (page f g : Nat → Int32) : Prop := (∀ i, i < nL n → ∀ k, k < 22 → g (22 * i + k) = f (22 * (i + nS n) + k)) ∧ ∀ k, k < 22 → g (22 * nL n + k) = page k
theorem s_rNote {n : Nat} (hn : n ≤ 14) (book page : Nat → Int32) : OK (m_X11_note 3000 (nI n) book page) (fun u => u.1 = nI (nL n + 1) ∧ bkR n page book u.2) := by
  unfold m_X11_note
  refine OK.j2 (fun z g => z = nI (nL n) ∧ ∀ i, i < nL n → ∀ k, k < 22 → g (22 * i + k) = book (22 * (i + nS n) + k)) ?_ (fun k hk => ?_)
  · rintro z g ⟨rfl, a1⟩
    have hl : nL n < 14 := by unfold nL; split <;> omega
    refine OK.w2 (fun t x g => x = nI t ∧ (∀ i, i < nL n → ∀ k, k < 22 → g (22 * i + k) = book (22 * (i + nS n) + k)) ∧ ∀ k, k < t → g (22 * nL n + k) = page k) 22 ?_ (by omega) ⟨rfl, a1, fun k hk => absurd hk (Nat.not_lt_zero _)⟩
    rintro t x g2 k2 ⟨rfl, b1, b2⟩ ht hk2
    refine OK.le 22 t (by omega) (by omega) (fun h => OK.l (OK.s ⟨nI_1 _, b1, by rw [show t = 22 by omega] at b2; exact b2⟩)) (fun h => ?_)
    refine OK.rd t rfl h (OK.st (22 * nL n + t) (by rw [show (22 : Int32) = nI 22 from rfl, pk_mul, nI_add]) (by omega) ?_)
    refine hk2 h _ _ ⟨nI_1 t, fun i hi k hk => ?_, fun k hk => ?_⟩
    · rw [upd_n _ _ (by omega)]; exact b1 i hi k hk
    · by_cases e : k = t
      · subst e; exact upd_s _ _ _
      · rw [upd_n _ _ (by omega)]; exact b2 k (by omega)
  · refine OK.eq n 14 (by omega) (by omega) (fun h => ?_) (fun h => hk _ _ ?_)
    · subst h
      refine OK.w2 (fun t x g => x = nI t ∧ (∀ j, j < t → g j = book (j + 22)) ∧ ∀ j, t ≤ j → j < 308 → g j = book j) 286 ?_ (by omega) ⟨rfl, fun j hj => absurd hj (Nat.not_lt_zero _), fun _ _ _ => rfl⟩
      rintro t x g2 k2 ⟨rfl, b1, b2⟩ ht hk2
      refine OK.le 286 t (by omega) (by omega) (fun h => OK.l (hk _ _ ⟨by decide, fun i hi k hk => ?_⟩)) (fun h => ?_)
      · have hi : i < 13 := hi
        rw [b1 _ (by omega)]
        show book _ = book (22 * (i + 1) + k)
        congr 1; omega
      · refine OK.rd (t + 22) (nI_add t 22) (by omega) (OK.st t rfl (by omega) ?_)
        refine hk2 h _ _ ⟨nI_1 t, fun j hj => ?_, fun j h1 h2 => ?_⟩
        · by_cases e : j = t
          · subst e; rw [upd_s]; exact b2 _ (by omega) (by omega)
          · rw [upd_n _ _ e]; exact b1 j (by omega)
        · rw [upd_n _ _ (by omega)]; exact b2 j (by omega) h2
    · have e1 : nL n = n := if_neg h
      have e2 : nS n = 0 := if_neg h
      rw [e1, e2]
      exact ⟨rfl, fun _ _ _ _ => rfl⟩
theorem pageR.c {P : Pg} {f g : Nat → Int32} (h : pageR P f) (hP : pgOK P) (he : ∀ k, k < 22 → g k = f k) : pageR P g := by
  have hW := hP.1.1
  obtain ⟨a, b, c, d⟩ := h
  refine ⟨by rw [he 0 (by omega)]; exact a, fun w hw => ?_, fun k hk => ?_, by rw [he 21 (by omega)]; exact d⟩
  · rw [he _ (by omega), he _ (by omega)]; exact b w hw
  · rw [he _ (by omega), he _ (by omega)]; exact c k hk
def hsR (n : Nat) (kinds wheres firsts seconds book : Nat → Int32) (P : Pg) : Prop := n ≤ 14 ∧ ∃ Q : Nat → Pg, Q n = P ∧ ∀ i, i < n → pgOK (Q i) ∧ pageR (Q i) (fun k => book (22 * i + k)) ∧ unR (kinds i) (wheres i) (firsts i) (seconds i) (Q (i + 1)) (Q i)
theorem hsR_note {n : Nat} {f1 f2 f3 f4 book g1 g2 g3 g4 book' page : Nat → Int32} {P P' : Pg} (h : hsR n f1 f2 f3 f4 book P) (hP : pgOK P) (hp : pageR P page) {kd wh fi se : Int32} (a1 : ntR n kd f1 g1) (a2 : ntR n wh f2 g2) (a3 : ntR n fi f3 g3) (a4 : ntR n se f4 g4) (hb : bkR n page book book') (hu : unR kd wh fi se P' P) : hsR (nL n + 1) g1 g2 g3 g4 book' P' := by
  obtain ⟨hn, Q, hQ, hi⟩ := h
  have hl : nL n < 14 := by unfold nL; split <;> omega
  have hls : nL n + nS n = n := by unfold nL nS; split <;> omega
  refine ⟨by omega, fun i => if i = nL n + 1 then P' else Q (i + nS n), if_pos rfl, fun i hin => ?_⟩
  dsimp only
  rw [if_neg (show ¬ i = nL n + 1 by omega)]
  by_cases e : i = nL n
  · subst e
    rw [if_pos rfl, hls, hQ, a1.2, a2.2, a3.2, a4.2]
    exact ⟨hP, hp.c hP (fun k hk => hb.2 k hk), hu⟩
  · rw [if_neg (by omega), a1.1 i (by omega), a2.1 i (by omega), a3.1 i (by omega), a4.1 i (by omega)]
    obtain ⟨q1, q2, q3⟩ := hi (i + nS n) (by omega)
    refine ⟨q1, q2.c q1 (fun k hk => hb.1 i (by omega) k hk), ?_⟩
    rw [show i + 1 + nS n = i + nS n + 1 by omega]; exact q3
theorem hsR_0 (f1 f2 f3 f4 book : Nat → Int32) (P : Pg) : hsR 0 f1 f2 f3 f4 book P := ⟨by omega, fun _ => P, rfl, fun i hi => absurd hi (Nat.not_lt_zero _)⟩
