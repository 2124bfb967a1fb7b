/-! ===== 54.text: the text as a list ===== -/
abbrev TS : Type := Nat × Nat × Nat × (Nat → Nat) × (Nat → Nat)
abbrev tN (s : TS) : Nat := s.1
abbrev tS (s : TS) : Nat := s.2.1
abbrev tH (s : TS) : Nat := s.2.2.1
abbrev tL (s : TS) : Nat → Nat := s.2.2.2.1
abbrev tB (s : TS) : Nat → Nat := s.2.2.2.2
def upN (f : Nat → Nat) (k v : Nat) : Nat → Nat := fun j => if j = k then v else f j
theorem upN_s (f : Nat → Nat) (k v : Nat) : upN f k v k = v := if_pos rfl
theorem upN_n (f : Nat → Nat) {k j : Nat} (v : Nat) (h : j ≠ k) : upN f k v j = f j := if_neg h
def stepT (s : TS) (v : Nat) : Option TS :=
  if v = 87 then (if tH s = 0 ∧ (tN s = 0 ∨ 2 ≤ tS s) ∧ tN s < 6 then some (tN s + 1, 0, 0, upN (tL s) (tN s) 0, upN (tB s) (tN s) 0) else none)
  else if v = 45 then (if tH s = 0 ∧ 1 ≤ tS s ∧ tS s ≤ 5 then some (tN s, tS s, 1, tL s, upN (tB s) (tN s - 1) (tB s (tN s - 1) + 2 ^ (tS s - 1))) else none)
  else if 97 ≤ v ∧ v ≤ 101 ∧ 1 ≤ tN s ∧ tS s ≤ 5 then some (tN s, tS s + 1, 0, upN (tL s) (tN s - 1) (10 * tL s (tN s - 1) + (v - 96)), tB s) else none
def runT (a : Nat → Nat) : Nat → Option TS
  | 0 => some (0, 0, 0, fun _ => 0, fun _ => 0)
  | i + 1 => (runT a i).bind (fun s => stepT s (a i))
theorem runT_s {a : Nat → Nat} {i : Nat} {s : TS} (h : runT a i = some s) : runT a (i + 1) = stepT s (a i) := by rw [runT, h]; rfl
theorem runT_n {a : Nat → Nat} {i : Nat} (h : runT a i = none) : ∀ j, i ≤ j → runT a j = none := by
  intro j hj
  induction j with
  | zero => rw [show i = 0 by omega] at h; exact h
  | succ j ih =>
    by_cases e : i = j + 1
    · subst e; exact h
    · rw [runT, ih (by omega)]; rfl
def clo (s : TS) : Prop := tN s = 0 ∨ (2 ≤ tS s ∧ tH s = 0)
def FT (a : Nat → Nat) (N : Nat) (r : Int32) : Prop := (∃ i s, i < N ∧ runT a i = some s ∧ stepT s (a i) = none ∧ r = nI i) ∨ (∃ s, runT a N = some s ∧ ((clo s ∧ r = -9) ∨ (¬ clo s ∧ r = nI N)))
theorem FT_u {a : Nat → Nat} {N : Nat} {r r' : Int32} (h : FT a N r) (h' : FT a N r') : r = r' := by
  rcases h with ⟨i, s, h1, h2, h3, h4⟩ | ⟨s, h1, h2⟩
  · have e1 : runT a (i + 1) = none := by rw [runT_s h2]; exact h3
    rcases h' with ⟨j, s', g1, g2, g3, g4⟩ | ⟨s', g1, g2⟩
    · have e2 : runT a (j + 1) = none := by rw [runT_s g2]; exact g3
      rcases Nat.lt_trichotomy i j with q | q | q
      · rw [runT_n e1 j (by omega)] at g2; cases g2
      · rw [h4, g4, q]
      · rw [runT_n e2 i (by omega)] at h2; cases h2
    · rw [runT_n e1 N (by omega)] at g1; cases g1
  · rcases h' with ⟨j, s', g1, g2, g3, g4⟩ | ⟨s', g1, g2⟩
    · have e2 : runT a (j + 1) = none := by rw [runT_s g2]; exact g3
      rw [runT_n e2 N (by omega)] at h1; cases h1
    · rw [h1] at g1
      cases g1
      rcases h2 with ⟨a1, a2⟩ | ⟨a1, a2⟩ <;> rcases g2 with ⟨b1, b2⟩ | ⟨b1, b2⟩
      · rw [a2, b2]
      · exact absurd a1 b1
      · exact absurd b1 a1
      · rw [a2, b2]
theorem dl_push {c d : Nat} (hc : c < 100000) (h1 : 1 ≤ d) (h5 : d ≤ 5) (hf : figs 5 c) : dl (10 * c + d) = dl c + 1 ∧ figs 5 (10 * c + d) := by
  have e : ∀ t, (10 * c + d) / 10 ^ (t + 1) = c / 10 ^ t := by
    intro t
    rw [Nat.pow_succ, Nat.mul_comm (10 ^ t), ← Nat.div_div_eq_div_mul, show (10 * c + d) / 10 = c by omega]
  have hd : dl (10 * c + d) = dl c + 1 := by
    apply Nat.le_antisymm
    · rw [dl_le (by omega), e, ← dl_le (by omega)]; exact Nat.le_refl _
    · have : ¬ dl (10 * c + d) ≤ dl c := by
        rw [dl_le (by omega)]
        intro q
        cases hq : dl c with
        | zero => rw [hq, Nat.pow_zero, Nat.div_one] at q; omega
        | succ t =>
          rw [hq, e, ← dl_le (by omega)] at q
          omega
      omega
  refine ⟨hd, fun t ht => ?_⟩
  cases t with
  | zero => rw [Nat.pow_zero, Nat.div_one]; omega
  | succ t => rw [e]; exact hf t (by omega)
def tsOK (s : TS) : Prop := tN s ≤ 6 ∧ tS s ≤ 6 ∧ tH s ≤ 1 ∧ (tN s = 0 → tS s = 0 ∧ tH s = 0) ∧ (tH s = 1 → 1 ≤ tS s ∧ tS s ≤ 5) ∧ (∀ w, w + 1 < tN s → isW (tL s w) ∧ tL s w < 1000000 ∧ tB s w < 2 ^ (dl (tL s w) - 1)) ∧ (1 ≤ tN s → dl (tL s (tN s - 1)) = tS s ∧ figs 5 (tL s (tN s - 1)) ∧ tL s (tN s - 1) < 10 ^ tS s ∧ (tH s = 0 → tB s (tN s - 1) < 2 ^ (tS s - 1)) ∧ (tH s = 1 → tB s (tN s - 1) < 2 ^ tS s))
theorem stepT_ok {s s' : TS} {v : Nat} (h : tsOK s) (e : stepT s v = some s') : tsOK s' := by
  obtain ⟨h1, h2, h3, h4, h5, h6, h7⟩ := h
  unfold stepT at e
  by_cases c1 : v = 87
  · rw [if_pos c1] at e
    by_cases c2 : tH s = 0 ∧ (tN s = 0 ∨ 2 ≤ tS s) ∧ tN s < 6
    · rw [if_pos c2] at e
      cases e
      obtain ⟨d1, d2, d3⟩ := c2
      refine ⟨by show tN s + 1 ≤ 6; omega, by show 0 ≤ 6; omega, by show 0 ≤ 1; omega, fun q => ⟨rfl, rfl⟩, fun q => absurd q (by show ¬ (0 : Nat) = 1; omega), fun w hw => ?_, fun _ => ?_⟩
      · have hw : w + 1 < tN s + 1 := hw
        show isW (upN (tL s) (tN s) 0 w) ∧ upN (tL s) (tN s) 0 w < 1000000 ∧ upN (tB s) (tN s) 0 w < 2 ^ (dl (upN (tL s) (tN s) 0 w) - 1)
        rw [upN_n _ _ (by omega), upN_n _ _ (by omega)]
        by_cases q : w + 1 < tN s
        · exact h6 w q
        · obtain ⟨g1, g2, g3, g4, g5⟩ := h7 (by omega)
          have ew : w = tN s - 1 := by omega
          rw [ew, g1]
          have g6 : 10 ^ tS s ≤ 10 ^ 6 := Nat.pow_le_pow_right (by omega) h2
          refine ⟨⟨by omega, by omega, g2⟩, by omega, g4 d1⟩
      · show dl (upN (tL s) (tN s) 0 (tN s + 1 - 1)) = 0 ∧ figs 5 (upN (tL s) (tN s) 0 (tN s + 1 - 1)) ∧ upN (tL s) (tN s) 0 (tN s + 1 - 1) < 10 ^ 0 ∧ _
        rw [Nat.add_sub_cancel, upN_s]
        refine ⟨rfl, fun t ht => absurd ht (Nat.not_lt_zero _), by decide, fun _ => ?_, fun q => absurd q (by show ¬ (0 : Nat) = 1; omega)⟩
        show upN (tB s) (tN s) 0 (tN s + 1 - 1) < _
        rw [Nat.add_sub_cancel, upN_s]; exact Nat.two_pow_pos _
    · rw [if_neg c2] at e; cases e
  · rw [if_neg c1] at e
    by_cases c2 : v = 45
    · rw [if_pos c2] at e
      by_cases c3 : tH s = 0 ∧ 1 ≤ tS s ∧ tS s ≤ 5
      · rw [if_pos c3] at e
        cases e
        obtain ⟨d1, d2, d3⟩ := c3
        have hn : 1 ≤ tN s := by
          rcases Nat.eq_zero_or_pos (tN s) with q | q
          · have := (h4 q).1; omega
          · exact q
        refine ⟨h1, h2, by show 1 ≤ 1; omega, fun q => absurd (show tN s = 0 from q) (by omega), fun _ => ⟨d2, d3⟩, fun w hw => ?_, fun _ => ?_⟩
        · have hw : w + 1 < tN s := hw
          show isW (tL s w) ∧ tL s w < 1000000 ∧ upN (tB s) (tN s - 1) _ w < 2 ^ (dl (tL s w) - 1)
          rw [upN_n _ _ (by omega)]; exact h6 w hw
        · obtain ⟨g1, g2, g3, g4, g5⟩ := h7 hn
          refine ⟨g1, g2, g3, fun q => absurd q (by show ¬ (1 : Nat) = 0; omega), fun _ => ?_⟩
          show upN (tB s) (tN s - 1) _ (tN s - 1) < 2 ^ tS s
          rw [upN_s]
          have := g4 d1
          have e2 : 2 ^ tS s = 2 ^ (tS s - 1) * 2 := by rw [← Nat.pow_succ]; congr 1; omega
          omega
      · rw [if_neg c3] at e; cases e
    · rw [if_neg c2] at e
      by_cases c3 : 97 ≤ v ∧ v ≤ 101 ∧ 1 ≤ tN s ∧ tS s ≤ 5
      · rw [if_pos c3] at e
        cases e
        obtain ⟨d1, d2, d3, d4⟩ := c3
        obtain ⟨g1, g2, g3, g4, g5⟩ := h7 d3
        have g6 : 10 ^ tS s ≤ 10 ^ 5 := Nat.pow_le_pow_right (by omega) d4
        obtain ⟨p1, p2⟩ := dl_push (c := tL s (tN s - 1)) (d := v - 96) (by omega) (by omega) (by omega) g2
        refine ⟨h1, by show tS s + 1 ≤ 6; omega, by show 0 ≤ 1; omega, fun q => absurd (show tN s = 0 from q) (by omega), fun q => absurd q (by show ¬ (0 : Nat) = 1; omega), fun w hw => ?_, fun _ => ?_⟩
        · have hw : w + 1 < tN s := hw
          show isW (upN (tL s) (tN s - 1) _ w) ∧ upN (tL s) (tN s - 1) _ w < 1000000 ∧ tB s w < 2 ^ (dl (upN (tL s) (tN s - 1) _ w) - 1)
          rw [upN_n _ _ (by omega)]; exact h6 w hw
        · show dl (upN (tL s) (tN s - 1) _ (tN s - 1)) = tS s + 1 ∧ figs 5 (upN (tL s) (tN s - 1) _ (tN s - 1)) ∧ upN (tL s) (tN s - 1) _ (tN s - 1) < 10 ^ (tS s + 1) ∧ _
          rw [upN_s]
          refine ⟨by rw [p1, g1], p2, by rw [Nat.pow_succ]; omega, fun _ => ?_, fun q => absurd q (by show ¬ (0 : Nat) = 1; omega)⟩
          show tB s (tN s - 1) < 2 ^ (tS s + 1 - 1)
          rw [Nat.add_sub_cancel]
          rcases Nat.eq_zero_or_pos (tH s) with q | q
          · exact Nat.lt_of_lt_of_le (g4 q) (Nat.pow_le_pow_right (by omega) (by omega))
          · exact g5 (by omega)
      · rw [if_neg c3] at e; cases e
theorem runT_ok {a : Nat → Nat} : ∀ i s, runT a i = some s → tsOK s
  | 0, s, h => by
    cases h
    exact ⟨by show 0 ≤ 6; omega, by show 0 ≤ 6; omega, by show 0 ≤ 1; omega, fun _ => ⟨rfl, rfl⟩, fun q => absurd q (by show ¬ (0 : Nat) = 1; omega), fun w hw => absurd hw (Nat.not_lt_zero _), fun q => absurd q (by show ¬ 1 ≤ 0; omega)⟩
  | i + 1, s, h => by
    cases hq : runT a i with
    | none => rw [runT, hq] at h; cases h
    | some s0 =>
      rw [runT_s hq] at h
      exact stepT_ok (runT_ok i s0 hq) h
def txR (N : Nat) (a : Nat → Nat) (f : Nat → Int32) : Prop := ∀ i, i < N → f i = nI (a i) ∧ a i ≤ 255
theorem s_isLetter {v : Nat} (hv : v ≤ 255) : OK (m_X8_isLetter 3000 (nI v)) (fun r => (97 ≤ v ∧ v ≤ 101 ∧ r = 1) ∨ (¬ (97 ≤ v ∧ v ≤ 101) ∧ r = 0)) := by
  unfold m_X8_isLetter
  refine OK.lt v 97 (by omega) (by omega) (fun h => OK.s (Or.inr ⟨by omega, rfl⟩)) (fun h => ?_)
  exact OK.lt 101 v (by omega) (by omega) (fun h2 => OK.s (Or.inr ⟨by omega, rfl⟩)) (fun h2 => OK.s (Or.inl ⟨h, h2, rfl⟩))
theorem s_firstFault {N : Nat} {a : Nat → Nat} {f : Nat → Int32} (hN : N ≤ 64) (hf : txR N a f) : OK (m_X8_firstFault 3000 (nI N) f) (fun r => FT a N r) := by
  unfold m_X8_firstFault
  refine OK.w4 (fun t x y z i => i = nI t ∧ ∃ s, runT a t = some s ∧ x = nI (tN s) ∧ y = nI (tS s) ∧ z = nI (tH s)) N ?_ (by omega) ⟨rfl, _, rfl, rfl, rfl, rfl⟩
  rintro t x y z i k ⟨rfl, s, hs, rfl, rfl, rfl⟩ ht hk
  obtain ⟨h1, h2, h3, h4, h5, h6, h7⟩ := runT_ok t s hs
  refine OK.le N t (by omega) (by omega) (fun e => ?_) (fun e => ?_)
  · have et : t = N := by omega
    subst et
    refine OK.le (tN s) 0 (by omega) (by omega) (fun q => OK.s (Or.inr ⟨s, hs, Or.inl ⟨Or.inl (by omega), rfl⟩⟩)) (fun q => ?_)
    refine OK.j0 (¬ clo s) (fun c => OK.s (Or.inr ⟨s, hs, Or.inr ⟨c, rfl⟩⟩)) (fun k1 hk1 => ?_)
    refine OK.lt (tS s) 2 (by omega) (by omega) (fun c => hk1 (fun w => by unfold clo at w; omega)) (fun c => ?_)
    refine OK.eq (tH s) 0 (by omega) (by omega) (fun d => OK.s (Or.inr ⟨s, hs, Or.inl ⟨Or.inr ⟨c, d⟩, rfl⟩⟩)) (fun d => hk1 (fun w => by unfold clo at w; omega))
  obtain ⟨f1, f2⟩ := hf t e
  refine OK.rd t rfl (by omega) ?_
  rw [f1]
  have flt : stepT s (a t) = none → FT a N (nI t) := fun q => Or.inl ⟨t, s, e, hs, q, rfl⟩
  refine OK.j1 (fun y => (y = 0 ∧ clo s) ∨ (y = 1 ∧ ¬ clo s)) ?_ (fun k1 hk1 => ?_)
  · intro y hy
    refine OK.j2 (fun p q => ∃ s', stepT s (a t) = some s' ∧ p = nI (tN s') ∧ q = nI (tS s') ∧ tH s' = if a t = 45 then 1 else 0) ?_ (fun k2 hk2 => ?_)
    · rintro p q ⟨s', e1, rfl, rfl, e2⟩
      refine OK.ju1 ?_
      refine OK.eq (a t) 45 (by omega) (by omega) (fun c => hk e _ _ _ _ ⟨nI_1 t, s', by rw [runT_s hs]; exact e1, rfl, rfl, by rw [e2, if_pos c]; rfl⟩) (fun c => hk e _ _ _ _ ⟨nI_1 t, s', by rw [runT_s hs]; exact e1, rfl, rfl, by rw [e2, if_neg c]; rfl⟩)
    · refine OK.eq (a t) 87 (by omega) (by omega) (fun c => ?_) (fun c => ?_)
      · rcases hy with ⟨rfl, hc⟩ | ⟨rfl, hc⟩
        · refine OK.t rfl ?_
          refine OK.eq (tN s) 6 (by omega) (by omega) (fun d => OK.s (flt ?_)) (fun d => hk2 _ _ ⟨(tN s + 1, 0, 0, upN (tL s) (tN s) 0, upN (tB s) (tN s) 0), ?_, nI_1 _, rfl, by rw [if_neg (by omega)]⟩)
          · unfold stepT; rw [if_pos c, if_neg (by omega)]
          · unfold stepT; rw [if_pos c, if_pos]
            unfold clo at hc
            refine ⟨?_, by omega, by omega⟩
            rcases hc with q | q
            · exact (h4 q).2
            · exact q.2
        · refine OK.f (by decide) (OK.s (flt ?_))
          unfold stepT; rw [if_pos c, if_neg]
          unfold clo at hc; omega
      · refine OK.eq (a t) 45 (by omega) (by omega) (fun d => ?_) (fun d => ?_)
        · refine OK.eq (tS s) 0 (by omega) (by omega) (fun q => OK.s (flt (by unfold stepT; rw [if_neg c, if_pos d, if_neg (by omega)]))) (fun q => ?_)
          refine OK.eq (tS s) 6 (by omega) (by omega) (fun q => OK.s (flt (by unfold stepT; rw [if_neg c, if_pos d, if_neg (by omega)]))) (fun q2 => ?_)
          refine OK.eq (tH s) 0 (by omega) (by omega) (fun w => hk2 _ _ ⟨(tN s, tS s, 1, tL s, upN (tB s) (tN s - 1) (tB s (tN s - 1) + 2 ^ (tS s - 1))), (by unfold stepT; rw [if_neg c, if_pos d, if_pos ⟨w, by omega, by omega⟩]), rfl, rfl, by rw [if_pos d]⟩) (fun w => OK.s (flt (by unfold stepT; rw [if_neg c, if_pos d, if_neg (by omega)])))
        · refine OK.b1 (s_isLetter f2) (fun r hr => ?_)
          rcases hr with ⟨r1, r2, rfl⟩ | ⟨r1, rfl⟩
          · refine OK.f (by decide) ?_
            refine OK.eq (tN s) 0 (by omega) (by omega) (fun q => OK.s (flt (by unfold stepT; rw [if_neg c, if_neg d, if_neg (by omega)]))) (fun q => ?_)
            refine OK.eq (tS s) 6 (by omega) (by omega) (fun q => OK.s (flt (by unfold stepT; rw [if_neg c, if_neg d, if_neg (by omega)]))) (fun q2 => ?_)
            exact hk2 _ _ ⟨(tN s, tS s + 1, 0, upN (tL s) (tN s - 1) (10 * tL s (tN s - 1) + (a t - 96)), tB s), (by unfold stepT; rw [if_neg c, if_neg d, if_pos ⟨r1, r2, by omega, by omega⟩]), rfl, nI_1 _, by rw [if_neg d]⟩
          · exact OK.t rfl (OK.s (flt (by unfold stepT; rw [if_neg c, if_neg d, if_neg (by omega)])))
  · refine OK.j0 (clo s) (fun c => hk1 _ (Or.inl ⟨rfl, c⟩)) (fun k2 hk2 => ?_)
    refine OK.le (tN s) 0 (by omega) (by omega) (fun q => hk2 (Or.inl (by omega))) (fun q => ?_)
    refine OK.j0 (¬ clo s) (fun c => hk1 _ (Or.inr ⟨rfl, c⟩)) (fun k3 hk3 => ?_)
    refine OK.lt (tS s) 2 (by omega) (by omega) (fun c => hk3 (fun w => by unfold clo at w; omega)) (fun c => ?_)
    exact OK.eq (tH s) 0 (by omega) (by omega) (fun d => hk2 (Or.inr ⟨c, d⟩)) (fun d => hk3 (fun w => by unfold clo at w; omega))
/-! ## the reference reads the list -/
def rpR (s : TS) (f : Nat → Int32) : Prop := f 0 = nI (tN s) ∧ ∀ w, w < tN s → f (1 + w) = nI (tL s w) ∧ f (7 + w) = nI (tB s w)
theorem s_readList {N : Nat} {a : Nat → Nat} {f : Nat → Int32} (hN : N ≤ 64) (hf : txR N a f) (g : Nat → Int32) : OK (m_X11_readList 3000 (nI N) g f) (fun u => FT a N u.1 ∧ (u.1 = -9 → ∃ s, runT a N = some s ∧ clo s ∧ rpR s u.2)) := by
  unfold m_X11_readList
  refine OK.st 0 rfl (by omega) ?_
  refine OK.w4 (fun t y z i g => i = nI t ∧ ∃ s, runT a t = some s ∧ y = nI (tS s) ∧ z = nI (tH s) ∧ rpR s g) N ?_ (by omega) ⟨rfl, _, rfl, rfl, rfl, upd_s _ _ _, fun w hw => absurd hw (Nat.not_lt_zero _)⟩
  rintro t y z i g1 k ⟨rfl, s, hs, rfl, rfl, hg⟩ ht hk
  obtain ⟨h1, h2, h3, h4, h5, h6, h7⟩ := runT_ok t s hs
  obtain ⟨hg0, hgw⟩ := hg
  refine OK.le N t (by omega) (by omega) (fun e => ?_) (fun e => ?_)
  · have et : t = N := by omega
    subst et
    refine OK.j0 (¬ clo s) (fun c => OK.s ⟨Or.inr ⟨s, hs, Or.inr ⟨c, rfl⟩⟩, fun q => absurd q (n_m9 (by omega))⟩) (fun k1 hk1 => ?_)
    refine OK.eq (tH s) 0 (by omega) (by omega) (fun d => ?_) (fun d => hk1 (fun w => by
      unfold clo at w
      rcases w with w | w
      · have := (h4 w).2; omega
      · omega))
    refine OK.rd 0 rfl (by omega) ?_
    rw [hg0]
    refine OK.le (tN s) 0 (by omega) (by omega) (fun q => OK.s ⟨Or.inr ⟨s, hs, Or.inl ⟨Or.inl (by omega), rfl⟩⟩, fun _ => ⟨s, hs, Or.inl (by omega), hg0, hgw⟩⟩) (fun q => ?_)
    refine OK.le 2 (tS s) (by omega) (by omega) (fun c => OK.s ⟨Or.inr ⟨s, hs, Or.inl ⟨Or.inr ⟨c, d⟩, rfl⟩⟩, fun _ => ⟨s, hs, Or.inr ⟨c, d⟩, hg0, hgw⟩⟩) (fun c => hk1 (fun w => by unfold clo at w; omega))
  obtain ⟨f1, f2⟩ := hf t e
  refine OK.rd t rfl (by omega) ?_
  rw [f1]
  refine OK.rd 0 rfl (by omega) ?_
  rw [hg0]
  refine OK.l ?_
  have flt : stepT s (a t) = none → OK (some (nI t, g1)) (fun u => FT a N u.1 ∧ (u.1 = -9 → ∃ s, runT a N = some s ∧ clo s ∧ rpR s u.2)) := fun q => OK.s ⟨Or.inl ⟨t, s, e, hs, q, rfl⟩, fun w => absurd w (n_m9 (by omega))⟩
  refine OK.j0 (a t ≠ 87 ∨ stepT s (a t) = none) (fun c87 => ?_) (fun k1 hk1 => ?_)
  · refine OK.j0 ((a t ≠ 87 ∧ a t ≠ 45) ∨ stepT s (a t) = none) (fun c45 => ?_) (fun k2 hk2 => ?_)
    · refine OK.b1 (s_inB (a := 97) (b := 101) (by omega) (by omega) (nI (a t))) (fun r hr => ?_)
      rcases hr with ⟨⟨v, r1, r2, r3⟩, rfl⟩ | ⟨r1, rfl⟩
      · rw [nI_eq (by omega) (by omega)] at r3
        rw [← r3] at r1 r2
        refine OK.f (by decide) ?_
        rcases Nat.eq_zero_or_pos (tN s) with q | q
        · rw [q]
          exact OK.t (by decide) (flt (by unfold stepT; rw [if_neg (by omega), if_neg (by omega), if_neg (by omega)]))
        rw [n_sub1 (by omega)]
        refine OK.lt (tN s - 1) 0 (by omega) (by omega) (fun q => by omega) (fun _ => ?_)
        refine OK.le 6 (tS s) (by omega) (by omega) (fun q => flt (by unfold stepT; rw [if_neg (by omega), if_neg (by omega), if_neg (by omega)])) (fun q2 => ?_)
        obtain ⟨g1', g2, g3, g4, g5⟩ := h7 q
        have g6 : 10 ^ tS s ≤ 10 ^ 5 := Nat.pow_le_pow_right (by omega) (by omega)
        refine OK.rd (1 + (tN s - 1)) (nI_add 1 _) (by omega) ?_
        rw [(hgw (tN s - 1) (by omega)).1]
        refine OK.st (1 + (tN s - 1)) (nI_add 1 _) (by omega) ?_
        refine hk e _ _ _ _ ⟨nI_1 t, (tN s, tS s + 1, 0, upN (tL s) (tN s - 1) (10 * tL s (tN s - 1) + (a t - 96)), tB s), by rw [runT_s hs]; unfold stepT; rw [if_neg (by omega), if_neg (by omega), if_pos ⟨r1, r2, q, by omega⟩], nI_1 _, rfl, ?_, fun w hw => ⟨?_, ?_⟩⟩
        · rw [upd_n _ _ (by omega)]; exact hg0
        · have hw : w < tN s := hw
          show _ = nI (upN (tL s) (tN s - 1) _ w)
          by_cases ew : w = tN s - 1
          · subst ew
            rw [upd_s, upN_s, show (10 : Int32) = nI 10 from rfl, pk_mul, nI_add, show (97 : Int32) = nI 97 from rfl, pk_sub (by omega), nI_1]
            congr 1; omega
          · rw [upd_n _ _ (by omega), upN_n _ _ ew]; exact (hgw w hw).1
        · have hw : w < tN s := hw
          rw [upd_n _ _ (by omega)]; exact (hgw w hw).2
      · have hnl : ¬ (97 ≤ a t ∧ a t ≤ 101) := fun q => r1 ⟨a t, q.1, q.2, rfl⟩
        refine OK.t rfl (flt ?_)
        rcases c45 with c | c
        · unfold stepT; rw [if_neg c.1, if_neg c.2, if_neg (by omega)]
        · exact c
    · refine OK.eq (a t) 45 (by omega) (by omega) (fun d => ?_) (fun d => hk2 (c87.elim (fun c => Or.inl ⟨c, d⟩) Or.inr))
      rcases Nat.eq_zero_or_pos (tN s) with q | q
      · rw [q]
        refine OK.t (by decide) (hk2 (Or.inr ?_))
        have := (h4 q).1
        unfold stepT; rw [if_neg (by omega), if_pos d, if_neg (by omega)]
      rw [n_sub1 (by omega)]
      refine OK.lt (tN s - 1) 0 (by omega) (by omega) (fun q => by omega) (fun _ => ?_)
      refine OK.eq (tH s) 0 (by omega) (by omega) (fun w => ?_) (fun w => hk2 (Or.inr (by unfold stepT; rw [if_neg (by omega), if_pos d, if_neg (by omega)])))
      refine OK.b1 (s_inB (a := 1) (b := 5) (by omega) (by omega) (nI (tS s))) (fun r hr => ?_)
      rcases hr with ⟨⟨v, r1, r2, r3⟩, rfl⟩ | ⟨r1, rfl⟩
      · rw [nI_eq (by omega) (by omega)] at r3
        rw [← r3] at r1 r2
        refine OK.f (by decide) ?_
        obtain ⟨g1', g2, g3, g4, g5⟩ := h7 q
        refine OK.rd (7 + (tN s - 1)) (nI_add 7 _) (by omega) ?_
        rw [(hgw (tN s - 1) (by omega)).2]
        refine OK.st (7 + (tN s - 1)) (nI_add 7 _) (by omega) ?_
        have ho := n_or (tS s - 1) (by omega) _ (g4 w) 1 (by omega)
        rw [Nat.one_mul] at ho
        rw [n_sub1 r1, shl_at (by omega), ho]
        refine hk e _ _ _ _ ⟨nI_1 t, (tN s, tS s, 1, tL s, upN (tB s) (tN s - 1) (tB s (tN s - 1) + 2 ^ (tS s - 1))), by rw [runT_s hs]; unfold stepT; rw [if_neg (by omega), if_pos d, if_pos ⟨w, r1, r2⟩], rfl, rfl, ?_, fun w hw => ⟨?_, ?_⟩⟩
        · rw [upd_n _ _ (by omega)]; exact hg0
        · have hw : w < tN s := hw
          rw [upd_n _ _ (by omega)]; exact (hgw w hw).1
        · have hw : w < tN s := hw
          show _ = nI (upN (tB s) (tN s - 1) _ w)
          by_cases ew : w = tN s - 1
          · subst ew
            rw [upd_s, upN_s]
          · rw [upd_n _ _ (by omega), upN_n _ _ ew]; exact (hgw w hw).2
      · have : ¬ (1 ≤ tS s ∧ tS s ≤ 5) := fun q => r1 ⟨tS s, q.1, q.2, rfl⟩
        exact OK.t rfl (hk2 (Or.inr (by unfold stepT; rw [if_neg (by omega), if_pos d, if_neg (by omega)])))
  · refine OK.eq (a t) 87 (by omega) (by omega) (fun c => ?_) (fun c => hk1 (Or.inl c))
    refine OK.eq (tH s) 0 (by omega) (by omega) (fun d => ?_) (fun d => hk1 (Or.inr (by unfold stepT; rw [if_pos c, if_neg (by omega)])))
    refine OK.j0 (tN s = 0 ∨ 2 ≤ tS s) (fun q => ?_) (fun k2 hk2 => ?_)
    · have key : tN s < 6 → OK (rdK 22 g1 0 (fun v21 => stK 22 g1 0 (v21 + 1) (fun f22 => stK 22 f22 ((1 + (nI (tN s) - 1)) + 1) 0 (fun f23 => stK 22 f23 ((7 + (nI (tN s) - 1)) + 1) 0 (fun f24 => k 0 (nI (tH s)) (nI t + 1) f24))))) (fun u => FT a N u.1 ∧ (u.1 = -9 → ∃ s, runT a N = some s ∧ clo s ∧ rpR s u.2)) := by
        intro h6'
        have e1 : (1 : Int32) + (nI (tN s) - 1) + 1 = nI (1 + tN s) := by
          rw [Int32.add_assoc, Int32.sub_add_cancel]; exact nI_add 1 _
        have e7 : (7 : Int32) + (nI (tN s) - 1) + 1 = nI (7 + tN s) := by
          rw [Int32.add_assoc, Int32.sub_add_cancel]; exact nI_add 7 _
        refine OK.rd 0 rfl (by omega) ?_
        rw [hg0, e1, e7]
        refine OK.st 0 rfl (by omega) (OK.st (1 + tN s) rfl (by omega) (OK.st (7 + tN s) rfl (by omega) ?_))
        refine hk e _ _ _ _ ⟨nI_1 t, (tN s + 1, 0, 0, upN (tL s) (tN s) 0, upN (tB s) (tN s) 0), by rw [runT_s hs]; unfold stepT; rw [if_pos c, if_pos ⟨d, q, h6'⟩], rfl, by rw [d], ?_, fun w hw => ⟨?_, ?_⟩⟩
        · rw [upd_n _ _ (by omega), upd_n _ _ (by omega), upd_s]; exact nI_1 _
        · have hw : w < tN s + 1 := hw
          show _ = nI (upN (tL s) (tN s) 0 w)
          rw [upd_n _ _ (by omega)]
          by_cases ew : w = tN s
          · subst ew; rw [upd_s, upN_s]; rfl
          · rw [upd_n _ _ (by omega), upd_n _ _ (by omega), upN_n _ _ ew]; exact (hgw w (by omega)).1
        · have hw : w < tN s + 1 := hw
          show _ = nI (upN (tB s) (tN s) 0 w)
          by_cases ew : w = tN s
          · subst ew; rw [upd_s, upN_s]; rfl
          · rw [upd_n _ _ (by omega), upd_n _ _ (by omega), upd_n _ _ (by omega), upN_n _ _ ew]; exact (hgw w (by omega)).2
      rcases Nat.eq_zero_or_pos (tN s) with w | w
      · refine OK.f (by rw [w]; decide) (key (by omega))
      · refine OK.i (fun h => hk1 (Or.inr ?_)) (fun h => key ?_)
        · rw [n_sub1 (by omega), show (5 : Int32) = nI 5 from rfl, nI_leI (by omega) (by omega)] at h
          unfold stepT; rw [if_pos c, if_neg (by omega)]
        · rw [n_sub1 (by omega), show (5 : Int32) = nI 5 from rfl, nI_leI (by omega) (by omega)] at h
          omega
    · rcases Nat.eq_zero_or_pos (tN s) with q | q
      · rw [q]; exact OK.t (by decide) (hk2 (Or.inl q))
      rw [n_sub1 (by omega)]
      refine OK.lt (tN s - 1) 0 (by omega) (by omega) (fun q => by omega) (fun _ => ?_)
      exact OK.le (tS s) 1 (by omega) (by omega) (fun w => hk1 (Or.inr (by unfold stepT; rw [if_pos c, if_neg (by omega)]))) (fun w => hk2 (Or.inr (by omega)))
/-! ## the class reads the list -/
theorem tsOK.w {s : TS} (h : tsOK s) (hc : clo s) {w : Nat} (hw : w < tN s) : isW (tL s w) ∧ tL s w < 1000000 ∧ tB s w < 2 ^ (dl (tL s w) - 1) := by
  obtain ⟨h1, h2, h3, h4, h5, h6, h7⟩ := h
  by_cases q : w + 1 < tN s
  · exact h6 w q
  · obtain ⟨g1, g2, g3, g4, g5⟩ := h7 (by omega)
    have ew : w = tN s - 1 := by omega
    unfold clo at hc
    have g6 : 10 ^ tS s ≤ 10 ^ 6 := Nat.pow_le_pow_right (by omega) h2
    rw [ew, g1]
    exact ⟨⟨by omega, by omega, g2⟩, by omega, g4 (by omega)⟩
def skR (n : Nat) (s : TS) (l b z : Nat → Int32) : Prop := ∀ w, w < n → l w = nI (tL s w) ∧ b w = nI (tB s w) ∧ z w = nI (dl (tL s w))
theorem s_readInto {N : Nat} {a : Nat → Nat} {f : Nat → Int32} (hN : N ≤ 64) (hf : txR N a f) {sN : TS} (hrun : runT a N = some sN) (hclo : clo sN) (z0 : Int32) (l b z : Nat → Int32) : OK (m_X8_readInto 3000 (nI N) z0 f l b z) (fun u => u.1 = nI (tN sN) ∧ skR (tN sN) sN u.2.1 u.2.2.1 u.2.2.2) := by
  unfold m_X8_readInto
  have hall : ∀ i, i ≤ N → ∃ s, runT a i = some s := by
    intro i hi
    cases hq : runT a i with
    | none => rw [runT_n hq N hi] at hrun; cases hrun
    | some s => exact ⟨s, rfl⟩
  refine OK.w8 (fun t x y v i m l b z => i = nI t ∧ ∃ s, runT a t = some s ∧ ((t = N ∨ t = 0 ∨ a t = 87) → m = nI (tN s) ∧ skR (tN s) s l b z) ∧ (¬ (t = N ∨ t = 0 ∨ a t = 87) → 1 ≤ tN s ∧ x = nI (tL s (tN s - 1)) ∧ y = nI (tB s (tN s - 1)) ∧ v = nI (tS s) ∧ m = nI (tN s - 1) ∧ skR (tN s - 1) s l b z)) N ?_ (by omega) ⟨rfl, _, rfl, fun _ => ⟨rfl, fun w hw => absurd hw (Nat.not_lt_zero _)⟩, fun q => absurd (Or.inr (Or.inl rfl)) q⟩
  rintro t x y v i m l b z k ⟨rfl, s, hs, hA, hB⟩ ht hk
  have ok := runT_ok t s hs
  obtain ⟨h1, h2, h3, h4, h5, h6, h7⟩ := ok
  refine OK.le N t (by omega) (by omega) (fun e => ?_) (fun e => ?_)
  · have et : t = N := by omega
    subst et
    rw [hs] at hrun; cases hrun
    obtain ⟨q1, q2⟩ := hA (Or.inl rfl)
    exact OK.s ⟨q1, q2⟩
  obtain ⟨f1, f2⟩ := hf t e
  obtain ⟨s', hs'⟩ := hall (t + 1) (by omega)
  have ok' := runT_ok (t + 1) s' hs'
  have hst := hs'
  rw [runT_s hs] at hst
  refine OK.rd t rfl (by omega) ?_
  rw [f1]
  -- after the letter: what is being read is the last word of s'
  refine OK.j3 (fun p q r => 1 ≤ tN s' ∧ p = nI (tL s' (tN s' - 1)) ∧ q = nI (tB s' (tN s' - 1)) ∧ r = nI (tS s') ∧ m = nI (tN s' - 1) ∧ skR (tN s' - 1) s' l b z) ?_ (fun k1 hk1 => ?_)
  · rintro p q r ⟨c1, rfl, rfl, rfl, rfl, c6⟩
    have hput : clo s' → OK (bK4 (m_X7_putAt 3000 (nI (tN s' - 1)) (nI (tL s' (tN s' - 1))) (nI (tB s' (tN s' - 1))) (nI (tN s' - 1)) l b z) (fun z16 f17 f18 f19 => k (nI (tL s' (tN s' - 1))) (nI (tB s' (tN s' - 1))) (nI (tS s')) (nI t + 1) z16 f17 f18 f19)) (fun u => u.1 = nI (tN sN) ∧ skR (tN sN) sN u.2.1 u.2.2.1 u.2.2.2) ∨ ¬ (t + 1 = N ∨ a (t + 1) = 87) := by
      intro hc'
      by_cases hend : t + 1 = N ∨ a (t + 1) = 87
      · left
        obtain ⟨w1, w2, w3⟩ := ok'.w hc' (w := tN s' - 1) (by omega)
        have hn6 := ok'.1
        refine OK.b4 (s_putAt (W := tN s' - 1) (v := tN s' - 1) (b := tB s' (tN s' - 1)) (by omega) (by omega) w1 (by omega) l b z) (fun z16 f17 f18 f19 hq => ?_)
        obtain ⟨q1, ⟨q2, q3, q4⟩, q5, q6⟩ := hq
        refine hk e _ _ _ _ _ _ _ _ ⟨nI_1 t, s', hs', fun _ => ⟨?_, fun w hw => ?_⟩, fun q => absurd (hend.elim Or.inl (fun q => Or.inr (Or.inr q))) q⟩
        · rw [show z16 = _ from q1]; congr 1; omega
        · by_cases ew : w = tN s' - 1
          · subst ew; exact ⟨q2, q3, q4⟩
          · obtain ⟨a1, a2, a3⟩ := q5 w (by omega)
            obtain ⟨b1, b2, b3⟩ := c6 w (by omega)
            exact ⟨a1.trans b1, a2.trans b2, a3.trans b3⟩
      · exact Or.inr hend
    rw [nI_1]
    rw [nI_1] at hput
    refine OK.j0 (t + 1 = N ∨ a (t + 1) = 87) (fun hend => ?_) (fun k2 hk2 => ?_)
    · have hc' : clo s' := by
        rcases hend with q | q
        · subst q
          rw [hs'] at hrun; cases hrun
          exact hclo
        · by_cases q2 : t + 1 = N
          · subst q2
            rw [hs'] at hrun; cases hrun
            exact hclo
          · obtain ⟨s2, hs2⟩ := hall (t + 2) (by omega)
            rw [runT_s hs'] at hs2
            unfold stepT at hs2
            rw [if_pos q] at hs2
            by_cases c : tH s' = 0 ∧ (tN s' = 0 ∨ 2 ≤ tS s') ∧ tN s' < 6
            · unfold clo; omega
            · rw [if_neg c] at hs2; cases hs2
      rcases hput hc' with q | q
      · exact q
      · exact absurd hend q
    · refine OK.eq (t + 1) N (by omega) (by omega) (fun q => hk2 (Or.inl q)) (fun q => ?_)
      obtain ⟨f3, f4⟩ := hf (t + 1) (by omega)
      refine OK.rd (t + 1) rfl (by omega) ?_
      rw [f3]
      refine OK.eq (a (t + 1)) 87 (by omega) (by omega) (fun w => hk2 (Or.inr w)) (fun w => ?_)
      exact hk e _ _ _ _ _ _ _ _ ⟨rfl, s', hs', fun v => by omega, fun _ => ⟨c1, rfl, rfl, rfl, rfl, c6⟩⟩
  · unfold stepT at hst
    refine OK.eq (a t) 87 (by omega) (by omega) (fun c => hk1 _ _ _ ?_) (fun c => ?_)
    · rw [if_pos c] at hst
      by_cases d : tH s = 0 ∧ (tN s = 0 ∨ 2 ≤ tS s) ∧ tN s < 6
      · rw [if_pos d] at hst
        cases hst
        obtain ⟨q1, q2⟩ := hA (Or.inr (Or.inr c))
        refine ⟨by show 1 ≤ tN s + 1; omega, ?_, ?_, rfl, ?_, fun w hw => ?_⟩
        · show (0 : Int32) = nI (upN (tL s) (tN s) 0 (tN s + 1 - 1))
          rw [Nat.add_sub_cancel, upN_s]; rfl
        · show (0 : Int32) = nI (upN (tB s) (tN s) 0 (tN s + 1 - 1))
          rw [Nat.add_sub_cancel, upN_s]; rfl
        · show m = nI (tN s + 1 - 1)
          rw [Nat.add_sub_cancel]; exact q1
        · have hw : w < tN s := by have : w < tN s + 1 - 1 := hw; omega
          show l w = nI (upN (tL s) (tN s) 0 w) ∧ b w = nI (upN (tB s) (tN s) 0 w) ∧ z w = nI (dl (upN (tL s) (tN s) 0 w))
          rw [upN_n _ _ (by omega), upN_n _ _ (by omega)]
          exact q2 w hw
      · rw [if_neg d] at hst; cases hst
    · rw [if_neg c] at hst
      have ht0 : t ≠ 0 := by
        intro q
        subst q
        cases hs
        by_cases d : a 0 = 45
        · rw [if_pos d, if_neg (by decide)] at hst; cases hst
        · rw [if_neg d, if_neg (by show ¬ (97 ≤ a 0 ∧ a 0 ≤ 101 ∧ 1 ≤ 0 ∧ 0 ≤ 5); omega)] at hst; cases hst
      obtain ⟨b1, rfl, rfl, rfl, rfl, b6⟩ := hB (by omega)
      obtain ⟨g1', g2, g3, g4, g5⟩ := h7 b1
      refine OK.eq (a t) 45 (by omega) (by omega) (fun d => OK.l (hk1 _ _ _ ?_)) (fun d => OK.l (hk1 _ _ _ ?_))
      · rw [if_pos d] at hst
        by_cases w : tH s = 0 ∧ 1 ≤ tS s ∧ tS s ≤ 5
        · rw [if_pos w] at hst
          cases hst
          have ho := n_or (tS s - 1) (by omega) _ (g4 w.1) 1 (by omega)
          rw [Nat.one_mul] at ho
          rw [n_sub1 w.2.1, shl_at (by omega), ho]
          refine ⟨b1, rfl, ?_, rfl, rfl, fun v hv => ?_⟩
          · show _ = nI (upN (tB s) (tN s - 1) _ (tN s - 1))
            rw [upN_s]
          · have hv : v < tN s - 1 := hv
            show l v = nI (tL s v) ∧ b v = nI (upN (tB s) (tN s - 1) _ v) ∧ z v = nI (dl (tL s v))
            rw [upN_n _ _ (by omega)]; exact b6 v hv
        · rw [if_neg w] at hst; cases hst
      · rw [if_neg d] at hst
        by_cases w : 97 ≤ a t ∧ a t ≤ 101 ∧ 1 ≤ tN s ∧ tS s ≤ 5
        · rw [if_pos w] at hst
          cases hst
          refine ⟨b1, ?_, rfl, nI_1 _, rfl, fun v hv => ?_⟩
          · show _ = nI (upN (tL s) (tN s - 1) _ (tN s - 1))
            rw [upN_s, show (10 : Int32) = nI 10 from rfl, pk_mul, nI_add, show (97 : Int32) = nI 97 from rfl, pk_sub (by omega), nI_1]
            congr 1; omega
          · have hv : v < tN s - 1 := hv
            show l v = nI (upN (tL s) (tN s - 1) _ v) ∧ b v = nI (tB s v) ∧ z v = nI (dl (upN (tL s) (tN s - 1) _ v))
            rw [upN_n _ _ (by omega)]; exact b6 v hv
        · rw [if_neg w] at hst; cases hst
