/-! ===== 47.index: the class's index of patterns ===== -/
def clen (k : Nat) : Nat := if k / 4 < 7 then 1 else if k / 4 < 49 then 2 else 3
theorem sg_p {c : Nat} (h : okW c) (k : Nat) (hk : k ≤ dl c + 1) : 1 ≤ sg c k := by
  by_cases h0 : k = 0
  · subst h0; show 1 ≤ 6; omega
  · by_cases h1 : k = dl c + 1
    · subst h1; unfold sg; rw [if_neg (by omega), if_pos rfl]; omega
    · exact (sg_1 h.2 (by omega) (by omega)).1
theorem clen_pcd {c p t : Nat} (h : okW c) (ht : t < 9) (hf : pf c p t) : clen (pcd c p t) = sS t := by
  have hg := (sSG t ht).2.2
  have hs := (sSG t ht)
  have e1 : pcd c p t / 4 = strv (sg c) (p + 2 - sG t) (sS t) := by unfold pcd; omega
  unfold clen
  rw [e1]
  obtain ⟨f1, f2⟩ := hf
  have hcase : sS t = 1 ∨ sS t = 2 ∨ sS t = 3 := by omega
  have a0 := fun (i : Nat) (hi : i < sS t) => sg_p h (p + 2 - sG t + i) (by omega)
  have b0 := fun (i : Nat) => h.sg (p + 2 - sG t + i)
  rcases hcase with e | e | e
  · rw [e]
    have := b0 0
    have e2 : strv (sg c) (p + 2 - sG t) 1 = 7 * 0 + sg c (p + 2 - sG t + 0) := rfl
    rw [if_pos (by omega)]
  · rw [e]
    have q0 := a0 0 (by omega); have q1 := b0 0; have q2 := b0 1
    have e2 : strv (sg c) (p + 2 - sG t) 2 = 7 * (7 * 0 + sg c (p + 2 - sG t + 0)) + sg c (p + 2 - sG t + 1) := rfl
    rw [if_neg (by omega), if_pos (by omega)]
  · rw [e]
    have q0 := a0 0 (by omega); have q1 := b0 0; have q2 := b0 1; have q3 := b0 2
    have e2 : strv (sg c) (p + 2 - sG t) 3 = 7 * (7 * (7 * 0 + sg c (p + 2 - sG t + 0)) + sg c (p + 2 - sG t + 1)) + sg c (p + 2 - sG t + 2) := rfl
    rw [if_neg (by omega), if_neg (by omega)]
/-- codes by numbers and numbers by codes: m of them, cd -/
def nmR (m : Nat) (cd : Nat → Nat) (known : Int32) (numbers codes : Nat → Int32) : Prop := known = nI m ∧ m ≤ 270 ∧ (∀ j, j < m → codes j = nI (cd j) ∧ cd j < 1372 ∧ numbers (cd j) = nI (j + 1)) ∧ ∀ k, k < 1372 → numbers k = 0 ∨ ∃ j, j < m ∧ numbers k = nI (j + 1) ∧ cd j = k
/-- the numbers of the second are those of the first, and more -/
def ext (m : Nat) (cd : Nat → Nat) (m' : Nat) (cd' : Nat → Nat) : Prop := m ≤ m' ∧ ∀ i, i < m → cd' i = cd i
theorem ext.rf {m : Nat} {cd : Nat → Nat} : ext m cd m cd := ⟨Nat.le_refl _, fun _ _ => rfl⟩
theorem ext.tr {m m1 m2 : Nat} {c c1 c2 : Nat → Nat} (h : ext m c m1 c1) (h2 : ext m1 c1 m2 c2) : ext m c m2 c2 := ⟨Nat.le_trans h.1 h2.1, fun i hi => by rw [h2.2 i (by have := h.1; omega), h.2 i hi]⟩
def entR (m : Nat) (cd : Nat → Nat) (fits : Nat → Int32) (L : Nat → Nat) (w p t : Nat) : Prop := (pf (L w) p t → ∃ j, j < m ∧ fits ((w * 5 + p) * 9 + t) = nI j ∧ cd j = pcd (L w) p t) ∧ (¬ pf (L w) p t → fits ((w * 5 + p) * 9 + t) = -1)
theorem entR.ex {m m' : Nat} {cd cd' : Nat → Nat} {fits : Nat → Int32} {L : Nat → Nat} {w p t : Nat} (h : entR m cd fits L w p t) (he : ext m cd m' cd') : entR m' cd' fits L w p t := by
  refine ⟨fun q => ?_, h.2⟩
  obtain ⟨j, h1, h2, h3⟩ := h.1 q
  exact ⟨j, by have := he.1; omega, h2, by rw [he.2 j h1]; exact h3⟩
theorem entR.up {m : Nat} {cd : Nat → Nat} {fits : Nat → Int32} {L : Nat → Nat} {w p t i : Nat} {v : Int32} (h : entR m cd fits L w p t) (he : (w * 5 + p) * 9 + t ≠ i) : entR m cd (upd fits i v) L w p t := by
  unfold entR
  rw [upd_n _ _ he]
  exact h
theorem s_numberFor {m : Nat} {cd : Nat → Nat} {known : Int32} {numbers codes : Nat → Int32} (h : nmR m cd known numbers codes) {k : Nat} (hk : k < 1372) (hm : m < 270) :
    OK (m_X3_numberFor 3000 (nI k) known numbers codes) (fun u => ∃ m' cd' j, nmR m' cd' u.2.1 u.2.2.1 u.2.2.2 ∧ u.1 = nI j ∧ j < m' ∧ cd' j = k ∧ ext m cd m' cd' ∧ m' ≤ m + 1 ∧ ∀ i, m ≤ i → i < m' → cd' i = k) := by
  obtain ⟨rfl, h1, h2, h3⟩ := h
  unfold m_X3_numberFor
  refine OK.rd k rfl hk ?_
  refine OK.ju3 ?_
  rcases h3 k hk with h4 | ⟨j, hj, h4, h5⟩
  · refine OK.t h4 ?_
    refine OK.le 270 m (by omega) (by omega) (fun h => by omega) (fun _ => ?_)
    refine OK.st m rfl (by omega) ?_
    refine OK.l ?_
    rw [nI_1]
    refine OK.st k rfl hk ?_
    refine OK.rd k rfl hk ?_
    rw [upd_s, nI_pred]
    refine OK.s ⟨m + 1, fun i => if i = m then k else cd i, m, ⟨rfl, by omega, fun i hi => ?_, fun q hq => ?_⟩, rfl, by omega, by simp, ⟨by omega, fun i hi => by simp [show ¬ i = m by omega]⟩, by omega, fun i h5 h6 => by simp [show i = m by omega]⟩
    · by_cases e : i = m
      · subst e
        simp only [if_true]
        exact ⟨upd_s _ _ _, hk, upd_s _ _ _⟩
      · obtain ⟨a1, a2, a3⟩ := h2 i (by omega)
        simp only [if_neg e]
        refine ⟨by rw [upd_n _ _ e]; exact a1, a2, ?_⟩
        rw [upd_n _ _ (fun q => ?_)]
        · exact a3
        · rw [q] at a3
          rw [a3] at h4
          exact absurd h4 (nI_ne0 (by omega) (by omega))
    · by_cases e : q = k
      · subst e
        exact Or.inr ⟨m, by omega, upd_s _ _ _, by simp⟩
      · show upd numbers k (nI (m + 1)) q = 0 ∨ ∃ j, j < m + 1 ∧ upd numbers k (nI (m + 1)) q = nI (j + 1) ∧ _
        rw [upd_n _ _ e]
        rcases h3 q hq with a1 | ⟨j, a1, a2, a3⟩
        · exact Or.inl a1
        · exact Or.inr ⟨j, by omega, a2, by simp [show ¬ j = m by omega, a3]⟩
  · refine OK.f (by rw [h4]; exact nI_ne0 (by omega) (by omega)) ?_
    refine OK.rd k rfl hk ?_
    rw [h4, nI_pred]
    exact OK.s ⟨m, cd, j, ⟨rfl, h1, h2, h3⟩, rfl, hj, h5, ext.rf, by omega, fun i h6 h7 => by omega⟩
theorem kFirst_n : ∀ n, n < 3 → kFirst (n + 1) = nI (fs (n + 1)) ∧ kFirst (n + 2) = nI (fs (n + 2)) ∧ fs (n + 2) = fs (n + 1) + (n + 2) ∧ fs (n + 2) ≤ 9 := by decide +kernel
/-- a word's patterns of n + 1 signs are taken -/
theorem s_takeWord {W : Nat} {L : Nat → Nat} (hL : lsOK W L) {w n : Nat} (hw : w < W) (hn : n < 3) {m : Nat} {cd : Nat → Nat} {known : Int32} {numbers codes fits signs : Nat → Int32} (h : nmR m cd known numbers codes) (hs : spelt (L w) signs)
    (hb : m ≤ 30 * fs (n + 1) + w * 5 * (n + 2)) {s : Nat} (hlen : ∀ j, s ≤ j → j < m → clen (cd j) = n + 1)
    (h1 : ∀ v, v < W → ∀ p, p + 2 ≤ dl (L v) → ∀ t, t < fs (n + 1) → entR m cd fits L v p t) (h2 : ∀ v, v < w → ∀ p, p + 2 ≤ dl (L v) → ∀ t, t < fs (n + 2) → entR m cd fits L v p t) :
    OK (m_X3_takeWord 3000 (nI w) (nI (n + 1)) known (nI (dl (L w))) signs fits numbers codes) (fun u => ∃ m' cd', nmR m' cd' u.1 u.2.2.1 u.2.2.2 ∧ ext m cd m' cd' ∧ m' ≤ 30 * fs (n + 1) + (w + 1) * 5 * (n + 2) ∧ (∀ j, s ≤ j → j < m' → clen (cd' j) = n + 1) ∧
      (∀ v, v < W → ∀ p, p + 2 ≤ dl (L v) → ∀ t, t < fs (n + 1) → entR m' cd' u.2.1 L v p t) ∧ (∀ v, v < w + 1 → ∀ p, p + 2 ≤ dl (L v) → ∀ t, t < fs (n + 2) → entR m' cd' u.2.1 L v p t)) := by
  unfold m_X3_takeWord
  obtain ⟨ok, d2, d6⟩ := hL.w hw
  have hW := hL.1
  obtain ⟨kf1, kf2, kf3, kf4⟩ := kFirst_n n hn
  rw [show nI (dl (L w)) - 1 = nI (dl (L w) - 1) by rw [show (1 : Int32) = nI 1 from rfl, pk_sub (by omega)]]
  refine OK.w5 (fun p x z f nu co => x = nI p ∧ ∃ m' cd', nmR m' cd' z nu co ∧ ext m cd m' cd' ∧ m' ≤ 30 * fs (n + 1) + (w * 5 + p) * (n + 2) ∧ (∀ j, s ≤ j → j < m' → clen (cd' j) = n + 1) ∧
      (∀ v, v < W → ∀ p, p + 2 ≤ dl (L v) → ∀ t, t < fs (n + 1) → entR m' cd' f L v p t) ∧ (∀ v, v < w → ∀ p, p + 2 ≤ dl (L v) → ∀ t, t < fs (n + 2) → entR m' cd' f L v p t) ∧ ∀ q, q < p → ∀ t, t < fs (n + 2) → entR m' cd' f L w q t) (dl (L w) - 1) ?_ (by omega)
    ⟨rfl, m, cd, h, ext.rf, hb, hlen, h1, h2, fun q hq => absurd hq (Nat.not_lt_zero _)⟩
  rintro p x z f nu co k ⟨rfl, m1, cd1, a1, a2, a3, a4, a5, a6, a7⟩ hp hk
  refine OK.le (dl (L w) - 1) p (by omega) (by omega) (fun h3 => OK.s ?_) (fun h3 => ?_)
  · refine ⟨m1, cd1, a1, a2, ?_, a4, a5, fun v hv q hq t ht => ?_⟩
    · have : (w * 5 + p) * (n + 2) ≤ (w + 1) * 5 * (n + 2) := Nat.mul_le_mul_right _ (by omega)
      omega
    · rcases Nat.lt_succ_iff_lt_or_eq.mp hv with e | e
      · exact a6 v e q hq t ht
      · subst e; exact a7 q (by omega) t ht
  refine OK.l ?_
  rw [show nI w * 5 + nI p = nI (w * 5 + p) by rw [show (5 : Int32) = nI 5 from rfl, pk_mul, nI_add]]
  refine OK.rd (n + 1) rfl (by omega) ?_
  rw [kf1]
  refine OK.w5 (fun g x z f nu co => x = nI (fs (n + 1) + g) ∧ ∃ m' cd', nmR m' cd' z nu co ∧ ext m cd m' cd' ∧ m' ≤ 30 * fs (n + 1) + (w * 5 + p) * (n + 2) + g ∧ (∀ j, s ≤ j → j < m' → clen (cd' j) = n + 1) ∧
      (∀ v, v < W → ∀ p, p + 2 ≤ dl (L v) → ∀ t, t < fs (n + 1) → entR m' cd' f L v p t) ∧ (∀ v, v < w → ∀ p, p + 2 ≤ dl (L v) → ∀ t, t < fs (n + 2) → entR m' cd' f L v p t) ∧ (∀ q, q < p → ∀ t, t < fs (n + 2) → entR m' cd' f L w q t) ∧ ∀ t, t < fs (n + 1) + g → entR m' cd' f L w p t) (n + 2) ?_ (by omega)
    ⟨rfl, m1, cd1, a1, a2, a3, a4, a5, a6, a7, fun t ht => a5 w hw p (by omega) t ht⟩
  rintro g x z1 f1 nu1 co1 k1 ⟨rfl, m2, cd2, b1, b2, b3, b4, b5, b6, b7, b8⟩ hg hk1
  refine OK.rd (n + 2) (nI_1 _) (by omega) ?_
  rw [kf2]
  refine OK.le (fs (n + 2)) (fs (n + 1) + g) (by omega) (by omega) (fun h4 => ?_) (fun h4 => ?_)
  · have eg : g = n + 2 := by omega
    subst eg
    refine hk (by omega) _ _ _ _ _ ⟨nI_1 p, m2, cd2, b1, b2, ?_, b4, b5, b6, fun q hq t ht => ?_⟩
    · have : (w * 5 + (p + 1)) * (n + 2) = (w * 5 + p) * (n + 2) + (n + 2) := Nat.succ_mul _ _
      omega
    · rcases Nat.lt_succ_iff_lt_or_eq.mp hq with e | e
      · exact b7 q e t ht
      · subst e; exact b8 t (by omega)
  have ht9 : fs (n + 1) + g < 9 := by omega
  have hix : (w * 5 + p) * 9 + (fs (n + 1) + g) < 270 := by omega
  refine OK.b1 (s_codeAt ok (p := p) (t := fs (n + 1) + g) (by omega) ht9 hs) (fun r hr => ?_)
  have hlm : m2 < 270 := by
    have : (w * 5 + p) * (n + 2) + (n + 2) ≤ 30 * (n + 2) := by
      rw [← Nat.succ_mul]
      exact Nat.mul_le_mul_right _ (by omega)
    omega
  have hidx : ∀ v q t, q + 2 ≤ dl (L v) → v < W → t < 9 → (v ≠ w ∨ q ≠ p ∨ t ≠ fs (n + 1) + g) → (v * 5 + q) * 9 + t ≠ (w * 5 + p) * 9 + (fs (n + 1) + g) := by
    intro v q t e1 e2 e3 e4
    have := (hL.w e2).2.2
    omega
  refine OK.j4 (fun y z2 nu2 co2 => ∃ m3 cd3, nmR m3 cd3 z2 nu2 co2 ∧ ext m2 cd2 m3 cd3 ∧ m3 ≤ m2 + 1 ∧ (∀ j, s ≤ j → j < m3 → clen (cd3 j) = n + 1) ∧ (pf (L w) p (fs (n + 1) + g) → ∃ j, j < m3 ∧ y = nI j ∧ cd3 j = pcd (L w) p (fs (n + 1) + g)) ∧ (¬ pf (L w) p (fs (n + 1) + g) → y = -1)) (fun y z2 nu2 co2 hy => ?_) (fun k3 hk3 => ?_)
  · obtain ⟨m3, cd3, c1, c2, c3, c4, c5, c6⟩ := hy
    refine OK.st ((w * 5 + p) * 9 + (fs (n + 1) + g)) (by rw [show (9 : Int32) = nI 9 from rfl, pk_mul, nI_add]) hix ?_
    refine hk1 (by omega) _ _ _ _ _ ⟨nI_1 _, m3, cd3, c1, b2.tr c2, by omega, c4, fun v hv q hq t ht => ?_, fun v hv q hq t ht => ?_, fun q hq t ht => ?_, fun t ht => ?_⟩
    · exact ((b5 v hv q hq t ht).ex c2).up (hidx v q t hq hv (by omega) (Or.inr (Or.inr (by omega))))
    · exact ((b6 v hv q hq t ht).ex c2).up (hidx v q t hq (by omega) (by omega) (Or.inl (by omega)))
    · exact ((b7 q hq t ht).ex c2).up (hidx w q t (by omega) hw (by omega) (Or.inr (Or.inl (by omega))))
    · by_cases e : t = fs (n + 1) + g
      · subst e
        refine ⟨fun q => ?_, fun q => ?_⟩
        · obtain ⟨j, e1, e2, e3⟩ := c5 q
          exact ⟨j, e1, by rw [upd_s]; exact e2, e3⟩
        · rw [upd_s]; exact c6 q
      · exact ((b8 t (by omega)).ex c2).up (hidx w p t (by omega) hw (by omega) (Or.inr (Or.inr e)))
  · rcases hr with ⟨q, rfl⟩ | ⟨q, rfl⟩
    · have hc := pcd_b ok p ht9
      refine OK.le 0 _ (by omega) (by omega) (fun _ => ?_) (fun h => by omega)
      refine OK.b4 (s_numberFor b1 hc hlm) (fun r1 z2 nu2 co2 hq => ?_)
      obtain ⟨m3, cd3, j, c1, c2, c3, c4, c5, c6, c7⟩ := hq
      refine hk3 _ _ _ _ ⟨m3, cd3, c1, c5, c6, fun i e1 e2 => ?_, fun _ => ⟨j, c3, c2, c4⟩, fun q2 => absurd q q2⟩
      by_cases e3 : i < m2
      · rw [c5.2 i e3]; exact b4 i e1 e3
      · rw [c7 i (by omega) e2, clen_pcd ok ht9 q]
        exact (fs_n n hn g (by omega)).2.1
    · exact OK.f (by decide) (hk3 _ _ _ _ ⟨m2, cd2, b1, ext.rf, by omega, b4, fun q2 => absurd q2 q, fun _ => rfl⟩)
/-- the index, as it is made from the letters -/
def idxR (W : Nat) (L : Nat → Nat) (known : Int32) (numbers codes fits starts : Nat → Int32) : Prop := ∃ (m : Nat) (cd st : Nat → Nat), nmR m cd known numbers codes ∧ (∀ n, 1 ≤ n → n ≤ 4 → starts n = nI (st n)) ∧ st 1 = 0 ∧ st 4 = m ∧ (∀ n, 1 ≤ n → n ≤ 3 → st n ≤ st (n + 1) ∧ ∀ j, st n ≤ j → j < st (n + 1) → clen (cd j) = n) ∧
  ∀ v, v < W → ∀ p, p + 2 ≤ dl (L v) → ∀ t, t < 9 → entR m cd fits L v p t
theorem s_forget {m : Nat} {cd : Nat → Nat} {known : Int32} {numbers codes : Nat → Int32} (h : nmR m cd known numbers codes) : OK (m_X3_forget 3000 known numbers codes) (fun u => u.1 = 0 ∧ ∀ k, k < 1372 → u.2 k = 0) := by
  obtain ⟨rfl, h1, h2, h3⟩ := h
  unfold m_X3_forget
  refine OK.w2 (fun i x f => x = nI i ∧ ∀ k, k < 1372 → f k = 0 ∨ ∃ j, i ≤ j ∧ j < m ∧ cd j = k) m ?_ (by omega) ⟨rfl, fun k hk => (h3 k hk).imp id (fun ⟨j, a, b, c⟩ => ⟨j, Nat.zero_le _, a, c⟩)⟩
  rintro i x f k ⟨rfl, h4⟩ hi hk
  refine OK.le m i (by omega) (by omega) (fun h5 => OK.s ⟨rfl, fun k hk => ?_⟩) (fun h5 => ?_)
  · rcases h4 k hk with h6 | ⟨j, a, b, c⟩
    · exact h6
    · omega
  · obtain ⟨a1, a2, -⟩ := h2 i h5
    refine OK.rd i rfl (by omega) ?_
    rw [a1]
    refine OK.st (cd i) rfl a2 ?_
    refine hk h5 _ _ ⟨nI_1 i, fun q hq => ?_⟩
    by_cases e : q = cd i
    · subst e; exact Or.inl (upd_s _ _ _)
    · rw [upd_n _ _ e]
      rcases h4 q hq with h6 | ⟨j, a, b, c⟩
      · exact Or.inl h6
      · refine Or.inr ⟨j, ?_, b, c⟩
        rcases Nat.lt_or_ge i j with h7 | h7
        · omega
        · have : j = i := by omega
          subst this
          exact absurd c.symm e
theorem s_takeFrom {W : Nat} {L : Nat → Nat} (hL : lsOK W L) {letters sizes : Nat → Int32} (hl : ∀ w, w < W → letters w = nI (L w) ∧ sizes w = nI (dl (L w))) {m0 : Nat} {cd0 : Nat → Nat} {known : Int32} {numbers codes : Nat → Int32} (h0 : nmR m0 cd0 known numbers codes) (z : Int32) (starts signs fits : Nat → Int32) :
    OK (m_X3_takeFrom 3000 known z (nI W) numbers codes starts letters sizes signs fits) (fun u => idxR W L u.1 u.2.2.1 u.2.2.2.1 u.2.2.2.2.2.2 u.2.2.2.2.1) := by
  unfold m_X3_takeFrom
  have hW := hL.1
  refine OK.b2 (s_forget h0) (fun a f hq => ?_)
  obtain ⟨q1, q2⟩ := hq
  have q1 : a = 0 := q1
  subst q1
  refine OK.w8 (fun n x kn _ nu co sts _ fi => x = nI (n + 1) ∧ ∃ (m : Nat) (cd st : Nat → Nat), nmR m cd kn nu co ∧ m ≤ 30 * fs (n + 1) ∧ (∀ i, 1 ≤ i → i ≤ n → sts i = nI (st i)) ∧ st 1 = 0 ∧ st (n + 1) = m ∧ (∀ i, 1 ≤ i → i ≤ n → st i ≤ st (i + 1) ∧ ∀ j, st i ≤ j → j < st (i + 1) → clen (cd j) = i) ∧
      ∀ v, v < W → ∀ p, p + 2 ≤ dl (L v) → ∀ t, t < fs (n + 1) → entR m cd fi L v p t) 3 ?_ (by omega)
    ⟨rfl, 0, fun _ => 0, fun _ => 0, ⟨rfl, by omega, fun j hj => absurd hj (Nat.not_lt_zero _), fun k hk => Or.inl (q2 k hk)⟩, by omega, fun i h1 h2 => by omega, rfl, rfl, fun i h1 h2 => by omega, fun v hv p hp t ht => absurd ht (Nat.not_lt_zero _)⟩
  rintro n x kn z1 nu co sts sgs fi k ⟨rfl, m, cd, st, a1, a2, a3, a4, a5, a6, a7⟩ hn hk
  refine OK.lt 3 (n + 1) (by omega) (by omega) (fun h1 => ?_) (fun h1 => ?_)
  · have e3 : n = 3 := by omega
    subst e3
    refine OK.st 4 rfl (by omega) (OK.s ?_)
    refine ⟨m, cd, st, a1, fun i h2 h3 => ?_, a4, a5, fun i h2 h3 => a6 i h2 h3, a7⟩
    show upd sts 4 kn i = nI (st i)
    by_cases e : i = 4
    · subst e; rw [upd_s, a1.1, a5]
    · rw [upd_n _ _ e]; exact a3 i h2 (by omega)
  have hn3 : n < 3 := by omega
  obtain ⟨kf1, kf2, kf3, kf4⟩ := kFirst_n n hn3
  refine OK.st (n + 1) rfl (by omega) ?_
  refine OK.w7 (fun w x kn _ nu co _ fi => x = nI w ∧ ∃ (m1 : Nat) (cd1 : Nat → Nat), nmR m1 cd1 kn nu co ∧ ext m cd m1 cd1 ∧ m1 ≤ 30 * fs (n + 1) + w * 5 * (n + 2) ∧ (∀ j, m ≤ j → j < m1 → clen (cd1 j) = n + 1) ∧
      (∀ v, v < W → ∀ p, p + 2 ≤ dl (L v) → ∀ t, t < fs (n + 1) → entR m1 cd1 fi L v p t) ∧ ∀ v, v < w → ∀ p, p + 2 ≤ dl (L v) → ∀ t, t < fs (n + 2) → entR m1 cd1 fi L v p t) W ?_ (by omega)
    ⟨rfl, m, cd, a1, ext.rf, by omega, fun j h2 h3 => by omega, a7, fun v hv => absurd hv (Nat.not_lt_zero _)⟩
  rintro w x kn1 z2 nu1 co1 sg1 fi1 k1 ⟨rfl, m1, cd1, b1, b2, b3, b4, b5, b6⟩ hw hk1
  refine OK.le W w (by omega) (by omega) (fun h2 => ?_) (fun h2 => ?_)
  · have ew : w = W := by omega
    subst ew
    refine hk (by omega) _ _ _ _ _ _ _ _ ⟨nI_1 _, m1, cd1, fun i => if i = n + 2 then m1 else st i, b1, ?_, fun i h3 h4 => ?_, ?_, ?_, fun i h3 h4 => ?_, b6⟩
    · rw [show n + 1 + 1 = n + 2 from rfl, kf3]
      have : w * 5 * (n + 2) ≤ 30 * (n + 2) := Nat.mul_le_mul_right _ (by omega)
      omega
    · show upd sts (n + 1) kn i = nI (if i = n + 2 then m1 else st i)
      rw [if_neg (by omega)]
      by_cases e : i = n + 1
      · subst e; rw [upd_s, a1.1, a5]
      · rw [upd_n _ _ e]; exact a3 i h3 (by omega)
    · show (if 1 = n + 2 then m1 else st 1) = 0
      rw [if_neg (by omega)]; exact a4
    · show (if n + 1 + 1 = n + 2 then m1 else st (n + 1 + 1)) = m1
      rw [if_pos (by omega)]
    · show (if i = n + 2 then m1 else st i) ≤ (if i + 1 = n + 2 then m1 else st (i + 1)) ∧ ∀ j, (if i = n + 2 then m1 else st i) ≤ j → j < (if i + 1 = n + 2 then m1 else st (i + 1)) → clen (cd1 j) = i
      rw [if_neg (by omega)]
      by_cases e : i = n + 1
      · subst e
        rw [if_pos rfl, a5]
        exact ⟨b2.1, b4⟩
      · rw [if_neg (by omega)]
        obtain ⟨c1, c2⟩ := a6 i h3 (by omega)
        refine ⟨c1, fun j h5 h6 => ?_⟩
        have hmono : st (i + 1) ≤ m := by
          have g : ∀ q, i + 1 ≤ q → q ≤ n + 1 → st (i + 1) ≤ st q := by
            intro q hq1
            induction q with
            | zero => omega
            | succ q ih =>
              intro hq2
              by_cases e2 : i + 1 = q + 1
              · rw [e2]; exact Nat.le_refl _
              · exact Nat.le_trans (ih (by omega) (by omega)) (a6 q (by omega) (by omega)).1
          have := g (n + 1) (by omega) (by omega)
          omega
        rw [b2.2 j (by omega)]
        exact c2 j h5 h6
  · obtain ⟨l1, l2⟩ := hl w h2
    refine OK.rd w rfl (by omega) ?_
    rw [l1]
    refine OK.rd w rfl (by omega) ?_
    rw [l2]
    obtain ⟨ok, d2, d6⟩ := hL.w h2
    refine OK.b2 (s_spell ok.1 z2 sg1) (fun a sg2 hq => ?_)
    obtain ⟨c1, c2⟩ := hq
    have c1 : a = nI (dl (L w)) := c1
    subst c1
    refine OK.b4 (s_takeWord hL h2 hn3 b1 c2 b3 (s := m) b4 b5 b6) (fun kn2 fi2 nu2 co2 hq => ?_)
    obtain ⟨m2, cd2, e1, e2, e3, e4, e5, e6⟩ := hq
    exact hk1 h2 _ _ _ _ _ _ _ ⟨nI_1 w, m2, cd2, e1, b2.tr e2, e3, e4, e5, e6⟩
