/-! ===== 43.words: a word's signs, its patterns, its digits ===== -/
theorem dig_b {c : Nat} (hc : c < 2147483648) {h : Nat} (hf : figs h c) (t : Nat) : c / 10 ^ t % 10 ≤ h := by
  by_cases ht : t < dl c
  · exact (hf t ht).2
  · rw [(dl_le hc t).mp (by omega)]
    exact Nat.zero_le _
theorem isW_b {c : Nat} (hc : c < 2147483648) (h : isW c) : 11 ≤ c ∧ c ≤ 555555 := by
  obtain ⟨h2, h6, hf⟩ := h
  have a0 := hf 0 (by omega)
  have a1 := hf 1 (by omega)
  have a6 := (dl_le hc 6).mp h6
  have b0 := dig_b hc hf 0
  have b1 := dig_b hc hf 1
  have b2 := dig_b hc hf 2
  have b3 := dig_b hc hf 3
  have b4 := dig_b hc hf 4
  have b5 := dig_b hc hf 5
  simp only [Nat.pow_zero, Nat.pow_one, Nat.div_one, show (10 : Nat) ^ 2 = 100 from rfl, show (10 : Nat) ^ 3 = 1000 from rfl, show (10 : Nat) ^ 4 = 10000 from rfl, show (10 : Nat) ^ 5 = 100000 from rfl, show (10 : Nat) ^ 6 = 1000000 from rfl] at *
  omega
theorem s_wordSize {c : Nat} (hc : c < 2147483648) : OK (m_X2_wordSize 3000 (nI c)) (fun r => (isW c ∧ r = nI (dl c)) ∨ (¬ isW c ∧ r = 0)) := by
  unfold m_X2_wordSize
  refine OK.lt c 11 hc (by omega) (fun h1 => OK.s (Or.inr ⟨fun q => ?_, rfl⟩)) (fun h1 => ?_)
  · have := isW_b hc q; omega
  refine OK.le c 555555 hc (by omega) (fun h2 => ?_) (fun h2 => OK.s (Or.inr ⟨fun q => ?_, rfl⟩))
  · have hd2 : 2 ≤ dl c := by
      have := (dl_lt hc 1).mpr (by simp; omega)
      omega
    have hd6 : dl c ≤ 6 := dl_6 (by omega)
    refine OK.w3 (fun t a b d => a = nI t ∧ b = nI (c / 10 ^ t) ∧ d = nI t ∧ t ≤ dl c ∧ ∀ s, s < t → 1 ≤ c / 10 ^ s % 10 ∧ c / 10 ^ s % 10 ≤ 5) 6 ?_ (by omega) ⟨rfl, by simp, rfl, by omega, fun s hs => absurd hs (Nat.not_lt_zero s)⟩
    rintro t a b d k ⟨rfl, rfl, rfl, htd, hs⟩ ht hk
    have hc2 : c / 10 ^ t < 2147483648 := Nat.lt_of_le_of_lt (Nat.div_le_self _ _) hc
    refine OK.le 6 t (by omega) (by omega) (fun h3 => ?_) (fun h3 => ?_)
    · have h4 : t = dl c := by omega
      exact OK.s (Or.inl ⟨⟨hd2, hd6, by rw [h4] at hs; exact hs⟩, by rw [h4]⟩)
    refine OK.le (c / 10 ^ t) 0 hc2 (by omega) (fun h4 => ?_) (fun h4 => ?_)
    · have h5 := (dl_le hc t).mpr (Nat.le_zero.mp h4)
      have h6 : t = dl c := by omega
      exact OK.s (Or.inl ⟨⟨hd2, hd6, by rw [h6] at hs; exact hs⟩, by rw [h6]⟩)
    · have htl := (dl_lt hc t).mpr h4
      have hm : c / 10 ^ t % 10 < 10 := Nat.mod_lt _ (by omega)
      refine OK.l ?_
      rw [show (10 : Int32) = nI 10 from rfl, n_irm hc2 (by omega) (by omega)]
      refine OK.lt (c / 10 ^ t % 10) 1 (by omega) (by omega) (fun h5 => OK.s (Or.inr ⟨fun q => ?_, rfl⟩)) (fun h5 => ?_)
      · have := (q.2.2 t htl).1; omega
      refine OK.le (c / 10 ^ t % 10) 5 (by omega) (by omega) (fun h6 => ?_) (fun h6 => OK.s (Or.inr ⟨fun q => ?_, rfl⟩))
      · refine OK.l (hk (by omega) _ _ _ ⟨nI_1 t, n_div10 hc t, nI_1 t, by omega, fun s hs2 => ?_⟩)
        rcases Nat.lt_succ_iff_lt_or_eq.mp hs2 with h8 | h8
        · exact hs s h8
        · rw [h8]; exact ⟨h5, h6⟩
      · have := (q.2.2 t htl).2; omega
  · have := isW_b hc q; omega
theorem s_wordSizeN {x : Int32} (h : x < 0) : OK (m_X2_wordSize 3000 x) (fun r => r = 0) := by
  unfold m_X2_wordSize
  refine OK.t ?_ (OK.s rfl)
  rw [Int32.lt_iff_toInt_lt] at h ⊢
  exact Int.lt_trans h (by decide)
/-! ## signs -/
def sg (c k : Nat) : Nat := if k = 0 then 6 else if k = dl c + 1 then 6 else c / 10 ^ (dl c - k) % 10
theorem s_laySigns {c : Nat} (hc : c < 1000000) (z : Int32) (f : Nat → Int32) : OK (m_X11_laySigns 3000 (nI c) z f) (fun u => u.1 = nI (dl c + 2) ∧ ∀ k, k ≤ dl c + 1 → u.2 k = nI (sg c k)) := by
  unfold m_X11_laySigns
  have hd := dl_6 hc
  refine OK.b1 (s_length (by omega)) (fun r hr => ?_)
  subst hr
  refine OK.l ?_
  rw [show nI (dl c) + 2 = nI (dl c + 2) from nI_add _ 2, nI_1]
  refine OK.st 0 rfl (by omega) ?_
  refine OK.st (dl c + 1) rfl (by omega) ?_
  refine OK.w3 (fun t a b g => a = nI (dl c - t) ∧ b = nI (c / 10 ^ t) ∧ g 0 = 6 ∧ g (dl c + 1) = 6 ∧ ∀ k, dl c - t < k → k ≤ dl c → g k = nI (sg c k)) (dl c) ?_ (by omega) ⟨rfl, by simp, ?_, ?_, fun k h1 h2 => by omega⟩
  · rintro t a b g k ⟨rfl, rfl, g0, g1, g2⟩ ht hk
    refine OK.le (dl c - t) 0 (by omega) (by omega) (fun h3 => OK.s ⟨rfl, fun k hk => ?_⟩) (fun h3 => ?_)
    · by_cases h0 : k = 0
      · subst h0; exact g0
      · by_cases h4 : k = dl c + 1
        · subst h4; exact g1.trans (by unfold sg; rw [if_neg (by omega), if_pos rfl]; rfl)
        · exact g2 k (by omega) (by omega)
    · have hc2 : c / 10 ^ t < 2147483648 := Nat.lt_of_le_of_lt (Nat.div_le_self _ _) (by omega)
      refine OK.st (dl c - t) rfl (by omega) ?_
      refine OK.l ?_
      refine hk (by omega) _ _ _ ⟨?_, n_div10 (by omega) t, ?_, ?_, fun k h5 h6 => ?_⟩
      · rw [show dl c - t = (dl c - (t + 1)) + 1 by omega]; exact pk_m1 _
      · rw [upd_n _ _ (by omega)]; exact g0
      · rw [upd_n _ _ (by omega)]; exact g1
      · by_cases h7 : k = dl c - t
        · subst h7
          rw [upd_s, show (10 : Int32) = nI 10 from rfl, n_irm hc2 (by omega) (by omega)]
          unfold sg
          rw [if_neg (by omega), if_neg (by omega), show dl c - (dl c - t) = t by omega]
        · rw [upd_n _ _ h7]; exact g2 k (by omega) h6
  · rw [upd_n _ _ (by omega), upd_s]
  · rw [upd_s]
theorem s_spell {c : Nat} (hc : c < 1000000) (z : Int32) (f : Nat → Int32) : OK (m_X3_spell 3000 (nI c) (nI (dl c)) z f) (fun u => u.1 = nI (dl c) ∧ ∀ k, k ≤ dl c + 1 → u.2 k = nI (sg c k)) := by
  unfold m_X3_spell
  have hd := dl_6 hc
  have e1 : imax 0 (imin (nI (dl c)) 6) = nI (dl c) := by
    have h1 : ¬ (6 : Int32) < nI (dl c) := by rw [show (6 : Int32) = nI 6 from rfl, nI_ltI (by omega) (by omega)]; omega
    show (if (0 : Int32) < (if (6 : Int32) < nI (dl c) then 6 else nI (dl c)) then _ else (0 : Int32)) = _
    rw [if_neg h1]
    by_cases h2 : (0 : Int32) < nI (dl c)
    · rw [if_pos h2]; exact if_neg h1
    · rw [if_neg h2]
      rw [show (0 : Int32) = nI 0 from rfl, nI_ltI (by omega) (by omega)] at h2
      rw [show dl c = 0 by omega]; rfl
  rw [e1]
  refine OK.l ?_
  rw [nI_1]
  refine OK.st 0 rfl (by omega) ?_
  refine OK.st (dl c + 1) rfl (by omega) ?_
  refine OK.w3 (fun t b a g => a = nI (dl c - t) ∧ b = nI (c / 10 ^ t) ∧ g 0 = 6 ∧ g (dl c + 1) = 6 ∧ ∀ k, dl c - t < k → k ≤ dl c → g k = nI (sg c k)) (dl c) ?_ (by omega) ⟨rfl, by simp, ?_, ?_, fun k h1 h2 => by omega⟩
  · rintro t b a g k ⟨rfl, rfl, g0, g1, g2⟩ ht hk
    refine OK.le (dl c - t) 0 (by omega) (by omega) (fun h3 => OK.s ⟨rfl, fun k hk => ?_⟩) (fun h3 => ?_)
    · by_cases h0 : k = 0
      · subst h0; exact g0
      · by_cases h4 : k = dl c + 1
        · subst h4; exact g1.trans (by unfold sg; rw [if_neg (by omega), if_pos rfl]; rfl)
        · exact g2 k (by omega) (by omega)
    · have hc2 : c / 10 ^ t < 2147483648 := Nat.lt_of_le_of_lt (Nat.div_le_self _ _) (by omega)
      refine OK.st (dl c - t) rfl (by omega) ?_
      refine OK.l ?_
      refine hk (by omega) _ _ _ ⟨?_, n_div10 (by omega) t, ?_, ?_, fun k h5 h6 => ?_⟩
      · rw [show dl c - t = (dl c - (t + 1)) + 1 by omega]; exact pk_m1 _
      · rw [upd_n _ _ (by omega)]; exact g0
      · rw [upd_n _ _ (by omega)]; exact g1
      · by_cases h7 : k = dl c - t
        · subst h7
          rw [upd_s, show (10 : Int32) = nI 10 from rfl, n_irm hc2 (by omega) (by omega)]
          unfold sg
          rw [if_neg (by omega), if_neg (by omega), show dl c - (dl c - t) = t by omega]
        · rw [upd_n _ _ h7]; exact g2 k (by omega) h6
  · rw [upd_n _ _ (by omega), upd_s]
  · rw [upd_s]
theorem sg_b {c : Nat} (hc : c < 2147483648) {h : Nat} (hh : h ≤ 6) (hf : figs h c) (k : Nat) : sg c k ≤ 6 := by
  unfold sg
  split
  · omega
  · split
    · omega
    · exact Nat.le_trans (dig_b hc hf _) hh
theorem sg_1 {c : Nat} {h : Nat} (hf : figs h c) {k : Nat} (h0 : 0 < k) (h1 : k ≤ dl c) : 1 ≤ sg c k ∧ sg c k ≤ h := by
  unfold sg
  rw [if_neg (by omega), if_neg (by omega)]
  exact hf _ (by omega)
/-! ## strings -/
def strv (s : Nat → Nat) (a : Nat) : Nat → Nat
  | 0 => 0
  | n + 1 => 7 * strv s a n + s (a + n)
theorem strv_b {s : Nat → Nat} (hs : ∀ k, s k ≤ 6) (a : Nat) : ∀ n, strv s a n < 7 ^ n
  | 0 => by simp [strv]
  | n + 1 => by
    have := strv_b hs a n
    have := hs (a + n)
    rw [strv, Nat.pow_succ]
    omega
