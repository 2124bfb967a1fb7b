/-! ===== 41.small: figures, small tests; the fuel of all models is 3000 ===== -/
def dlf : Nat → Nat → Nat
  | 0, _ => 0
  | k + 1, c => if c = 0 then 0 else dlf k (c / 10) + 1
/-- how many decimal figures -/
def dl (c : Nat) : Nat := dlf 10 c
theorem dlf_le : ∀ (k c : Nat), c < 10 ^ k → ∀ t, dlf k c ≤ t ↔ c / 10 ^ t = 0
  | 0, c, h, t => by
    have : c = 0 := by simpa using h
    subst this
    simp [dlf]
  | k + 1, c, h, t => by
    unfold dlf
    by_cases hc : c = 0
    · subst hc; simp
    · rw [if_neg hc]
      cases t with
      | zero => simp [hc]
      | succ t =>
        have h1 : c / 10 < 10 ^ k := by rw [Nat.pow_succ] at h; omega
        rw [Nat.pow_succ, Nat.mul_comm, ← Nat.div_div_eq_div_mul, ← dlf_le k (c / 10) h1 t]
        omega
theorem dl_le {c : Nat} (h : c < 2147483648) (t : Nat) : dl c ≤ t ↔ c / 10 ^ t = 0 := dlf_le 10 c (by omega) t
theorem dl_lt {c : Nat} (h : c < 2147483648) (t : Nat) : t < dl c ↔ 0 < c / 10 ^ t := by
  rw [Nat.pos_iff_ne_zero, Ne, ← dl_le h t]
  omega
theorem dl_10 {c : Nat} (h : c < 2147483648) : dl c ≤ 10 := (dl_le h 10).mpr (Nat.div_eq_of_lt (by omega))
theorem dl_6 {c : Nat} (h : c < 1000000) : dl c ≤ 6 := (dl_le (by omega) 6).mpr (Nat.div_eq_of_lt (by omega))
theorem p10_s (c t : Nat) : c / 10 ^ t / 10 = c / 10 ^ (t + 1) := by rw [Nat.div_div_eq_div_mul, Nat.pow_succ]
theorem n_div10 {c : Nat} (h : c < 2147483648) (t : Nat) : nI (c / 10 ^ t) / 10 = nI (c / 10 ^ (t + 1)) := by
  rw [show (10 : Int32) = nI 10 from rfl, pk_div (Nat.lt_of_le_of_lt (Nat.div_le_self _ _) h) (by omega) (by omega), p10_s]
theorem n_irm {a d : Nat} (ha : a < 2147483648) (h0 : 0 < d) (hd : d < 2147483648) : irm (nI a) (nI d) = nI (a % d) := pk_rem ha h0 hd
theorem s_length {c : Nat} (h : c < 2147483648) : OK (m_X11_length 3000 (nI c)) (fun r => r = nI (dl c)) := by
  unfold m_X11_length
  refine OK.w2 (fun t a b => a = nI t ∧ b = nI (c / 10 ^ t)) (dl c) ?_ (by have := dl_10 h; omega) ⟨rfl, by simp⟩
  rintro t a b k ⟨rfl, rfl⟩ ht hk
  have hc : c / 10 ^ t < 2147483648 := Nat.lt_of_le_of_lt (Nat.div_le_self _ _) h
  refine OK.le (c / 10 ^ t) 0 hc (by omega) (fun h1 => ?_) (fun h1 => ?_)
  · have := (dl_le h t).mpr (Nat.le_zero.mp h1)
    exact OK.s (by rw [show t = dl c by omega])
  · refine OK.l (hk ((dl_lt h t).mpr h1) _ _ ⟨nI_1 t, n_div10 h t⟩)
/-! ## in -/
theorem s_in (x y z : Int64) : OK (m_X11_in 3000 x y z) (fun r => r = if y ≤ x ∧ x ≤ z then 1 else 0) := by
  unfold m_X11_in
  have c1 : lg_cmp x y < 0 ↔ ¬ y ≤ x := by
    unfold lg_cmp
    by_cases h1 : y < x
    · rw [if_pos h1]
      simp only [show ¬ (1 : Int32) < 0 by decide, false_iff, Classical.not_not]
      rw [Int64.le_iff_toInt_le]; rw [Int64.lt_iff_toInt_lt] at h1; omega
    · rw [if_neg h1]
      by_cases h2 : x = y
      · subst h2; simp
      · rw [if_neg h2]
        simp only [show (-1 : Int32) < 0 by decide, true_iff]
        intro h3
        apply h1
        rw [Int64.lt_iff_toInt_lt]
        rw [Int64.le_iff_toInt_le] at h3
        have : x.toInt ≠ y.toInt := fun q => h2 (Int64.toInt_inj.mp q)
        omega
  have c2 : 0 < lg_cmp x z ↔ ¬ x ≤ z := by
    unfold lg_cmp
    by_cases h1 : z < x
    · rw [if_pos h1]
      simp only [show (0 : Int32) < 1 by decide, true_iff]
      intro h3
      rw [Int64.le_iff_toInt_le] at h3; rw [Int64.lt_iff_toInt_lt] at h1; omega
    · rw [if_neg h1]
      have h3 : x ≤ z := by rw [Int64.le_iff_toInt_le]; rw [Int64.lt_iff_toInt_lt] at h1; omega
      by_cases h2 : x = z
      · rw [if_pos h2]; simp [h3]
      · rw [if_neg h2]; simp only [show ¬ (0 : Int32) < -1 by decide, false_iff, Classical.not_not]; exact h3
  refine OK.i (fun h => OK.s ?_) (fun h => OK.i (fun h2 => OK.s ?_) (fun h2 => OK.s ?_))
  · rw [if_neg (fun q => (c1.mp h) q.1)]
  · rw [if_neg (fun q => (c2.mp h2) q.2)]
  · rw [if_pos ⟨Classical.not_not.mp (fun q => h (c1.mpr q)), Classical.not_not.mp (fun q => h2 (c2.mpr q))⟩]
theorem le64 (x y : Int32) : x.toInt64 ≤ y.toInt64 ↔ x ≤ y := by
  rw [Int64.le_iff_toInt_le, Int32.le_iff_toInt_le, Int32.toInt_toInt64, Int32.toInt_toInt64]
theorem s_in32 (x y z : Int32) : OK (m_X11_in 3000 x.toInt64 y.toInt64 z.toInt64) (fun r => r = if y ≤ x ∧ x ≤ z then 1 else 0) := by
  refine (s_in _ _ _).mono (fun u hu => ?_)
  simp only [le64] at hu
  exact hu
/-! ## bits -/
theorem sh_am : ∀ p, p < 31 → ((nI p &&& 31).toBitVec.smod 32).toNat = p := by decide +kernel
theorem bit_at {b p : Nat} (hb : b < 2147483648) (hp : p < 31) : (nI b >>> (nI p &&& 31)) &&& 1 = nI (b / 2 ^ p % 2) := by
  rw [pk_shrN hb _ p (sh_am p hp), show (1 : Int32) = nI 1 from rfl]
  exact pk_andN (n := b / 2 ^ p) (by have := Nat.div_le_self b (2 ^ p); omega) (m := nI 1) 1 (by decide)
theorem shl_at {p : Nat} (hp : p < 31) : (1 : Int32) <<< (nI p &&& 31) = nI (2 ^ p) := by
  have := pk_shlN (n := 1) (nI p &&& 31) p (sh_am p hp) (by have : 2 ^ p < 2 ^ 31 := Nat.pow_lt_pow_right (by omega) hp; omega)
  rw [Nat.one_mul] at this
  exact this
theorem s_has {b p : Nat} (hb : b < 2147483648) (hp : p < 31) : OK (m_X11_has 3000 (nI b) (nI p)) (fun r => r = nI (b / 2 ^ p % 2)) := by
  unfold m_X11_has
  rw [bit_at hb hp]
  have h2 : b / 2 ^ p % 2 < 2 := Nat.mod_lt _ (by omega)
  refine OK.eq (b / 2 ^ p % 2) 1 (by omega) (by omega) (fun h => OK.s ?_) (fun h => OK.s ?_)
  · rw [h]; rfl
  · rw [show b / 2 ^ p % 2 = 0 by omega]; rfl
/-! ## figures within a range -/
def figs (h c : Nat) : Prop := ∀ t, t < dl c → 1 ≤ c / 10 ^ t % 10 ∧ c / 10 ^ t % 10 ≤ h
theorem s_areFigures {c lo hi high : Nat} (hc : c < 2147483648) (h0 : 0 < c) (hlo : lo < 100) (hhi : hi < 100) (hh : high < 10) :
    OK (m_X11_areFigures 3000 (nI c) (nI lo) (nI hi) (nI high)) (fun r => (r = 1 ∧ lo ≤ dl c ∧ dl c ≤ hi ∧ figs high c) ∨ (r = 0 ∧ ¬ (lo ≤ dl c ∧ dl c ≤ hi ∧ figs high c))) := by
  unfold m_X11_areFigures
  refine OK.j1 (fun y => (y = 1 ∧ lo ≤ dl c ∧ dl c ≤ hi) ∨ (y = 0 ∧ ¬ (lo ≤ dl c ∧ dl c ≤ hi))) (fun y hy => ?_) (fun k hk => ?_)
  · refine OK.w2 (fun t a b => b = nI (c / 10 ^ t) ∧ ((a = 1 ∧ (lo ≤ dl c ∧ dl c ≤ hi) ∧ ∀ s, s < t → 1 ≤ c / 10 ^ s % 10 ∧ c / 10 ^ s % 10 ≤ high) ∨ (a = 0 ∧ ¬ ((lo ≤ dl c ∧ dl c ≤ hi) ∧ figs high c)))) (dl c) ?_ (by have := dl_10 hc; omega) ⟨by simp, ?_⟩
    · rintro t a b k ⟨rfl, ha⟩ ht hk
      have hc2 : c / 10 ^ t < 2147483648 := Nat.lt_of_le_of_lt (Nat.div_le_self _ _) hc
      refine OK.le (c / 10 ^ t) 0 hc2 (by omega) (fun h1 => ?_) (fun h1 => ?_)
      · have h2 := (dl_le hc t).mpr (Nat.le_zero.mp h1)
        have h3 : t = dl c := by omega
        rcases ha with ⟨rfl, h4, h5⟩ | ⟨rfl, h4⟩
        · exact OK.z (Or.inr rfl) (OK.s (Or.inl ⟨rfl, h4.1, h4.2, by rw [h3] at h5; exact h5⟩))
        · exact OK.z (Or.inl rfl) (OK.s (Or.inr ⟨rfl, fun q => h4 ⟨⟨q.1, q.2.1⟩, q.2.2⟩⟩))
      · have htl := (dl_lt hc t).mpr h1
        refine OK.j1 (fun y => ((y = 1 ∧ (lo ≤ dl c ∧ dl c ≤ hi) ∧ ∀ s, s < t + 1 → 1 ≤ c / 10 ^ s % 10 ∧ c / 10 ^ s % 10 ≤ high) ∨ (y = 0 ∧ ¬ ((lo ≤ dl c ∧ dl c ≤ hi) ∧ figs high c)))) (fun y hy => ?_) (fun k2 hk2 => ?_)
        · exact OK.l (hk htl _ _ ⟨n_div10 hc t, hy⟩)
        · refine OK.j0 (¬ ((lo ≤ dl c ∧ dl c ≤ hi) ∧ figs high c)) (fun h => hk2 _ (Or.inr ⟨rfl, h⟩)) (fun k3 hk3 => ?_)
          rcases ha with ⟨rfl, h4, h5⟩ | ⟨rfl, h4⟩
          · refine OK.f (by decide) ?_
            rw [show (10 : Int32) = nI 10 from rfl, n_irm hc2 (by omega) (by omega)]
            refine OK.b1 (s_in32 (nI (c / 10 ^ t % 10)) 1 (nI high)) (fun r hr => ?_)
            have h6 : c / 10 ^ t % 10 < 10 := Nat.mod_lt _ (by omega)
            have e1 : ((1 : Int32) ≤ nI (c / 10 ^ t % 10) ∧ nI (c / 10 ^ t % 10) ≤ nI high) ↔ (1 ≤ c / 10 ^ t % 10 ∧ c / 10 ^ t % 10 ≤ high) := by
              rw [show (1 : Int32) = nI 1 from rfl, nI_leI (by omega) (by omega), nI_leI (by omega) (by omega)]
            by_cases h7 : 1 ≤ c / 10 ^ t % 10 ∧ c / 10 ^ t % 10 ≤ high
            · rw [if_pos (e1.mpr h7)] at hr
              subst hr
              refine OK.f (by decide) (hk2 _ (Or.inl ⟨rfl, h4, fun s hs => ?_⟩))
              rcases Nat.lt_succ_iff_lt_or_eq.mp hs with h8 | h8
              · exact h5 s h8
              · rw [h8]; exact h7
            · rw [if_neg (fun q => h7 (e1.mp q))] at hr
              subst hr
              exact OK.t rfl (hk3 (fun q => h7 (q.2 t htl)))
          · exact OK.t rfl (hk3 h4)
    · rcases hy with ⟨rfl, h1⟩ | ⟨rfl, h1⟩
      · exact Or.inl ⟨rfl, h1, fun s hs => absurd hs (Nat.not_lt_zero s)⟩
      · exact Or.inr ⟨rfl, fun q => h1 q.1⟩
  · refine OK.j0 (¬ (lo ≤ dl c ∧ dl c ≤ hi)) (fun h => hk _ (Or.inr ⟨rfl, h⟩)) (fun k3 hk3 => ?_)
    refine OK.le c 0 hc (by omega) (fun h1 => by omega) (fun h1 => ?_)
    refine OK.b1 (s_length hc) (fun r hr => ?_)
    subst hr
    refine OK.b1 (s_in32 (nI (dl c)) (nI lo) (nI hi)) (fun r hr => ?_)
    have hd := dl_10 hc
    have e1 : (nI lo ≤ nI (dl c) ∧ nI (dl c) ≤ nI hi) ↔ (lo ≤ dl c ∧ dl c ≤ hi) := by
      rw [nI_leI (by omega) (by omega), nI_leI (by omega) (by omega)]
    by_cases h7 : lo ≤ dl c ∧ dl c ≤ hi
    · rw [if_pos (e1.mpr h7)] at hr
      subst hr
      exact OK.f (by decide) (hk _ (Or.inl ⟨rfl, h7⟩))
    · rw [if_neg (fun q => h7 (e1.mp q))] at hr
      subst hr
      exact OK.t rfl (hk3 h7)
theorem s_areFigures0 {x lo hi high : Int32} (hx : x ≤ 0) : OK (m_X11_areFigures 3000 x lo hi high) (fun r => r = 0) := by
  unfold m_X11_areFigures
  refine OK.j1 (fun y => y = 0) (fun y hy => ?_) (fun k hk => ?_)
  · subst hy
    refine OK.w2 (fun t a b => a = 0 ∧ b = x) 0 ?_ (by omega) ⟨rfl, rfl⟩
    rintro t a b k ⟨rfl, rfl⟩ ht hk
    exact OK.t hx (OK.z (Or.inl rfl) (OK.s rfl))
  · refine OK.j0 True (fun _ => hk _ rfl) (fun k3 hk3 => ?_)
    exact OK.t hx (hk3 trivial)
/-! ## a word -/
def isW (c : Nat) : Prop := 2 ≤ dl c ∧ dl c ≤ 6 ∧ figs 5 c
