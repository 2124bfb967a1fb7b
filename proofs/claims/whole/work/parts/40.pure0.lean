/-! ===== 40.pure0: models that answer, and what ===== -/
def OK {α : Type} (o : Option α) (P : α → Prop) : Prop := ∃ u, o = some u ∧ P u
theorem OK.s {α : Type} {u : α} {P : α → Prop} (h : P u) : OK (some u) P := ⟨u, rfl, h⟩
theorem OK.mono {α : Type} {o : Option α} {P Q : α → Prop} (h : OK o P) (hq : ∀ u, P u → Q u) : OK o Q := by
  obtain ⟨u, h1, h2⟩ := h
  exact ⟨u, h1, hq u h2⟩
theorem OK.i {α : Type} {c : Prop} [Decidable c] {X Y : Option α} {P : α → Prop} (h1 : c → OK X P) (h2 : ¬ c → OK Y P) : OK (if c then X else Y) P := by
  by_cases hc : c
  · rw [if_pos hc]; exact h1 hc
  · rw [if_neg hc]; exact h2 hc
theorem OK.t {α : Type} {c : Prop} [Decidable c] {X Y : Option α} {P : α → Prop} (hc : c) (h1 : OK X P) : OK (if c then X else Y) P := by rw [if_pos hc]; exact h1
theorem OK.f {α : Type} {c : Prop} [Decidable c] {X Y : Option α} {P : α → Prop} (hc : ¬ c) (h1 : OK Y P) : OK (if c then X else Y) P := by rw [if_neg hc]; exact h1
theorem OK.l {α β : Type} {v : β} {K : β → Option α} {P : α → Prop} (h : OK (K v) P) : OK (letK v K) P := h
theorem OK.rd {α β : Type} {n : Nat} {f : Nat → β} {i : Int32} {K : β → Option α} {P : α → Prop} (j : Nat) (hi : i = nI j) (hj : j < n) (h : OK (K (f j)) P) (hn : n < 2147483648 := by decide) : OK (rdK n f i K) P := by
  subst hi
  have h2 : (nI j).toNatClampNeg = j := nI_clamp (by omega)
  unfold rdK
  rw [if_neg (nI_in hj (by omega)), h2]
  exact h
theorem OK.st {α : Type} {n : Nat} {f : Nat → Int32} {i x : Int32} {K : (Nat → Int32) → Option α} {P : α → Prop} (j : Nat) (hi : i = nI j) (hj : j < n) (h : OK (K (upd f j x)) P) (hn : n < 2147483648 := by decide) : OK (stK n f i x K) P := by
  subst hi
  have h2 : (nI j).toNatClampNeg = j := nI_clamp (by omega)
  unfold stK
  rw [if_neg (nI_in hj (by omega)), h2]
  exact h
theorem OK.nz {α : Type} {y : Int32} {K : Option α} {P : α → Prop} (hy : ¬ y = 0) (h : OK K P) : OK (nzK y K) P := by unfold nzK; rw [if_neg hy]; exact h
theorem OK.nl {α : Type} {y : Int64} {K : Option α} {P : α → Prop} (hy : ¬ y = 0) (h : OK K P) : OK (nzL y K) P := by unfold nzL; rw [if_neg hy]; exact h
theorem OK.z {α : Type} {v : Int32} {K : Option α} {P : α → Prop} (hy : v = 0 ∨ v = 1) (h : OK K P) : OK (zK v K) P := by unfold zK; rw [if_pos hy]; exact h
theorem lit (n : Nat) : (OfNat.ofNat n : Int32) = nI n := rfl
/-- compares of small numbers -/
theorem OK.le {α : Type} {X Y : Option α} {P : α → Prop} (a b : Nat) (ha : a < 2147483648) (hb : b < 2147483648) (h1 : a ≤ b → OK X P) (h2 : b < a → OK Y P) : OK (if nI a ≤ nI b then X else Y) P :=
  OK.i (fun h => h1 ((nI_leI ha hb).mp h)) (fun h => h2 (Nat.not_le.mp fun q => h ((nI_leI ha hb).mpr q)))
theorem OK.lt {α : Type} {X Y : Option α} {P : α → Prop} (a b : Nat) (ha : a < 2147483648) (hb : b < 2147483648) (h1 : a < b → OK X P) (h2 : b ≤ a → OK Y P) : OK (if nI a < nI b then X else Y) P :=
  OK.i (fun h => h1 ((nI_ltI ha hb).mp h)) (fun h => h2 (Nat.not_lt.mp fun q => h ((nI_ltI ha hb).mpr q)))
theorem OK.eq {α : Type} {X Y : Option α} {P : α → Prop} (a b : Nat) (ha : a < 2147483648) (hb : b < 2147483648) (h1 : a = b → OK X P) (h2 : ¬ a = b → OK Y P) : OK (if nI a = nI b then X else Y) P :=
  OK.i (fun h => h1 ((nI_eq ha hb).mp h)) (fun h => h2 (fun q => h ((nI_eq ha hb).mpr q)))
theorem upd_s (f : Nat → Int32) (k : Nat) (v : Int32) : upd f k v k = v := by simp [upd]
theorem upd_n (f : Nat → Int32) {k j : Nat} (v : Int32) (h : j ≠ k) : upd f k v j = f j := by simp [upd, h]
theorem upd_e (f : Nat → Int32) (k j : Nat) (v : Int32) : upd f k v j = if j = k then v else f j := rfl
/-- what an Int32 is, if it lies between: a small number -/
theorem sm_of {x : Int32} {n : Nat} (h0 : ¬ x < 0) (h1 : x.toInt < n) (hn : n ≤ 2147483648) : ∃ j : Nat, j < n ∧ x = nI j := by
  obtain ⟨j, hj, rfl⟩ := nI_of h0
  rw [nI_toInt hj] at h1
  exact ⟨j, by omega, rfl⟩
theorem OK.b0 {α : Type} {o : Option Unit} {K : Option α} {P : α → Prop} {Q : Unit → Prop} (h : OK o Q) (hk : Q () → OK K P) : OK (bK0 o K) P := by
  obtain ⟨u, rfl, h2⟩ := h
  exact hk h2
theorem OK.j0 {α : Type} {K : Option α} {body : (Option α) → Option α} {P : α → Prop} (J : Prop) (h1 : J  → OK (K ) P) (h2 : ∀ k : Option α, (J  → OK (k ) P) → OK (body k) P) : OK (jn0 K body) P := h2 K h1
theorem OK.ju0 {α : Type} {K : Option α} {body : (Option α) → Option α} {P : α → Prop} (h : OK (body K) P) : OK (jn0 K body) P := h
theorem OK.b1 {A1 : Type} {α : Type} {o : Option (A1)} {K : A1 → Option α} {P : α → Prop} {Q : (A1) → Prop} (h : OK o Q) (hk : ∀ a1, Q a1 → OK (K a1) P) : OK (bK1 o K) P := by
  obtain ⟨a1, rfl, h2⟩ := h
  exact hk _ h2
theorem OK.j1 {A1 : Type} {α : Type} {K : A1 → Option α} {body : (A1 → Option α) → Option α} {P : α → Prop} (J : A1 → Prop) (h1 : ∀ a1, J a1 → OK (K a1) P) (h2 : ∀ k : A1 → Option α, (∀ a1, J a1 → OK (k a1) P) → OK (body k) P) : OK (jn1 K body) P := h2 K h1
theorem OK.ju1 {A1 : Type} {α : Type} {K : A1 → Option α} {body : (A1 → Option α) → Option α} {P : α → Prop} (h : OK (body K) P) : OK (jn1 K body) P := h
theorem OK.w1 {A1 : Type} {α : Type} {step : A1 → (A1 → Option α) → Option α} {P : α → Prop} (I : Nat → A1 → Prop) (e : Nat) (h : ∀ (t : Nat) a1 (c : A1 → Option α), I t a1 → t ≤ e → (t < e → ∀ b1, I (t + 1) b1 → OK (c b1) P) → OK (step a1 c) P) {F : Nat} (hF : e < F) {x1 : A1} (h0 : I 0 x1) : OK (wl1 step F x1) P := by
  have key : ∀ (F t : Nat) a1, I t a1 → t ≤ e → e - t < F → OK (wl1 step F a1) P := by
    intro F
    induction F with
    | zero => intro t a1 _ _ h; omega
    | succ F ih =>
      intro t a1 hI ht hF
      exact h t a1 (wl1 step F) hI ht (fun hlt b1 hb => ih (t + 1) b1 hb (by omega) (by omega))
  exact key F 0 x1 h0 (Nat.zero_le e) (by omega)
theorem OK.b2 {A1 A2 : Type} {α : Type} {o : Option (A1 × A2)} {K : A1 → A2 → Option α} {P : α → Prop} {Q : (A1 × A2) → Prop} (h : OK o Q) (hk : ∀ a1 a2, Q (a1, a2) → OK (K a1 a2) P) : OK (bK2 o K) P := by
  obtain ⟨⟨a1, a2⟩, rfl, h2⟩ := h
  exact hk _ _ h2
theorem OK.j2 {A1 A2 : Type} {α : Type} {K : A1 → A2 → Option α} {body : (A1 → A2 → Option α) → Option α} {P : α → Prop} (J : A1 → A2 → Prop) (h1 : ∀ a1 a2, J a1 a2 → OK (K a1 a2) P) (h2 : ∀ k : A1 → A2 → Option α, (∀ a1 a2, J a1 a2 → OK (k a1 a2) P) → OK (body k) P) : OK (jn2 K body) P := h2 K h1
theorem OK.ju2 {A1 A2 : Type} {α : Type} {K : A1 → A2 → Option α} {body : (A1 → A2 → Option α) → Option α} {P : α → Prop} (h : OK (body K) P) : OK (jn2 K body) P := h
theorem OK.w2 {A1 A2 : Type} {α : Type} {step : A1 → A2 → (A1 → A2 → Option α) → Option α} {P : α → Prop} (I : Nat → A1 → A2 → Prop) (e : Nat) (h : ∀ (t : Nat) a1 a2 (c : A1 → A2 → Option α), I t a1 a2 → t ≤ e → (t < e → ∀ b1 b2, I (t + 1) b1 b2 → OK (c b1 b2) P) → OK (step a1 a2 c) P) {F : Nat} (hF : e < F) {x1 : A1} {x2 : A2} (h0 : I 0 x1 x2) : OK (wl2 step F x1 x2) P := by
  have key : ∀ (F t : Nat) a1 a2, I t a1 a2 → t ≤ e → e - t < F → OK (wl2 step F a1 a2) P := by
    intro F
    induction F with
    | zero => intro t a1 a2 _ _ h; omega
    | succ F ih =>
      intro t a1 a2 hI ht hF
      exact h t a1 a2 (wl2 step F) hI ht (fun hlt b1 b2 hb => ih (t + 1) b1 b2 hb (by omega) (by omega))
  exact key F 0 x1 x2 h0 (Nat.zero_le e) (by omega)
theorem OK.b3 {A1 A2 A3 : Type} {α : Type} {o : Option (A1 × A2 × A3)} {K : A1 → A2 → A3 → Option α} {P : α → Prop} {Q : (A1 × A2 × A3) → Prop} (h : OK o Q) (hk : ∀ a1 a2 a3, Q (a1, a2, a3) → OK (K a1 a2 a3) P) : OK (bK3 o K) P := by
  obtain ⟨⟨a1, a2, a3⟩, rfl, h2⟩ := h
  exact hk _ _ _ h2
theorem OK.j3 {A1 A2 A3 : Type} {α : Type} {K : A1 → A2 → A3 → Option α} {body : (A1 → A2 → A3 → Option α) → Option α} {P : α → Prop} (J : A1 → A2 → A3 → Prop) (h1 : ∀ a1 a2 a3, J a1 a2 a3 → OK (K a1 a2 a3) P) (h2 : ∀ k : A1 → A2 → A3 → Option α, (∀ a1 a2 a3, J a1 a2 a3 → OK (k a1 a2 a3) P) → OK (body k) P) : OK (jn3 K body) P := h2 K h1
theorem OK.ju3 {A1 A2 A3 : Type} {α : Type} {K : A1 → A2 → A3 → Option α} {body : (A1 → A2 → A3 → Option α) → Option α} {P : α → Prop} (h : OK (body K) P) : OK (jn3 K body) P := h
theorem OK.w3 {A1 A2 A3 : Type} {α : Type} {step : A1 → A2 → A3 → (A1 → A2 → A3 → Option α) → Option α} {P : α → Prop} (I : Nat → A1 → A2 → A3 → Prop) (e : Nat) (h : ∀ (t : Nat) a1 a2 a3 (c : A1 → A2 → A3 → Option α), I t a1 a2 a3 → t ≤ e → (t < e → ∀ b1 b2 b3, I (t + 1) b1 b2 b3 → OK (c b1 b2 b3) P) → OK (step a1 a2 a3 c) P) {F : Nat} (hF : e < F) {x1 : A1} {x2 : A2} {x3 : A3} (h0 : I 0 x1 x2 x3) : OK (wl3 step F x1 x2 x3) P := by
  have key : ∀ (F t : Nat) a1 a2 a3, I t a1 a2 a3 → t ≤ e → e - t < F → OK (wl3 step F a1 a2 a3) P := by
    intro F
    induction F with
    | zero => intro t a1 a2 a3 _ _ h; omega
    | succ F ih =>
      intro t a1 a2 a3 hI ht hF
      exact h t a1 a2 a3 (wl3 step F) hI ht (fun hlt b1 b2 b3 hb => ih (t + 1) b1 b2 b3 hb (by omega) (by omega))
  exact key F 0 x1 x2 x3 h0 (Nat.zero_le e) (by omega)
theorem OK.b4 {A1 A2 A3 A4 : Type} {α : Type} {o : Option (A1 × A2 × A3 × A4)} {K : A1 → A2 → A3 → A4 → Option α} {P : α → Prop} {Q : (A1 × A2 × A3 × A4) → Prop} (h : OK o Q) (hk : ∀ a1 a2 a3 a4, Q (a1, a2, a3, a4) → OK (K a1 a2 a3 a4) P) : OK (bK4 o K) P := by
  obtain ⟨⟨a1, a2, a3, a4⟩, rfl, h2⟩ := h
  exact hk _ _ _ _ h2
theorem OK.j4 {A1 A2 A3 A4 : Type} {α : Type} {K : A1 → A2 → A3 → A4 → Option α} {body : (A1 → A2 → A3 → A4 → Option α) → Option α} {P : α → Prop} (J : A1 → A2 → A3 → A4 → Prop) (h1 : ∀ a1 a2 a3 a4, J a1 a2 a3 a4 → OK (K a1 a2 a3 a4) P) (h2 : ∀ k : A1 → A2 → A3 → A4 → Option α, (∀ a1 a2 a3 a4, J a1 a2 a3 a4 → OK (k a1 a2 a3 a4) P) → OK (body k) P) : OK (jn4 K body) P := h2 K h1
theorem OK.ju4 {A1 A2 A3 A4 : Type} {α : Type} {K : A1 → A2 → A3 → A4 → Option α} {body : (A1 → A2 → A3 → A4 → Option α) → Option α} {P : α → Prop} (h : OK (body K) P) : OK (jn4 K body) P := h
theorem OK.w4 {A1 A2 A3 A4 : Type} {α : Type} {step : A1 → A2 → A3 → A4 → (A1 → A2 → A3 → A4 → Option α) → Option α} {P : α → Prop} (I : Nat → A1 → A2 → A3 → A4 → Prop) (e : Nat) (h : ∀ (t : Nat) a1 a2 a3 a4 (c : A1 → A2 → A3 → A4 → Option α), I t a1 a2 a3 a4 → t ≤ e → (t < e → ∀ b1 b2 b3 b4, I (t + 1) b1 b2 b3 b4 → OK (c b1 b2 b3 b4) P) → OK (step a1 a2 a3 a4 c) P) {F : Nat} (hF : e < F) {x1 : A1} {x2 : A2} {x3 : A3} {x4 : A4} (h0 : I 0 x1 x2 x3 x4) : OK (wl4 step F x1 x2 x3 x4) P := by
  have key : ∀ (F t : Nat) a1 a2 a3 a4, I t a1 a2 a3 a4 → t ≤ e → e - t < F → OK (wl4 step F a1 a2 a3 a4) P := by
    intro F
    induction F with
    | zero => intro t a1 a2 a3 a4 _ _ h; omega
    | succ F ih =>
      intro t a1 a2 a3 a4 hI ht hF
      exact h t a1 a2 a3 a4 (wl4 step F) hI ht (fun hlt b1 b2 b3 b4 hb => ih (t + 1) b1 b2 b3 b4 hb (by omega) (by omega))
  exact key F 0 x1 x2 x3 x4 h0 (Nat.zero_le e) (by omega)
theorem OK.b5 {A1 A2 A3 A4 A5 : Type} {α : Type} {o : Option (A1 × A2 × A3 × A4 × A5)} {K : A1 → A2 → A3 → A4 → A5 → Option α} {P : α → Prop} {Q : (A1 × A2 × A3 × A4 × A5) → Prop} (h : OK o Q) (hk : ∀ a1 a2 a3 a4 a5, Q (a1, a2, a3, a4, a5) → OK (K a1 a2 a3 a4 a5) P) : OK (bK5 o K) P := by
  obtain ⟨⟨a1, a2, a3, a4, a5⟩, rfl, h2⟩ := h
  exact hk _ _ _ _ _ h2
theorem OK.j5 {A1 A2 A3 A4 A5 : Type} {α : Type} {K : A1 → A2 → A3 → A4 → A5 → Option α} {body : (A1 → A2 → A3 → A4 → A5 → Option α) → Option α} {P : α → Prop} (J : A1 → A2 → A3 → A4 → A5 → Prop) (h1 : ∀ a1 a2 a3 a4 a5, J a1 a2 a3 a4 a5 → OK (K a1 a2 a3 a4 a5) P) (h2 : ∀ k : A1 → A2 → A3 → A4 → A5 → Option α, (∀ a1 a2 a3 a4 a5, J a1 a2 a3 a4 a5 → OK (k a1 a2 a3 a4 a5) P) → OK (body k) P) : OK (jn5 K body) P := h2 K h1
theorem OK.ju5 {A1 A2 A3 A4 A5 : Type} {α : Type} {K : A1 → A2 → A3 → A4 → A5 → Option α} {body : (A1 → A2 → A3 → A4 → A5 → Option α) → Option α} {P : α → Prop} (h : OK (body K) P) : OK (jn5 K body) P := h
theorem OK.w5 {A1 A2 A3 A4 A5 : Type} {α : Type} {step : A1 → A2 → A3 → A4 → A5 → (A1 → A2 → A3 → A4 → A5 → Option α) → Option α} {P : α → Prop} (I : Nat → A1 → A2 → A3 → A4 → A5 → Prop) (e : Nat) (h : ∀ (t : Nat) a1 a2 a3 a4 a5 (c : A1 → A2 → A3 → A4 → A5 → Option α), I t a1 a2 a3 a4 a5 → t ≤ e → (t < e → ∀ b1 b2 b3 b4 b5, I (t + 1) b1 b2 b3 b4 b5 → OK (c b1 b2 b3 b4 b5) P) → OK (step a1 a2 a3 a4 a5 c) P) {F : Nat} (hF : e < F) {x1 : A1} {x2 : A2} {x3 : A3} {x4 : A4} {x5 : A5} (h0 : I 0 x1 x2 x3 x4 x5) : OK (wl5 step F x1 x2 x3 x4 x5) P := by
  have key : ∀ (F t : Nat) a1 a2 a3 a4 a5, I t a1 a2 a3 a4 a5 → t ≤ e → e - t < F → OK (wl5 step F a1 a2 a3 a4 a5) P := by
    intro F
    induction F with
    | zero => intro t a1 a2 a3 a4 a5 _ _ h; omega
    | succ F ih =>
      intro t a1 a2 a3 a4 a5 hI ht hF
      exact h t a1 a2 a3 a4 a5 (wl5 step F) hI ht (fun hlt b1 b2 b3 b4 b5 hb => ih (t + 1) b1 b2 b3 b4 b5 hb (by omega) (by omega))
  exact key F 0 x1 x2 x3 x4 x5 h0 (Nat.zero_le e) (by omega)
theorem OK.b6 {A1 A2 A3 A4 A5 A6 : Type} {α : Type} {o : Option (A1 × A2 × A3 × A4 × A5 × A6)} {K : A1 → A2 → A3 → A4 → A5 → A6 → Option α} {P : α → Prop} {Q : (A1 × A2 × A3 × A4 × A5 × A6) → Prop} (h : OK o Q) (hk : ∀ a1 a2 a3 a4 a5 a6, Q (a1, a2, a3, a4, a5, a6) → OK (K a1 a2 a3 a4 a5 a6) P) : OK (bK6 o K) P := by
  obtain ⟨⟨a1, a2, a3, a4, a5, a6⟩, rfl, h2⟩ := h
  exact hk _ _ _ _ _ _ h2
theorem OK.j6 {A1 A2 A3 A4 A5 A6 : Type} {α : Type} {K : A1 → A2 → A3 → A4 → A5 → A6 → Option α} {body : (A1 → A2 → A3 → A4 → A5 → A6 → Option α) → Option α} {P : α → Prop} (J : A1 → A2 → A3 → A4 → A5 → A6 → Prop) (h1 : ∀ a1 a2 a3 a4 a5 a6, J a1 a2 a3 a4 a5 a6 → OK (K a1 a2 a3 a4 a5 a6) P) (h2 : ∀ k : A1 → A2 → A3 → A4 → A5 → A6 → Option α, (∀ a1 a2 a3 a4 a5 a6, J a1 a2 a3 a4 a5 a6 → OK (k a1 a2 a3 a4 a5 a6) P) → OK (body k) P) : OK (jn6 K body) P := h2 K h1
theorem OK.ju6 {A1 A2 A3 A4 A5 A6 : Type} {α : Type} {K : A1 → A2 → A3 → A4 → A5 → A6 → Option α} {body : (A1 → A2 → A3 → A4 → A5 → A6 → Option α) → Option α} {P : α → Prop} (h : OK (body K) P) : OK (jn6 K body) P := h
theorem OK.w6 {A1 A2 A3 A4 A5 A6 : Type} {α : Type} {step : A1 → A2 → A3 → A4 → A5 → A6 → (A1 → A2 → A3 → A4 → A5 → A6 → Option α) → Option α} {P : α → Prop} (I : Nat → A1 → A2 → A3 → A4 → A5 → A6 → Prop) (e : Nat) (h : ∀ (t : Nat) a1 a2 a3 a4 a5 a6 (c : A1 → A2 → A3 → A4 → A5 → A6 → Option α), I t a1 a2 a3 a4 a5 a6 → t ≤ e → (t < e → ∀ b1 b2 b3 b4 b5 b6, I (t + 1) b1 b2 b3 b4 b5 b6 → OK (c b1 b2 b3 b4 b5 b6) P) → OK (step a1 a2 a3 a4 a5 a6 c) P) {F : Nat} (hF : e < F) {x1 : A1} {x2 : A2} {x3 : A3} {x4 : A4} {x5 : A5} {x6 : A6} (h0 : I 0 x1 x2 x3 x4 x5 x6) : OK (wl6 step F x1 x2 x3 x4 x5 x6) P := by
  have key : ∀ (F t : Nat) a1 a2 a3 a4 a5 a6, I t a1 a2 a3 a4 a5 a6 → t ≤ e → e - t < F → OK (wl6 step F a1 a2 a3 a4 a5 a6) P := by
    intro F
    induction F with
    | zero => intro t a1 a2 a3 a4 a5 a6 _ _ h; omega
    | succ F ih =>
      intro t a1 a2 a3 a4 a5 a6 hI ht hF
      exact h t a1 a2 a3 a4 a5 a6 (wl6 step F) hI ht (fun hlt b1 b2 b3 b4 b5 b6 hb => ih (t + 1) b1 b2 b3 b4 b5 b6 hb (by omega) (by omega))
  exact key F 0 x1 x2 x3 x4 x5 x6 h0 (Nat.zero_le e) (by omega)
theorem OK.b7 {A1 A2 A3 A4 A5 A6 A7 : Type} {α : Type} {o : Option (A1 × A2 × A3 × A4 × A5 × A6 × A7)} {K : A1 → A2 → A3 → A4 → A5 → A6 → A7 → Option α} {P : α → Prop} {Q : (A1 × A2 × A3 × A4 × A5 × A6 × A7) → Prop} (h : OK o Q) (hk : ∀ a1 a2 a3 a4 a5 a6 a7, Q (a1, a2, a3, a4, a5, a6, a7) → OK (K a1 a2 a3 a4 a5 a6 a7) P) : OK (bK7 o K) P := by
  obtain ⟨⟨a1, a2, a3, a4, a5, a6, a7⟩, rfl, h2⟩ := h
  exact hk _ _ _ _ _ _ _ h2
theorem OK.j7 {A1 A2 A3 A4 A5 A6 A7 : Type} {α : Type} {K : A1 → A2 → A3 → A4 → A5 → A6 → A7 → Option α} {body : (A1 → A2 → A3 → A4 → A5 → A6 → A7 → Option α) → Option α} {P : α → Prop} (J : A1 → A2 → A3 → A4 → A5 → A6 → A7 → Prop) (h1 : ∀ a1 a2 a3 a4 a5 a6 a7, J a1 a2 a3 a4 a5 a6 a7 → OK (K a1 a2 a3 a4 a5 a6 a7) P) (h2 : ∀ k : A1 → A2 → A3 → A4 → A5 → A6 → A7 → Option α, (∀ a1 a2 a3 a4 a5 a6 a7, J a1 a2 a3 a4 a5 a6 a7 → OK (k a1 a2 a3 a4 a5 a6 a7) P) → OK (body k) P) : OK (jn7 K body) P := h2 K h1
theorem OK.ju7 {A1 A2 A3 A4 A5 A6 A7 : Type} {α : Type} {K : A1 → A2 → A3 → A4 → A5 → A6 → A7 → Option α} {body : (A1 → A2 → A3 → A4 → A5 → A6 → A7 → Option α) → Option α} {P : α → Prop} (h : OK (body K) P) : OK (jn7 K body) P := h
theorem OK.w7 {A1 A2 A3 A4 A5 A6 A7 : Type} {α : Type} {step : A1 → A2 → A3 → A4 → A5 → A6 → A7 → (A1 → A2 → A3 → A4 → A5 → A6 → A7 → Option α) → Option α} {P : α → Prop} (I : Nat → A1 → A2 → A3 → A4 → A5 → A6 → A7 → Prop) (e : Nat) (h : ∀ (t : Nat) a1 a2 a3 a4 a5 a6 a7 (c : A1 → A2 → A3 → A4 → A5 → A6 → A7 → Option α), I t a1 a2 a3 a4 a5 a6 a7 → t ≤ e → (t < e → ∀ b1 b2 b3 b4 b5 b6 b7, I (t + 1) b1 b2 b3 b4 b5 b6 b7 → OK (c b1 b2 b3 b4 b5 b6 b7) P) → OK (step a1 a2 a3 a4 a5 a6 a7 c) P) {F : Nat} (hF : e < F) {x1 : A1} {x2 : A2} {x3 : A3} {x4 : A4} {x5 : A5} {x6 : A6} {x7 : A7} (h0 : I 0 x1 x2 x3 x4 x5 x6 x7) : OK (wl7 step F x1 x2 x3 x4 x5 x6 x7) P := by
  have key : ∀ (F t : Nat) a1 a2 a3 a4 a5 a6 a7, I t a1 a2 a3 a4 a5 a6 a7 → t ≤ e → e - t < F → OK (wl7 step F a1 a2 a3 a4 a5 a6 a7) P := by
    intro F
    induction F with
    | zero => intro t a1 a2 a3 a4 a5 a6 a7 _ _ h; omega
    | succ F ih =>
      intro t a1 a2 a3 a4 a5 a6 a7 hI ht hF
      exact h t a1 a2 a3 a4 a5 a6 a7 (wl7 step F) hI ht (fun hlt b1 b2 b3 b4 b5 b6 b7 hb => ih (t + 1) b1 b2 b3 b4 b5 b6 b7 hb (by omega) (by omega))
  exact key F 0 x1 x2 x3 x4 x5 x6 x7 h0 (Nat.zero_le e) (by omega)
theorem OK.b8 {A1 A2 A3 A4 A5 A6 A7 A8 : Type} {α : Type} {o : Option (A1 × A2 × A3 × A4 × A5 × A6 × A7 × A8)} {K : A1 → A2 → A3 → A4 → A5 → A6 → A7 → A8 → Option α} {P : α → Prop} {Q : (A1 × A2 × A3 × A4 × A5 × A6 × A7 × A8) → Prop} (h : OK o Q) (hk : ∀ a1 a2 a3 a4 a5 a6 a7 a8, Q (a1, a2, a3, a4, a5, a6, a7, a8) → OK (K a1 a2 a3 a4 a5 a6 a7 a8) P) : OK (bK8 o K) P := by
  obtain ⟨⟨a1, a2, a3, a4, a5, a6, a7, a8⟩, rfl, h2⟩ := h
  exact hk _ _ _ _ _ _ _ _ h2
theorem OK.j8 {A1 A2 A3 A4 A5 A6 A7 A8 : Type} {α : Type} {K : A1 → A2 → A3 → A4 → A5 → A6 → A7 → A8 → Option α} {body : (A1 → A2 → A3 → A4 → A5 → A6 → A7 → A8 → Option α) → Option α} {P : α → Prop} (J : A1 → A2 → A3 → A4 → A5 → A6 → A7 → A8 → Prop) (h1 : ∀ a1 a2 a3 a4 a5 a6 a7 a8, J a1 a2 a3 a4 a5 a6 a7 a8 → OK (K a1 a2 a3 a4 a5 a6 a7 a8) P) (h2 : ∀ k : A1 → A2 → A3 → A4 → A5 → A6 → A7 → A8 → Option α, (∀ a1 a2 a3 a4 a5 a6 a7 a8, J a1 a2 a3 a4 a5 a6 a7 a8 → OK (k a1 a2 a3 a4 a5 a6 a7 a8) P) → OK (body k) P) : OK (jn8 K body) P := h2 K h1
theorem OK.ju8 {A1 A2 A3 A4 A5 A6 A7 A8 : Type} {α : Type} {K : A1 → A2 → A3 → A4 → A5 → A6 → A7 → A8 → Option α} {body : (A1 → A2 → A3 → A4 → A5 → A6 → A7 → A8 → Option α) → Option α} {P : α → Prop} (h : OK (body K) P) : OK (jn8 K body) P := h
theorem OK.w8 {A1 A2 A3 A4 A5 A6 A7 A8 : Type} {α : Type} {step : A1 → A2 → A3 → A4 → A5 → A6 → A7 → A8 → (A1 → A2 → A3 → A4 → A5 → A6 → A7 → A8 → Option α) → Option α} {P : α → Prop} (I : Nat → A1 → A2 → A3 → A4 → A5 → A6 → A7 → A8 → Prop) (e : Nat) (h : ∀ (t : Nat) a1 a2 a3 a4 a5 a6 a7 a8 (c : A1 → A2 → A3 → A4 → A5 → A6 → A7 → A8 → Option α), I t a1 a2 a3 a4 a5 a6 a7 a8 → t ≤ e → (t < e → ∀ b1 b2 b3 b4 b5 b6 b7 b8, I (t + 1) b1 b2 b3 b4 b5 b6 b7 b8 → OK (c b1 b2 b3 b4 b5 b6 b7 b8) P) → OK (step a1 a2 a3 a4 a5 a6 a7 a8 c) P) {F : Nat} (hF : e < F) {x1 : A1} {x2 : A2} {x3 : A3} {x4 : A4} {x5 : A5} {x6 : A6} {x7 : A7} {x8 : A8} (h0 : I 0 x1 x2 x3 x4 x5 x6 x7 x8) : OK (wl8 step F x1 x2 x3 x4 x5 x6 x7 x8) P := by
  have key : ∀ (F t : Nat) a1 a2 a3 a4 a5 a6 a7 a8, I t a1 a2 a3 a4 a5 a6 a7 a8 → t ≤ e → e - t < F → OK (wl8 step F a1 a2 a3 a4 a5 a6 a7 a8) P := by
    intro F
    induction F with
    | zero => intro t a1 a2 a3 a4 a5 a6 a7 a8 _ _ h; omega
    | succ F ih =>
      intro t a1 a2 a3 a4 a5 a6 a7 a8 hI ht hF
      exact h t a1 a2 a3 a4 a5 a6 a7 a8 (wl8 step F) hI ht (fun hlt b1 b2 b3 b4 b5 b6 b7 b8 hb => ih (t + 1) b1 b2 b3 b4 b5 b6 b7 b8 hb (by omega) (by omega))
  exact key F 0 x1 x2 x3 x4 x5 x6 x7 x8 h0 (Nat.zero_le e) (by omega)
theorem OK.b9 {A1 A2 A3 A4 A5 A6 A7 A8 A9 : Type} {α : Type} {o : Option (A1 × A2 × A3 × A4 × A5 × A6 × A7 × A8 × A9)} {K : A1 → A2 → A3 → A4 → A5 → A6 → A7 → A8 → A9 → Option α} {P : α → Prop} {Q : (A1 × A2 × A3 × A4 × A5 × A6 × A7 × A8 × A9) → Prop} (h : OK o Q) (hk : ∀ a1 a2 a3 a4 a5 a6 a7 a8 a9, Q (a1, a2, a3, a4, a5, a6, a7, a8, a9) → OK (K a1 a2 a3 a4 a5 a6 a7 a8 a9) P) : OK (bK9 o K) P := by
  obtain ⟨⟨a1, a2, a3, a4, a5, a6, a7, a8, a9⟩, rfl, h2⟩ := h
  exact hk _ _ _ _ _ _ _ _ _ h2
theorem OK.j9 {A1 A2 A3 A4 A5 A6 A7 A8 A9 : Type} {α : Type} {K : A1 → A2 → A3 → A4 → A5 → A6 → A7 → A8 → A9 → Option α} {body : (A1 → A2 → A3 → A4 → A5 → A6 → A7 → A8 → A9 → Option α) → Option α} {P : α → Prop} (J : A1 → A2 → A3 → A4 → A5 → A6 → A7 → A8 → A9 → Prop) (h1 : ∀ a1 a2 a3 a4 a5 a6 a7 a8 a9, J a1 a2 a3 a4 a5 a6 a7 a8 a9 → OK (K a1 a2 a3 a4 a5 a6 a7 a8 a9) P) (h2 : ∀ k : A1 → A2 → A3 → A4 → A5 → A6 → A7 → A8 → A9 → Option α, (∀ a1 a2 a3 a4 a5 a6 a7 a8 a9, J a1 a2 a3 a4 a5 a6 a7 a8 a9 → OK (k a1 a2 a3 a4 a5 a6 a7 a8 a9) P) → OK (body k) P) : OK (jn9 K body) P := h2 K h1
theorem OK.ju9 {A1 A2 A3 A4 A5 A6 A7 A8 A9 : Type} {α : Type} {K : A1 → A2 → A3 → A4 → A5 → A6 → A7 → A8 → A9 → Option α} {body : (A1 → A2 → A3 → A4 → A5 → A6 → A7 → A8 → A9 → Option α) → Option α} {P : α → Prop} (h : OK (body K) P) : OK (jn9 K body) P := h
theorem OK.w9 {A1 A2 A3 A4 A5 A6 A7 A8 A9 : Type} {α : Type} {step : A1 → A2 → A3 → A4 → A5 → A6 → A7 → A8 → A9 → (A1 → A2 → A3 → A4 → A5 → A6 → A7 → A8 → A9 → Option α) → Option α} {P : α → Prop} (I : Nat → A1 → A2 → A3 → A4 → A5 → A6 → A7 → A8 → A9 → Prop) (e : Nat) (h : ∀ (t : Nat) a1 a2 a3 a4 a5 a6 a7 a8 a9 (c : A1 → A2 → A3 → A4 → A5 → A6 → A7 → A8 → A9 → Option α), I t a1 a2 a3 a4 a5 a6 a7 a8 a9 → t ≤ e → (t < e → ∀ b1 b2 b3 b4 b5 b6 b7 b8 b9, I (t + 1) b1 b2 b3 b4 b5 b6 b7 b8 b9 → OK (c b1 b2 b3 b4 b5 b6 b7 b8 b9) P) → OK (step a1 a2 a3 a4 a5 a6 a7 a8 a9 c) P) {F : Nat} (hF : e < F) {x1 : A1} {x2 : A2} {x3 : A3} {x4 : A4} {x5 : A5} {x6 : A6} {x7 : A7} {x8 : A8} {x9 : A9} (h0 : I 0 x1 x2 x3 x4 x5 x6 x7 x8 x9) : OK (wl9 step F x1 x2 x3 x4 x5 x6 x7 x8 x9) P := by
  have key : ∀ (F t : Nat) a1 a2 a3 a4 a5 a6 a7 a8 a9, I t a1 a2 a3 a4 a5 a6 a7 a8 a9 → t ≤ e → e - t < F → OK (wl9 step F a1 a2 a3 a4 a5 a6 a7 a8 a9) P := by
    intro F
    induction F with
    | zero => intro t a1 a2 a3 a4 a5 a6 a7 a8 a9 _ _ h; omega
    | succ F ih =>
      intro t a1 a2 a3 a4 a5 a6 a7 a8 a9 hI ht hF
      exact h t a1 a2 a3 a4 a5 a6 a7 a8 a9 (wl9 step F) hI ht (fun hlt b1 b2 b3 b4 b5 b6 b7 b8 b9 hb => ih (t + 1) b1 b2 b3 b4 b5 b6 b7 b8 b9 hb (by omega) (by omega))
  exact key F 0 x1 x2 x3 x4 x5 x6 x7 x8 x9 h0 (Nat.zero_le e) (by omega)
theorem OK.b10 {A1 A2 A3 A4 A5 A6 A7 A8 A9 A10 : Type} {α : Type} {o : Option (A1 × A2 × A3 × A4 × A5 × A6 × A7 × A8 × A9 × A10)} {K : A1 → A2 → A3 → A4 → A5 → A6 → A7 → A8 → A9 → A10 → Option α} {P : α → Prop} {Q : (A1 × A2 × A3 × A4 × A5 × A6 × A7 × A8 × A9 × A10) → Prop} (h : OK o Q) (hk : ∀ a1 a2 a3 a4 a5 a6 a7 a8 a9 a10, Q (a1, a2, a3, a4, a5, a6, a7, a8, a9, a10) → OK (K a1 a2 a3 a4 a5 a6 a7 a8 a9 a10) P) : OK (bK10 o K) P := by
  obtain ⟨⟨a1, a2, a3, a4, a5, a6, a7, a8, a9, a10⟩, rfl, h2⟩ := h
  exact hk _ _ _ _ _ _ _ _ _ _ h2
theorem OK.j10 {A1 A2 A3 A4 A5 A6 A7 A8 A9 A10 : Type} {α : Type} {K : A1 → A2 → A3 → A4 → A5 → A6 → A7 → A8 → A9 → A10 → Option α} {body : (A1 → A2 → A3 → A4 → A5 → A6 → A7 → A8 → A9 → A10 → Option α) → Option α} {P : α → Prop} (J : A1 → A2 → A3 → A4 → A5 → A6 → A7 → A8 → A9 → A10 → Prop) (h1 : ∀ a1 a2 a3 a4 a5 a6 a7 a8 a9 a10, J a1 a2 a3 a4 a5 a6 a7 a8 a9 a10 → OK (K a1 a2 a3 a4 a5 a6 a7 a8 a9 a10) P) (h2 : ∀ k : A1 → A2 → A3 → A4 → A5 → A6 → A7 → A8 → A9 → A10 → Option α, (∀ a1 a2 a3 a4 a5 a6 a7 a8 a9 a10, J a1 a2 a3 a4 a5 a6 a7 a8 a9 a10 → OK (k a1 a2 a3 a4 a5 a6 a7 a8 a9 a10) P) → OK (body k) P) : OK (jn10 K body) P := h2 K h1
theorem OK.ju10 {A1 A2 A3 A4 A5 A6 A7 A8 A9 A10 : Type} {α : Type} {K : A1 → A2 → A3 → A4 → A5 → A6 → A7 → A8 → A9 → A10 → Option α} {body : (A1 → A2 → A3 → A4 → A5 → A6 → A7 → A8 → A9 → A10 → Option α) → Option α} {P : α → Prop} (h : OK (body K) P) : OK (jn10 K body) P := h
theorem OK.w10 {A1 A2 A3 A4 A5 A6 A7 A8 A9 A10 : Type} {α : Type} {step : A1 → A2 → A3 → A4 → A5 → A6 → A7 → A8 → A9 → A10 → (A1 → A2 → A3 → A4 → A5 → A6 → A7 → A8 → A9 → A10 → Option α) → Option α} {P : α → Prop} (I : Nat → A1 → A2 → A3 → A4 → A5 → A6 → A7 → A8 → A9 → A10 → Prop) (e : Nat) (h : ∀ (t : Nat) a1 a2 a3 a4 a5 a6 a7 a8 a9 a10 (c : A1 → A2 → A3 → A4 → A5 → A6 → A7 → A8 → A9 → A10 → Option α), I t a1 a2 a3 a4 a5 a6 a7 a8 a9 a10 → t ≤ e → (t < e → ∀ b1 b2 b3 b4 b5 b6 b7 b8 b9 b10, I (t + 1) b1 b2 b3 b4 b5 b6 b7 b8 b9 b10 → OK (c b1 b2 b3 b4 b5 b6 b7 b8 b9 b10) P) → OK (step a1 a2 a3 a4 a5 a6 a7 a8 a9 a10 c) P) {F : Nat} (hF : e < F) {x1 : A1} {x2 : A2} {x3 : A3} {x4 : A4} {x5 : A5} {x6 : A6} {x7 : A7} {x8 : A8} {x9 : A9} {x10 : A10} (h0 : I 0 x1 x2 x3 x4 x5 x6 x7 x8 x9 x10) : OK (wl10 step F x1 x2 x3 x4 x5 x6 x7 x8 x9 x10) P := by
  have key : ∀ (F t : Nat) a1 a2 a3 a4 a5 a6 a7 a8 a9 a10, I t a1 a2 a3 a4 a5 a6 a7 a8 a9 a10 → t ≤ e → e - t < F → OK (wl10 step F a1 a2 a3 a4 a5 a6 a7 a8 a9 a10) P := by
    intro F
    induction F with
    | zero => intro t a1 a2 a3 a4 a5 a6 a7 a8 a9 a10 _ _ h; omega
    | succ F ih =>
      intro t a1 a2 a3 a4 a5 a6 a7 a8 a9 a10 hI ht hF
      exact h t a1 a2 a3 a4 a5 a6 a7 a8 a9 a10 (wl10 step F) hI ht (fun hlt b1 b2 b3 b4 b5 b6 b7 b8 b9 b10 hb => ih (t + 1) b1 b2 b3 b4 b5 b6 b7 b8 b9 b10 hb (by omega) (by omega))
  exact key F 0 x1 x2 x3 x4 x5 x6 x7 x8 x9 x10 h0 (Nat.zero_le e) (by omega)
theorem OK.b11 {A1 A2 A3 A4 A5 A6 A7 A8 A9 A10 A11 : Type} {α : Type} {o : Option (A1 × A2 × A3 × A4 × A5 × A6 × A7 × A8 × A9 × A10 × A11)} {K : A1 → A2 → A3 → A4 → A5 → A6 → A7 → A8 → A9 → A10 → A11 → Option α} {P : α → Prop} {Q : (A1 × A2 × A3 × A4 × A5 × A6 × A7 × A8 × A9 × A10 × A11) → Prop} (h : OK o Q) (hk : ∀ a1 a2 a3 a4 a5 a6 a7 a8 a9 a10 a11, Q (a1, a2, a3, a4, a5, a6, a7, a8, a9, a10, a11) → OK (K a1 a2 a3 a4 a5 a6 a7 a8 a9 a10 a11) P) : OK (bK11 o K) P := by
  obtain ⟨⟨a1, a2, a3, a4, a5, a6, a7, a8, a9, a10, a11⟩, rfl, h2⟩ := h
  exact hk _ _ _ _ _ _ _ _ _ _ _ h2
theorem OK.j11 {A1 A2 A3 A4 A5 A6 A7 A8 A9 A10 A11 : Type} {α : Type} {K : A1 → A2 → A3 → A4 → A5 → A6 → A7 → A8 → A9 → A10 → A11 → Option α} {body : (A1 → A2 → A3 → A4 → A5 → A6 → A7 → A8 → A9 → A10 → A11 → Option α) → Option α} {P : α → Prop} (J : A1 → A2 → A3 → A4 → A5 → A6 → A7 → A8 → A9 → A10 → A11 → Prop) (h1 : ∀ a1 a2 a3 a4 a5 a6 a7 a8 a9 a10 a11, J a1 a2 a3 a4 a5 a6 a7 a8 a9 a10 a11 → OK (K a1 a2 a3 a4 a5 a6 a7 a8 a9 a10 a11) P) (h2 : ∀ k : A1 → A2 → A3 → A4 → A5 → A6 → A7 → A8 → A9 → A10 → A11 → Option α, (∀ a1 a2 a3 a4 a5 a6 a7 a8 a9 a10 a11, J a1 a2 a3 a4 a5 a6 a7 a8 a9 a10 a11 → OK (k a1 a2 a3 a4 a5 a6 a7 a8 a9 a10 a11) P) → OK (body k) P) : OK (jn11 K body) P := h2 K h1
theorem OK.ju11 {A1 A2 A3 A4 A5 A6 A7 A8 A9 A10 A11 : Type} {α : Type} {K : A1 → A2 → A3 → A4 → A5 → A6 → A7 → A8 → A9 → A10 → A11 → Option α} {body : (A1 → A2 → A3 → A4 → A5 → A6 → A7 → A8 → A9 → A10 → A11 → Option α) → Option α} {P : α → Prop} (h : OK (body K) P) : OK (jn11 K body) P := h
theorem OK.w11 {A1 A2 A3 A4 A5 A6 A7 A8 A9 A10 A11 : Type} {α : Type} {step : A1 → A2 → A3 → A4 → A5 → A6 → A7 → A8 → A9 → A10 → A11 → (A1 → A2 → A3 → A4 → A5 → A6 → A7 → A8 → A9 → A10 → A11 → Option α) → Option α} {P : α → Prop} (I : Nat → A1 → A2 → A3 → A4 → A5 → A6 → A7 → A8 → A9 → A10 → A11 → Prop) (e : Nat) (h : ∀ (t : Nat) a1 a2 a3 a4 a5 a6 a7 a8 a9 a10 a11 (c : A1 → A2 → A3 → A4 → A5 → A6 → A7 → A8 → A9 → A10 → A11 → Option α), I t a1 a2 a3 a4 a5 a6 a7 a8 a9 a10 a11 → t ≤ e → (t < e → ∀ b1 b2 b3 b4 b5 b6 b7 b8 b9 b10 b11, I (t + 1) b1 b2 b3 b4 b5 b6 b7 b8 b9 b10 b11 → OK (c b1 b2 b3 b4 b5 b6 b7 b8 b9 b10 b11) P) → OK (step a1 a2 a3 a4 a5 a6 a7 a8 a9 a10 a11 c) P) {F : Nat} (hF : e < F) {x1 : A1} {x2 : A2} {x3 : A3} {x4 : A4} {x5 : A5} {x6 : A6} {x7 : A7} {x8 : A8} {x9 : A9} {x10 : A10} {x11 : A11} (h0 : I 0 x1 x2 x3 x4 x5 x6 x7 x8 x9 x10 x11) : OK (wl11 step F x1 x2 x3 x4 x5 x6 x7 x8 x9 x10 x11) P := by
  have key : ∀ (F t : Nat) a1 a2 a3 a4 a5 a6 a7 a8 a9 a10 a11, I t a1 a2 a3 a4 a5 a6 a7 a8 a9 a10 a11 → t ≤ e → e - t < F → OK (wl11 step F a1 a2 a3 a4 a5 a6 a7 a8 a9 a10 a11) P := by
    intro F
    induction F with
    | zero => intro t a1 a2 a3 a4 a5 a6 a7 a8 a9 a10 a11 _ _ h; omega
    | succ F ih =>
      intro t a1 a2 a3 a4 a5 a6 a7 a8 a9 a10 a11 hI ht hF
      exact h t a1 a2 a3 a4 a5 a6 a7 a8 a9 a10 a11 (wl11 step F) hI ht (fun hlt b1 b2 b3 b4 b5 b6 b7 b8 b9 b10 b11 hb => ih (t + 1) b1 b2 b3 b4 b5 b6 b7 b8 b9 b10 b11 hb (by omega) (by omega))
  exact key F 0 x1 x2 x3 x4 x5 x6 x7 x8 x9 x10 x11 h0 (Nat.zero_le e) (by omega)
theorem OK.b12 {A1 A2 A3 A4 A5 A6 A7 A8 A9 A10 A11 A12 : Type} {α : Type} {o : Option (A1 × A2 × A3 × A4 × A5 × A6 × A7 × A8 × A9 × A10 × A11 × A12)} {K : A1 → A2 → A3 → A4 → A5 → A6 → A7 → A8 → A9 → A10 → A11 → A12 → Option α} {P : α → Prop} {Q : (A1 × A2 × A3 × A4 × A5 × A6 × A7 × A8 × A9 × A10 × A11 × A12) → Prop} (h : OK o Q) (hk : ∀ a1 a2 a3 a4 a5 a6 a7 a8 a9 a10 a11 a12, Q (a1, a2, a3, a4, a5, a6, a7, a8, a9, a10, a11, a12) → OK (K a1 a2 a3 a4 a5 a6 a7 a8 a9 a10 a11 a12) P) : OK (bK12 o K) P := by
  obtain ⟨⟨a1, a2, a3, a4, a5, a6, a7, a8, a9, a10, a11, a12⟩, rfl, h2⟩ := h
  exact hk _ _ _ _ _ _ _ _ _ _ _ _ h2
theorem OK.j12 {A1 A2 A3 A4 A5 A6 A7 A8 A9 A10 A11 A12 : Type} {α : Type} {K : A1 → A2 → A3 → A4 → A5 → A6 → A7 → A8 → A9 → A10 → A11 → A12 → Option α} {body : (A1 → A2 → A3 → A4 → A5 → A6 → A7 → A8 → A9 → A10 → A11 → A12 → Option α) → Option α} {P : α → Prop} (J : A1 → A2 → A3 → A4 → A5 → A6 → A7 → A8 → A9 → A10 → A11 → A12 → Prop) (h1 : ∀ a1 a2 a3 a4 a5 a6 a7 a8 a9 a10 a11 a12, J a1 a2 a3 a4 a5 a6 a7 a8 a9 a10 a11 a12 → OK (K a1 a2 a3 a4 a5 a6 a7 a8 a9 a10 a11 a12) P) (h2 : ∀ k : A1 → A2 → A3 → A4 → A5 → A6 → A7 → A8 → A9 → A10 → A11 → A12 → Option α, (∀ a1 a2 a3 a4 a5 a6 a7 a8 a9 a10 a11 a12, J a1 a2 a3 a4 a5 a6 a7 a8 a9 a10 a11 a12 → OK (k a1 a2 a3 a4 a5 a6 a7 a8 a9 a10 a11 a12) P) → OK (body k) P) : OK (jn12 K body) P := h2 K h1
theorem OK.ju12 {A1 A2 A3 A4 A5 A6 A7 A8 A9 A10 A11 A12 : Type} {α : Type} {K : A1 → A2 → A3 → A4 → A5 → A6 → A7 → A8 → A9 → A10 → A11 → A12 → Option α} {body : (A1 → A2 → A3 → A4 → A5 → A6 → A7 → A8 → A9 → A10 → A11 → A12 → Option α) → Option α} {P : α → Prop} (h : OK (body K) P) : OK (jn12 K body) P := h
theorem OK.w12 {A1 A2 A3 A4 A5 A6 A7 A8 A9 A10 A11 A12 : Type} {α : Type} {step : A1 → A2 → A3 → A4 → A5 → A6 → A7 → A8 → A9 → A10 → A11 → A12 → (A1 → A2 → A3 → A4 → A5 → A6 → A7 → A8 → A9 → A10 → A11 → A12 → Option α) → Option α} {P : α → Prop} (I : Nat → A1 → A2 → A3 → A4 → A5 → A6 → A7 → A8 → A9 → A10 → A11 → A12 → Prop) (e : Nat) (h : ∀ (t : Nat) a1 a2 a3 a4 a5 a6 a7 a8 a9 a10 a11 a12 (c : A1 → A2 → A3 → A4 → A5 → A6 → A7 → A8 → A9 → A10 → A11 → A12 → Option α), I t a1 a2 a3 a4 a5 a6 a7 a8 a9 a10 a11 a12 → t ≤ e → (t < e → ∀ b1 b2 b3 b4 b5 b6 b7 b8 b9 b10 b11 b12, I (t + 1) b1 b2 b3 b4 b5 b6 b7 b8 b9 b10 b11 b12 → OK (c b1 b2 b3 b4 b5 b6 b7 b8 b9 b10 b11 b12) P) → OK (step a1 a2 a3 a4 a5 a6 a7 a8 a9 a10 a11 a12 c) P) {F : Nat} (hF : e < F) {x1 : A1} {x2 : A2} {x3 : A3} {x4 : A4} {x5 : A5} {x6 : A6} {x7 : A7} {x8 : A8} {x9 : A9} {x10 : A10} {x11 : A11} {x12 : A12} (h0 : I 0 x1 x2 x3 x4 x5 x6 x7 x8 x9 x10 x11 x12) : OK (wl12 step F x1 x2 x3 x4 x5 x6 x7 x8 x9 x10 x11 x12) P := by
  have key : ∀ (F t : Nat) a1 a2 a3 a4 a5 a6 a7 a8 a9 a10 a11 a12, I t a1 a2 a3 a4 a5 a6 a7 a8 a9 a10 a11 a12 → t ≤ e → e - t < F → OK (wl12 step F a1 a2 a3 a4 a5 a6 a7 a8 a9 a10 a11 a12) P := by
    intro F
    induction F with
    | zero => intro t a1 a2 a3 a4 a5 a6 a7 a8 a9 a10 a11 a12 _ _ h; omega
    | succ F ih =>
      intro t a1 a2 a3 a4 a5 a6 a7 a8 a9 a10 a11 a12 hI ht hF
      exact h t a1 a2 a3 a4 a5 a6 a7 a8 a9 a10 a11 a12 (wl12 step F) hI ht (fun hlt b1 b2 b3 b4 b5 b6 b7 b8 b9 b10 b11 b12 hb => ih (t + 1) b1 b2 b3 b4 b5 b6 b7 b8 b9 b10 b11 b12 hb (by omega) (by omega))
  exact key F 0 x1 x2 x3 x4 x5 x6 x7 x8 x9 x10 x11 x12 h0 (Nat.zero_le e) (by omega)
theorem OK.b13 {A1 A2 A3 A4 A5 A6 A7 A8 A9 A10 A11 A12 A13 : Type} {α : Type} {o : Option (A1 × A2 × A3 × A4 × A5 × A6 × A7 × A8 × A9 × A10 × A11 × A12 × A13)} {K : A1 → A2 → A3 → A4 → A5 → A6 → A7 → A8 → A9 → A10 → A11 → A12 → A13 → Option α} {P : α → Prop} {Q : (A1 × A2 × A3 × A4 × A5 × A6 × A7 × A8 × A9 × A10 × A11 × A12 × A13) → Prop} (h : OK o Q) (hk : ∀ a1 a2 a3 a4 a5 a6 a7 a8 a9 a10 a11 a12 a13, Q (a1, a2, a3, a4, a5, a6, a7, a8, a9, a10, a11, a12, a13) → OK (K a1 a2 a3 a4 a5 a6 a7 a8 a9 a10 a11 a12 a13) P) : OK (bK13 o K) P := by
  obtain ⟨⟨a1, a2, a3, a4, a5, a6, a7, a8, a9, a10, a11, a12, a13⟩, rfl, h2⟩ := h
  exact hk _ _ _ _ _ _ _ _ _ _ _ _ _ h2
theorem OK.w13 {A1 A2 A3 A4 A5 A6 A7 A8 A9 A10 A11 A12 A13 : Type} {α : Type} {step : A1 → A2 → A3 → A4 → A5 → A6 → A7 → A8 → A9 → A10 → A11 → A12 → A13 → (A1 → A2 → A3 → A4 → A5 → A6 → A7 → A8 → A9 → A10 → A11 → A12 → A13 → Option α) → Option α} {P : α → Prop} (I : Nat → A1 → A2 → A3 → A4 → A5 → A6 → A7 → A8 → A9 → A10 → A11 → A12 → A13 → Prop) (e : Nat) (h : ∀ (t : Nat) a1 a2 a3 a4 a5 a6 a7 a8 a9 a10 a11 a12 a13 (c : A1 → A2 → A3 → A4 → A5 → A6 → A7 → A8 → A9 → A10 → A11 → A12 → A13 → Option α), I t a1 a2 a3 a4 a5 a6 a7 a8 a9 a10 a11 a12 a13 → t ≤ e → (t < e → ∀ b1 b2 b3 b4 b5 b6 b7 b8 b9 b10 b11 b12 b13, I (t + 1) b1 b2 b3 b4 b5 b6 b7 b8 b9 b10 b11 b12 b13 → OK (c b1 b2 b3 b4 b5 b6 b7 b8 b9 b10 b11 b12 b13) P) → OK (step a1 a2 a3 a4 a5 a6 a7 a8 a9 a10 a11 a12 a13 c) P) {F : Nat} (hF : e < F) {x1 : A1} {x2 : A2} {x3 : A3} {x4 : A4} {x5 : A5} {x6 : A6} {x7 : A7} {x8 : A8} {x9 : A9} {x10 : A10} {x11 : A11} {x12 : A12} {x13 : A13} (h0 : I 0 x1 x2 x3 x4 x5 x6 x7 x8 x9 x10 x11 x12 x13) : OK (wl13 step F x1 x2 x3 x4 x5 x6 x7 x8 x9 x10 x11 x12 x13) P := by
  have key : ∀ (F t : Nat) a1 a2 a3 a4 a5 a6 a7 a8 a9 a10 a11 a12 a13, I t a1 a2 a3 a4 a5 a6 a7 a8 a9 a10 a11 a12 a13 → t ≤ e → e - t < F → OK (wl13 step F a1 a2 a3 a4 a5 a6 a7 a8 a9 a10 a11 a12 a13) P := by
    intro F
    induction F with
    | zero => intro t a1 a2 a3 a4 a5 a6 a7 a8 a9 a10 a11 a12 a13 _ _ h; omega
    | succ F ih =>
      intro t a1 a2 a3 a4 a5 a6 a7 a8 a9 a10 a11 a12 a13 hI ht hF
      exact h t a1 a2 a3 a4 a5 a6 a7 a8 a9 a10 a11 a12 a13 (wl13 step F) hI ht (fun hlt b1 b2 b3 b4 b5 b6 b7 b8 b9 b10 b11 b12 b13 hb => ih (t + 1) b1 b2 b3 b4 b5 b6 b7 b8 b9 b10 b11 b12 b13 hb (by omega) (by omega))
  exact key F 0 x1 x2 x3 x4 x5 x6 x7 x8 x9 x10 x11 x12 x13 h0 (Nat.zero_le e) (by omega)
theorem OK.b14 {A1 A2 A3 A4 A5 A6 A7 A8 A9 A10 A11 A12 A13 A14 : Type} {α : Type} {o : Option (A1 × A2 × A3 × A4 × A5 × A6 × A7 × A8 × A9 × A10 × A11 × A12 × A13 × A14)} {K : A1 → A2 → A3 → A4 → A5 → A6 → A7 → A8 → A9 → A10 → A11 → A12 → A13 → A14 → Option α} {P : α → Prop} {Q : (A1 × A2 × A3 × A4 × A5 × A6 × A7 × A8 × A9 × A10 × A11 × A12 × A13 × A14) → Prop} (h : OK o Q) (hk : ∀ a1 a2 a3 a4 a5 a6 a7 a8 a9 a10 a11 a12 a13 a14, Q (a1, a2, a3, a4, a5, a6, a7, a8, a9, a10, a11, a12, a13, a14) → OK (K a1 a2 a3 a4 a5 a6 a7 a8 a9 a10 a11 a12 a13 a14) P) : OK (bK14 o K) P := by
  obtain ⟨⟨a1, a2, a3, a4, a5, a6, a7, a8, a9, a10, a11, a12, a13, a14⟩, rfl, h2⟩ := h
  exact hk _ _ _ _ _ _ _ _ _ _ _ _ _ _ h2
theorem OK.w14 {A1 A2 A3 A4 A5 A6 A7 A8 A9 A10 A11 A12 A13 A14 : Type} {α : Type} {step : A1 → A2 → A3 → A4 → A5 → A6 → A7 → A8 → A9 → A10 → A11 → A12 → A13 → A14 → (A1 → A2 → A3 → A4 → A5 → A6 → A7 → A8 → A9 → A10 → A11 → A12 → A13 → A14 → Option α) → Option α} {P : α → Prop} (I : Nat → A1 → A2 → A3 → A4 → A5 → A6 → A7 → A8 → A9 → A10 → A11 → A12 → A13 → A14 → Prop) (e : Nat) (h : ∀ (t : Nat) a1 a2 a3 a4 a5 a6 a7 a8 a9 a10 a11 a12 a13 a14 (c : A1 → A2 → A3 → A4 → A5 → A6 → A7 → A8 → A9 → A10 → A11 → A12 → A13 → A14 → Option α), I t a1 a2 a3 a4 a5 a6 a7 a8 a9 a10 a11 a12 a13 a14 → t ≤ e → (t < e → ∀ b1 b2 b3 b4 b5 b6 b7 b8 b9 b10 b11 b12 b13 b14, I (t + 1) b1 b2 b3 b4 b5 b6 b7 b8 b9 b10 b11 b12 b13 b14 → OK (c b1 b2 b3 b4 b5 b6 b7 b8 b9 b10 b11 b12 b13 b14) P) → OK (step a1 a2 a3 a4 a5 a6 a7 a8 a9 a10 a11 a12 a13 a14 c) P) {F : Nat} (hF : e < F) {x1 : A1} {x2 : A2} {x3 : A3} {x4 : A4} {x5 : A5} {x6 : A6} {x7 : A7} {x8 : A8} {x9 : A9} {x10 : A10} {x11 : A11} {x12 : A12} {x13 : A13} {x14 : A14} (h0 : I 0 x1 x2 x3 x4 x5 x6 x7 x8 x9 x10 x11 x12 x13 x14) : OK (wl14 step F x1 x2 x3 x4 x5 x6 x7 x8 x9 x10 x11 x12 x13 x14) P := by
  have key : ∀ (F t : Nat) a1 a2 a3 a4 a5 a6 a7 a8 a9 a10 a11 a12 a13 a14, I t a1 a2 a3 a4 a5 a6 a7 a8 a9 a10 a11 a12 a13 a14 → t ≤ e → e - t < F → OK (wl14 step F a1 a2 a3 a4 a5 a6 a7 a8 a9 a10 a11 a12 a13 a14) P := by
    intro F
    induction F with
    | zero => intro t a1 a2 a3 a4 a5 a6 a7 a8 a9 a10 a11 a12 a13 a14 _ _ h; omega
    | succ F ih =>
      intro t a1 a2 a3 a4 a5 a6 a7 a8 a9 a10 a11 a12 a13 a14 hI ht hF
      exact h t a1 a2 a3 a4 a5 a6 a7 a8 a9 a10 a11 a12 a13 a14 (wl14 step F) hI ht (fun hlt b1 b2 b3 b4 b5 b6 b7 b8 b9 b10 b11 b12 b13 b14 hb => ih (t + 1) b1 b2 b3 b4 b5 b6 b7 b8 b9 b10 b11 b12 b13 b14 hb (by omega) (by omega))
  exact key F 0 x1 x2 x3 x4 x5 x6 x7 x8 x9 x10 x11 x12 x13 x14 h0 (Nat.zero_le e) (by omega)
theorem OK.b15 {A1 A2 A3 A4 A5 A6 A7 A8 A9 A10 A11 A12 A13 A14 A15 : Type} {α : Type} {o : Option (A1 × A2 × A3 × A4 × A5 × A6 × A7 × A8 × A9 × A10 × A11 × A12 × A13 × A14 × A15)} {K : A1 → A2 → A3 → A4 → A5 → A6 → A7 → A8 → A9 → A10 → A11 → A12 → A13 → A14 → A15 → Option α} {P : α → Prop} {Q : (A1 × A2 × A3 × A4 × A5 × A6 × A7 × A8 × A9 × A10 × A11 × A12 × A13 × A14 × A15) → Prop} (h : OK o Q) (hk : ∀ a1 a2 a3 a4 a5 a6 a7 a8 a9 a10 a11 a12 a13 a14 a15, Q (a1, a2, a3, a4, a5, a6, a7, a8, a9, a10, a11, a12, a13, a14, a15) → OK (K a1 a2 a3 a4 a5 a6 a7 a8 a9 a10 a11 a12 a13 a14 a15) P) : OK (bK15 o K) P := by
  obtain ⟨⟨a1, a2, a3, a4, a5, a6, a7, a8, a9, a10, a11, a12, a13, a14, a15⟩, rfl, h2⟩ := h
  exact hk _ _ _ _ _ _ _ _ _ _ _ _ _ _ _ h2
theorem OK.b16 {A1 A2 A3 A4 A5 A6 A7 A8 A9 A10 A11 A12 A13 A14 A15 A16 : Type} {α : Type} {o : Option (A1 × A2 × A3 × A4 × A5 × A6 × A7 × A8 × A9 × A10 × A11 × A12 × A13 × A14 × A15 × A16)} {K : A1 → A2 → A3 → A4 → A5 → A6 → A7 → A8 → A9 → A10 → A11 → A12 → A13 → A14 → A15 → A16 → Option α} {P : α → Prop} {Q : (A1 × A2 × A3 × A4 × A5 × A6 × A7 × A8 × A9 × A10 × A11 × A12 × A13 × A14 × A15 × A16) → Prop} (h : OK o Q) (hk : ∀ a1 a2 a3 a4 a5 a6 a7 a8 a9 a10 a11 a12 a13 a14 a15 a16, Q (a1, a2, a3, a4, a5, a6, a7, a8, a9, a10, a11, a12, a13, a14, a15, a16) → OK (K a1 a2 a3 a4 a5 a6 a7 a8 a9 a10 a11 a12 a13 a14 a15 a16) P) : OK (bK16 o K) P := by
  obtain ⟨⟨a1, a2, a3, a4, a5, a6, a7, a8, a9, a10, a11, a12, a13, a14, a15, a16⟩, rfl, h2⟩ := h
  exact hk _ _ _ _ _ _ _ _ _ _ _ _ _ _ _ _ h2
theorem OK.b17 {A1 A2 A3 A4 A5 A6 A7 A8 A9 A10 A11 A12 A13 A14 A15 A16 A17 : Type} {α : Type} {o : Option (A1 × A2 × A3 × A4 × A5 × A6 × A7 × A8 × A9 × A10 × A11 × A12 × A13 × A14 × A15 × A16 × A17)} {K : A1 → A2 → A3 → A4 → A5 → A6 → A7 → A8 → A9 → A10 → A11 → A12 → A13 → A14 → A15 → A16 → A17 → Option α} {P : α → Prop} {Q : (A1 × A2 × A3 × A4 × A5 × A6 × A7 × A8 × A9 × A10 × A11 × A12 × A13 × A14 × A15 × A16 × A17) → Prop} (h : OK o Q) (hk : ∀ a1 a2 a3 a4 a5 a6 a7 a8 a9 a10 a11 a12 a13 a14 a15 a16 a17, Q (a1, a2, a3, a4, a5, a6, a7, a8, a9, a10, a11, a12, a13, a14, a15, a16, a17) → OK (K a1 a2 a3 a4 a5 a6 a7 a8 a9 a10 a11 a12 a13 a14 a15 a16 a17) P) : OK (bK17 o K) P := by
  obtain ⟨⟨a1, a2, a3, a4, a5, a6, a7, a8, a9, a10, a11, a12, a13, a14, a15, a16, a17⟩, rfl, h2⟩ := h
  exact hk _ _ _ _ _ _ _ _ _ _ _ _ _ _ _ _ _ h2
theorem OK.b18 {A1 A2 A3 A4 A5 A6 A7 A8 A9 A10 A11 A12 A13 A14 A15 A16 A17 A18 : Type} {α : Type} {o : Option (A1 × A2 × A3 × A4 × A5 × A6 × A7 × A8 × A9 × A10 × A11 × A12 × A13 × A14 × A15 × A16 × A17 × A18)} {K : A1 → A2 → A3 → A4 → A5 → A6 → A7 → A8 → A9 → A10 → A11 → A12 → A13 → A14 → A15 → A16 → A17 → A18 → Option α} {P : α → Prop} {Q : (A1 × A2 × A3 × A4 × A5 × A6 × A7 × A8 × A9 × A10 × A11 × A12 × A13 × A14 × A15 × A16 × A17 × A18) → Prop} (h : OK o Q) (hk : ∀ a1 a2 a3 a4 a5 a6 a7 a8 a9 a10 a11 a12 a13 a14 a15 a16 a17 a18, Q (a1, a2, a3, a4, a5, a6, a7, a8, a9, a10, a11, a12, a13, a14, a15, a16, a17, a18) → OK (K a1 a2 a3 a4 a5 a6 a7 a8 a9 a10 a11 a12 a13 a14 a15 a16 a17 a18) P) : OK (bK18 o K) P := by
  obtain ⟨⟨a1, a2, a3, a4, a5, a6, a7, a8, a9, a10, a11, a12, a13, a14, a15, a16, a17, a18⟩, rfl, h2⟩ := h
  exact hk _ _ _ _ _ _ _ _ _ _ _ _ _ _ _ _ _ _ h2
theorem OK.b19 {A1 A2 A3 A4 A5 A6 A7 A8 A9 A10 A11 A12 A13 A14 A15 A16 A17 A18 A19 : Type} {α : Type} {o : Option (A1 × A2 × A3 × A4 × A5 × A6 × A7 × A8 × A9 × A10 × A11 × A12 × A13 × A14 × A15 × A16 × A17 × A18 × A19)} {K : A1 → A2 → A3 → A4 → A5 → A6 → A7 → A8 → A9 → A10 → A11 → A12 → A13 → A14 → A15 → A16 → A17 → A18 → A19 → Option α} {P : α → Prop} {Q : (A1 × A2 × A3 × A4 × A5 × A6 × A7 × A8 × A9 × A10 × A11 × A12 × A13 × A14 × A15 × A16 × A17 × A18 × A19) → Prop} (h : OK o Q) (hk : ∀ a1 a2 a3 a4 a5 a6 a7 a8 a9 a10 a11 a12 a13 a14 a15 a16 a17 a18 a19, Q (a1, a2, a3, a4, a5, a6, a7, a8, a9, a10, a11, a12, a13, a14, a15, a16, a17, a18, a19) → OK (K a1 a2 a3 a4 a5 a6 a7 a8 a9 a10 a11 a12 a13 a14 a15 a16 a17 a18 a19) P) : OK (bK19 o K) P := by
  obtain ⟨⟨a1, a2, a3, a4, a5, a6, a7, a8, a9, a10, a11, a12, a13, a14, a15, a16, a17, a18, a19⟩, rfl, h2⟩ := h
  exact hk _ _ _ _ _ _ _ _ _ _ _ _ _ _ _ _ _ _ _ h2
theorem OK.b20 {A1 A2 A3 A4 A5 A6 A7 A8 A9 A10 A11 A12 A13 A14 A15 A16 A17 A18 A19 A20 : Type} {α : Type} {o : Option (A1 × A2 × A3 × A4 × A5 × A6 × A7 × A8 × A9 × A10 × A11 × A12 × A13 × A14 × A15 × A16 × A17 × A18 × A19 × A20)} {K : A1 → A2 → A3 → A4 → A5 → A6 → A7 → A8 → A9 → A10 → A11 → A12 → A13 → A14 → A15 → A16 → A17 → A18 → A19 → A20 → Option α} {P : α → Prop} {Q : (A1 × A2 × A3 × A4 × A5 × A6 × A7 × A8 × A9 × A10 × A11 × A12 × A13 × A14 × A15 × A16 × A17 × A18 × A19 × A20) → Prop} (h : OK o Q) (hk : ∀ a1 a2 a3 a4 a5 a6 a7 a8 a9 a10 a11 a12 a13 a14 a15 a16 a17 a18 a19 a20, Q (a1, a2, a3, a4, a5, a6, a7, a8, a9, a10, a11, a12, a13, a14, a15, a16, a17, a18, a19, a20) → OK (K a1 a2 a3 a4 a5 a6 a7 a8 a9 a10 a11 a12 a13 a14 a15 a16 a17 a18 a19 a20) P) : OK (bK20 o K) P := by
  obtain ⟨⟨a1, a2, a3, a4, a5, a6, a7, a8, a9, a10, a11, a12, a13, a14, a15, a16, a17, a18, a19, a20⟩, rfl, h2⟩ := h
  exact hk _ _ _ _ _ _ _ _ _ _ _ _ _ _ _ _ _ _ _ _ h2
theorem OK.b21 {A1 A2 A3 A4 A5 A6 A7 A8 A9 A10 A11 A12 A13 A14 A15 A16 A17 A18 A19 A20 A21 : Type} {α : Type} {o : Option (A1 × A2 × A3 × A4 × A5 × A6 × A7 × A8 × A9 × A10 × A11 × A12 × A13 × A14 × A15 × A16 × A17 × A18 × A19 × A20 × A21)} {K : A1 → A2 → A3 → A4 → A5 → A6 → A7 → A8 → A9 → A10 → A11 → A12 → A13 → A14 → A15 → A16 → A17 → A18 → A19 → A20 → A21 → Option α} {P : α → Prop} {Q : (A1 × A2 × A3 × A4 × A5 × A6 × A7 × A8 × A9 × A10 × A11 × A12 × A13 × A14 × A15 × A16 × A17 × A18 × A19 × A20 × A21) → Prop} (h : OK o Q) (hk : ∀ a1 a2 a3 a4 a5 a6 a7 a8 a9 a10 a11 a12 a13 a14 a15 a16 a17 a18 a19 a20 a21, Q (a1, a2, a3, a4, a5, a6, a7, a8, a9, a10, a11, a12, a13, a14, a15, a16, a17, a18, a19, a20, a21) → OK (K a1 a2 a3 a4 a5 a6 a7 a8 a9 a10 a11 a12 a13 a14 a15 a16 a17 a18 a19 a20 a21) P) : OK (bK21 o K) P := by
  obtain ⟨⟨a1, a2, a3, a4, a5, a6, a7, a8, a9, a10, a11, a12, a13, a14, a15, a16, a17, a18, a19, a20, a21⟩, rfl, h2⟩ := h
  exact hk _ _ _ _ _ _ _ _ _ _ _ _ _ _ _ _ _ _ _ _ _ h2
theorem OK.b22 {A1 A2 A3 A4 A5 A6 A7 A8 A9 A10 A11 A12 A13 A14 A15 A16 A17 A18 A19 A20 A21 A22 : Type} {α : Type} {o : Option (A1 × A2 × A3 × A4 × A5 × A6 × A7 × A8 × A9 × A10 × A11 × A12 × A13 × A14 × A15 × A16 × A17 × A18 × A19 × A20 × A21 × A22)} {K : A1 → A2 → A3 → A4 → A5 → A6 → A7 → A8 → A9 → A10 → A11 → A12 → A13 → A14 → A15 → A16 → A17 → A18 → A19 → A20 → A21 → A22 → Option α} {P : α → Prop} {Q : (A1 × A2 × A3 × A4 × A5 × A6 × A7 × A8 × A9 × A10 × A11 × A12 × A13 × A14 × A15 × A16 × A17 × A18 × A19 × A20 × A21 × A22) → Prop} (h : OK o Q) (hk : ∀ a1 a2 a3 a4 a5 a6 a7 a8 a9 a10 a11 a12 a13 a14 a15 a16 a17 a18 a19 a20 a21 a22, Q (a1, a2, a3, a4, a5, a6, a7, a8, a9, a10, a11, a12, a13, a14, a15, a16, a17, a18, a19, a20, a21, a22) → OK (K a1 a2 a3 a4 a5 a6 a7 a8 a9 a10 a11 a12 a13 a14 a15 a16 a17 a18 a19 a20 a21 a22) P) : OK (bK22 o K) P := by
  obtain ⟨⟨a1, a2, a3, a4, a5, a6, a7, a8, a9, a10, a11, a12, a13, a14, a15, a16, a17, a18, a19, a20, a21, a22⟩, rfl, h2⟩ := h
  exact hk _ _ _ _ _ _ _ _ _ _ _ _ _ _ _ _ _ _ _ _ _ _ h2
theorem OK.b23 {A1 A2 A3 A4 A5 A6 A7 A8 A9 A10 A11 A12 A13 A14 A15 A16 A17 A18 A19 A20 A21 A22 A23 : Type} {α : Type} {o : Option (A1 × A2 × A3 × A4 × A5 × A6 × A7 × A8 × A9 × A10 × A11 × A12 × A13 × A14 × A15 × A16 × A17 × A18 × A19 × A20 × A21 × A22 × A23)} {K : A1 → A2 → A3 → A4 → A5 → A6 → A7 → A8 → A9 → A10 → A11 → A12 → A13 → A14 → A15 → A16 → A17 → A18 → A19 → A20 → A21 → A22 → A23 → Option α} {P : α → Prop} {Q : (A1 × A2 × A3 × A4 × A5 × A6 × A7 × A8 × A9 × A10 × A11 × A12 × A13 × A14 × A15 × A16 × A17 × A18 × A19 × A20 × A21 × A22 × A23) → Prop} (h : OK o Q) (hk : ∀ a1 a2 a3 a4 a5 a6 a7 a8 a9 a10 a11 a12 a13 a14 a15 a16 a17 a18 a19 a20 a21 a22 a23, Q (a1, a2, a3, a4, a5, a6, a7, a8, a9, a10, a11, a12, a13, a14, a15, a16, a17, a18, a19, a20, a21, a22, a23) → OK (K a1 a2 a3 a4 a5 a6 a7 a8 a9 a10 a11 a12 a13 a14 a15 a16 a17 a18 a19 a20 a21 a22 a23) P) : OK (bK23 o K) P := by
  obtain ⟨⟨a1, a2, a3, a4, a5, a6, a7, a8, a9, a10, a11, a12, a13, a14, a15, a16, a17, a18, a19, a20, a21, a22, a23⟩, rfl, h2⟩ := h
  exact hk _ _ _ _ _ _ _ _ _ _ _ _ _ _ _ _ _ _ _ _ _ _ _ h2
theorem OK.b24 {A1 A2 A3 A4 A5 A6 A7 A8 A9 A10 A11 A12 A13 A14 A15 A16 A17 A18 A19 A20 A21 A22 A23 A24 : Type} {α : Type} {o : Option (A1 × A2 × A3 × A4 × A5 × A6 × A7 × A8 × A9 × A10 × A11 × A12 × A13 × A14 × A15 × A16 × A17 × A18 × A19 × A20 × A21 × A22 × A23 × A24)} {K : A1 → A2 → A3 → A4 → A5 → A6 → A7 → A8 → A9 → A10 → A11 → A12 → A13 → A14 → A15 → A16 → A17 → A18 → A19 → A20 → A21 → A22 → A23 → A24 → Option α} {P : α → Prop} {Q : (A1 × A2 × A3 × A4 × A5 × A6 × A7 × A8 × A9 × A10 × A11 × A12 × A13 × A14 × A15 × A16 × A17 × A18 × A19 × A20 × A21 × A22 × A23 × A24) → Prop} (h : OK o Q) (hk : ∀ a1 a2 a3 a4 a5 a6 a7 a8 a9 a10 a11 a12 a13 a14 a15 a16 a17 a18 a19 a20 a21 a22 a23 a24, Q (a1, a2, a3, a4, a5, a6, a7, a8, a9, a10, a11, a12, a13, a14, a15, a16, a17, a18, a19, a20, a21, a22, a23, a24) → OK (K a1 a2 a3 a4 a5 a6 a7 a8 a9 a10 a11 a12 a13 a14 a15 a16 a17 a18 a19 a20 a21 a22 a23 a24) P) : OK (bK24 o K) P := by
  obtain ⟨⟨a1, a2, a3, a4, a5, a6, a7, a8, a9, a10, a11, a12, a13, a14, a15, a16, a17, a18, a19, a20, a21, a22, a23, a24⟩, rfl, h2⟩ := h
  exact hk _ _ _ _ _ _ _ _ _ _ _ _ _ _ _ _ _ _ _ _ _ _ _ _ h2
