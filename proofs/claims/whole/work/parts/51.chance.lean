/-! ===== 51.chance: shares and chances ===== -/
theorem s_power {a n : Nat} (hn : n ≤ 100) : OK (m_X0_power 3000 (nI a) (nI n)) (fun r => r = nI (a ^ n)) := by
  unfold m_X0_power
  refine OK.w2 (fun t x y => x = nI (a ^ t) ∧ y = nI t) n ?_ (by omega) ⟨rfl, rfl⟩
  rintro t x y k ⟨rfl, rfl⟩ ht hk
  refine OK.le n t (by omega) (by omega) (fun h => OK.s (by rw [show t = n by omega])) (fun h => OK.l ?_)
  rw [pk_mul, nI_1]
  exact hk h _ _ ⟨rfl, rfl⟩
theorem s_rPower {a n : Nat} (hn : n ≤ 100) : OK (m_X11_power 3000 (nI a) (nI n)) (fun r => r = nI (a ^ n)) := by
  unfold m_X11_power
  refine OK.w2 (fun t x y => x = nI (a ^ t) ∧ y = nI t) n ?_ (by omega) ⟨rfl, rfl⟩
  rintro t x y k ⟨rfl, rfl⟩ ht hk
  refine OK.le n t (by omega) (by omega) (fun h => OK.s (by rw [show t = n by omega])) (fun h => OK.l ?_)
  rw [pk_mul, nI_1]
  exact hk h _ _ ⟨rfl, rfl⟩
/-! ## Euclid -/
def euR (G t A B : Nat) : Prop := Nat.gcd A B = G ∧ A < 2147483648 ∧ B < 2147483648 ∧ ∃ j, (B < 2 ^ j ∧ t + 2 * j ≤ 41) ∨ (B < A ∧ A < 2 ^ (j + 1) ∧ t + 2 * j + 1 ≤ 41)
theorem euR.step {G t A B : Nat} (h : euR G t A B) (hB : 0 < B) : t < 41 ∧ euR G (t + 1) B (A % B) := by
  obtain ⟨h1, h2, h3, j, h4⟩ := h
  have hm : A % B < B := Nat.mod_lt _ hB
  have hg : Nat.gcd B (A % B) = G := by rw [← h1, Nat.gcd_comm B, ← Nat.gcd_rec, Nat.gcd_comm]
  rcases h4 with ⟨a, b⟩ | ⟨a, b, c⟩
  · cases j with
    | zero => simp at a; omega
    | succ j => exact ⟨by omega, hg, h3, by omega, j, Or.inr ⟨hm, a, by omega⟩⟩
  · refine ⟨by omega, hg, h3, by omega, j, Or.inl ⟨?_, by omega⟩⟩
    have e := Nat.div_add_mod A B
    have q : 1 ≤ A / B := Nat.div_pos (by omega) hB
    have : B * 1 ≤ B * (A / B) := Nat.mul_le_mul_left _ q
    rw [Nat.pow_succ] at b
    omega
theorem euR.fin {G t A : Nat} (h : euR G t A 0) : A = G := by have := h.1; rw [Nat.gcd_zero_right] at this; exact this
theorem n_irm' {a d : Nat} (ha : a < 2147483648) (h0 : 0 < d) (hd : d < 2147483648) : irm (nI a) (nI d) = nI (a % d) := n_irm ha h0 hd
theorem s_commonDivisor {A D : Nat} (hA : A < 2147483648) (hD : D < 2 ^ 20) : OK (m_X0_commonDivisor 3000 (nI A) (nI D)) (fun r => r = nI (Nat.gcd A D)) := by
  unfold m_X0_commonDivisor
  refine OK.w3 (fun t x y z => ∃ a b, x = nI a ∧ y = nI b ∧ z = nI t ∧ euR (Nat.gcd A D) t a b) 41 ?_ (by omega) ⟨A, D, rfl, rfl, rfl, rfl, hA, by omega, 20, Or.inl ⟨hD, by omega⟩⟩
  rintro t x y z k ⟨a, b, rfl, rfl, rfl, h⟩ ht hk
  have hb := h.2.2.1
  refine OK.le 50 t (by omega) (by omega) (fun q => by omega) (fun _ => ?_)
  refine OK.eq b 0 hb (by omega) (fun e => OK.s (by subst e; rw [h.fin])) (fun e => ?_)
  refine OK.nz (nI_ne0 (by omega) hb) (OK.l ?_)
  rw [n_irm h.2.1 (by omega) hb, nI_1]
  exact hk (h.step (by omega)).1 _ _ _ ⟨_, _, rfl, rfl, rfl, (h.step (by omega)).2⟩
def iZ (z : Int) : Int32 := Int32.ofInt z
theorem iZ_n (n : Nat) : iZ n = nI n := Int32.ofInt_eq_ofNat
theorem iZ_le {z : Int} (h1 : -2147483648 < z) (h2 : z < 2147483648) : 0 ≤ iZ z ↔ 0 ≤ z := by
  unfold iZ
  rw [Int32.le_iff_toInt_le, Int32.toInt_ofInt_of_le (by omega) (by omega)]; rfl
theorem iZ_abs {z : Int} (h1 : -2147483648 < z) (h2 : z < 2147483648) : (if 0 ≤ iZ z then iZ z else -iZ z) = nI z.natAbs := by
  by_cases e : 0 ≤ z
  · rw [if_pos ((iZ_le h1 h2).mpr e), ← iZ_n]; congr 1; omega
  · rw [if_neg (fun q => e ((iZ_le h1 h2).mp q)), ← iZ_n]
    unfold iZ
    rw [← Int32.ofInt_neg]; congr 1; omega
theorem s_divisor {Z : Int} {D : Nat} (h1 : -2147483648 < Z) (h2 : Z < 2147483648) (hD : D < 2 ^ 20) : OK (m_X11_divisor 3000 (iZ Z) (nI D)) (fun r => r = nI (Nat.gcd Z.natAbs D)) := by
  unfold m_X11_divisor
  have hA : Z.natAbs < 2147483648 := by omega
  refine OK.j1 (fun y => y = nI Z.natAbs) ?_ (fun k hk => ?_)
  · rintro y rfl
    refine OK.w2 (fun t x y => ∃ a b, x = nI a ∧ y = nI b ∧ euR (Nat.gcd Z.natAbs D) t a b) 41 ?_ (by omega) ⟨Z.natAbs, D, rfl, rfl, rfl, hA, by omega, 20, Or.inl ⟨hD, by omega⟩⟩
    rintro t x y k ⟨a, b, rfl, rfl, h⟩ ht hk
    have hb := h.2.2.1
    refine OK.eq b 0 hb (by omega) (fun e => OK.s (by subst e; rw [h.fin])) (fun e => ?_)
    refine OK.nz (nI_ne0 (by omega) hb) (OK.l ?_)
    rw [n_irm h.2.1 (by omega) hb]
    exact hk (h.step (by omega)).1 _ _ ⟨_, _, rfl, rfl, (h.step (by omega)).2⟩
  · have e := iZ_abs h1 h2
    refine OK.i (fun h => hk _ (by rw [if_pos h] at e; exact e)) (fun h => hk _ (by rw [if_neg h] at e; exact e))
def frac (Z : Int) (D : Nat) (n3 : Int32) : Int32 := if n3 = 0 then nI D / nI (Nat.gcd Z.natAbs D) else iZ Z / nI (Nat.gcd Z.natAbs D)
theorem gcd_b {A D : Nat} (h0 : 0 < D) (hD : D < 2 ^ 20) : 1 ≤ Nat.gcd A D ∧ Nat.gcd A D < 2147483648 := ⟨Nat.gcd_pos_of_pos_right _ h0, Nat.lt_of_le_of_lt (Nat.gcd_le_right _ h0) (by omega)⟩
theorem s_fraction {Z : Int} {D : Nat} (h1 : -2147483648 < Z) (h2 : Z < 2147483648) (h0 : 0 < D) (hD : D < 2 ^ 20) (n3 : Int32) : OK (m_X11_fraction 3000 (iZ Z) (nI D) n3) (fun r => r = frac Z D n3) := by
  unfold m_X11_fraction
  obtain ⟨g1, g2⟩ := gcd_b (A := Z.natAbs) h0 hD
  refine OK.b1 (s_divisor h1 h2 hD) (fun r hr => ?_)
  subst hr
  refine OK.i (fun h => OK.nz (nI_ne0 g1 g2) (OK.s (by unfold frac; rw [if_pos h]))) (fun h => OK.nz (nI_ne0 g1 g2) (OK.s (by unfold frac; rw [if_neg h])))
theorem s_leastTerms {Z : Int} {D : Nat} (h1 : -2147483648 < Z) (h2 : Z < 2147483648) (h0 : 0 < D) (hD : D < 2 ^ 20) (n3 : Int32) : OK (m_X0_leastTerms 3000 (iZ Z) (nI D) n3) (fun r => r = frac Z D n3) := by
  unfold m_X0_leastTerms
  obtain ⟨g1, g2⟩ := gcd_b (A := Z.natAbs) h0 hD
  have hA : Z.natAbs < 2147483648 := by omega
  have e : iabs (iZ Z) = nI Z.natAbs := by
    rw [← iZ_abs h1 h2]
    show (if 0 ≤ iZ Z then iZ Z else 0 - iZ Z) = _
    rw [Int32.zero_sub]
  rw [e]
  refine OK.b1 (s_commonDivisor hA hD) (fun r hr => ?_)
  subst hr
  refine OK.t ((nI_leI (a := 1) (by omega) g2).mpr g1) ?_
  refine OK.ju1 ?_
  refine OK.i (fun h => OK.nz (nI_ne0 g1 g2) (OK.s (by unfold frac; rw [if_pos h]))) (fun h => OK.nz (nI_ne0 g1 g2) (OK.s (by unfold frac; rw [if_neg h])))
/-! ## the values of the sets of words -/
def valR (W : Nat) (V : Nat → Nat) (f : Nat → Int32) : Prop := ∀ k, k < 2 ^ W → f k = nI (V k)
def VV (P : Pg) (mask : Nat) : Nat := RT P (plS P mask (pT P))
theorem VV_b {P : Pg} (hP : pgOK P) (mask : Nat) : VV P mask ≤ 30 := by
  have := RT_b hP (plS P mask (pT P)) (pW P) (Nat.le_refl _)
  have := hP.1.1
  unfold VV RT
  omega
theorem p2_b {W : Nat} (h : W ≤ 6) : 2 ^ W ≤ 64 := Nat.le_trans (Nat.pow_le_pow_right (by omega) h) (by decide)
def chR (P : Pg) (valued : Int32) (rights : Nat → Int32) : Prop := valued = 0 ∨ (valued = 1 ∧ valR (pW P) (VV P) rights)
theorem plS_4 {P : Pg} (hP : pgOK P) (mask : Nat) : ∀ k, plS P mask (pT P) k ≤ 4 := fun k => Nat.le_trans (plS_b P mask (pT P) k) hP.2.2.2
theorem s_value {P : Pg} (hP : pgOK P) {m : Nat} {cd st : Nat → Nat} {fits starts : Nat → Int32} (hx : ixR (pW P) (pL P) m cd st fits starts) {words learnt : Int32} {letters breaks sizes rules hs : Nat → Int32} (hs_ : stkR P words learnt letters breaks sizes rules hs) {valued : Int32} {rights : Nat → Int32} (hc : chR P valued rights) (levels digits good bad : Nat → Int32) :
    OK (m_X0_value 3000 valued words learnt levels (nI m) digits good bad sizes breaks rules hs fits starts rights) (fun u => u.1 = 1 ∧ valR (pW P) (VV P) u.2.2.2.2.2) := by
  unfold m_X0_value
  have hW := hP.1.1
  have h64 := p2_b hW
  rcases hc with rfl | ⟨rfl, hv⟩
  · refine OK.t rfl ?_
    have hs2 := hs_
    obtain ⟨rfl, e2, s3, s4⟩ := hs_
    rw [shl_at (by omega)]
    refine OK.w6 (fun t x _ _ _ _ f => x = nI t ∧ ∀ k, k < t → f k = nI (VV P k)) (2 ^ pW P) ?_ (by omega) ⟨rfl, fun k hk => absurd hk (Nat.not_lt_zero _)⟩
    rintro t x f1 f2 f3 f4 f k ⟨rfl, h1⟩ ht hk
    refine OK.le (2 ^ pW P) t (by omega) (by omega) (fun h => OK.s ⟨rfl, by rw [show t = 2 ^ pW P by omega] at h1; exact h1⟩) (fun h => ?_)
    refine OK.b4 (s_learnFrom hP hx hs2 (mask := t) (by omega) f1 f2 f3 f4) (fun g1 g2 g3 g4 hq => ?_)
    refine OK.b1 (s_rightPlaces hP (plS_4 hP t) rfl hq.2 (fun w hw => (s3 w hw).2.2) (fun w hw => (s3 w hw).2.1)) (fun r hr => ?_)
    subst hr
    refine OK.st t rfl (by omega) ?_
    refine hk h _ _ _ _ _ _ ⟨nI_1 t, fun j hj => ?_⟩
    by_cases e : j = t
    · subst e; rw [upd_s]; rfl
    · rw [upd_n _ _ e]; exact h1 j (by omega)
  · exact OK.f (by decide) (OK.s ⟨rfl, hv⟩)
theorem s_layValues {P : Pg} (hP : pgOK P) {p1 : Nat → Int32} (hp : pageR P p1) (z : Int32) (plan f d g h v : Nat → Int32) :
    OK (m_X11_layValues 3000 z p1 plan f d g h v) (fun u => valR (pW P) (VV P) u.2.2.2.2.2.2) := by
  unfold m_X11_layValues
  have hW := hP.1.1
  have h64 := p2_b hW
  refine OK.w8 (fun t x _ _ _ _ _ _ f => x = nI t ∧ ∀ k, k < t → f k = nI (VV P k)) (2 ^ pW P) ?_ (by omega) ⟨rfl, fun k hk => absurd hk (Nat.not_lt_zero _)⟩
  rintro t x z1 f1 f2 f3 f4 f5 f6 k ⟨rfl, h1⟩ ht hk
  refine OK.rd 0 rfl (by omega) ?_
  rw [hp.1, shl_at (by omega)]
  refine OK.le (2 ^ pW P) t (by omega) (by omega) (fun h => OK.s (by rw [show t = 2 ^ pW P by omega] at h1; exact h1)) (fun h => ?_)
  refine OK.b6 (s_learn hP hp (mask := t) (by omega) z1 f1 f2 f3 f4 f5) (fun g1 g2 g3 g4 g5 g6 hq => ?_)
  refine OK.b1 (s_rightOfAll hP hp (plS_4 hP t) hq.2) (fun r hr => ?_)
  subst hr
  refine OK.st t rfl (by omega) ?_
  refine hk h _ _ _ _ _ _ _ _ ⟨nI_1 t, fun j hj => ?_⟩
  by_cases e : j = t
  · subst e; rw [upd_s]; rfl
  · rw [upd_n _ _ e]; exact h1 j (by omega)
/-! ## the share -/
def fac (r : Nat) : Nat := [1, 1, 2, 6, 24, 120, 720].getD r 0
def ord (W r : Nat) : Nat := fac r * fac (W - 1 - r)
theorem kFact_n : ∀ r, r < 7 → kFact r = nI (fac r) := by decide +kernel
theorem bf_orders : ∀ W, W < 7 → ∀ r, r < W → m_X11_orders 3000 (nI W) (nI r) = some (nI (ord W r)) ∧ ord W r ≤ 120 := by decide +kernel
theorem bf_mask' : ∀ W, W < 7 → ∀ w, w < W → ∀ k, k < 2 ^ W → k / 2 ^ w % 2 = 1 ∨ (nI k ||| nI (2 ^ w) = nI (k + 2 ^ w) ∧ k + 2 ^ w < 2 ^ W ∧ pop k < W) := by decide +kernel
theorem bf_mask (W : Nat) (hW : W < 7) (w : Nat) (hw : w < W) (k : Nat) (hk : k < 2 ^ W) (h : k / 2 ^ w % 2 = 0) : nI k ||| nI (2 ^ w) = nI (k + 2 ^ w) ∧ k + 2 ^ w < 2 ^ W ∧ pop k < W := by
  rcases bf_mask' W hW w hw k hk with e | e
  · omega
  · exact e
theorem bf_pop : ∀ W, W < 7 → ∀ k, k < 2 ^ W → pop k ≤ W := by decide +kernel
def zS (W w : Nat) (V : Nat → Nat) : Nat → Int
  | 0 => 0
  | k + 1 => zS W w V k + if k / 2 ^ w % 2 = 0 then (ord W (pop k) : Int) * ((V (k + 2 ^ w) : Int) - (V k : Int)) else 0
def lS (W w : Nat) : Nat → Nat
  | 0 => 0
  | k + 1 => lS W w k + if k / 2 ^ w % 2 = 0 then ord W (pop k) else 0
theorem lS_f : ∀ W, W < 7 → ∀ w, w < W → lS W w (2 ^ W) = fac W := by decide +kernel
theorem fac_b : ∀ W, W < 7 → 0 < fac W ∧ fac W < 2 ^ 20 := by decide +kernel
theorem o_mul {o a b : Nat} (ho : o ≤ 120) (ha : a ≤ 30) (hb : b ≤ 30) : -3600 ≤ (o : Int) * ((a : Int) - (b : Int)) ∧ (o : Int) * ((a : Int) - (b : Int)) ≤ 3600 := by
  rw [Int.mul_sub]
  have h1 : o * a ≤ 120 * 30 := Nat.mul_le_mul ho ha
  have h2 : o * b ≤ 120 * 30 := Nat.mul_le_mul ho hb
  have h3 : (o : Int) * (a : Int) = ((o * a : Nat) : Int) := by simp
  have h4 : (o : Int) * (b : Int) = ((o * b : Nat) : Int) := by simp
  rw [h3, h4]
  omega
theorem zS_b {W w : Nat} (hW : W < 7) (hw : w < W) {V : Nat → Nat} (hV : ∀ k, V k ≤ 30) : ∀ k : Nat, k ≤ 2 ^ W → -(3600 * (k : Int)) ≤ zS W w V k ∧ zS W w V k ≤ 3600 * (k : Int)
  | 0, _ => by simp [zS]
  | k + 1, h => by
    have ih := zS_b hW hw hV k (by omega)
    rw [zS]
    by_cases e : k / 2 ^ w % 2 = 0
    · rw [if_pos e]
      have := (bf_mask W hW w hw k (by omega) e).2.2
      have := o_mul (bf_orders W hW (pop k) this).2 (hV (k + 2 ^ w)) (hV k)
      omega
    · rw [if_neg e]; omega
theorem iZ_st (z : Int) (o a b : Nat) : iZ z + nI o * (nI a - nI b) = iZ (z + (o : Int) * ((a : Int) - (b : Int))) := by
  rw [← iZ_n, ← iZ_n, ← iZ_n]
  unfold iZ
  rw [Int32.ofInt_add, Int32.ofInt_mul, Int32.ofInt_sub]
theorem s_shareOf {P : Pg} (hP : pgOK P) {m : Nat} {cd st : Nat → Nat} {fits starts : Nat → Int32} (hx : ixR (pW P) (pL P) m cd st fits starts) {words learnt : Int32} {letters breaks sizes rules hs : Nat → Int32} (hs_ : stkR P words learnt letters breaks sizes rules hs) {valued : Int32} {rights : Nat → Int32} (hc : chR P valued rights) {w : Nat} (hw : w < pW P) (n3 : Int32) (levels digits good bad : Nat → Int32) :
    OK (m_X0_shareOf 3000 (nI w) n3 valued words learnt rights sizes breaks rules hs levels (nI m) digits good bad fits starts) (fun u => u.1 = frac (zS (pW P) w (VV P) (2 ^ pW P)) (fac (pW P)) n3 ∧ chR P u.2.1 u.2.2.1) := by
  unfold m_X0_shareOf
  have hW := hP.1.1
  have h64 := p2_b hW
  refine OK.b6 (s_value hP hx hs_ hc levels digits good bad) (fun z1 f2 f3 f4 f5 f6 hq => ?_)
  obtain ⟨q1, q2⟩ := hq
  have q1 : z1 = 1 := q1
  subst q1
  have q2 : ∀ k, k < 2 ^ pW P → f6 k = nI (VV P k) := q2
  obtain ⟨rfl, e2, s3, s4⟩ := hs_
  rw [shl_at (by omega)]
  refine OK.w2 (fun t x y => x = iZ (zS (pW P) w (VV P) t) ∧ y = nI t) (2 ^ pW P) ?_ (by omega) ⟨rfl, rfl⟩
  rintro t x y k ⟨rfl, rfl⟩ ht hk
  refine OK.le (2 ^ pW P) t (by omega) (by omega) (fun h => ?_) (fun h => ?_)
  · have et : t = 2 ^ pW P := by omega
    subst et
    refine OK.rd (pW P) rfl (by omega) ?_
    rw [kFact_n _ (by omega)]
    have hb := zS_b (by omega) hw (VV_b hP) (2 ^ pW P) (Nat.le_refl _)
    have hf := fac_b (pW P) (by omega)
    refine OK.b1 (s_leastTerms (by omega) (by omega) hf.1 hf.2 n3) (fun r hr => ?_)
    subst hr
    exact OK.s ⟨rfl, Or.inr ⟨rfl, q2⟩⟩
  · rw [bit_at (by omega) (by omega)]
    refine OK.eq (t / 2 ^ w % 2) 0 (by omega) (by omega) (fun e => ?_) (fun e => ?_)
    · obtain ⟨b1, b2, b3⟩ := bf_mask (pW P) (by omega) w hw t h e
      refine OK.b1 (Q := fun r => r = nI (pop t)) ⟨_, (bf_bits t (by omega)).trans (bf_many t (by omega)), rfl⟩ (fun r hr => ?_)
      subst hr
      refine OK.rd (pop t) rfl (by omega) ?_
      rw [kFact_n _ (by omega), n_sub1 (by omega)]
      refine OK.rd (pW P - 1 - pop t) (pk_sub (by omega)) (by omega) ?_
      rw [kFact_n _ (by omega)]
      refine OK.l ?_
      rw [shl_at (by omega), b1, pk_mul]
      refine OK.rd (t + 2 ^ w) rfl (by omega) ?_
      rw [q2 _ b2]
      refine OK.rd t rfl (by omega) ?_
      rw [q2 t h]
      refine OK.l ?_
      rw [iZ_st, nI_1]
      refine hk h _ _ ⟨?_, rfl⟩
      rw [zS, if_pos e]; rfl
    · refine hk h _ _ ⟨?_, nI_1 t⟩
      rw [zS, if_neg e, Int.add_zero]
theorem s_rShare {P : Pg} (hP : pgOK P) {f : Nat → Int32} (hf : valR (pW P) (VV P) f) {w : Nat} (hw : w < pW P) {β : Type} {K : Int32 → Option β} {n3 : Int32} {Q : β → Prop} (hK : OK (K (frac (zS (pW P) w (VV P) (2 ^ pW P)) (fac (pW P)) n3)) Q) :
    OK (wl3 (fun (x11 : Int32) (x12 : Int32) (x13 : Int32) c10 =>
      if (1 <<< (nI (pW P) &&& 31)) ≤ x13 then
        bK1 (m_X11_fraction 3000 x11 x12 n3) K
      else
        bK1 (m_X11_has 3000 x13 (nI w)) (fun r15 =>
        if r15 = 0 then
          bK1 (m_X11_many 3000 x13) (fun r16 =>
          bK1 (m_X11_orders 3000 (nI (pW P)) r16) (fun r17 =>
          letK (x12 + r17) (fun x18 =>
          rdK 64 f (x13 ||| (1 <<< (nI w &&& 31))) (fun v19 =>
          rdK 64 f x13 (fun v20 =>
          letK (x11 + (r17 * (v19 - v20))) (fun x21 =>
          c10 x21 x18 (x13 + 1)))))))
        else
          c10 x11 x12 (x13 + 1))) 3000 0 0 0) Q := by
  have hW := hP.1.1
  have h64 := p2_b hW
  rw [shl_at (by omega)]
  refine OK.w3 (fun t x z y => x = iZ (zS (pW P) w (VV P) t) ∧ z = nI (lS (pW P) w t) ∧ y = nI t) (2 ^ pW P) ?_ (by omega) ⟨rfl, rfl, rfl⟩
  rintro t x z y k ⟨rfl, rfl, rfl⟩ ht hk
  refine OK.le (2 ^ pW P) t (by omega) (by omega) (fun h => ?_) (fun h => ?_)
  · have et : t = 2 ^ pW P := by omega
    subst et
    have hb := zS_b (by omega) hw (VV_b hP) (2 ^ pW P) (Nat.le_refl _)
    have hf := fac_b (pW P) (by omega)
    rw [lS_f _ (by omega) w hw]
    refine OK.b1 (s_fraction (by omega) (by omega) hf.1 hf.2 n3) (fun r hr => ?_)
    subst hr
    exact hK
  · refine OK.b1 (s_has (by omega) (by omega)) (fun r hr => ?_)
    subst hr
    refine OK.eq (t / 2 ^ w % 2) 0 (by omega) (by omega) (fun e => ?_) (fun e => ?_)
    · obtain ⟨b1, b2, b3⟩ := bf_mask (pW P) (by omega) w hw t h e
      refine OK.b1 (Q := fun r => r = nI (pop t)) ⟨_, bf_many t (by omega), rfl⟩ (fun r hr => ?_)
      subst hr
      refine OK.b1 (Q := fun r => r = nI (ord (pW P) (pop t))) ⟨_, (bf_orders (pW P) (by omega) (pop t) b3).1, rfl⟩ (fun r hr => ?_)
      subst hr
      refine OK.l ?_
      rw [shl_at (by omega), b1]
      refine OK.rd (t + 2 ^ w) rfl (by omega) ?_
      rw [hf _ b2]
      refine OK.rd t rfl (by omega) ?_
      rw [hf t h]
      refine OK.l ?_
      rw [iZ_st, nI_1, nI_add]
      refine hk h _ _ _ ⟨?_, ?_, rfl⟩
      · rw [zS, if_pos e]
      · rw [lS, if_pos e]
    · refine hk h _ _ _ ⟨?_, ?_, nI_1 t⟩
      · rw [zS, if_neg e, Int.add_zero]
      · rw [lS, if_neg e, Nat.add_zero]
/-! ## the chance -/
def cS (W v x : Nat) (V : Nat → Nat) : Nat → Nat
  | 0 => 0
  | k + 1 => cS W v x V k + if V k < v then 0 else (10 - x) ^ pop k * x ^ (W - pop k)
theorem p10_b {a n : Nat} (ha : a ≤ 10) (hn : n ≤ 6) : a ^ n ≤ 10 ^ n := Nat.pow_le_pow_left ha n
theorem cS_b {W v x : Nat} (hW : W < 7) (hx : x ≤ 10) {V : Nat → Nat} : ∀ k, k ≤ 2 ^ W → cS W v x V k ≤ 1000000 * k
  | 0, _ => Nat.le_refl _
  | k + 1, h => by
    have ih := cS_b (v := v) hW hx (V := V) k (by omega)
    rw [cS]
    have h1 := bf_pop W hW k (by omega)
    have h2 : (10 - x) ^ pop k * x ^ (W - pop k) ≤ 10 ^ pop k * 10 ^ (W - pop k) := Nat.mul_le_mul (p10_b (by omega) (by omega)) (p10_b hx (by omega))
    rw [← Nat.pow_add, show pop k + (W - pop k) = W by omega] at h2
    have h3 : 10 ^ W ≤ 10 ^ 6 := Nat.pow_le_pow_right (by omega) (by omega)
    split <;> omega
theorem p10_lt {W : Nat} (hW : W < 7) : 0 < 10 ^ W ∧ 10 ^ W < 2 ^ 20 := ⟨Nat.pow_pos (by omega), Nat.lt_of_le_of_lt (Nat.pow_le_pow_right (n := 10) (by omega) (show W ≤ 6 by omega)) (by decide)⟩
theorem s_chanceOf {P : Pg} (hP : pgOK P) {m : Nat} {cd st : Nat → Nat} {fits starts : Nat → Int32} (hx : ixR (pW P) (pL P) m cd st fits starts) {words learnt : Int32} {letters breaks sizes rules hs : Nat → Int32} (hs_ : stkR P words learnt letters breaks sizes rules hs) {valued : Int32} {rights : Nat → Int32} (hc : chR P valued rights) {v x : Nat} (hv : v ≤ 30) (hxx : x ≤ 10) (n3 : Int32) (levels digits good bad : Nat → Int32) :
    OK (m_X0_chanceOf 3000 (nI v) (nI x) n3 valued words learnt rights sizes breaks rules hs levels (nI m) digits good bad fits starts) (fun u => u.1 = frac (cS (pW P) v x (VV P) (2 ^ pW P) : Nat) (10 ^ pW P) n3 ∧ chR P u.2.1 u.2.2.1) := by
  unfold m_X0_chanceOf
  have hW := hP.1.1
  have h64 := p2_b hW
  refine OK.b6 (s_value hP hx hs_ hc levels digits good bad) (fun z1 f2 f3 f4 f5 f6 hq => ?_)
  obtain ⟨q1, q2⟩ := hq
  have q1 : z1 = 1 := q1
  subst q1
  have q2 : ∀ k, k < 2 ^ pW P → f6 k = nI (VV P k) := q2
  obtain ⟨rfl, e2, s3, s4⟩ := hs_
  rw [shl_at (by omega)]
  refine OK.w2 (fun t a y => a = nI (cS (pW P) v x (VV P) t) ∧ y = nI t) (2 ^ pW P) ?_ (by omega) ⟨rfl, rfl⟩
  rintro t a y k ⟨rfl, rfl⟩ ht hk
  refine OK.le (2 ^ pW P) t (by omega) (by omega) (fun h => ?_) (fun h => ?_)
  · have et : t = 2 ^ pW P := by omega
    subst et
    refine OK.b1 (s_power (a := 10) (by omega)) (fun r hr => ?_)
    subst hr
    have hb := cS_b (v := v) (x := x) (V := VV P) (show pW P < 7 by omega) hxx (2 ^ pW P) (Nat.le_refl _)
    have hf := p10_lt (show pW P < 7 by omega)
    rw [← iZ_n (cS (pW P) v x (VV P) (2 ^ pW P))]
    refine OK.b1 (s_leastTerms (by omega) (by omega) hf.1 hf.2 n3) (fun r hr => ?_)
    subst hr
    exact OK.s ⟨rfl, Or.inr ⟨rfl, q2⟩⟩
  · refine OK.rd t rfl (by omega) ?_
    have hvb := VV_b hP t
    rw [q2 t h]
    refine OK.lt (VV P t) v (by omega) (by omega) (fun e => ?_) (fun e => ?_)
    · refine hk h _ _ ⟨?_, nI_1 t⟩
      rw [cS, if_pos e, Nat.add_zero]
    · have hpop := bf_pop (pW P) (by omega) t h
      refine OK.b1 (Q := fun r => r = nI (pop t)) ⟨_, (bf_bits t (by omega)).trans (bf_many t (by omega)), rfl⟩ (fun r hr => ?_)
      subst hr
      rw [show (10 : Int32) - nI x = nI (10 - x) by rw [show (10 : Int32) = nI 10 from rfl, pk_sub hxx], pk_sub hpop]
      refine OK.b1 (s_power (by omega)) (fun r hr => ?_)
      subst hr
      refine OK.b1 (s_power (by omega)) (fun r hr => ?_)
      subst hr
      refine OK.l ?_
      rw [pk_mul, nI_add, nI_1]
      refine hk h _ _ ⟨?_, rfl⟩
      rw [cS, if_neg (by omega)]
theorem s_rLost {P : Pg} (hP : pgOK P) {f : Nat → Int32} (hf : valR (pW P) (VV P) f) {v x : Nat} (hv : v ≤ 30) (hxx : x ≤ 10) {β : Type} {K : Int32 → Option β} {n3 : Int32} {Q : β → Prop} (hK : OK (K (frac (cS (pW P) v x (VV P) (2 ^ pW P) : Nat) (10 ^ pW P) n3)) Q) :
    OK (wl2 (fun (x12 : Int32) (x13 : Int32) c11 =>
        if (1 <<< (nI (pW P) &&& 31)) ≤ x13 then
          bK1 (m_X11_power 3000 10 (nI (pW P))) (fun r14 =>
          bK1 (m_X11_fraction 3000 x12 r14 n3) K)
        else
          bK1 (m_X11_many 3000 x13) (fun r16 =>
          rdK 64 f x13 (fun v17 =>
          jn1 (fun (y18 : Int32) =>
            letK (x12 + y18) (fun x20 =>
            c11 x20 (x13 + 1)))
            (fun k19 =>
            if v17 < nI v then
              k19 0
            else
              bK1 (m_X11_power 3000 (10 - nI x) r16) (fun r21 =>
              bK1 (m_X11_power 3000 (nI x) (nI (pW P) - r16)) (fun r22 =>
              k19 (r21 * r22))))))) 3000 0 0) Q := by
  have hW := hP.1.1
  have h64 := p2_b hW
  rw [shl_at (by omega)]
  refine OK.w2 (fun t a y => a = nI (cS (pW P) v x (VV P) t) ∧ y = nI t) (2 ^ pW P) ?_ (by omega) ⟨rfl, rfl⟩
  rintro t a y k ⟨rfl, rfl⟩ ht hk
  refine OK.le (2 ^ pW P) t (by omega) (by omega) (fun h => ?_) (fun h => ?_)
  · have et : t = 2 ^ pW P := by omega
    subst et
    refine OK.b1 (s_rPower (a := 10) (by omega)) (fun r hr => ?_)
    subst hr
    have hb := cS_b (v := v) (x := x) (V := VV P) (show pW P < 7 by omega) hxx (2 ^ pW P) (Nat.le_refl _)
    have hf := p10_lt (show pW P < 7 by omega)
    rw [← iZ_n (cS (pW P) v x (VV P) (2 ^ pW P))]
    refine OK.b1 (s_fraction (by omega) (by omega) hf.1 hf.2 n3) (fun r hr => ?_)
    subst hr
    exact hK
  · have hpop := bf_pop (pW P) (by omega) t h
    refine OK.b1 (Q := fun r => r = nI (pop t)) ⟨_, bf_many t (by omega), rfl⟩ (fun r hr => ?_)
    subst hr
    refine OK.rd t rfl (by omega) ?_
    have hvb := VV_b hP t
    rw [hf t h]
    refine OK.j1 (fun y => y = nI (if VV P t < v then 0 else (10 - x) ^ pop t * x ^ (pW P - pop t))) ?_ (fun k1 hk1 => ?_)
    · rintro y rfl
      refine OK.l ?_
      rw [nI_add, nI_1]
      exact hk h _ _ ⟨rfl, rfl⟩
    · refine OK.lt (VV P t) v (by omega) (by omega) (fun e => hk1 _ (by rw [if_pos e]; rfl)) (fun e => ?_)
      rw [show (10 : Int32) - nI x = nI (10 - x) by rw [show (10 : Int32) = nI 10 from rfl, pk_sub hxx], pk_sub hpop]
      refine OK.b1 (s_rPower (by omega)) (fun r hr => ?_)
      subst hr
      refine OK.b1 (s_rPower (by omega)) (fun r hr => ?_)
      subst hr
      rw [pk_mul]
      exact hk1 _ (by rw [if_neg (by omega)])
