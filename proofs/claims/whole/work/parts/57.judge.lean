/-! ===== 57.judge: told doings, judged ===== -/
theorem l32 (n : Nat) : (lN n).toInt32 = nI n := by
  show (Int64.ofNat n).toInt32 = Int32.ofNat n
  simp
def fxP (P : Pg) (a b : Nat) : Pg := (pW P, pL P, (fun w => if w = a then pB P w ^^^ 2 ^ b else pB P w), pR P, pH P, pT P)
def rlP (P : Pg) (k r h : Nat) : Pg := (pW P, pL P, pB P, upN (pR P) k r, upN (pH P) k h, pT P)
def sdP (P : Pg) : Pg := (pW P, pL P, pB P, pR P, pH P, pT P + 1)
theorem fxP_ok {P : Pg} (hP : pgOK P) {a b : Nat} (ha : a < pW P) (hb : b + 2 ≤ dl (pL P a)) : pgOK (fxP P a b) := by
  obtain ⟨h1, h2, h3, h4⟩ := hP
  refine ⟨h1, fun w hw => ?_, h3, h4⟩
  have hw : w < pW P := hw
  show (if w = a then pB P w ^^^ 2 ^ b else pB P w) < 2 ^ (dl (pL P w) - 1)
  by_cases e : w = a
  · subst e
    rw [if_pos rfl]
    obtain ⟨-, d2, d6⟩ := h1.w hw
    exact x_lt _ (by omega) b (by omega) _ (h2 w hw)
  · rw [if_neg e]; exact h2 w hw
theorem rlP_ok {P : Pg} (hP : pgOK P) {k r h : Nat} (hr : r ≤ 2) (h1 : 1 ≤ h) (h9 : h ≤ 9) : pgOK (rlP P k r h) := by
  obtain ⟨a1, a2, a3, a4⟩ := hP
  refine ⟨a1, a2, fun j b1 b4 => ?_, a4⟩
  show upN (pR P) k r j ≤ 2 ∧ 1 ≤ upN (pH P) k h j ∧ upN (pH P) k h j ≤ 9
  by_cases e : j = k
  · subst e; rw [upN_s, upN_s]; exact ⟨hr, h1, h9⟩
  · rw [upN_n _ _ e, upN_n _ _ e]; exact a3 j b1 b4
theorem sdP_ok {P : Pg} (hP : pgOK P) (h : pT P < 4) : pgOK (sdP P) := ⟨hP.1, hP.2.1, hP.2.2.1, by show pT P + 1 ≤ 4; omega⟩
/-- one told doing: what is left of the page by it, if it can be -/
def doT (P : Pg) (n : Nat) : Option Pg :=
  if n / 10000 = 1 then (if n % 100 = 0 ∧ n / 1000 % 10 < pW P ∧ n / 100 % 10 + 2 ≤ dl (pL P (n / 1000 % 10)) then some (fxP P (n / 1000 % 10) (n / 100 % 10)) else none)
  else if n / 10000 = 2 then (if 1 ≤ n / 1000 % 10 ∧ n / 1000 % 10 ≤ 4 ∧ n / 100 % 10 ≤ 2 ∧ 1 ≤ n % 100 ∧ n % 100 ≤ 9 then some (rlP P (n / 1000 % 10) (n / 100 % 10) (n % 100)) else none)
  else if n / 10000 = 3 then (if n % 10000 = 0 ∧ pT P < 4 then some (sdP P) else none)
  else if n / 10000 = 4 then (if n / 10 % 10 = 0 ∧ n / 1000 % 10 < pW P ∧ n / 100 % 10 + 2 ≤ dl (pL P (n / 1000 % 10)) ∧ digS (plS P 63 (pT P)) (pL P (n / 1000 % 10)) (n / 100 % 10) = n % 100 then some P else none)
  else if n / 10000 = 5 then (if n % 1000 = 0 ∧ n / 1000 % 10 < pW P ∧ rtW P (plS P 63 (pT P)) (n / 1000 % 10) = dl (pL P (n / 1000 % 10)) - 1 then some P else none)
  else if n / 10000 = 6 then (if n % 10000 = n % 100 ∧ n % 100 ≤ RT P (plS P 63 (pT P)) then some P else none)
  else if n / 10000 = 7 then (if isS (n % 1000) = true ∧ n / 1000 % 10 ≤ dl (n % 1000) ∧ 0 < plS P 63 (pT P) (4 * nd (n % 1000) + n / 1000 % 10) then some P else none)
  else none
theorem doT_ok {P P' : Pg} (hP : pgOK P) {n : Nat} (h : doT P n = some P') : pgOK P' ∧ pW P' = pW P ∧ pL P' = pL P := by
  unfold doT at h
  split at h
  · split at h
    · next c => cases h; exact ⟨fxP_ok hP c.2.1 c.2.2, rfl, rfl⟩
    · cases h
  split at h
  · split at h
    · next c => cases h; exact ⟨rlP_ok hP c.2.2.1 c.2.2.2.1 c.2.2.2.2, rfl, rfl⟩
    · cases h
  split at h
  · split at h
    · next c => cases h; exact ⟨sdP_ok hP c.2, rfl, rfl⟩
    · cases h
  split at h
  · split at h
    · cases h; exact ⟨hP, rfl, rfl⟩
    · cases h
  split at h
  · split at h
    · cases h; exact ⟨hP, rfl, rfl⟩
    · cases h
  split at h
  · split at h
    · cases h; exact ⟨hP, rfl, rfl⟩
    · cases h
  split at h
  · split at h
    · cases h; exact ⟨hP, rfl, rfl⟩
    · cases h
  · cases h
/-- what the class holds while it judges -/
def jgR (P : Pg) (m : Nat) (cd : Nat → Nat) (words learnt : Int32) (letters breaks sizes rules hs levels digits : Nat → Int32) : Prop := stkR P words learnt letters breaks sizes rules hs ∧ jabR m levels (fun j => plS P 63 (pT P) (cd j)) ∧ digR (pW P) (pL P) (plS P 63 (pT P)) 5 digits
theorem inP_n {W : Nat} {L : Nat → Nat} (hW : W ≤ 6) (hL : ∀ w, w < W → dl (L w) ≤ 6) {a b : Nat} (ha : a < 1000) (hb : b < 1000) : inP W L (nI a) (nI b) ↔ a < W ∧ b + 2 ≤ dl (L a) := by
  constructor
  · rintro ⟨w, p, h1, h2, h3, h4⟩
    have := hL w h1
    rw [nI_eq (by omega) (by omega)] at h2 h4
    subst h2 h4
    exact ⟨h1, h3⟩
  · rintro ⟨h1, h2⟩
    exact ⟨a, b, h1, rfl, h2, rfl⟩
theorem inW_n {W : Nat} (hW : W ≤ 6) {a : Nat} (ha : a < 1000) : inW W (nI a) ↔ a < W := by
  constructor
  · rintro ⟨w, h1, h2⟩
    rw [nI_eq (by omega) (by omega)] at h2
    omega
  · intro h; exact ⟨a, h, rfl⟩
theorem inB_n {a b k : Nat} (hb : b < 1000) (hk : k < 2147483648) : inB a b (nI k) ↔ a ≤ k ∧ k ≤ b := by
  constructor
  · rintro ⟨j, h1, h2, h3⟩
    rw [nI_eq hk (by omega)] at h3
    omega
  · intro h; exact ⟨k, h.1, h.2, rfl⟩
theorem n_d {n d : Nat} (hn : n < 100000) (h0 : 0 < d) (hd : d < 100000) : nI n / nI d = nI (n / d) := pk_div (by omega) h0 (by omega)
theorem n_dr {n d e : Nat} (hn : n < 100000) (h0 : 0 < d) (hd : d < 100000) (h1 : 0 < e) (he : e < 100000) : irm (nI n / nI d) (nI e) = nI (n / d % e) := by
  rw [n_d hn h0 hd, n_irm (Nat.lt_of_le_of_lt (Nat.div_le_self _ _) (by omega)) h1 (by omega)]
def goR (P : Pg) (n m : Nat) (cd : Nat → Nat) (words : Int32) (letters sizes : Nat → Int32) (u : Int32 × (Nat → Int32) × Int32 × (Nat → Int32) × (Nat → Int32) × (Nat → Int32) × (Nat → Int32) × (Nat → Int32) × (Nat → Int32)) : Prop :=
  (doT P n = none ∧ u.1 = 0) ∨ ∃ P', doT P n = some P' ∧ u.1 = 1 ∧ jgR P' m cd words u.2.2.1 letters u.2.2.2.2.1 sizes u.2.2.2.2.2.1 u.2.2.2.2.2.2.1 u.2.1 u.2.2.2.1
theorem s_goesOn {P : Pg} (hP : pgOK P) {m : Nat} {cd st : Nat → Nat} {known : Int32} {numbers codes fits starts : Nat → Int32} (hn : nmR m cd known numbers codes) (hx : ixR (pW P) (pL P) m cd st fits starts) {words learnt : Int32} {letters breaks sizes rules hs levels digits : Nat → Int32} (hj : jgR P m cd words learnt letters breaks sizes rules hs levels digits) {n : Nat} (hn5 : n < 100000) (good bad : Nat → Int32) :
    OK (m_X4_goesOn 3000 (nI n) known levels numbers words learnt digits sizes breaks rules hs good bad fits starts) (goR P n m cd words letters sizes) := by
  unfold m_X4_goesOn
  obtain ⟨hs_, hl, hd⟩ := hj
  have hs2 := hs_
  obtain ⟨rfl, rfl, s3, s4⟩ := hs_
  have hb := plS_4 hP 63
  have hW := hP.1.1
  have hsz : ∀ w, w < pW P → sizes w = nI (dl (pL P w)) := fun w hw => (s3 w hw).2.2
  have hbr : ∀ w, w < pW P → breaks w = nI (pB P w) := fun w hw => (s3 w hw).2.1
  have hd6 : ∀ w, w < pW P → dl (pL P w) ≤ 6 := fun w hw => (hP.1.w hw).2.2
  have hT := hP.2.2.2
  have keep : ∀ x, (x = 0 ∧ doT P n = none) ∨ (x = 1 ∧ doT P n = some P) → OK (some (x, levels, nI (pT P), digits, breaks, rules, hs, good, bad)) (goR P n m cd (nI (pW P)) letters sizes) := by
    intro x hx
    refine OK.s ?_
    rcases hx with ⟨rfl, h⟩ | ⟨rfl, h⟩
    · exact Or.inl ⟨h, rfl⟩
    · exact Or.inr ⟨P, h, rfl, hs2, hl, hd⟩
  rw [show (1000 : Int32) = nI 1000 from rfl, show (100 : Int32) = nI 100 from rfl, show (10 : Int32) = nI 10 from rfl, show (10000 : Int32) = nI 10000 from rfl, n_dr hn5 (by omega) (by omega) (by omega) (by omega), n_dr hn5 (by omega) (by omega) (by omega) (by omega), n_dr hn5 (by omega) (by omega) (by omega) (by omega), n_irm (a := n) (d := 100) (by omega) (by omega) (by omega), n_irm (a := n) (d := 10000) (by omega) (by omega) (by omega), n_irm (a := n) (d := 1000) (by omega) (by omega) (by omega), n_d hn5 (by omega) (by omega)]
  have hm1 : n / 1000 % 10 < 10 := Nat.mod_lt _ (by omega)
  have hm2 : n / 100 % 10 < 10 := Nat.mod_lt _ (by omega)
  have hm3 : n / 10 % 10 < 10 := Nat.mod_lt _ (by omega)
  have hm4 : n % 100 < 100 := Nat.mod_lt _ (by omega)
  refine OK.l (OK.l (OK.l (OK.l ?_)))
  refine OK.eq (n / 10000) 1 (by omega) (by omega) (fun c1 => ?_) (fun c1 => ?_)
  · refine OK.eq (n % 100) 0 (by omega) (by omega) (fun d1 => ?_) (fun d1 => keep 0 (Or.inl ⟨rfl, by unfold doT; rw [if_pos c1, if_neg (by omega)]⟩))
    unfold m_X4_turns
    refine OK.b6 (Q := fun u => (u.1 = 0 ∧ doT P n = none) ∨ (u.1 = 1 ∧ doT P n = some (fxP P (n / 1000 % 10) (n / 100 % 10)) ∧ jgR (fxP P (n / 1000 % 10) (n / 100 % 10)) m cd (nI (pW P)) (nI (pT P)) letters u.2.1 sizes rules hs u.2.2.1 u.2.2.2.1)) ?_ (fun r f6 f7 f8 f9 f10 hq => ?_)
    · refine OK.b1 (s_hasPlace hP.1 hsz _ _) (fun r hr => ?_)
      rcases hr with ⟨hr, rfl⟩ | ⟨hr, rfl⟩
      · rw [inP_n hW hd6 (by omega) (by omega)] at hr
        refine OK.f (by decide) ?_
        refine OK.b1 (s_flip hP.1 hsz hr.1 hr.2 (hbr _ hr.1) (hP.b hr.1)) (fun f2 hf2 => ?_)
        subst hf2
        have hP' := fxP_ok hP hr.1 hr.2
        have hs' : stkR (fxP P (n / 1000 % 10) (n / 100 % 10)) (nI (pW P)) (nI (pT P)) letters (upd breaks (n / 1000 % 10) (nI (pB P (n / 1000 % 10) ^^^ 2 ^ (n / 100 % 10)))) sizes rules hs := by
          refine ⟨rfl, rfl, fun w hw => ⟨(s3 w hw).1, ?_, (s3 w hw).2.2⟩, s4⟩
          show _ = nI (if w = n / 1000 % 10 then pB P w ^^^ 2 ^ (n / 100 % 10) else pB P w)
          by_cases e : w = n / 1000 % 10
          · subst e; rw [upd_s, if_pos rfl]
          · rw [upd_n _ _ e, if_neg e]; exact (s3 w hw).2.1
        rw [hn.1]
        refine OK.b4 (s_learnFrom hP' hx hs' (mask := 63) (by omega) levels digits good bad) (fun f3 f4 f5 f6 hq => ?_)
        exact OK.s (Or.inr ⟨rfl, by unfold doT; rw [if_pos c1, if_pos ⟨d1, hr.1, hr.2⟩], hs', hq.1, hq.2⟩)
      · rw [inP_n hW hd6 (by omega) (by omega)] at hr
        exact OK.t rfl (OK.s (Or.inl ⟨rfl, by unfold doT; rw [if_pos c1, if_neg (fun q => hr q.2)]⟩))
    · rcases hq with ⟨q1, q2⟩ | ⟨q1, q2, q3⟩
      · exact OK.t q1 (OK.s (Or.inl ⟨q2, rfl⟩))
      · exact OK.f (by rw [show r = 1 from q1]; decide) (OK.s (Or.inr ⟨_, q2, rfl, q3⟩))
  refine OK.eq (n / 10000) 2 (by omega) (by omega) (fun c2 => ?_) (fun c2 => ?_)
  · refine OK.eq (n / 10 % 10) 0 (by omega) (by omega) (fun d1 => ?_) (fun d1 => keep 0 (Or.inl ⟨rfl, by unfold doT; rw [if_neg c1, if_pos c2, if_neg (by omega)]⟩))
    unfold m_X4_rules
    refine OK.b7 (Q := fun u => (u.1 = 0 ∧ doT P n = none) ∨ (u.1 = 1 ∧ doT P n = some (rlP P (n / 1000 % 10) (n / 100 % 10) (n % 100)) ∧ jgR (rlP P (n / 1000 % 10) (n / 100 % 10) (n % 100)) m cd (nI (pW P)) (nI (pT P)) letters breaks sizes u.2.1 u.2.2.1 u.2.2.2.1 u.2.2.2.2.1)) ?_ (fun r f6 f7 f8 f9 f10 f11 hq => ?_)
    · refine OK.b1 (s_isLevel _) (fun r hr => ?_)
      rcases hr with ⟨hr, rfl⟩ | ⟨hr, rfl⟩
      · rw [inB_n (by omega) (by omega)] at hr
        refine OK.f (by decide) ?_
        refine OK.b1 (s_isRule _ _) (fun r2 hr2 => ?_)
        rcases hr2 with ⟨ha, hb2, rfl⟩ | ⟨hr2, rfl⟩
        · rw [inB_n (by omega) (by omega)] at ha hb2
          refine OK.f (by decide) ?_
          refine OK.b2 (s_setRule hr.1 hr.2 _ _ rules hs) (fun f2 f3 hf2 => ?_)
          obtain ⟨w1, w2⟩ := hf2
          have w1 : f2 = _ := w1
          have w2 : f3 = _ := w2
          subst w1 w2
          have hP' := rlP_ok (k := n / 1000 % 10) hP ha.2 hb2.1 hb2.2
          have hs' : stkR (rlP P (n / 1000 % 10) (n / 100 % 10) (n % 100)) (nI (pW P)) (nI (pT P)) letters breaks sizes (upd rules (n / 1000 % 10) (nI (n / 100 % 10))) (upd hs (n / 1000 % 10) (nI (n % 100))) := by
            refine ⟨rfl, rfl, s3, fun k h1 h4 => ?_⟩
            show _ = nI (upN (pR P) _ _ k) ∧ _ = nI (upN (pH P) _ _ k)
            by_cases e : k = n / 1000 % 10
            · subst e; rw [upd_s, upd_s, upN_s, upN_s]; exact ⟨rfl, rfl⟩
            · rw [upd_n _ _ e, upd_n _ _ e, upN_n _ _ e, upN_n _ _ e]; exact s4 k h1 h4
          rw [hn.1]
          refine OK.b4 (s_learnFrom hP' hx hs' (mask := 63) (by omega) levels digits good bad) (fun f3 f4 f5 f6 hq => ?_)
          exact OK.s (Or.inr ⟨rfl, by unfold doT; rw [if_neg c1, if_pos c2, if_pos ⟨hr.1, hr.2, ha.2, hb2.1, hb2.2⟩], hs', hq.1, hq.2⟩)
        · rw [inB_n (by omega) (by omega), inB_n (by omega) (by omega)] at hr2
          exact OK.t rfl (OK.s (Or.inl ⟨rfl, by unfold doT; rw [if_neg c1, if_pos c2, if_neg (by omega)]⟩))
      · rw [inB_n (by omega) (by omega)] at hr
        exact OK.t rfl (OK.s (Or.inl ⟨rfl, by unfold doT; rw [if_neg c1, if_pos c2, if_neg (by omega)]⟩))
    · rcases hq with ⟨q1, q2⟩ | ⟨q1, q2, q3⟩
      · exact OK.t q1 (OK.s (Or.inl ⟨q2, rfl⟩))
      · exact OK.f (by rw [show r = 1 from q1]; decide) (OK.s (Or.inr ⟨_, q2, rfl, q3⟩))
  refine OK.eq (n / 10000) 3 (by omega) (by omega) (fun c3 => ?_) (fun c3 => ?_)
  · refine OK.eq (n % 10000) 0 (by omega) (by omega) (fun d1 => ?_) (fun d1 => keep 0 (Or.inl ⟨rfl, by unfold doT; rw [if_neg c1, if_neg c2, if_pos c3, if_neg (by omega)]⟩))
    unfold m_X4_studies
    refine OK.b6 (Q := fun u => (u.1 = 0 ∧ doT P n = none) ∨ (u.1 = 1 ∧ doT P n = some (sdP P) ∧ jgR (sdP P) m cd (nI (pW P)) u.2.1 letters breaks sizes rules hs u.2.2.1 u.2.2.2.1)) ?_ (fun r f6 f7 f8 f9 f10 hq => ?_)
    · refine OK.lt (pT P) 4 (by omega) (by omega) (fun e => OK.l ?_) (fun e => OK.s (Or.inl ⟨rfl, by unfold doT; rw [if_neg c1, if_neg c2, if_pos c3, if_neg (by omega)]⟩))
      rw [nI_1, hn.1]
      have hP' := sdP_ok hP e
      have hs' : stkR (sdP P) (nI (pW P)) (nI (pT P + 1)) letters breaks sizes rules hs := ⟨rfl, rfl, s3, s4⟩
      refine OK.b4 (s_learnFrom hP' hx hs' (mask := 63) (by omega) levels digits good bad) (fun f3 f4 f5 f6 hq => ?_)
      exact OK.s (Or.inr ⟨rfl, by unfold doT; rw [if_neg c1, if_neg c2, if_pos c3, if_pos ⟨d1, e⟩], hs', hq.1, hq.2⟩)
    · rcases hq with ⟨q1, q2⟩ | ⟨q1, q2, q3⟩
      · exact OK.t q1 (OK.s (Or.inl ⟨q2, rfl⟩))
      · exact OK.f (by rw [show r = 1 from q1]; decide) (OK.s (Or.inr ⟨_, q2, rfl, q3⟩))
  refine OK.eq (n / 10000) 4 (by omega) (by omega) (fun c4 => ?_) (fun c4 => ?_)
  · refine OK.eq (n / 10 % 10) 0 (by omega) (by omega) (fun d1 => ?_) (fun d1 => keep 0 (Or.inl ⟨rfl, by unfold doT; rw [if_neg c1, if_neg c2, if_neg c3, if_pos c4, if_neg (fun q => d1 q.1)]⟩))
    refine OK.b1 (s_hasPlace hP.1 hsz _ _) (fun r hr => ?_)
    rcases hr with ⟨hr, rfl⟩ | ⟨hr, rfl⟩
    · rw [inP_n hW hd6 (by omega) (by omega)] at hr
      refine OK.f (by decide) ?_
      refine OK.b1 (s_digitOf hP.1 hd hr.1 hr.2) (fun r hr2 => ?_)
      subst hr2
      have hd4 := digS_b hb (pL P (n / 1000 % 10)) (n / 100 % 10)
      refine OK.eq _ _ (by omega) (by omega) (fun e => keep 1 (Or.inr ⟨rfl, by unfold doT; rw [if_neg c1, if_neg c2, if_neg c3, if_pos c4, if_pos ⟨d1, hr.1, hr.2, e⟩]⟩)) (fun e => keep 0 (Or.inl ⟨rfl, by unfold doT; rw [if_neg c1, if_neg c2, if_neg c3, if_pos c4, if_neg (fun q => e q.2.2.2)]⟩))
    · rw [inP_n hW hd6 (by omega) (by omega)] at hr
      exact OK.t rfl (keep 0 (Or.inl ⟨rfl, by unfold doT; rw [if_neg c1, if_neg c2, if_neg c3, if_pos c4, if_neg (fun q => hr ⟨q.2.1, q.2.2.1⟩)]⟩))
  refine OK.eq (n / 10000) 5 (by omega) (by omega) (fun c5 => ?_) (fun c5 => ?_)
  · refine OK.eq (n % 1000) 0 (by omega) (by omega) (fun d1 => ?_) (fun d1 => keep 0 (Or.inl ⟨rfl, by unfold doT; rw [if_neg c1, if_neg c2, if_neg c3, if_neg c4, if_pos c5, if_neg (fun q => d1 q.1)]⟩))
    refine OK.b1 (s_hasWord hW _) (fun r hr => ?_)
    rcases hr with ⟨hr, rfl⟩ | ⟨hr, rfl⟩
    · rw [inW_n hW (by omega)] at hr
      refine OK.f (by decide) ?_
      refine OK.b1 (s_wrongPlaces hP.1 hb hd hsz hbr hr) (fun r hr2 => ?_)
      subst hr2
      have e := (rt_of hP (plS P 63 (pT P)) hr).2
      refine OK.i (fun h => keep 1 (Or.inr ⟨rfl, by unfold doT; rw [if_neg c1, if_neg c2, if_neg c3, if_neg c4, if_pos c5, if_pos ⟨d1, hr, e.mp h⟩]⟩)) (fun h => keep 0 (Or.inl ⟨rfl, by unfold doT; rw [if_neg c1, if_neg c2, if_neg c3, if_neg c4, if_pos c5, if_neg (fun q => h (e.mpr q.2.2))]⟩))
    · rw [inW_n hW (by omega)] at hr
      exact OK.t rfl (keep 0 (Or.inl ⟨rfl, by unfold doT; rw [if_neg c1, if_neg c2, if_neg c3, if_neg c4, if_pos c5, if_neg (fun q => hr q.2.1)]⟩))
  refine OK.eq (n / 10000) 6 (by omega) (by omega) (fun c6 => ?_) (fun c6 => ?_)
  · refine OK.eq (n % 10000) (n % 100) (by omega) (by omega) (fun d1 => ?_) (fun d1 => keep 0 (Or.inl ⟨rfl, by unfold doT; rw [if_neg c1, if_neg c2, if_neg c3, if_neg c4, if_neg c5, if_pos c6, if_neg (fun q => d1 q.1)]⟩))
    refine OK.b1 (s_rightPlaces hP hb rfl hd hsz hbr) (fun r hr => ?_)
    subst hr
    have hrb := VV_b hP 63
    have hrb : RT P (plS P 63 (pT P)) ≤ 30 := hrb
    refine OK.lt _ _ (by omega) (by omega) (fun e => keep 0 (Or.inl ⟨rfl, by unfold doT; rw [if_neg c1, if_neg c2, if_neg c3, if_neg c4, if_neg c5, if_pos c6, if_neg (by omega)]⟩)) (fun e => keep 1 (Or.inr ⟨rfl, by unfold doT; rw [if_neg c1, if_neg c2, if_neg c3, if_neg c4, if_neg c5, if_pos c6, if_pos ⟨d1, e⟩]⟩))
  refine OK.eq (n / 10000) 7 (by omega) (by omega) (fun c7 => ?_) (fun c7 => keep 0 (Or.inl ⟨rfl, by unfold doT; rw [if_neg c1, if_neg c2, if_neg c3, if_neg c4, if_neg c5, if_neg c6, if_neg c7]⟩))
  have hlv := lvl_of hn hx (mask := 63) (t := pT P) hl
  unfold m_X4_hasPattern
  refine OK.b1 (Q := fun r => (r = 0 ∧ doT P n = none) ∨ (r = 1 ∧ doT P n = some P)) ?_ (fun r hr => OK.z (hr.imp And.left And.left) (keep r hr))
  have hm5 : n % 1000 < 1000 := Nat.mod_lt _ (by omega)
  have no : ¬ (isS (n % 1000) = true ∧ n / 1000 % 10 ≤ dl (n % 1000) ∧ 0 < plS P 63 (pT P) (4 * nd (n % 1000) + n / 1000 % 10)) → doT P n = none := fun q => by unfold doT; rw [if_neg c1, if_neg c2, if_neg c3, if_neg c4, if_neg c5, if_neg c6, if_pos c7, if_neg q]
  refine OK.b1 (s_nodeOf _) (fun r hr => ?_)
  rcases hr with ⟨c, hc, e, rfl⟩ | ⟨hr, rfl⟩
  · have hcb := isF_b hc
    rw [nI_eq (by omega) (by omega)] at e
    obtain ⟨b1, b2, b3, b4⟩ := bf_F c (by omega) hc
    have hdl : dl c ≤ 3 := by rw [b4]; split; omega; split <;> omega
    refine OK.b1 (s_isPattern hc _) (fun r hr => ?_)
    rcases hr with ⟨h1, h2, rfl⟩ | ⟨hr, rfl⟩
    · rw [inB_n (by omega) (by omega)] at h2
      refine OK.f (by decide) ?_
      refine OK.b1 (s_levelOf b1 (by omega) hlv) (fun r hr => ?_)
      subst hr
      have hpb := hb (4 * nd c + n / 1000 % 10)
      refine OK.le _ 0 (by omega) (by omega) (fun q => OK.s (Or.inl ⟨rfl, no (fun w => by rw [e] at w; exact absurd w.2.2 (by omega))⟩)) (fun q => OK.s (Or.inr ⟨rfl, by unfold doT; rw [if_neg c1, if_neg c2, if_neg c3, if_neg c4, if_neg c5, if_neg c6, if_pos c7, if_pos (by rw [e]; exact ⟨h1, h2.2, q⟩)]⟩))
    · rw [inB_n (by omega) (by omega)] at hr
      exact OK.t rfl (OK.s (Or.inl ⟨rfl, no (fun w => hr (by rw [← e]; exact ⟨w.1, by omega, w.2.1⟩))⟩))
  · refine OK.b1 (isPattern_m1 _) (fun r hr2 => ?_)
    exact OK.t hr2 (OK.s (Or.inl ⟨rfl, no (fun w => hr _ (isS_F w.1) rfl)⟩))
/-! ## the reference does what is told -/
def drR (P : Pg) (n : Nat) (u : Int32 × Int32 × (Nat → Int32) × (Nat → Int32) × (Nat → Int32) × (Nat → Int32) × (Nat → Int32) × (Nat → Int32)) : Prop :=
  (doT P n = none ∧ u.1 = 0) ∨ ∃ P', doT P n = some P' ∧ u.1 = 1 ∧ pageR P' u.2.2.1
theorem s_does {P : Pg} (hP : pgOK P) {p1 : Nat → Int32} (hp : pageR P p1) {n : Nat} (hn5 : n < 100000) (z : Int32) (plan f d g h : Nat → Int32) :
    OK (m_X11_does 3000 (nI n) z p1 plan f d g h) (drR P n) := by
  unfold m_X11_does
  have hb := plS_4 hP 63
  have hW := hP.1.1
  have hd6 : ∀ w, w < pW P → dl (pL P w) ≤ 6 := fun w hw => (hP.1.w hw).2.2
  have hT := hP.2.2.2
  have hp0 := hp
  obtain ⟨p0, pw, pk, pt⟩ := hp0
  have hm1 : n / 1000 % 10 < 10 := Nat.mod_lt _ (by omega)
  have hm2 : n / 100 % 10 < 10 := Nat.mod_lt _ (by omega)
  have hm4 : n % 100 < 100 := Nat.mod_lt _ (by omega)
  rw [show (1000 : Int32) = nI 1000 from rfl, show (100 : Int32) = nI 100 from rfl, show (10 : Int32) = nI 10 from rfl, show (10000 : Int32) = nI 10000 from rfl, n_dr hn5 (by omega) (by omega) (by omega) (by omega), n_dr hn5 (by omega) (by omega) (by omega) (by omega), n_irm (a := n) (d := 100) (by omega) (by omega) (by omega), n_irm (a := n) (d := 1000) (by omega) (by omega) (by omega), n_d hn5 (by omega) (by omega)]
  refine OK.l (OK.l (OK.l (OK.l ?_)))
  refine OK.eq (n / 10000) 1 (by omega) (by omega) (fun c1 => ?_) (fun c1 => ?_)
  · refine OK.eq (n % 100) 0 (by omega) (by omega) (fun d1 => ?_) (fun d1 => OK.s (Or.inl ⟨by unfold doT; rw [if_pos c1, if_neg (by omega)], rfl⟩))
    unfold m_X11_turns
    refine OK.b2 (Q := fun u => (u.1 = 0 ∧ doT P n = none) ∨ (u.1 = 1 ∧ doT P n = some (fxP P (n / 1000 % 10) (n / 100 % 10)) ∧ pageR (fxP P (n / 1000 % 10) (n / 100 % 10)) u.2)) ?_ (fun r f6 hq => ?_)
    · refine OK.rd 0 rfl (by omega) ?_
      rw [p0]
      refine OK.j1 (fun y => (y = 0 ∧ ¬ (n / 1000 % 10 < pW P ∧ n / 100 % 10 + 2 ≤ dl (pL P (n / 1000 % 10)))) ∨ (y = 1 ∧ (n / 1000 % 10 < pW P ∧ n / 100 % 10 + 2 ≤ dl (pL P (n / 1000 % 10))))) ?_ (fun k hk => ?_)
      · rintro y (⟨rfl, hy⟩ | ⟨rfl, hy⟩)
        · exact OK.t rfl (OK.z (Or.inl rfl) (OK.s (Or.inl ⟨rfl, by unfold doT; rw [if_pos c1, if_neg (fun q => hy q.2)]⟩)))
        · refine OK.f (by decide) ?_
          refine OK.rd (7 + n / 1000 % 10) (nI_add 7 _) (by omega) ?_
          have hB := hP.b hy.1
          have := hd6 _ hy.1
          rw [(pw _ hy.1).2, shl_at (by omega), n_xor _ (by omega) _ hB]
          refine OK.st (7 + n / 1000 % 10) (nI_add 7 _) (by omega) (OK.z (Or.inr rfl) (OK.s (Or.inr ⟨rfl, by unfold doT; rw [if_pos c1, if_pos ⟨d1, hy.1, hy.2⟩], ?_, fun w hw => ⟨?_, ?_⟩, fun k hk => ⟨?_, ?_⟩, ?_⟩)))
          · exact (upd_n _ _ (by omega)).trans p0
          · have hw : w < pW P := hw
            exact (upd_n _ _ (by omega)).trans (pw w hw).1
          · have hw : w < pW P := hw
            show upd p1 _ _ (7 + w) = nI (if w = n / 1000 % 10 then pB P w ^^^ 2 ^ (n / 100 % 10) else pB P w)
            by_cases e : w = n / 1000 % 10
            · subst e; rw [upd_s, if_pos rfl]
            · rw [upd_n _ _ (by omega), if_neg e]; exact (pw w hw).2
          · exact (upd_n _ _ (by omega)).trans (pk k hk).1
          · exact (upd_n _ _ (by omega)).trans (pk k hk).2
          · exact (upd_n _ _ (by omega)).trans pt
      · refine OK.j0 (¬ (n / 1000 % 10 < pW P ∧ n / 100 % 10 + 2 ≤ dl (pL P (n / 1000 % 10)))) (fun q => hk _ (Or.inl ⟨rfl, q⟩)) (fun k2 hk2 => ?_)
        refine OK.le (pW P) (n / 1000 % 10) (by omega) (by omega) (fun e => hk2 (by omega)) (fun e => ?_)
        obtain ⟨ok, d2, -⟩ := hP.1.w e
        have := hd6 _ e
        refine OK.rd (1 + n / 1000 % 10) (nI_add 1 _) (by omega) ?_
        rw [(pw _ e).1]
        refine OK.b1 (s_length (by have := ok.1; omega)) (fun r hr => ?_)
        subst hr
        rw [n_sub1 (by omega)]
        exact OK.le _ _ (by omega) (by omega) (fun e2 => hk2 (by omega)) (fun e2 => hk _ (Or.inr ⟨rfl, e, by omega⟩))
    · rcases hq with ⟨q1, q2⟩ | ⟨q1, q2, q3⟩
      · exact OK.t q1 (OK.s (Or.inl ⟨q2, rfl⟩))
      · exact OK.f (by rw [show r = 1 from q1]; decide) (OK.s (Or.inr ⟨_, q2, rfl, q3⟩))
  refine OK.eq (n / 10000) 2 (by omega) (by omega) (fun c2 => ?_) (fun c2 => ?_)
  · unfold m_X11_rules
    refine OK.b2 (Q := fun u => (u.1 = 0 ∧ doT P n = none) ∨ (u.1 = 1 ∧ doT P n = some (rlP P (n / 1000 % 10) (n / 100 % 10) (n % 100)) ∧ pageR (rlP P (n / 1000 % 10) (n / 100 % 10) (n % 100)) u.2)) ?_ (fun r f6 hq => ?_)
    · refine OK.b1 (s_inB (a := 1) (b := 4) (by omega) (by omega) _) (fun r hr => ?_)
      refine OK.j1 (fun y => (y = 0 ∧ ¬ (1 ≤ n / 1000 % 10 ∧ n / 1000 % 10 ≤ 4 ∧ n / 100 % 10 ≤ 2 ∧ 1 ≤ n % 100 ∧ n % 100 ≤ 9)) ∨ (y = 1 ∧ (1 ≤ n / 1000 % 10 ∧ n / 1000 % 10 ≤ 4 ∧ n / 100 % 10 ≤ 2 ∧ 1 ≤ n % 100 ∧ n % 100 ≤ 9))) ?_ (fun k hk => ?_)
      · rintro y (⟨rfl, hy⟩ | ⟨rfl, hy⟩)
        · exact OK.t rfl (OK.z (Or.inl rfl) (OK.s (Or.inl ⟨rfl, by unfold doT; rw [if_neg c1, if_pos c2, if_neg hy]⟩)))
        · refine OK.f (by decide) ?_
          have e13 : (13 : Int32) + nI (n / 1000 % 10) - 1 = nI (13 + (n / 1000 % 10 - 1)) := by
            rw [show (13 : Int32) = nI 13 from rfl, nI_add, n_sub1 (by omega)]; congr 1; omega
          have e17 : (17 : Int32) + nI (n / 1000 % 10) - 1 = nI (17 + (n / 1000 % 10 - 1)) := by
            rw [show (17 : Int32) = nI 17 from rfl, nI_add, n_sub1 (by omega)]; congr 1; omega
          rw [e13, e17]
          refine OK.st _ rfl (by omega) (OK.st _ rfl (by omega) (OK.z (Or.inr rfl) (OK.s (Or.inr ⟨rfl, by unfold doT; rw [if_neg c1, if_pos c2, if_pos hy], ?_, fun w hw => ⟨?_, ?_⟩, fun k hk => ⟨?_, ?_⟩, ?_⟩))))
          · exact (upd_n _ _ (by omega)).trans ((upd_n _ _ (by omega)).trans p0)
          · have hw : w < pW P := hw
            exact (upd_n _ _ (by omega)).trans ((upd_n _ _ (by omega)).trans (pw w hw).1)
          · have hw : w < pW P := hw
            exact (upd_n _ _ (by omega)).trans ((upd_n _ _ (by omega)).trans (pw w hw).2)
          · show upd (upd p1 _ _) _ _ (13 + k) = nI (upN (pR P) (n / 1000 % 10) (n / 100 % 10) (k + 1))
            rw [upd_n _ _ (by omega)]
            by_cases e : k + 1 = n / 1000 % 10
            · rw [show k = n / 1000 % 10 - 1 by omega, upd_s, show n / 1000 % 10 - 1 + 1 = n / 1000 % 10 by omega, upN_s]
            · rw [upd_n _ _ (by omega), upN_n _ _ e]; exact (pk k hk).1
          · show upd (upd p1 _ _) _ _ (17 + k) = nI (upN (pH P) (n / 1000 % 10) (n % 100) (k + 1))
            by_cases e : k + 1 = n / 1000 % 10
            · rw [show k = n / 1000 % 10 - 1 by omega, upd_s, show n / 1000 % 10 - 1 + 1 = n / 1000 % 10 by omega, upN_s]
            · rw [upd_n _ _ (by omega), upd_n _ _ (by omega), upN_n _ _ e]; exact (pk k hk).2
          · exact (upd_n _ _ (by omega)).trans ((upd_n _ _ (by omega)).trans pt)
      · refine OK.j0 (¬ (1 ≤ n / 1000 % 10 ∧ n / 1000 % 10 ≤ 4 ∧ n / 100 % 10 ≤ 2 ∧ 1 ≤ n % 100 ∧ n % 100 ≤ 9)) (fun q => hk _ (Or.inl ⟨rfl, q⟩)) (fun k2 hk2 => ?_)
        rcases hr with ⟨hr, rfl⟩ | ⟨hr, rfl⟩
        · rw [inB_n (by omega) (by omega)] at hr
          refine OK.f (by decide) ?_
          refine OK.le 3 _ (by omega) (by omega) (fun e => hk2 (by omega)) (fun e => ?_)
          refine OK.b1 (s_inB (a := 1) (b := 9) (by omega) (by omega) _) (fun r hr2 => ?_)
          rcases hr2 with ⟨hr2, rfl⟩ | ⟨hr2, rfl⟩
          · rw [inB_n (by omega) (by omega)] at hr2
            exact OK.f (by decide) (hk _ (Or.inr ⟨rfl, by omega⟩))
          · rw [inB_n (by omega) (by omega)] at hr2
            exact OK.t rfl (hk2 (by omega))
        · rw [inB_n (by omega) (by omega)] at hr
          exact OK.t rfl (hk2 (by omega))
    · rcases hq with ⟨q1, q2⟩ | ⟨q1, q2, q3⟩
      · exact OK.z (Or.inl q1) (OK.s (Or.inl ⟨q2, q1⟩))
      · exact OK.z (Or.inr q1) (OK.s (Or.inr ⟨_, q2, q1, q3⟩))
  refine OK.eq (n / 10000) 3 (by omega) (by omega) (fun c3 => ?_) (fun c3 => ?_)
  · refine OK.eq n 30000 (by omega) (by omega) (fun d1 => ?_) (fun d1 => OK.s (Or.inl ⟨by unfold doT; rw [if_neg c1, if_neg c2, if_pos c3, if_neg (by omega)], rfl⟩))
    unfold m_X11_studies
    refine OK.b2 (Q := fun u => (u.1 = 0 ∧ doT P n = none) ∨ (u.1 = 1 ∧ doT P n = some (sdP P) ∧ pageR (sdP P) u.2)) ?_ (fun r f6 hq => ?_)
    · refine OK.rd 21 rfl (by omega) ?_
      rw [pt]
      refine OK.j1 (fun y => (y = 0 ∧ 4 ≤ pT P) ∨ (y = 1 ∧ pT P < 4)) ?_ (fun k hk => OK.le 4 (pT P) (by omega) (by omega) (fun e => hk _ (Or.inl ⟨rfl, e⟩)) (fun e => hk _ (Or.inr ⟨rfl, e⟩)))
      rintro y (⟨rfl, hy⟩ | ⟨rfl, hy⟩)
      · refine OK.rd 21 rfl (by omega) (OK.ju1 (OK.t rfl (OK.st 21 rfl (by omega) (OK.z (Or.inl rfl) (OK.s (Or.inl ⟨rfl, by unfold doT; rw [if_neg c1, if_neg c2, if_pos c3, if_neg (by omega)]⟩))))))
      · refine OK.rd 21 rfl (by omega) ?_
        rw [pt]
        have hu : ∀ k, k ≠ 21 → upd p1 21 (nI (pT P) + 1) k = p1 k := fun k h => upd_n _ _ h
        have hus : upd p1 21 (nI (pT P) + 1) 21 = nI (pT P + 1) := (upd_s _ _ _).trans (nI_1 _)
        refine OK.ju1 (OK.f (by decide) (OK.st 21 rfl (by omega) (OK.z (Or.inr rfl) (OK.s (Or.inr ⟨rfl, by unfold doT; rw [if_neg c1, if_neg c2, if_pos c3, if_pos (by omega)], (hu 0 (by omega)).trans p0, fun w hw => ?_, fun k hk => ⟨(hu _ (by omega)).trans (pk k hk).1, (hu _ (by omega)).trans (pk k hk).2⟩, hus⟩)))))
        have hw : w < pW P := hw
        exact ⟨(hu _ (by omega)).trans (pw w hw).1, (hu _ (by omega)).trans (pw w hw).2⟩
    · rcases hq with ⟨q1, q2⟩ | ⟨q1, q2, q3⟩
      · exact OK.t q1 (OK.s (Or.inl ⟨q2, rfl⟩))
      · exact OK.f (by rw [show r = 1 from q1]; decide) (OK.s (Or.inr ⟨_, q2, rfl, q3⟩))
  -- what is only asked
  have so : ∀ {β : Type} {K : Int32 → Int32 → (Nat → Int32) → (Nat → Int32) → (Nat → Int32) → (Nat → Int32) → (Nat → Int32) → Option β} {Q : β → Prop}, n / 10000 = 4 ∨ n / 10000 = 5 ∨ n / 10000 = 6 →
      (∀ r z f1 f2 f3 f4 f5, (r = 0 ∧ doT P n = none) ∨ (r = 1 ∧ doT P n = some P) → OK (K r z f1 f2 f3 f4 f5) Q) →
      OK (bK7 (m_X11_isSo 3000 (nI (n / 10000)) (nI (n / 1000 % 10)) (nI (n / 100 % 10)) (nI (n % 100)) z p1 plan f d g h) K) Q := by
    intro β K Q hc hK
    refine OK.b7 (Q := fun u => (u.1 = 0 ∧ doT P n = none) ∨ (u.1 = 1 ∧ doT P n = some P)) ?_ (fun r z f1 f2 f3 f4 f5 hq => hK r z f1 f2 f3 f4 f5 hq)
    unfold m_X11_isSo
    refine OK.b6 (s_learnAll hP hp z plan f d g h) (fun z1 f2 f3 f4 f5 f6 hq => ?_)
    obtain ⟨q1, q2⟩ := hq
    have q2 : digR (pW P) (pL P) (plS P 63 (pT P)) 6 f4 := q2
    refine OK.rd 0 rfl (by omega) ?_
    rw [p0]
    refine OK.j1 (fun y => (y = 0 ∧ pW P ≤ n / 1000 % 10) ∨ (y = 1 ∧ n / 1000 % 10 < pW P)) ?_ (fun k hk => OK.le _ _ (by omega) (by omega) (fun e => hk _ (Or.inl ⟨rfl, e⟩)) (fun e => hk _ (Or.inr ⟨rfl, e⟩)))
    intro y hy
    refine OK.eq (n / 10000) 4 (by omega) (by omega) (fun c4 => ?_) (fun c4 => ?_)
    · have no : ¬ (n / 10 % 10 = 0 ∧ n / 1000 % 10 < pW P ∧ n / 100 % 10 + 2 ≤ dl (pL P (n / 1000 % 10)) ∧ digS (plS P 63 (pT P)) (pL P (n / 1000 % 10)) (n / 100 % 10) = n % 100) → doT P n = none := fun q => by unfold doT; rw [if_neg c1, if_neg c2, if_neg c3, if_pos c4, if_neg q]
      rcases hy with ⟨rfl, hy⟩ | ⟨rfl, hy⟩
      · exact OK.t rfl (OK.s (Or.inl ⟨rfl, no (by omega)⟩))
      · refine OK.f (by decide) ?_
        obtain ⟨ok, d2, d6⟩ := hP.1.w hy
        refine OK.rd (1 + n / 1000 % 10) (nI_add 1 _) (by omega) ?_
        rw [(pw _ hy).1]
        refine OK.b1 (s_length (by have := ok.1; omega)) (fun r hr => ?_)
        subst hr
        rw [n_sub1 (by omega)]
        refine OK.le _ _ (by omega) (by omega) (fun e => OK.s (Or.inl ⟨rfl, no (by omega)⟩)) (fun e => ?_)
        refine OK.le 10 _ (by omega) (by omega) (fun e2 => OK.s (Or.inl ⟨rfl, no (by omega)⟩)) (fun e2 => ?_)
        refine OK.rd (6 * (n / 1000 % 10) + n / 100 % 10) (by rw [show (6 : Int32) = nI 6 from rfl, pk_mul, nI_add]) (by omega) ?_
        rw [q2 _ hy _ (by omega)]
        have hd4 := digS_b hb (pL P (n / 1000 % 10)) (n / 100 % 10)
        refine OK.eq _ _ (by omega) (by omega) (fun e3 => OK.s (Or.inr ⟨rfl, by unfold doT; rw [if_neg c1, if_neg c2, if_neg c3, if_pos c4, if_pos ⟨by omega, hy, by omega, e3⟩]⟩)) (fun e3 => OK.s (Or.inl ⟨rfl, no (fun q => e3 q.2.2.2)⟩))
    refine OK.eq (n / 10000) 5 (by omega) (by omega) (fun c5 => ?_) (fun c5 => ?_)
    · have no : ¬ (n % 1000 = 0 ∧ n / 1000 % 10 < pW P ∧ rtW P (plS P 63 (pT P)) (n / 1000 % 10) = dl (pL P (n / 1000 % 10)) - 1) → doT P n = none := fun q => by unfold doT; rw [if_neg c1, if_neg c2, if_neg c3, if_neg c4, if_pos c5, if_neg q]
      rcases hy with ⟨rfl, hy⟩ | ⟨rfl, hy⟩
      · exact OK.t rfl (OK.s (Or.inl ⟨rfl, no (by omega)⟩))
      · refine OK.f (by decide) ?_
        obtain ⟨ok, d2, d6⟩ := hP.1.w hy
        refine OK.eq (n / 100 % 10) 0 (by omega) (by omega) (fun e1 => ?_) (fun e1 => OK.s (Or.inl ⟨rfl, no (by omega)⟩))
        refine OK.eq (n % 100) 0 (by omega) (by omega) (fun e2 => ?_) (fun e2 => OK.s (Or.inl ⟨rfl, no (by omega)⟩))
        refine OK.b1 (s_rightOf hP hp hb q2 hy) (fun r hr => ?_)
        subst hr
        refine OK.rd (1 + n / 1000 % 10) (nI_add 1 _) (by omega) ?_
        rw [(pw _ hy).1]
        refine OK.b1 (s_length (by have := ok.1; omega)) (fun r hr => ?_)
        subst hr
        rw [n_sub1 (by omega)]
        have hrb := rtW_b P (plS P 63 (pT P)) (n / 1000 % 10)
        refine OK.eq _ _ (by omega) (by omega) (fun e3 => OK.s (Or.inr ⟨rfl, by unfold doT; rw [if_neg c1, if_neg c2, if_neg c3, if_neg c4, if_pos c5, if_pos ⟨by omega, hy, e3⟩]⟩)) (fun e3 => OK.s (Or.inl ⟨rfl, no (fun q => e3 q.2.2)⟩))
    have c6 : n / 10000 = 6 := by omega
    have no : ¬ (n % 10000 = n % 100 ∧ n % 100 ≤ RT P (plS P 63 (pT P))) → doT P n = none := fun q => by unfold doT; rw [if_neg c1, if_neg c2, if_neg c3, if_neg c4, if_neg c5, if_pos c6, if_neg q]
    refine OK.eq (n / 1000 % 10) 0 (by omega) (by omega) (fun e1 => ?_) (fun e1 => OK.s (Or.inl ⟨rfl, no (by omega)⟩))
    refine OK.eq (n / 100 % 10) 0 (by omega) (by omega) (fun e2 => ?_) (fun e2 => OK.s (Or.inl ⟨rfl, no (by omega)⟩))
    refine OK.b1 (s_rightOfAll hP hp hb q2) (fun r hr => ?_)
    subst hr
    have hrb : RT P (plS P 63 (pT P)) ≤ 30 := VV_b hP 63
    refine OK.lt _ _ (by omega) (by omega) (fun e => OK.s (Or.inl ⟨rfl, no (by omega)⟩)) (fun e => OK.s (Or.inr ⟨rfl, by unfold doT; rw [if_neg c1, if_neg c2, if_neg c3, if_neg c4, if_neg c5, if_pos c6, if_pos ⟨by omega, e⟩]⟩))
  have fin : ∀ (r z : Int32) (f1 f2 f3 f4 f5 : Nat → Int32), (r = 0 ∧ doT P n = none) ∨ (r = 1 ∧ doT P n = some P) → OK (if r = 0 then some ((0 : Int32), (z : Int32), p1, f1, f2, f3, f4, f5) else some (1, z, p1, f1, f2, f3, f4, f5)) (drR P n) := by
    intro r z f1 f2 f3 f4 f5 hq
    rcases hq with ⟨rfl, q⟩ | ⟨rfl, q⟩
    · exact OK.t rfl (OK.s (Or.inl ⟨q, rfl⟩))
    · exact OK.f (by decide) (OK.s (Or.inr ⟨P, q, rfl, hp⟩))
  have in46 : ∀ {β : Type} {X Y : Option β} {Q : β → Prop}, (n / 10000 = 4 ∨ n / 10000 = 5 ∨ n / 10000 = 6 → OK Y Q) → (¬ (n / 10000 = 4 ∨ n / 10000 = 5 ∨ n / 10000 = 6) → OK X Q) → OK (bK1 (m_X11_in 3000 (nI (n / 10000)).toInt64 4 6) (fun r => if r = 0 then X else Y)) Q := by
    intro β X Y Q h1 h2
    refine OK.b1 (s_inB (a := 4) (b := 6) (by omega) (by omega) _) (fun r hr => ?_)
    rcases hr with ⟨hr, rfl⟩ | ⟨hr, rfl⟩
    · rw [inB_n (by omega) (by omega)] at hr
      exact OK.f (by decide) (h1 (by omega))
    · rw [inB_n (by omega) (by omega)] at hr
      exact OK.t rfl (h2 (by omega))
  refine OK.eq (n / 10000) 4 (by omega) (by omega) (fun c4 => in46 (fun q => so q fin) (fun q => by omega)) (fun c4 => ?_)
  refine OK.eq (n / 10000) 5 (by omega) (by omega) (fun c5 => in46 (fun q => so q fin) (fun q => by omega)) (fun c5 => ?_)
  refine OK.eq (n / 10000) 6 (by omega) (by omega) (fun c6 => in46 (fun q => so q fin) (fun q => by omega)) (fun c6 => ?_)
  refine OK.eq (n / 10000) 7 (by omega) (by omega) (fun c7 => ?_) (fun c7 => in46 (fun q => by omega) (fun q => OK.s (Or.inl ⟨by unfold doT; rw [if_neg c1, if_neg c2, if_neg c3, if_neg c4, if_neg c5, if_neg c6, if_neg c7], rfl⟩)))
  have hm5 : n % 1000 < 1000 := Nat.mod_lt _ (by omega)
  have no : ¬ (isS (n % 1000) = true ∧ n / 1000 % 10 ≤ dl (n % 1000) ∧ 0 < plS P 63 (pT P) (4 * nd (n % 1000) + n / 1000 % 10)) → doT P n = none := fun q => by unfold doT; rw [if_neg c1, if_neg c2, if_neg c3, if_neg c4, if_neg c5, if_neg c6, if_pos c7, if_neg q]
  refine OK.b7 (Q := fun u => (u.1 = 0 ∧ doT P n = none) ∨ (u.1 = 1 ∧ doT P n = some P)) ?_ (fun r z f1 f2 f3 f4 f5 hq => ?_)
  · unfold m_X11_isPattern
    refine OK.b6 (s_learnAll hP hp z plan f d g h) (fun z1 f2 f3 f4 f5 f6 hq => ?_)
    obtain ⟨q1, q2⟩ := hq
    have q1 : tabR f2 (plS P 63 (pT P)) := q1
    refine OK.b1 (s_rIsString _) (fun r hr => ?_)
    rcases hr with ⟨c, hc, e, rfl⟩ | ⟨hr, rfl⟩
    · refine OK.f (by decide) ?_
      have hcb := isF_b (isS_F hc)
      rw [nI_eq (by omega) (by omega)] at e
      obtain ⟨b1, b2, b3, b4⟩ := bf_F c (by omega) (isS_F hc)
      have hdl : dl c ≤ 3 := by rw [b4]; split; omega; split <;> omega
      rw [e]
      refine OK.b1 (s_length (by omega)) (fun r hr => ?_)
      subst hr
      refine OK.lt _ _ (by omega) (by omega) (fun e2 => OK.s (Or.inl ⟨rfl, no (by rw [e]; omega)⟩)) (fun e2 => ?_)
      refine OK.b1 (Q := fun r => r = nI (nd c)) ⟨_, bf_sevens c (by omega), rfl⟩ (fun r hr => ?_)
      subst hr
      refine OK.rd (4 * nd c + n / 1000 % 10) (by rw [show (4 : Int32) = nI 4 from rfl, pk_mul, nI_add]) (by omega) ?_
      rw [q1 _ (by omega)]
      have hpb := hb (4 * nd c + n / 1000 % 10)
      refine OK.le _ 0 (by omega) (by omega) (fun q => OK.s (Or.inl ⟨rfl, no (fun w => by rw [e] at w; exact absurd w.2.2 (by omega))⟩)) (fun q => OK.s (Or.inr ⟨rfl, by unfold doT; rw [if_neg c1, if_neg c2, if_neg c3, if_neg c4, if_neg c5, if_neg c6, if_pos c7, if_pos (by rw [e]; exact ⟨hc, e2, q⟩)]⟩))
    · exact OK.t rfl (OK.s (Or.inl ⟨rfl, no (fun w => hr _ w.1 rfl)⟩))
  · rcases hq with ⟨q1, q2⟩ | ⟨q1, q2⟩
    · exact OK.z (Or.inl q1) (OK.s (Or.inl ⟨q2, q1⟩))
    · exact OK.z (Or.inr q1) (OK.s (Or.inr ⟨P, q2, q1, hp⟩))
