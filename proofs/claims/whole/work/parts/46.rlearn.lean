/-! ===== 46.rlearn: the reference's learning ===== -/
theorem tabR.c {f : Nat → Int32} {a b : Nat → Nat} (h : tabR f a) (he : ∀ k, a k = b k) : tabR f b := fun k hk => by rw [h k hk, he k]
theorem bit_01 (a : Nat) : a % 2 = 0 ∨ a % 2 = 1 := by omega
theorem s_rCount {P : Pg} (hP : pgOK P) {p1 : Nat → Int32} (hp : pageR P p1) {mask lev n : Nat} (hm : mask < 64) (hl : lev < 100) (hn : n < 3) {pl : Nat → Nat} {d : Nat → Int32} (hd : digR (pW P) (pL P) pl 6 d) (hb : ∀ k, pl k ≤ 4) (z : Int32) (g h f : Nat → Int32) :
    OK (m_X11_count 3000 (nI mask) (nI lev) (nI (n + 1)) z p1 g h f d) (fun u => tabR u.2.1 (cG P mask pl lev (n + 1)) ∧ tabR u.2.2.1 (cB P mask pl lev (n + 1))) := by
  unfold m_X11_count
  have hW := hP.1.1
  refine OK.w3 (fun i x g h => x = nI i ∧ (∀ k, k < i → g k = nI 0) ∧ ∀ k, k < i → h k = nI 0) 1372 ?_ (by omega) ⟨rfl, fun k hk => absurd hk (Nat.not_lt_zero _), fun k hk => absurd hk (Nat.not_lt_zero _)⟩
  rintro i x g h k ⟨rfl, h1, h2⟩ hi hk
  refine OK.le 1372 i (by omega) (by omega) (fun h3 => ?_) (fun h3 => ?_)
  rotate_left
  · refine OK.st i rfl (by omega) ?_
    refine OK.st i rfl (by omega) ?_
    refine hk (by omega) _ _ _ ⟨nI_1 i, fun k hk2 => ?_, fun k hk2 => ?_⟩
    · by_cases e : k = i
      · subst e; rw [upd_s]; rfl
      · rw [upd_n _ _ e]; exact h1 k (by omega)
    · by_cases e : k = i
      · subst e; rw [upd_s]; rfl
      · rw [upd_n _ _ e]; exact h2 k (by omega)
  have e13 : i = 1372 := by omega
  subst e13
  refine OK.w5 (fun t x _ g h _ => x = nI t ∧ tabR g (fun k => cntW (pL P) mask (n + 1) k (gX P pl lev) t) ∧ tabR h (fun k => cntW (pL P) mask (n + 1) k (bX P pl lev) t)) (pW P) ?_ (by omega) ⟨rfl, h1, h2⟩
  rintro t x z1 g h f1 k1 ⟨rfl, g1, g2⟩ ht hk1
  refine OK.rd 0 rfl (by omega) ?_
  rw [hp.1]
  refine OK.le (pW P) t (by omega) (by omega) (fun h => OK.s (by rw [show t = pW P by omega] at g1 g2; exact ⟨g1, g2⟩)) (fun htl => ?_)
  refine OK.rd (1 + t) (nI_add 1 t) (by omega) ?_
  rw [(hp.2.1 t htl).1]
  obtain ⟨hw, hd2, hd6⟩ := hP.1.w htl
  refine OK.b2 (s_laySigns hw.1 z1 f1) (fun a f2 ha => ?_)
  obtain ⟨ha1, ha2⟩ := ha
  have ha1 : a = nI (dl (pL P t) + 2) := ha1
  subst ha1
  rw [show nI (dl (pL P t) + 2) - 3 = nI (dl (pL P t) - 1) by rw [show (3 : Int32) = nI 3 from rfl, pk_sub (by omega)]; rfl]
  refine OK.w3 (fun j x g h => x = nI j ∧ tabR g (fun k => cntW (pL P) mask (n + 1) k (gX P pl lev) t + mask / 2 ^ t % 2 * sumN (fun p => gX P pl lev t p * hit (pL P t) p (n + 1) k (n + 2)) j) ∧ tabR h (fun k => cntW (pL P) mask (n + 1) k (bX P pl lev) t + mask / 2 ^ t % 2 * sumN (fun p => bX P pl lev t p * hit (pL P t) p (n + 1) k (n + 2)) j)) (dl (pL P t) - 1) ?_ (by omega) ⟨rfl, g1.c (fun k => by simp [sumN]), g2.c (fun k => by simp [sumN])⟩
  rintro j x g h k2 ⟨rfl, q1, q2⟩ hj hk2
  refine OK.le (dl (pL P t) - 1) j (by omega) (by omega) (fun h3 => ?_) (fun h3 => ?_)
  · have : j = dl (pL P t) - 1 := by omega
    subst this
    exact hk1 htl _ _ _ _ _ ⟨nI_1 t, q1, q2⟩
  have hmb : mask / 2 ^ t % 2 < 2 := Nat.mod_lt _ (by omega)
  refine OK.b1 (s_has (b := mask) (p := t) (by omega) (by omega)) (fun r hr => ?_)
  subst hr
  refine OK.eq (mask / 2 ^ t % 2) 0 (by omega) (by omega) (fun e => ?_) (fun e => ?_)
  · refine hk1 htl _ _ _ _ _ ⟨nI_1 t, q1.c (fun k => ?_), q2.c (fun k => ?_)⟩
    · rw [cntW, sumN, e, Nat.zero_mul, Nat.zero_mul]
    · rw [cntW, sumN, e, Nat.zero_mul, Nat.zero_mul]
  have em : mask / 2 ^ t % 2 = 1 := by omega
  refine OK.rd (7 + t) (nI_add 7 t) (by omega) ?_
  rw [(hp.2.1 t htl).2]
  have hB := hP.b htl
  refine OK.b1 (s_has (b := pB P t) (p := j) (by omega) (by omega)) (fun r hr => ?_)
  subst hr
  refine OK.rd (6 * t + j) (by rw [show (6 : Int32) = nI 6 from rfl, pk_mul, nI_add]) (by omega) ?_
  have hd4 : digS pl (pL P t) j ≤ 4 := mxT_b hb (pL P t) j 9
  rw [hd t htl j (by omega), show (2 : Int32) = nI 2 from rfl, n_irm (a := digS pl (pL P t) j) (by omega) (by omega) (by omega), n_irm (a := lev) (by omega) (by omega) (by omega)]
  refine OK.j1 (fun y => y = nI (digS pl (pL P t) j % 2)) (fun y hy => ?_) (fun k3 hk3 => ?_)
  rotate_left
  · refine OK.eq (digS pl (pL P t) j % 2) 1 (by omega) (by omega) (fun e => hk3 _ (by rw [e]; rfl)) (fun e => hk3 _ (by rw [show digS pl (pL P t) j % 2 = 0 by omega]; rfl))
  subst hy
  have fin : ∀ g' h' : Nat → Int32, tabR g' (fun k => (cntW (pL P) mask (n + 1) k (gX P pl lev) t + mask / 2 ^ t % 2 * sumN (fun p => gX P pl lev t p * hit (pL P t) p (n + 1) k (n + 2)) j) + gX P pl lev t j * hit (pL P t) j (n + 1) k (n + 2)) → tabR h' (fun k => (cntW (pL P) mask (n + 1) k (bX P pl lev) t + mask / 2 ^ t % 2 * sumN (fun p => bX P pl lev t p * hit (pL P t) p (n + 1) k (n + 2)) j) + bX P pl lev t j * hit (pL P t) j (n + 1) k (n + 2)) → OK (k2 (nI j + 1) g' h') (fun u => tabR u.2.1 (cG P mask pl lev (n + 1)) ∧ tabR u.2.2.1 (cB P mask pl lev (n + 1))) := by
    intro g' h' a1 a2
    refine hk2 (by omega) _ _ _ ⟨nI_1 j, a1.c (fun k => ?_), a2.c (fun k => ?_)⟩
    · rw [em, Nat.one_mul, Nat.one_mul, sumN, Nat.add_assoc]
    · rw [em, Nat.one_mul, Nat.one_mul, sumN, Nat.add_assoc]
  have eg : gX P pl lev t j = gd lev (bitB (pB P) t j) (digS pl (pL P t) j % 2) := rfl
  have eb : bX P pl lev t j = bd lev (bitB (pB P) t j) (digS pl (pL P t) j % 2) := rfl
  have ebr : pB P t / 2 ^ j % 2 = bitB (pB P) t j := rfl
  rw [eg, eb] at fin
  rw [ebr]
  have hbr : bitB (pB P) t j ≤ 1 := m2 _
  have hbk : digS pl (pL P t) j % 2 ≤ 1 := m2 _
  generalize bitB (pB P) t j = br at fin hbr ⊢
  generalize digS pl (pL P t) j % 2 = bk at fin hbk ⊢
  have c1 : br = 0 ∨ br = 1 := by omega
  have c2 : bk = 0 ∨ bk = 1 := by omega
  have hcp := fun (yg yb : Nat) (a1 : yg ≤ 1) (a2 : yb ≤ 1) => s_rCountPlace (c := pL P t) (p := j) (n := n) hw (by omega) hn ha2 a1 a2 q1 q2
  refine OK.eq (lev % 2) 1 (by omega) (by omega) (fun eo => ?_) (fun eo => ?_)
  · refine OK.j1 (fun y => y = nI (gd lev br bk)) (fun y hy => ?_) (fun k3 hk3 => ?_)
    · subst hy
      refine OK.j1 (fun y => y = nI (bd lev br bk)) (fun y hy => ?_) (fun k3 hk3 => ?_)
      · subst hy
        exact OK.b2 (hcp _ _ (gd_b hbr hbk) (bd_b hbr hbk)) (fun g' h' q => fin g' h' q.1 q.2)
      · rcases c1 with rfl | rfl
        · exact OK.t rfl (hk3 _ (by simp [bd, eo]; rfl))
        · exact OK.f (by decide) (hk3 _ (by simp [bd, eo]; rfl))
    · refine OK.j0 (gd lev br bk = 0) (fun h => hk3 _ (by rw [h]; rfl)) (fun k5 hk5 => ?_)
      rcases c1 with rfl | rfl
      · exact OK.t rfl (hk5 (by simp [gd, eo]))
      · refine OK.f (by decide) ?_
        rcases c2 with rfl | rfl
        · exact OK.t rfl (hk3 _ (by simp [gd, eo]; rfl))
        · exact OK.f (by decide) (hk5 (by simp [gd, eo]))
  · refine OK.j1 (fun y => y = nI (gd lev br bk)) (fun y hy => ?_) (fun k3 hk3 => ?_)
    · subst hy
      refine OK.j1 (fun y => y = nI (bd lev br bk)) (fun y hy => ?_) (fun k3 hk3 => ?_)
      · subst hy
        exact OK.b2 (hcp _ _ (gd_b hbr hbk) (bd_b hbr hbk)) (fun g' h' q => fin g' h' q.1 q.2)
      · refine OK.j0 (bd lev br bk = 0) (fun h => hk3 _ (by rw [h]; rfl)) (fun k5 hk5 => ?_)
        rcases c2 with rfl | rfl
        · exact OK.t rfl (hk5 (by simp [bd, eo]))
        · refine OK.f (by decide) ?_
          rcases c1 with rfl | rfl
          · exact OK.t rfl (hk5 (by simp [bd, eo]))
          · exact OK.f (by decide) (hk3 _ (by simp [bd, eo]; rfl))
    · refine OK.j0 (gd lev br bk = 0) (fun h => hk3 _ (by rw [h]; rfl)) (fun k5 hk5 => ?_)
      rcases c2 with rfl | rfl
      · exact OK.t rfl (hk5 (by simp [gd, eo]))
      · refine OK.f (by decide) ?_
        rcases c1 with rfl | rfl
        · exact OK.t rfl (hk3 _ (by simp [gd, eo]; rfl))
        · exact OK.f (by decide) (hk5 (by simp [gd, eo]))
theorem sub_lt {g b h : Nat} (hg : g ≤ 1000) (hb : b ≤ 1000) (hh : h ≤ 9) : nI g - nI b < nI h ↔ ¬ b + h ≤ g := by
  rw [Int32.lt_iff_toInt_lt, pk_sub_toInt (by omega) (by omega), nI_toInt (by omega)]
  omega
theorem s_keeps {r h g b : Nat} (hr : r ≤ 2) (hg : g ≤ 1000) (hb : b ≤ 1000) (hh : h ≤ 9) : OK (m_X11_keeps 3000 (nI r) (nI h) (nI g) (nI b)) (fun x => x = bif kp r h g b then 1 else 0) := by
  unfold m_X11_keeps
  have hmul : h * b ≤ 9 * 1000 := Nat.mul_le_mul hh hb
  refine OK.le 1 g (by omega) (by omega) (fun h1 => ?_) (fun h1 => OK.s (by simp [kp, show ¬ 1 ≤ g by omega]))
  refine OK.eq r 0 (by omega) (by omega) (fun e => ?_) (fun e => ?_)
  · refine OK.i (fun h2 => OK.s ?_) (fun h2 => OK.s ?_)
    · rw [sub_lt hg hb hh] at h2; simp [kp, e, h2]
    · rw [sub_lt hg hb hh, Classical.not_not] at h2; simp [kp, e, h2, h1]
  · refine OK.eq r 1 (by omega) (by omega) (fun e1 => ?_) (fun e1 => ?_)
    · refine OK.j0 (kp r h g b = false) (fun h => OK.s (by rw [h]; rfl)) (fun k hk => ?_)
      refine OK.eq b 0 (by omega) (by omega) (fun e2 => ?_) (fun e2 => hk (by simp [kp, e1, e2]))
      refine OK.lt g h (by omega) (by omega) (fun h3 => hk ?_) (fun h3 => OK.s ?_)
      · simp [kp, e1, e2, show ¬ h ≤ g by omega]
      · simp [kp, e1, e2, h3, h1]
    · rw [pk_mul, nI_add]
      refine OK.lt g (h * b + h) (by omega) (by omega) (fun h3 => OK.s ?_) (fun h3 => OK.s ?_)
      · simp [kp, e, e1, show ¬ h * b + h ≤ g by omega]
      · simp [kp, e, e1, h3, h1]
theorem s_isKept {r h g b : Nat} (hr : r ≤ 2) (hg : g ≤ 1000) (hb : b ≤ 1000) (hh : h ≤ 9) : OK (m_X5_isKept 3000 (nI r) (nI h) (nI g) (nI b)) (fun x => x = bif kp r h g b then 1 else 0) := by
  unfold m_X5_isKept
  have hmul : h * b ≤ 9 * 1000 := Nat.mul_le_mul hh hb
  refine OK.le 1 g (by omega) (by omega) (fun h1 => ?_) (fun h1 => OK.s (by simp [kp, show ¬ 1 ≤ g by omega]))
  refine OK.eq r 0 (by omega) (by omega) (fun e => ?_) (fun e => ?_)
  · refine OK.i (fun h2 => OK.s ?_) (fun h2 => OK.s ?_)
    · rw [sub_lt hg hb hh] at h2; simp [kp, e, h2]
    · rw [sub_lt hg hb hh, Classical.not_not] at h2; simp [kp, e, h2, h1]
  · refine OK.eq r 1 (by omega) (by omega) (fun e1 => ?_) (fun e1 => ?_)
    · refine OK.eq b 0 (by omega) (by omega) (fun e2 => ?_) (fun e2 => OK.s (by simp [kp, e1, e2]))
      refine OK.lt g h (by omega) (by omega) (fun h3 => OK.s ?_) (fun h3 => OK.s ?_)
      · simp [kp, e1, e2, show ¬ h ≤ g by omega]
      · simp [kp, e1, e2, h3, h1]
    · rw [pk_mul, nI_add]
      refine OK.lt g (h * b + h) (by omega) (by omega) (fun h3 => OK.s ?_) (fun h3 => OK.s ?_)
      · simp [kp, e, e1, show ¬ h * b + h ≤ g by omega]
      · simp [kp, e, e1, h3, h1]
theorem gX_b (P : Pg) (pl : Nat → Nat) (lev w p : Nat) : gX P pl lev w p ≤ 1 := gd_b (m2 _) (m2 _)
theorem bX_b (P : Pg) (pl : Nat → Nat) (lev w p : Nat) : bX P pl lev w p ≤ 1 := bd_b (m2 _) (m2 _)
theorem s_learn {P : Pg} (hP : pgOK P) {p1 : Nat → Int32} (hp : pageR P p1) {mask : Nat} (hm : mask < 64) (z : Int32) (plan f d g h : Nat → Int32) :
    OK (m_X11_learn 3000 (nI mask) z p1 plan f d g h) (fun u => tabR u.2.1 (plS P mask (pT P)) ∧ digR (pW P) (pL P) (plS P mask (pT P)) 6 u.2.2.2.1) := by
  unfold m_X11_learn
  have hT := hP.2.2.2
  refine OK.w2 (fun i x g => x = nI i ∧ ∀ k, k < i → g k = nI 0) 1372 ?_ (by omega) ⟨rfl, fun k hk => absurd hk (Nat.not_lt_zero _)⟩
  rintro i x pn k ⟨rfl, h1⟩ hi hk
  refine OK.le 1372 i (by omega) (by omega) (fun h3 => ?_) (fun h3 => ?_)
  rotate_left
  · refine OK.st i rfl (by omega) ?_
    refine hk (by omega) _ _ ⟨nI_1 i, fun k hk2 => ?_⟩
    by_cases e : k = i
    · subst e; rw [upd_s]; rfl
    · rw [upd_n _ _ e]; exact h1 k (by omega)
  have e13 : i = 1372 := by omega
  subst e13
  refine OK.w7 (fun t x _ pn _ _ _ _ => x = nI (t + 1) ∧ tabR pn (plS P mask t)) (pT P) ?_ (by omega) ⟨rfl, h1⟩
  rintro t x z1 pn f1 d1 g1 h1 k1 ⟨rfl, hpn⟩ ht hk1
  have hb4 : ∀ k, plS P mask t k ≤ t + 1 := fun k => Nat.le_trans (plS_b P mask t k) (by omega)
  refine OK.rd 21 rfl (by omega) ?_
  rw [hp.2.2.2]
  refine OK.lt (pT P) (t + 1) (by omega) (by omega) (fun h => ?_) (fun htl => ?_)
  · have : t = pT P := by omega
    subst this
    refine OK.b3 (s_layDigits hP hp hpn (fun k => Nat.le_trans (plS_b P mask _ k) hT) z1 f1 d1) (fun a f2 d2 hq => ?_)
    exact OK.s ⟨hpn, hq⟩
  refine OK.w7 (fun j x _ pn _ _ _ _ => x = nI (j + 1) ∧ tabR pn (lvP P mask (t + 1) (plS P mask t) j)) 3 ?_ (by omega) ⟨rfl, hpn⟩
  rintro j x z2 pn2 f2 d2 g2 h2 k2 ⟨rfl, hpn2⟩ hj hk2
  have hbj := lvP_b P mask (t + 1) hb4 j
  have hbj4 : ∀ k, lvP P mask (t + 1) (plS P mask t) j k ≤ 4 := fun k => Nat.le_trans (hbj k) (by omega)
  refine OK.le 4 (j + 1) (by omega) (by omega) (fun h => ?_) (fun h => ?_)
  · have : j = 3 := by omega
    subst this
    exact hk1 (by omega) _ _ _ _ _ _ _ ⟨nI_1 _, hpn2⟩
  refine OK.b3 (s_layDigits hP hp hpn2 hbj4 z2 f2 d2) (fun a f3 d3 hd3 => ?_)
  refine OK.b4 (s_rCount hP hp hm (lev := t + 1) (n := j) (by omega) (by omega) hd3 hbj4 a g2 h2 f3) (fun z3 g3 h3 f4 hq => ?_)
  obtain ⟨hg3, hh3⟩ := hq
  have hg3 : tabR g3 (cG P mask (lvP P mask (t + 1) (plS P mask t) j) (t + 1) (j + 1)) := hg3
  have hh3 : tabR h3 (cB P mask (lvP P mask (t + 1) (plS P mask t) j) (t + 1) (j + 1)) := hh3
  refine OK.w2 (fun i x g => x = nI i ∧ (∀ k, k < i → g k = nI (lvP P mask (t + 1) (plS P mask t) (j + 1) k)) ∧ ∀ k, i ≤ k → k < 1372 → g k = nI (lvP P mask (t + 1) (plS P mask t) j k)) 1372 ?_ (by omega) ⟨rfl, fun k hk => absurd hk (Nat.not_lt_zero _), fun k _ hk => hpn2 k hk⟩
  rintro i x pn3 k3 ⟨rfl, q1, q2⟩ hi hk3
  refine OK.le 1372 i (by omega) (by omega) (fun h9 => ?_) (fun h9 => ?_)
  · exact hk2 (by omega) _ _ _ _ _ _ _ ⟨nI_1 _, fun k hk => q1 k (by omega)⟩
  obtain ⟨r1, r2, r3⟩ := hP.2.2.1 (t + 1) (by omega) (by omega)
  refine OK.rd (13 + t) (by rw [show (13 : Int32) = nI 13 from rfl, nI_add, show (13 + (t + 1)) = (13 + t) + 1 from rfl, nI_pred]) (by omega) ?_
  rw [(hp.2.2.1 t (by omega)).1]
  refine OK.rd (17 + t) (by rw [show (17 : Int32) = nI 17 from rfl, nI_add, show (17 + (t + 1)) = (17 + t) + 1 from rfl, nI_pred]) (by omega) ?_
  rw [(hp.2.2.1 t (by omega)).2]
  refine OK.rd i rfl (by omega) ?_
  rw [hg3 i (by omega)]
  refine OK.rd i rfl (by omega) ?_
  rw [hh3 i (by omega)]
  have b1 := cnt_b hP.1 mask (n := j + 1) (by omega) i (gX_b P (lvP P mask (t + 1) (plS P mask t) j) (t + 1))
  have b2 := cnt_b hP.1 mask (n := j + 1) (by omega) i (bX_b P (lvP P mask (t + 1) (plS P mask t) j) (t + 1))
  refine OK.b1 (s_keeps r1 (Nat.le_trans b1 (by omega)) (Nat.le_trans b2 (by omega)) r3) (fun r hr => ?_)
  refine OK.j1 (fun y => y = nI (lvP P mask (t + 1) (plS P mask t) (j + 1) i)) (fun y hy => ?_) (fun k4 hk4 => ?_)
  · subst hy
    refine OK.st i rfl (by omega) ?_
    refine hk3 (by omega) _ _ ⟨nI_1 i, fun k hk => ?_, fun k hk hk2 => ?_⟩
    · by_cases e : k = i
      · subst e; rw [upd_s]
      · rw [upd_n _ _ e]; exact q1 k (by omega)
    · rw [upd_n _ _ (by omega)]; exact q2 k (by omega) hk2
  · have el : lvP P mask (t + 1) (plS P mask t) (j + 1) i = bif kp (pR P (t + 1)) (pH P (t + 1)) (cG P mask (lvP P mask (t + 1) (plS P mask t) j) (t + 1) (j + 1) i) (cB P mask (lvP P mask (t + 1) (plS P mask t) j) (t + 1) (j + 1) i) then t + 1 else lvP P mask (t + 1) (plS P mask t) j i := rfl
    cases hkp : kp (pR P (t + 1)) (pH P (t + 1)) (cG P mask (lvP P mask (t + 1) (plS P mask t) j) (t + 1) (j + 1) i) (cB P mask (lvP P mask (t + 1) (plS P mask t) j) (t + 1) (j + 1) i) with
    | false =>
      rw [hkp] at hr el
      have hr : r = 0 := hr
      subst hr
      refine OK.t rfl ?_
      refine OK.rd i rfl (by omega) ?_
      exact hk4 _ (by rw [q2 i (by omega) (by omega), el]; rfl)
    | true =>
      rw [hkp] at hr el
      have hr : r = 1 := hr
      subst hr
      refine OK.f (by decide) ?_
      exact hk4 _ (by rw [el]; rfl)
theorem s_learnAll {P : Pg} (hP : pgOK P) {p1 : Nat → Int32} (hp : pageR P p1) (z : Int32) (plan f d g h : Nat → Int32) :
    OK (m_X11_learnAll 3000 z p1 plan f d g h) (fun u => tabR u.2.1 (plS P 63 (pT P)) ∧ digR (pW P) (pL P) (plS P 63 (pT P)) 6 u.2.2.2.1) := by
  unfold m_X11_learnAll
  exact OK.b6 (s_learn hP hp (mask := 63) (by omega) z plan f d g h) (fun a b c d e f hq => OK.s hq)
