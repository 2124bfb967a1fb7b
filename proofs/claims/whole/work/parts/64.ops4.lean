/-! ===== 64.ops4: calls that change the page ===== -/
theorem FT_9 {a : Nat → Nat} {N : Nat} (hN : N ≤ 64) (h : FT a N (-9)) : ∃ s, runT a N = some s ∧ clo s := by
  rcases h with ⟨i, s, h1, -, -, h4⟩ | ⟨s, h1, ⟨h2, -⟩ | ⟨-, h3⟩⟩
  · exact absurd h4.symm (n_m9 (by omega))
  · exact ⟨s, h1, h2⟩
  · exact absurd h3.symm (n_m9 (by omega))
def lsP (P : Pg) (s : TS) : Pg := (tN s, tL s, tB s, pR P, pH P, 0)
theorem lsP_ok {P : Pg} (hP : pgOK P) {s : TS} (h : tsOK s) (hc : clo s) : pgOK (lsP P s) := by
  refine ⟨⟨h.1, fun w hw => ?_⟩, fun w hw => (h.w hc hw).2.2, hP.2.2.1, by show 0 ≤ 4; omega⟩
  obtain ⟨a, b, -⟩ := h.w hc hw
  exact ⟨a, by show tL s w < _; omega⟩
theorem op_list : St_list Inv := by
  intro b_theSeed b_text_length b_text_signs b_stock_words b_stock_learnt b_stock_letters b_stock_breaks b_stock_sizes b_stock_rules b_stock_hs b_index_known b_index_size b_index_numbers b_index_codes b_index_fits b_index_starts b_index_signs b_learning_levels b_learning_good b_learning_bad b_learning_digits b_doings_count b_doings_kinds b_doings_wheres b_doings_firsts b_doings_seconds b_tree_count b_tree_end b_tree_packed b_tree_isNode b_tree_bases b_tree_slots b_seen_count b_seen_places b_seen_digits b_seen_hads b_judging_learning_levels b_judging_learning_good b_judging_learning_bad b_judging_learning_digits b_judging_tried_words b_judging_tried_learnt b_judging_tried_letters b_judging_tried_breaks b_judging_tried_sizes b_judging_tried_rules b_judging_tried_hs b_chances_valued b_chances_rights b_shelves_0_words b_shelves_0_learnt b_shelves_0_letters b_shelves_0_breaks b_shelves_0_sizes b_shelves_0_rules b_shelves_0_hs b_shelves_1_words b_shelves_1_learnt b_shelves_1_letters b_shelves_1_breaks b_shelves_1_sizes b_shelves_1_rules b_shelves_1_hs b_onShelf m_thrown m_textSize m_doings m_seen m_seed m_signMany m_whichMany m_whichFirst m_text m_readPage m_page m_trial m_book m_kept m_isKept m_seenPlace m_seenDigit m_seenIs m_plan m_good m_bad m_signs m_digits m_isNode m_base m_slot m_value hI
  refine fin_list ?_
  obtain ⟨hT, hG, hS, hD, h0, h1⟩ := hI
  have hG' := hG
  have hT' := hT
  obtain ⟨P, n, hP, hst, hln, htr, hch, rfl, rfl, hhs, hp⟩ := hG
  obtain ⟨N, a, hN, rfl, rfl, t1, t2⟩ := hT
  obtain ⟨rfl, rfl, s3, s4⟩ := hst
  unfold m_X10_list m_X11_list
  refine OK.b1 (s_firstFault hN t1) (fun r hr => ?_)
  refine OK.i (fun q => ?_) (fun q => OK.s ?_)
  · subst q
    obtain ⟨s, hrun, hclo⟩ := FT_9 hN hr
    have ok := runT_ok N s hrun
    have hP' := lsP_ok hP ok hclo
    refine OK.b4 (s_readInto hN t1 hrun hclo _ _ _ _) (fun z2 f3 f4 f5 hq => ?_)
    obtain ⟨q1, q2⟩ := hq
    have q1 : z2 = nI (tN s) := q1
    subst q1
    have q2 : skR (tN s) s f3 f4 f5 := q2
    have hst' : stkR (lsP P s) (nI (tN s)) 0 f3 f4 f5 b_stock_rules b_stock_hs := ⟨rfl, rfl, q2, s4⟩
    refine OK.w2 (fun t x g => x = nI t ∧ ∀ k, k < t → g k = 0) 2 ?_ (by omega) ⟨rfl, fun k hk => absurd hk (Nat.not_lt_zero _)⟩
    rintro t x g k ⟨rfl, b1⟩ ht hk
    refine OK.le 2 t (by omega) (by omega) (fun e => ?_) (fun e => ?_)
    · have et : t = 2 := by omega
      subst et
      refine OK.b13 (s_learnAnew hP' hln hst' _ _ _ _ _ _) (fun z9 z10 f11 f12 f13 f14 f15 f16 f17 f18 f19 z20 z21 hq => OK.s ?_)
      obtain ⟨l1, l2, l3⟩ := hq
      refine OK.b2 (s_readList hN t2 m_readPage) (fun r1 f2 hw => ?_)
      obtain ⟨w1, w2⟩ := hw
      have e9 : r1 = -9 := (FT_u hr w1).symm
      obtain ⟨s', hs', -, hrp⟩ := w2 e9
      rw [hrun] at hs'
      cases hs'
      have hrp : rpR s f2 := hrp
      refine OK.t e9 ?_
      refine OK.w2 (fun t x g => x = nI t ∧ (∀ k, k < t → g k = f2 k) ∧ ∀ k, 13 ≤ k → g k = m_page k) 13 ?_ (by omega) ⟨rfl, fun k hk => absurd hk (Nat.not_lt_zero _), fun _ _ => rfl⟩
      rintro t x g' k' ⟨rfl, c1, c2⟩ ht hk'
      refine OK.le 13 t (by omega) (by omega) (fun e => ?_) (fun e => ?_)
      · have et : t = 13 := by omega
        subst et
        have hu : ∀ j, j ≠ 21 → upd g' 21 0 j = g' j := fun j h => upd_n _ _ h
        have hus : upd g' 21 0 21 = 0 := upd_s _ _ _
        have k0 : upd (upd m_isKept 0 0) 1 0 0 = 0 := (upd_n _ _ (by omega)).trans (upd_s _ _ _)
        have k1 : upd (upd m_isKept 0 0) 1 0 1 = 0 := upd_s _ _ _
        have hn6 := ok.1
        refine OK.st 21 rfl (by omega) ?_
        rw [nar0]
        refine OK.st 0 rfl (by omega) (OK.st 1 rfl (by omega) (OK.rd 0 rfl (by omega) (OK.s ⟨?_, hT', ⟨lsP P s, 0, hP', hst', l1, Or.inl l2, Or.inl l3, rfl, rfl, hsR_0 _ _ _ _ _ _, ?_⟩, hS, hD, Or.inl ⟨b1 0 (by omega), k0⟩, Or.inl ⟨b1 1 (by omega), k1⟩⟩)))
        · rw [hu 0 (by omega), c1 0 (by omega)]; exact hrp.1.symm
        · refine ⟨(hu 0 (by omega)).trans ((c1 0 (by omega)).trans hrp.1), fun w hw => ?_, fun k hk => ?_, hus⟩
          · have hw : w < tN s := hw
            exact ⟨(hu _ (by omega)).trans ((c1 _ (by omega)).trans (hrp.2 w hw).1), (hu _ (by omega)).trans ((c1 _ (by omega)).trans (hrp.2 w hw).2)⟩
          · exact ⟨(hu _ (by omega)).trans ((c2 _ (by omega)).trans (hp.2.2.1 k hk).1), (hu _ (by omega)).trans ((c2 _ (by omega)).trans (hp.2.2.1 k hk).2)⟩
      · refine OK.rd t rfl (by omega) (OK.st t rfl (by omega) ?_)
        refine hk' e _ _ ⟨nI_1 t, fun j hj => ?_, fun j hj => ?_⟩
        · by_cases q : j = t
          · subst q; exact upd_s _ _ _
          · rw [upd_n _ _ q]; exact c1 j (by omega)
        · rw [upd_n _ _ (by omega)]; exact c2 j hj
    · refine OK.st t rfl (by omega) ?_
      rw [nar0]
      refine hk e _ _ ⟨nI_1 t, fun j hj => ?_⟩
      by_cases q : j = t
      · subst q; exact upd_s _ _ _
      · rw [upd_n _ _ q]; exact b1 j (by omega)
  · refine OK.b2 (s_readList hN t2 m_readPage) (fun r1 f2 hw => ?_)
    have e : r = r1 := FT_u hr hw.1
    exact OK.f (fun w => q (e.trans w)) (OK.s ⟨rfl, hT', hG', hS, hD, h0, h1⟩)
def adP (P : Pg) (c b : Nat) : Pg := (pW P + 1, upN (pL P) (pW P) c, upN (pB P) (pW P) b, pR P, pH P, pT P)
theorem adP_ok {P : Pg} (hP : pgOK P) (hW : pW P < 6) {c b : Nat} (hc : isW c) (hc2 : c < 2147483648) (hb : b < 2 ^ (dl c - 1)) : pgOK (adP P c b) := by
  obtain ⟨h1, h2, h3, h4⟩ := hP
  refine ⟨⟨by show pW P + 1 ≤ 6; omega, fun w hw => ?_⟩, fun w hw => ?_, h3, h4⟩
  · have hw : w < pW P + 1 := hw
    show isW (upN (pL P) (pW P) c w) ∧ upN (pL P) (pW P) c w < _
    by_cases e : w = pW P
    · subst e; rw [upN_s]; exact ⟨hc, hc2⟩
    · rw [upN_n _ _ e]; exact h1.2 w (by omega)
  · have hw : w < pW P + 1 := hw
    show upN (pB P) (pW P) b w < 2 ^ (dl (upN (pL P) (pW P) c w) - 1)
    by_cases e : w = pW P
    · subst e; rw [upN_s, upN_s]; exact hb
    · rw [upN_n _ _ e, upN_n _ _ e]; exact h2 w (by omega)
theorem p2_6 {d : Nat} (h : d ≤ 6) : 2 ^ (d - 1) ≤ 32 := Nat.le_trans (Nat.pow_le_pow_right (by omega) (show d - 1 ≤ 5 by omega)) (by decide)
theorem op_add : St_add Inv := by
  intro b_theSeed b_text_length b_text_signs b_stock_words b_stock_learnt b_stock_letters b_stock_breaks b_stock_sizes b_stock_rules b_stock_hs b_index_known b_index_size b_index_numbers b_index_codes b_index_fits b_index_starts b_index_signs b_learning_levels b_learning_good b_learning_bad b_learning_digits b_doings_count b_doings_kinds b_doings_wheres b_doings_firsts b_doings_seconds b_tree_count b_tree_end b_tree_packed b_tree_isNode b_tree_bases b_tree_slots b_seen_count b_seen_places b_seen_digits b_seen_hads b_judging_learning_levels b_judging_learning_good b_judging_learning_bad b_judging_learning_digits b_judging_tried_words b_judging_tried_learnt b_judging_tried_letters b_judging_tried_breaks b_judging_tried_sizes b_judging_tried_rules b_judging_tried_hs b_chances_valued b_chances_rights b_shelves_0_words b_shelves_0_learnt b_shelves_0_letters b_shelves_0_breaks b_shelves_0_sizes b_shelves_0_rules b_shelves_0_hs b_shelves_1_words b_shelves_1_learnt b_shelves_1_letters b_shelves_1_breaks b_shelves_1_sizes b_shelves_1_rules b_shelves_1_hs b_onShelf m_thrown m_textSize m_doings m_seen m_seed m_signMany m_whichMany m_whichFirst m_text m_readPage m_page m_trial m_book m_kept m_isKept m_seenPlace m_seenDigit m_seenIs m_plan m_good m_bad m_signs m_digits m_isNode m_base m_slot m_value hI n1 n2
  refine fin_add ?_
  obtain ⟨hT, hG, hS, hD, h0, h1⟩ := hI
  have hG' := hG
  obtain ⟨P, n, hP, hst, hln, htr, hch, rfl, rfl, hhs, hp⟩ := hG
  obtain ⟨rfl, rfl, s3, s4⟩ := hst
  have hW := hP.1.1
  have hn := hhs.1
  unfold m_X10_add m_X11_add
  refine OK.b1 (s_wsz n1) (fun r hr => ?_)
  rcases hr with ⟨c, hc, rfl⟩ | ⟨hr, rfl⟩
  · have hc' := hc
    obtain ⟨c1, c2, rfl⟩ := hc
    have d2 := c2.1
    have d6 := c2.2.1
    have h32 := p2_6 d6
    refine OK.f (nI_ne0 (by omega) (by omega)) ?_
    rw [n_sub1 (by omega), shl_at (by omega)]
    by_cases hin : inW (2 ^ (dl c - 1)) n2
    · have hin2 := hin
      obtain ⟨b, hb, rfl⟩ := hin
      refine OK.lt b 0 (by omega) (by omega) (fun q => by omega) (fun _ => ?_)
      refine OK.lt b (2 ^ (dl c - 1)) (by omega) (by omega) (fun _ => ?_) (fun q => by omega)
      refine OK.lt (pW P) 6 (by omega) (by omega) (fun hlt => ?_) (fun hge => OK.s ?_)
      · have hP' := adP_ok hP hlt c2 c1 hb
        refine OK.b4 (s_putAt (W := pW P) (v := pW P) (b := b) (by omega) hlt c2 c1 _ _ _) (fun z2 f3 f4 f5 hq => ?_)
        obtain ⟨q1, q2, q3, -⟩ := hq
        have q1 : z2 = nI (pW P + 1) := q1
        subst q1
        have hst' : stkR (adP P c b) (nI (pW P + 1)) (nI (pT P)) f3 f4 f5 b_stock_rules b_stock_hs := by
          refine ⟨rfl, rfl, fun w hw => ?_, s4⟩
          have hw : w < pW P + 1 := hw
          show f3 w = nI (upN (pL P) (pW P) c w) ∧ f4 w = nI (upN (pB P) (pW P) b w) ∧ f5 w = nI (dl (upN (pL P) (pW P) c w))
          by_cases e : w = pW P
          · subst e; rw [upN_s, upN_s]; exact q2
          · rw [upN_n _ _ e, upN_n _ _ e]
            obtain ⟨a1, a2, a3⟩ := q3 w (by omega)
            obtain ⟨b1, b2, b3⟩ := s3 w (by omega)
            exact ⟨a1.trans b1, a2.trans b2, a3.trans b3⟩
        refine OK.b5 (s_note hn 1 0 0 0 _ _ _ _) (fun z6 f7 f8 f9 f10 hw => ?_)
        obtain ⟨w1, w2, w3, w4, w5⟩ := hw
        refine OK.b13 (s_learnAnew hP' hln hst' _ _ _ _ _ _) (fun z11 z12 f13 f14 f15 f16 f17 f18 f19 f20 f21 z22 z23 hq => OK.s ?_)
        obtain ⟨l1, l2, l3⟩ := hq
        have hun : unR 1 0 0 0 (adP P c b) P := by
          refine Or.inl ⟨rfl, rfl, fun w hw => ?_, fun k _ _ => ⟨rfl, rfl⟩, rfl⟩
          show upN (pL P) (pW P) c w = pL P w ∧ upN (pB P) (pW P) b w = pB P w
          rw [upN_n _ _ (by omega), upN_n _ _ (by omega)]; exact ⟨rfl, rfl⟩
        refine OK.b1 (s_raf (nI c)) (fun r hr => ?_)
        rcases hr with ⟨-, -, rfl⟩ | ⟨hr, -⟩
        rotate_left
        · exact absurd hc' (hr c)
        refine OK.f (by decide) (OK.b1 (s_length c1) (fun r hr => ?_))
        subst hr
        rw [n_sub1 (by omega), shl_at (by omega)]
        refine OK.b1 (s_in0 (by omega) (nI b)) (fun r hr => ?_)
        rcases hr with ⟨-, rfl⟩ | ⟨hr, -⟩
        rotate_left
        · exact absurd hin2 hr
        refine OK.f (by decide) (OK.rd 0 rfl (by omega) ?_)
        rw [hp.1]
        refine OK.eq (pW P) 6 (by omega) (by omega) (fun q => by omega) (fun _ => ?_)
        refine OK.b2 (s_rNote hn m_book m_page) (fun z5 g6 hv => ?_)
        obtain ⟨v1, v2⟩ := hv
        refine OK.rd 0 rfl (by omega) ?_
        rw [hp.1]
        refine OK.st (1 + pW P) (nI_add 1 _) (by omega) ?_
        have a1 : upd m_page (1 + pW P) (nI c) 0 = nI (pW P) := (upd_n _ _ (by omega)).trans hp.1
        refine OK.rd 0 rfl (by omega) ?_
        rw [a1]
        refine OK.st (7 + pW P) (nI_add 7 _) (by omega) ?_
        have a2 : upd (upd m_page (1 + pW P) (nI c)) (7 + pW P) (nI b) 0 = nI (pW P) := (upd_n _ _ (by omega)).trans a1
        refine OK.rd 0 rfl (by omega) ?_
        rw [a2, nI_1]
        refine OK.st 0 rfl (by omega) (OK.rd 0 rfl (by omega) ?_)
        have hnp : pageR (adP P c b) (upd (upd (upd m_page (1 + pW P) (nI c)) (7 + pW P) (nI b)) 0 (nI (pW P + 1))) := by
          refine ⟨upd_s _ _ _, fun w hw => ?_, fun k hk => ?_, ?_⟩
          · have hw : w < pW P + 1 := hw
            show _ = nI (upN (pL P) (pW P) c w) ∧ _ = nI (upN (pB P) (pW P) b w)
            rw [upd_n _ _ (by omega), upd_n _ _ (by omega), upd_n (j := 7 + w) _ _ (by omega)]
            by_cases e : w = pW P
            · subst e; rw [upd_s, upd_s, upN_s, upN_s]; exact ⟨rfl, rfl⟩
            · rw [upd_n _ _ (by omega), upd_n (j := 7 + w) _ _ (by omega), upd_n (j := 7 + w) _ _ (by omega), upN_n _ _ e, upN_n _ _ e]; exact hp.2.1 w (by omega)
          · rw [upd_n _ _ (by omega), upd_n _ _ (by omega), upd_n _ _ (by omega), upd_n (j := 17 + k) _ _ (by omega), upd_n (j := 17 + k) _ _ (by omega), upd_n (j := 17 + k) _ _ (by omega)]; exact hp.2.2.1 k hk
          · rw [upd_n _ _ (by omega), upd_n _ _ (by omega), upd_n _ _ (by omega)]; exact hp.2.2.2
        refine OK.s ⟨hnp.1.symm, hT, ⟨adP P c b, nL n + 1, hP', hst', l1, Or.inl l2, Or.inl l3, w1, v1, hsR_note hhs hP hp w2 w3 w4 w5 v2 hun, hnp⟩, hS, hD, h0, h1⟩
      · refine OK.b1 (s_raf (nI c)) (fun r hr => ?_)
        rcases hr with ⟨-, -, rfl⟩ | ⟨hr, -⟩
        rotate_left
        · exact absurd hc' (hr c)
        refine OK.f (by decide) (OK.b1 (s_length c1) (fun r hr => ?_))
        subst hr
        rw [n_sub1 (by omega), shl_at (by omega)]
        refine OK.b1 (s_in0 (by omega) (nI b)) (fun r hr => ?_)
        rcases hr with ⟨-, rfl⟩ | ⟨hr, -⟩
        rotate_left
        · exact absurd hin2 hr
        refine OK.f (by decide) (OK.rd 0 rfl (by omega) ?_)
        rw [hp.1]
        exact OK.eq (pW P) 6 (by omega) (by omega) (fun q => OK.s ⟨rfl, hT, hG', hS, hD, h0, h1⟩) (fun q => by omega)
    · have ref : OK (m_X11_add 3000 (nI c) n2 m_thrown (nI n) m_page m_book) (fun v => v = (-2, 0, nI n, m_page, m_book)) := by
        unfold m_X11_add
        refine OK.b1 (s_raf (nI c)) (fun r hr => ?_)
        rcases hr with ⟨-, -, rfl⟩ | ⟨hr, -⟩
        rotate_left
        · exact absurd hc' (hr c)
        refine OK.f (by decide) (OK.b1 (s_length c1) (fun r hr => ?_))
        subst hr
        rw [n_sub1 (by omega), shl_at (by omega)]
        refine OK.b1 (s_in0 (by omega) n2) (fun r hr => ?_)
        rcases hr with ⟨hr, -⟩ | ⟨-, rfl⟩
        · exact absurd hr hin
        · exact OK.t rfl (OK.s rfl)
      unfold m_X11_add at ref
      refine OK.i (fun q => OK.s (ref.mono (fun v hv => ?_))) (fun q => OK.f (fun w => hin ((inW_le (by omega)).mpr ⟨Int32.not_lt.mp q, w⟩)) (OK.s (ref.mono (fun v hv => ?_))))
      · subst hv; exact ⟨rfl, hT, hG', hS, hD, h0, h1⟩
      · subst hv; exact ⟨rfl, hT, hG', hS, hD, h0, h1⟩
  · refine OK.t rfl (OK.s ?_)
    refine OK.b1 (s_raf n1) (fun r hr2 => ?_)
    rcases hr2 with ⟨c, hc, -⟩ | ⟨-, rfl⟩
    · exact absurd hc (hr c)
    · exact OK.t rfl (OK.s ⟨rfl, hT, hG', hS, hD, h0, h1⟩)
def drP (P : Pg) (w : Nat) : Pg := (pW P - 1, (fun v => if v < w then pL P v else pL P (v + 1)), (fun v => if v < w then pB P v else pB P (v + 1)), pR P, pH P, pT P)
theorem drP_ok {P : Pg} (hP : pgOK P) {w : Nat} (hw : w < pW P) : pgOK (drP P w) := by
  obtain ⟨h1, h2, h3, h4⟩ := hP
  have hW := h1.1
  refine ⟨⟨by show pW P - 1 ≤ 6; omega, fun v hv => ?_⟩, fun v hv => ?_, h3, h4⟩
  · have hv : v < pW P - 1 := hv
    show isW (if v < w then pL P v else pL P (v + 1)) ∧ (if v < w then pL P v else pL P (v + 1)) < _
    by_cases e : v < w
    · rw [if_pos e]; exact h1.2 v (by omega)
    · rw [if_neg e]; exact h1.2 (v + 1) (by omega)
  · have hv : v < pW P - 1 := hv
    show (if v < w then pB P v else pB P (v + 1)) < 2 ^ (dl (if v < w then pL P v else pL P (v + 1)) - 1)
    by_cases e : v < w
    · rw [if_pos e, if_pos e]; exact h2 v (by omega)
    · rw [if_neg e, if_neg e]; exact h2 (v + 1) (by omega)
theorem op_drop : St_drop Inv := by
  intro b_theSeed b_text_length b_text_signs b_stock_words b_stock_learnt b_stock_letters b_stock_breaks b_stock_sizes b_stock_rules b_stock_hs b_index_known b_index_size b_index_numbers b_index_codes b_index_fits b_index_starts b_index_signs b_learning_levels b_learning_good b_learning_bad b_learning_digits b_doings_count b_doings_kinds b_doings_wheres b_doings_firsts b_doings_seconds b_tree_count b_tree_end b_tree_packed b_tree_isNode b_tree_bases b_tree_slots b_seen_count b_seen_places b_seen_digits b_seen_hads b_judging_learning_levels b_judging_learning_good b_judging_learning_bad b_judging_learning_digits b_judging_tried_words b_judging_tried_learnt b_judging_tried_letters b_judging_tried_breaks b_judging_tried_sizes b_judging_tried_rules b_judging_tried_hs b_chances_valued b_chances_rights b_shelves_0_words b_shelves_0_learnt b_shelves_0_letters b_shelves_0_breaks b_shelves_0_sizes b_shelves_0_rules b_shelves_0_hs b_shelves_1_words b_shelves_1_learnt b_shelves_1_letters b_shelves_1_breaks b_shelves_1_sizes b_shelves_1_rules b_shelves_1_hs b_onShelf m_thrown m_textSize m_doings m_seen m_seed m_signMany m_whichMany m_whichFirst m_text m_readPage m_page m_trial m_book m_kept m_isKept m_seenPlace m_seenDigit m_seenIs m_plan m_good m_bad m_signs m_digits m_isNode m_base m_slot m_value hI n1
  refine fin_drop ?_
  obtain ⟨hT, hG, hS, hD, h0, h1⟩ := hI
  have hG' := hG
  obtain ⟨P, n, hP, hst, hln, htr, hch, rfl, rfl, hhs, hp⟩ := hG
  obtain ⟨rfl, rfl, s3, s4⟩ := hst
  have hW := hP.1.1
  have hn := hhs.1
  unfold m_X10_drop m_X11_drop
  refine OK.b1 (s_hasWord hW n1) (fun r hr => ?_)
  rcases hr with ⟨⟨w, hw, rfl⟩, rfl⟩ | ⟨hr, rfl⟩
  · have hP' := drP_ok hP hw
    refine OK.f (by decide) (OK.rd w rfl (by omega) (OK.rd w rfl (by omega) ?_))
    obtain ⟨e1, e2, -⟩ := s3 w hw
    rw [e1, e2]
    refine OK.b5 (s_note hn 2 (nI w) (nI (pL P w)) (nI (pB P w)) _ _ _ _) (fun z4 f5 f6 f7 f8 hq => ?_)
    obtain ⟨w1, w2, w3, w4, w5⟩ := hq
    refine OK.b4 (s_takeAt hw hW _ _ _) (fun z9 f10 f11 f12 hq => ?_)
    obtain ⟨q1, q2, q3⟩ := hq
    have q1 : z9 = nI (pW P - 1) := q1
    subst q1
    have hst' : stkR (drP P w) (nI (pW P - 1)) (nI (pT P)) f10 f11 f12 b_stock_rules b_stock_hs := by
      refine ⟨rfl, rfl, fun v hv => ?_, s4⟩
      have hv : v < pW P - 1 := hv
      show f10 v = nI (if v < w then pL P v else pL P (v + 1)) ∧ f11 v = nI (if v < w then pB P v else pB P (v + 1)) ∧ f12 v = nI (dl (if v < w then pL P v else pL P (v + 1)))
      by_cases e : v < w
      · rw [if_pos e, if_pos e]
        obtain ⟨a1, a2, a3⟩ := q2 v e
        obtain ⟨b1, b2, b3⟩ := s3 v (by omega)
        exact ⟨a1.trans b1, a2.trans b2, a3.trans b3⟩
      · rw [if_neg e, if_neg e]
        obtain ⟨a1, a2, a3⟩ := q3 v (by omega) (by omega)
        obtain ⟨b1, b2, b3⟩ := s3 (v + 1) (by omega)
        exact ⟨a1.trans b1, a2.trans b2, a3.trans b3⟩
    refine OK.b13 (s_learnAnew hP' hln hst' _ _ _ _ _ _) (fun z11 z12 f13 f14 f15 f16 f17 f18 f19 f20 f21 z22 z23 hq => OK.s ?_)
    obtain ⟨l1, l2, l3⟩ := hq
    have hun : unR 2 (nI w) (nI (pL P w)) (nI (pB P w)) (drP P w) P := by
      refine Or.inr (Or.inl ⟨rfl, w, rfl, by show w ≤ pW P - 1; omega, by show pW P = pW P - 1 + 1; omega, rfl, rfl, fun v hv => ?_, fun v h1 h2 => ?_, fun k _ _ => ⟨rfl, rfl⟩, rfl⟩)
      · show (if v < w then pL P v else pL P (v + 1)) = _ ∧ (if v < w then pB P v else pB P (v + 1)) = _
        rw [if_pos hv, if_pos hv]; exact ⟨rfl, rfl⟩
      · show (if v < w then pL P v else pL P (v + 1)) = _ ∧ (if v < w then pB P v else pB P (v + 1)) = _
        rw [if_neg (by omega), if_neg (by omega)]; exact ⟨rfl, rfl⟩
    refine OK.b1 (s_noWord hP hp (nI w)) (fun r hr => ?_)
    rcases hr with ⟨-, rfl⟩ | ⟨hr, -⟩
    rotate_left
    · exact absurd ⟨w, hw, rfl⟩ hr
    refine OK.t rfl (OK.b2 (s_rNote hn m_book m_page) (fun z5 g6 hv => ?_))
    obtain ⟨v1, v2⟩ := hv
    refine OK.rd (1 + w) (nI_add 1 w) (by omega) (OK.rd 0 rfl (by omega) ?_)
    rw [(hp.2.1 w hw).1, hp.1, n_sub1 (by omega)]
    refine OK.st 0 rfl (by omega) ?_
    refine OK.w2 (fun t x g => x = nI (w + t) ∧ g 0 = nI (pW P - 1) ∧ (∀ v, v < w → g (1 + v) = nI (pL P v) ∧ g (7 + v) = nI (pB P v)) ∧ (∀ v, w ≤ v → v < w + t → g (1 + v) = nI (pL P (v + 1)) ∧ g (7 + v) = nI (pB P (v + 1))) ∧ (∀ v, w + t ≤ v → v < pW P → g (1 + v) = nI (pL P v) ∧ g (7 + v) = nI (pB P v)) ∧ ∀ j, 13 ≤ j → g j = m_page j) (pW P - 1 - w) ?_ (by omega) ⟨rfl, upd_s _ _ _, fun v hv => ?_, fun v h1 h2 => by omega, fun v h1 h2 => ?_, fun j hj => upd_n _ _ (by omega)⟩
    rotate_left
    · rw [upd_n _ _ (by omega), upd_n (j := 7 + v) _ _ (by omega)]; exact hp.2.1 v (by omega)
    · rw [upd_n _ _ (by omega), upd_n (j := 7 + v) _ _ (by omega)]; exact hp.2.1 v h2
    rintro t x g k ⟨rfl, b0, b1, b2, b3, b4⟩ ht hk
    refine OK.rd 0 rfl (by omega) ?_
    rw [b0]
    refine OK.le (pW P - 1) (w + t) (by omega) (by omega) (fun e => ?_) (fun e => ?_)
    · refine OK.s ⟨rfl, hT, ⟨drP P w, nL n + 1, hP', hst', l1, Or.inl l2, Or.inl l3, w1, v1, hsR_note hhs hP hp w2 w3 w4 w5 v2 hun, ?_⟩, hS, hD, h0, h1⟩
      refine ⟨b0, fun v hv => ?_, fun k hk => ⟨(b4 _ (by omega)).trans (hp.2.2.1 k hk).1, (b4 _ (by omega)).trans (hp.2.2.1 k hk).2⟩, (b4 21 (by omega)).trans hp.2.2.2⟩
      have hv : v < pW P - 1 := hv
      show g (1 + v) = nI (if v < w then pL P v else pL P (v + 1)) ∧ g (7 + v) = nI (if v < w then pB P v else pB P (v + 1))
      by_cases e : v < w
      · rw [if_pos e, if_pos e]; exact b1 v e
      · rw [if_neg e, if_neg e]; exact b2 v (by omega) (by omega)
    · have e1 : (1 : Int32) + nI (w + t) + 1 = nI (1 + (w + t + 1)) := by
        rw [show (1 : Int32) + nI (w + t) = nI (1 + (w + t)) from nI_add 1 _, nI_1]; congr 1
      have e7 : (7 : Int32) + nI (w + t) + 1 = nI (7 + (w + t + 1)) := by
        rw [show (7 : Int32) + nI (w + t) = nI (7 + (w + t)) from nI_add 7 _, nI_1]; congr 1
      rw [e1, e7]
      obtain ⟨c1, c2⟩ := b3 (w + t + 1) (by omega) (by omega)
      refine OK.rd _ rfl (by omega) (OK.st (1 + (w + t)) (nI_add 1 _) (by omega) (OK.rd _ rfl (by omega) (OK.st (7 + (w + t)) (nI_add 7 _) (by omega) ?_)))
      rw [c1, upd_n (j := 7 + (w + t + 1)) _ _ (by omega), c2]
      refine hk (by omega) _ _ ⟨nI_1 _, ?_, fun v hv => ?_, fun v h1 h2 => ?_, fun v h1 h2 => ?_, fun j hj => ?_⟩
      · rw [upd_n _ _ (by omega), upd_n _ _ (by omega)]; exact b0
      · rw [upd_n _ _ (by omega), upd_n _ _ (by omega), upd_n (j := 7 + v) _ _ (by omega), upd_n (j := 7 + v) _ _ (by omega)]; exact b1 v hv
      · by_cases e : v = w + t
        · subst e
          rw [upd_n _ _ (by omega), upd_s, upd_s]; exact ⟨rfl, rfl⟩
        · rw [upd_n _ _ (by omega), upd_n _ _ (by omega), upd_n (j := 7 + v) _ _ (by omega), upd_n (j := 7 + v) _ _ (by omega)]; exact b2 v h1 (by omega)
      · rw [upd_n _ _ (by omega), upd_n _ _ (by omega), upd_n (j := 7 + v) _ _ (by omega), upd_n (j := 7 + v) _ _ (by omega)]; exact b3 v (by omega) h2
      · rw [upd_n _ _ (by omega), upd_n _ _ (by omega)]; exact b4 j hj
  · refine OK.t rfl (OK.s ?_)
    refine OK.b1 (s_noWord hP hp n1) (fun r hr2 => ?_)
    rcases hr2 with ⟨hr2, -⟩ | ⟨-, rfl⟩
    · exact absurd hr2 hr
    · exact OK.f (by decide) (OK.s ⟨rfl, hT, hG', hS, hD, h0, h1⟩)
theorem op_turn : St_turn Inv := by
  intro b_theSeed b_text_length b_text_signs b_stock_words b_stock_learnt b_stock_letters b_stock_breaks b_stock_sizes b_stock_rules b_stock_hs b_index_known b_index_size b_index_numbers b_index_codes b_index_fits b_index_starts b_index_signs b_learning_levels b_learning_good b_learning_bad b_learning_digits b_doings_count b_doings_kinds b_doings_wheres b_doings_firsts b_doings_seconds b_tree_count b_tree_end b_tree_packed b_tree_isNode b_tree_bases b_tree_slots b_seen_count b_seen_places b_seen_digits b_seen_hads b_judging_learning_levels b_judging_learning_good b_judging_learning_bad b_judging_learning_digits b_judging_tried_words b_judging_tried_learnt b_judging_tried_letters b_judging_tried_breaks b_judging_tried_sizes b_judging_tried_rules b_judging_tried_hs b_chances_valued b_chances_rights b_shelves_0_words b_shelves_0_learnt b_shelves_0_letters b_shelves_0_breaks b_shelves_0_sizes b_shelves_0_rules b_shelves_0_hs b_shelves_1_words b_shelves_1_learnt b_shelves_1_letters b_shelves_1_breaks b_shelves_1_sizes b_shelves_1_rules b_shelves_1_hs b_onShelf m_thrown m_textSize m_doings m_seen m_seed m_signMany m_whichMany m_whichFirst m_text m_readPage m_page m_trial m_book m_kept m_isKept m_seenPlace m_seenDigit m_seenIs m_plan m_good m_bad m_signs m_digits m_isNode m_base m_slot m_value hI n1 n2
  refine fin_turn ?_
  obtain ⟨hT, hG, hS, hD, h0, h1⟩ := hI
  have hG' := hG
  obtain ⟨P, n, hP, hst, hln, htr, hch, rfl, rfl, hhs, hp⟩ := hG
  obtain ⟨rfl, rfl, s3, s4⟩ := hst
  have hW := hP.1.1
  have hn := hhs.1
  have hsz : ∀ w, w < pW P → b_stock_sizes w = nI (dl (pL P w)) := fun w hw => (s3 w hw).2.2
  unfold m_X10_turn m_X11_turn
  refine OK.b1 (s_hasPlace hP.1 hsz n1 n2) (fun r hr => ?_)
  rcases hr with ⟨⟨w, p, hw, rfl, hpl, rfl⟩, rfl⟩ | ⟨hr, rfl⟩
  · obtain ⟨ok, d2, d6⟩ := hP.1.w hw
    have hP' := fxP_ok hP hw hpl
    have hB := hP.b hw
    have hB' : pB P w ^^^ 2 ^ p < 32 := by
      have := hP'.b (w := w) hw
      have : (if w = w then pB P w ^^^ 2 ^ p else pB P w) < 32 := this
      rw [if_pos rfl] at this; exact this
    refine OK.f (by decide) (OK.b1 (s_flip hP.1 hsz hw hpl (s3 w hw).2.1 hB) (fun f2 hf2 => ?_))
    subst hf2
    refine OK.b5 (s_note hn 3 (nI w) (nI p) 0 _ _ _ _) (fun z4 f5 f6 f7 f8 hq => ?_)
    obtain ⟨w1, w2, w3, w4, w5⟩ := hq
    have hst' : stkR (fxP P w p) (nI (pW P)) (nI (pT P)) b_stock_letters (upd b_stock_breaks w (nI (pB P w ^^^ 2 ^ p))) b_stock_sizes b_stock_rules b_stock_hs := by
      refine ⟨rfl, rfl, fun v hv => ⟨(s3 v hv).1, ?_, (s3 v hv).2.2⟩, s4⟩
      show _ = nI (if v = w then pB P v ^^^ 2 ^ p else pB P v)
      by_cases e : v = w
      · subst e; rw [upd_s, if_pos rfl]
      · rw [upd_n _ _ e, if_neg e]; exact (s3 v hv).2.1
    refine OK.b13 (s_learnAnew hP' hln hst' _ _ _ _ _ _) (fun z11 z12 f13 f14 f15 f16 f17 f18 f19 f20 f21 z22 z23 hq => OK.rd w rfl (by omega) (OK.s ?_))
    obtain ⟨l1, l2, l3⟩ := hq
    rw [upd_s, bit_at (by omega) (by omega)]
    have hun : unR 3 (nI w) (nI p) 0 (fxP P w p) P := Or.inr (Or.inr (Or.inl ⟨rfl, w, p, rfl, rfl, hw, hpl, rfl, fun v hv => ⟨rfl, rfl⟩, fun k _ _ => ⟨rfl, rfl⟩, rfl⟩))
    refine OK.b1 (s_noPlace hP hp (nI w) (nI p)) (fun r hr => ?_)
    rcases hr with ⟨-, rfl⟩ | ⟨hr, -⟩
    rotate_left
    · exact absurd ⟨w, p, hw, rfl, hpl, rfl⟩ hr
    refine OK.t rfl (OK.b2 (s_rNote hn m_book m_page) (fun z5 g6 hv => ?_))
    obtain ⟨v1, v2⟩ := hv
    refine OK.rd (7 + w) (nI_add 7 w) (by omega) ?_
    rw [(hp.2.1 w hw).2, shl_at (by omega), n_xor p (by omega) _ hB]
    refine OK.st (7 + w) (nI_add 7 w) (by omega) (OK.rd (7 + w) (nI_add 7 w) (by omega) ?_)
    rw [upd_s]
    refine OK.b1 (s_has (by omega) (by omega)) (fun r hr => ?_)
    subst hr
    have hnp : pageR (fxP P w p) (upd m_page (7 + w) (nI (pB P w ^^^ 2 ^ p))) := by
      refine ⟨(upd_n _ _ (by omega)).trans hp.1, fun v hv => ⟨?_, ?_⟩, fun k hk => ⟨(upd_n _ _ (by omega)).trans (hp.2.2.1 k hk).1, (upd_n _ _ (by omega)).trans (hp.2.2.1 k hk).2⟩, (upd_n _ _ (by omega)).trans hp.2.2.2⟩
      · have hv : v < pW P := hv
        exact (upd_n _ _ (by omega)).trans (hp.2.1 v hv).1
      · have hv : v < pW P := hv
        show _ = nI (if v = w then pB P v ^^^ 2 ^ p else pB P v)
        by_cases e : v = w
        · subst e; rw [upd_s, if_pos rfl]
        · rw [upd_n _ _ (by omega), if_neg e]; exact (hp.2.1 v hv).2
    refine OK.eq _ 0 (by omega) (by omega) (fun e => OK.s ⟨by rw [e]; rfl, hT, ⟨fxP P w p, nL n + 1, hP', hst', l1, Or.inl l2, Or.inl l3, w1, v1, hsR_note hhs hP hp w2 w3 w4 w5 v2 hun, hnp⟩, hS, hD, h0, h1⟩) (fun e => OK.s ⟨?_, hT, ⟨fxP P w p, nL n + 1, hP', hst', l1, Or.inl l2, Or.inl l3, w1, v1, hsR_note hhs hP hp w2 w3 w4 w5 v2 hun, hnp⟩, hS, hD, h0, h1⟩)
    rw [show (pB P w ^^^ 2 ^ p) / 2 ^ p % 2 = 1 by omega]; rfl
  · refine OK.t rfl (OK.s ?_)
    refine OK.b1 (s_noPlace hP hp n1 n2) (fun r hr2 => ?_)
    rcases hr2 with ⟨hr2, -⟩ | ⟨-, rfl⟩
    · exact absurd hr2 hr
    · exact OK.f (by decide) (OK.s ⟨rfl, hT, hG', hS, hD, h0, h1⟩)
theorem op_rule : St_rule Inv := by
  intro b_theSeed b_text_length b_text_signs b_stock_words b_stock_learnt b_stock_letters b_stock_breaks b_stock_sizes b_stock_rules b_stock_hs b_index_known b_index_size b_index_numbers b_index_codes b_index_fits b_index_starts b_index_signs b_learning_levels b_learning_good b_learning_bad b_learning_digits b_doings_count b_doings_kinds b_doings_wheres b_doings_firsts b_doings_seconds b_tree_count b_tree_end b_tree_packed b_tree_isNode b_tree_bases b_tree_slots b_seen_count b_seen_places b_seen_digits b_seen_hads b_judging_learning_levels b_judging_learning_good b_judging_learning_bad b_judging_learning_digits b_judging_tried_words b_judging_tried_learnt b_judging_tried_letters b_judging_tried_breaks b_judging_tried_sizes b_judging_tried_rules b_judging_tried_hs b_chances_valued b_chances_rights b_shelves_0_words b_shelves_0_learnt b_shelves_0_letters b_shelves_0_breaks b_shelves_0_sizes b_shelves_0_rules b_shelves_0_hs b_shelves_1_words b_shelves_1_learnt b_shelves_1_letters b_shelves_1_breaks b_shelves_1_sizes b_shelves_1_rules b_shelves_1_hs b_onShelf m_thrown m_textSize m_doings m_seen m_seed m_signMany m_whichMany m_whichFirst m_text m_readPage m_page m_trial m_book m_kept m_isKept m_seenPlace m_seenDigit m_seenIs m_plan m_good m_bad m_signs m_digits m_isNode m_base m_slot m_value hI n1 n2 n3
  refine fin_rule ?_
  obtain ⟨hT, hG, hS, hD, h0, h1⟩ := hI
  have hG' := hG
  obtain ⟨P, n, hP, hst, hln, htr, hch, rfl, rfl, hhs, hp⟩ := hG
  obtain ⟨rfl, rfl, s3, s4⟩ := hst
  have hW := hP.1.1
  have hn := hhs.1
  unfold m_X10_rule m_X11_rule
  refine OK.b1 (s_isLevel n1) (fun r hr => ?_)
  rcases hr with ⟨⟨k, k1, k4, rfl⟩, rfl⟩ | ⟨hr, rfl⟩
  · refine OK.f (by decide) (OK.b1 (s_isRule n2 n3) (fun r hr => ?_))
    rcases hr with ⟨⟨a, a0, a2, rfl⟩, ⟨b, b1, b9, rfl⟩, rfl⟩ | ⟨hr, rfl⟩
    · have hP' := rlP_ok (k := k) hP a2 b1 b9
      refine OK.f (by decide) (OK.rd k rfl (by omega) (OK.rd k rfl (by omega) ?_))
      rw [(s4 k k1 k4).1, (s4 k k1 k4).2]
      refine OK.b5 (s_note hn 4 (nI k) (nI (pR P k)) (nI (pH P k)) _ _ _ _) (fun z4 f5 f6 f7 f8 hq => ?_)
      obtain ⟨w1, w2, w3, w4, w5⟩ := hq
      refine OK.b2 (s_setRule k1 k4 _ _ _ _) (fun f10 f11 hq => ?_)
      obtain ⟨q1, q2⟩ := hq
      have q1 : f10 = _ := q1
      have q2 : f11 = _ := q2
      subst q1 q2
      have hst' : stkR (rlP P k a b) (nI (pW P)) (nI (pT P)) b_stock_letters b_stock_breaks b_stock_sizes (upd b_stock_rules k (nI a)) (upd b_stock_hs k (nI b)) := by
        refine ⟨rfl, rfl, s3, fun j h1 h4 => ?_⟩
        show _ = nI (upN (pR P) k a j) ∧ _ = nI (upN (pH P) k b j)
        by_cases e : j = k
        · subst e; rw [upd_s, upd_s, upN_s, upN_s]; exact ⟨rfl, rfl⟩
        · rw [upd_n _ _ e, upd_n _ _ e, upN_n _ _ e, upN_n _ _ e]; exact s4 j h1 h4
      refine OK.b13 (s_learnAnew hP' hln hst' _ _ _ _ _ _) (fun z11 z12 f13 f14 f15 f16 f17 f18 f19 f20 f21 z22 z23 hq => ?_)
      obtain ⟨l1, l2, l3⟩ := hq
      have l1' := l1
      obtain ⟨m', cd', st', n', x', j', d'⟩ := l1'
      refine OK.b1 (s_rightPlaces hP' (plS_4 hP' 63) rfl d' (fun w hw => (s3 w hw).2.2) (fun w hw => (s3 w hw).2.1)) (fun r hr => OK.s ?_)
      have hun : unR 4 (nI k) (nI (pR P k)) (nI (pH P k)) (rlP P k a b) P := by
        refine Or.inr (Or.inr (Or.inr (Or.inl ⟨rfl, k, k1, k4, rfl, rfl, rfl, ⟨rfl, fun w _ => ⟨rfl, rfl⟩⟩, fun j h1 h4 e => ?_, rfl⟩)))
        exact ⟨upN_n _ _ e, upN_n _ _ e⟩
      refine OK.b1 (s_inB (a := 1) (b := 4) (by omega) (by omega) (nI k)) (fun r hr => ?_)
      rcases hr with ⟨-, rfl⟩ | ⟨hr, -⟩
      rotate_left
      · exact absurd ⟨k, k1, k4, rfl⟩ hr
      refine OK.f (by decide) (OK.b1 (s_inB (a := 0) (b := 2) (by omega) (by omega) (nI a)) (fun r hr => ?_))
      rcases hr with ⟨-, rfl⟩ | ⟨hr, -⟩
      rotate_left
      · exact absurd ⟨a, a0, a2, rfl⟩ hr
      refine OK.f (by decide) (OK.b1 (s_inB (a := 1) (b := 9) (by omega) (by omega) (nI b)) (fun r hr => ?_))
      rcases hr with ⟨-, rfl⟩ | ⟨hr, -⟩
      rotate_left
      · exact absurd ⟨b, b1, b9, rfl⟩ hr
      refine OK.f (by decide) (OK.b2 (s_rNote hn m_book m_page) (fun z5 g6 hv => ?_))
      obtain ⟨v1, v2⟩ := hv
      have e13 : (13 : Int32) + nI k - 1 = nI (13 + (k - 1)) := by
        rw [show (13 : Int32) = nI 13 from rfl, nI_add, n_sub1 (by omega)]; congr 1; omega
      have e17 : (17 : Int32) + nI k - 1 = nI (17 + (k - 1)) := by
        rw [show (17 : Int32) = nI 17 from rfl, nI_add, n_sub1 (by omega)]; congr 1; omega
      rw [e13, e17]
      refine OK.st _ rfl (by omega) (OK.st _ rfl (by omega) ?_)
      have hnp : pageR (rlP P k a b) (upd (upd m_page (13 + (k - 1)) (nI a)) (17 + (k - 1)) (nI b)) := by
        refine ⟨(upd_n _ _ (by omega)).trans ((upd_n _ _ (by omega)).trans hp.1), fun v hv => ⟨?_, ?_⟩, fun j hj => ⟨?_, ?_⟩, (upd_n _ _ (by omega)).trans ((upd_n _ _ (by omega)).trans hp.2.2.2)⟩
        · have hv : v < pW P := hv
          exact (upd_n _ _ (by omega)).trans ((upd_n _ _ (by omega)).trans (hp.2.1 v hv).1)
        · have hv : v < pW P := hv
          exact (upd_n _ _ (by omega)).trans ((upd_n _ _ (by omega)).trans (hp.2.1 v hv).2)
        · show _ = nI (upN (pR P) k a (j + 1))
          rw [upd_n _ _ (by omega)]
          by_cases e : j + 1 = k
          · rw [show j = k - 1 by omega, upd_s, show k - 1 + 1 = k by omega, upN_s]
          · rw [upd_n _ _ (by omega), upN_n _ _ e]; exact (hp.2.2.1 j hj).1
        · show _ = nI (upN (pH P) k b (j + 1))
          by_cases e : j + 1 = k
          · rw [show j = k - 1 by omega, upd_s, show k - 1 + 1 = k by omega, upN_s]
          · rw [upd_n _ _ (by omega), upd_n _ _ (by omega), upN_n _ _ e]; exact (hp.2.2.1 j hj).2
      refine OK.b6 (s_learnAll hP' hnp _ _ _ _ _ _) (fun y1 y2 y3 y4 y5 y6 hy => ?_)
      refine OK.b1 (s_rightOfAll hP' hnp (plS_4 hP' 63) hy.2) (fun r' hr' => OK.s ⟨hr.trans hr'.symm, hT, ⟨rlP P k a b, nL n + 1, hP', hst', l1, Or.inl l2, Or.inl l3, w1, v1, hsR_note hhs hP hp w2 w3 w4 w5 v2 hun, hnp⟩, hS, hD, h0, h1⟩)
    · refine OK.t rfl (OK.s ?_)
      refine OK.b1 (s_inB (a := 1) (b := 4) (by omega) (by omega) (nI k)) (fun r hr2 => ?_)
      rcases hr2 with ⟨-, rfl⟩ | ⟨hr2, -⟩
      rotate_left
      · exact absurd ⟨k, k1, k4, rfl⟩ hr2
      refine OK.f (by decide) (OK.b1 (s_inB (a := 0) (b := 2) (by omega) (by omega) n2) (fun r hr2 => ?_))
      rcases hr2 with ⟨x1, rfl⟩ | ⟨-, rfl⟩
      · refine OK.f (by decide) (OK.b1 (s_inB (a := 1) (b := 9) (by omega) (by omega) n3) (fun r hr2 => ?_))
        rcases hr2 with ⟨x2, -⟩ | ⟨-, rfl⟩
        · exact absurd ⟨x1, x2⟩ hr
        · exact OK.t rfl (OK.s ⟨rfl, hT, hG', hS, hD, h0, h1⟩)
      · exact OK.t rfl (OK.s ⟨rfl, hT, hG', hS, hD, h0, h1⟩)
  · refine OK.t rfl (OK.s ?_)
    refine OK.b1 (s_inB (a := 1) (b := 4) (by omega) (by omega) n1) (fun r hr2 => ?_)
    rcases hr2 with ⟨hr2, -⟩ | ⟨-, rfl⟩
    · exact absurd hr2 hr
    · exact OK.t rfl (OK.s ⟨rfl, hT, hG', hS, hD, h0, h1⟩)
theorem op_study : St_study Inv := by
  intro b_theSeed b_text_length b_text_signs b_stock_words b_stock_learnt b_stock_letters b_stock_breaks b_stock_sizes b_stock_rules b_stock_hs b_index_known b_index_size b_index_numbers b_index_codes b_index_fits b_index_starts b_index_signs b_learning_levels b_learning_good b_learning_bad b_learning_digits b_doings_count b_doings_kinds b_doings_wheres b_doings_firsts b_doings_seconds b_tree_count b_tree_end b_tree_packed b_tree_isNode b_tree_bases b_tree_slots b_seen_count b_seen_places b_seen_digits b_seen_hads b_judging_learning_levels b_judging_learning_good b_judging_learning_bad b_judging_learning_digits b_judging_tried_words b_judging_tried_learnt b_judging_tried_letters b_judging_tried_breaks b_judging_tried_sizes b_judging_tried_rules b_judging_tried_hs b_chances_valued b_chances_rights b_shelves_0_words b_shelves_0_learnt b_shelves_0_letters b_shelves_0_breaks b_shelves_0_sizes b_shelves_0_rules b_shelves_0_hs b_shelves_1_words b_shelves_1_learnt b_shelves_1_letters b_shelves_1_breaks b_shelves_1_sizes b_shelves_1_rules b_shelves_1_hs b_onShelf m_thrown m_textSize m_doings m_seen m_seed m_signMany m_whichMany m_whichFirst m_text m_readPage m_page m_trial m_book m_kept m_isKept m_seenPlace m_seenDigit m_seenIs m_plan m_good m_bad m_signs m_digits m_isNode m_base m_slot m_value hI
  refine fin_study ?_
  obtain ⟨hT, hG, hS, hD, h0, h1⟩ := hI
  have hG' := hG
  obtain ⟨P, n, hP, hst, hln, htr, hch, rfl, rfl, hhs, hp⟩ := hG
  obtain ⟨rfl, rfl, s3, s4⟩ := hst
  have hW := hP.1.1
  have hTt := hP.2.2.2
  have hn := hhs.1
  unfold m_X10_study m_X11_study
  refine OK.lt (pT P) 4 (by omega) (by omega) (fun hlt => OK.l ?_) (fun hge => OK.s ?_)
  · have hP' := sdP_ok hP hlt
    rw [nI_1]
    refine OK.b5 (s_note hn 5 0 0 0 _ _ _ _) (fun z4 f5 f6 f7 f8 hq => ?_)
    obtain ⟨w1, w2, w3, w4, w5⟩ := hq
    have hst' : stkR (sdP P) (nI (pW P)) (nI (pT P + 1)) b_stock_letters b_stock_breaks b_stock_sizes b_stock_rules b_stock_hs := ⟨rfl, rfl, s3, s4⟩
    refine OK.b13 (s_learnAnew hP' hln hst' _ _ _ _ _ _) (fun z11 z12 f13 f14 f15 f16 f17 f18 f19 f20 f21 z22 z23 hq => ?_)
    obtain ⟨l1, l2, l3⟩ := hq
    have l1' := l1
    obtain ⟨m', cd', st', n', x', j', d'⟩ := l1'
    refine OK.b1 (c_countOf n' x' hP'.2.2.2 j' (lev := pT P + 1) (by omega) (by omega)) (fun r hr => OK.s ?_)
    have hun : unR 5 0 0 0 (sdP P) P := Or.inr (Or.inr (Or.inr (Or.inr ⟨rfl, rfl, ⟨rfl, fun w _ => ⟨rfl, rfl⟩⟩, fun k _ _ => ⟨rfl, rfl⟩⟩)))
    refine OK.rd 21 rfl (by omega) ?_
    rw [hp.2.2.2]
    refine OK.eq (pT P) 4 (by omega) (by omega) (fun q => by omega) (fun _ => ?_)
    refine OK.b2 (s_rNote hn m_book m_page) (fun z5 g6 hv => ?_)
    obtain ⟨v1, v2⟩ := hv
    refine OK.rd 21 rfl (by omega) ?_
    rw [hp.2.2.2, nI_1]
    refine OK.st 21 rfl (by omega) ?_
    have hu : ∀ j, j ≠ 21 → upd m_page 21 (nI (pT P + 1)) j = m_page j := fun j h => upd_n _ _ h
    have hus : upd m_page 21 (nI (pT P + 1)) 21 = nI (pT P + 1) := upd_s _ _ _
    have hnp : pageR (sdP P) (upd m_page 21 (nI (pT P + 1))) := by
      refine ⟨(hu 0 (by omega)).trans hp.1, fun v hv => ?_, fun k hk => ⟨(hu _ (by omega)).trans (hp.2.2.1 k hk).1, (hu _ (by omega)).trans (hp.2.2.1 k hk).2⟩, hus⟩
      have hv : v < pW P := hv
      exact ⟨(hu _ (by omega)).trans (hp.2.1 v hv).1, (hu _ (by omega)).trans (hp.2.1 v hv).2⟩
    refine OK.b6 (s_learnAll hP' hnp _ _ _ _ _ _) (fun y1 y2 y3 y4 y5 y6 hy => ?_)
    refine OK.rd 21 rfl (by omega) ?_
    rw [hus]
    refine OK.b1 (s_patternsOf hy.1 (plS_4 hP' 63) (lev := pT P + 1) (by omega)) (fun r' hr' => OK.s ⟨?_, hT, ⟨sdP P, nL n + 1, hP', hst', l1, Or.inl l2, Or.inl l3, w1, v1, hsR_note hhs hP hp w2 w3 w4 w5 v2 hun, hnp⟩, hS, hD, h0, h1⟩)
    rw [if_neg (by omega)] at hr'
    exact hr.trans hr'.symm
  · refine OK.rd 21 rfl (by omega) ?_
    rw [hp.2.2.2]
    exact OK.eq (pT P) 4 (by omega) (by omega) (fun q => OK.s ⟨rfl, hT, hG', hS, hD, h0, h1⟩) (fun q => by omega)
theorem op_undo : St_undo Inv := by
  intro b_theSeed b_text_length b_text_signs b_stock_words b_stock_learnt b_stock_letters b_stock_breaks b_stock_sizes b_stock_rules b_stock_hs b_index_known b_index_size b_index_numbers b_index_codes b_index_fits b_index_starts b_index_signs b_learning_levels b_learning_good b_learning_bad b_learning_digits b_doings_count b_doings_kinds b_doings_wheres b_doings_firsts b_doings_seconds b_tree_count b_tree_end b_tree_packed b_tree_isNode b_tree_bases b_tree_slots b_seen_count b_seen_places b_seen_digits b_seen_hads b_judging_learning_levels b_judging_learning_good b_judging_learning_bad b_judging_learning_digits b_judging_tried_words b_judging_tried_learnt b_judging_tried_letters b_judging_tried_breaks b_judging_tried_sizes b_judging_tried_rules b_judging_tried_hs b_chances_valued b_chances_rights b_shelves_0_words b_shelves_0_learnt b_shelves_0_letters b_shelves_0_breaks b_shelves_0_sizes b_shelves_0_rules b_shelves_0_hs b_shelves_1_words b_shelves_1_learnt b_shelves_1_letters b_shelves_1_breaks b_shelves_1_sizes b_shelves_1_rules b_shelves_1_hs b_onShelf m_thrown m_textSize m_doings m_seen m_seed m_signMany m_whichMany m_whichFirst m_text m_readPage m_page m_trial m_book m_kept m_isKept m_seenPlace m_seenDigit m_seenIs m_plan m_good m_bad m_signs m_digits m_isNode m_base m_slot m_value hI
  refine fin_undo ?_
  obtain ⟨hT, hG, hS, hD, h0, h1⟩ := hI
  have hG' := hG
  obtain ⟨P, n, hP, hst, hln, htr, hch, rfl, rfl, hhs, hp⟩ := hG
  unfold m_X10_undo m_X11_undo
  have hn := hhs.1
  refine OK.eq n 0 (by omega) (by omega) (fun e => OK.s ?_) (fun e => ?_)
  · exact OK.t (by rw [e]; rfl) (OK.s ⟨rfl, hT, hG', hS, hD, h0, h1⟩)
  obtain ⟨-, Q, hQ, hi⟩ := hhs
  cases n with
  | zero => exact absurd rfl e
  | succ c =>
    obtain ⟨g1, g2, g3⟩ := hi c (by omega)
    rw [hQ] at g3
    refine OK.b8 (s_takeBack hP g1 hst (by omega) g3) (fun z1 z2 z3 f4 f5 f6 f7 f8 hq => ?_)
    obtain ⟨q1, q2⟩ := hq
    have q1 : z1 = nI c := q1
    subst q1
    have q2 : stkR (Q c) z2 z3 f8 f7 f6 f4 f5 := q2
    refine OK.b13 (s_learnAnew g1 hln q2 _ _ _ _ _ _) (fun z11 z12 f13 f14 f15 f16 f17 f18 f19 f20 f21 z22 z23 hq => OK.s ?_)
    obtain ⟨l1, l2, l3⟩ := hq
    refine OK.f (nI_ne0 (by omega) (by omega)) (OK.l ?_)
    rw [nI_pred]
    refine OK.w2 (fun t x g => x = nI t ∧ ∀ k, k < t → g k = m_book (22 * c + k)) 22 ?_ (by omega) ⟨rfl, fun k hk => absurd hk (Nat.not_lt_zero _)⟩
    rintro t x g k ⟨rfl, a1⟩ ht hk
    refine OK.le 22 t (by omega) (by omega) (fun q => OK.s ⟨rfl, hT, ⟨Q c, c, g1, q2, l1, Or.inl l2, Or.inl l3, rfl, rfl, ⟨by omega, Q, rfl, fun i h => hi i (by omega)⟩, g2.c g1 (by rw [show t = 22 by omega] at a1; exact a1)⟩, hS, hD, h0, h1⟩) (fun q => ?_)
    refine OK.rd (22 * c + t) (by rw [show (22 : Int32) = nI 22 from rfl, pk_mul, nI_add]) (by omega) (OK.st t rfl q ?_)
    refine hk q _ _ ⟨nI_1 t, fun j hj => ?_⟩
    by_cases w : j = t
    · subst w; exact upd_s _ _ _
    · rw [upd_n _ _ w]; exact a1 j (by omega)
theorem s_rAgain {Q : Pg} (hQ : pgOK Q) {i : Nat} (hi : i ≤ 1) {isK kept : Nat → Int32} (hk1 : isK i = 1) (hk : pageR Q (fun k => kept (22 * i + k))) (th dg : Int32) (page : Nat → Int32) : OK (m_X11_again 3000 (nI i) th dg isK page kept) (fun v => v.1 = nI (pW Q) ∧ v.2.2.1 = nI 0 ∧ pageR Q v.2.2.2) := by
  unfold m_X11_again
  refine OK.b1 (s_inB (a := 0) (b := 1) (by omega) (by omega) (nI i)) (fun r hr => ?_)
  rcases hr with ⟨-, rfl⟩ | ⟨hr, -⟩
  rotate_left
  · exact absurd ⟨i, by omega, hi, rfl⟩ hr
  refine OK.f (by decide) (OK.rd i rfl (by omega) ?_)
  rw [hk1]
  refine OK.f (by decide) ?_
  refine OK.w2 (fun t x g => x = nI t ∧ ∀ k, k < t → g k = kept (22 * i + k)) 22 ?_ (by omega) ⟨rfl, fun k hk => absurd hk (Nat.not_lt_zero _)⟩
  rintro t x g k ⟨rfl, a1⟩ ht hk'
  refine OK.le 22 t (by omega) (by omega) (fun q => ?_) (fun q => ?_)
  · have hg : pageR Q g := hk.c hQ (by rw [show t = 22 by omega] at a1; exact a1)
    exact OK.rd 0 rfl (by omega) (OK.s ⟨hg.1, rfl, hg⟩)
  · refine OK.rd (22 * i + t) (by rw [show (22 : Int32) = nI 22 from rfl, pk_mul, nI_add]) (by omega) (OK.st t rfl q ?_)
    refine hk' q _ _ ⟨nI_1 t, fun j hj => ?_⟩
    by_cases w : j = t
    · subst w; exact upd_s _ _ _
    · rw [upd_n _ _ w]; exact a1 j (by omega)
theorem op_again : St_again Inv := by
  intro b_theSeed b_text_length b_text_signs b_stock_words b_stock_learnt b_stock_letters b_stock_breaks b_stock_sizes b_stock_rules b_stock_hs b_index_known b_index_size b_index_numbers b_index_codes b_index_fits b_index_starts b_index_signs b_learning_levels b_learning_good b_learning_bad b_learning_digits b_doings_count b_doings_kinds b_doings_wheres b_doings_firsts b_doings_seconds b_tree_count b_tree_end b_tree_packed b_tree_isNode b_tree_bases b_tree_slots b_seen_count b_seen_places b_seen_digits b_seen_hads b_judging_learning_levels b_judging_learning_good b_judging_learning_bad b_judging_learning_digits b_judging_tried_words b_judging_tried_learnt b_judging_tried_letters b_judging_tried_breaks b_judging_tried_sizes b_judging_tried_rules b_judging_tried_hs b_chances_valued b_chances_rights b_shelves_0_words b_shelves_0_learnt b_shelves_0_letters b_shelves_0_breaks b_shelves_0_sizes b_shelves_0_rules b_shelves_0_hs b_shelves_1_words b_shelves_1_learnt b_shelves_1_letters b_shelves_1_breaks b_shelves_1_sizes b_shelves_1_rules b_shelves_1_hs b_onShelf m_thrown m_textSize m_doings m_seen m_seed m_signMany m_whichMany m_whichFirst m_text m_readPage m_page m_trial m_book m_kept m_isKept m_seenPlace m_seenDigit m_seenIs m_plan m_good m_bad m_signs m_digits m_isNode m_base m_slot m_value hI n1
  refine fin_again ?_
  obtain ⟨hT, hG, hS, hD, h0, h1⟩ := hI
  have hG' := hG
  obtain ⟨P, n, hP, hst, hln, htr, hch, rfl, rfl, hhs, hp⟩ := hG
  unfold m_X10_again
  have late : ∀ i, i ≤ 1 → m_isKept i = 0 → OK (m_X11_again 3000 (nI i) m_thrown (nI n) m_isKept m_page m_kept) (fun v => v = (-3, 0, nI n, m_page)) := by
    intro i hi hk
    unfold m_X11_again
    refine OK.b1 (s_inB (a := 0) (b := 1) (by omega) (by omega) (nI i)) (fun r hr => ?_)
    rcases hr with ⟨-, rfl⟩ | ⟨hr, -⟩
    · refine OK.f (by decide) (OK.rd i rfl (by omega) ?_)
      rw [hk]
      exact OK.t rfl (OK.s rfl)
    · exact absurd ⟨i, by omega, hi, rfl⟩ hr
  refine OK.b1 (s_isShelf n1) (fun r hr => ?_)
  rcases hr with ⟨⟨i, i0, i1, rfl⟩, rfl⟩ | ⟨hr, rfl⟩
  · refine OK.f (by decide) (OK.rd i rfl (by omega) ?_)
    have hi : i = 0 ∨ i = 1 := by omega
    rcases hi with rfl | rfl
    · rcases h0 with ⟨a, b⟩ | ⟨a, b, Q, c, d, f⟩
      · rw [a]
        refine OK.t rfl (OK.s ((late 0 (by omega) b).mono (fun v hv => ?_)))
        subst hv
        exact ⟨rfl, hT, hG', hS, hD, Or.inl ⟨a, b⟩, h1⟩
      · rw [a]
        refine OK.f (by decide) (OK.t rfl ?_)
        refine OK.b7 (s_copyFrom c d _ _ _ _ _ _ _) (fun z5 z6 f7 f8 f9 f10 f11 hq => ?_)
        have hq : stkR Q z5 z6 f7 f8 f9 f10 f11 := hq
        refine OK.b13 (s_learnAnew c hln hq _ _ _ _ _ _) (fun z11 z12 f13 f14 f15 f16 f17 f18 f19 f20 f21 z22 z23 hw => OK.s ?_)
        obtain ⟨l1, l2, l3⟩ := hw
        refine (s_rAgain c (i := 0) (by omega) b f m_thrown (nI n) m_page).mono (fun v hv => ?_)
        exact ⟨hq.1.trans hv.1.symm, hT, ⟨Q, 0, c, hq, l1, Or.inl l2, Or.inl l3, rfl, hv.2.1, hsR_0 _ _ _ _ _ _, hv.2.2⟩, hS, hD, Or.inr ⟨a, b, Q, c, d, f⟩, h1⟩
    · rcases h1 with ⟨a, b⟩ | ⟨a, b, Q, c, d, f⟩
      · rw [a]
        refine OK.t rfl (OK.s ((late 1 (by omega) b).mono (fun v hv => ?_)))
        subst hv
        exact ⟨rfl, hT, hG', hS, hD, h0, Or.inl ⟨a, b⟩⟩
      · rw [a]
        refine OK.f (by decide) (OK.f (by decide) (OK.t rfl ?_))
        refine OK.b7 (s_copyFrom c d _ _ _ _ _ _ _) (fun z5 z6 f7 f8 f9 f10 f11 hq => ?_)
        have hq : stkR Q z5 z6 f7 f8 f9 f10 f11 := hq
        refine OK.b13 (s_learnAnew c hln hq _ _ _ _ _ _) (fun z11 z12 f13 f14 f15 f16 f17 f18 f19 f20 f21 z22 z23 hw => OK.s ?_)
        obtain ⟨l1, l2, l3⟩ := hw
        refine (s_rAgain c (i := 1) (by omega) b f m_thrown (nI n) m_page).mono (fun v hv => ?_)
        exact ⟨hq.1.trans hv.1.symm, hT, ⟨Q, 0, c, hq, l1, Or.inl l2, Or.inl l3, rfl, hv.2.1, hsR_0 _ _ _ _ _ _, hv.2.2⟩, hS, hD, h0, Or.inr ⟨a, b, Q, c, d, f⟩⟩
  · refine OK.t rfl (OK.s ?_)
    unfold m_X11_again
    refine OK.b1 (s_inB (a := 0) (b := 1) (by omega) (by omega) n1) (fun r hr2 => ?_)
    rcases hr2 with ⟨hr2, -⟩ | ⟨-, rfl⟩
    · exact absurd hr2 hr
    · exact OK.t rfl (OK.s ⟨rfl, hT, hG', hS, hD, h0, h1⟩)
