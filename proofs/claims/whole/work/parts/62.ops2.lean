/-! ===== 62.ops2: words asked, judged, shared, seen, drawn, kept; the tree asked ===== -/
def isWx (x : Int32) (c : Nat) : Prop := c < 2147483648 ∧ isW c ∧ x = nI c
theorem isWx_u {x : Int32} {c d : Nat} (h : isWx x c) (h' : isWx x d) : c = d := by
  obtain ⟨a, -, rfl⟩ := h
  obtain ⟨b, -, e⟩ := h'
  exact (nI_eq a b).mp e
theorem s_wsz (x : Int32) : OK (m_X2_wordSize 3000 x) (fun r => (∃ c, isWx x c ∧ r = nI (dl c)) ∨ ((∀ c, ¬ isWx x c) ∧ r = 0)) := by
  by_cases h : x < 0
  · refine (s_wordSizeN h).mono (fun r hr => Or.inr ⟨fun c hc => ?_, hr⟩)
    obtain ⟨a, -, rfl⟩ := hc
    exact nI_pos a h
  · obtain ⟨c, hc, rfl⟩ := nI_of h
    refine (s_wordSize hc).mono (fun r hr => ?_)
    rcases hr with ⟨a, b⟩ | ⟨a, b⟩
    · exact Or.inl ⟨c, ⟨hc, a, rfl⟩, b⟩
    · refine Or.inr ⟨fun d hd => ?_, b⟩
      obtain ⟨d1, d2, d3⟩ := hd
      rw [nI_eq hc d1] at d3
      subst d3; exact a d2
theorem s_raf (x : Int32) : OK (m_X11_areFigures 3000 x 2 6 5) (fun r => (∃ c, isWx x c ∧ r = 1) ∨ ((∀ c, ¬ isWx x c) ∧ r = 0)) := by
  by_cases h0 : x ≤ 0
  · refine (s_areFigures0 h0).mono (fun r hr => Or.inr ⟨fun c hc => ?_, hr⟩)
    obtain ⟨a, b, rfl⟩ := hc
    have := isW_b a b
    exact nI_nle (by omega) a h0
  · have hx : ¬ x < 0 := fun q => h0 (Int32.le_of_lt q)
    obtain ⟨c, hc, rfl⟩ := nI_of hx
    have hc0 : 0 < c := by
      rcases Nat.eq_zero_or_pos c with q | q
      · subst q; exact absurd (by decide : nI 0 ≤ 0) h0
      · exact q
    refine (s_areFigures (lo := 2) (hi := 6) (high := 5) hc hc0 (by omega) (by omega) (by omega)).mono (fun r hr => ?_)
    rcases hr with ⟨a, b⟩ | ⟨a, b⟩
    · exact Or.inl ⟨c, ⟨hc, b, rfl⟩, a⟩
    · refine Or.inr ⟨fun d hd => ?_, a⟩
      obtain ⟨d1, d2, d3⟩ := hd
      rw [nI_eq hc d1] at d3
      subst d3; exact b d2
theorem op_ask : St_ask Inv := by
  intro b_theSeed b_text_length b_text_signs b_stock_words b_stock_learnt b_stock_letters b_stock_breaks b_stock_sizes b_stock_rules b_stock_hs b_index_known b_index_size b_index_numbers b_index_codes b_index_fits b_index_starts b_index_signs b_learning_levels b_learning_good b_learning_bad b_learning_digits b_doings_count b_doings_kinds b_doings_wheres b_doings_firsts b_doings_seconds b_tree_count b_tree_end b_tree_packed b_tree_isNode b_tree_bases b_tree_slots b_seen_count b_seen_places b_seen_digits b_seen_hads b_judging_learning_levels b_judging_learning_good b_judging_learning_bad b_judging_learning_digits b_judging_tried_words b_judging_tried_learnt b_judging_tried_letters b_judging_tried_breaks b_judging_tried_sizes b_judging_tried_rules b_judging_tried_hs b_chances_valued b_chances_rights b_shelves_0_words b_shelves_0_learnt b_shelves_0_letters b_shelves_0_breaks b_shelves_0_sizes b_shelves_0_rules b_shelves_0_hs b_shelves_1_words b_shelves_1_learnt b_shelves_1_letters b_shelves_1_breaks b_shelves_1_sizes b_shelves_1_rules b_shelves_1_hs b_onShelf m_thrown m_textSize m_doings m_seen m_seed m_signMany m_whichMany m_whichFirst m_text m_readPage m_page m_trial m_book m_kept m_isKept m_seenPlace m_seenDigit m_seenIs m_plan m_good m_bad m_signs m_digits m_isNode m_base m_slot m_value hI n1 n2
  refine fin_ask ?_
  obtain ⟨hT, hG, hS, hD, h0, h1⟩ := hI
  have hG' := hG
  obtain ⟨P, n, hP, hst, ⟨m, cd, st, hn, hx, hl, hd⟩, htr, hch, rfl, rfl, hhs, hp⟩ := hG
  have hb := plS_4 hP 63
  have hlv := lvl_of hn hx (mask := 63) (t := pT P) hl
  unfold m_X10_ask m_X11_ask
  refine OK.b1 (s_wsz n1) (fun r hr => ?_)
  rcases hr with ⟨c, hc, rfl⟩ | ⟨hr, rfl⟩
  · have hc' := hc
    obtain ⟨c1, c2, rfl⟩ := hc
    have d2 := c2.1
    have d6 := c2.2.1
    have ok := isW.ok c1 c2
    refine OK.f (nI_ne0 (by omega) (by omega)) ?_
    have e2 : nI (dl c) - 2 = nI (dl c - 1) - 1 := by rw [n_sub1 (by omega), show (2 : Int32) = nI 2 from rfl, pk_sub (by omega)]; congr 1
    by_cases hin : inW (dl c - 1) n2
    · obtain ⟨p, hp1, rfl⟩ := hin
      refine OK.lt p 0 (by omega) (by omega) (fun q => by omega) (fun _ => ?_)
      rw [n_sub1 (by omega)]
      refine OK.lt p (dl c - 1) (by omega) (by omega) (fun _ => ?_) (fun q => by omega)
      refine OK.b2 (s_spell ok.1 b_index_size b_index_signs) (fun z2 f3 hq => ?_)
      obtain ⟨q1, q2⟩ := hq
      have q1 : z2 = nI (dl c) := q1
      subst q1
      refine OK.b1 (s_digitOfSpelt (p := p) ok (by omega) q2 hlv hb) (fun r hr => OK.s ?_)
      subst hr
      refine OK.b1 (s_raf (nI c)) (fun r hr => ?_)
      rcases hr with ⟨-, -, rfl⟩ | ⟨hr, -⟩
      rotate_left
      · exact absurd hc' (hr c)
      refine OK.f (by decide) (OK.b1 (s_length c1) (fun r hr => ?_))
      subst hr
      rw [e2]
      refine OK.b1 (s_in0 (by omega) (nI p)) (fun r hr => ?_)
      rcases hr with ⟨-, rfl⟩ | ⟨hr, -⟩
      rotate_left
      · exact absurd ⟨p, hp1, rfl⟩ hr
      refine OK.f (by decide) (OK.b6 (s_learnAll hP hp m_signMany m_plan m_signs m_digits m_good m_bad) (fun z4 f5 f6 f7 f8 f9 hq => ?_))
      refine OK.b2 (s_laySigns ok.1 z4 f6) (fun z10 f11 hw => ?_)
      obtain ⟨w1, w2⟩ := hw
      have w1 : z10 = nI (dl c + 2) := w1
      subst w1
      refine OK.b1 (s_digitAt (p := p) ok (by omega) w2 hq.1 hb) (fun r hr => OK.s ⟨hr.symm, hT, hG', hS, hD, h0, h1⟩)
    · have ref : OK (bK1 (m_X11_areFigures 3000 (nI c) 2 6 5) (fun r1 => if r1 = 0 then some ((-2 : Int32), (0 : Int32), m_signMany, m_plan, m_signs, m_digits, m_good, m_bad) else bK1 (m_X11_length 3000 (nI c)) (fun r2 => bK1 (m_X11_in 3000 n2.toInt64 0 ((r2 - 2).toInt64)) (fun r3 => if r3 = 0 then some ((-1 : Int32), (0 : Int32), m_signMany, m_plan, m_signs, m_digits, m_good, m_bad) else bK6 (m_X11_learnAll 3000 m_signMany m_page m_plan m_signs m_digits m_good m_bad) (fun z4 f5 f6 f7 f8 f9 => bK2 (m_X11_laySigns 3000 (nI c) z4 f6) (fun z10 f11 => bK1 (m_X11_digitAt 3000 n2 z10 f11 f5) (fun r12 => some (r12, 0, z10, f5, f11, f7, f8, f9)))))))) (fun v => v.1 = -1) := by
        refine OK.b1 (s_raf (nI c)) (fun r hr => ?_)
        rcases hr with ⟨-, -, rfl⟩ | ⟨hr, -⟩
        rotate_left
        · exact absurd hc' (hr c)
        refine OK.f (by decide) (OK.b1 (s_length c1) (fun r hr => ?_))
        subst hr
        rw [e2]
        refine OK.b1 (s_in0 (by omega) n2) (fun r hr => ?_)
        rcases hr with ⟨hr, -⟩ | ⟨-, rfl⟩
        · exact absurd hr hin
        · exact OK.t rfl (OK.s rfl)
      rw [n_sub1 (by omega)]
      refine OK.i (fun q => OK.s (ref.mono (fun v hv => ⟨hv.symm, hT, hG', hS, hD, h0, h1⟩))) (fun q => OK.f (fun w => hin ((inW_le (by omega)).mpr ⟨Int32.not_lt.mp q, w⟩)) (OK.s (ref.mono (fun v hv => ⟨hv.symm, hT, hG', hS, hD, h0, h1⟩))))
  · refine OK.t rfl (OK.s ?_)
    refine OK.b1 (s_raf n1) (fun r hr2 => ?_)
    rcases hr2 with ⟨c, hc, -⟩ | ⟨-, rfl⟩
    · exact absurd hc (hr c)
    · exact OK.t rfl (OK.s ⟨rfl, hT, hG', hS, hD, h0, h1⟩)
theorem op_judge : St_judge Inv := by
  intro b_theSeed b_text_length b_text_signs b_stock_words b_stock_learnt b_stock_letters b_stock_breaks b_stock_sizes b_stock_rules b_stock_hs b_index_known b_index_size b_index_numbers b_index_codes b_index_fits b_index_starts b_index_signs b_learning_levels b_learning_good b_learning_bad b_learning_digits b_doings_count b_doings_kinds b_doings_wheres b_doings_firsts b_doings_seconds b_tree_count b_tree_end b_tree_packed b_tree_isNode b_tree_bases b_tree_slots b_seen_count b_seen_places b_seen_digits b_seen_hads b_judging_learning_levels b_judging_learning_good b_judging_learning_bad b_judging_learning_digits b_judging_tried_words b_judging_tried_learnt b_judging_tried_letters b_judging_tried_breaks b_judging_tried_sizes b_judging_tried_rules b_judging_tried_hs b_chances_valued b_chances_rights b_shelves_0_words b_shelves_0_learnt b_shelves_0_letters b_shelves_0_breaks b_shelves_0_sizes b_shelves_0_rules b_shelves_0_hs b_shelves_1_words b_shelves_1_learnt b_shelves_1_letters b_shelves_1_breaks b_shelves_1_sizes b_shelves_1_rules b_shelves_1_hs b_onShelf m_thrown m_textSize m_doings m_seen m_seed m_signMany m_whichMany m_whichFirst m_text m_readPage m_page m_trial m_book m_kept m_isKept m_seenPlace m_seenDigit m_seenIs m_plan m_good m_bad m_signs m_digits m_isNode m_base m_slot m_value hI n1 n2
  refine fin_judge ?_
  obtain ⟨hT, hG, hS, hD, h0, h1⟩ := hI
  have hG' := hG
  obtain ⟨P, n, hP, hst, ⟨m, cd, st, hn, hx, hl, hd⟩, htr, hch, rfl, rfl, hhs, hp⟩ := hG
  exact (s_cJudge hP hn hx hst n1 n2 _ _ _ _ _ _ _ _ _ _ _).mono (fun u hu => (s_rJudge hP hp n1 n2 _ _ _ _ _ _ _ _).mono (fun v hv => ⟨jgA_u hu hv, hT, hG', hS, hD, h0, h1⟩))
theorem op_share : St_share Inv := by
  intro b_theSeed b_text_length b_text_signs b_stock_words b_stock_learnt b_stock_letters b_stock_breaks b_stock_sizes b_stock_rules b_stock_hs b_index_known b_index_size b_index_numbers b_index_codes b_index_fits b_index_starts b_index_signs b_learning_levels b_learning_good b_learning_bad b_learning_digits b_doings_count b_doings_kinds b_doings_wheres b_doings_firsts b_doings_seconds b_tree_count b_tree_end b_tree_packed b_tree_isNode b_tree_bases b_tree_slots b_seen_count b_seen_places b_seen_digits b_seen_hads b_judging_learning_levels b_judging_learning_good b_judging_learning_bad b_judging_learning_digits b_judging_tried_words b_judging_tried_learnt b_judging_tried_letters b_judging_tried_breaks b_judging_tried_sizes b_judging_tried_rules b_judging_tried_hs b_chances_valued b_chances_rights b_shelves_0_words b_shelves_0_learnt b_shelves_0_letters b_shelves_0_breaks b_shelves_0_sizes b_shelves_0_rules b_shelves_0_hs b_shelves_1_words b_shelves_1_learnt b_shelves_1_letters b_shelves_1_breaks b_shelves_1_sizes b_shelves_1_rules b_shelves_1_hs b_onShelf m_thrown m_textSize m_doings m_seen m_seed m_signMany m_whichMany m_whichFirst m_text m_readPage m_page m_trial m_book m_kept m_isKept m_seenPlace m_seenDigit m_seenIs m_plan m_good m_bad m_signs m_digits m_isNode m_base m_slot m_value hI n1 n2 hbool
  refine fin_share ?_
  obtain ⟨hT, hG, hS, hD, h0, h1⟩ := hI
  have hG' := hG
  obtain ⟨P, n, hP, hst, ⟨m, cd, st, hn, hx, hl, hd⟩, htr, hch, rfl, rfl, hhs, hp⟩ := hG
  have hst2 := hst
  obtain ⟨rfl, rfl, s3, s4⟩ := hst
  have hW := hP.1.1
  unfold m_X10_share m_X11_share
  refine OK.b1 (s_hasWord hW n1) (fun r hr => ?_)
  rcases hr with ⟨⟨w, hw, rfl⟩, rfl⟩ | ⟨hr, rfl⟩
  · refine OK.f (by decide) ?_
    rw [hn.1]
    refine OK.b7 (s_shareOf hP hx hst2 hch hw n2 _ _ _ _) (fun r2 z3 f4 f5 f6 f7 f8 hq => OK.s ?_)
    obtain ⟨q1, q2⟩ := hq
    refine OK.b1 (s_noWord hP hp (nI w)) (fun r hr => ?_)
    rcases hr with ⟨-, rfl⟩ | ⟨hr, -⟩
    rotate_left
    · exact absurd ⟨w, hw, rfl⟩ hr
    refine OK.t rfl (OK.rd 0 rfl (by omega) ?_)
    rw [hp.1]
    refine OK.b7 (s_layValues hP hp m_signMany m_plan m_signs m_digits m_good m_bad m_value) (fun z3 g4 g5 g6 g7 g8 g9 hv => ?_)
    refine s_rShare hP hv hw (OK.s ⟨q1, hT, ⟨P, n, hP, hst2, ⟨m, cd, st, ?_, hx, hl, hd⟩, htr, q2, rfl, rfl, hhs, hp⟩, hS, hD, h0, h1⟩)
    rw [← hn.1]; exact hn
  · refine OK.t rfl (OK.s ?_)
    refine OK.b1 (s_noWord hP hp n1) (fun r hr2 => ?_)
    rcases hr2 with ⟨hr2, -⟩ | ⟨-, rfl⟩
    · exact absurd hr2 hr
    · exact OK.f (by decide) (OK.s ⟨rfl, hT, hG', hS, hD, h0, h1⟩)
theorem op_lost : St_lost Inv := by
  intro b_theSeed b_text_length b_text_signs b_stock_words b_stock_learnt b_stock_letters b_stock_breaks b_stock_sizes b_stock_rules b_stock_hs b_index_known b_index_size b_index_numbers b_index_codes b_index_fits b_index_starts b_index_signs b_learning_levels b_learning_good b_learning_bad b_learning_digits b_doings_count b_doings_kinds b_doings_wheres b_doings_firsts b_doings_seconds b_tree_count b_tree_end b_tree_packed b_tree_isNode b_tree_bases b_tree_slots b_seen_count b_seen_places b_seen_digits b_seen_hads b_judging_learning_levels b_judging_learning_good b_judging_learning_bad b_judging_learning_digits b_judging_tried_words b_judging_tried_learnt b_judging_tried_letters b_judging_tried_breaks b_judging_tried_sizes b_judging_tried_rules b_judging_tried_hs b_chances_valued b_chances_rights b_shelves_0_words b_shelves_0_learnt b_shelves_0_letters b_shelves_0_breaks b_shelves_0_sizes b_shelves_0_rules b_shelves_0_hs b_shelves_1_words b_shelves_1_learnt b_shelves_1_letters b_shelves_1_breaks b_shelves_1_sizes b_shelves_1_rules b_shelves_1_hs b_onShelf m_thrown m_textSize m_doings m_seen m_seed m_signMany m_whichMany m_whichFirst m_text m_readPage m_page m_trial m_book m_kept m_isKept m_seenPlace m_seenDigit m_seenIs m_plan m_good m_bad m_signs m_digits m_isNode m_base m_slot m_value hI n1 n2 n3 hbool
  refine fin_lost ?_
  obtain ⟨hT, hG, hS, hD, h0, h1⟩ := hI
  have hG' := hG
  obtain ⟨P, n, hP, hst, ⟨m, cd, st, hn, hx, hl, hd⟩, htr, hch, rfl, rfl, hhs, hp⟩ := hG
  have hst2 := hst
  obtain ⟨rfl, rfl, s3, s4⟩ := hst
  unfold m_X10_lost
  by_cases hv : inB 0 30 n1
  · by_cases hxx : inB 0 10 n2
    · obtain ⟨v, -, v2, rfl⟩ := hv
      obtain ⟨x, -, x2, rfl⟩ := hxx
      refine OK.lt v 0 (by omega) (by omega) (fun q => by omega) (fun _ => ?_)
      refine OK.lt 30 v (by omega) (by omega) (fun q => by omega) (fun _ => ?_)
      refine OK.lt x 0 (by omega) (by omega) (fun q => by omega) (fun _ => ?_)
      refine OK.le x 10 (by omega) (by omega) (fun _ => ?_) (fun q => by omega)
      rw [hn.1]
      refine OK.b7 (s_chanceOf hP hx hst2 hch v2 x2 n3 _ _ _ _) (fun r2 z3 f4 f5 f6 f7 f8 hq => OK.s ?_)
      obtain ⟨q1, q2⟩ := hq
      unfold m_X11_lost
      refine OK.b1 (s_inB (a := 0) (b := 30) (by omega) (by omega) (nI v)) (fun r hr => ?_)
      rcases hr with ⟨-, rfl⟩ | ⟨hr, -⟩
      rotate_left
      · exact absurd ⟨v, by omega, v2, rfl⟩ hr
      refine OK.f (by decide) ?_
      refine OK.b1 (s_inB (a := 0) (b := 10) (by omega) (by omega) (nI x)) (fun r hr => ?_)
      rcases hr with ⟨-, rfl⟩ | ⟨hr, -⟩
      rotate_left
      · exact absurd ⟨x, by omega, x2, rfl⟩ hr
      refine OK.f (by decide) (OK.rd 0 rfl (by omega) ?_)
      rw [hp.1]
      refine OK.b7 (s_layValues hP hp m_signMany m_plan m_signs m_digits m_good m_bad m_value) (fun z3 g4 g5 g6 g7 g8 g9 hv => ?_)
      refine s_rLost hP hv v2 x2 (OK.s ⟨q1, hT, ⟨P, n, hP, hst2, ⟨m, cd, st, ?_, hx, hl, hd⟩, htr, q2, rfl, rfl, hhs, hp⟩, hS, hD, h0, h1⟩)
      rw [← hn.1]; exact hn
    · have ref : OK (m_X11_lost 3000 n1 n2 n3 m_thrown m_signMany m_page m_plan m_signs m_digits m_good m_bad m_value) (fun v => v.1 = -2) := by
        unfold m_X11_lost
        refine OK.b1 (s_inB (a := 0) (b := 30) (by omega) (by omega) n1) (fun r hr => ?_)
        rcases hr with ⟨-, rfl⟩ | ⟨-, rfl⟩
        · refine OK.f (by decide) (OK.b1 (s_inB (a := 0) (b := 10) (by omega) (by omega) n2) (fun r hr => ?_))
          rcases hr with ⟨hr, -⟩ | ⟨-, rfl⟩
          · exact absurd hr hxx
          · exact OK.t rfl (OK.s rfl)
        · exact OK.t rfl (OK.s rfl)
      refine OK.i (fun q => OK.s (ref.mono (fun v hv => ⟨hv.symm, hT, hG', hS, hD, h0, h1⟩))) (fun _ => OK.i (fun q => OK.s (ref.mono (fun v hv => ⟨hv.symm, hT, hG', hS, hD, h0, h1⟩))) (fun _ => OK.i (fun q => OK.s (ref.mono (fun v hv => ⟨hv.symm, hT, hG', hS, hD, h0, h1⟩))) (fun q => OK.f (fun w => hxx ((inB_le (by omega) (by omega)).mpr ⟨Int32.not_lt.mp q, w⟩)) (OK.s (ref.mono (fun v hv => ⟨hv.symm, hT, hG', hS, hD, h0, h1⟩))))))
  · have ref : OK (m_X11_lost 3000 n1 n2 n3 m_thrown m_signMany m_page m_plan m_signs m_digits m_good m_bad m_value) (fun v => v.1 = -2) := by
      unfold m_X11_lost
      refine OK.b1 (s_inB (a := 0) (b := 30) (by omega) (by omega) n1) (fun r hr => ?_)
      rcases hr with ⟨hr, -⟩ | ⟨-, rfl⟩
      · exact absurd hr hv
      · exact OK.t rfl (OK.s rfl)
    refine OK.i (fun q => OK.s (ref.mono (fun v hv => ⟨hv.symm, hT, hG', hS, hD, h0, h1⟩))) (fun q => OK.t (Int32.not_le.mp (fun w => hv ((inB_le (by omega) (by omega)).mpr ⟨Int32.not_lt.mp q, w⟩))) (OK.s (ref.mono (fun v hv => ⟨hv.symm, hT, hG', hS, hD, h0, h1⟩))))
theorem nar01 : ∀ k, k < 2 → vp_nar .boolean (nI k) = nI k := by decide
theorem sn_push {n : Nat} {sp sd sh : Nat → Nat} {f g h : Nat → Int32} (hs : snR n sp sd sh f g h) (hn : n < 6) {a b c : Nat} (ha : a ≤ 1) (hb : b ≤ 4) (hc : c ≤ 1) : snR (n + 1) (upN sp n a) (upN sd n b) (upN sh n c) (upd f n (nI a)) (upd g n (nI b)) (upd h n (nI c)) := by
  refine ⟨by omega, fun j hj => ?_⟩
  by_cases e : j = n
  · subst e; rw [upd_s, upd_s, upd_s, upN_s, upN_s, upN_s]; exact ⟨rfl, ha, rfl, hb, rfl, hc⟩
  · rw [upd_n _ _ e, upd_n _ _ e, upd_n _ _ e, upN_n _ _ e, upN_n _ _ e, upN_n _ _ e]; exact hs.2 j (by omega)
theorem op_see : St_see Inv := by
  intro b_theSeed b_text_length b_text_signs b_stock_words b_stock_learnt b_stock_letters b_stock_breaks b_stock_sizes b_stock_rules b_stock_hs b_index_known b_index_size b_index_numbers b_index_codes b_index_fits b_index_starts b_index_signs b_learning_levels b_learning_good b_learning_bad b_learning_digits b_doings_count b_doings_kinds b_doings_wheres b_doings_firsts b_doings_seconds b_tree_count b_tree_end b_tree_packed b_tree_isNode b_tree_bases b_tree_slots b_seen_count b_seen_places b_seen_digits b_seen_hads b_judging_learning_levels b_judging_learning_good b_judging_learning_bad b_judging_learning_digits b_judging_tried_words b_judging_tried_learnt b_judging_tried_letters b_judging_tried_breaks b_judging_tried_sizes b_judging_tried_rules b_judging_tried_hs b_chances_valued b_chances_rights b_shelves_0_words b_shelves_0_learnt b_shelves_0_letters b_shelves_0_breaks b_shelves_0_sizes b_shelves_0_rules b_shelves_0_hs b_shelves_1_words b_shelves_1_learnt b_shelves_1_letters b_shelves_1_breaks b_shelves_1_sizes b_shelves_1_rules b_shelves_1_hs b_onShelf m_thrown m_textSize m_doings m_seen m_seed m_signMany m_whichMany m_whichFirst m_text m_readPage m_page m_trial m_book m_kept m_isKept m_seenPlace m_seenDigit m_seenIs m_plan m_good m_bad m_signs m_digits m_isNode m_base m_slot m_value hI n1 n2 n3
  refine fin_see ?_
  obtain ⟨hT, hG, hS, hD, h0, h1⟩ := hI
  have hS' := hS
  obtain ⟨n, sp, sd, sh, rfl, rfl, t1, t2⟩ := hS
  have hn6 := t1.1
  unfold m_X10_see
  by_cases hb : inB 0 1 n1 ∧ inB 0 4 n2 ∧ inB 0 1 n3
  · obtain ⟨⟨a, -, a1, rfl⟩, ⟨b, -, b4, rfl⟩, ⟨c, -, c1, rfl⟩⟩ := hb
    refine OK.lt a 0 (by omega) (by omega) (fun q => by omega) (fun _ => ?_)
    refine OK.lt 1 a (by omega) (by omega) (fun q => by omega) (fun _ => ?_)
    refine OK.lt b 0 (by omega) (by omega) (fun q => by omega) (fun _ => ?_)
    refine OK.lt 4 b (by omega) (by omega) (fun q => by omega) (fun _ => ?_)
    refine OK.lt c 0 (by omega) (by omega) (fun q => by omega) (fun _ => ?_)
    refine OK.le c 1 (by omega) (by omega) (fun _ => ?_) (fun q => by omega)
    refine OK.j1 (fun y => y = nI c) ?_ (fun k hk => OK.eq c 1 (by omega) (by omega) (fun e => hk _ (by rw [e]; rfl)) (fun e => hk _ (by rw [show c = 0 by omega]; rfl)))
    rintro y rfl
    have ref : (n < 6 → OK (m_X11_see 3000 (nI a) (nI b) (nI c) m_thrown (nI n) m_seenPlace m_seenDigit m_seenIs) (fun v => v = (nI n + 1, 0, nI n + 1, upd m_seenPlace n (nI a), upd m_seenDigit n (nI b), upd m_seenIs n (nI c)))) ∧ (n = 6 → OK (m_X11_see 3000 (nI a) (nI b) (nI c) m_thrown (nI n) m_seenPlace m_seenDigit m_seenIs) (fun v => v = (-4, 0, nI n, m_seenPlace, m_seenDigit, m_seenIs))) := by
      unfold m_X11_see
      constructor
      · intro hlt
        refine OK.b1 (s_inB (a := 0) (b := 1) (by omega) (by omega) (nI a)) (fun r hr => ?_)
        rcases hr with ⟨-, rfl⟩ | ⟨hr, -⟩
        rotate_left
        · exact absurd ⟨a, by omega, a1, rfl⟩ hr
        refine OK.f (by decide) (OK.b1 (s_inB (a := 0) (b := 4) (by omega) (by omega) (nI b)) (fun r hr => ?_))
        rcases hr with ⟨-, rfl⟩ | ⟨hr, -⟩
        rotate_left
        · exact absurd ⟨b, by omega, b4, rfl⟩ hr
        refine OK.f (by decide) (OK.b1 (s_inB (a := 0) (b := 1) (by omega) (by omega) (nI c)) (fun r hr => ?_))
        rcases hr with ⟨-, rfl⟩ | ⟨hr, -⟩
        rotate_left
        · exact absurd ⟨c, by omega, c1, rfl⟩ hr
        exact OK.f (by decide) (OK.eq n 6 (by omega) (by omega) (fun q => by omega) (fun _ => OK.st n rfl hlt (OK.st n rfl hlt (OK.st n rfl hlt (OK.l (OK.s rfl))))))
      · intro heq
        refine OK.b1 (s_inB (a := 0) (b := 1) (by omega) (by omega) (nI a)) (fun r hr => ?_)
        rcases hr with ⟨-, rfl⟩ | ⟨hr, -⟩
        rotate_left
        · exact absurd ⟨a, by omega, a1, rfl⟩ hr
        refine OK.f (by decide) (OK.b1 (s_inB (a := 0) (b := 4) (by omega) (by omega) (nI b)) (fun r hr => ?_))
        rcases hr with ⟨-, rfl⟩ | ⟨hr, -⟩
        rotate_left
        · exact absurd ⟨b, by omega, b4, rfl⟩ hr
        refine OK.f (by decide) (OK.b1 (s_inB (a := 0) (b := 1) (by omega) (by omega) (nI c)) (fun r hr => ?_))
        rcases hr with ⟨-, rfl⟩ | ⟨hr, -⟩
        rotate_left
        · exact absurd ⟨c, by omega, c1, rfl⟩ hr
        exact OK.f (by decide) (OK.eq n 6 (by omega) (by omega) (fun _ => OK.s rfl) (fun q => by omega))
    unfold m_X6_append
    by_cases hlt : n < 6
    · refine OK.b5 (Q := fun u => u = (1, nI n + 1, upd b_seen_places n (nI a), upd b_seen_digits n (nI b), upd b_seen_hads n (nI c))) (OK.lt n 6 (by omega) (by omega) (fun _ => OK.st n rfl hlt (OK.st n rfl hlt (OK.st n rfl hlt (OK.l (OK.s (by rw [nar01 c (by omega)])))))) (fun q => by omega)) (fun r z f5 f6 f7 hq => ?_)
      cases hq
      refine OK.f (by decide) (OK.s ((ref.1 hlt).mono (fun v hv => ?_)))
      subst hv
      exact ⟨rfl, hT, hG, ⟨n + 1, upN sp n a, upN sd n b, upN sh n c, nI_1 n, nI_1 n, sn_push t1 hlt a1 b4 c1, sn_push t2 hlt a1 b4 c1⟩, hD, h0, h1⟩
    · refine OK.b5 (Q := fun u => u = (0, nI n, b_seen_places, b_seen_digits, b_seen_hads)) (OK.lt n 6 (by omega) (by omega) (fun q => by omega) (fun q => OK.s rfl)) (fun r z f5 f6 f7 hq => ?_)
      cases hq
      refine OK.t rfl (OK.s ((ref.2 (by omega)).mono (fun v hv => ?_)))
      subst hv
      exact ⟨rfl, hT, hG, hS', hD, h0, h1⟩
  · have ref : OK (m_X11_see 3000 n1 n2 n3 m_thrown (nI n) m_seenPlace m_seenDigit m_seenIs) (fun v => v = (-2, 0, nI n, m_seenPlace, m_seenDigit, m_seenIs)) := by
      unfold m_X11_see
      refine OK.b1 (s_inB (a := 0) (b := 1) (by omega) (by omega) n1) (fun r hr => ?_)
      rcases hr with ⟨w1, rfl⟩ | ⟨-, rfl⟩
      · refine OK.f (by decide) (OK.b1 (s_inB (a := 0) (b := 4) (by omega) (by omega) n2) (fun r hr => ?_))
        rcases hr with ⟨w2, rfl⟩ | ⟨-, rfl⟩
        · refine OK.f (by decide) (OK.b1 (s_inB (a := 0) (b := 1) (by omega) (by omega) n3) (fun r hr => ?_))
          rcases hr with ⟨w3, rfl⟩ | ⟨-, rfl⟩
          · exact absurd ⟨w1, w2, w3⟩ hb
          · exact OK.t rfl (OK.s rfl)
        · exact OK.t rfl (OK.s rfl)
      · exact OK.t rfl (OK.s rfl)
    have fin : OK (m_X11_see 3000 n1 n2 n3 m_thrown (nI n) m_seenPlace m_seenDigit m_seenIs) (fun v => (-2 : Int32) = v.1 ∧ v.2.2 = (nI n, m_seenPlace, m_seenDigit, m_seenIs)) := ref.mono (fun v hv => by subst hv; exact ⟨rfl, rfl⟩)
    have go : ∀ v : Int32 × Int32 × Int32 × (Nat → Int32) × (Nat → Int32) × (Nat → Int32), v = (-2, 0, nI n, m_seenPlace, m_seenDigit, m_seenIs) → (-2 : Int32) = v.1 ∧ snI (nI n) b_seen_places b_seen_digits b_seen_hads v.2.2.1 v.2.2.2.1 v.2.2.2.2.1 v.2.2.2.2.2 := fun v hv => by subst hv; exact ⟨rfl, hS'⟩
    refine OK.i (fun q => OK.s (ref.mono (fun v hv => ⟨(go v hv).1, hT, hG, (go v hv).2, hD, h0, h1⟩))) (fun p1 => OK.i (fun q => OK.s (ref.mono (fun v hv => ⟨(go v hv).1, hT, hG, (go v hv).2, hD, h0, h1⟩))) (fun p2 => OK.i (fun q => OK.s (ref.mono (fun v hv => ⟨(go v hv).1, hT, hG, (go v hv).2, hD, h0, h1⟩))) (fun p3 => OK.i (fun q => OK.s (ref.mono (fun v hv => ⟨(go v hv).1, hT, hG, (go v hv).2, hD, h0, h1⟩))) (fun p4 => OK.i (fun q => OK.s (ref.mono (fun v hv => ⟨(go v hv).1, hT, hG, (go v hv).2, hD, h0, h1⟩))) (fun p5 => OK.f (fun p6 => hb ⟨(inB_le (by omega) (by omega)).mpr ⟨Int32.not_lt.mp p1, Int32.not_lt.mp p2⟩, (inB_le (by omega) (by omega)).mpr ⟨Int32.not_lt.mp p3, Int32.not_lt.mp p4⟩, (inB_le (by omega) (by omega)).mpr ⟨Int32.not_lt.mp p5, p6⟩⟩) (OK.s (ref.mono (fun v hv => ⟨(go v hv).1, hT, hG, (go v hv).2, hD, h0, h1⟩))))))))
theorem op_unsee : St_unsee Inv := by
  intro b_theSeed b_text_length b_text_signs b_stock_words b_stock_learnt b_stock_letters b_stock_breaks b_stock_sizes b_stock_rules b_stock_hs b_index_known b_index_size b_index_numbers b_index_codes b_index_fits b_index_starts b_index_signs b_learning_levels b_learning_good b_learning_bad b_learning_digits b_doings_count b_doings_kinds b_doings_wheres b_doings_firsts b_doings_seconds b_tree_count b_tree_end b_tree_packed b_tree_isNode b_tree_bases b_tree_slots b_seen_count b_seen_places b_seen_digits b_seen_hads b_judging_learning_levels b_judging_learning_good b_judging_learning_bad b_judging_learning_digits b_judging_tried_words b_judging_tried_learnt b_judging_tried_letters b_judging_tried_breaks b_judging_tried_sizes b_judging_tried_rules b_judging_tried_hs b_chances_valued b_chances_rights b_shelves_0_words b_shelves_0_learnt b_shelves_0_letters b_shelves_0_breaks b_shelves_0_sizes b_shelves_0_rules b_shelves_0_hs b_shelves_1_words b_shelves_1_learnt b_shelves_1_letters b_shelves_1_breaks b_shelves_1_sizes b_shelves_1_rules b_shelves_1_hs b_onShelf m_thrown m_textSize m_doings m_seen m_seed m_signMany m_whichMany m_whichFirst m_text m_readPage m_page m_trial m_book m_kept m_isKept m_seenPlace m_seenDigit m_seenIs m_plan m_good m_bad m_signs m_digits m_isNode m_base m_slot m_value hI
  refine fin_unsee ?_
  obtain ⟨hT, hG, hS, hD, h0, h1⟩ := hI
  obtain ⟨n, sp, sd, sh, rfl, rfl, t1, t2⟩ := hS
  unfold m_X10_unsee m_X11_unsee
  exact OK.s (OK.s ⟨rfl, hT, hG, ⟨0, sp, sd, sh, rfl, rfl, ⟨by omega, fun j hj => absurd hj (Nat.not_lt_zero _)⟩, ⟨by omega, fun j hj => absurd hj (Nat.not_lt_zero _)⟩⟩, hD, h0, h1⟩)
theorem op_which : St_which Inv := by
  intro b_theSeed b_text_length b_text_signs b_stock_words b_stock_learnt b_stock_letters b_stock_breaks b_stock_sizes b_stock_rules b_stock_hs b_index_known b_index_size b_index_numbers b_index_codes b_index_fits b_index_starts b_index_signs b_learning_levels b_learning_good b_learning_bad b_learning_digits b_doings_count b_doings_kinds b_doings_wheres b_doings_firsts b_doings_seconds b_tree_count b_tree_end b_tree_packed b_tree_isNode b_tree_bases b_tree_slots b_seen_count b_seen_places b_seen_digits b_seen_hads b_judging_learning_levels b_judging_learning_good b_judging_learning_bad b_judging_learning_digits b_judging_tried_words b_judging_tried_learnt b_judging_tried_letters b_judging_tried_breaks b_judging_tried_sizes b_judging_tried_rules b_judging_tried_hs b_chances_valued b_chances_rights b_shelves_0_words b_shelves_0_learnt b_shelves_0_letters b_shelves_0_breaks b_shelves_0_sizes b_shelves_0_rules b_shelves_0_hs b_shelves_1_words b_shelves_1_learnt b_shelves_1_letters b_shelves_1_breaks b_shelves_1_sizes b_shelves_1_rules b_shelves_1_hs b_onShelf m_thrown m_textSize m_doings m_seen m_seed m_signMany m_whichMany m_whichFirst m_text m_readPage m_page m_trial m_book m_kept m_isKept m_seenPlace m_seenDigit m_seenIs m_plan m_good m_bad m_signs m_digits m_isNode m_base m_slot m_value hI n1
  refine fin_which ?_
  obtain ⟨hT, hG, hS, hD, h0, h1⟩ := hI
  have hG' := hG
  have hS' := hS
  obtain ⟨P, n, hP, hst, ⟨m, cd, st, hn, hx, hl, hd⟩, htr, hch, rfl, rfl, hhs, hp⟩ := hG
  obtain ⟨k, sp, sd, sh, rfl, rfl, t1, t2⟩ := hS
  have hb := plS_4 hP 63
  have hlv := lvl_of hn hx (mask := 63) (t := pT P) hl
  unfold m_X10_which
  by_cases hin : inB 0 1 n1
  · have R := s_rWhich hP hp t2 m_thrown m_signMany m_whichMany m_whichFirst m_plan m_signs m_digits m_good m_bad n1 hin
    obtain ⟨a, -, a1, rfl⟩ := hin
    refine OK.lt a 0 (by omega) (by omega) (fun q => by omega) (fun _ => ?_)
    refine OK.le a 1 (by omega) (by omega) (fun _ => ?_) (fun q => by omega)
    refine OK.i (fun q => ?_) (fun q => ?_)
    · refine OK.b3 (s_countSeen t1 hlv hb _ _) (fun r z f hq => OK.s (R.mono (fun v hv => ?_)))
      rcases hv with ⟨-, w⟩ | ⟨w, -⟩
      · exact ⟨hq.trans w.symm, hT, hG', hS', hD, h0, h1⟩
      · exact absurd q w
    · refine OK.b3 (s_firstSeen t1 hlv hb _ _) (fun r z f hq => OK.s (R.mono (fun v hv => ?_)))
      rcases hv with ⟨w, -⟩ | ⟨-, w⟩
      · exact absurd w q
      · exact ⟨fstA_u hq w, hT, hG', hS', hD, h0, h1⟩
  · have ref : OK (m_X11_which 3000 n1 m_thrown (nI k) m_signMany m_whichMany m_whichFirst m_page m_plan m_signs m_digits m_good m_bad m_seenPlace m_seenDigit m_seenIs) (fun v => v.1 = -2) := by
      unfold m_X11_which
      refine OK.b1 (s_inB (a := 0) (b := 1) (by omega) (by omega) n1) (fun r hr => ?_)
      rcases hr with ⟨hr, -⟩ | ⟨-, rfl⟩
      · exact absurd hr hin
      · exact OK.t rfl (OK.s rfl)
    refine OK.i (fun q => OK.s (ref.mono (fun v hv => ⟨hv.symm, hT, hG', hS', hD, h0, h1⟩))) (fun q => OK.f (fun w => hin ((inB_le (by omega) (by omega)).mpr ⟨Int32.not_lt.mp q, w⟩)) (OK.s (ref.mono (fun v hv => ⟨hv.symm, hT, hG', hS', hD, h0, h1⟩))))
theorem op_seed : St_seed Inv := by
  intro b_theSeed b_text_length b_text_signs b_stock_words b_stock_learnt b_stock_letters b_stock_breaks b_stock_sizes b_stock_rules b_stock_hs b_index_known b_index_size b_index_numbers b_index_codes b_index_fits b_index_starts b_index_signs b_learning_levels b_learning_good b_learning_bad b_learning_digits b_doings_count b_doings_kinds b_doings_wheres b_doings_firsts b_doings_seconds b_tree_count b_tree_end b_tree_packed b_tree_isNode b_tree_bases b_tree_slots b_seen_count b_seen_places b_seen_digits b_seen_hads b_judging_learning_levels b_judging_learning_good b_judging_learning_bad b_judging_learning_digits b_judging_tried_words b_judging_tried_learnt b_judging_tried_letters b_judging_tried_breaks b_judging_tried_sizes b_judging_tried_rules b_judging_tried_hs b_chances_valued b_chances_rights b_shelves_0_words b_shelves_0_learnt b_shelves_0_letters b_shelves_0_breaks b_shelves_0_sizes b_shelves_0_rules b_shelves_0_hs b_shelves_1_words b_shelves_1_learnt b_shelves_1_letters b_shelves_1_breaks b_shelves_1_sizes b_shelves_1_rules b_shelves_1_hs b_onShelf m_thrown m_textSize m_doings m_seen m_seed m_signMany m_whichMany m_whichFirst m_text m_readPage m_page m_trial m_book m_kept m_isKept m_seenPlace m_seenDigit m_seenIs m_plan m_good m_bad m_signs m_digits m_isNode m_base m_slot m_value hI n1
  refine fin_seed ?_
  obtain ⟨hT, hG, hS, hD, h0, h1⟩ := hI
  unfold m_X10_seed m_X11_seed
  exact OK.s (OK.s ⟨hD, hT, hG, hS, rfl, h0, h1⟩)
theorem op_drawn : St_drawn Inv := by
  intro b_theSeed b_text_length b_text_signs b_stock_words b_stock_learnt b_stock_letters b_stock_breaks b_stock_sizes b_stock_rules b_stock_hs b_index_known b_index_size b_index_numbers b_index_codes b_index_fits b_index_starts b_index_signs b_learning_levels b_learning_good b_learning_bad b_learning_digits b_doings_count b_doings_kinds b_doings_wheres b_doings_firsts b_doings_seconds b_tree_count b_tree_end b_tree_packed b_tree_isNode b_tree_bases b_tree_slots b_seen_count b_seen_places b_seen_digits b_seen_hads b_judging_learning_levels b_judging_learning_good b_judging_learning_bad b_judging_learning_digits b_judging_tried_words b_judging_tried_learnt b_judging_tried_letters b_judging_tried_breaks b_judging_tried_sizes b_judging_tried_rules b_judging_tried_hs b_chances_valued b_chances_rights b_shelves_0_words b_shelves_0_learnt b_shelves_0_letters b_shelves_0_breaks b_shelves_0_sizes b_shelves_0_rules b_shelves_0_hs b_shelves_1_words b_shelves_1_learnt b_shelves_1_letters b_shelves_1_breaks b_shelves_1_sizes b_shelves_1_rules b_shelves_1_hs b_onShelf m_thrown m_textSize m_doings m_seen m_seed m_signMany m_whichMany m_whichFirst m_text m_readPage m_page m_trial m_book m_kept m_isKept m_seenPlace m_seenDigit m_seenIs m_plan m_good m_bad m_signs m_digits m_isNode m_base m_slot m_value hI n1
  refine fin_drawn ?_
  obtain ⟨hT, hG, hS, hD, h0, h1⟩ := hI
  have hG' := hG
  obtain ⟨P, n, hP, hst, ⟨m, cd, st, hn, hx, hl, hd⟩, htr, hch, rfl, rfl, hhs, hp⟩ := hG
  have hb := plS_4 hP 63
  have hlv := lvl_of hn hx (mask := 63) (t := pT P) hl
  subst hD
  by_cases hin : inB 1 20 n1
  · obtain ⟨a, a1, a2, rfl⟩ := hin
    refine (s_cDrawn a1 a2 hlv hb b_theSeed _ _).mono (fun u hu => (s_rDrawn hP hp a1 a2 _ b_theSeed _ _ _ _ _ _).mono (fun v hv => ⟨hu.1.trans hv.1.symm, hT, hG', hS, hu.2.trans hv.2.symm, h0, h1⟩))
  · have ref : OK (m_X11_drawn 3000 n1 m_thrown b_theSeed m_signMany m_page m_plan m_signs m_digits m_good m_bad) (fun v => v.1 = -2 ∧ b_theSeed = v.2.2.1) := by
      unfold m_X11_drawn
      refine OK.b1 (s_inB (a := 1) (b := 20) (by omega) (by omega) n1) (fun r hr => ?_)
      rcases hr with ⟨hr, -⟩ | ⟨-, rfl⟩
      · exact absurd hr hin
      · exact OK.t rfl (OK.s ⟨rfl, rfl⟩)
    unfold m_X10_drawn
    refine OK.i (fun q => OK.s (ref.mono (fun v hv => ⟨hv.1.symm, hT, hG', hS, hv.2, h0, h1⟩))) (fun q => OK.f (fun w => hin ((inB_le (by omega) (by omega)).mpr ⟨Int32.not_lt.mp q, w⟩)) (OK.s (ref.mono (fun v hv => ⟨hv.1.symm, hT, hG', hS, hv.2, h0, h1⟩))))
