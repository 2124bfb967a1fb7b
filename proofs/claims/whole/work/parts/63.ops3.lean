/-! ===== 63.ops3: the tree asked; a page kept ===== -/
theorem pcd_pos {c p t : Nat} (h : okW c) (ht : t < 9) (hf : pf c p t) : 1 ≤ pcd c p t / 4 := by
  have hs := (sSG t ht)
  have e1 : pcd c p t / 4 = strv (sg c) (p + 2 - sG t) (sS t) := by unfold pcd; omega
  rw [e1]
  obtain ⟨f1, f2⟩ := hf
  cases e : sS t with
  | zero => omega
  | succ n =>
    have := sg_p h (p + 2 - sG t + n) (by omega)
    show 1 ≤ 7 * strv (sg c) (p + 2 - sG t) n + sg c (p + 2 - sG t + n)
    omega
theorem plS_pos {P : Pg} (hP : pgOK P) {mask t k : Nat} (h : 0 < plS P mask t k) : 1 ≤ k / 4 := by
  obtain ⟨w, p, s, a1, a2, a3, a4, rfl⟩ := plS_known t h
  exact pcd_pos (hP.1.w a1).1 a3 a4
theorem nd_known {P : Pg} {m : Nat} {cd st : Nat → Nat} {known : Int32} {numbers codes fits starts : Nat → Int32} (hn : nmR m cd known numbers codes) (hx : ixR (pW P) (pL P) m cd st fits starts) {mask t : Nat} (k : Nat) : nodeB (plS P mask t) k = true ↔ ∃ j, j < m ∧ 0 < plS P mask t (cd j) ∧ ndOf (cd j) k := by
  rw [nodeB_iff]
  constructor
  · rintro ⟨c, h1, h2, h3⟩
    obtain ⟨w, p, s, a1, a2, a3, a4, a5⟩ := plS_known t h2
    obtain ⟨j, b1, b2, b3⟩ := (hx.2.2.2.2.2.2 w a1 p a2 s a3).1 a4
    have e : cd j = c := by rw [b3, a5]
    exact ⟨j, b1, by rw [e]; exact h2, by rw [e]; exact h3⟩
  · rintro ⟨j, h1, h2, h3⟩
    exact ⟨cd j, (hn.2.2.1 j h1).2.1, h2, h3⟩
theorem s_packedTree {P : Pg} (hP : pgOK P) {known : Int32} {numbers codes fits starts levels digits : Nat → Int32} (hln : lnR P known numbers codes fits starts levels digits) {cnt en pk : Int32} {bs sl : Nat → Int32} (ht : trR P cnt en pk bs sl) (f : Nat → Int32) : OK (m_X10_packedTree 3000 cnt en pk f sl bs known levels codes) (fun u => u.2.2.1 = 1 ∧ u.1 = nI (cntB (nodeB (plS P 63 (pT P)))) ∧ (∃ E, u.2.1 = nI E ∧ endR (pkS (nodeB (plS P 63 (pT P))) 49) E) ∧ slC (pkS (nodeB (plS P 63 (pT P))) 49) u.2.2.2.2.1 ∧ ∀ k, k < 49 → u.2.2.2.2.2 k = pkB (nodeB (plS P 63 (pT P))) k) := by
  unfold m_X10_packedTree
  obtain ⟨m, cd, st, hn, hx, hl, hd⟩ := hln
  rw [hn.1]
  exact OK.b6 (s_packFrom hx.1 (plS_4 hP 63) hl (fun j hj => ⟨(hn.2.2.1 j hj).1, (hn.2.2.1 j hj).2.1⟩) (fun k _ => nd_known hn hx k) ht) (fun z1 z2 z3 f4 f5 f6 hq => OK.s hq)
theorem trR_of {P : Pg} {cnt en pk : Int32} {bs sl : Nat → Int32} (h : pk = 1 ∧ cnt = nI (cntB (nodeB (plS P 63 (pT P)))) ∧ (∃ E, en = nI E ∧ endR (pkS (nodeB (plS P 63 (pT P))) 49) E) ∧ slC (pkS (nodeB (plS P 63 (pT P))) 49) sl ∧ ∀ k, k < 49 → bs k = pkB (nodeB (plS P 63 (pT P))) k) : trR P cnt en pk bs sl := Or.inr h
theorem s_rPack {P : Pg} (hP : pgOK P) {plan : Nat → Int32} (hpl : tabR plan (plS P 63 (pT P))) (f b s : Nat → Int32) : OK (m_X11_pack 3000 f b plan s) (fun u => nbR (nodeB (plS P 63 (pT P))) u.1 ∧ (∀ k, k < 343 → u.2.1 k = if k < 49 then pkB (nodeB (plS P 63 (pT P))) k else -9) ∧ slM (pkS (nodeB (plS P 63 (pT P))) 49) u.2.2) := s_pack (plS_4 hP 63) (fun c h => plS_pos hP h) hpl f b s
theorem op_about : St_about Inv := by
  intro b_theSeed b_text_length b_text_signs b_stock_words b_stock_learnt b_stock_letters b_stock_breaks b_stock_sizes b_stock_rules b_stock_hs b_index_known b_index_size b_index_numbers b_index_codes b_index_fits b_index_starts b_index_signs b_learning_levels b_learning_good b_learning_bad b_learning_digits b_doings_count b_doings_kinds b_doings_wheres b_doings_firsts b_doings_seconds b_tree_count b_tree_end b_tree_packed b_tree_isNode b_tree_bases b_tree_slots b_seen_count b_seen_places b_seen_digits b_seen_hads b_judging_learning_levels b_judging_learning_good b_judging_learning_bad b_judging_learning_digits b_judging_tried_words b_judging_tried_learnt b_judging_tried_letters b_judging_tried_breaks b_judging_tried_sizes b_judging_tried_rules b_judging_tried_hs b_chances_valued b_chances_rights b_shelves_0_words b_shelves_0_learnt b_shelves_0_letters b_shelves_0_breaks b_shelves_0_sizes b_shelves_0_rules b_shelves_0_hs b_shelves_1_words b_shelves_1_learnt b_shelves_1_letters b_shelves_1_breaks b_shelves_1_sizes b_shelves_1_rules b_shelves_1_hs b_onShelf m_thrown m_textSize m_doings m_seen m_seed m_signMany m_whichMany m_whichFirst m_text m_readPage m_page m_trial m_book m_kept m_isKept m_seenPlace m_seenDigit m_seenIs m_plan m_good m_bad m_signs m_digits m_isNode m_base m_slot m_value hI n1
  refine fin_about ?_
  obtain ⟨hT, hG, hS, hD, h0, h1⟩ := hI
  have hG' := hG
  have hT' := hT
  have hS' := hS
  obtain ⟨P, n, hP, hst, hln, htr, hch, rfl, rfl, hhs, hp⟩ := hG
  have hst2 := hst
  have hln2 := hln
  obtain ⟨rfl, rfl, s3, s4⟩ := hst
  obtain ⟨m, cd, st, hn, hx, hl, hd⟩ := hln
  obtain ⟨N, ta, hN, rfl, rfl, t1, t2⟩ := hT
  obtain ⟨sn, sp, sd, sh, rfl, rfl, u1, u2⟩ := hS
  have hb := plS_4 hP 63
  have hTt := hP.2.2.2
  have hsz : ∀ w, w < pW P → b_stock_sizes w = nI (dl (pL P w)) := fun w hw => (s3 w hw).2.2
  have hbr : ∀ w, w < pW P → b_stock_breaks w = nI (pB P w) := fun w hw => (s3 w hw).2.1
  unfold m_X10_about m_X11_about
  refine OK.i (fun q0 => OK.s ?_) (fun q0 => ?_)
  · refine OK.b6 (s_learnAll hP hp m_signMany m_plan m_signs m_digits m_good m_bad) (fun z1 f2 f3 f4 f5 f6 hq => OK.b3 (s_rPack hP hq.1 m_isNode m_base m_slot) (fun f7 f8 f9 hw => ?_))
    exact OK.t q0 (OK.rd 0 rfl (by omega) (OK.s ⟨hp.1.symm, hT', hG', hS', hD, h0, h1⟩))
  refine OK.i (fun q1 => OK.b1 (s_allPlaces hP rfl hsz) (fun r hr => OK.s ?_)) (fun q1 => ?_)
  · refine OK.b6 (s_learnAll hP hp m_signMany m_plan m_signs m_digits m_good m_bad) (fun z1 f2 f3 f4 f5 f6 hq => OK.b3 (s_rPack hP hq.1 m_isNode m_base m_slot) (fun f7 f8 f9 hw => ?_))
    exact OK.f q0 (OK.t q1 (OK.b1 (s_placesOf hP hp) (fun r' hr' => OK.s ⟨hr.trans hr'.symm, hT', hG', hS', hD, h0, h1⟩)))
  refine OK.i (fun q2 => OK.b1 (s_rightPlaces hP hb rfl hd hsz hbr) (fun r hr => OK.s ?_)) (fun q2 => ?_)
  · refine OK.b6 (s_learnAll hP hp m_signMany m_plan m_signs m_digits m_good m_bad) (fun z1 f2 f3 f4 f5 f6 hq => OK.b3 (s_rPack hP hq.1 m_isNode m_base m_slot) (fun f7 f8 f9 hw => ?_))
    exact OK.f q0 (OK.f q1 (OK.t q2 (OK.b1 (s_rightOfAll hP hp hb hq.2) (fun r' hr' => OK.s ⟨hr.trans hr'.symm, hT', hG', hS', hD, h0, h1⟩))))
  refine OK.i (fun q3 => OK.s ?_) (fun q3 => ?_)
  · refine OK.b6 (s_learnAll hP hp m_signMany m_plan m_signs m_digits m_good m_bad) (fun z1 f2 f3 f4 f5 f6 hq => OK.b3 (s_rPack hP hq.1 m_isNode m_base m_slot) (fun f7 f8 f9 hw => ?_))
    exact OK.f q0 (OK.f q1 (OK.f q2 (OK.t q3 (OK.rd 21 rfl (by omega) (OK.s ⟨hp.2.2.2.symm, hT', hG', hS', hD, h0, h1⟩)))))
  refine OK.i (fun q4 => OK.b1 (c_countAll hn hx hTt hl) (fun r hr => OK.s ?_)) (fun q4 => ?_)
  · refine OK.b6 (s_learnAll hP hp m_signMany m_plan m_signs m_digits m_good m_bad) (fun z1 f2 f3 f4 f5 f6 hq => OK.b3 (s_rPack hP hq.1 m_isNode m_base m_slot) (fun f7 f8 f9 hw => ?_))
    exact OK.f q0 (OK.f q1 (OK.f q2 (OK.f q3 (OK.t q4 (OK.b1 (s_patternsOf (lev := 0) hq.1 hb (by omega)) (fun r' hr' => OK.s ⟨hr.trans hr'.symm, hT', hG', hS', hD, h0, h1⟩))))))
  refine OK.i (fun q5 => OK.b1 (s_wrongWords hP hb rfl hd hsz hbr) (fun r hr => OK.s ?_)) (fun q5 => ?_)
  · refine OK.b6 (s_learnAll hP hp m_signMany m_plan m_signs m_digits m_good m_bad) (fun z1 f2 f3 f4 f5 f6 hq => OK.b3 (s_rPack hP hq.1 m_isNode m_base m_slot) (fun f7 f8 f9 hw => ?_))
    exact OK.f q0 (OK.f q1 (OK.f q2 (OK.f q3 (OK.f q4 (OK.t q5 (OK.b1 (s_rWrongWords hP hp hb hq.2) (fun r' hr' => OK.s ⟨hr.trans hr'.symm, hT', hG', hS', hD, h0, h1⟩)))))))
  refine OK.i (fun q6 => OK.b6 (s_packedTree hP hln2 htr b_tree_isNode) (fun z11 z12 z13 g14 g15 g16 hg => OK.s ?_)) (fun q6 => ?_)
  · refine OK.b6 (s_learnAll hP hp m_signMany m_plan m_signs m_digits m_good m_bad) (fun z1 f2 f3 f4 f5 f6 hq => OK.b3 (s_rPack hP hq.1 m_isNode m_base m_slot) (fun f7 f8 f9 hw => ?_))
    exact OK.f q0 (OK.f q1 (OK.f q2 (OK.f q3 (OK.f q4 (OK.f q5 (OK.t q6 (OK.b1 (s_nodes hw.1) (fun r' hr' => OK.s ⟨hg.2.1.trans hr'.symm, hT', ⟨P, n, hP, hst2, hln2, trR_of hg, hch, rfl, rfl, hhs, hp⟩, hS', hD, h0, h1⟩))))))))
  refine OK.i (fun q7 => OK.b6 (s_packedTree hP hln2 htr b_tree_isNode) (fun z11 z12 z13 g14 g15 g16 hg => OK.s ?_)) (fun q7 => ?_)
  · refine OK.b6 (s_learnAll hP hp m_signMany m_plan m_signs m_digits m_good m_bad) (fun z1 f2 f3 f4 f5 f6 hq => OK.b3 (s_rPack hP hq.1 m_isNode m_base m_slot) (fun f7 f8 f9 hw => ?_))
    obtain ⟨E, e1, e2⟩ := hg.2.2.1
    exact OK.f q0 (OK.f q1 (OK.f q2 (OK.f q3 (OK.f q4 (OK.f q5 (OK.f q6 (OK.t q7 (OK.b1 (s_slots (pkS_b _ 49 (by omega)) hw.2.2 e2) (fun r' hr' => OK.s ⟨e1.trans hr'.symm, hT', ⟨P, n, hP, hst2, hln2, trR_of hg, hch, rfl, rfl, hhs, hp⟩, hS', hD, h0, h1⟩)))))))))
  refine OK.i (fun q8 => OK.s ?_) (fun q8 => ?_)
  · refine OK.b6 (s_learnAll hP hp m_signMany m_plan m_signs m_digits m_good m_bad) (fun z1 f2 f3 f4 f5 f6 hq => OK.b3 (s_rPack hP hq.1 m_isNode m_base m_slot) (fun f7 f8 f9 hw => ?_))
    exact OK.f q0 (OK.f q1 (OK.f q2 (OK.f q3 (OK.f q4 (OK.f q5 (OK.f q6 (OK.f q7 (OK.t q8 (OK.s ⟨rfl, hT', hG', hS', hD, h0, h1⟩)))))))))
  refine OK.i (fun q9 => OK.s ?_) (fun q9 => ?_)
  · refine OK.b6 (s_learnAll hP hp m_signMany m_plan m_signs m_digits m_good m_bad) (fun z1 f2 f3 f4 f5 f6 hq => OK.b3 (s_rPack hP hq.1 m_isNode m_base m_slot) (fun f7 f8 f9 hw => ?_))
    exact OK.f q0 (OK.f q1 (OK.f q2 (OK.f q3 (OK.f q4 (OK.f q5 (OK.f q6 (OK.f q7 (OK.f q8 (OK.t q9 (OK.s ⟨rfl, hT', hG', hS', hD, h0, h1⟩))))))))))
  refine OK.i (fun q10 => OK.s ?_) (fun q10 => OK.s ?_)
  · refine OK.b6 (s_learnAll hP hp m_signMany m_plan m_signs m_digits m_good m_bad) (fun z1 f2 f3 f4 f5 f6 hq => OK.b3 (s_rPack hP hq.1 m_isNode m_base m_slot) (fun f7 f8 f9 hw => ?_))
    exact OK.f q0 (OK.f q1 (OK.f q2 (OK.f q3 (OK.f q4 (OK.f q5 (OK.f q6 (OK.f q7 (OK.f q8 (OK.f q9 (OK.t q10 (OK.s ⟨rfl, hT', hG', hS', hD, h0, h1⟩)))))))))))
  · refine OK.b6 (s_learnAll hP hp m_signMany m_plan m_signs m_digits m_good m_bad) (fun z1 f2 f3 f4 f5 f6 hq => OK.b3 (s_rPack hP hq.1 m_isNode m_base m_slot) (fun f7 f8 f9 hw => ?_))
    exact OK.f q0 (OK.f q1 (OK.f q2 (OK.f q3 (OK.f q4 (OK.f q5 (OK.f q6 (OK.f q7 (OK.f q8 (OK.f q9 (OK.f q10 (OK.s ⟨rfl, hT', hG', hS', hD, h0, h1⟩)))))))))))
theorem s_baseOf {k : Nat} (hk : k < 343) (bs : Nat → Int32) : OK (m_X9_baseOf 3000 (nI k) bs) (fun r => r = if k < 49 then bs k else -9) := by
  unfold m_X9_baseOf
  refine OK.lt k 0 (by omega) (by omega) (fun q => by omega) (fun _ => ?_)
  refine OK.le 49 k (by omega) (by omega) (fun q => OK.s (by rw [if_neg (by omega)])) (fun q => OK.rd k rfl q (OK.s (by rw [if_pos q])))
theorem op_base : St_base Inv := by
  intro b_theSeed b_text_length b_text_signs b_stock_words b_stock_learnt b_stock_letters b_stock_breaks b_stock_sizes b_stock_rules b_stock_hs b_index_known b_index_size b_index_numbers b_index_codes b_index_fits b_index_starts b_index_signs b_learning_levels b_learning_good b_learning_bad b_learning_digits b_doings_count b_doings_kinds b_doings_wheres b_doings_firsts b_doings_seconds b_tree_count b_tree_end b_tree_packed b_tree_isNode b_tree_bases b_tree_slots b_seen_count b_seen_places b_seen_digits b_seen_hads b_judging_learning_levels b_judging_learning_good b_judging_learning_bad b_judging_learning_digits b_judging_tried_words b_judging_tried_learnt b_judging_tried_letters b_judging_tried_breaks b_judging_tried_sizes b_judging_tried_rules b_judging_tried_hs b_chances_valued b_chances_rights b_shelves_0_words b_shelves_0_learnt b_shelves_0_letters b_shelves_0_breaks b_shelves_0_sizes b_shelves_0_rules b_shelves_0_hs b_shelves_1_words b_shelves_1_learnt b_shelves_1_letters b_shelves_1_breaks b_shelves_1_sizes b_shelves_1_rules b_shelves_1_hs b_onShelf m_thrown m_textSize m_doings m_seen m_seed m_signMany m_whichMany m_whichFirst m_text m_readPage m_page m_trial m_book m_kept m_isKept m_seenPlace m_seenDigit m_seenIs m_plan m_good m_bad m_signs m_digits m_isNode m_base m_slot m_value hI n1
  refine fin_base ?_
  obtain ⟨hT, hG, hS, hD, h0, h1⟩ := hI
  have hG' := hG
  obtain ⟨P, n, hP, hst, hln, htr, hch, rfl, rfl, hhs, hp⟩ := hG
  unfold m_X10_base m_X11_base
  have main : ∀ c, (c = 0 ∨ isF c = true) → n1 = nI c → OK (bK6 (m_X10_packedTree 3000 b_tree_count b_tree_end b_tree_packed b_tree_isNode b_tree_slots b_tree_bases b_index_known b_learning_levels b_index_codes) (fun z3 z4 z5 f6 f7 f8 => bK1 (m_X9_baseOf 3000 (nI (nd c)) f8) (fun r9 => some (r9, z3, z4, z5, f6, f7, f8)))) (fun u => u.1 = (if nd c < 49 then pkB (nodeB (plS P 63 (pT P))) (nd c) else -9) ∧ trR P u.2.1 u.2.2.1 u.2.2.2.1 u.2.2.2.2.2.2 u.2.2.2.2.2.1) := by
    intro c hc e
    have hnd : nd c < 343 := by
      rcases hc with q | q
      · subst q; decide
      · exact (bf_F c (by have := isF_b q; omega) q).1
    refine OK.b6 (s_packedTree hP hln htr b_tree_isNode) (fun z11 z12 z13 g14 g15 g16 hg => ?_)
    refine OK.b1 (s_baseOf hnd g16) (fun r hr => OK.s ⟨?_, trR_of hg⟩)
    show r = _
    rw [hr]
    by_cases q : nd c < 49
    · rw [if_pos q, if_pos q]; exact hg.2.2.2.2 _ q
    · rw [if_neg q, if_neg q]
  have ref : ∀ c, (c = 0 ∨ isF c = true) → n1 = nI c → OK (bK6 (m_X11_learnAll 3000 m_signMany m_page m_plan m_signs m_digits m_good m_bad) (fun z2 f3 f4 f5 f6 f7 => bK3 (m_X11_pack 3000 m_isNode m_base f3 m_slot) (fun f8 f9 f10 => bK1 (m_X11_sevens 3000 n1) (fun r11 => rdK 343 f9 r11 (fun v12 => some (v12, (0 : Int32), z2, f3, f4, f5, f6, f7, f8, f9, f10)))))) (fun v => v.1 = if nd c < 49 then pkB (nodeB (plS P 63 (pT P))) (nd c) else -9) := by
    intro c hc e
    subst e
    have hnd : nd c < 343 ∧ c < 1000 := by
      rcases hc with q | q
      · subst q; decide
      · exact ⟨(bf_F c (by have := isF_b q; omega) q).1, by have := isF_b q; omega⟩
    refine OK.b6 (s_learnAll hP hp m_signMany m_plan m_signs m_digits m_good m_bad) (fun z1 f2 f3 f4 f5 f6 hq => OK.b3 (s_rPack hP hq.1 m_isNode m_base m_slot) (fun f7 f8 f9 hw => ?_))
    refine OK.b1 (Q := fun r => r = nI (nd c)) ⟨_, bf_sevens c hnd.2, rfl⟩ (fun r hr => ?_)
    subst hr
    exact OK.rd (nd c) rfl hnd.1 (OK.s (hw.2.1 _ hnd.1))
  refine OK.ju1 ?_
  refine OK.i (fun q => ?_) (fun q => ?_)
  · have q' : n1 = nI 0 := q
    refine OK.t (by decide) ((main 0 (Or.inl rfl) q').mono (fun u hu => ?_))
    refine OK.ju0 (OK.t q ((ref 0 (Or.inl rfl) q').mono (fun v hv => ⟨hu.1.trans hv.symm, hT, ⟨P, n, hP, hst, hln, hu.2, hch, rfl, rfl, hhs, hp⟩, hS, hD, h0, h1⟩)))
  · refine OK.b1 (s_nodeOf n1) (fun r hr => ?_)
    rcases hr with ⟨c, hc, e, rfl⟩ | ⟨hr, rfl⟩
    · have hnd := (bf_F c (by have := isF_b hc; omega) hc).1
      refine OK.t (nI_pos' (by omega)) ((main c (Or.inr hc) e).mono (fun u hu => ?_))
      refine OK.ju0 (OK.f q (OK.b1 (s_rAreF n1) (fun r hr => ?_)))
      rcases hr with ⟨-, -, -, rfl⟩ | ⟨hr, -⟩
      · exact OK.f (by decide) ((ref c (Or.inr hc) e).mono (fun v hv => ⟨hu.1.trans hv.symm, hT, ⟨P, n, hP, hst, hln, hu.2, hch, rfl, rfl, hhs, hp⟩, hS, hD, h0, h1⟩))
      · exact absurd e (hr c hc)
    · refine OK.f (by decide) (OK.s ?_)
      refine OK.ju0 (OK.f q (OK.b1 (s_rAreF n1) (fun r hr2 => ?_)))
      rcases hr2 with ⟨c, hc, e, -⟩ | ⟨-, rfl⟩
      · exact absurd e (hr c hc)
      · exact OK.t rfl (OK.s ⟨rfl, hT, hG', hS, hD, h0, h1⟩)
theorem bf_figs : ∀ n, n < 343 → (m_X2_figuresOf 3000 (nI n)).isSome = true := by decide +kernel
theorem op_slot : St_slot Inv := by
  intro b_theSeed b_text_length b_text_signs b_stock_words b_stock_learnt b_stock_letters b_stock_breaks b_stock_sizes b_stock_rules b_stock_hs b_index_known b_index_size b_index_numbers b_index_codes b_index_fits b_index_starts b_index_signs b_learning_levels b_learning_good b_learning_bad b_learning_digits b_doings_count b_doings_kinds b_doings_wheres b_doings_firsts b_doings_seconds b_tree_count b_tree_end b_tree_packed b_tree_isNode b_tree_bases b_tree_slots b_seen_count b_seen_places b_seen_digits b_seen_hads b_judging_learning_levels b_judging_learning_good b_judging_learning_bad b_judging_learning_digits b_judging_tried_words b_judging_tried_learnt b_judging_tried_letters b_judging_tried_breaks b_judging_tried_sizes b_judging_tried_rules b_judging_tried_hs b_chances_valued b_chances_rights b_shelves_0_words b_shelves_0_learnt b_shelves_0_letters b_shelves_0_breaks b_shelves_0_sizes b_shelves_0_rules b_shelves_0_hs b_shelves_1_words b_shelves_1_learnt b_shelves_1_letters b_shelves_1_breaks b_shelves_1_sizes b_shelves_1_rules b_shelves_1_hs b_onShelf m_thrown m_textSize m_doings m_seen m_seed m_signMany m_whichMany m_whichFirst m_text m_readPage m_page m_trial m_book m_kept m_isKept m_seenPlace m_seenDigit m_seenIs m_plan m_good m_bad m_signs m_digits m_isNode m_base m_slot m_value hI n1
  refine fin_slot ?_
  obtain ⟨hT, hG, hS, hD, h0, h1⟩ := hI
  have hG' := hG
  obtain ⟨P, n, hP, hst, hln, htr, hch, rfl, rfl, hhs, hp⟩ := hG
  unfold m_X10_slot m_X11_slot
  refine OK.i (fun q => ?_) (fun q => OK.s (OK.f q (OK.s ⟨rfl, hT, hG', hS, hD, h0, h1⟩)))
  obtain ⟨i, hi, rfl⟩ := nI_of (Int32.not_lt.mpr q)
  refine OK.b6 (s_packedTree hP hln htr b_tree_isNode) (fun z11 z12 z13 g14 g15 g16 hg => ?_)
  have hpb := pkS_b (nodeB (plS P 63 (pT P))) 49 (by omega)
  have hsl : slC (pkS (nodeB (plS P 63 (pT P))) 49) g15 := hg.2.2.2.1
  have ref : ∀ r : Int32, (i < 301 ∧ pkS (nodeB (plS P 63 (pT P))) 49 i ≠ 0 → m_X2_figuresOf 3000 (nI (pkS (nodeB (plS P 63 (pT P))) 49 i)) = some r) → (¬ (i < 301 ∧ pkS (nodeB (plS P 63 (pT P))) 49 i ≠ 0) → r = -9) → OK (if 0 ≤ nI i then bK6 (m_X11_learnAll 3000 m_signMany m_page m_plan m_signs m_digits m_good m_bad) (fun z1 f2 f3 f4 f5 f6 => bK3 (m_X11_pack 3000 m_isNode m_base f2 m_slot) (fun f7 f8 f9 => jn0 (some ((-9 : Int32), (0 : Int32), z1, f2, f3, f4, f5, f6, f7, f8, f9)) (fun k10 => if 1600 ≤ nI i then k10 else rdK 1600 f9 (nI i) (fun v11 => if v11 = (-9) then k10 else rdK 1600 f9 (nI i) (fun v12 => bK1 (m_X11_figures 3000 v12) (fun r13 => some (r13, 0, z1, f2, f3, f4, f5, f6, f7, f8, f9))))))) else some ((-2), 0, m_signMany, m_plan, m_signs, m_digits, m_good, m_bad, m_isNode, m_base, m_slot)) (fun v => r = v.1) := by
    intro r hr1 hr2
    refine OK.t q ?_
    refine OK.b6 (s_learnAll hP hp m_signMany m_plan m_signs m_digits m_good m_bad) (fun z1 f2 f3 f4 f5 f6 hq => OK.b3 (s_rPack hP hq.1 m_isNode m_base m_slot) (fun f7 f8 f9 hw => ?_))
    have hm : slM (pkS (nodeB (plS P 63 (pT P))) 49) f9 := hw.2.2
    refine OK.j0 (¬ (i < 301 ∧ pkS (nodeB (plS P 63 (pT P))) 49 i ≠ 0)) (fun w => OK.s (hr2 w)) (fun k hk => ?_)
    refine OK.le 1600 i (by omega) hi (fun w => hk (by omega)) (fun w => ?_)
    refine OK.rd i rfl w ?_
    rw [hm i w]
    by_cases e : pkS (nodeB (plS P 63 (pT P))) 49 i = 0
    · rw [if_pos e]
      exact OK.t rfl (hk (fun v => v.2 e))
    · have h301 : i < 301 := by
        rcases Nat.lt_or_ge i 301 with v | v
        · exact v
        · exact absurd (pkS_hi _ 49 (by omega) i (by omega)) e
      rw [if_neg e]
      have := hpb i
      refine OK.f (n_m9 (by omega)) (OK.rd i rfl w ?_)
      rw [hm i w, if_neg e]
      have e2 := hr1 ⟨h301, e⟩
      rw [bf_figuresOf _ (hpb i)] at e2
      exact OK.b1 (Q := fun x => x = r) ⟨_, e2, rfl⟩ (fun x hx => OK.s hx.symm)
  unfold m_X9_nodeIn
  refine OK.b1 (Q := fun r => (i < 301 ∧ pkS (nodeB (plS P 63 (pT P))) 49 i ≠ 0 → m_X2_figuresOf 3000 (nI (pkS (nodeB (plS P 63 (pT P))) 49 i)) = some r) ∧ (¬ (i < 301 ∧ pkS (nodeB (plS P 63 (pT P))) 49 i ≠ 0) → r = -9)) ?_ (fun r hr => OK.s ((ref r hr.1 hr.2).mono (fun v hv => ⟨hv, hT, ⟨P, n, hP, hst, hln, trR_of hg, hch, rfl, rfl, hhs, hp⟩, hS, hD, h0, h1⟩)))
  refine OK.j1 (fun y => (y = 0 ∧ (i < 301 ∧ pkS (nodeB (plS P 63 (pT P))) 49 i ≠ 0)) ∨ (y = 1 ∧ ¬ (i < 301 ∧ pkS (nodeB (plS P 63 (pT P))) 49 i ≠ 0))) ?_ (fun k hk => ?_)
  · rintro y (⟨rfl, hy⟩ | ⟨rfl, hy⟩)
    · refine OK.t rfl (OK.rd i rfl hy.1 ?_)
      rw [hsl i hy.1]
      have := bf_figs _ (hpb i)
      cases e : m_X2_figuresOf 3000 (nI (pkS (nodeB (plS P 63 (pT P))) 49 i)) with
      | none => rw [e] at this; cases this
      | some r => exact OK.b1 (Q := fun x => x = r) ⟨_, rfl, rfl⟩ (fun x hx => OK.s ⟨fun _ => by rw [hx], fun w => absurd hy w⟩)
    · exact OK.f (by decide) (OK.s ⟨fun w => absurd w hy, fun _ => rfl⟩)
  · refine OK.j0 (¬ (i < 301 ∧ pkS (nodeB (plS P 63 (pT P))) 49 i ≠ 0)) (fun w => hk _ (Or.inr ⟨rfl, w⟩)) (fun k2 hk2 => ?_)
    refine OK.lt i 0 hi (by omega) (fun w => by omega) (fun _ => ?_)
    refine OK.le 301 i (by omega) hi (fun w => hk2 (by omega)) (fun w => OK.rd i rfl w ?_)
    rw [hsl i w]
    have := hpb i
    exact OK.eq _ 0 (by omega) (by omega) (fun e => hk2 (fun v => v.2 e)) (fun e => hk _ (Or.inl ⟨rfl, w, e⟩))
theorem s_rKeep {P : Pg} (hP : pgOK P) {p1 : Nat → Int32} (hp : pageR P p1) {i : Nat} (hi : i ≤ 1) (th : Int32) (isK kept : Nat → Int32) : OK (m_X11_keep 3000 (nI i) th isK kept p1) (fun v => v.1 = nI (pW P) ∧ v.2.2.1 = upd isK i 1 ∧ (∀ k, k < 22 → v.2.2.2 (22 * i + k) = p1 k) ∧ ∀ j, j < 22 * i ∨ 22 * i + 22 ≤ j → v.2.2.2 j = kept j) := by
  unfold m_X11_keep
  refine OK.b1 (s_inB (a := 0) (b := 1) (by omega) (by omega) (nI i)) (fun r hr => ?_)
  rcases hr with ⟨-, rfl⟩ | ⟨hr, -⟩
  rotate_left
  · exact absurd ⟨i, by omega, hi, rfl⟩ hr
  refine OK.f (by decide) (OK.st i rfl (by omega) ?_)
  rw [nar1]
  refine OK.w2 (fun t x g => x = nI t ∧ (∀ k, k < t → g (22 * i + k) = p1 k) ∧ ∀ j, j < 22 * i ∨ 22 * i + 22 ≤ j → g j = kept j) 22 ?_ (by omega) ⟨rfl, fun k hk => absurd hk (Nat.not_lt_zero _), fun _ _ => rfl⟩
  rintro t x g k ⟨rfl, a1, a2⟩ ht hk
  refine OK.le 22 t (by omega) (by omega) (fun e => OK.rd 0 rfl (by omega) (OK.s ⟨hp.1, rfl, by rw [show t = 22 by omega] at a1; exact a1, a2⟩)) (fun e => ?_)
  refine OK.rd t rfl e (OK.st (22 * i + t) (by rw [show (22 : Int32) = nI 22 from rfl, pk_mul, nI_add]) (by omega) ?_)
  refine hk e _ _ ⟨nI_1 t, fun j hj => ?_, fun j hj => ?_⟩
  · by_cases q : j = t
    · subst q; exact upd_s _ _ _
    · rw [upd_n _ _ (by omega)]; exact a1 j (by omega)
  · rw [upd_n _ _ (by omega)]; exact a2 j hj
theorem op_keep : St_keep Inv := by
  intro b_theSeed b_text_length b_text_signs b_stock_words b_stock_learnt b_stock_letters b_stock_breaks b_stock_sizes b_stock_rules b_stock_hs b_index_known b_index_size b_index_numbers b_index_codes b_index_fits b_index_starts b_index_signs b_learning_levels b_learning_good b_learning_bad b_learning_digits b_doings_count b_doings_kinds b_doings_wheres b_doings_firsts b_doings_seconds b_tree_count b_tree_end b_tree_packed b_tree_isNode b_tree_bases b_tree_slots b_seen_count b_seen_places b_seen_digits b_seen_hads b_judging_learning_levels b_judging_learning_good b_judging_learning_bad b_judging_learning_digits b_judging_tried_words b_judging_tried_learnt b_judging_tried_letters b_judging_tried_breaks b_judging_tried_sizes b_judging_tried_rules b_judging_tried_hs b_chances_valued b_chances_rights b_shelves_0_words b_shelves_0_learnt b_shelves_0_letters b_shelves_0_breaks b_shelves_0_sizes b_shelves_0_rules b_shelves_0_hs b_shelves_1_words b_shelves_1_learnt b_shelves_1_letters b_shelves_1_breaks b_shelves_1_sizes b_shelves_1_rules b_shelves_1_hs b_onShelf m_thrown m_textSize m_doings m_seen m_seed m_signMany m_whichMany m_whichFirst m_text m_readPage m_page m_trial m_book m_kept m_isKept m_seenPlace m_seenDigit m_seenIs m_plan m_good m_bad m_signs m_digits m_isNode m_base m_slot m_value hI n1
  refine fin_keep ?_
  obtain ⟨hT, hG, hS, hD, h0, h1⟩ := hI
  have hG' := hG
  obtain ⟨P, n, hP, hst, hln, htr, hch, rfl, rfl, hhs, hp⟩ := hG
  unfold m_X10_keep
  refine OK.b1 (s_isShelf n1) (fun r hr => ?_)
  rcases hr with ⟨⟨i, i0, i1, rfl⟩, rfl⟩ | ⟨hr, rfl⟩
  · refine OK.f (by decide) ?_
    refine OK.eq i 0 (by omega) (by omega) (fun e => ?_) (fun e => ?_)
    · subst e
      refine OK.b7 (s_copyFrom hP hst _ _ _ _ _ _ _) (fun z4 z5 f6 f7 f8 f9 f10 hq => OK.st 0 rfl (by omega) (OK.s ?_))
      rw [nar1]
      have ua : ∀ f : Nat → Int32, upd f 0 1 0 = 1 := fun f => upd_s _ _ _
      have ub : ∀ f : Nat → Int32, upd f 0 1 1 = f 1 := fun f => upd_n _ _ (by omega)
      refine (s_rKeep hP hp (i := 0) (by omega) m_thrown m_isKept m_kept).mono (fun v hv => ?_)
      obtain ⟨v1, v2, v3, v4⟩ := hv
      refine ⟨hst.1.trans v1.symm, hT, hG', hS, hD, Or.inr ⟨ua b_onShelf, by rw [v2]; exact ua m_isKept, P, hP, hq, hp.c hP (fun k hk => v3 k hk)⟩, ?_⟩
      rcases h1 with ⟨a, b⟩ | ⟨a, b, Q, c, d, f⟩
      · exact Or.inl ⟨(ub b_onShelf).trans a, by rw [v2]; exact (ub m_isKept).trans b⟩
      · exact Or.inr ⟨(ub b_onShelf).trans a, by rw [v2]; exact (ub m_isKept).trans b, Q, c, d, f.c c (fun k hk => v4 _ (by omega))⟩
    · have e1 : i = 1 := by omega
      subst e1
      refine OK.t rfl ?_
      refine OK.b7 (s_copyFrom hP hst _ _ _ _ _ _ _) (fun z4 z5 f6 f7 f8 f9 f10 hq => OK.st 1 rfl (by omega) (OK.s ?_))
      rw [nar1]
      have ua : ∀ f : Nat → Int32, upd f 1 1 1 = 1 := fun f => upd_s _ _ _
      have ub : ∀ f : Nat → Int32, upd f 1 1 0 = f 0 := fun f => upd_n _ _ (by omega)
      refine (s_rKeep hP hp (i := 1) (by omega) m_thrown m_isKept m_kept).mono (fun v hv => ?_)
      obtain ⟨v1, v2, v3, v4⟩ := hv
      refine ⟨hst.1.trans v1.symm, hT, hG', hS, hD, ?_, Or.inr ⟨ua b_onShelf, by rw [v2]; exact ua m_isKept, P, hP, hq, hp.c hP (fun k hk => v3 k hk)⟩⟩
      rcases h0 with ⟨a, b⟩ | ⟨a, b, Q, c, d, f⟩
      · exact Or.inl ⟨(ub b_onShelf).trans a, by rw [v2]; exact (ub m_isKept).trans b⟩
      · exact Or.inr ⟨(ub b_onShelf).trans a, by rw [v2]; exact (ub m_isKept).trans b, Q, c, d, f.c c (fun k hk => v4 _ (by omega))⟩
  · refine OK.t rfl (OK.s ?_)
    unfold m_X11_keep
    refine OK.b1 (s_inB (a := 0) (b := 1) (by omega) (by omega) n1) (fun r hr2 => ?_)
    rcases hr2 with ⟨hr2, -⟩ | ⟨-, rfl⟩
    · exact absurd hr2 hr
    · exact OK.t rfl (OK.s ⟨rfl, hT, hG', hS, hD, h0, h1⟩)
