/-! ===== 61.ops1: calls that only ask ===== -/
theorem tx_push {N v : Nat} {a : Nat → Nat} {f : Nat → Int32} (h : txR N a f) (hv : v ≤ 255) : txR (N + 1) (upN a N v) (upd f N (nI v)) := by
  intro i hi
  by_cases e : i = N
  · subst e; rw [upd_s, upN_s]; exact ⟨rfl, hv⟩
  · rw [upd_n _ _ e, upN_n _ _ e]; exact h i (by omega)
theorem op_write : St_write Inv := by
  intro b_theSeed b_text_length b_text_signs b_stock_words b_stock_learnt b_stock_letters b_stock_breaks b_stock_sizes b_stock_rules b_stock_hs b_index_known b_index_size b_index_numbers b_index_codes b_index_fits b_index_starts b_index_signs b_learning_levels b_learning_good b_learning_bad b_learning_digits b_doings_count b_doings_kinds b_doings_wheres b_doings_firsts b_doings_seconds b_tree_count b_tree_end b_tree_packed b_tree_isNode b_tree_bases b_tree_slots b_seen_count b_seen_places b_seen_digits b_seen_hads b_judging_learning_levels b_judging_learning_good b_judging_learning_bad b_judging_learning_digits b_judging_tried_words b_judging_tried_learnt b_judging_tried_letters b_judging_tried_breaks b_judging_tried_sizes b_judging_tried_rules b_judging_tried_hs b_chances_valued b_chances_rights b_shelves_0_words b_shelves_0_learnt b_shelves_0_letters b_shelves_0_breaks b_shelves_0_sizes b_shelves_0_rules b_shelves_0_hs b_shelves_1_words b_shelves_1_learnt b_shelves_1_letters b_shelves_1_breaks b_shelves_1_sizes b_shelves_1_rules b_shelves_1_hs b_onShelf m_thrown m_textSize m_doings m_seen m_seed m_signMany m_whichMany m_whichFirst m_text m_readPage m_page m_trial m_book m_kept m_isKept m_seenPlace m_seenDigit m_seenIs m_plan m_good m_bad m_signs m_digits m_isNode m_base m_slot m_value hI n1
  refine fin_write ?_
  obtain ⟨hT, hG, hS, hD, h0, h1⟩ := hI
  have hT' := hT
  obtain ⟨N, a, hN, rfl, rfl, t1, t2⟩ := hT
  unfold m_X10_write m_X11_write
  by_cases hb : inB 0 255 n1
  · obtain ⟨v, -, hv, rfl⟩ := hb
    refine OK.lt v 0 (by omega) (by omega) (fun q => by omega) (fun _ => ?_)
    refine OK.le v 255 (by omega) (by omega) (fun _ => ?_) (fun q => by omega)
    unfold m_X8_append
    by_cases hN2 : N < 64
    · refine OK.b3 (Q := fun u => u.1 = 1 ∧ u.2.1 = nI (N + 1) ∧ u.2.2 = upd b_text_signs N (nI v)) (OK.lt N 64 (by omega) (by omega) (fun _ => OK.st N rfl hN2 (OK.l (OK.s ⟨rfl, nI_1 N, rfl⟩))) (fun q => by omega)) (fun r z f hq => ?_)
      obtain ⟨q1, q2, q3⟩ := hq
      have q1 : r = 1 := q1
      have q2 : z = nI (N + 1) := q2
      have q3 : f = upd b_text_signs N (nI v) := q3
      subst q1 q2 q3
      refine OK.f (by decide) (OK.s ?_)
      refine OK.b1 (s_inB (a := 0) (b := 255) (by omega) (by omega) (nI v)) (fun r hr => ?_)
      rcases hr with ⟨-, rfl⟩ | ⟨hr, -⟩
      · refine OK.f (by decide) (OK.eq N 64 (by omega) (by omega) (fun q => by omega) (fun _ => OK.st N rfl hN2 (OK.l (OK.s ⟨(nI_1 N).symm, ⟨N + 1, upN a N v, by omega, rfl, nI_1 N, tx_push t1 hv, tx_push t2 hv⟩, hG, hS, hD, h0, h1⟩))))
      · exact absurd ⟨v, by omega, hv, rfl⟩ hr
    · have eN : N = 64 := by omega
      subst eN
      refine OK.b3 (Q := fun u => u.1 = 0 ∧ u.2.1 = nI 64 ∧ u.2.2 = b_text_signs) (OK.lt 64 64 (by omega) (by omega) (fun q => by omega) (fun q => OK.s ⟨rfl, rfl, rfl⟩)) (fun r z f hq => ?_)
      obtain ⟨q1, q2, q3⟩ := hq
      have q1 : r = 0 := q1
      have q2 : z = nI 64 := q2
      have q3 : f = b_text_signs := q3
      subst q1 q2 q3
      refine OK.t rfl (OK.s ?_)
      refine OK.b1 (s_inB (a := 0) (b := 255) (by omega) (by omega) (nI v)) (fun r hr => ?_)
      rcases hr with ⟨-, rfl⟩ | ⟨hr, -⟩
      · exact OK.f (by decide) (OK.t rfl (OK.s ⟨rfl, hT', hG, hS, hD, h0, h1⟩))
      · exact absurd ⟨v, by omega, hv, rfl⟩ hr
  · have ref : OK (bK1 (m_X11_in 3000 n1.toInt64 0 255) (fun r1 => if r1 = 0 then some ((-2 : Int32), (0 : Int32), nI N, m_text) else if nI N = 64 then some ((-4), 0, nI N, m_text) else stK 64 m_text (nI N) n1 (fun f2 => letK (nI N + 1) (fun z3 => some (z3, 0, z3, f2))))) (fun v => v = ((-2), 0, nI N, m_text)) := by
      refine OK.b1 (s_inB (a := 0) (b := 255) (by omega) (by omega) n1) (fun r hr => ?_)
      rcases hr with ⟨hr, -⟩ | ⟨-, rfl⟩
      · exact absurd hr hb
      · exact OK.t rfl (OK.s rfl)
    refine OK.i (fun q => OK.s (ref.mono (fun v hv => ?_))) (fun q => OK.f (fun w => hb ((inB_le (by omega) (by omega)).mpr ⟨Int32.not_lt.mp q, w⟩)) (OK.s (ref.mono (fun v hv => ?_))))
    · subst hv; exact ⟨rfl, hT', hG, hS, hD, h0, h1⟩
    · subst hv; exact ⟨rfl, hT', hG, hS, hD, h0, h1⟩
theorem op_wipe : St_wipe Inv := by
  intro b_theSeed b_text_length b_text_signs b_stock_words b_stock_learnt b_stock_letters b_stock_breaks b_stock_sizes b_stock_rules b_stock_hs b_index_known b_index_size b_index_numbers b_index_codes b_index_fits b_index_starts b_index_signs b_learning_levels b_learning_good b_learning_bad b_learning_digits b_doings_count b_doings_kinds b_doings_wheres b_doings_firsts b_doings_seconds b_tree_count b_tree_end b_tree_packed b_tree_isNode b_tree_bases b_tree_slots b_seen_count b_seen_places b_seen_digits b_seen_hads b_judging_learning_levels b_judging_learning_good b_judging_learning_bad b_judging_learning_digits b_judging_tried_words b_judging_tried_learnt b_judging_tried_letters b_judging_tried_breaks b_judging_tried_sizes b_judging_tried_rules b_judging_tried_hs b_chances_valued b_chances_rights b_shelves_0_words b_shelves_0_learnt b_shelves_0_letters b_shelves_0_breaks b_shelves_0_sizes b_shelves_0_rules b_shelves_0_hs b_shelves_1_words b_shelves_1_learnt b_shelves_1_letters b_shelves_1_breaks b_shelves_1_sizes b_shelves_1_rules b_shelves_1_hs b_onShelf m_thrown m_textSize m_doings m_seen m_seed m_signMany m_whichMany m_whichFirst m_text m_readPage m_page m_trial m_book m_kept m_isKept m_seenPlace m_seenDigit m_seenIs m_plan m_good m_bad m_signs m_digits m_isNode m_base m_slot m_value hI
  refine fin_wipe ?_
  obtain ⟨hT, hG, hS, hD, h0, h1⟩ := hI
  obtain ⟨N, a, hN, rfl, rfl, t1, t2⟩ := hT
  unfold m_X10_wipe m_X11_wipe
  exact OK.s (OK.s ⟨rfl, ⟨0, a, by omega, rfl, rfl, fun i hi => absurd hi (Nat.not_lt_zero _), fun i hi => absurd hi (Nat.not_lt_zero _)⟩, hG, hS, hD, h0, h1⟩)
theorem op_fault : St_fault Inv := by
  intro b_theSeed b_text_length b_text_signs b_stock_words b_stock_learnt b_stock_letters b_stock_breaks b_stock_sizes b_stock_rules b_stock_hs b_index_known b_index_size b_index_numbers b_index_codes b_index_fits b_index_starts b_index_signs b_learning_levels b_learning_good b_learning_bad b_learning_digits b_doings_count b_doings_kinds b_doings_wheres b_doings_firsts b_doings_seconds b_tree_count b_tree_end b_tree_packed b_tree_isNode b_tree_bases b_tree_slots b_seen_count b_seen_places b_seen_digits b_seen_hads b_judging_learning_levels b_judging_learning_good b_judging_learning_bad b_judging_learning_digits b_judging_tried_words b_judging_tried_learnt b_judging_tried_letters b_judging_tried_breaks b_judging_tried_sizes b_judging_tried_rules b_judging_tried_hs b_chances_valued b_chances_rights b_shelves_0_words b_shelves_0_learnt b_shelves_0_letters b_shelves_0_breaks b_shelves_0_sizes b_shelves_0_rules b_shelves_0_hs b_shelves_1_words b_shelves_1_learnt b_shelves_1_letters b_shelves_1_breaks b_shelves_1_sizes b_shelves_1_rules b_shelves_1_hs b_onShelf m_thrown m_textSize m_doings m_seen m_seed m_signMany m_whichMany m_whichFirst m_text m_readPage m_page m_trial m_book m_kept m_isKept m_seenPlace m_seenDigit m_seenIs m_plan m_good m_bad m_signs m_digits m_isNode m_base m_slot m_value hI
  refine fin_fault ?_
  obtain ⟨hT, hG, hS, hD, h0, h1⟩ := hI
  have hT' := hT
  obtain ⟨N, a, hN, rfl, rfl, t1, t2⟩ := hT
  unfold m_X10_fault m_X11_fault
  refine OK.b1 (s_firstFault hN t1) (fun r hr => OK.s ?_)
  refine OK.b2 (s_readList hN t2 m_readPage) (fun r2 f2 hq => OK.s ⟨FT_u hr hq.1, hT', hG, hS, hD, h0, h1⟩)
def wdA (P : Pg) (w : Nat) (x : Int32) : Int32 := if x = 0 then nI (pL P w) else if x = 1 then nI (pB P w) else if x = 2 then nI (brN (plS P 63 (pT P)) (pL P w) (dl (pL P w) - 1)) else -2
theorem s_rWord {P : Pg} (hP : pgOK P) {p1 : Nat → Int32} (hp : pageR P p1) {w : Nat} (hw : w < pW P) (x th z : Int32) (plan f d g h : Nat → Int32) : OK (m_X11_word 3000 (nI w) x th z p1 plan f d g h) (fun v => v.1 = wdA P w x) := by
  unfold m_X11_word
  have hW := hP.1.1
  obtain ⟨ok, d2, d6⟩ := hP.1.w hw
  refine OK.b1 (s_noWord hP hp (nI w)) (fun r hr => ?_)
  rcases hr with ⟨-, rfl⟩ | ⟨hr, -⟩
  rotate_left
  · exact absurd ⟨w, hw, rfl⟩ hr
  refine OK.t rfl ?_
  have hb := plS_4 hP 63
  refine OK.b6 (s_learnAll hP hp z plan f d g h) (fun z2 f3 f4 f5 f6 f7 hq => ?_)
  obtain ⟨-, q2⟩ := hq
  have q2 : digR (pW P) (pL P) (plS P 63 (pT P)) 6 f5 := q2
  refine OK.w2 (fun t a b => a = nI (brN (plS P 63 (pT P)) (pL P w) t) ∧ b = nI t) (dl (pL P w) - 1) ?_ (by omega) ⟨rfl, rfl⟩
  rintro t a b k ⟨rfl, rfl⟩ ht hk
  refine OK.rd (1 + w) (nI_add 1 w) (by omega) ?_
  rw [(hp.2.1 w hw).1]
  refine OK.b1 (s_length (by have := ok.1; omega)) (fun r hr => ?_)
  subst hr
  rw [n_sub1 (by omega)]
  refine OK.le (dl (pL P w) - 1) t (by omega) (by omega) (fun e => ?_) (fun e => ?_)
  · have et : t = dl (pL P w) - 1 := by omega
    subst et
    refine OK.i (fun q => OK.rd (1 + w) (nI_add 1 w) (by omega) (OK.s ?_)) (fun q => OK.i (fun q2 => OK.rd (7 + w) (nI_add 7 w) (by omega) (OK.s ?_)) (fun q2 => OK.i (fun q3 => OK.s ?_) (fun q3 => OK.s ?_)))
    · show p1 (1 + w) = _
      rw [(hp.2.1 w hw).1, wdA, if_pos q]
    · show p1 (7 + w) = _
      rw [(hp.2.1 w hw).2, wdA, if_neg q, if_pos q2]
    · show nI _ = _
      rw [wdA, if_neg q, if_neg q2, if_pos q3]
    · show (-2 : Int32) = _
      rw [wdA, if_neg q, if_neg q2, if_neg q3]
  · refine OK.rd (6 * w + t) (by rw [show (6 : Int32) = nI 6 from rfl, pk_mul, nI_add]) (by omega) ?_
    rw [q2 w hw t (by omega)]
    have hd4 := digS_b hb (pL P w) t
    rw [show (2 : Int32) = nI 2 from rfl, n_irm (by omega) (by omega) (by omega)]
    refine OK.j1 (fun y => y = nI (digS (plS P 63 (pT P)) (pL P w) t % 2 * 2 ^ t)) ?_ (fun k1 hk1 => ?_)
    · rintro y rfl
      refine OK.l ?_
      rw [n_or t (by omega) _ (brN_lt _ _ _) _ (Nat.mod_lt _ (by omega)), nI_1]
      exact hk e _ _ ⟨rfl, rfl⟩
    · refine OK.eq _ 1 (by omega) (by omega) (fun q => hk1 _ ?_) (fun q => hk1 _ ?_)
      · rw [q, Nat.one_mul, shl_at (by omega)]
      · rw [show digS (plS P 63 (pT P)) (pL P w) t % 2 = 0 by omega, Nat.zero_mul]; rfl
theorem op_word : St_word Inv := by
  intro b_theSeed b_text_length b_text_signs b_stock_words b_stock_learnt b_stock_letters b_stock_breaks b_stock_sizes b_stock_rules b_stock_hs b_index_known b_index_size b_index_numbers b_index_codes b_index_fits b_index_starts b_index_signs b_learning_levels b_learning_good b_learning_bad b_learning_digits b_doings_count b_doings_kinds b_doings_wheres b_doings_firsts b_doings_seconds b_tree_count b_tree_end b_tree_packed b_tree_isNode b_tree_bases b_tree_slots b_seen_count b_seen_places b_seen_digits b_seen_hads b_judging_learning_levels b_judging_learning_good b_judging_learning_bad b_judging_learning_digits b_judging_tried_words b_judging_tried_learnt b_judging_tried_letters b_judging_tried_breaks b_judging_tried_sizes b_judging_tried_rules b_judging_tried_hs b_chances_valued b_chances_rights b_shelves_0_words b_shelves_0_learnt b_shelves_0_letters b_shelves_0_breaks b_shelves_0_sizes b_shelves_0_rules b_shelves_0_hs b_shelves_1_words b_shelves_1_learnt b_shelves_1_letters b_shelves_1_breaks b_shelves_1_sizes b_shelves_1_rules b_shelves_1_hs b_onShelf m_thrown m_textSize m_doings m_seen m_seed m_signMany m_whichMany m_whichFirst m_text m_readPage m_page m_trial m_book m_kept m_isKept m_seenPlace m_seenDigit m_seenIs m_plan m_good m_bad m_signs m_digits m_isNode m_base m_slot m_value hI n1 n2
  refine fin_word ?_
  obtain ⟨hT, hG, hS, hD, h0, h1⟩ := hI
  have hG' := hG
  obtain ⟨P, n, hP, hst, ⟨m, cd, st, hn, hx, hl, hd⟩, htr, hch, rfl, rfl, hhs, hp⟩ := hG
  obtain ⟨rfl, rfl, s3, s4⟩ := hst
  have hW := hP.1.1
  have hb := plS_4 hP 63
  unfold m_X10_word
  refine OK.b1 (s_hasWord hW n1) (fun r hr => ?_)
  rcases hr with ⟨⟨w, hw, rfl⟩, rfl⟩ | ⟨hr, rfl⟩
  · refine OK.f (by decide) ?_
    have R := s_rWord hP hp hw n2 m_thrown m_signMany m_plan m_signs m_digits m_good m_bad
    refine OK.mono (P := fun u => u = wdA P w n2) ?_ (fun u hu => R.mono (fun v hv => ⟨by rw [hu, hv], hT, hG', hS, hD, h0, h1⟩))
    refine OK.i (fun q => OK.rd w rfl (by omega) (OK.s ?_)) (fun q => OK.i (fun q2 => OK.rd w rfl (by omega) (OK.s ?_)) (fun q2 => OK.i (fun q3 => ?_) (fun q3 => OK.s ?_)))
    · rw [(s3 w hw).1, wdA, if_pos q]
    · rw [(s3 w hw).2.1, wdA, if_neg q, if_pos q2]
    · exact OK.b1 (s_brokenPlaces hP.1 hb hd (fun w hw => (s3 w hw).2.2) hw) (fun r hr => OK.s (by rw [hr, wdA, if_neg q, if_neg q2, if_pos q3]))
    · rw [wdA, if_neg q, if_neg q2, if_neg q3]
  · refine OK.t rfl (OK.s ?_)
    unfold m_X11_word
    refine OK.b1 (s_noWord hP hp n1) (fun r hr2 => ?_)
    rcases hr2 with ⟨hr2, -⟩ | ⟨-, rfl⟩
    · exact absurd hr2 hr
    · exact OK.f (by decide) (OK.s ⟨rfl, hT, hG', hS, hD, h0, h1⟩)
theorem op_digit : St_digit Inv := by
  intro b_theSeed b_text_length b_text_signs b_stock_words b_stock_learnt b_stock_letters b_stock_breaks b_stock_sizes b_stock_rules b_stock_hs b_index_known b_index_size b_index_numbers b_index_codes b_index_fits b_index_starts b_index_signs b_learning_levels b_learning_good b_learning_bad b_learning_digits b_doings_count b_doings_kinds b_doings_wheres b_doings_firsts b_doings_seconds b_tree_count b_tree_end b_tree_packed b_tree_isNode b_tree_bases b_tree_slots b_seen_count b_seen_places b_seen_digits b_seen_hads b_judging_learning_levels b_judging_learning_good b_judging_learning_bad b_judging_learning_digits b_judging_tried_words b_judging_tried_learnt b_judging_tried_letters b_judging_tried_breaks b_judging_tried_sizes b_judging_tried_rules b_judging_tried_hs b_chances_valued b_chances_rights b_shelves_0_words b_shelves_0_learnt b_shelves_0_letters b_shelves_0_breaks b_shelves_0_sizes b_shelves_0_rules b_shelves_0_hs b_shelves_1_words b_shelves_1_learnt b_shelves_1_letters b_shelves_1_breaks b_shelves_1_sizes b_shelves_1_rules b_shelves_1_hs b_onShelf m_thrown m_textSize m_doings m_seen m_seed m_signMany m_whichMany m_whichFirst m_text m_readPage m_page m_trial m_book m_kept m_isKept m_seenPlace m_seenDigit m_seenIs m_plan m_good m_bad m_signs m_digits m_isNode m_base m_slot m_value hI n1 n2
  refine fin_digit ?_
  obtain ⟨hT, hG, hS, hD, h0, h1⟩ := hI
  have hG' := hG
  obtain ⟨P, n, hP, hst, ⟨m, cd, st, hn, hx, hl, hd⟩, htr, hch, rfl, rfl, hhs, hp⟩ := hG
  obtain ⟨rfl, rfl, s3, s4⟩ := hst
  have hW := hP.1.1
  have hb := plS_4 hP 63
  unfold m_X10_digit m_X11_digit
  refine OK.b1 (s_hasPlace hP.1 (fun w hw => (s3 w hw).2.2) n1 n2) (fun r hr => ?_)
  rcases hr with ⟨⟨w, p, hw, rfl, hpl, rfl⟩, rfl⟩ | ⟨hr, rfl⟩
  · obtain ⟨ok, d2, d6⟩ := hP.1.w hw
    refine OK.f (by decide) (OK.b1 (s_digitOf hP.1 hd hw hpl) (fun r hr => OK.s ?_))
    subst hr
    refine OK.b1 (s_noPlace hP hp (nI w) (nI p)) (fun r hr => ?_)
    rcases hr with ⟨-, rfl⟩ | ⟨hr, -⟩
    · refine OK.t rfl (OK.b6 (s_learnAll hP hp m_signMany m_plan m_signs m_digits m_good m_bad) (fun z2 f3 f4 f5 f6 f7 hq => ?_))
      refine OK.rd (6 * w + p) (by rw [show (6 : Int32) = nI 6 from rfl, pk_mul, nI_add]) (by omega) (OK.s ⟨(hq.2 w hw p hpl).symm, hT, hG', hS, hD, h0, h1⟩)
    · exact absurd ⟨w, p, hw, rfl, hpl, rfl⟩ hr
  · refine OK.t rfl (OK.s ?_)
    refine OK.b1 (s_noPlace hP hp n1 n2) (fun r hr2 => ?_)
    rcases hr2 with ⟨hr2, -⟩ | ⟨-, rfl⟩
    · exact absurd hr2 hr
    · exact OK.f (by decide) (OK.s ⟨rfl, hT, hG', hS, hD, h0, h1⟩)
theorem op_level : St_level Inv := by
  intro b_theSeed b_text_length b_text_signs b_stock_words b_stock_learnt b_stock_letters b_stock_breaks b_stock_sizes b_stock_rules b_stock_hs b_index_known b_index_size b_index_numbers b_index_codes b_index_fits b_index_starts b_index_signs b_learning_levels b_learning_good b_learning_bad b_learning_digits b_doings_count b_doings_kinds b_doings_wheres b_doings_firsts b_doings_seconds b_tree_count b_tree_end b_tree_packed b_tree_isNode b_tree_bases b_tree_slots b_seen_count b_seen_places b_seen_digits b_seen_hads b_judging_learning_levels b_judging_learning_good b_judging_learning_bad b_judging_learning_digits b_judging_tried_words b_judging_tried_learnt b_judging_tried_letters b_judging_tried_breaks b_judging_tried_sizes b_judging_tried_rules b_judging_tried_hs b_chances_valued b_chances_rights b_shelves_0_words b_shelves_0_learnt b_shelves_0_letters b_shelves_0_breaks b_shelves_0_sizes b_shelves_0_rules b_shelves_0_hs b_shelves_1_words b_shelves_1_learnt b_shelves_1_letters b_shelves_1_breaks b_shelves_1_sizes b_shelves_1_rules b_shelves_1_hs b_onShelf m_thrown m_textSize m_doings m_seen m_seed m_signMany m_whichMany m_whichFirst m_text m_readPage m_page m_trial m_book m_kept m_isKept m_seenPlace m_seenDigit m_seenIs m_plan m_good m_bad m_signs m_digits m_isNode m_base m_slot m_value hI n1 n2
  refine fin_level ?_
  obtain ⟨hT, hG, hS, hD, h0, h1⟩ := hI
  have hG' := hG
  obtain ⟨P, n, hP, hst, ⟨m, cd, st, hn, hx, hl, hd⟩, htr, hch, rfl, rfl, hhs, hp⟩ := hG
  obtain ⟨rfl, rfl, s3, s4⟩ := hst
  have hb := plS_4 hP 63
  have hTt := hP.2.2.2
  unfold m_X10_level m_X11_level
  refine OK.b1 (s_isLevel n1) (fun r hr => ?_)
  rcases hr with ⟨⟨k, k1, k4, rfl⟩, rfl⟩ | ⟨hr, rfl⟩
  · refine OK.f (by decide) ?_
    refine OK.mono (P := fun u => u = if n2 = 0 then nI (pR P k) else if n2 = 1 then nI (pH P k) else if n2 = 2 then nI (nPat (plS P 63 (pT P)) k 1372) else -2) ?_ (fun u hu => ?_)
    · refine OK.i (fun q => OK.rd k rfl (by omega) (OK.s ?_)) (fun q => OK.i (fun q2 => OK.rd k rfl (by omega) (OK.s ?_)) (fun q2 => OK.i (fun q3 => ?_) (fun q3 => OK.s ?_)))
      · rw [(s4 k k1 k4).1, if_pos q]
      · rw [(s4 k k1 k4).2, if_neg q, if_pos q2]
      · exact OK.b1 (c_countOf hn hx hTt hl k1 k4) (fun r hr => OK.s (by rw [hr, if_neg q, if_neg q2, if_pos q3]))
      · rw [if_neg q, if_neg q2, if_neg q3]
    · refine OK.b1 (s_inB (a := 1) (b := 4) (by omega) (by omega) (nI k)) (fun r hr => ?_)
      rcases hr with ⟨-, rfl⟩ | ⟨hr, -⟩
      rotate_left
      · exact absurd ⟨k, k1, k4, rfl⟩ hr
      refine OK.f (by decide) (OK.b6 (s_learnAll hP hp m_signMany m_plan m_signs m_digits m_good m_bad) (fun z2 f3 f4 f5 f6 f7 hq => ?_))
      obtain ⟨c1, c2⟩ := hp.2.2.1 (k - 1) (by omega)
      rw [show k - 1 + 1 = k by omega] at c1 c2
      have e13 : (13 : Int32) + nI k - 1 = nI (13 + (k - 1)) := by
        rw [show (13 : Int32) = nI 13 from rfl, nI_add, n_sub1 (by omega)]; congr 1; omega
      have e17 : (17 : Int32) + nI k - 1 = nI (17 + (k - 1)) := by
        rw [show (17 : Int32) = nI 17 from rfl, nI_add, n_sub1 (by omega)]; congr 1; omega
      rw [e13, e17]
      refine OK.i (fun q => OK.rd _ rfl (by omega) (OK.s ⟨?_, hT, hG', hS, hD, h0, h1⟩)) (fun q => OK.i (fun q2 => OK.rd _ rfl (by omega) (OK.s ⟨?_, hT, hG', hS, hD, h0, h1⟩)) (fun q2 => OK.i (fun q3 => ?_) (fun q3 => OK.s ⟨?_, hT, hG', hS, hD, h0, h1⟩)))
      · rw [hu, if_pos q]; exact c1.symm
      · rw [hu, if_neg q, if_pos q2]; exact c2.symm
      · refine OK.b1 (s_patternsOf hq.1 hb k4) (fun r hr => OK.s ⟨?_, hT, hG', hS, hD, h0, h1⟩)
        rw [hu, if_neg q, if_neg q2, if_pos q3, show r = _ from hr, if_neg (by omega)]
      · rw [hu, if_neg q, if_neg q2, if_neg q3]
  · refine OK.t rfl (OK.s ?_)
    refine OK.b1 (s_inB (a := 1) (b := 4) (by omega) (by omega) n1) (fun r hr2 => ?_)
    rcases hr2 with ⟨hr2, -⟩ | ⟨-, rfl⟩
    · exact absurd hr2 hr
    · exact OK.t rfl (OK.s ⟨rfl, hT, hG', hS, hD, h0, h1⟩)
theorem op_pattern : St_pattern Inv := by
  intro b_theSeed b_text_length b_text_signs b_stock_words b_stock_learnt b_stock_letters b_stock_breaks b_stock_sizes b_stock_rules b_stock_hs b_index_known b_index_size b_index_numbers b_index_codes b_index_fits b_index_starts b_index_signs b_learning_levels b_learning_good b_learning_bad b_learning_digits b_doings_count b_doings_kinds b_doings_wheres b_doings_firsts b_doings_seconds b_tree_count b_tree_end b_tree_packed b_tree_isNode b_tree_bases b_tree_slots b_seen_count b_seen_places b_seen_digits b_seen_hads b_judging_learning_levels b_judging_learning_good b_judging_learning_bad b_judging_learning_digits b_judging_tried_words b_judging_tried_learnt b_judging_tried_letters b_judging_tried_breaks b_judging_tried_sizes b_judging_tried_rules b_judging_tried_hs b_chances_valued b_chances_rights b_shelves_0_words b_shelves_0_learnt b_shelves_0_letters b_shelves_0_breaks b_shelves_0_sizes b_shelves_0_rules b_shelves_0_hs b_shelves_1_words b_shelves_1_learnt b_shelves_1_letters b_shelves_1_breaks b_shelves_1_sizes b_shelves_1_rules b_shelves_1_hs b_onShelf m_thrown m_textSize m_doings m_seen m_seed m_signMany m_whichMany m_whichFirst m_text m_readPage m_page m_trial m_book m_kept m_isKept m_seenPlace m_seenDigit m_seenIs m_plan m_good m_bad m_signs m_digits m_isNode m_base m_slot m_value hI n1 n2
  refine fin_pattern ?_
  obtain ⟨hT, hG, hS, hD, h0, h1⟩ := hI
  have hG' := hG
  obtain ⟨P, n, hP, hst, ⟨m, cd, st, hn, hx, hl, hd⟩, htr, hch, rfl, rfl, hhs, hp⟩ := hG
  have hb := plS_4 hP 63
  have hlv := lvl_of hn hx (mask := 63) (t := pT P) hl
  unfold m_X10_pattern
  have bad : (∀ c, isS c = true → n1 = nI c → ¬ inB 0 (dl c) n2) → OK (m_X11_pattern 3000 n1 n2 m_thrown m_signMany m_page m_plan m_signs m_digits m_good m_bad) (fun v => v.1 = -2) := by
    intro hno
    unfold m_X11_pattern
    refine OK.b1 (s_rIsString n1) (fun r hr => ?_)
    rcases hr with ⟨c, hc, rfl, rfl⟩ | ⟨hr, rfl⟩
    · refine OK.f (by decide) ?_
      have hcb := isF_b (isS_F hc)
      refine OK.b1 (s_length (by omega)) (fun r hr => ?_)
      subst hr
      have hd10 := dl_10 (c := c) (by omega)
      rw [nI_l (n := dl c) (by omega)]
      refine OK.b1 (s_inB (a := 0) (b := dl c) (by omega) (by omega) n2) (fun r hr => ?_)
      rcases hr with ⟨hr, -⟩ | ⟨-, rfl⟩
      · exact absurd hr (hno c hc rfl)
      · exact OK.t rfl (OK.s rfl)
    · exact OK.t rfl (OK.s rfl)
  refine OK.b1 (s_nodeOf n1) (fun r hr => ?_)
  rcases hr with ⟨c, hc, rfl, rfl⟩ | ⟨hr, rfl⟩
  · have hcb := isF_b hc
    obtain ⟨b1, b2, b3, b4⟩ := bf_F c (by omega) hc
    have hdl : dl c ≤ 3 := by rw [b4]; split; omega; split <;> omega
    refine OK.b1 (s_isPattern hc n2) (fun r hr => ?_)
    rcases hr with ⟨hS1, ⟨g, g0, g1, rfl⟩, rfl⟩ | ⟨hr, rfl⟩
    · refine OK.f (by decide) (OK.b1 (s_levelOf b1 (by omega) hlv) (fun r hr => OK.s ?_))
      subst hr
      unfold m_X11_pattern
      refine OK.b1 (s_rIsString (nI c)) (fun r hr => ?_)
      rcases hr with ⟨-, -, -, rfl⟩ | ⟨hr, -⟩
      rotate_left
      · exact absurd rfl (hr c hS1)
      refine OK.f (by decide) (OK.b1 (s_length (by omega)) (fun r hr => ?_))
      subst hr
      rw [nI_l (n := dl c) (by omega)]
      refine OK.b1 (s_inB (a := 0) (b := dl c) (by omega) (by omega) (nI g)) (fun r hr => ?_)
      rcases hr with ⟨-, rfl⟩ | ⟨hr, -⟩
      rotate_left
      · exact absurd ⟨g, g0, g1, rfl⟩ hr
      refine OK.f (by decide) (OK.b6 (s_learnAll hP hp m_signMany m_plan m_signs m_digits m_good m_bad) (fun z2 f3 f4 f5 f6 f7 hq => ?_))
      refine OK.b1 (Q := fun r => r = nI (nd c)) ⟨_, bf_sevens c (by omega), rfl⟩ (fun r hr => ?_)
      subst hr
      refine OK.rd (4 * nd c + g) (by rw [show (4 : Int32) = nI 4 from rfl, pk_mul, nI_add]) (by omega) (OK.s ⟨(hq.1 _ (by omega)).symm, hT, hG', hS, hD, h0, h1⟩)
    · refine OK.t rfl (OK.s ((bad ?_).mono (fun v hv => ⟨hv.symm, hT, hG', hS, hD, h0, h1⟩)))
      intro d hd e q
      have := isF_b (isS_F hd)
      rw [nI_eq (by omega) (by omega)] at e
      subst e
      exact hr ⟨hd, q⟩
  · refine OK.b1 (isPattern_m1 n2) (fun r hr2 => ?_)
    exact OK.t hr2 (OK.s ((bad (fun c hc e => absurd e (hr c (isS_F hc)))).mono (fun v hv => ⟨hv.symm, hT, hG', hS, hD, h0, h1⟩)))
theorem op_earns : St_earns Inv := by
  intro b_theSeed b_text_length b_text_signs b_stock_words b_stock_learnt b_stock_letters b_stock_breaks b_stock_sizes b_stock_rules b_stock_hs b_index_known b_index_size b_index_numbers b_index_codes b_index_fits b_index_starts b_index_signs b_learning_levels b_learning_good b_learning_bad b_learning_digits b_doings_count b_doings_kinds b_doings_wheres b_doings_firsts b_doings_seconds b_tree_count b_tree_end b_tree_packed b_tree_isNode b_tree_bases b_tree_slots b_seen_count b_seen_places b_seen_digits b_seen_hads b_judging_learning_levels b_judging_learning_good b_judging_learning_bad b_judging_learning_digits b_judging_tried_words b_judging_tried_learnt b_judging_tried_letters b_judging_tried_breaks b_judging_tried_sizes b_judging_tried_rules b_judging_tried_hs b_chances_valued b_chances_rights b_shelves_0_words b_shelves_0_learnt b_shelves_0_letters b_shelves_0_breaks b_shelves_0_sizes b_shelves_0_rules b_shelves_0_hs b_shelves_1_words b_shelves_1_learnt b_shelves_1_letters b_shelves_1_breaks b_shelves_1_sizes b_shelves_1_rules b_shelves_1_hs b_onShelf m_thrown m_textSize m_doings m_seen m_seed m_signMany m_whichMany m_whichFirst m_text m_readPage m_page m_trial m_book m_kept m_isKept m_seenPlace m_seenDigit m_seenIs m_plan m_good m_bad m_signs m_digits m_isNode m_base m_slot m_value hI n1
  refine fin_earns ?_
  obtain ⟨hT, hG, hS, hD, h0, h1⟩ := hI
  have hG' := hG
  obtain ⟨P, n, hP, hst, ⟨m, cd, st, hn, hx, hl, hd⟩, htr, hch, rfl, rfl, hhs, hp⟩ := hG
  obtain ⟨rfl, rfl, s3, s4⟩ := hst
  have hb := plS_4 hP 63
  have hsz : ∀ w, w < pW P → b_stock_sizes w = nI (dl (pL P w)) := fun w hw => (s3 w hw).2.2
  have hbr : ∀ w, w < pW P → b_stock_breaks w = nI (pB P w) := fun w hw => (s3 w hw).2.1
  unfold m_X10_earns
  have bad : (∀ c, isS c = true → n1 ≠ nI c) → OK (m_X11_earns 3000 n1 m_thrown m_signMany m_page m_plan m_signs m_digits m_good m_bad) (fun v => v.1 = -2) := by
    intro hno
    unfold m_X11_earns
    refine OK.b1 (s_rIsString n1) (fun r hr => ?_)
    rcases hr with ⟨c, hc, e, rfl⟩ | ⟨hr, rfl⟩
    · exact absurd e (hno c hc)
    · exact OK.t rfl (OK.s rfl)
  refine OK.b1 (s_nodeOf n1) (fun r hr => ?_)
  rcases hr with ⟨c, hc, rfl, rfl⟩ | ⟨hr, rfl⟩
  · have hcb := isF_b hc
    obtain ⟨b1, b2, b3, b4⟩ := bf_F c (by omega) hc
    refine OK.b1 (s_isStringN hc) (fun r hr => ?_)
    subst hr
    cases hS1 : isS c with
    | false =>
      refine OK.t rfl (OK.s ((bad ?_).mono (fun v hv => ⟨hv.symm, hT, hG', hS, hD, h0, h1⟩)))
      intro d hd e
      have := isF_b (isS_F hd)
      rw [nI_eq (by omega) (by omega)] at e
      subst e
      rw [hS1] at hd; cases hd
    | true =>
      refine OK.f (by decide) (OK.b1 (s_rightPlaces hP hb rfl hd hsz hbr) (fun r hr => ?_))
      subst hr
      refine OK.b1 (s_rightWithout hP hn hx hb hl rfl hsz hbr b1) (fun r hr => OK.s ?_)
      subst hr
      unfold m_X11_earns
      refine OK.b1 (s_rIsString (nI c)) (fun r hr => ?_)
      rcases hr with ⟨-, -, -, rfl⟩ | ⟨hr, -⟩
      rotate_left
      · exact absurd rfl (hr c hS1)
      refine OK.f (by decide) (OK.b6 (s_learnAll hP hp m_signMany m_plan m_signs m_digits m_good m_bad) (fun z2 f3 f4 f5 f6 f7 hq => ?_))
      refine OK.b1 (s_rightOfAll hP hp hb hq.2) (fun r hr => ?_)
      subst hr
      have q1 : tabR f3 (plS P 63 (pT P)) := hq.1
      refine OK.w2 (fun t x g => x = nI t ∧ ∀ k, k < 1372 → g k = nI (if k / 4 = nd c ∧ k % 4 < t then 0 else plS P 63 (pT P) k)) 4 ?_ (by omega) ⟨rfl, fun k hk => by rw [if_neg (by omega)]; exact q1 k hk⟩
      rintro t x g k ⟨rfl, a1⟩ ht hk
      refine OK.le 4 t (by omega) (by omega) (fun e => ?_) (fun e => ?_)
      · have et : t = 4 := by omega
        subst et
        have ht4 : tabR g (plW (plS P 63 (pT P)) (nd c)) := by
          intro k hk
          rw [a1 k hk]
          unfold plW
          by_cases q : k / 4 = nd c
          · rw [if_pos ⟨q, by omega⟩, if_pos q]
          · rw [if_neg (fun w => q w.1), if_neg q]
        refine OK.b3 (s_layDigits hP hp ht4 (plW_b hb _) z2 f4 f5) (fun z12 f13 f14 hw => ?_)
        refine OK.b1 (s_rightOfAll hP hp (plW_b hb _) hw) (fun r hr => OK.s ⟨?_, hT, hG', hS, hD, h0, h1⟩)
        rw [show r = _ from hr]
      · refine OK.b1 (Q := fun r => r = nI (nd c)) ⟨_, bf_sevens c (by omega), rfl⟩ (fun r hr => ?_)
        subst hr
        refine OK.st (4 * nd c + t) (by rw [show (4 : Int32) = nI 4 from rfl, pk_mul, nI_add]) (by omega) ?_
        refine hk e _ _ ⟨nI_1 t, fun j hj => ?_⟩
        by_cases q : j = 4 * nd c + t
        · subst q
          rw [upd_s, if_pos (by omega)]; rfl
        · rw [upd_n _ _ q, a1 j hj]
          by_cases w : j / 4 = nd c ∧ j % 4 < t
          · rw [if_pos w, if_pos (by omega)]
          · rw [if_neg w, if_neg (by omega)]
  · refine OK.b1 (Q := fun r => r = 0) ⟨_, isString_m1, rfl⟩ (fun r hr2 => ?_)
    exact OK.t hr2 (OK.s ((bad (fun c hc => hr c (isS_F hc))).mono (fun v hv => ⟨hv.symm, hT, hG', hS, hD, h0, h1⟩)))
