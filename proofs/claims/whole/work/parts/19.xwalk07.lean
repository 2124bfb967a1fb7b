/-- BreakLearner$Judge.turns(II)Z -/
def m_X4_turns (F : Nat)  (n1 : Int32) (n2 : Int32) (th_tried_words : Int32) (th_tried_learnt : Int32) (th_tried_sizes : (Nat → Int32)) (th_tried_breaks : (Nat → Int32)) (th_learning_levels : (Nat → Int32)) (th_learning_index_known : Int32) (th_learning_digits : (Nat → Int32)) (th_learning_good : (Nat → Int32)) (th_learning_bad : (Nat → Int32)) (th_tried_rules : (Nat → Int32)) (th_tried_hs : (Nat → Int32)) (th_learning_index_fits : (Nat → Int32)) (th_learning_index_starts : (Nat → Int32)) : Option (Int32 × (Nat → Int32) × (Nat → Int32) × (Nat → Int32) × (Nat → Int32) × (Nat → Int32)) :=
  bK1 (m_X7_hasPlace F n1 n2 th_tried_words th_tried_sizes) (fun r1 =>
  if r1 = 0 then
    some (0, th_tried_breaks, th_learning_levels, th_learning_digits, th_learning_good, th_learning_bad)
  else
    bK1 (m_X7_flip F n1 n2 th_tried_words th_tried_sizes th_tried_breaks) (fun f2 =>
    bK4 (m_X5_learnFrom F 63 th_tried_words th_tried_learnt th_learning_levels th_learning_index_known th_learning_digits th_learning_good th_learning_bad th_tried_sizes f2 th_learning_index_fits th_tried_rules th_tried_hs th_learning_index_starts) (fun f3 f4 f5 f6 =>
    some (1, f2, f3, f4, f5, f6)
    )
    )
  )
abbrev rmX4_turns : Room := { frames := 3, cells := 0, slots := 0, locals := 80 }
set_option maxHeartbeats 4000000 in
set_option maxRecDepth 100000 in
theorem c_X4_turns (l : Launch) (g : Gl) (A_th A_th_tried A_th_tried_sizes A_th_tried_breaks A_th_learning A_th_learning_levels A_th_learning_index A_th_learning_digits A_th_learning_good A_th_learning_bad A_th_tried_rules A_th_tried_hs A_th_learning_index_fits A_th_learning_index_starts : Nat) (V_th_tried_letters V_th_learning_index_numbers V_th_learning_index_codes V_th_learning_index_signs V_th_learning_index_size : Value)  (n1 : Int32) (n2 : Int32) (th_tried_words : Int32) (th_tried_learnt : Int32) (th_tried_sizes : (Nat → Int32)) (th_tried_breaks : (Nat → Int32)) (th_learning_levels : (Nat → Int32)) (th_learning_index_known : Int32) (th_learning_digits : (Nat → Int32)) (th_learning_good : (Nat → Int32)) (th_learning_bad : (Nat → Int32)) (th_tried_rules : (Nat → Int32)) (th_tried_hs : (Nat → Int32)) (th_learning_index_fits : (Nat → Int32)) (th_learning_index_starts : (Nat → Int32)) (F : Nat) (u : Int32 × (Nat → Int32) × (Nat → Int32) × (Nat → Int32) × (Nat → Int32) × (Nat → Int32)) (hm : m_X4_turns F n1 n2 th_tried_words th_tried_learnt th_tried_sizes th_tried_breaks th_learning_levels th_learning_index_known th_learning_digits th_learning_good th_learning_bad th_tried_rules th_tried_hs th_learning_index_fits th_learning_index_starts = some u) : Ct l g yX4_turns cX4_turns 3 (some .boolean) rmX4_turns [.ref A_th, .int n1, .int n2] [(A_th, oO 3 [.ref A_th_tried, .ref A_th_learning]), (A_th_tried, oO 6 [V_th_tried_letters, .ref A_th_tried_breaks, .ref A_th_tried_sizes, .ref A_th_tried_rules, .ref A_th_tried_hs, .int th_tried_words, .int th_tried_learnt]), (A_th_tried_sizes, iA g 6 th_tried_sizes), (A_th_tried_breaks, iA g 6 th_tried_breaks), (A_th_learning, oO 4 [.ref A_th_learning_index, .ref A_th_learning_levels, .ref A_th_learning_good, .ref A_th_learning_bad, .ref A_th_learning_digits]), (A_th_learning_levels, iA g 270 th_learning_levels), (A_th_learning_index, oO 2 [V_th_learning_index_numbers, V_th_learning_index_codes, .ref A_th_learning_index_fits, .int th_learning_index_known, .ref A_th_learning_index_starts, V_th_learning_index_signs, V_th_learning_index_size]), (A_th_learning_digits, iA g 30 th_learning_digits), (A_th_learning_good, iA g 270 th_learning_good), (A_th_learning_bad, iA g 270 th_learning_bad), (A_th_tried_rules, iA g 5 th_tried_rules), (A_th_tried_hs, iA g 5 th_tried_hs), (A_th_learning_index_fits, iA g 270 th_learning_index_fits), (A_th_learning_index_starts, iA g 5 th_learning_index_starts)] (some (.int u.1)) [(A_th, oO 3 [.ref A_th_tried, .ref A_th_learning]), (A_th_tried, oO 6 [V_th_tried_letters, .ref A_th_tried_breaks, .ref A_th_tried_sizes, .ref A_th_tried_rules, .ref A_th_tried_hs, .int th_tried_words, .int th_tried_learnt]), (A_th_tried_sizes, iA g 6 th_tried_sizes), (A_th_tried_breaks, iA g 6 u.2.1), (A_th_learning, oO 4 [.ref A_th_learning_index, .ref A_th_learning_levels, .ref A_th_learning_good, .ref A_th_learning_bad, .ref A_th_learning_digits]), (A_th_learning_levels, iA g 270 u.2.2.1), (A_th_learning_index, oO 2 [V_th_learning_index_numbers, V_th_learning_index_codes, .ref A_th_learning_index_fits, .int th_learning_index_known, .ref A_th_learning_index_starts, V_th_learning_index_signs, V_th_learning_index_size]), (A_th_learning_digits, iA g 30 u.2.2.2.1), (A_th_learning_good, iA g 270 u.2.2.2.2.1), (A_th_learning_bad, iA g 270 u.2.2.2.2.2), (A_th_tried_rules, iA g 5 th_tried_rules), (A_th_tried_hs, iA g 5 th_tried_hs), (A_th_learning_index_fits, iA g 270 th_learning_index_fits), (A_th_learning_index_starts, iA g 5 th_learning_index_starts)] := by
  refine ent (own := RX4) (lv := [(0, .ref A_th), (1, .int n1), (2, .int n2)]) (by decide) rfl (Nat.le_of_ble_eq_true rfl) rfl rfl ?_
  intro x C
  unfold m_X4_turns at hm
  refine b_aload_n C dX4_turns_0 rfl 0 rfl ?_
  refine gfX4_12 C 0 rfl rfl dX4_turns_1 ?_
  refine b_iload_n C dX4_turns_4 rfl 1 rfl ?_
  refine b_iload_n C dX4_turns_5 rfl 2 rfl ?_
  obtain ⟨r1, hM, hm⟩ := bK1_some hm
  refine b_kV (w' := [(A_th, oO 3 [.ref A_th_tried, .ref A_th_learning]), (A_th_tried, oO 6 [V_th_tried_letters, .ref A_th_tried_breaks, .ref A_th_tried_sizes, .ref A_th_tried_rules, .ref A_th_tried_hs, .int th_tried_words, .int th_tried_learnt]), (A_th_tried_sizes, iA g 6 th_tried_sizes), (A_th_tried_breaks, iA g 6 th_tried_breaks), (A_th_learning, oO 4 [.ref A_th_learning_index, .ref A_th_learning_levels, .ref A_th_learning_good, .ref A_th_learning_bad, .ref A_th_learning_digits]), (A_th_learning_levels, iA g 270 th_learning_levels), (A_th_learning_index, oO 2 [V_th_learning_index_numbers, V_th_learning_index_codes, .ref A_th_learning_index_fits, .int th_learning_index_known, .ref A_th_learning_index_starts, V_th_learning_index_signs, V_th_learning_index_size]), (A_th_learning_digits, iA g 30 th_learning_digits), (A_th_learning_good, iA g 270 th_learning_good), (A_th_learning_bad, iA g 270 th_learning_bad), (A_th_tried_rules, iA g 5 th_tried_rules), (A_th_tried_hs, iA g 5 th_tried_hs), (A_th_learning_index_fits, iA g 270 th_learning_index_fits), (A_th_learning_index_starts, iA g 5 th_learning_index_starts)]) (st := []) (st2 := [.int r1]) C cv_X7_hasPlace tb724 (c_X7_hasPlace l g A_th_tried A_th_tried_sizes V_th_tried_letters (.ref A_th_tried_breaks) (.ref A_th_tried_rules) (.ref A_th_tried_hs) (.int th_tried_learnt) n1 n2 th_tried_words th_tried_sizes F r1 hM) rfl 1 rfl rfl ⟨rfl, rfl, by decide, by decide⟩ (Nat.le_of_ble_eq_true rfl) [1, 2] rfl (by decide) rfl rfl dX4_turns_6 [none, some 0, some 1, none, none, none, none, none, none, none, none, none, none, none] (by decide) ⟨rfl, ⟨⟨rfl, rfl⟩, ⟨⟨rfl, rfl⟩, ⟨rfl, ⟨rfl, ⟨rfl, ⟨rfl, ⟨rfl, ⟨rfl, ⟨rfl, ⟨rfl, ⟨rfl, ⟨rfl, ⟨rfl, trivial⟩⟩⟩⟩⟩⟩⟩⟩⟩⟩⟩⟩⟩⟩ rfl ?_
  refine b_if_ne (tgt := 14) C dX4_turns_9 (by decide) hm (fun hm => ?_) (fun hm => ?_)
  · refine b_aload_n C dX4_turns_14 rfl 0 rfl ?_
    refine gfX4_12 C 0 rfl rfl dX4_turns_15 ?_
    refine b_iload_n C dX4_turns_18 rfl 1 rfl ?_
    refine b_iload_n C dX4_turns_19 rfl 2 rfl ?_
    obtain ⟨f2, hM, hm⟩ := bK1_some hm
    refine b_kV (w' := [(A_th, oO 3 [.ref A_th_tried, .ref A_th_learning]), (A_th_tried, oO 6 [V_th_tried_letters, .ref A_th_tried_breaks, .ref A_th_tried_sizes, .ref A_th_tried_rules, .ref A_th_tried_hs, .int th_tried_words, .int th_tried_learnt]), (A_th_tried_sizes, iA g 6 th_tried_sizes), (A_th_tried_breaks, iA g 6 f2), (A_th_learning, oO 4 [.ref A_th_learning_index, .ref A_th_learning_levels, .ref A_th_learning_good, .ref A_th_learning_bad, .ref A_th_learning_digits]), (A_th_learning_levels, iA g 270 th_learning_levels), (A_th_learning_index, oO 2 [V_th_learning_index_numbers, V_th_learning_index_codes, .ref A_th_learning_index_fits, .int th_learning_index_known, .ref A_th_learning_index_starts, V_th_learning_index_signs, V_th_learning_index_size]), (A_th_learning_digits, iA g 30 th_learning_digits), (A_th_learning_good, iA g 270 th_learning_good), (A_th_learning_bad, iA g 270 th_learning_bad), (A_th_tried_rules, iA g 5 th_tried_rules), (A_th_tried_hs, iA g 5 th_tried_hs), (A_th_learning_index_fits, iA g 270 th_learning_index_fits), (A_th_learning_index_starts, iA g 5 th_learning_index_starts)]) (st := []) (st2 := []) C cv_X7_flip tb725 (c_X7_flip l g A_th_tried A_th_tried_sizes A_th_tried_breaks V_th_tried_letters (.ref A_th_tried_rules) (.ref A_th_tried_hs) (.int th_tried_learnt) n1 n2 th_tried_words th_tried_sizes th_tried_breaks F f2 hM) rfl 1 rfl rfl ⟨rfl, rfl, by decide, by decide⟩ (Nat.le_of_ble_eq_true rfl) [1, 2, 3] rfl (by decide) rfl rfl dX4_turns_20 [none, some 0, some 1, some 2, none, none, none, none, none, none, none, none, none, none] (by decide) ⟨rfl, ⟨⟨rfl, rfl⟩, ⟨⟨rfl, rfl⟩, ⟨⟨rfl, rfl⟩, ⟨rfl, ⟨rfl, ⟨rfl, ⟨rfl, ⟨rfl, ⟨rfl, ⟨rfl, ⟨rfl, ⟨rfl, ⟨rfl, trivial⟩⟩⟩⟩⟩⟩⟩⟩⟩⟩⟩⟩⟩⟩ rfl ?_
    refine b_aload_n C dX4_turns_23 rfl 0 rfl ?_
    refine gfX4_18 C 0 rfl rfl dX4_turns_24 ?_
    refine b_aload_n C dX4_turns_27 rfl 0 rfl ?_
    refine gfX4_12 C 0 rfl rfl dX4_turns_28 ?_
    refine b_bipush (v := 63) C dX4_turns_31 (by decide) ?_
    obtain ⟨f3, f4, f5, f6, hM, hm⟩ := bK4_some hm
    refine b_kV (w' := [(A_th, oO 3 [.ref A_th_tried, .ref A_th_learning]), (A_th_tried, oO 6 [V_th_tried_letters, .ref A_th_tried_breaks, .ref A_th_tried_sizes, .ref A_th_tried_rules, .ref A_th_tried_hs, .int th_tried_words, .int th_tried_learnt]), (A_th_tried_sizes, iA g 6 th_tried_sizes), (A_th_tried_breaks, iA g 6 f2), (A_th_learning, oO 4 [.ref A_th_learning_index, .ref A_th_learning_levels, .ref A_th_learning_good, .ref A_th_learning_bad, .ref A_th_learning_digits]), (A_th_learning_levels, iA g 270 f3), (A_th_learning_index, oO 2 [V_th_learning_index_numbers, V_th_learning_index_codes, .ref A_th_learning_index_fits, .int th_learning_index_known, .ref A_th_learning_index_starts, V_th_learning_index_signs, V_th_learning_index_size]), (A_th_learning_digits, iA g 30 f4), (A_th_learning_good, iA g 270 f5), (A_th_learning_bad, iA g 270 f6), (A_th_tried_rules, iA g 5 th_tried_rules), (A_th_tried_hs, iA g 5 th_tried_hs), (A_th_learning_index_fits, iA g 270 th_learning_index_fits), (A_th_learning_index_starts, iA g 5 th_learning_index_starts)]) (st := []) (st2 := []) C cv_X5_learnFrom tb713 (c_X5_learnFrom l g A_th_learning A_th_tried A_th_learning_levels A_th_learning_index A_th_learning_digits A_th_learning_good A_th_learning_bad A_th_tried_sizes A_th_tried_breaks A_th_learning_index_fits A_th_tried_rules A_th_tried_hs A_th_learning_index_starts V_th_tried_letters V_th_learning_index_numbers V_th_learning_index_codes V_th_learning_index_signs V_th_learning_index_size 63 th_tried_words th_tried_learnt th_learning_levels th_learning_index_known th_learning_digits th_learning_good th_learning_bad th_tried_sizes f2 th_learning_index_fits th_tried_rules th_tried_hs th_learning_index_starts F (f3, f4, f5, f6) hM) rfl 4 rfl rfl ⟨rfl, rfl, by decide, by decide⟩ (Nat.le_of_ble_eq_true rfl) [4, 1, 5, 6, 7, 8, 9, 2, 3, 12, 10, 11, 13] rfl (by decide) rfl rfl dX4_turns_33 [none, some 1, some 7, some 8, some 0, some 2, some 3, some 4, some 5, some 6, some 10, some 11, some 9, some 12] (by decide) ⟨rfl, ⟨⟨rfl, rfl⟩, ⟨⟨rfl, rfl⟩, ⟨⟨rfl, rfl⟩, ⟨⟨rfl, rfl⟩, ⟨⟨rfl, rfl⟩, ⟨⟨rfl, rfl⟩, ⟨⟨rfl, rfl⟩, ⟨⟨rfl, rfl⟩, ⟨⟨rfl, rfl⟩, ⟨⟨rfl, rfl⟩, ⟨⟨rfl, rfl⟩, ⟨⟨rfl, rfl⟩, ⟨⟨rfl, rfl⟩, trivial⟩⟩⟩⟩⟩⟩⟩⟩⟩⟩⟩⟩⟩⟩ rfl ?_
    refine b_iconst (v := 1) C dX4_turns_36 (by decide) ?_
    cases hm
    exact b_zret (v := 1) C (by decide) dX4_turns_37
  · refine b_iconst (v := 0) C dX4_turns_12 (by decide) ?_
    cases hm
    exact b_zret (v := 0) C (by decide) dX4_turns_13
/-- BreakLearner$Judge.rules(III)Z -/
def m_X4_rules (F : Nat)  (n1 : Int32) (n2 : Int32) (n3 : Int32) (th_tried_words : Int32) (th_tried_learnt : Int32) (th_tried_rules : (Nat → Int32)) (th_tried_hs : (Nat → Int32)) (th_learning_levels : (Nat → Int32)) (th_learning_index_known : Int32) (th_learning_digits : (Nat → Int32)) (th_learning_good : (Nat → Int32)) (th_learning_bad : (Nat → Int32)) (th_tried_sizes : (Nat → Int32)) (th_tried_breaks : (Nat → Int32)) (th_learning_index_fits : (Nat → Int32)) (th_learning_index_starts : (Nat → Int32)) : Option (Int32 × (Nat → Int32) × (Nat → Int32) × (Nat → Int32) × (Nat → Int32) × (Nat → Int32) × (Nat → Int32)) :=
  bK1 (m_X10_isLevel F n1) (fun r1 =>
  if r1 = 0 then
    some (0, th_tried_rules, th_tried_hs, th_learning_levels, th_learning_digits, th_learning_good, th_learning_bad)
  else
    bK1 (m_X10_isRule F n2 n3) (fun r2 =>
    if r2 = 0 then
      some (0, th_tried_rules, th_tried_hs, th_learning_levels, th_learning_digits, th_learning_good, th_learning_bad)
    else
      bK2 (m_X7_setRule F n1 n2 n3 th_tried_rules th_tried_hs) (fun f3 f4 =>
      bK4 (m_X5_learnFrom F 63 th_tried_words th_tried_learnt th_learning_levels th_learning_index_known th_learning_digits th_learning_good th_learning_bad th_tried_sizes th_tried_breaks th_learning_index_fits f3 f4 th_learning_index_starts) (fun f5 f6 f7 f8 =>
      some (1, f3, f4, f5, f6, f7, f8)
      )
      )
    )
  )
abbrev rmX4_rules : Room := { frames := 3, cells := 0, slots := 0, locals := 80 }
set_option maxHeartbeats 4000000 in
set_option maxRecDepth 100000 in
theorem c_X4_rules (l : Launch) (g : Gl) (A_th A_th_tried A_th_tried_rules A_th_tried_hs A_th_learning A_th_learning_levels A_th_learning_index A_th_learning_digits A_th_learning_good A_th_learning_bad A_th_tried_sizes A_th_tried_breaks A_th_learning_index_fits A_th_learning_index_starts : Nat) (V_th_tried_letters V_th_learning_index_numbers V_th_learning_index_codes V_th_learning_index_signs V_th_learning_index_size : Value)  (n1 : Int32) (n2 : Int32) (n3 : Int32) (th_tried_words : Int32) (th_tried_learnt : Int32) (th_tried_rules : (Nat → Int32)) (th_tried_hs : (Nat → Int32)) (th_learning_levels : (Nat → Int32)) (th_learning_index_known : Int32) (th_learning_digits : (Nat → Int32)) (th_learning_good : (Nat → Int32)) (th_learning_bad : (Nat → Int32)) (th_tried_sizes : (Nat → Int32)) (th_tried_breaks : (Nat → Int32)) (th_learning_index_fits : (Nat → Int32)) (th_learning_index_starts : (Nat → Int32)) (F : Nat) (u : Int32 × (Nat → Int32) × (Nat → Int32) × (Nat → Int32) × (Nat → Int32) × (Nat → Int32) × (Nat → Int32)) (hm : m_X4_rules F n1 n2 n3 th_tried_words th_tried_learnt th_tried_rules th_tried_hs th_learning_levels th_learning_index_known th_learning_digits th_learning_good th_learning_bad th_tried_sizes th_tried_breaks th_learning_index_fits th_learning_index_starts = some u) : Ct l g yX4_rules cX4_rules 4 (some .boolean) rmX4_rules [.ref A_th, .int n1, .int n2, .int n3] [(A_th, oO 3 [.ref A_th_tried, .ref A_th_learning]), (A_th_tried, oO 6 [V_th_tried_letters, .ref A_th_tried_breaks, .ref A_th_tried_sizes, .ref A_th_tried_rules, .ref A_th_tried_hs, .int th_tried_words, .int th_tried_learnt]), (A_th_tried_rules, iA g 5 th_tried_rules), (A_th_tried_hs, iA g 5 th_tried_hs), (A_th_learning, oO 4 [.ref A_th_learning_index, .ref A_th_learning_levels, .ref A_th_learning_good, .ref A_th_learning_bad, .ref A_th_learning_digits]), (A_th_learning_levels, iA g 270 th_learning_levels), (A_th_learning_index, oO 2 [V_th_learning_index_numbers, V_th_learning_index_codes, .ref A_th_learning_index_fits, .int th_learning_index_known, .ref A_th_learning_index_starts, V_th_learning_index_signs, V_th_learning_index_size]), (A_th_learning_digits, iA g 30 th_learning_digits), (A_th_learning_good, iA g 270 th_learning_good), (A_th_learning_bad, iA g 270 th_learning_bad), (A_th_tried_sizes, iA g 6 th_tried_sizes), (A_th_tried_breaks, iA g 6 th_tried_breaks), (A_th_learning_index_fits, iA g 270 th_learning_index_fits), (A_th_learning_index_starts, iA g 5 th_learning_index_starts)] (some (.int u.1)) [(A_th, oO 3 [.ref A_th_tried, .ref A_th_learning]), (A_th_tried, oO 6 [V_th_tried_letters, .ref A_th_tried_breaks, .ref A_th_tried_sizes, .ref A_th_tried_rules, .ref A_th_tried_hs, .int th_tried_words, .int th_tried_learnt]), (A_th_tried_rules, iA g 5 u.2.1), (A_th_tried_hs, iA g 5 u.2.2.1), (A_th_learning, oO 4 [.ref A_th_learning_index, .ref A_th_learning_levels, .ref A_th_learning_good, .ref A_th_learning_bad, .ref A_th_learning_digits]), (A_th_learning_levels, iA g 270 u.2.2.2.1), (A_th_learning_index, oO 2 [V_th_learning_index_numbers, V_th_learning_index_codes, .ref A_th_learning_index_fits, .int th_learning_index_known, .ref A_th_learning_index_starts, V_th_learning_index_signs, V_th_learning_index_size]), (A_th_learning_digits, iA g 30 u.2.2.2.2.1), (A_th_learning_good, iA g 270 u.2.2.2.2.2.1), (A_th_learning_bad, iA g 270 u.2.2.2.2.2.2), (A_th_tried_sizes, iA g 6 th_tried_sizes), (A_th_tried_breaks, iA g 6 th_tried_breaks), (A_th_learning_index_fits, iA g 270 th_learning_index_fits), (A_th_learning_index_starts, iA g 5 th_learning_index_starts)] := by
  refine ent (own := RX4) (lv := [(0, .ref A_th), (1, .int n1), (2, .int n2), (3, .int n3)]) (by decide) rfl (Nat.le_of_ble_eq_true rfl) rfl rfl ?_
  intro x C
  unfold m_X4_rules at hm
  refine b_iload_n C dX4_rules_0 rfl 1 rfl ?_
  obtain ⟨r1, hM, hm⟩ := bK1_some hm
  refine b_kN (w' := [(A_th, oO 3 [.ref A_th_tried, .ref A_th_learning]), (A_th_tried, oO 6 [V_th_tried_letters, .ref A_th_tried_breaks, .ref A_th_tried_sizes, .ref A_th_tried_rules, .ref A_th_tried_hs, .int th_tried_words, .int th_tried_learnt]), (A_th_tried_rules, iA g 5 th_tried_rules), (A_th_tried_hs, iA g 5 th_tried_hs), (A_th_learning, oO 4 [.ref A_th_learning_index, .ref A_th_learning_levels, .ref A_th_learning_good, .ref A_th_learning_bad, .ref A_th_learning_digits]), (A_th_learning_levels, iA g 270 th_learning_levels), (A_th_learning_index, oO 2 [V_th_learning_index_numbers, V_th_learning_index_codes, .ref A_th_learning_index_fits, .int th_learning_index_known, .ref A_th_learning_index_starts, V_th_learning_index_signs, V_th_learning_index_size]), (A_th_learning_digits, iA g 30 th_learning_digits), (A_th_learning_good, iA g 270 th_learning_good), (A_th_learning_bad, iA g 270 th_learning_bad), (A_th_tried_sizes, iA g 6 th_tried_sizes), (A_th_tried_breaks, iA g 6 th_tried_breaks), (A_th_learning_index_fits, iA g 270 th_learning_index_fits), (A_th_learning_index_starts, iA g 5 th_learning_index_starts)]) (st := []) (st2 := [.int r1]) C cs_X10_isLevel (by decide +kernel) (c_X10_isLevel l g n1 F r1 hM) rfl ⟨rfl, rfl, by decide, by decide⟩ (Nat.le_of_ble_eq_true rfl) [] rfl (by decide) rfl rfl dX4_rules_1 [none, none, none, none, none, none, none, none, none, none, none, none, none, none] (by decide) ⟨rfl, ⟨rfl, ⟨rfl, ⟨rfl, ⟨rfl, ⟨rfl, ⟨rfl, ⟨rfl, ⟨rfl, ⟨rfl, ⟨rfl, ⟨rfl, ⟨rfl, ⟨rfl, trivial⟩⟩⟩⟩⟩⟩⟩⟩⟩⟩⟩⟩⟩⟩ rfl ?_
  refine b_if_eq (tgt := 15) C dX4_rules_4 (by decide) hm (fun hm => ?_) (fun hm => ?_)
  · refine b_iconst (v := 0) C dX4_rules_15 (by decide) ?_
    cases hm
    exact b_zret (v := 0) C (by decide) dX4_rules_16
  · refine b_iload_n C dX4_rules_7 rfl 2 rfl ?_
    refine b_iload_n C dX4_rules_8 rfl 3 rfl ?_
    obtain ⟨r2, hM, hm⟩ := bK1_some hm
    refine b_kN (w' := [(A_th, oO 3 [.ref A_th_tried, .ref A_th_learning]), (A_th_tried, oO 6 [V_th_tried_letters, .ref A_th_tried_breaks, .ref A_th_tried_sizes, .ref A_th_tried_rules, .ref A_th_tried_hs, .int th_tried_words, .int th_tried_learnt]), (A_th_tried_rules, iA g 5 th_tried_rules), (A_th_tried_hs, iA g 5 th_tried_hs), (A_th_learning, oO 4 [.ref A_th_learning_index, .ref A_th_learning_levels, .ref A_th_learning_good, .ref A_th_learning_bad, .ref A_th_learning_digits]), (A_th_learning_levels, iA g 270 th_learning_levels), (A_th_learning_index, oO 2 [V_th_learning_index_numbers, V_th_learning_index_codes, .ref A_th_learning_index_fits, .int th_learning_index_known, .ref A_th_learning_index_starts, V_th_learning_index_signs, V_th_learning_index_size]), (A_th_learning_digits, iA g 30 th_learning_digits), (A_th_learning_good, iA g 270 th_learning_good), (A_th_learning_bad, iA g 270 th_learning_bad), (A_th_tried_sizes, iA g 6 th_tried_sizes), (A_th_tried_breaks, iA g 6 th_tried_breaks), (A_th_learning_index_fits, iA g 270 th_learning_index_fits), (A_th_learning_index_starts, iA g 5 th_learning_index_starts)]) (st := []) (st2 := [.int r2]) C cs_X10_isRule (by decide +kernel) (c_X10_isRule l g n2 n3 F r2 hM) rfl ⟨rfl, rfl, by decide, by decide⟩ (Nat.le_of_ble_eq_true rfl) [] rfl (by decide) rfl rfl dX4_rules_9 [none, none, none, none, none, none, none, none, none, none, none, none, none, none] (by decide) ⟨rfl, ⟨rfl, ⟨rfl, ⟨rfl, ⟨rfl, ⟨rfl, ⟨rfl, ⟨rfl, ⟨rfl, ⟨rfl, ⟨rfl, ⟨rfl, ⟨rfl, ⟨rfl, trivial⟩⟩⟩⟩⟩⟩⟩⟩⟩⟩⟩⟩⟩⟩ rfl ?_
    refine b_if_ne (tgt := 17) C dX4_rules_12 (by decide) hm (fun hm => ?_) (fun hm => ?_)
    · refine b_aload_n C dX4_rules_17 rfl 0 rfl ?_
      refine gfX4_12 C 0 rfl rfl dX4_rules_18 ?_
      refine b_iload_n C dX4_rules_21 rfl 1 rfl ?_
      refine b_iload_n C dX4_rules_22 rfl 2 rfl ?_
      refine b_iload_n C dX4_rules_23 rfl 3 rfl ?_
      obtain ⟨f3, f4, hM, hm⟩ := bK2_some hm
      refine b_kV (w' := [(A_th, oO 3 [.ref A_th_tried, .ref A_th_learning]), (A_th_tried, oO 6 [V_th_tried_letters, .ref A_th_tried_breaks, .ref A_th_tried_sizes, .ref A_th_tried_rules, .ref A_th_tried_hs, .int th_tried_words, .int th_tried_learnt]), (A_th_tried_rules, iA g 5 f3), (A_th_tried_hs, iA g 5 f4), (A_th_learning, oO 4 [.ref A_th_learning_index, .ref A_th_learning_levels, .ref A_th_learning_good, .ref A_th_learning_bad, .ref A_th_learning_digits]), (A_th_learning_levels, iA g 270 th_learning_levels), (A_th_learning_index, oO 2 [V_th_learning_index_numbers, V_th_learning_index_codes, .ref A_th_learning_index_fits, .int th_learning_index_known, .ref A_th_learning_index_starts, V_th_learning_index_signs, V_th_learning_index_size]), (A_th_learning_digits, iA g 30 th_learning_digits), (A_th_learning_good, iA g 270 th_learning_good), (A_th_learning_bad, iA g 270 th_learning_bad), (A_th_tried_sizes, iA g 6 th_tried_sizes), (A_th_tried_breaks, iA g 6 th_tried_breaks), (A_th_learning_index_fits, iA g 270 th_learning_index_fits), (A_th_learning_index_starts, iA g 5 th_learning_index_starts)]) (st := []) (st2 := []) C cv_X7_setRule tb732 (c_X7_setRule l g A_th_tried A_th_tried_rules A_th_tried_hs V_th_tried_letters (.ref A_th_tried_breaks) (.ref A_th_tried_sizes) (.int th_tried_words) (.int th_tried_learnt) n1 n2 n3 th_tried_rules th_tried_hs F (f3, f4) hM) rfl 1 rfl rfl ⟨rfl, rfl, by decide, by decide⟩ (Nat.le_of_ble_eq_true rfl) [1, 2, 3] rfl (by decide) rfl rfl dX4_rules_24 [none, some 0, some 1, some 2, none, none, none, none, none, none, none, none, none, none] (by decide) ⟨rfl, ⟨⟨rfl, rfl⟩, ⟨⟨rfl, rfl⟩, ⟨⟨rfl, rfl⟩, ⟨rfl, ⟨rfl, ⟨rfl, ⟨rfl, ⟨rfl, ⟨rfl, ⟨rfl, ⟨rfl, ⟨rfl, ⟨rfl, trivial⟩⟩⟩⟩⟩⟩⟩⟩⟩⟩⟩⟩⟩⟩ rfl ?_
      refine b_aload_n C dX4_rules_27 rfl 0 rfl ?_
      refine gfX4_18 C 0 rfl rfl dX4_rules_28 ?_
      refine b_aload_n C dX4_rules_31 rfl 0 rfl ?_
      refine gfX4_12 C 0 rfl rfl dX4_rules_32 ?_
      refine b_bipush (v := 63) C dX4_rules_35 (by decide) ?_
      obtain ⟨f5, f6, f7, f8, hM, hm⟩ := bK4_some hm
      refine b_kV (w' := [(A_th, oO 3 [.ref A_th_tried, .ref A_th_learning]), (A_th_tried, oO 6 [V_th_tried_letters, .ref A_th_tried_breaks, .ref A_th_tried_sizes, .ref A_th_tried_rules, .ref A_th_tried_hs, .int th_tried_words, .int th_tried_learnt]), (A_th_tried_rules, iA g 5 f3), (A_th_tried_hs, iA g 5 f4), (A_th_learning, oO 4 [.ref A_th_learning_index, .ref A_th_learning_levels, .ref A_th_learning_good, .ref A_th_learning_bad, .ref A_th_learning_digits]), (A_th_learning_levels, iA g 270 f5), (A_th_learning_index, oO 2 [V_th_learning_index_numbers, V_th_learning_index_codes, .ref A_th_learning_index_fits, .int th_learning_index_known, .ref A_th_learning_index_starts, V_th_learning_index_signs, V_th_learning_index_size]), (A_th_learning_digits, iA g 30 f6), (A_th_learning_good, iA g 270 f7), (A_th_learning_bad, iA g 270 f8), (A_th_tried_sizes, iA g 6 th_tried_sizes), (A_th_tried_breaks, iA g 6 th_tried_breaks), (A_th_learning_index_fits, iA g 270 th_learning_index_fits), (A_th_learning_index_starts, iA g 5 th_learning_index_starts)]) (st := []) (st2 := []) C cv_X5_learnFrom tb713 (c_X5_learnFrom l g A_th_learning A_th_tried A_th_learning_levels A_th_learning_index A_th_learning_digits A_th_learning_good A_th_learning_bad A_th_tried_sizes A_th_tried_breaks A_th_learning_index_fits A_th_tried_rules A_th_tried_hs A_th_learning_index_starts V_th_tried_letters V_th_learning_index_numbers V_th_learning_index_codes V_th_learning_index_signs V_th_learning_index_size 63 th_tried_words th_tried_learnt th_learning_levels th_learning_index_known th_learning_digits th_learning_good th_learning_bad th_tried_sizes th_tried_breaks th_learning_index_fits f3 f4 th_learning_index_starts F (f5, f6, f7, f8) hM) rfl 4 rfl rfl ⟨rfl, rfl, by decide, by decide⟩ (Nat.le_of_ble_eq_true rfl) [4, 1, 5, 6, 7, 8, 9, 10, 11, 12, 2, 3, 13] rfl (by decide) rfl rfl dX4_rules_37 [none, some 1, some 10, some 11, some 0, some 2, some 3, some 4, some 5, some 6, some 7, some 8, some 9, some 12] (by decide) ⟨rfl, ⟨⟨rfl, rfl⟩, ⟨⟨rfl, rfl⟩, ⟨⟨rfl, rfl⟩, ⟨⟨rfl, rfl⟩, ⟨⟨rfl, rfl⟩, ⟨⟨rfl, rfl⟩, ⟨⟨rfl, rfl⟩, ⟨⟨rfl, rfl⟩, ⟨⟨rfl, rfl⟩, ⟨⟨rfl, rfl⟩, ⟨⟨rfl, rfl⟩, ⟨⟨rfl, rfl⟩, ⟨⟨rfl, rfl⟩, trivial⟩⟩⟩⟩⟩⟩⟩⟩⟩⟩⟩⟩⟩⟩ rfl ?_
      refine b_iconst (v := 1) C dX4_rules_40 (by decide) ?_
      cases hm
      exact b_zret (v := 1) C (by decide) dX4_rules_41
    · refine b_iconst (v := 0) C dX4_rules_15 (by decide) ?_
      cases hm
      exact b_zret (v := 0) C (by decide) dX4_rules_16
/-- BreakLearner$Judge.studies()Z -/
def m_X4_studies (F : Nat)   (th_tried_words : Int32) (th_tried_learnt : Int32) (th_learning_levels : (Nat → Int32)) (th_learning_index_known : Int32) (th_learning_digits : (Nat → Int32)) (th_learning_good : (Nat → Int32)) (th_learning_bad : (Nat → Int32)) (th_tried_sizes : (Nat → Int32)) (th_tried_breaks : (Nat → Int32)) (th_tried_rules : (Nat → Int32)) (th_tried_hs : (Nat → Int32)) (th_learning_index_fits : (Nat → Int32)) (th_learning_index_starts : (Nat → Int32)) : Option (Int32 × Int32 × (Nat → Int32) × (Nat → Int32) × (Nat → Int32) × (Nat → Int32)) :=
  if th_tried_learnt < 4 then
    letK (th_tried_learnt + 1) (fun z1 =>
    bK4 (m_X5_learnFrom F 63 th_tried_words z1 th_learning_levels th_learning_index_known th_learning_digits th_learning_good th_learning_bad th_tried_sizes th_tried_breaks th_learning_index_fits th_tried_rules th_tried_hs th_learning_index_starts) (fun f2 f3 f4 f5 =>
    some (1, z1, f2, f3, f4, f5)
    )
    )
  else
    some (0, th_tried_learnt, th_learning_levels, th_learning_digits, th_learning_good, th_learning_bad)
abbrev rmX4_studies : Room := { frames := 3, cells := 0, slots := 0, locals := 80 }
set_option maxHeartbeats 4000000 in
set_option maxRecDepth 100000 in
theorem c_X4_studies (l : Launch) (g : Gl) (A_th A_th_tried A_th_learning A_th_learning_levels A_th_learning_index A_th_learning_digits A_th_learning_good A_th_learning_bad A_th_tried_sizes A_th_tried_breaks A_th_tried_rules A_th_tried_hs A_th_learning_index_fits A_th_learning_index_starts : Nat) (V_th_tried_letters V_th_learning_index_numbers V_th_learning_index_codes V_th_learning_index_signs V_th_learning_index_size : Value)   (th_tried_words : Int32) (th_tried_learnt : Int32) (th_learning_levels : (Nat → Int32)) (th_learning_index_known : Int32) (th_learning_digits : (Nat → Int32)) (th_learning_good : (Nat → Int32)) (th_learning_bad : (Nat → Int32)) (th_tried_sizes : (Nat → Int32)) (th_tried_breaks : (Nat → Int32)) (th_tried_rules : (Nat → Int32)) (th_tried_hs : (Nat → Int32)) (th_learning_index_fits : (Nat → Int32)) (th_learning_index_starts : (Nat → Int32)) (F : Nat) (u : Int32 × Int32 × (Nat → Int32) × (Nat → Int32) × (Nat → Int32) × (Nat → Int32)) (hm : m_X4_studies F th_tried_words th_tried_learnt th_learning_levels th_learning_index_known th_learning_digits th_learning_good th_learning_bad th_tried_sizes th_tried_breaks th_tried_rules th_tried_hs th_learning_index_fits th_learning_index_starts = some u) : Ct l g yX4_studies cX4_studies 1 (some .boolean) rmX4_studies [.ref A_th] [(A_th, oO 3 [.ref A_th_tried, .ref A_th_learning]), (A_th_tried, oO 6 [V_th_tried_letters, .ref A_th_tried_breaks, .ref A_th_tried_sizes, .ref A_th_tried_rules, .ref A_th_tried_hs, .int th_tried_words, .int th_tried_learnt]), (A_th_learning, oO 4 [.ref A_th_learning_index, .ref A_th_learning_levels, .ref A_th_learning_good, .ref A_th_learning_bad, .ref A_th_learning_digits]), (A_th_learning_levels, iA g 270 th_learning_levels), (A_th_learning_index, oO 2 [V_th_learning_index_numbers, V_th_learning_index_codes, .ref A_th_learning_index_fits, .int th_learning_index_known, .ref A_th_learning_index_starts, V_th_learning_index_signs, V_th_learning_index_size]), (A_th_learning_digits, iA g 30 th_learning_digits), (A_th_learning_good, iA g 270 th_learning_good), (A_th_learning_bad, iA g 270 th_learning_bad), (A_th_tried_sizes, iA g 6 th_tried_sizes), (A_th_tried_breaks, iA g 6 th_tried_breaks), (A_th_tried_rules, iA g 5 th_tried_rules), (A_th_tried_hs, iA g 5 th_tried_hs), (A_th_learning_index_fits, iA g 270 th_learning_index_fits), (A_th_learning_index_starts, iA g 5 th_learning_index_starts)] (some (.int u.1)) [(A_th, oO 3 [.ref A_th_tried, .ref A_th_learning]), (A_th_tried, oO 6 [V_th_tried_letters, .ref A_th_tried_breaks, .ref A_th_tried_sizes, .ref A_th_tried_rules, .ref A_th_tried_hs, .int th_tried_words, .int u.2.1]), (A_th_learning, oO 4 [.ref A_th_learning_index, .ref A_th_learning_levels, .ref A_th_learning_good, .ref A_th_learning_bad, .ref A_th_learning_digits]), (A_th_learning_levels, iA g 270 u.2.2.1), (A_th_learning_index, oO 2 [V_th_learning_index_numbers, V_th_learning_index_codes, .ref A_th_learning_index_fits, .int th_learning_index_known, .ref A_th_learning_index_starts, V_th_learning_index_signs, V_th_learning_index_size]), (A_th_learning_digits, iA g 30 u.2.2.2.1), (A_th_learning_good, iA g 270 u.2.2.2.2.1), (A_th_learning_bad, iA g 270 u.2.2.2.2.2), (A_th_tried_sizes, iA g 6 th_tried_sizes), (A_th_tried_breaks, iA g 6 th_tried_breaks), (A_th_tried_rules, iA g 5 th_tried_rules), (A_th_tried_hs, iA g 5 th_tried_hs), (A_th_learning_index_fits, iA g 270 th_learning_index_fits), (A_th_learning_index_starts, iA g 5 th_learning_index_starts)] := by
  refine ent (own := RX4) (lv := [(0, .ref A_th)]) (by decide) rfl (Nat.le_of_ble_eq_true rfl) rfl rfl ?_
  intro x C
  unfold m_X4_studies at hm
  refine b_aload_n C dX4_studies_0 rfl 0 rfl ?_
  refine gfX4_12 C 0 rfl rfl dX4_studies_1 ?_
  refine gfX4_89 C 1 rfl rfl dX4_studies_4 ?_
  refine b_iconst (v := 4) C dX4_studies_7 (by decide) ?_
  refine b_icmp_lt (tgt := 13) C dX4_studies_8 (by decide) hm (fun hm => ?_) (fun hm => ?_)
  · refine b_aload_n C dX4_studies_13 rfl 0 rfl ?_
    refine gfX4_12 C 0 rfl rfl dX4_studies_14 ?_
    refine b_dup C dX4_studies_17 rfl ?_
    refine gfX4_89 C 1 rfl rfl dX4_studies_18 ?_
    refine b_iconst (v := 1) C dX4_studies_21 (by decide) ?_
    refine b_iadd C dX4_studies_22 ?_
    refine b_topi hm (fun z1 hm => ?_)
    refine pfX4_89 (w' := [(A_th, oO 3 [.ref A_th_tried, .ref A_th_learning]), (A_th_tried, oO 6 [V_th_tried_letters, .ref A_th_tried_breaks, .ref A_th_tried_sizes, .ref A_th_tried_rules, .ref A_th_tried_hs, .int th_tried_words, .int z1]), (A_th_learning, oO 4 [.ref A_th_learning_index, .ref A_th_learning_levels, .ref A_th_learning_good, .ref A_th_learning_bad, .ref A_th_learning_digits]), (A_th_learning_levels, iA g 270 th_learning_levels), (A_th_learning_index, oO 2 [V_th_learning_index_numbers, V_th_learning_index_codes, .ref A_th_learning_index_fits, .int th_learning_index_known, .ref A_th_learning_index_starts, V_th_learning_index_signs, V_th_learning_index_size]), (A_th_learning_digits, iA g 30 th_learning_digits), (A_th_learning_good, iA g 270 th_learning_good), (A_th_learning_bad, iA g 270 th_learning_bad), (A_th_tried_sizes, iA g 6 th_tried_sizes), (A_th_tried_breaks, iA g 6 th_tried_breaks), (A_th_tried_rules, iA g 5 th_tried_rules), (A_th_tried_hs, iA g 5 th_tried_hs), (A_th_learning_index_fits, iA g 270 th_learning_index_fits), (A_th_learning_index_starts, iA g 5 th_learning_index_starts)]) C rfl rfl 1 rfl (Nat.le_of_ble_eq_true rfl) dX4_studies_23 rfl ?_
    refine b_aload_n C dX4_studies_26 rfl 0 rfl ?_
    refine gfX4_18 C 0 rfl rfl dX4_studies_27 ?_
    refine b_aload_n C dX4_studies_30 rfl 0 rfl ?_
    refine gfX4_12 C 0 rfl rfl dX4_studies_31 ?_
    refine b_bipush (v := 63) C dX4_studies_34 (by decide) ?_
    obtain ⟨f2, f3, f4, f5, hM, hm⟩ := bK4_some hm
    refine b_kV (w' := [(A_th, oO 3 [.ref A_th_tried, .ref A_th_learning]), (A_th_tried, oO 6 [V_th_tried_letters, .ref A_th_tried_breaks, .ref A_th_tried_sizes, .ref A_th_tried_rules, .ref A_th_tried_hs, .int th_tried_words, .int z1]), (A_th_learning, oO 4 [.ref A_th_learning_index, .ref A_th_learning_levels, .ref A_th_learning_good, .ref A_th_learning_bad, .ref A_th_learning_digits]), (A_th_learning_levels, iA g 270 f2), (A_th_learning_index, oO 2 [V_th_learning_index_numbers, V_th_learning_index_codes, .ref A_th_learning_index_fits, .int th_learning_index_known, .ref A_th_learning_index_starts, V_th_learning_index_signs, V_th_learning_index_size]), (A_th_learning_digits, iA g 30 f3), (A_th_learning_good, iA g 270 f4), (A_th_learning_bad, iA g 270 f5), (A_th_tried_sizes, iA g 6 th_tried_sizes), (A_th_tried_breaks, iA g 6 th_tried_breaks), (A_th_tried_rules, iA g 5 th_tried_rules), (A_th_tried_hs, iA g 5 th_tried_hs), (A_th_learning_index_fits, iA g 270 th_learning_index_fits), (A_th_learning_index_starts, iA g 5 th_learning_index_starts)]) (st := []) (st2 := []) C cv_X5_learnFrom tb713 (c_X5_learnFrom l g A_th_learning A_th_tried A_th_learning_levels A_th_learning_index A_th_learning_digits A_th_learning_good A_th_learning_bad A_th_tried_sizes A_th_tried_breaks A_th_learning_index_fits A_th_tried_rules A_th_tried_hs A_th_learning_index_starts V_th_tried_letters V_th_learning_index_numbers V_th_learning_index_codes V_th_learning_index_signs V_th_learning_index_size 63 th_tried_words z1 th_learning_levels th_learning_index_known th_learning_digits th_learning_good th_learning_bad th_tried_sizes th_tried_breaks th_learning_index_fits th_tried_rules th_tried_hs th_learning_index_starts F (f2, f3, f4, f5) hM) rfl 2 rfl rfl ⟨rfl, rfl, by decide, by decide⟩ (Nat.le_of_ble_eq_true rfl) [2, 1, 3, 4, 5, 6, 7, 8, 9, 12, 10, 11, 13] rfl (by decide) rfl rfl dX4_studies_36 [none, some 1, some 0, some 2, some 3, some 4, some 5, some 6, some 7, some 8, some 10, some 11, some 9, some 12] (by decide) ⟨rfl, ⟨⟨rfl, rfl⟩, ⟨⟨rfl, rfl⟩, ⟨⟨rfl, rfl⟩, ⟨⟨rfl, rfl⟩, ⟨⟨rfl, rfl⟩, ⟨⟨rfl, rfl⟩, ⟨⟨rfl, rfl⟩, ⟨⟨rfl, rfl⟩, ⟨⟨rfl, rfl⟩, ⟨⟨rfl, rfl⟩, ⟨⟨rfl, rfl⟩, ⟨⟨rfl, rfl⟩, ⟨⟨rfl, rfl⟩, trivial⟩⟩⟩⟩⟩⟩⟩⟩⟩⟩⟩⟩⟩⟩ rfl ?_
    refine b_iconst (v := 1) C dX4_studies_39 (by decide) ?_
    cases hm
    exact b_zret (v := 1) C (by decide) dX4_studies_40
  · refine b_iconst (v := 0) C dX4_studies_11 (by decide) ?_
    cases hm
    exact b_zret (v := 0) C (by decide) dX4_studies_12
/-- BreakLearner$Judge.hasPattern(II)Z -/
def m_X4_hasPattern (F : Nat)  (n1 : Int32) (n2 : Int32) (th_learning_levels : (Nat → Int32)) (th_learning_index_numbers : (Nat → Int32)) : Option (Int32) :=
  bK1 (m_X2_nodeOf F n1) (fun r1 =>
  bK1 (m_X2_isPattern F r1 n2) (fun r2 =>
  if r2 = 0 then
    some 0
  else
    bK1 (m_X5_levelOf F r1 n2 th_learning_levels th_learning_index_numbers) (fun r3 =>
    if r3 ≤ 0 then
      some 0
    else
      some 1
    )
  )
  )
abbrev rmX4_hasPattern : Room := { frames := 2, cells := 0, slots := 0, locals := 44 }
set_option maxHeartbeats 4000000 in
set_option maxRecDepth 100000 in
theorem c_X4_hasPattern (l : Launch) (g : Gl) (A_th A_th_learning A_th_learning_index A_th_learning_levels A_th_learning_index_numbers : Nat) (V_th_tried V_th_learning_good V_th_learning_bad V_th_learning_digits V_th_learning_index_codes V_th_learning_index_fits V_th_learning_index_known V_th_learning_index_starts V_th_learning_index_signs V_th_learning_index_size : Value)  (n1 : Int32) (n2 : Int32) (th_learning_levels : (Nat → Int32)) (th_learning_index_numbers : (Nat → Int32)) (F : Nat) (u : Int32) (hm : m_X4_hasPattern F n1 n2 th_learning_levels th_learning_index_numbers = some u) : Ct l g yX4_hasPattern cX4_hasPattern 4 (some .boolean) rmX4_hasPattern [.ref A_th, .int n1, .int n2] [(A_th, oO 3 [V_th_tried, .ref A_th_learning]), (A_th_learning, oO 4 [.ref A_th_learning_index, .ref A_th_learning_levels, V_th_learning_good, V_th_learning_bad, V_th_learning_digits]), (A_th_learning_index, oO 2 [.ref A_th_learning_index_numbers, V_th_learning_index_codes, V_th_learning_index_fits, V_th_learning_index_known, V_th_learning_index_starts, V_th_learning_index_signs, V_th_learning_index_size]), (A_th_learning_levels, iA g 270 th_learning_levels), (A_th_learning_index_numbers, iA g 1372 th_learning_index_numbers)] (some (.int u)) [(A_th, oO 3 [V_th_tried, .ref A_th_learning]), (A_th_learning, oO 4 [.ref A_th_learning_index, .ref A_th_learning_levels, V_th_learning_good, V_th_learning_bad, V_th_learning_digits]), (A_th_learning_index, oO 2 [.ref A_th_learning_index_numbers, V_th_learning_index_codes, V_th_learning_index_fits, V_th_learning_index_known, V_th_learning_index_starts, V_th_learning_index_signs, V_th_learning_index_size]), (A_th_learning_levels, iA g 270 th_learning_levels), (A_th_learning_index_numbers, iA g 1372 th_learning_index_numbers)] := by
  refine ent (own := RX4) (lv := [(0, .ref A_th), (1, .int n1), (2, .int n2)]) (by decide) rfl (Nat.le_of_ble_eq_true rfl) rfl rfl ?_
  intro x C
  unfold m_X4_hasPattern at hm
  refine b_iload_n C dX4_hasPattern_0 rfl 1 rfl ?_
  obtain ⟨r1, hM, hm⟩ := bK1_some hm
  refine b_kS (w' := [(A_th, oO 3 [V_th_tried, .ref A_th_learning]), (A_th_learning, oO 4 [.ref A_th_learning_index, .ref A_th_learning_levels, V_th_learning_good, V_th_learning_bad, V_th_learning_digits]), (A_th_learning_index, oO 2 [.ref A_th_learning_index_numbers, V_th_learning_index_codes, V_th_learning_index_fits, V_th_learning_index_known, V_th_learning_index_starts, V_th_learning_index_signs, V_th_learning_index_size]), (A_th_learning_levels, iA g 270 th_learning_levels), (A_th_learning_index_numbers, iA g 1372 th_learning_index_numbers)]) (st := []) (st2 := [.int r1]) C cs_X2_nodeOf tb745 (c_X2_nodeOf l g n1 F r1 hM) rfl ⟨rfl, rfl, by decide, by decide⟩ (Nat.le_of_ble_eq_true rfl) [] rfl (by decide) rfl rfl dX4_hasPattern_1 [none, none, none, none, none] (by decide) ⟨rfl, ⟨rfl, ⟨rfl, ⟨rfl, ⟨rfl, trivial⟩⟩⟩⟩⟩ rfl ?_
  refine b_istore_n (lv' := [(3, .int r1), (0, .ref A_th), (1, .int n1), (2, .int n2)]) C dX4_hasPattern_4 rfl (by decide) rfl ?_
  refine b_iload_n C dX4_hasPattern_5 rfl 0 rfl ?_
  refine b_iload_n C dX4_hasPattern_6 rfl 3 rfl ?_
  obtain ⟨r2, hM, hm⟩ := bK1_some hm
  refine b_kS (w' := [(A_th, oO 3 [V_th_tried, .ref A_th_learning]), (A_th_learning, oO 4 [.ref A_th_learning_index, .ref A_th_learning_levels, V_th_learning_good, V_th_learning_bad, V_th_learning_digits]), (A_th_learning_index, oO 2 [.ref A_th_learning_index_numbers, V_th_learning_index_codes, V_th_learning_index_fits, V_th_learning_index_known, V_th_learning_index_starts, V_th_learning_index_signs, V_th_learning_index_size]), (A_th_learning_levels, iA g 270 th_learning_levels), (A_th_learning_index_numbers, iA g 1372 th_learning_index_numbers)]) (st := []) (st2 := [.int r2]) C cs_X2_isPattern tb746 (c_X2_isPattern l g r1 n2 F r2 hM) rfl ⟨rfl, rfl, by decide, by decide⟩ (Nat.le_of_ble_eq_true rfl) [] rfl (by decide) rfl rfl dX4_hasPattern_7 [none, none, none, none, none] (by decide) ⟨rfl, ⟨rfl, ⟨rfl, ⟨rfl, ⟨rfl, trivial⟩⟩⟩⟩⟩ rfl ?_
  refine b_if_eq (tgt := 29) C dX4_hasPattern_10 (by decide) hm (fun hm => ?_) (fun hm => ?_)
  · refine b_iconst (v := 0) C dX4_hasPattern_29 (by decide) ?_
    cases hm
    exact b_zret (v := 0) C (by decide) dX4_hasPattern_30
  · refine b_aload_n C dX4_hasPattern_13 rfl 1 rfl ?_
    refine gfX4_18 C 0 rfl rfl dX4_hasPattern_14 ?_
    refine b_iload_n C dX4_hasPattern_17 rfl 0 rfl ?_
    refine b_iload_n C dX4_hasPattern_18 rfl 3 rfl ?_
    obtain ⟨r3, hM, hm⟩ := bK1_some hm
    refine b_kV (w' := [(A_th, oO 3 [V_th_tried, .ref A_th_learning]), (A_th_learning, oO 4 [.ref A_th_learning_index, .ref A_th_learning_levels, V_th_learning_good, V_th_learning_bad, V_th_learning_digits]), (A_th_learning_index, oO 2 [.ref A_th_learning_index_numbers, V_th_learning_index_codes, V_th_learning_index_fits, V_th_learning_index_known, V_th_learning_index_starts, V_th_learning_index_signs, V_th_learning_index_size]), (A_th_learning_levels, iA g 270 th_learning_levels), (A_th_learning_index_numbers, iA g 1372 th_learning_index_numbers)]) (st := []) (st2 := [.int r3]) C cv_X5_levelOf tb747 (c_X5_levelOf l g A_th_learning A_th_learning_index A_th_learning_levels A_th_learning_index_numbers V_th_learning_good V_th_learning_bad V_th_learning_digits V_th_learning_index_codes V_th_learning_index_fits V_th_learning_index_known V_th_learning_index_starts V_th_learning_index_signs V_th_learning_index_size r1 n2 th_learning_levels th_learning_index_numbers F r3 hM) rfl 1 rfl rfl ⟨rfl, rfl, by decide, by decide⟩ (Nat.le_of_ble_eq_true rfl) [1, 2, 3, 4] rfl (by decide) rfl rfl dX4_hasPattern_19 [none, some 0, some 1, some 2, some 3] (by decide) ⟨rfl, ⟨⟨rfl, rfl⟩, ⟨⟨rfl, rfl⟩, ⟨⟨rfl, rfl⟩, ⟨⟨rfl, rfl⟩, trivial⟩⟩⟩⟩⟩ rfl ?_
    refine b_if_le (tgt := 29) C dX4_hasPattern_22 (by decide) hm (fun hm => ?_) (fun hm => ?_)
    · refine b_iconst (v := 0) C dX4_hasPattern_29 (by decide) ?_
      cases hm
      exact b_zret (v := 0) C (by decide) dX4_hasPattern_30
    · refine b_iconst (v := 1) C dX4_hasPattern_25 (by decide) ?_
      refine b_goto (tgt := 30) C dX4_hasPattern_26 (by decide) ?_
      cases hm
      exact b_zret (v := 1) C (by decide) dX4_hasPattern_30
/-- BreakLearner$Judge.goesOn(I)Z -/
def m_X4_goesOn (F : Nat)  (n1 : Int32) (th_learning_index_known : Int32) (th_learning_levels : (Nat → Int32)) (th_learning_index_numbers : (Nat → Int32)) (th_tried_words : Int32) (th_tried_learnt : Int32) (th_learning_digits : (Nat → Int32)) (th_tried_sizes : (Nat → Int32)) (th_tried_breaks : (Nat → Int32)) (th_tried_rules : (Nat → Int32)) (th_tried_hs : (Nat → Int32)) (th_learning_good : (Nat → Int32)) (th_learning_bad : (Nat → Int32)) (th_learning_index_fits : (Nat → Int32)) (th_learning_index_starts : (Nat → Int32)) : Option (Int32 × (Nat → Int32) × Int32 × (Nat → Int32) × (Nat → Int32) × (Nat → Int32) × (Nat → Int32) × (Nat → Int32) × (Nat → Int32)) :=
  letK (irm (n1 / 1000) 10) (fun x1 =>
  letK (irm (n1 / 100) 10) (fun x2 =>
  letK (irm (n1 / 10) 10) (fun x3 =>
  letK (irm n1 100) (fun x4 =>
  if (n1 / 10000) = 1 then
    if x4 = 0 then
      bK6 (m_X4_turns F x1 x2 th_tried_words th_tried_learnt th_tried_sizes th_tried_breaks th_learning_levels th_learning_index_known th_learning_digits th_learning_good th_learning_bad th_tried_rules th_tried_hs th_learning_index_fits th_learning_index_starts) (fun r5 f6 f7 f8 f9 f10 =>
      if r5 = 0 then
        some (0, f7, th_tried_learnt, f8, f6, th_tried_rules, th_tried_hs, f9, f10)
      else
        some (1, f7, th_tried_learnt, f8, f6, th_tried_rules, th_tried_hs, f9, f10)
      )
    else
      some (0, th_learning_levels, th_tried_learnt, th_learning_digits, th_tried_breaks, th_tried_rules, th_tried_hs, th_learning_good, th_learning_bad)
  else
    if (n1 / 10000) = 2 then
      if x3 = 0 then
        bK7 (m_X4_rules F x1 x2 x4 th_tried_words th_tried_learnt th_tried_rules th_tried_hs th_learning_levels th_learning_index_known th_learning_digits th_learning_good th_learning_bad th_tried_sizes th_tried_breaks th_learning_index_fits th_learning_index_starts) (fun r12 f13 f14 f15 f16 f17 f18 =>
        if r12 = 0 then
          some (0, f15, th_tried_learnt, f16, th_tried_breaks, f13, f14, f17, f18)
        else
          some (1, f15, th_tried_learnt, f16, th_tried_breaks, f13, f14, f17, f18)
        )
      else
        some (0, th_learning_levels, th_tried_learnt, th_learning_digits, th_tried_breaks, th_tried_rules, th_tried_hs, th_learning_good, th_learning_bad)
    else
      if (n1 / 10000) = 3 then
        if (irm n1 10000) = 0 then
          bK6 (m_X4_studies F th_tried_words th_tried_learnt th_learning_levels th_learning_index_known th_learning_digits th_learning_good th_learning_bad th_tried_sizes th_tried_breaks th_tried_rules th_tried_hs th_learning_index_fits th_learning_index_starts) (fun r20 z21 f22 f23 f24 f25 =>
          if r20 = 0 then
            some (0, f22, z21, f23, th_tried_breaks, th_tried_rules, th_tried_hs, f24, f25)
          else
            some (1, f22, z21, f23, th_tried_breaks, th_tried_rules, th_tried_hs, f24, f25)
          )
        else
          some (0, th_learning_levels, th_tried_learnt, th_learning_digits, th_tried_breaks, th_tried_rules, th_tried_hs, th_learning_good, th_learning_bad)
      else
        if (n1 / 10000) = 4 then
          if x3 = 0 then
            bK1 (m_X7_hasPlace F x1 x2 th_tried_words th_tried_sizes) (fun r27 =>
            if r27 = 0 then
              some (0, th_learning_levels, th_tried_learnt, th_learning_digits, th_tried_breaks, th_tried_rules, th_tried_hs, th_learning_good, th_learning_bad)
            else
              bK1 (m_X5_digitOf F x1 x2 th_learning_digits) (fun r28 =>
              if r28 = x4 then
                some (1, th_learning_levels, th_tried_learnt, th_learning_digits, th_tried_breaks, th_tried_rules, th_tried_hs, th_learning_good, th_learning_bad)
              else
                some (0, th_learning_levels, th_tried_learnt, th_learning_digits, th_tried_breaks, th_tried_rules, th_tried_hs, th_learning_good, th_learning_bad)
              )
            )
          else
            some (0, th_learning_levels, th_tried_learnt, th_learning_digits, th_tried_breaks, th_tried_rules, th_tried_hs, th_learning_good, th_learning_bad)
        else
          if (n1 / 10000) = 5 then
            if (irm n1 1000) = 0 then
              bK1 (m_X7_hasWord F x1 th_tried_words) (fun r30 =>
              if r30 = 0 then
                some (0, th_learning_levels, th_tried_learnt, th_learning_digits, th_tried_breaks, th_tried_rules, th_tried_hs, th_learning_good, th_learning_bad)
              else
                bK1 (m_X5_wrongPlaces F x1 th_learning_digits th_tried_sizes th_tried_breaks) (fun r31 =>
                if r31 = 0 then
                  some (1, th_learning_levels, th_tried_learnt, th_learning_digits, th_tried_breaks, th_tried_rules, th_tried_hs, th_learning_good, th_learning_bad)
                else
                  some (0, th_learning_levels, th_tried_learnt, th_learning_digits, th_tried_breaks, th_tried_rules, th_tried_hs, th_learning_good, th_learning_bad)
                )
              )
            else
              some (0, th_learning_levels, th_tried_learnt, th_learning_digits, th_tried_breaks, th_tried_rules, th_tried_hs, th_learning_good, th_learning_bad)
          else
            if (n1 / 10000) = 6 then
              if (irm n1 10000) = x4 then
                bK1 (m_X5_rightPlaces F th_tried_words th_tried_sizes th_learning_digits th_tried_breaks) (fun r33 =>
                if r33 < x4 then
                  some (0, th_learning_levels, th_tried_learnt, th_learning_digits, th_tried_breaks, th_tried_rules, th_tried_hs, th_learning_good, th_learning_bad)
                else
                  some (1, th_learning_levels, th_tried_learnt, th_learning_digits, th_tried_breaks, th_tried_rules, th_tried_hs, th_learning_good, th_learning_bad)
                )
              else
                some (0, th_learning_levels, th_tried_learnt, th_learning_digits, th_tried_breaks, th_tried_rules, th_tried_hs, th_learning_good, th_learning_bad)
            else
              if (n1 / 10000) = 7 then
                bK1 (m_X4_hasPattern F (irm n1 1000) x1 th_learning_levels th_learning_index_numbers) (fun r35 =>
                zK r35 (some (r35, th_learning_levels, th_tried_learnt, th_learning_digits, th_tried_breaks, th_tried_rules, th_tried_hs, th_learning_good, th_learning_bad))
                )
              else
                some (0, th_learning_levels, th_tried_learnt, th_learning_digits, th_tried_breaks, th_tried_rules, th_tried_hs, th_learning_good, th_learning_bad)
  )
  )
  )
  )
abbrev rmX4_goesOn : Room := { frames := 4, cells := 0, slots := 0, locals := 103 }
set_option maxHeartbeats 4000000 in
set_option maxRecDepth 100000 in
theorem c_X4_goesOn (l : Launch) (g : Gl) (A_th A_th_learning A_th_learning_index A_th_learning_levels A_th_learning_index_numbers A_th_tried A_th_learning_digits A_th_tried_sizes A_th_tried_breaks A_th_tried_rules A_th_tried_hs A_th_learning_good A_th_learning_bad A_th_learning_index_fits A_th_learning_index_starts : Nat) (V_th_learning_index_codes V_th_learning_index_signs V_th_learning_index_size V_th_tried_letters : Value)  (n1 : Int32) (th_learning_index_known : Int32) (th_learning_levels : (Nat → Int32)) (th_learning_index_numbers : (Nat → Int32)) (th_tried_words : Int32) (th_tried_learnt : Int32) (th_learning_digits : (Nat → Int32)) (th_tried_sizes : (Nat → Int32)) (th_tried_breaks : (Nat → Int32)) (th_tried_rules : (Nat → Int32)) (th_tried_hs : (Nat → Int32)) (th_learning_good : (Nat → Int32)) (th_learning_bad : (Nat → Int32)) (th_learning_index_fits : (Nat → Int32)) (th_learning_index_starts : (Nat → Int32)) (F : Nat) (u : Int32 × (Nat → Int32) × Int32 × (Nat → Int32) × (Nat → Int32) × (Nat → Int32) × (Nat → Int32) × (Nat → Int32) × (Nat → Int32)) (hm : m_X4_goesOn F n1 th_learning_index_known th_learning_levels th_learning_index_numbers th_tried_words th_tried_learnt th_learning_digits th_tried_sizes th_tried_breaks th_tried_rules th_tried_hs th_learning_good th_learning_bad th_learning_index_fits th_learning_index_starts = some u) : Ct l g yX4_goesOn cX4_goesOn 6 (some .boolean) rmX4_goesOn [.ref A_th, .int n1] [(A_th, oO 3 [.ref A_th_tried, .ref A_th_learning]), (A_th_learning, oO 4 [.ref A_th_learning_index, .ref A_th_learning_levels, .ref A_th_learning_good, .ref A_th_learning_bad, .ref A_th_learning_digits]), (A_th_learning_index, oO 2 [.ref A_th_learning_index_numbers, V_th_learning_index_codes, .ref A_th_learning_index_fits, .int th_learning_index_known, .ref A_th_learning_index_starts, V_th_learning_index_signs, V_th_learning_index_size]), (A_th_learning_levels, iA g 270 th_learning_levels), (A_th_learning_index_numbers, iA g 1372 th_learning_index_numbers), (A_th_tried, oO 6 [V_th_tried_letters, .ref A_th_tried_breaks, .ref A_th_tried_sizes, .ref A_th_tried_rules, .ref A_th_tried_hs, .int th_tried_words, .int th_tried_learnt]), (A_th_learning_digits, iA g 30 th_learning_digits), (A_th_tried_sizes, iA g 6 th_tried_sizes), (A_th_tried_breaks, iA g 6 th_tried_breaks), (A_th_tried_rules, iA g 5 th_tried_rules), (A_th_tried_hs, iA g 5 th_tried_hs), (A_th_learning_good, iA g 270 th_learning_good), (A_th_learning_bad, iA g 270 th_learning_bad), (A_th_learning_index_fits, iA g 270 th_learning_index_fits), (A_th_learning_index_starts, iA g 5 th_learning_index_starts)] (some (.int u.1)) [(A_th, oO 3 [.ref A_th_tried, .ref A_th_learning]), (A_th_learning, oO 4 [.ref A_th_learning_index, .ref A_th_learning_levels, .ref A_th_learning_good, .ref A_th_learning_bad, .ref A_th_learning_digits]), (A_th_learning_index, oO 2 [.ref A_th_learning_index_numbers, V_th_learning_index_codes, .ref A_th_learning_index_fits, .int th_learning_index_known, .ref A_th_learning_index_starts, V_th_learning_index_signs, V_th_learning_index_size]), (A_th_learning_levels, iA g 270 u.2.1), (A_th_learning_index_numbers, iA g 1372 th_learning_index_numbers), (A_th_tried, oO 6 [V_th_tried_letters, .ref A_th_tried_breaks, .ref A_th_tried_sizes, .ref A_th_tried_rules, .ref A_th_tried_hs, .int th_tried_words, .int u.2.2.1]), (A_th_learning_digits, iA g 30 u.2.2.2.1), (A_th_tried_sizes, iA g 6 th_tried_sizes), (A_th_tried_breaks, iA g 6 u.2.2.2.2.1), (A_th_tried_rules, iA g 5 u.2.2.2.2.2.1), (A_th_tried_hs, iA g 5 u.2.2.2.2.2.2.1), (A_th_learning_good, iA g 270 u.2.2.2.2.2.2.2.1), (A_th_learning_bad, iA g 270 u.2.2.2.2.2.2.2.2), (A_th_learning_index_fits, iA g 270 th_learning_index_fits), (A_th_learning_index_starts, iA g 5 th_learning_index_starts)] := by
  refine ent (own := RX4) (lv := [(0, .ref A_th), (1, .int n1)]) (by decide) rfl (Nat.le_of_ble_eq_true rfl) rfl rfl ?_
  intro x C
  unfold m_X4_goesOn at hm
  refine b_iload_n C dX4_goesOn_0 rfl 1 rfl ?_
  refine b_sipush (v := 1000) C dX4_goesOn_1 (by decide) ?_
  refine b_idiv C dX4_goesOn_4 (by decide) ?_
  refine b_bipush (v := 10) C dX4_goesOn_5 (by decide) ?_
  refine b_irem C dX4_goesOn_7 (by decide) ?_
  refine b_topi hm (fun x1 hm => ?_)
  refine b_istore_n (lv' := [(2, .int x1), (0, .ref A_th), (1, .int n1)]) C dX4_goesOn_8 rfl (by decide) rfl ?_
  refine b_iload_n C dX4_goesOn_9 rfl 2 rfl ?_
  refine b_bipush (v := 100) C dX4_goesOn_10 (by decide) ?_
  refine b_idiv C dX4_goesOn_12 (by decide) ?_
  refine b_bipush (v := 10) C dX4_goesOn_13 (by decide) ?_
  refine b_irem C dX4_goesOn_15 (by decide) ?_
  refine b_topi hm (fun x2 hm => ?_)
  refine b_istore_n (lv' := [(3, .int x2), (2, .int x1), (0, .ref A_th), (1, .int n1)]) C dX4_goesOn_16 rfl (by decide) rfl ?_
  refine b_iload_n C dX4_goesOn_17 rfl 3 rfl ?_
  refine b_bipush (v := 10) C dX4_goesOn_18 (by decide) ?_
  refine b_idiv C dX4_goesOn_20 (by decide) ?_
  refine b_bipush (v := 10) C dX4_goesOn_21 (by decide) ?_
  refine b_irem C dX4_goesOn_23 (by decide) ?_
  refine b_topi hm (fun x3 hm => ?_)
  refine b_istore (lv' := [(4, .int x3), (3, .int x2), (2, .int x1), (0, .ref A_th), (1, .int n1)]) C dX4_goesOn_24 (by decide) rfl ?_
  refine b_iload_n C dX4_goesOn_26 rfl 4 rfl ?_
  refine b_bipush (v := 100) C dX4_goesOn_27 (by decide) ?_
  refine b_irem C dX4_goesOn_29 (by decide) ?_
  refine b_topi hm (fun x4 hm => ?_)
  refine b_istore (lv' := [(5, .int x4), (4, .int x3), (3, .int x2), (2, .int x1), (0, .ref A_th), (1, .int n1)]) C dX4_goesOn_30 (by decide) rfl ?_
  refine b_iload_n C dX4_goesOn_32 rfl 5 rfl ?_
  refine b_sipush (v := 10000) C dX4_goesOn_33 (by decide) ?_
  refine b_idiv C dX4_goesOn_36 (by decide) ?_
  rcases sw_some hm with ⟨h11, hm⟩ | ⟨h11, hm⟩
  · refine b_tin (tgt := 80) C h11 dX4_goesOn_37 (by decide) (by decide) rfl (by decide) ?_
    refine b_iload C dX4_goesOn_80 0 rfl ?_
    refine b_if_ne (tgt := 98) C dX4_goesOn_82 (by decide) hm (fun hm => ?_) (fun hm => ?_)
    · refine b_iconst (v := 0) C dX4_goesOn_98 (by decide) ?_
      cases hm
      exact b_zret (v := 0) C (by decide) dX4_goesOn_99
    · refine b_aload_n C dX4_goesOn_85 rfl 4 rfl ?_
      refine b_iload_n C dX4_goesOn_86 rfl 3 rfl ?_
      refine b_iload_n C dX4_goesOn_87 rfl 2 rfl ?_
      obtain ⟨r5, f6, f7, f8, f9, f10, hM, hm⟩ := bK6_some hm
      refine b_kV (w' := [(A_th, oO 3 [.ref A_th_tried, .ref A_th_learning]), (A_th_learning, oO 4 [.ref A_th_learning_index, .ref A_th_learning_levels, .ref A_th_learning_good, .ref A_th_learning_bad, .ref A_th_learning_digits]), (A_th_learning_index, oO 2 [.ref A_th_learning_index_numbers, V_th_learning_index_codes, .ref A_th_learning_index_fits, .int th_learning_index_known, .ref A_th_learning_index_starts, V_th_learning_index_signs, V_th_learning_index_size]), (A_th_learning_levels, iA g 270 f7), (A_th_learning_index_numbers, iA g 1372 th_learning_index_numbers), (A_th_tried, oO 6 [V_th_tried_letters, .ref A_th_tried_breaks, .ref A_th_tried_sizes, .ref A_th_tried_rules, .ref A_th_tried_hs, .int th_tried_words, .int th_tried_learnt]), (A_th_learning_digits, iA g 30 f8), (A_th_tried_sizes, iA g 6 th_tried_sizes), (A_th_tried_breaks, iA g 6 f6), (A_th_tried_rules, iA g 5 th_tried_rules), (A_th_tried_hs, iA g 5 th_tried_hs), (A_th_learning_good, iA g 270 f9), (A_th_learning_bad, iA g 270 f10), (A_th_learning_index_fits, iA g 270 th_learning_index_fits), (A_th_learning_index_starts, iA g 5 th_learning_index_starts)]) (st := []) (st2 := [.int r5]) C cv_X4_turns tb720 (c_X4_turns l g A_th A_th_tried A_th_tried_sizes A_th_tried_breaks A_th_learning A_th_learning_levels A_th_learning_index A_th_learning_digits A_th_learning_good A_th_learning_bad A_th_tried_rules A_th_tried_hs A_th_learning_index_fits A_th_learning_index_starts V_th_tried_letters (.ref A_th_learning_index_numbers) V_th_learning_index_codes V_th_learning_index_signs V_th_learning_index_size x1 x2 th_tried_words th_tried_learnt th_tried_sizes th_tried_breaks th_learning_levels th_learning_index_known th_learning_digits th_learning_good th_learning_bad th_tried_rules th_tried_hs th_learning_index_fits th_learning_index_starts F (r5, f6, f7, f8, f9, f10) hM) rfl 0 rfl rfl ⟨rfl, rfl, by decide, by decide⟩ (Nat.le_of_ble_eq_true rfl) [0, 5, 7, 8, 1, 3, 2, 6, 11, 12, 9, 10, 13, 14] rfl (by decide) rfl rfl dX4_goesOn_88 [some 0, some 4, some 6, some 5, none, some 1, some 7, some 2, some 3, some 10, some 11, some 8, some 9, some 12, some 13] (by decide) ⟨⟨rfl, rfl⟩, ⟨⟨rfl, rfl⟩, ⟨⟨rfl, rfl⟩, ⟨⟨rfl, rfl⟩, ⟨rfl, ⟨⟨rfl, rfl⟩, ⟨⟨rfl, rfl⟩, ⟨⟨rfl, rfl⟩, ⟨⟨rfl, rfl⟩, ⟨⟨rfl, rfl⟩, ⟨⟨rfl, rfl⟩, ⟨⟨rfl, rfl⟩, ⟨⟨rfl, rfl⟩, ⟨⟨rfl, rfl⟩, ⟨⟨rfl, rfl⟩, trivial⟩⟩⟩⟩⟩⟩⟩⟩⟩⟩⟩⟩⟩⟩⟩ rfl ?_
      refine b_if_eq (tgt := 98) C dX4_goesOn_91 (by decide) hm (fun hm => ?_) (fun hm => ?_)
      · refine b_iconst (v := 0) C dX4_goesOn_98 (by decide) ?_
        cases hm
        exact b_zret (v := 0) C (by decide) dX4_goesOn_99
      · refine b_iconst (v := 1) C dX4_goesOn_94 (by decide) ?_
        refine b_goto (tgt := 99) C dX4_goesOn_95 (by decide) ?_
        cases hm
        exact b_zret (v := 1) C (by decide) dX4_goesOn_99
  · rcases sw_some hm with ⟨h19, hm⟩ | ⟨h19, hm⟩
    · refine b_tin (tgt := 100) C h19 dX4_goesOn_37 (by decide) (by decide) rfl (by decide) ?_
      refine b_iload C dX4_goesOn_100 1 rfl ?_
      refine b_if_ne (tgt := 120) C dX4_goesOn_102 (by decide) hm (fun hm => ?_) (fun hm => ?_)
      · refine b_iconst (v := 0) C dX4_goesOn_120 (by decide) ?_
        cases hm
        exact b_zret (v := 0) C (by decide) dX4_goesOn_121
      · refine b_aload_n C dX4_goesOn_105 rfl 4 rfl ?_
        refine b_iload_n C dX4_goesOn_106 rfl 3 rfl ?_
        refine b_iload_n C dX4_goesOn_107 rfl 2 rfl ?_
        refine b_iload C dX4_goesOn_108 0 rfl ?_
        obtain ⟨r12, f13, f14, f15, f16, f17, f18, hM, hm⟩ := bK7_some hm
        refine b_kV (w' := [(A_th, oO 3 [.ref A_th_tried, .ref A_th_learning]), (A_th_learning, oO 4 [.ref A_th_learning_index, .ref A_th_learning_levels, .ref A_th_learning_good, .ref A_th_learning_bad, .ref A_th_learning_digits]), (A_th_learning_index, oO 2 [.ref A_th_learning_index_numbers, V_th_learning_index_codes, .ref A_th_learning_index_fits, .int th_learning_index_known, .ref A_th_learning_index_starts, V_th_learning_index_signs, V_th_learning_index_size]), (A_th_learning_levels, iA g 270 f15), (A_th_learning_index_numbers, iA g 1372 th_learning_index_numbers), (A_th_tried, oO 6 [V_th_tried_letters, .ref A_th_tried_breaks, .ref A_th_tried_sizes, .ref A_th_tried_rules, .ref A_th_tried_hs, .int th_tried_words, .int th_tried_learnt]), (A_th_learning_digits, iA g 30 f16), (A_th_tried_sizes, iA g 6 th_tried_sizes), (A_th_tried_breaks, iA g 6 th_tried_breaks), (A_th_tried_rules, iA g 5 f13), (A_th_tried_hs, iA g 5 f14), (A_th_learning_good, iA g 270 f17), (A_th_learning_bad, iA g 270 f18), (A_th_learning_index_fits, iA g 270 th_learning_index_fits), (A_th_learning_index_starts, iA g 5 th_learning_index_starts)]) (st := []) (st2 := [.int r12]) C cv_X4_rules tb726 (c_X4_rules l g A_th A_th_tried A_th_tried_rules A_th_tried_hs A_th_learning A_th_learning_levels A_th_learning_index A_th_learning_digits A_th_learning_good A_th_learning_bad A_th_tried_sizes A_th_tried_breaks A_th_learning_index_fits A_th_learning_index_starts V_th_tried_letters (.ref A_th_learning_index_numbers) V_th_learning_index_codes V_th_learning_index_signs V_th_learning_index_size x1 x2 x4 th_tried_words th_tried_learnt th_tried_rules th_tried_hs th_learning_levels th_learning_index_known th_learning_digits th_learning_good th_learning_bad th_tried_sizes th_tried_breaks th_learning_index_fits th_learning_index_starts F (r12, f13, f14, f15, f16, f17, f18) hM) rfl 0 rfl rfl ⟨rfl, rfl, by decide, by decide⟩ (Nat.le_of_ble_eq_true rfl) [0, 5, 9, 10, 1, 3, 2, 6, 11, 12, 7, 8, 13, 14] rfl (by decide) rfl rfl dX4_goesOn_110 [some 0, some 4, some 6, some 5, none, some 1, some 7, some 10, some 11, some 2, some 3, some 8, some 9, some 12, some 13] (by decide) ⟨⟨rfl, rfl⟩, ⟨⟨rfl, rfl⟩, ⟨⟨rfl, rfl⟩, ⟨⟨rfl, rfl⟩, ⟨rfl, ⟨⟨rfl, rfl⟩, ⟨⟨rfl, rfl⟩, ⟨⟨rfl, rfl⟩, ⟨⟨rfl, rfl⟩, ⟨⟨rfl, rfl⟩, ⟨⟨rfl, rfl⟩, ⟨⟨rfl, rfl⟩, ⟨⟨rfl, rfl⟩, ⟨⟨rfl, rfl⟩, ⟨⟨rfl, rfl⟩, trivial⟩⟩⟩⟩⟩⟩⟩⟩⟩⟩⟩⟩⟩⟩⟩ rfl ?_
        refine b_if_eq (tgt := 120) C dX4_goesOn_113 (by decide) hm (fun hm => ?_) (fun hm => ?_)
        · refine b_iconst (v := 0) C dX4_goesOn_120 (by decide) ?_
          cases hm
          exact b_zret (v := 0) C (by decide) dX4_goesOn_121
        · refine b_iconst (v := 1) C dX4_goesOn_116 (by decide) ?_
          refine b_goto (tgt := 121) C dX4_goesOn_117 (by decide) ?_
          cases hm
          exact b_zret (v := 1) C (by decide) dX4_goesOn_121
    · rcases sw_some hm with ⟨h26, hm⟩ | ⟨h26, hm⟩
      · refine b_tin (tgt := 122) C h26 dX4_goesOn_37 (by decide) (by decide) rfl (by decide) ?_
        refine b_iload_n C dX4_goesOn_122 rfl 5 rfl ?_
        refine b_sipush (v := 10000) C dX4_goesOn_123 (by decide) ?_
        refine b_irem C dX4_goesOn_126 (by decide) ?_
        refine b_if_ne (tgt := 141) C dX4_goesOn_127 (by decide) hm (fun hm => ?_) (fun hm => ?_)
        · refine b_iconst (v := 0) C dX4_goesOn_141 (by decide) ?_
          cases hm
          exact b_zret (v := 0) C (by decide) dX4_goesOn_142
        · refine b_aload_n C dX4_goesOn_130 rfl 4 rfl ?_
          obtain ⟨r20, z21, f22, f23, f24, f25, hM, hm⟩ := bK6_some hm
          refine b_kV (w' := [(A_th, oO 3 [.ref A_th_tried, .ref A_th_learning]), (A_th_learning, oO 4 [.ref A_th_learning_index, .ref A_th_learning_levels, .ref A_th_learning_good, .ref A_th_learning_bad, .ref A_th_learning_digits]), (A_th_learning_index, oO 2 [.ref A_th_learning_index_numbers, V_th_learning_index_codes, .ref A_th_learning_index_fits, .int th_learning_index_known, .ref A_th_learning_index_starts, V_th_learning_index_signs, V_th_learning_index_size]), (A_th_learning_levels, iA g 270 f22), (A_th_learning_index_numbers, iA g 1372 th_learning_index_numbers), (A_th_tried, oO 6 [V_th_tried_letters, .ref A_th_tried_breaks, .ref A_th_tried_sizes, .ref A_th_tried_rules, .ref A_th_tried_hs, .int th_tried_words, .int z21]), (A_th_learning_digits, iA g 30 f23), (A_th_tried_sizes, iA g 6 th_tried_sizes), (A_th_tried_breaks, iA g 6 th_tried_breaks), (A_th_tried_rules, iA g 5 th_tried_rules), (A_th_tried_hs, iA g 5 th_tried_hs), (A_th_learning_good, iA g 270 f24), (A_th_learning_bad, iA g 270 f25), (A_th_learning_index_fits, iA g 270 th_learning_index_fits), (A_th_learning_index_starts, iA g 5 th_learning_index_starts)]) (st := []) (st2 := [.int r20]) C cv_X4_studies tb733 (c_X4_studies l g A_th A_th_tried A_th_learning A_th_learning_levels A_th_learning_index A_th_learning_digits A_th_learning_good A_th_learning_bad A_th_tried_sizes A_th_tried_breaks A_th_tried_rules A_th_tried_hs A_th_learning_index_fits A_th_learning_index_starts V_th_tried_letters (.ref A_th_learning_index_numbers) V_th_learning_index_codes V_th_learning_index_signs V_th_learning_index_size th_tried_words th_tried_learnt th_learning_levels th_learning_index_known th_learning_digits th_learning_good th_learning_bad th_tried_sizes th_tried_breaks th_tried_rules th_tried_hs th_learning_index_fits th_learning_index_starts F (r20, z21, f22, f23, f24, f25) hM) rfl 0 rfl rfl ⟨rfl, rfl, by decide, by decide⟩ (Nat.le_of_ble_eq_true rfl) [0, 5, 1, 3, 2, 6, 11, 12, 7, 8, 9, 10, 13, 14] rfl (by decide) rfl rfl dX4_goesOn_131 [some 0, some 2, some 4, some 3, none, some 1, some 5, some 8, some 9, some 10, some 11, some 6, some 7, some 12, some 13] (by decide) ⟨⟨rfl, rfl⟩, ⟨⟨rfl, rfl⟩, ⟨⟨rfl, rfl⟩, ⟨⟨rfl, rfl⟩, ⟨rfl, ⟨⟨rfl, rfl⟩, ⟨⟨rfl, rfl⟩, ⟨⟨rfl, rfl⟩, ⟨⟨rfl, rfl⟩, ⟨⟨rfl, rfl⟩, ⟨⟨rfl, rfl⟩, ⟨⟨rfl, rfl⟩, ⟨⟨rfl, rfl⟩, ⟨⟨rfl, rfl⟩, ⟨⟨rfl, rfl⟩, trivial⟩⟩⟩⟩⟩⟩⟩⟩⟩⟩⟩⟩⟩⟩⟩ rfl ?_
          refine b_if_eq (tgt := 141) C dX4_goesOn_134 (by decide) hm (fun hm => ?_) (fun hm => ?_)
          · refine b_iconst (v := 0) C dX4_goesOn_141 (by decide) ?_
            cases hm
            exact b_zret (v := 0) C (by decide) dX4_goesOn_142
          · refine b_iconst (v := 1) C dX4_goesOn_137 (by decide) ?_
            refine b_goto (tgt := 142) C dX4_goesOn_138 (by decide) ?_
            cases hm
            exact b_zret (v := 1) C (by decide) dX4_goesOn_142
      · rcases sw_some hm with ⟨h29, hm⟩ | ⟨h29, hm⟩
        · refine b_tin (tgt := 143) C h29 dX4_goesOn_37 (by decide) (by decide) rfl (by decide) ?_
          refine b_iload C dX4_goesOn_143 1 rfl ?_
          refine b_if_ne (tgt := 178) C dX4_goesOn_145 (by decide) hm (fun hm => ?_) (fun hm => ?_)
          · refine b_iconst (v := 0) C dX4_goesOn_178 (by decide) ?_
            cases hm
            exact b_zret (v := 0) C (by decide) dX4_goesOn_179
          · refine b_aload_n C dX4_goesOn_148 rfl 4 rfl ?_
            refine gfX4_12 C 0 rfl rfl dX4_goesOn_149 ?_
            refine b_iload_n C dX4_goesOn_152 rfl 3 rfl ?_
            refine b_iload_n C dX4_goesOn_153 rfl 2 rfl ?_
            obtain ⟨r27, hM, hm⟩ := bK1_some hm
            refine b_kV (w' := [(A_th, oO 3 [.ref A_th_tried, .ref A_th_learning]), (A_th_learning, oO 4 [.ref A_th_learning_index, .ref A_th_learning_levels, .ref A_th_learning_good, .ref A_th_learning_bad, .ref A_th_learning_digits]), (A_th_learning_index, oO 2 [.ref A_th_learning_index_numbers, V_th_learning_index_codes, .ref A_th_learning_index_fits, .int th_learning_index_known, .ref A_th_learning_index_starts, V_th_learning_index_signs, V_th_learning_index_size]), (A_th_learning_levels, iA g 270 th_learning_levels), (A_th_learning_index_numbers, iA g 1372 th_learning_index_numbers), (A_th_tried, oO 6 [V_th_tried_letters, .ref A_th_tried_breaks, .ref A_th_tried_sizes, .ref A_th_tried_rules, .ref A_th_tried_hs, .int th_tried_words, .int th_tried_learnt]), (A_th_learning_digits, iA g 30 th_learning_digits), (A_th_tried_sizes, iA g 6 th_tried_sizes), (A_th_tried_breaks, iA g 6 th_tried_breaks), (A_th_tried_rules, iA g 5 th_tried_rules), (A_th_tried_hs, iA g 5 th_tried_hs), (A_th_learning_good, iA g 270 th_learning_good), (A_th_learning_bad, iA g 270 th_learning_bad), (A_th_learning_index_fits, iA g 270 th_learning_index_fits), (A_th_learning_index_starts, iA g 5 th_learning_index_starts)]) (st := []) (st2 := [.int r27]) C cv_X7_hasPlace tb724 (c_X7_hasPlace l g A_th_tried A_th_tried_sizes V_th_tried_letters (.ref A_th_tried_breaks) (.ref A_th_tried_rules) (.ref A_th_tried_hs) (.int th_tried_learnt) x1 x2 th_tried_words th_tried_sizes F r27 hM) rfl 5 rfl rfl ⟨rfl, rfl, by decide, by decide⟩ (Nat.le_of_ble_eq_true rfl) [5, 7] rfl (by decide) rfl rfl dX4_goesOn_154 [none, none, none, none, none, some 0, none, some 1, none, none, none, none, none, none, none] (by decide) ⟨rfl, ⟨rfl, ⟨rfl, ⟨rfl, ⟨rfl, ⟨⟨rfl, rfl⟩, ⟨rfl, ⟨⟨rfl, rfl⟩, ⟨rfl, ⟨rfl, ⟨rfl, ⟨rfl, ⟨rfl, ⟨rfl, ⟨rfl, trivial⟩⟩⟩⟩⟩⟩⟩⟩⟩⟩⟩⟩⟩⟩⟩ rfl ?_
            refine b_if_eq (tgt := 178) C dX4_goesOn_157 (by decide) hm (fun hm => ?_) (fun hm => ?_)
            · refine b_iconst (v := 0) C dX4_goesOn_178 (by decide) ?_
              cases hm
              exact b_zret (v := 0) C (by decide) dX4_goesOn_179
            · refine b_aload_n C dX4_goesOn_160 rfl 4 rfl ?_
              refine gfX4_18 C 0 rfl rfl dX4_goesOn_161 ?_
              refine b_iload_n C dX4_goesOn_164 rfl 3 rfl ?_
              refine b_iload_n C dX4_goesOn_165 rfl 2 rfl ?_
              obtain ⟨r28, hM, hm⟩ := bK1_some hm
              refine b_kV (w' := [(A_th, oO 3 [.ref A_th_tried, .ref A_th_learning]), (A_th_learning, oO 4 [.ref A_th_learning_index, .ref A_th_learning_levels, .ref A_th_learning_good, .ref A_th_learning_bad, .ref A_th_learning_digits]), (A_th_learning_index, oO 2 [.ref A_th_learning_index_numbers, V_th_learning_index_codes, .ref A_th_learning_index_fits, .int th_learning_index_known, .ref A_th_learning_index_starts, V_th_learning_index_signs, V_th_learning_index_size]), (A_th_learning_levels, iA g 270 th_learning_levels), (A_th_learning_index_numbers, iA g 1372 th_learning_index_numbers), (A_th_tried, oO 6 [V_th_tried_letters, .ref A_th_tried_breaks, .ref A_th_tried_sizes, .ref A_th_tried_rules, .ref A_th_tried_hs, .int th_tried_words, .int th_tried_learnt]), (A_th_learning_digits, iA g 30 th_learning_digits), (A_th_tried_sizes, iA g 6 th_tried_sizes), (A_th_tried_breaks, iA g 6 th_tried_breaks), (A_th_tried_rules, iA g 5 th_tried_rules), (A_th_tried_hs, iA g 5 th_tried_hs), (A_th_learning_good, iA g 270 th_learning_good), (A_th_learning_bad, iA g 270 th_learning_bad), (A_th_learning_index_fits, iA g 270 th_learning_index_fits), (A_th_learning_index_starts, iA g 5 th_learning_index_starts)]) (st := []) (st2 := [.int r28]) C cv_X5_digitOf tb737 (c_X5_digitOf l g A_th_learning A_th_learning_digits (.ref A_th_learning_index) (.ref A_th_learning_levels) (.ref A_th_learning_good) (.ref A_th_learning_bad) x1 x2 th_learning_digits F r28 hM) rfl 1 rfl rfl ⟨rfl, rfl, by decide, by decide⟩ (Nat.le_of_ble_eq_true rfl) [1, 6] rfl (by decide) rfl rfl dX4_goesOn_166 [none, some 0, none, none, none, none, some 1, none, none, none, none, none, none, none, none] (by decide) ⟨rfl, ⟨⟨rfl, rfl⟩, ⟨rfl, ⟨rfl, ⟨rfl, ⟨rfl, ⟨⟨rfl, rfl⟩, ⟨rfl, ⟨rfl, ⟨rfl, ⟨rfl, ⟨rfl, ⟨rfl, ⟨rfl, ⟨rfl, trivial⟩⟩⟩⟩⟩⟩⟩⟩⟩⟩⟩⟩⟩⟩⟩ rfl ?_
              refine b_iload C dX4_goesOn_169 0 rfl ?_
              refine b_icmp_ne (tgt := 178) C dX4_goesOn_171 (by decide) hm (fun hm => ?_) (fun hm => ?_)
              · refine b_iconst (v := 0) C dX4_goesOn_178 (by decide) ?_
                cases hm
                exact b_zret (v := 0) C (by decide) dX4_goesOn_179
              · refine b_iconst (v := 1) C dX4_goesOn_174 (by decide) ?_
                refine b_goto (tgt := 179) C dX4_goesOn_175 (by decide) ?_
                cases hm
                exact b_zret (v := 1) C (by decide) dX4_goesOn_179
        · rcases sw_some hm with ⟨h32, hm⟩ | ⟨h32, hm⟩
          · refine b_tin (tgt := 180) C h32 dX4_goesOn_37 (by decide) (by decide) rfl (by decide) ?_
            refine b_iload_n C dX4_goesOn_180 rfl 5 rfl ?_
            refine b_sipush (v := 1000) C dX4_goesOn_181 (by decide) ?_
            refine b_irem C dX4_goesOn_184 (by decide) ?_
            refine b_if_ne (tgt := 218) C dX4_goesOn_185 (by decide) hm (fun hm => ?_) (fun hm => ?_)
            · refine b_iconst (v := 0) C dX4_goesOn_218 (by decide) ?_
              cases hm
              exact b_zret (v := 0) C (by decide) dX4_goesOn_219
            · refine b_aload_n C dX4_goesOn_188 rfl 4 rfl ?_
              refine gfX4_12 C 0 rfl rfl dX4_goesOn_189 ?_
              refine b_iload_n C dX4_goesOn_192 rfl 3 rfl ?_
              obtain ⟨r30, hM, hm⟩ := bK1_some hm
              refine b_kV (w' := [(A_th, oO 3 [.ref A_th_tried, .ref A_th_learning]), (A_th_learning, oO 4 [.ref A_th_learning_index, .ref A_th_learning_levels, .ref A_th_learning_good, .ref A_th_learning_bad, .ref A_th_learning_digits]), (A_th_learning_index, oO 2 [.ref A_th_learning_index_numbers, V_th_learning_index_codes, .ref A_th_learning_index_fits, .int th_learning_index_known, .ref A_th_learning_index_starts, V_th_learning_index_signs, V_th_learning_index_size]), (A_th_learning_levels, iA g 270 th_learning_levels), (A_th_learning_index_numbers, iA g 1372 th_learning_index_numbers), (A_th_tried, oO 6 [V_th_tried_letters, .ref A_th_tried_breaks, .ref A_th_tried_sizes, .ref A_th_tried_rules, .ref A_th_tried_hs, .int th_tried_words, .int th_tried_learnt]), (A_th_learning_digits, iA g 30 th_learning_digits), (A_th_tried_sizes, iA g 6 th_tried_sizes), (A_th_tried_breaks, iA g 6 th_tried_breaks), (A_th_tried_rules, iA g 5 th_tried_rules), (A_th_tried_hs, iA g 5 th_tried_hs), (A_th_learning_good, iA g 270 th_learning_good), (A_th_learning_bad, iA g 270 th_learning_bad), (A_th_learning_index_fits, iA g 270 th_learning_index_fits), (A_th_learning_index_starts, iA g 5 th_learning_index_starts)]) (st := []) (st2 := [.int r30]) C cv_X7_hasWord tb738 (c_X7_hasWord l g A_th_tried V_th_tried_letters (.ref A_th_tried_breaks) (.ref A_th_tried_sizes) (.ref A_th_tried_rules) (.ref A_th_tried_hs) (.int th_tried_learnt) x1 th_tried_words F r30 hM) rfl 5 rfl rfl ⟨rfl, rfl, by decide, by decide⟩ (Nat.le_of_ble_eq_true rfl) [5] rfl (by decide) rfl rfl dX4_goesOn_193 [none, none, none, none, none, some 0, none, none, none, none, none, none, none, none, none] (by decide) ⟨rfl, ⟨rfl, ⟨rfl, ⟨rfl, ⟨rfl, ⟨⟨rfl, rfl⟩, ⟨rfl, ⟨rfl, ⟨rfl, ⟨rfl, ⟨rfl, ⟨rfl, ⟨rfl, ⟨rfl, ⟨rfl, trivial⟩⟩⟩⟩⟩⟩⟩⟩⟩⟩⟩⟩⟩⟩⟩ rfl ?_
              refine b_if_eq (tgt := 218) C dX4_goesOn_196 (by decide) hm (fun hm => ?_) (fun hm => ?_)
              · refine b_iconst (v := 0) C dX4_goesOn_218 (by decide) ?_
                cases hm
                exact b_zret (v := 0) C (by decide) dX4_goesOn_219
              · refine b_aload_n C dX4_goesOn_199 rfl 4 rfl ?_
                refine gfX4_18 C 0 rfl rfl dX4_goesOn_200 ?_
                refine b_aload_n C dX4_goesOn_203 rfl 4 rfl ?_
                refine gfX4_12 C 0 rfl rfl dX4_goesOn_204 ?_
                refine b_iload_n C dX4_goesOn_207 rfl 3 rfl ?_
                obtain ⟨r31, hM, hm⟩ := bK1_some hm
                refine b_kV (w' := [(A_th, oO 3 [.ref A_th_tried, .ref A_th_learning]), (A_th_learning, oO 4 [.ref A_th_learning_index, .ref A_th_learning_levels, .ref A_th_learning_good, .ref A_th_learning_bad, .ref A_th_learning_digits]), (A_th_learning_index, oO 2 [.ref A_th_learning_index_numbers, V_th_learning_index_codes, .ref A_th_learning_index_fits, .int th_learning_index_known, .ref A_th_learning_index_starts, V_th_learning_index_signs, V_th_learning_index_size]), (A_th_learning_levels, iA g 270 th_learning_levels), (A_th_learning_index_numbers, iA g 1372 th_learning_index_numbers), (A_th_tried, oO 6 [V_th_tried_letters, .ref A_th_tried_breaks, .ref A_th_tried_sizes, .ref A_th_tried_rules, .ref A_th_tried_hs, .int th_tried_words, .int th_tried_learnt]), (A_th_learning_digits, iA g 30 th_learning_digits), (A_th_tried_sizes, iA g 6 th_tried_sizes), (A_th_tried_breaks, iA g 6 th_tried_breaks), (A_th_tried_rules, iA g 5 th_tried_rules), (A_th_tried_hs, iA g 5 th_tried_hs), (A_th_learning_good, iA g 270 th_learning_good), (A_th_learning_bad, iA g 270 th_learning_bad), (A_th_learning_index_fits, iA g 270 th_learning_index_fits), (A_th_learning_index_starts, iA g 5 th_learning_index_starts)]) (st := []) (st2 := [.int r31]) C cv_X5_wrongPlaces tb739 (c_X5_wrongPlaces l g A_th_learning A_th_tried A_th_learning_digits A_th_tried_sizes A_th_tried_breaks (.ref A_th_learning_index) (.ref A_th_learning_levels) (.ref A_th_learning_good) (.ref A_th_learning_bad) V_th_tried_letters (.ref A_th_tried_rules) (.ref A_th_tried_hs) (.int th_tried_words) (.int th_tried_learnt) x1 th_learning_digits th_tried_sizes th_tried_breaks F r31 hM) rfl 1 rfl rfl ⟨rfl, rfl, by decide, by decide⟩ (Nat.le_of_ble_eq_true rfl) [1, 5, 6, 7, 8] rfl (by decide) rfl rfl dX4_goesOn_208 [none, some 0, none, none, none, some 1, some 2, some 3, some 4, none, none, none, none, none, none] (by decide) ⟨rfl, ⟨⟨rfl, rfl⟩, ⟨rfl, ⟨rfl, ⟨rfl, ⟨⟨rfl, rfl⟩, ⟨⟨rfl, rfl⟩, ⟨⟨rfl, rfl⟩, ⟨⟨rfl, rfl⟩, ⟨rfl, ⟨rfl, ⟨rfl, ⟨rfl, ⟨rfl, ⟨rfl, trivial⟩⟩⟩⟩⟩⟩⟩⟩⟩⟩⟩⟩⟩⟩⟩ rfl ?_
                refine b_if_ne (tgt := 218) C dX4_goesOn_211 (by decide) hm (fun hm => ?_) (fun hm => ?_)
                · refine b_iconst (v := 0) C dX4_goesOn_218 (by decide) ?_
                  cases hm
                  exact b_zret (v := 0) C (by decide) dX4_goesOn_219
                · refine b_iconst (v := 1) C dX4_goesOn_214 (by decide) ?_
                  refine b_goto (tgt := 219) C dX4_goesOn_215 (by decide) ?_
                  cases hm
                  exact b_zret (v := 1) C (by decide) dX4_goesOn_219
          · rcases sw_some hm with ⟨h34, hm⟩ | ⟨h34, hm⟩
            · refine b_tin (tgt := 220) C h34 dX4_goesOn_37 (by decide) (by decide) rfl (by decide) ?_
              refine b_iload_n C dX4_goesOn_220 rfl 5 rfl ?_
              refine b_sipush (v := 10000) C dX4_goesOn_221 (by decide) ?_
              refine b_irem C dX4_goesOn_224 (by decide) ?_
              refine b_iload C dX4_goesOn_225 0 rfl ?_
              refine b_icmp_ne (tgt := 250) C dX4_goesOn_227 (by decide) hm (fun hm => ?_) (fun hm => ?_)
              · refine b_iconst (v := 0) C dX4_goesOn_250 (by decide) ?_
                cases hm
                exact b_zret (v := 0) C (by decide) dX4_goesOn_251
              · refine b_aload_n C dX4_goesOn_230 rfl 4 rfl ?_
                refine gfX4_18 C 0 rfl rfl dX4_goesOn_231 ?_
                refine b_aload_n C dX4_goesOn_234 rfl 4 rfl ?_
                refine gfX4_12 C 0 rfl rfl dX4_goesOn_235 ?_
                obtain ⟨r33, hM, hm⟩ := bK1_some hm
                refine b_kV (w' := [(A_th, oO 3 [.ref A_th_tried, .ref A_th_learning]), (A_th_learning, oO 4 [.ref A_th_learning_index, .ref A_th_learning_levels, .ref A_th_learning_good, .ref A_th_learning_bad, .ref A_th_learning_digits]), (A_th_learning_index, oO 2 [.ref A_th_learning_index_numbers, V_th_learning_index_codes, .ref A_th_learning_index_fits, .int th_learning_index_known, .ref A_th_learning_index_starts, V_th_learning_index_signs, V_th_learning_index_size]), (A_th_learning_levels, iA g 270 th_learning_levels), (A_th_learning_index_numbers, iA g 1372 th_learning_index_numbers), (A_th_tried, oO 6 [V_th_tried_letters, .ref A_th_tried_breaks, .ref A_th_tried_sizes, .ref A_th_tried_rules, .ref A_th_tried_hs, .int th_tried_words, .int th_tried_learnt]), (A_th_learning_digits, iA g 30 th_learning_digits), (A_th_tried_sizes, iA g 6 th_tried_sizes), (A_th_tried_breaks, iA g 6 th_tried_breaks), (A_th_tried_rules, iA g 5 th_tried_rules), (A_th_tried_hs, iA g 5 th_tried_hs), (A_th_learning_good, iA g 270 th_learning_good), (A_th_learning_bad, iA g 270 th_learning_bad), (A_th_learning_index_fits, iA g 270 th_learning_index_fits), (A_th_learning_index_starts, iA g 5 th_learning_index_starts)]) (st := []) (st2 := [.int r33]) C cv_X5_rightPlaces tb740 (c_X5_rightPlaces l g A_th_learning A_th_tried A_th_tried_sizes A_th_learning_digits A_th_tried_breaks (.ref A_th_learning_index) (.ref A_th_learning_levels) (.ref A_th_learning_good) (.ref A_th_learning_bad) V_th_tried_letters (.ref A_th_tried_rules) (.ref A_th_tried_hs) (.int th_tried_learnt) th_tried_words th_tried_sizes th_learning_digits th_tried_breaks F r33 hM) rfl 1 rfl rfl ⟨rfl, rfl, by decide, by decide⟩ (Nat.le_of_ble_eq_true rfl) [1, 5, 7, 6, 8] rfl (by decide) rfl rfl dX4_goesOn_238 [none, some 0, none, none, none, some 1, some 3, some 2, some 4, none, none, none, none, none, none] (by decide) ⟨rfl, ⟨⟨rfl, rfl⟩, ⟨rfl, ⟨rfl, ⟨rfl, ⟨⟨rfl, rfl⟩, ⟨⟨rfl, rfl⟩, ⟨⟨rfl, rfl⟩, ⟨⟨rfl, rfl⟩, ⟨rfl, ⟨rfl, ⟨rfl, ⟨rfl, ⟨rfl, ⟨rfl, trivial⟩⟩⟩⟩⟩⟩⟩⟩⟩⟩⟩⟩⟩⟩⟩ rfl ?_
                refine b_iload C dX4_goesOn_241 0 rfl ?_
                refine b_icmp_lt (tgt := 250) C dX4_goesOn_243 (by decide) hm (fun hm => ?_) (fun hm => ?_)
                · refine b_iconst (v := 0) C dX4_goesOn_250 (by decide) ?_
                  cases hm
                  exact b_zret (v := 0) C (by decide) dX4_goesOn_251
                · refine b_iconst (v := 1) C dX4_goesOn_246 (by decide) ?_
                  refine b_goto (tgt := 251) C dX4_goesOn_247 (by decide) ?_
                  cases hm
                  exact b_zret (v := 1) C (by decide) dX4_goesOn_251
            · rcases sw_some hm with ⟨h36, hm⟩ | ⟨h36, hm⟩
              · refine b_tin (tgt := 252) C h36 dX4_goesOn_37 (by decide) (by decide) rfl (by decide) ?_
                refine b_aload_n C dX4_goesOn_252 rfl 4 rfl ?_
                refine b_iload_n C dX4_goesOn_253 rfl 5 rfl ?_
                refine b_sipush (v := 1000) C dX4_goesOn_254 (by decide) ?_
                refine b_irem C dX4_goesOn_257 (by decide) ?_
                refine b_iload_n C dX4_goesOn_258 rfl 3 rfl ?_
                obtain ⟨r35, hM, hm⟩ := bK1_some hm
                refine b_kV (w' := [(A_th, oO 3 [.ref A_th_tried, .ref A_th_learning]), (A_th_learning, oO 4 [.ref A_th_learning_index, .ref A_th_learning_levels, .ref A_th_learning_good, .ref A_th_learning_bad, .ref A_th_learning_digits]), (A_th_learning_index, oO 2 [.ref A_th_learning_index_numbers, V_th_learning_index_codes, .ref A_th_learning_index_fits, .int th_learning_index_known, .ref A_th_learning_index_starts, V_th_learning_index_signs, V_th_learning_index_size]), (A_th_learning_levels, iA g 270 th_learning_levels), (A_th_learning_index_numbers, iA g 1372 th_learning_index_numbers), (A_th_tried, oO 6 [V_th_tried_letters, .ref A_th_tried_breaks, .ref A_th_tried_sizes, .ref A_th_tried_rules, .ref A_th_tried_hs, .int th_tried_words, .int th_tried_learnt]), (A_th_learning_digits, iA g 30 th_learning_digits), (A_th_tried_sizes, iA g 6 th_tried_sizes), (A_th_tried_breaks, iA g 6 th_tried_breaks), (A_th_tried_rules, iA g 5 th_tried_rules), (A_th_tried_hs, iA g 5 th_tried_hs), (A_th_learning_good, iA g 270 th_learning_good), (A_th_learning_bad, iA g 270 th_learning_bad), (A_th_learning_index_fits, iA g 270 th_learning_index_fits), (A_th_learning_index_starts, iA g 5 th_learning_index_starts)]) (st := []) (st2 := [.int r35]) C cv_X4_hasPattern tb741 (c_X4_hasPattern l g A_th A_th_learning A_th_learning_index A_th_learning_levels A_th_learning_index_numbers (.ref A_th_tried) (.ref A_th_learning_good) (.ref A_th_learning_bad) (.ref A_th_learning_digits) V_th_learning_index_codes (.ref A_th_learning_index_fits) (.int th_learning_index_known) (.ref A_th_learning_index_starts) V_th_learning_index_signs V_th_learning_index_size (irm n1 1000) x1 th_learning_levels th_learning_index_numbers F r35 hM) rfl 0 rfl rfl ⟨rfl, rfl, by decide, by decide⟩ (Nat.le_of_ble_eq_true rfl) [0, 1, 2, 3, 4] rfl (by decide) rfl rfl dX4_goesOn_259 [some 0, some 1, some 2, some 3, some 4, none, none, none, none, none, none, none, none, none, none] (by decide) ⟨⟨rfl, rfl⟩, ⟨⟨rfl, rfl⟩, ⟨⟨rfl, rfl⟩, ⟨⟨rfl, rfl⟩, ⟨⟨rfl, rfl⟩, ⟨rfl, ⟨rfl, ⟨rfl, ⟨rfl, ⟨rfl, ⟨rfl, ⟨rfl, ⟨rfl, ⟨rfl, ⟨rfl, trivial⟩⟩⟩⟩⟩⟩⟩⟩⟩⟩⟩⟩⟩⟩⟩ rfl ?_
                obtain ⟨hn, hm⟩ := zK_some hm
                cases hm
                exact b_zret C hn dX4_goesOn_262
              · refine b_tout (tgt := 263) C dX4_goesOn_37 (by have := lv_neT h11 (a := 1) (by decide); have := lv_neT h19 (a := 2) (by decide); have := lv_neT h26 (a := 3) (by decide); have := lv_neT h29 (a := 4) (by decide); have := lv_neT h32 (a := 5) (by decide); have := lv_neT h34 (a := 6) (by decide); have := lv_neT h36 (a := 7) (by decide); omega) (by decide) ?_
                refine b_iconst (v := 0) C dX4_goesOn_263 (by decide) ?_
                cases hm
                exact b_zret (v := 0) C (by decide) dX4_goesOn_264
/-- BreakLearner$Judge.firstWrong(LBreakLearner$Stock;IJ)I -/
def m_X4_firstWrong (F : Nat)  (n2 : Int32) (n3 : Int64) (p1_words : Int32) (p1_learnt : Int32) (th_tried_words : Int32) (th_tried_learnt : Int32) (th_tried_letters : (Nat → Int32)) (th_tried_breaks : (Nat → Int32)) (th_tried_sizes : (Nat → Int32)) (th_tried_rules : (Nat → Int32)) (th_tried_hs : (Nat → Int32)) (p1_letters : (Nat → Int32)) (p1_breaks : (Nat → Int32)) (p1_sizes : (Nat → Int32)) (p1_rules : (Nat → Int32)) (p1_hs : (Nat → Int32)) (th_learning_levels : (Nat → Int32)) (th_learning_index_known : Int32) (th_learning_digits : (Nat → Int32)) (th_learning_good : (Nat → Int32)) (th_learning_bad : (Nat → Int32)) (th_learning_index_fits : (Nat → Int32)) (th_learning_index_starts : (Nat → Int32)) (th_learning_index_numbers : (Nat → Int32)) : Option (Int32 × Int32 × Int32 × (Nat → Int32) × (Nat → Int32) × (Nat → Int32) × (Nat → Int32) × (Nat → Int32) × (Nat → Int32) × (Nat → Int32) × (Nat → Int32) × (Nat → Int32)) :=
  bK7 (m_X7_copyFrom F th_tried_words th_tried_learnt p1_words p1_learnt p1_letters th_tried_letters p1_breaks th_tried_breaks p1_sizes th_tried_sizes p1_rules th_tried_rules p1_hs th_tried_hs) (fun z1 z2 f3 f4 f5 f6 f7 =>
  bK4 (m_X5_learnFrom F 63 z1 z2 th_learning_levels th_learning_index_known th_learning_digits th_learning_good th_learning_bad f5 f4 th_learning_index_fits f6 f7 th_learning_index_starts) (fun f8 f9 f10 f11 =>
  wl9 (fun (x13 : Int32) (z14 : Int32) (f15 : (Nat → Int32)) (f16 : (Nat → Int32)) (f17 : (Nat → Int32)) (f18 : (Nat → Int32)) (f19 : (Nat → Int32)) (f20 : (Nat → Int32)) (f21 : (Nat → Int32)) c12 =>
    if n2 ≤ x13 then
      some ((-9), z1, z14, f3, f15, f5, f16, f17, f18, f19, f20, f21)
    else
      rdK 4 kRow ((n2 - 1) - x13) (fun v22 =>
      nzL v22 (
      bK9 (m_X4_goesOn F ((lrm (n3 / v22) 100000).toInt32) th_learning_index_known f18 th_learning_index_numbers z1 z14 f19 f5 f15 f16 f17 f20 f21 th_learning_index_fits th_learning_index_starts) (fun r23 f24 z25 f26 f27 f28 f29 f30 f31 =>
      if r23 = 0 then
        some (x13, z1, z25, f3, f27, f5, f28, f29, f24, f26, f30, f31)
      else
        c12 (x13 + 1) z25 f27 f28 f29 f24 f26 f30 f31
      )
      )
      )
    ) F 0 z2 f4 f6 f7 f8 f9 f10 f11
  )
  )
abbrev rmX4_firstWrong : Room := { frames := 5, cells := 0, slots := 0, locals := 128 }
set_option maxHeartbeats 4000000 in
set_option maxRecDepth 100000 in
theorem c_X4_firstWrong (l : Launch) (g : Gl) (A_th A_p1 A_th_tried A_th_tried_letters A_th_tried_breaks A_th_tried_sizes A_th_tried_rules A_th_tried_hs A_p1_letters A_p1_breaks A_p1_sizes A_p1_rules A_p1_hs A_th_learning A_th_learning_levels A_th_learning_index A_th_learning_digits A_th_learning_good A_th_learning_bad A_th_learning_index_fits A_th_learning_index_starts A_th_learning_index_numbers : Nat) (V_th_learning_index_codes V_th_learning_index_signs V_th_learning_index_size : Value)  (n2 : Int32) (n3 : Int64) (p1_words : Int32) (p1_learnt : Int32) (th_tried_words : Int32) (th_tried_learnt : Int32) (th_tried_letters : (Nat → Int32)) (th_tried_breaks : (Nat → Int32)) (th_tried_sizes : (Nat → Int32)) (th_tried_rules : (Nat → Int32)) (th_tried_hs : (Nat → Int32)) (p1_letters : (Nat → Int32)) (p1_breaks : (Nat → Int32)) (p1_sizes : (Nat → Int32)) (p1_rules : (Nat → Int32)) (p1_hs : (Nat → Int32)) (th_learning_levels : (Nat → Int32)) (th_learning_index_known : Int32) (th_learning_digits : (Nat → Int32)) (th_learning_good : (Nat → Int32)) (th_learning_bad : (Nat → Int32)) (th_learning_index_fits : (Nat → Int32)) (th_learning_index_starts : (Nat → Int32)) (th_learning_index_numbers : (Nat → Int32)) (F : Nat) (u : Int32 × Int32 × Int32 × (Nat → Int32) × (Nat → Int32) × (Nat → Int32) × (Nat → Int32) × (Nat → Int32) × (Nat → Int32) × (Nat → Int32) × (Nat → Int32) × (Nat → Int32)) (hm : m_X4_firstWrong F n2 n3 p1_words p1_learnt th_tried_words th_tried_learnt th_tried_letters th_tried_breaks th_tried_sizes th_tried_rules th_tried_hs p1_letters p1_breaks p1_sizes p1_rules p1_hs th_learning_levels th_learning_index_known th_learning_digits th_learning_good th_learning_bad th_learning_index_fits th_learning_index_starts th_learning_index_numbers = some u) : Ct l g yX4_firstWrong cX4_firstWrong 6 (some .int) rmX4_firstWrong [.ref A_th, .ref A_p1, .int n2, .long n3] [(A_th, oO 3 [.ref A_th_tried, .ref A_th_learning]), (A_p1, oO 6 [.ref A_p1_letters, .ref A_p1_breaks, .ref A_p1_sizes, .ref A_p1_rules, .ref A_p1_hs, .int p1_words, .int p1_learnt]), (A_th_tried, oO 6 [.ref A_th_tried_letters, .ref A_th_tried_breaks, .ref A_th_tried_sizes, .ref A_th_tried_rules, .ref A_th_tried_hs, .int th_tried_words, .int th_tried_learnt]), (A_th_tried_letters, iA g 6 th_tried_letters), (A_th_tried_breaks, iA g 6 th_tried_breaks), (A_th_tried_sizes, iA g 6 th_tried_sizes), (A_th_tried_rules, iA g 5 th_tried_rules), (A_th_tried_hs, iA g 5 th_tried_hs), (A_p1_letters, iA g 6 p1_letters), (A_p1_breaks, iA g 6 p1_breaks), (A_p1_sizes, iA g 6 p1_sizes), (A_p1_rules, iA g 5 p1_rules), (A_p1_hs, iA g 5 p1_hs), (A_th_learning, oO 4 [.ref A_th_learning_index, .ref A_th_learning_levels, .ref A_th_learning_good, .ref A_th_learning_bad, .ref A_th_learning_digits]), (A_th_learning_levels, iA g 270 th_learning_levels), (A_th_learning_index, oO 2 [.ref A_th_learning_index_numbers, V_th_learning_index_codes, .ref A_th_learning_index_fits, .int th_learning_index_known, .ref A_th_learning_index_starts, V_th_learning_index_signs, V_th_learning_index_size]), (A_th_learning_digits, iA g 30 th_learning_digits), (A_th_learning_good, iA g 270 th_learning_good), (A_th_learning_bad, iA g 270 th_learning_bad), (A_th_learning_index_fits, iA g 270 th_learning_index_fits), (A_th_learning_index_starts, iA g 5 th_learning_index_starts), (A_th_learning_index_numbers, iA g 1372 th_learning_index_numbers)] (some (.int u.1)) [(A_th, oO 3 [.ref A_th_tried, .ref A_th_learning]), (A_p1, oO 6 [.ref A_p1_letters, .ref A_p1_breaks, .ref A_p1_sizes, .ref A_p1_rules, .ref A_p1_hs, .int p1_words, .int p1_learnt]), (A_th_tried, oO 6 [.ref A_th_tried_letters, .ref A_th_tried_breaks, .ref A_th_tried_sizes, .ref A_th_tried_rules, .ref A_th_tried_hs, .int u.2.1, .int u.2.2.1]), (A_th_tried_letters, iA g 6 u.2.2.2.1), (A_th_tried_breaks, iA g 6 u.2.2.2.2.1), (A_th_tried_sizes, iA g 6 u.2.2.2.2.2.1), (A_th_tried_rules, iA g 5 u.2.2.2.2.2.2.1), (A_th_tried_hs, iA g 5 u.2.2.2.2.2.2.2.1), (A_p1_letters, iA g 6 p1_letters), (A_p1_breaks, iA g 6 p1_breaks), (A_p1_sizes, iA g 6 p1_sizes), (A_p1_rules, iA g 5 p1_rules), (A_p1_hs, iA g 5 p1_hs), (A_th_learning, oO 4 [.ref A_th_learning_index, .ref A_th_learning_levels, .ref A_th_learning_good, .ref A_th_learning_bad, .ref A_th_learning_digits]), (A_th_learning_levels, iA g 270 u.2.2.2.2.2.2.2.2.1), (A_th_learning_index, oO 2 [.ref A_th_learning_index_numbers, V_th_learning_index_codes, .ref A_th_learning_index_fits, .int th_learning_index_known, .ref A_th_learning_index_starts, V_th_learning_index_signs, V_th_learning_index_size]), (A_th_learning_digits, iA g 30 u.2.2.2.2.2.2.2.2.2.1), (A_th_learning_good, iA g 270 u.2.2.2.2.2.2.2.2.2.2.1), (A_th_learning_bad, iA g 270 u.2.2.2.2.2.2.2.2.2.2.2), (A_th_learning_index_fits, iA g 270 th_learning_index_fits), (A_th_learning_index_starts, iA g 5 th_learning_index_starts), (A_th_learning_index_numbers, iA g 1372 th_learning_index_numbers)] := by
  refine ent (own := RX4) (lv := [(0, .ref A_th), (1, .ref A_p1), (2, .int n2), (3, .long n3)]) (by decide) rfl (Nat.le_of_ble_eq_true rfl) rfl rfl ?_
  intro x C
  unfold m_X4_firstWrong at hm
  refine b_aload_n C dX4_firstWrong_0 rfl 0 rfl ?_
  refine gfX4_12 C 0 rfl rfl dX4_firstWrong_1 ?_
  refine b_aload_n C dX4_firstWrong_4 rfl 1 rfl ?_
  obtain ⟨z1, z2, f3, f4, f5, f6, f7, hM, hm⟩ := bK7_some hm
  refine b_kV (w' := [(A_th, oO 3 [.ref A_th_tried, .ref A_th_learning]), (A_p1, oO 6 [.ref A_p1_letters, .ref A_p1_breaks, .ref A_p1_sizes, .ref A_p1_rules, .ref A_p1_hs, .int p1_words, .int p1_learnt]), (A_th_tried, oO 6 [.ref A_th_tried_letters, .ref A_th_tried_breaks, .ref A_th_tried_sizes, .ref A_th_tried_rules, .ref A_th_tried_hs, .int z1, .int z2]), (A_th_tried_letters, iA g 6 f3), (A_th_tried_breaks, iA g 6 f4), (A_th_tried_sizes, iA g 6 f5), (A_th_tried_rules, iA g 5 f6), (A_th_tried_hs, iA g 5 f7), (A_p1_letters, iA g 6 p1_letters), (A_p1_breaks, iA g 6 p1_breaks), (A_p1_sizes, iA g 6 p1_sizes), (A_p1_rules, iA g 5 p1_rules), (A_p1_hs, iA g 5 p1_hs), (A_th_learning, oO 4 [.ref A_th_learning_index, .ref A_th_learning_levels, .ref A_th_learning_good, .ref A_th_learning_bad, .ref A_th_learning_digits]), (A_th_learning_levels, iA g 270 th_learning_levels), (A_th_learning_index, oO 2 [.ref A_th_learning_index_numbers, V_th_learning_index_codes, .ref A_th_learning_index_fits, .int th_learning_index_known, .ref A_th_learning_index_starts, V_th_learning_index_signs, V_th_learning_index_size]), (A_th_learning_digits, iA g 30 th_learning_digits), (A_th_learning_good, iA g 270 th_learning_good), (A_th_learning_bad, iA g 270 th_learning_bad), (A_th_learning_index_fits, iA g 270 th_learning_index_fits), (A_th_learning_index_starts, iA g 5 th_learning_index_starts), (A_th_learning_index_numbers, iA g 1372 th_learning_index_numbers)]) (st := []) (st2 := []) C cv_X7_copyFrom tb706 (c_X7_copyFrom l g A_th_tried A_p1 A_p1_letters A_th_tried_letters A_p1_breaks A_th_tried_breaks A_p1_sizes A_th_tried_sizes A_p1_rules A_th_tried_rules A_p1_hs A_th_tried_hs th_tried_words th_tried_learnt p1_words p1_learnt p1_letters th_tried_letters p1_breaks th_tried_breaks p1_sizes th_tried_sizes p1_rules th_tried_rules p1_hs th_tried_hs F (z1, z2, f3, f4, f5, f6, f7) hM) rfl 2 rfl rfl ⟨rfl, rfl, by decide, by decide⟩ (Nat.le_of_ble_eq_true rfl) [2, 1, 8, 3, 9, 4, 10, 5, 11, 6, 12, 7] rfl (by decide) rfl rfl dX4_firstWrong_5 [none, some 1, some 0, some 3, some 5, some 7, some 9, some 11, some 2, some 4, some 6, some 8, some 10, none, none, none, none, none, none, none, none, none] (by decide) ⟨rfl, ⟨⟨rfl, rfl⟩, ⟨⟨rfl, rfl⟩, ⟨⟨rfl, rfl⟩, ⟨⟨rfl, rfl⟩, ⟨⟨rfl, rfl⟩, ⟨⟨rfl, rfl⟩, ⟨⟨rfl, rfl⟩, ⟨⟨rfl, rfl⟩, ⟨⟨rfl, rfl⟩, ⟨⟨rfl, rfl⟩, ⟨⟨rfl, rfl⟩, ⟨⟨rfl, rfl⟩, ⟨rfl, ⟨rfl, ⟨rfl, ⟨rfl, ⟨rfl, ⟨rfl, ⟨rfl, ⟨rfl, ⟨rfl, trivial⟩⟩⟩⟩⟩⟩⟩⟩⟩⟩⟩⟩⟩⟩⟩⟩⟩⟩⟩⟩⟩⟩ rfl ?_
  refine b_aload_n C dX4_firstWrong_8 rfl 0 rfl ?_
  refine gfX4_18 C 0 rfl rfl dX4_firstWrong_9 ?_
  refine b_aload_n C dX4_firstWrong_12 rfl 0 rfl ?_
  refine gfX4_12 C 0 rfl rfl dX4_firstWrong_13 ?_
  refine b_bipush (v := 63) C dX4_firstWrong_16 (by decide) ?_
  obtain ⟨f8, f9, f10, f11, hM, hm⟩ := bK4_some hm
  refine b_kV (w' := [(A_th, oO 3 [.ref A_th_tried, .ref A_th_learning]), (A_p1, oO 6 [.ref A_p1_letters, .ref A_p1_breaks, .ref A_p1_sizes, .ref A_p1_rules, .ref A_p1_hs, .int p1_words, .int p1_learnt]), (A_th_tried, oO 6 [.ref A_th_tried_letters, .ref A_th_tried_breaks, .ref A_th_tried_sizes, .ref A_th_tried_rules, .ref A_th_tried_hs, .int z1, .int z2]), (A_th_tried_letters, iA g 6 f3), (A_th_tried_breaks, iA g 6 f4), (A_th_tried_sizes, iA g 6 f5), (A_th_tried_rules, iA g 5 f6), (A_th_tried_hs, iA g 5 f7), (A_p1_letters, iA g 6 p1_letters), (A_p1_breaks, iA g 6 p1_breaks), (A_p1_sizes, iA g 6 p1_sizes), (A_p1_rules, iA g 5 p1_rules), (A_p1_hs, iA g 5 p1_hs), (A_th_learning, oO 4 [.ref A_th_learning_index, .ref A_th_learning_levels, .ref A_th_learning_good, .ref A_th_learning_bad, .ref A_th_learning_digits]), (A_th_learning_levels, iA g 270 f8), (A_th_learning_index, oO 2 [.ref A_th_learning_index_numbers, V_th_learning_index_codes, .ref A_th_learning_index_fits, .int th_learning_index_known, .ref A_th_learning_index_starts, V_th_learning_index_signs, V_th_learning_index_size]), (A_th_learning_digits, iA g 30 f9), (A_th_learning_good, iA g 270 f10), (A_th_learning_bad, iA g 270 f11), (A_th_learning_index_fits, iA g 270 th_learning_index_fits), (A_th_learning_index_starts, iA g 5 th_learning_index_starts), (A_th_learning_index_numbers, iA g 1372 th_learning_index_numbers)]) (st := []) (st2 := []) C cv_X5_learnFrom tb713 (c_X5_learnFrom l g A_th_learning A_th_tried A_th_learning_levels A_th_learning_index A_th_learning_digits A_th_learning_good A_th_learning_bad A_th_tried_sizes A_th_tried_breaks A_th_learning_index_fits A_th_tried_rules A_th_tried_hs A_th_learning_index_starts (.ref A_th_tried_letters) (.ref A_th_learning_index_numbers) V_th_learning_index_codes V_th_learning_index_signs V_th_learning_index_size 63 z1 z2 th_learning_levels th_learning_index_known th_learning_digits th_learning_good th_learning_bad f5 f4 th_learning_index_fits f6 f7 th_learning_index_starts F (f8, f9, f10, f11) hM) rfl 13 rfl rfl ⟨rfl, rfl, by decide, by decide⟩ (Nat.le_of_ble_eq_true rfl) [13, 2, 14, 15, 16, 17, 18, 5, 4, 19, 6, 7, 20] rfl (by decide) rfl rfl dX4_firstWrong_18 [none, none, some 1, none, some 8, some 7, some 10, some 11, none, none, none, none, none, some 0, some 2, some 3, some 4, some 5, some 6, some 9, some 12, none] (by decide) ⟨rfl, ⟨rfl, ⟨⟨rfl, rfl⟩, ⟨rfl, ⟨⟨rfl, rfl⟩, ⟨⟨rfl, rfl⟩, ⟨⟨rfl, rfl⟩, ⟨⟨rfl, rfl⟩, ⟨rfl, ⟨rfl, ⟨rfl, ⟨rfl, ⟨rfl, ⟨⟨rfl, rfl⟩, ⟨⟨rfl, rfl⟩, ⟨⟨rfl, rfl⟩, ⟨⟨rfl, rfl⟩, ⟨⟨rfl, rfl⟩, ⟨⟨rfl, rfl⟩, ⟨⟨rfl, rfl⟩, ⟨⟨rfl, rfl⟩, ⟨rfl, trivial⟩⟩⟩⟩⟩⟩⟩⟩⟩⟩⟩⟩⟩⟩⟩⟩⟩⟩⟩⟩⟩⟩ rfl ?_
  refine b_iconst (v := 0) C dX4_firstWrong_21 (by decide) ?_
  refine b_istore (lv' := [(5, .int 0), (0, .ref A_th), (1, .ref A_p1), (2, .int n2), (3, .long n3)]) C dX4_firstWrong_22 (by decide) rfl ?_
  refine Wb.lv (lv' := [(0, .ref A_th), (2, .int n2), (3, .long n3), (5, .int 0)]) ?_ [1, 3, 4, 0] rfl
  refine wl9_W (Wg := fun (x13 : Int32) (z14 : Int32) (f15 : (Nat → Int32)) (f16 : (Nat → Int32)) (f17 : (Nat → Int32)) (f18 : (Nat → Int32)) (f19 : (Nat → Int32)) (f20 : (Nat → Int32)) (f21 : (Nat → Int32)) => Wb x [(A_th, oO 3 [.ref A_th_tried, .ref A_th_learning]), (A_p1, oO 6 [.ref A_p1_letters, .ref A_p1_breaks, .ref A_p1_sizes, .ref A_p1_rules, .ref A_p1_hs, .int p1_words, .int p1_learnt]), (A_th_tried, oO 6 [.ref A_th_tried_letters, .ref A_th_tried_breaks, .ref A_th_tried_sizes, .ref A_th_tried_rules, .ref A_th_tried_hs, .int z1, .int z14]), (A_th_tried_letters, iA g 6 f3), (A_th_tried_breaks, iA g 6 f15), (A_th_tried_sizes, iA g 6 f5), (A_th_tried_rules, iA g 5 f16), (A_th_tried_hs, iA g 5 f17), (A_p1_letters, iA g 6 p1_letters), (A_p1_breaks, iA g 6 p1_breaks), (A_p1_sizes, iA g 6 p1_sizes), (A_p1_rules, iA g 5 p1_rules), (A_p1_hs, iA g 5 p1_hs), (A_th_learning, oO 4 [.ref A_th_learning_index, .ref A_th_learning_levels, .ref A_th_learning_good, .ref A_th_learning_bad, .ref A_th_learning_digits]), (A_th_learning_levels, iA g 270 f18), (A_th_learning_index, oO 2 [.ref A_th_learning_index_numbers, V_th_learning_index_codes, .ref A_th_learning_index_fits, .int th_learning_index_known, .ref A_th_learning_index_starts, V_th_learning_index_signs, V_th_learning_index_size]), (A_th_learning_digits, iA g 30 f19), (A_th_learning_good, iA g 270 f20), (A_th_learning_bad, iA g 270 f21), (A_th_learning_index_fits, iA g 270 th_learning_index_fits), (A_th_learning_index_starts, iA g 5 th_learning_index_starts), (A_th_learning_index_numbers, iA g 1372 th_learning_index_numbers)] [(0, .ref A_th), (2, .int n2), (3, .long n3), (5, .int x13)] 24 []) ?_ F 0 z2 f4 f6 f7 f8 f9 f10 f11 hm
  intro x13 z14 f15 f16 f17 f18 f19 f20 f21 c12 hc12 hm
  refine b_iload C dX4_firstWrong_24 3 rfl ?_
  refine b_iload_n C dX4_firstWrong_26 rfl 1 rfl ?_
  refine b_icmp_ge (tgt := 63) C dX4_firstWrong_27 (by decide) hm (fun hm => ?_) (fun hm => ?_)
  · refine b_bipush (v := (-9)) C dX4_firstWrong_63 (by decide) ?_
    cases hm
    exact b_iret C dX4_firstWrong_65
  · refine b_aload_n C dX4_firstWrong_30 rfl 0 rfl ?_
    refine b_lload_n C dX4_firstWrong_31 rfl 2 rfl ?_
    refine b_getsN4 C (by decide +kernel) dX4_firstWrong_32 ?_
    refine b_iload_n C dX4_firstWrong_35 rfl 1 rfl ?_
    refine b_iconst (v := 1) C dX4_firstWrong_36 (by decide) ?_
    refine b_isub C dX4_firstWrong_37 ?_
    refine b_iload C dX4_firstWrong_38 3 rfl ?_
    refine b_isub C dX4_firstWrong_40 ?_
    refine b_tab4 C dX4_firstWrong_41 hm (fun v22 hm => ?_)
    obtain ⟨hz, hm⟩ := nzL_some hm
    refine b_ldiv C dX4_firstWrong_42 hz ?_
    refine b_ldc2 C tb715 dX4_firstWrong_43 ?_
    refine b_lrem C dX4_firstWrong_46 (by decide) ?_
    refine b_l2i C dX4_firstWrong_47 ?_
    obtain ⟨r23, f24, z25, f26, f27, f28, f29, f30, f31, hM, hm⟩ := bK9_some hm
    refine b_kV (w' := [(A_th, oO 3 [.ref A_th_tried, .ref A_th_learning]), (A_p1, oO 6 [.ref A_p1_letters, .ref A_p1_breaks, .ref A_p1_sizes, .ref A_p1_rules, .ref A_p1_hs, .int p1_words, .int p1_learnt]), (A_th_tried, oO 6 [.ref A_th_tried_letters, .ref A_th_tried_breaks, .ref A_th_tried_sizes, .ref A_th_tried_rules, .ref A_th_tried_hs, .int z1, .int z25]), (A_th_tried_letters, iA g 6 f3), (A_th_tried_breaks, iA g 6 f27), (A_th_tried_sizes, iA g 6 f5), (A_th_tried_rules, iA g 5 f28), (A_th_tried_hs, iA g 5 f29), (A_p1_letters, iA g 6 p1_letters), (A_p1_breaks, iA g 6 p1_breaks), (A_p1_sizes, iA g 6 p1_sizes), (A_p1_rules, iA g 5 p1_rules), (A_p1_hs, iA g 5 p1_hs), (A_th_learning, oO 4 [.ref A_th_learning_index, .ref A_th_learning_levels, .ref A_th_learning_good, .ref A_th_learning_bad, .ref A_th_learning_digits]), (A_th_learning_levels, iA g 270 f24), (A_th_learning_index, oO 2 [.ref A_th_learning_index_numbers, V_th_learning_index_codes, .ref A_th_learning_index_fits, .int th_learning_index_known, .ref A_th_learning_index_starts, V_th_learning_index_signs, V_th_learning_index_size]), (A_th_learning_digits, iA g 30 f26), (A_th_learning_good, iA g 270 f30), (A_th_learning_bad, iA g 270 f31), (A_th_learning_index_fits, iA g 270 th_learning_index_fits), (A_th_learning_index_starts, iA g 5 th_learning_index_starts), (A_th_learning_index_numbers, iA g 1372 th_learning_index_numbers)]) (st := []) (st2 := [.int r23]) C cv_X4_goesOn tb716 (c_X4_goesOn l g A_th A_th_learning A_th_learning_index A_th_learning_levels A_th_learning_index_numbers A_th_tried A_th_learning_digits A_th_tried_sizes A_th_tried_breaks A_th_tried_rules A_th_tried_hs A_th_learning_good A_th_learning_bad A_th_learning_index_fits A_th_learning_index_starts V_th_learning_index_codes V_th_learning_index_signs V_th_learning_index_size (.ref A_th_tried_letters) ((lrm (n3 / v22) 100000).toInt32) th_learning_index_known f18 th_learning_index_numbers z1 z14 f19 f5 f15 f16 f17 f20 f21 th_learning_index_fits th_learning_index_starts F (r23, f24, z25, f26, f27, f28, f29, f30, f31) hM) rfl 0 rfl rfl ⟨rfl, rfl, by decide, by decide⟩ (Nat.le_of_ble_eq_true rfl) [0, 13, 15, 14, 21, 2, 16, 5, 4, 6, 7, 17, 18, 19, 20] rfl (by decide) rfl rfl dX4_firstWrong_48 [some 0, none, some 5, none, some 8, some 7, some 9, some 10, none, none, none, none, none, some 1, some 3, some 2, some 6, some 11, some 12, some 13, some 14, some 4] (by decide) ⟨⟨rfl, rfl⟩, ⟨rfl, ⟨⟨rfl, rfl⟩, ⟨rfl, ⟨⟨rfl, rfl⟩, ⟨⟨rfl, rfl⟩, ⟨⟨rfl, rfl⟩, ⟨⟨rfl, rfl⟩, ⟨rfl, ⟨rfl, ⟨rfl, ⟨rfl, ⟨rfl, ⟨⟨rfl, rfl⟩, ⟨⟨rfl, rfl⟩, ⟨⟨rfl, rfl⟩, ⟨⟨rfl, rfl⟩, ⟨⟨rfl, rfl⟩, ⟨⟨rfl, rfl⟩, ⟨⟨rfl, rfl⟩, ⟨⟨rfl, rfl⟩, ⟨⟨rfl, rfl⟩, trivial⟩⟩⟩⟩⟩⟩⟩⟩⟩⟩⟩⟩⟩⟩⟩⟩⟩⟩⟩⟩⟩⟩ rfl ?_
    refine b_if_ne (tgt := 57) C dX4_firstWrong_51 (by decide) hm (fun hm => ?_) (fun hm => ?_)
    · refine b_iinc (v2 := x13 + 1) (lv' := [(5, .int (x13 + 1)), (0, .ref A_th), (2, .int n2), (3, .long n3)]) C dX4_firstWrong_57 3 rfl rfl (by decide) rfl ?_
      refine b_goto (tgt := 24) C dX4_firstWrong_60 (by decide) ?_
      exact Wb.lv (hc12 (x13 + 1) z25 f27 f28 f29 f24 f26 f30 f31 hm) [1, 2, 3, 0] rfl
    · refine b_iload C dX4_firstWrong_54 3 rfl ?_
      cases hm
      exact b_iret C dX4_firstWrong_56
/-- BreakLearner.judge(IJ)I -/
def m_X10_judge (F : Nat)  (n1 : Int32) (n2 : Int64) (th_stock_words : Int32) (th_stock_learnt : Int32) (th_judging_tried_words : Int32) (th_judging_tried_learnt : Int32) (th_stock_letters : (Nat → Int32)) (th_stock_breaks : (Nat → Int32)) (th_stock_sizes : (Nat → Int32)) (th_stock_rules : (Nat → Int32)) (th_stock_hs : (Nat → Int32)) (th_judging_tried_letters : (Nat → Int32)) (th_judging_tried_breaks : (Nat → Int32)) (th_judging_tried_sizes : (Nat → Int32)) (th_judging_tried_rules : (Nat → Int32)) (th_judging_tried_hs : (Nat → Int32)) (th_judging_learning_levels : (Nat → Int32)) (th_index_known : Int32) (th_judging_learning_digits : (Nat → Int32)) (th_judging_learning_good : (Nat → Int32)) (th_judging_learning_bad : (Nat → Int32)) (th_index_fits : (Nat → Int32)) (th_index_starts : (Nat → Int32)) (th_index_numbers : (Nat → Int32)) : Option (Int32 × Int32 × Int32 × (Nat → Int32) × (Nat → Int32) × (Nat → Int32) × (Nat → Int32) × (Nat → Int32) × (Nat → Int32) × (Nat → Int32) × (Nat → Int32) × (Nat → Int32)) :=
  if n1 < 1 then
    some ((-2), th_judging_tried_words, th_judging_tried_learnt, th_judging_tried_letters, th_judging_tried_breaks, th_judging_tried_sizes, th_judging_tried_rules, th_judging_tried_hs, th_judging_learning_levels, th_judging_learning_digits, th_judging_learning_good, th_judging_learning_bad)
  else
    if 3 < n1 then
      some ((-2), th_judging_tried_words, th_judging_tried_learnt, th_judging_tried_letters, th_judging_tried_breaks, th_judging_tried_sizes, th_judging_tried_rules, th_judging_tried_hs, th_judging_learning_levels, th_judging_learning_digits, th_judging_learning_good, th_judging_learning_bad)
    else
      if (lg_cmp n2 0) < 0 then
        some ((-2), th_judging_tried_words, th_judging_tried_learnt, th_judging_tried_letters, th_judging_tried_breaks, th_judging_tried_sizes, th_judging_tried_rules, th_judging_tried_hs, th_judging_learning_levels, th_judging_learning_digits, th_judging_learning_good, th_judging_learning_bad)
      else
        rdK 4 kRow n1 (fun v1 =>
        if (lg_cmp n2 v1) < 0 then
          bK12 (m_X4_firstWrong F n1 n2 th_stock_words th_stock_learnt th_judging_tried_words th_judging_tried_learnt th_judging_tried_letters th_judging_tried_breaks th_judging_tried_sizes th_judging_tried_rules th_judging_tried_hs th_stock_letters th_stock_breaks th_stock_sizes th_stock_rules th_stock_hs th_judging_learning_levels th_index_known th_judging_learning_digits th_judging_learning_good th_judging_learning_bad th_index_fits th_index_starts th_index_numbers) (fun r2 z3 z4 f5 f6 f7 f8 f9 f10 f11 f12 f13 =>
          some (r2, z3, z4, f5, f6, f7, f8, f9, f10, f11, f12, f13)
          )
        else
          some ((-2), th_judging_tried_words, th_judging_tried_learnt, th_judging_tried_letters, th_judging_tried_breaks, th_judging_tried_sizes, th_judging_tried_rules, th_judging_tried_hs, th_judging_learning_levels, th_judging_learning_digits, th_judging_learning_good, th_judging_learning_bad)
        )
abbrev rmX10_judge : Room := { frames := 6, cells := 0, slots := 0, locals := 153 }
set_option maxHeartbeats 4000000 in
set_option maxRecDepth 100000 in
theorem c_X10_judge (l : Launch) (g : Gl) (A_th A_th_judging A_th_stock A_th_judging_tried A_th_judging_learning A_th_stock_letters A_th_stock_breaks A_th_stock_sizes A_th_stock_rules A_th_stock_hs A_th_judging_tried_letters A_th_judging_tried_breaks A_th_judging_tried_sizes A_th_judging_tried_rules A_th_judging_tried_hs A_th_judging_learning_levels A_th_index A_th_judging_learning_digits A_th_judging_learning_good A_th_judging_learning_bad A_th_index_fits A_th_index_starts A_th_index_numbers : Nat) (V_th_text V_th_index V_th_learning V_th_doings V_th_tree V_th_seen V_th_chances V_th_shelves V_th_onShelf V_th_theSeed V_th_index_codes V_th_index_signs V_th_index_size : Value)  (n1 : Int32) (n2 : Int64) (th_stock_words : Int32) (th_stock_learnt : Int32) (th_judging_tried_words : Int32) (th_judging_tried_learnt : Int32) (th_stock_letters : (Nat → Int32)) (th_stock_breaks : (Nat → Int32)) (th_stock_sizes : (Nat → Int32)) (th_stock_rules : (Nat → Int32)) (th_stock_hs : (Nat → Int32)) (th_judging_tried_letters : (Nat → Int32)) (th_judging_tried_breaks : (Nat → Int32)) (th_judging_tried_sizes : (Nat → Int32)) (th_judging_tried_rules : (Nat → Int32)) (th_judging_tried_hs : (Nat → Int32)) (th_judging_learning_levels : (Nat → Int32)) (th_index_known : Int32) (th_judging_learning_digits : (Nat → Int32)) (th_judging_learning_good : (Nat → Int32)) (th_judging_learning_bad : (Nat → Int32)) (th_index_fits : (Nat → Int32)) (th_index_starts : (Nat → Int32)) (th_index_numbers : (Nat → Int32)) (F : Nat) (u : Int32 × Int32 × Int32 × (Nat → Int32) × (Nat → Int32) × (Nat → Int32) × (Nat → Int32) × (Nat → Int32) × (Nat → Int32) × (Nat → Int32) × (Nat → Int32) × (Nat → Int32)) (hm : m_X10_judge F n1 n2 th_stock_words th_stock_learnt th_judging_tried_words th_judging_tried_learnt th_stock_letters th_stock_breaks th_stock_sizes th_stock_rules th_stock_hs th_judging_tried_letters th_judging_tried_breaks th_judging_tried_sizes th_judging_tried_rules th_judging_tried_hs th_judging_learning_levels th_index_known th_judging_learning_digits th_judging_learning_good th_judging_learning_bad th_index_fits th_index_starts th_index_numbers = some u) : Ct l g yX10_judge cX10_judge 4 (some .int) rmX10_judge [.ref A_th, .int n1, .long n2] [(A_th, oO 9 [V_th_text, .ref A_th_stock, V_th_index, V_th_learning, V_th_doings, V_th_tree, V_th_seen, .ref A_th_judging, V_th_chances, V_th_shelves, V_th_onShelf, V_th_theSeed]), (A_th_judging, oO 3 [.ref A_th_judging_tried, .ref A_th_judging_learning]), (A_th_stock, oO 6 [.ref A_th_stock_letters, .ref A_th_stock_breaks, .ref A_th_stock_sizes, .ref A_th_stock_rules, .ref A_th_stock_hs, .int th_stock_words, .int th_stock_learnt]), (A_th_judging_tried, oO 6 [.ref A_th_judging_tried_letters, .ref A_th_judging_tried_breaks, .ref A_th_judging_tried_sizes, .ref A_th_judging_tried_rules, .ref A_th_judging_tried_hs, .int th_judging_tried_words, .int th_judging_tried_learnt]), (A_th_judging_learning, oO 4 [.ref A_th_index, .ref A_th_judging_learning_levels, .ref A_th_judging_learning_good, .ref A_th_judging_learning_bad, .ref A_th_judging_learning_digits]), (A_th_stock_letters, iA g 6 th_stock_letters), (A_th_stock_breaks, iA g 6 th_stock_breaks), (A_th_stock_sizes, iA g 6 th_stock_sizes), (A_th_stock_rules, iA g 5 th_stock_rules), (A_th_stock_hs, iA g 5 th_stock_hs), (A_th_judging_tried_letters, iA g 6 th_judging_tried_letters), (A_th_judging_tried_breaks, iA g 6 th_judging_tried_breaks), (A_th_judging_tried_sizes, iA g 6 th_judging_tried_sizes), (A_th_judging_tried_rules, iA g 5 th_judging_tried_rules), (A_th_judging_tried_hs, iA g 5 th_judging_tried_hs), (A_th_judging_learning_levels, iA g 270 th_judging_learning_levels), (A_th_index, oO 2 [.ref A_th_index_numbers, V_th_index_codes, .ref A_th_index_fits, .int th_index_known, .ref A_th_index_starts, V_th_index_signs, V_th_index_size]), (A_th_judging_learning_digits, iA g 30 th_judging_learning_digits), (A_th_judging_learning_good, iA g 270 th_judging_learning_good), (A_th_judging_learning_bad, iA g 270 th_judging_learning_bad), (A_th_index_fits, iA g 270 th_index_fits), (A_th_index_starts, iA g 5 th_index_starts), (A_th_index_numbers, iA g 1372 th_index_numbers)] (some (.int u.1)) [(A_th, oO 9 [V_th_text, .ref A_th_stock, V_th_index, V_th_learning, V_th_doings, V_th_tree, V_th_seen, .ref A_th_judging, V_th_chances, V_th_shelves, V_th_onShelf, V_th_theSeed]), (A_th_judging, oO 3 [.ref A_th_judging_tried, .ref A_th_judging_learning]), (A_th_stock, oO 6 [.ref A_th_stock_letters, .ref A_th_stock_breaks, .ref A_th_stock_sizes, .ref A_th_stock_rules, .ref A_th_stock_hs, .int th_stock_words, .int th_stock_learnt]), (A_th_judging_tried, oO 6 [.ref A_th_judging_tried_letters, .ref A_th_judging_tried_breaks, .ref A_th_judging_tried_sizes, .ref A_th_judging_tried_rules, .ref A_th_judging_tried_hs, .int u.2.1, .int u.2.2.1]), (A_th_judging_learning, oO 4 [.ref A_th_index, .ref A_th_judging_learning_levels, .ref A_th_judging_learning_good, .ref A_th_judging_learning_bad, .ref A_th_judging_learning_digits]), (A_th_stock_letters, iA g 6 th_stock_letters), (A_th_stock_breaks, iA g 6 th_stock_breaks), (A_th_stock_sizes, iA g 6 th_stock_sizes), (A_th_stock_rules, iA g 5 th_stock_rules), (A_th_stock_hs, iA g 5 th_stock_hs), (A_th_judging_tried_letters, iA g 6 u.2.2.2.1), (A_th_judging_tried_breaks, iA g 6 u.2.2.2.2.1), (A_th_judging_tried_sizes, iA g 6 u.2.2.2.2.2.1), (A_th_judging_tried_rules, iA g 5 u.2.2.2.2.2.2.1), (A_th_judging_tried_hs, iA g 5 u.2.2.2.2.2.2.2.1), (A_th_judging_learning_levels, iA g 270 u.2.2.2.2.2.2.2.2.1), (A_th_index, oO 2 [.ref A_th_index_numbers, V_th_index_codes, .ref A_th_index_fits, .int th_index_known, .ref A_th_index_starts, V_th_index_signs, V_th_index_size]), (A_th_judging_learning_digits, iA g 30 u.2.2.2.2.2.2.2.2.2.1), (A_th_judging_learning_good, iA g 270 u.2.2.2.2.2.2.2.2.2.2.1), (A_th_judging_learning_bad, iA g 270 u.2.2.2.2.2.2.2.2.2.2.2), (A_th_index_fits, iA g 270 th_index_fits), (A_th_index_starts, iA g 5 th_index_starts), (A_th_index_numbers, iA g 1372 th_index_numbers)] := by
  refine ent (own := RX10) (lv := [(0, .ref A_th), (1, .int n1), (2, .long n2)]) (by decide) rfl (Nat.le_of_ble_eq_true rfl) rfl rfl ?_
  intro x C
  unfold m_X10_judge at hm
  refine b_iload_n C dX10_judge_0 rfl 1 rfl ?_
  refine b_iconst (v := 1) C dX10_judge_1 (by decide) ?_
  refine b_icmp_lt (tgt := 26) C dX10_judge_2 (by decide) hm (fun hm => ?_) (fun hm => ?_)
  · refine b_bipush (v := (-2)) C dX10_judge_26 (by decide) ?_
    cases hm
    exact b_iret C dX10_judge_28
  · refine b_iload_n C dX10_judge_5 rfl 1 rfl ?_
    refine b_iconst (v := 3) C dX10_judge_6 (by decide) ?_
    refine b_icmp_gt (tgt := 26) C dX10_judge_7 (by decide) hm (fun hm => ?_) (fun hm => ?_)
    · refine b_bipush (v := (-2)) C dX10_judge_26 (by decide) ?_
      cases hm
      exact b_iret C dX10_judge_28
    · refine b_lload_n C dX10_judge_10 rfl 2 rfl ?_
      refine b_lconst (v := 0) C dX10_judge_11 (by decide) ?_
      refine b_lcmp C dX10_judge_12 ?_
      refine b_if_lt (tgt := 26) C dX10_judge_13 (by decide) hm (fun hm => ?_) (fun hm => ?_)
      · refine b_bipush (v := (-2)) C dX10_judge_26 (by decide) ?_
        cases hm
        exact b_iret C dX10_judge_28
      · refine b_lload_n C dX10_judge_16 rfl 2 rfl ?_
        refine b_gets4 C tb700 dX10_judge_17 ?_
        refine b_iload_n C dX10_judge_20 rfl 1 rfl ?_
        refine b_tab4 C dX10_judge_21 hm (fun v1 hm => ?_)
        refine b_lcmp C dX10_judge_22 ?_
        refine b_if_lt (tgt := 29) C dX10_judge_23 (by decide) hm (fun hm => ?_) (fun hm => ?_)
        · refine b_aload_n C dX10_judge_29 rfl 0 rfl ?_
          refine gfX10_65 C 0 rfl rfl dX10_judge_30 ?_
          refine b_aload_n C dX10_judge_33 rfl 0 rfl ?_
          refine gfX10_19 C 0 rfl rfl dX10_judge_34 ?_
          refine b_iload_n C dX10_judge_37 rfl 1 rfl ?_
          refine b_lload_n C dX10_judge_38 rfl 2 rfl ?_
          obtain ⟨r2, z3, z4, f5, f6, f7, f8, f9, f10, f11, f12, f13, hM, hm⟩ := bK12_some hm
          refine b_kV (w' := [(A_th, oO 9 [V_th_text, .ref A_th_stock, V_th_index, V_th_learning, V_th_doings, V_th_tree, V_th_seen, .ref A_th_judging, V_th_chances, V_th_shelves, V_th_onShelf, V_th_theSeed]), (A_th_judging, oO 3 [.ref A_th_judging_tried, .ref A_th_judging_learning]), (A_th_stock, oO 6 [.ref A_th_stock_letters, .ref A_th_stock_breaks, .ref A_th_stock_sizes, .ref A_th_stock_rules, .ref A_th_stock_hs, .int th_stock_words, .int th_stock_learnt]), (A_th_judging_tried, oO 6 [.ref A_th_judging_tried_letters, .ref A_th_judging_tried_breaks, .ref A_th_judging_tried_sizes, .ref A_th_judging_tried_rules, .ref A_th_judging_tried_hs, .int z3, .int z4]), (A_th_judging_learning, oO 4 [.ref A_th_index, .ref A_th_judging_learning_levels, .ref A_th_judging_learning_good, .ref A_th_judging_learning_bad, .ref A_th_judging_learning_digits]), (A_th_stock_letters, iA g 6 th_stock_letters), (A_th_stock_breaks, iA g 6 th_stock_breaks), (A_th_stock_sizes, iA g 6 th_stock_sizes), (A_th_stock_rules, iA g 5 th_stock_rules), (A_th_stock_hs, iA g 5 th_stock_hs), (A_th_judging_tried_letters, iA g 6 f5), (A_th_judging_tried_breaks, iA g 6 f6), (A_th_judging_tried_sizes, iA g 6 f7), (A_th_judging_tried_rules, iA g 5 f8), (A_th_judging_tried_hs, iA g 5 f9), (A_th_judging_learning_levels, iA g 270 f10), (A_th_index, oO 2 [.ref A_th_index_numbers, V_th_index_codes, .ref A_th_index_fits, .int th_index_known, .ref A_th_index_starts, V_th_index_signs, V_th_index_size]), (A_th_judging_learning_digits, iA g 30 f11), (A_th_judging_learning_good, iA g 270 f12), (A_th_judging_learning_bad, iA g 270 f13), (A_th_index_fits, iA g 270 th_index_fits), (A_th_index_starts, iA g 5 th_index_starts), (A_th_index_numbers, iA g 1372 th_index_numbers)]) (st := []) (st2 := [.int r2]) C cv_X4_firstWrong tb702 (c_X4_firstWrong l g A_th_judging A_th_stock A_th_judging_tried A_th_judging_tried_letters A_th_judging_tried_breaks A_th_judging_tried_sizes A_th_judging_tried_rules A_th_judging_tried_hs A_th_stock_letters A_th_stock_breaks A_th_stock_sizes A_th_stock_rules A_th_stock_hs A_th_judging_learning A_th_judging_learning_levels A_th_index A_th_judging_learning_digits A_th_judging_learning_good A_th_judging_learning_bad A_th_index_fits A_th_index_starts A_th_index_numbers V_th_index_codes V_th_index_signs V_th_index_size n1 n2 th_stock_words th_stock_learnt th_judging_tried_words th_judging_tried_learnt th_judging_tried_letters th_judging_tried_breaks th_judging_tried_sizes th_judging_tried_rules th_judging_tried_hs th_stock_letters th_stock_breaks th_stock_sizes th_stock_rules th_stock_hs th_judging_learning_levels th_index_known th_judging_learning_digits th_judging_learning_good th_judging_learning_bad th_index_fits th_index_starts th_index_numbers F (r2, z3, z4, f5, f6, f7, f8, f9, f10, f11, f12, f13) hM) rfl 1 rfl rfl ⟨rfl, rfl, by decide, by decide⟩ (Nat.le_of_ble_eq_true rfl) [1, 2, 3, 10, 11, 12, 13, 14, 5, 6, 7, 8, 9, 4, 15, 16, 17, 18, 19, 20, 21, 22] rfl (by decide) rfl rfl dX10_judge_39 [none, some 0, some 1, some 2, some 13, some 8, some 9, some 10, some 11, some 12, some 3, some 4, some 5, some 6, some 7, some 14, some 15, some 16, some 17, some 18, some 19, some 20, some 21] (by decide) ⟨rfl, ⟨⟨rfl, rfl⟩, ⟨⟨rfl, rfl⟩, ⟨⟨rfl, rfl⟩, ⟨⟨rfl, rfl⟩, ⟨⟨rfl, rfl⟩, ⟨⟨rfl, rfl⟩, ⟨⟨rfl, rfl⟩, ⟨⟨rfl, rfl⟩, ⟨⟨rfl, rfl⟩, ⟨⟨rfl, rfl⟩, ⟨⟨rfl, rfl⟩, ⟨⟨rfl, rfl⟩, ⟨⟨rfl, rfl⟩, ⟨⟨rfl, rfl⟩, ⟨⟨rfl, rfl⟩, ⟨⟨rfl, rfl⟩, ⟨⟨rfl, rfl⟩, ⟨⟨rfl, rfl⟩, ⟨⟨rfl, rfl⟩, ⟨⟨rfl, rfl⟩, ⟨⟨rfl, rfl⟩, ⟨⟨rfl, rfl⟩, trivial⟩⟩⟩⟩⟩⟩⟩⟩⟩⟩⟩⟩⟩⟩⟩⟩⟩⟩⟩⟩⟩⟩⟩ rfl ?_
          cases hm
          exact b_iret C dX10_judge_42
        · refine b_bipush (v := (-2)) C dX10_judge_26 (by decide) ?_
          cases hm
          exact b_iret C dX10_judge_28
/-- BreakLearner$Chances.value(LBreakLearner$Stock;)V -/
def m_X0_value (F : Nat)   (th_valued : Int32) (p1_words : Int32) (p1_learnt : Int32) (th_learning_levels : (Nat → Int32)) (th_learning_index_known : Int32) (th_learning_digits : (Nat → Int32)) (th_learning_good : (Nat → Int32)) (th_learning_bad : (Nat → Int32)) (p1_sizes : (Nat → Int32)) (p1_breaks : (Nat → Int32)) (p1_rules : (Nat → Int32)) (p1_hs : (Nat → Int32)) (th_learning_index_fits : (Nat → Int32)) (th_learning_index_starts : (Nat → Int32)) (th_rights : (Nat → Int32)) : Option (Int32 × (Nat → Int32) × (Nat → Int32) × (Nat → Int32) × (Nat → Int32) × (Nat → Int32)) :=
  if th_valued = 0 then
    wl6 (fun (x2 : Int32) (f3 : (Nat → Int32)) (f4 : (Nat → Int32)) (f5 : (Nat → Int32)) (f6 : (Nat → Int32)) (f7 : (Nat → Int32)) c1 =>
      if (1 <<< (p1_words &&& 31)) ≤ x2 then
        some (1, f3, f4, f5, f6, f7)
      else
        bK4 (m_X5_learnFrom F x2 p1_words p1_learnt f3 th_learning_index_known f4 f5 f6 p1_sizes p1_breaks th_learning_index_fits p1_rules p1_hs th_learning_index_starts) (fun f8 f9 f10 f11 =>
        bK1 (m_X5_rightPlaces F p1_words p1_sizes f9 p1_breaks) (fun r12 =>
        stK 64 f7 x2 r12 (fun f13 =>
        c1 (x2 + 1) f8 f9 f10 f11 f13
        )
        )
        )
      ) F 0 th_learning_levels th_learning_digits th_learning_good th_learning_bad th_rights
  else
    some (th_valued, th_learning_levels, th_learning_digits, th_learning_good, th_learning_bad, th_rights)
abbrev rmX0_value : Room := { frames := 4, cells := 0, slots := 0, locals := 91 }
set_option maxHeartbeats 4000000 in
set_option maxRecDepth 100000 in
theorem c_X0_value (l : Launch) (g : Gl) (A_th A_p1 A_th_learning A_th_learning_levels A_th_learning_index A_th_learning_digits A_th_learning_good A_th_learning_bad A_p1_sizes A_p1_breaks A_p1_rules A_p1_hs A_th_learning_index_fits A_th_learning_index_starts A_th_rights : Nat) (V_p1_letters V_th_learning_index_numbers V_th_learning_index_codes V_th_learning_index_signs V_th_learning_index_size : Value)   (th_valued : Int32) (p1_words : Int32) (p1_learnt : Int32) (th_learning_levels : (Nat → Int32)) (th_learning_index_known : Int32) (th_learning_digits : (Nat → Int32)) (th_learning_good : (Nat → Int32)) (th_learning_bad : (Nat → Int32)) (p1_sizes : (Nat → Int32)) (p1_breaks : (Nat → Int32)) (p1_rules : (Nat → Int32)) (p1_hs : (Nat → Int32)) (th_learning_index_fits : (Nat → Int32)) (th_learning_index_starts : (Nat → Int32)) (th_rights : (Nat → Int32)) (F : Nat) (u : Int32 × (Nat → Int32) × (Nat → Int32) × (Nat → Int32) × (Nat → Int32) × (Nat → Int32)) (hm : m_X0_value F th_valued p1_words p1_learnt th_learning_levels th_learning_index_known th_learning_digits th_learning_good th_learning_bad p1_sizes p1_breaks p1_rules p1_hs th_learning_index_fits th_learning_index_starts th_rights = some u) : Ct l g yX0_value cX0_value 3 none rmX0_value [.ref A_th, .ref A_p1] [(A_th, oO 0 [.ref A_th_learning, .ref A_th_rights, .int th_valued]), (A_p1, oO 6 [V_p1_letters, .ref A_p1_breaks, .ref A_p1_sizes, .ref A_p1_rules, .ref A_p1_hs, .int p1_words, .int p1_learnt]), (A_th_learning, oO 4 [.ref A_th_learning_index, .ref A_th_learning_levels, .ref A_th_learning_good, .ref A_th_learning_bad, .ref A_th_learning_digits]), (A_th_learning_levels, iA g 270 th_learning_levels), (A_th_learning_index, oO 2 [V_th_learning_index_numbers, V_th_learning_index_codes, .ref A_th_learning_index_fits, .int th_learning_index_known, .ref A_th_learning_index_starts, V_th_learning_index_signs, V_th_learning_index_size]), (A_th_learning_digits, iA g 30 th_learning_digits), (A_th_learning_good, iA g 270 th_learning_good), (A_th_learning_bad, iA g 270 th_learning_bad), (A_p1_sizes, iA g 6 p1_sizes), (A_p1_breaks, iA g 6 p1_breaks), (A_p1_rules, iA g 5 p1_rules), (A_p1_hs, iA g 5 p1_hs), (A_th_learning_index_fits, iA g 270 th_learning_index_fits), (A_th_learning_index_starts, iA g 5 th_learning_index_starts), (A_th_rights, iA g 64 th_rights)] none [(A_th, oO 0 [.ref A_th_learning, .ref A_th_rights, .int u.1]), (A_p1, oO 6 [V_p1_letters, .ref A_p1_breaks, .ref A_p1_sizes, .ref A_p1_rules, .ref A_p1_hs, .int p1_words, .int p1_learnt]), (A_th_learning, oO 4 [.ref A_th_learning_index, .ref A_th_learning_levels, .ref A_th_learning_good, .ref A_th_learning_bad, .ref A_th_learning_digits]), (A_th_learning_levels, iA g 270 u.2.1), (A_th_learning_index, oO 2 [V_th_learning_index_numbers, V_th_learning_index_codes, .ref A_th_learning_index_fits, .int th_learning_index_known, .ref A_th_learning_index_starts, V_th_learning_index_signs, V_th_learning_index_size]), (A_th_learning_digits, iA g 30 u.2.2.1), (A_th_learning_good, iA g 270 u.2.2.2.1), (A_th_learning_bad, iA g 270 u.2.2.2.2.1), (A_p1_sizes, iA g 6 p1_sizes), (A_p1_breaks, iA g 6 p1_breaks), (A_p1_rules, iA g 5 p1_rules), (A_p1_hs, iA g 5 p1_hs), (A_th_learning_index_fits, iA g 270 th_learning_index_fits), (A_th_learning_index_starts, iA g 5 th_learning_index_starts), (A_th_rights, iA g 64 u.2.2.2.2.2)] := by
  refine ent (own := RX0) (lv := [(0, .ref A_th), (1, .ref A_p1)]) (by decide) rfl (Nat.le_of_ble_eq_true rfl) rfl rfl ?_
  intro x C
  unfold m_X0_value at hm
  refine b_aload_n C dX0_value_0 rfl 0 rfl ?_
  refine gfX0_19 C 0 rfl rfl dX0_value_1 ?_
  refine b_if_eq (tgt := 8) C dX0_value_4 (by decide) hm (fun hm => ?_) (fun hm => ?_)
  · refine b_iconst (v := 0) C dX0_value_8 (by decide) ?_
    refine b_istore_n (lv' := [(2, .int 0), (0, .ref A_th), (1, .ref A_p1)]) C dX0_value_9 rfl (by decide) rfl ?_
    refine Wb.lv (lv' := [(0, .ref A_th), (1, .ref A_p1), (2, .int 0)]) ?_ [1, 2, 0] rfl
    refine wl6_W (Wg := fun (x2 : Int32) (f3 : (Nat → Int32)) (f4 : (Nat → Int32)) (f5 : (Nat → Int32)) (f6 : (Nat → Int32)) (f7 : (Nat → Int32)) => Wb x [(A_th, oO 0 [.ref A_th_learning, .ref A_th_rights, .int th_valued]), (A_p1, oO 6 [V_p1_letters, .ref A_p1_breaks, .ref A_p1_sizes, .ref A_p1_rules, .ref A_p1_hs, .int p1_words, .int p1_learnt]), (A_th_learning, oO 4 [.ref A_th_learning_index, .ref A_th_learning_levels, .ref A_th_learning_good, .ref A_th_learning_bad, .ref A_th_learning_digits]), (A_th_learning_levels, iA g 270 f3), (A_th_learning_index, oO 2 [V_th_learning_index_numbers, V_th_learning_index_codes, .ref A_th_learning_index_fits, .int th_learning_index_known, .ref A_th_learning_index_starts, V_th_learning_index_signs, V_th_learning_index_size]), (A_th_learning_digits, iA g 30 f4), (A_th_learning_good, iA g 270 f5), (A_th_learning_bad, iA g 270 f6), (A_p1_sizes, iA g 6 p1_sizes), (A_p1_breaks, iA g 6 p1_breaks), (A_p1_rules, iA g 5 p1_rules), (A_p1_hs, iA g 5 p1_hs), (A_th_learning_index_fits, iA g 270 th_learning_index_fits), (A_th_learning_index_starts, iA g 5 th_learning_index_starts), (A_th_rights, iA g 64 f7)] [(0, .ref A_th), (1, .ref A_p1), (2, .int x2)] 10 []) ?_ F 0 th_learning_levels th_learning_digits th_learning_good th_learning_bad th_rights hm
    intro x2 f3 f4 f5 f6 f7 c1 hc1 hm
    refine b_iload_n C dX0_value_10 rfl 2 rfl ?_
    refine b_iconst (v := 1) C dX0_value_11 (by decide) ?_
    refine b_aload_n C dX0_value_12 rfl 1 rfl ?_
    refine gfX0_23 C 1 rfl rfl dX0_value_13 ?_
    refine b_ishl C dX0_value_16 ?_
    refine b_icmp_ge (tgt := 49) C dX0_value_17 (by decide) hm (fun hm => ?_) (fun hm => ?_)
    · refine b_aload_n C dX0_value_49 rfl 0 rfl ?_
      refine b_iconst (v := 1) C dX0_value_50 (by decide) ?_
      refine pfX0_19 (w' := [(A_th, oO 0 [.ref A_th_learning, .ref A_th_rights, .int 1]), (A_p1, oO 6 [V_p1_letters, .ref A_p1_breaks, .ref A_p1_sizes, .ref A_p1_rules, .ref A_p1_hs, .int p1_words, .int p1_learnt]), (A_th_learning, oO 4 [.ref A_th_learning_index, .ref A_th_learning_levels, .ref A_th_learning_good, .ref A_th_learning_bad, .ref A_th_learning_digits]), (A_th_learning_levels, iA g 270 f3), (A_th_learning_index, oO 2 [V_th_learning_index_numbers, V_th_learning_index_codes, .ref A_th_learning_index_fits, .int th_learning_index_known, .ref A_th_learning_index_starts, V_th_learning_index_signs, V_th_learning_index_size]), (A_th_learning_digits, iA g 30 f4), (A_th_learning_good, iA g 270 f5), (A_th_learning_bad, iA g 270 f6), (A_p1_sizes, iA g 6 p1_sizes), (A_p1_breaks, iA g 6 p1_breaks), (A_p1_rules, iA g 5 p1_rules), (A_p1_hs, iA g 5 p1_hs), (A_th_learning_index_fits, iA g 270 th_learning_index_fits), (A_th_learning_index_starts, iA g 5 th_learning_index_starts), (A_th_rights, iA g 64 f7)]) C (by decide) rfl 0 rfl (Nat.le_of_ble_eq_true rfl) dX0_value_51 rfl ?_
      cases hm
      exact b_vret C dX0_value_54
    · refine b_aload_n C dX0_value_20 rfl 0 rfl ?_
      refine gfX0_15 C 0 rfl rfl dX0_value_21 ?_
      refine b_aload_n C dX0_value_24 rfl 1 rfl ?_
      refine b_iload_n C dX0_value_25 rfl 2 rfl ?_
      obtain ⟨f8, f9, f10, f11, hM, hm⟩ := bK4_some hm
      refine b_kV (w' := [(A_th, oO 0 [.ref A_th_learning, .ref A_th_rights, .int th_valued]), (A_p1, oO 6 [V_p1_letters, .ref A_p1_breaks, .ref A_p1_sizes, .ref A_p1_rules, .ref A_p1_hs, .int p1_words, .int p1_learnt]), (A_th_learning, oO 4 [.ref A_th_learning_index, .ref A_th_learning_levels, .ref A_th_learning_good, .ref A_th_learning_bad, .ref A_th_learning_digits]), (A_th_learning_levels, iA g 270 f8), (A_th_learning_index, oO 2 [V_th_learning_index_numbers, V_th_learning_index_codes, .ref A_th_learning_index_fits, .int th_learning_index_known, .ref A_th_learning_index_starts, V_th_learning_index_signs, V_th_learning_index_size]), (A_th_learning_digits, iA g 30 f9), (A_th_learning_good, iA g 270 f10), (A_th_learning_bad, iA g 270 f11), (A_p1_sizes, iA g 6 p1_sizes), (A_p1_breaks, iA g 6 p1_breaks), (A_p1_rules, iA g 5 p1_rules), (A_p1_hs, iA g 5 p1_hs), (A_th_learning_index_fits, iA g 270 th_learning_index_fits), (A_th_learning_index_starts, iA g 5 th_learning_index_starts), (A_th_rights, iA g 64 f7)]) (st := []) (st2 := []) C cv_X5_learnFrom tb760 (c_X5_learnFrom l g A_th_learning A_p1 A_th_learning_levels A_th_learning_index A_th_learning_digits A_th_learning_good A_th_learning_bad A_p1_sizes A_p1_breaks A_th_learning_index_fits A_p1_rules A_p1_hs A_th_learning_index_starts V_p1_letters V_th_learning_index_numbers V_th_learning_index_codes V_th_learning_index_signs V_th_learning_index_size x2 p1_words p1_learnt f3 th_learning_index_known f4 f5 f6 p1_sizes p1_breaks th_learning_index_fits p1_rules p1_hs th_learning_index_starts F (f8, f9, f10, f11) hM) rfl 2 rfl rfl ⟨rfl, rfl, by decide, by decide⟩ (Nat.le_of_ble_eq_true rfl) [2, 1, 3, 4, 5, 6, 7, 8, 9, 12, 10, 11, 13] rfl (by decide) rfl rfl dX0_value_26 [none, some 1, some 0, some 2, some 3, some 4, some 5, some 6, some 7, some 8, some 10, some 11, some 9, some 12, none] (by decide) ⟨rfl, ⟨⟨rfl, rfl⟩, ⟨⟨rfl, rfl⟩, ⟨⟨rfl, rfl⟩, ⟨⟨rfl, rfl⟩, ⟨⟨rfl, rfl⟩, ⟨⟨rfl, rfl⟩, ⟨⟨rfl, rfl⟩, ⟨⟨rfl, rfl⟩, ⟨⟨rfl, rfl⟩, ⟨⟨rfl, rfl⟩, ⟨⟨rfl, rfl⟩, ⟨⟨rfl, rfl⟩, ⟨⟨rfl, rfl⟩, ⟨rfl, trivial⟩⟩⟩⟩⟩⟩⟩⟩⟩⟩⟩⟩⟩⟩⟩ rfl ?_
      refine b_aload_n C dX0_value_29 rfl 0 rfl ?_
      refine gfX0_9 C 0 rfl rfl dX0_value_30 ?_
      refine b_iload_n C dX0_value_33 rfl 2 rfl ?_
      refine b_aload_n C dX0_value_34 rfl 0 rfl ?_
      refine gfX0_15 C 0 rfl rfl dX0_value_35 ?_
      refine b_aload_n C dX0_value_38 rfl 1 rfl ?_
      obtain ⟨r12, hM, hm⟩ := bK1_some hm
      refine b_kV (w' := [(A_th, oO 0 [.ref A_th_learning, .ref A_th_rights, .int th_valued]), (A_p1, oO 6 [V_p1_letters, .ref A_p1_breaks, .ref A_p1_sizes, .ref A_p1_rules, .ref A_p1_hs, .int p1_words, .int p1_learnt]), (A_th_learning, oO 4 [.ref A_th_learning_index, .ref A_th_learning_levels, .ref A_th_learning_good, .ref A_th_learning_bad, .ref A_th_learning_digits]), (A_th_learning_levels, iA g 270 f8), (A_th_learning_index, oO 2 [V_th_learning_index_numbers, V_th_learning_index_codes, .ref A_th_learning_index_fits, .int th_learning_index_known, .ref A_th_learning_index_starts, V_th_learning_index_signs, V_th_learning_index_size]), (A_th_learning_digits, iA g 30 f9), (A_th_learning_good, iA g 270 f10), (A_th_learning_bad, iA g 270 f11), (A_p1_sizes, iA g 6 p1_sizes), (A_p1_breaks, iA g 6 p1_breaks), (A_p1_rules, iA g 5 p1_rules), (A_p1_hs, iA g 5 p1_hs), (A_th_learning_index_fits, iA g 270 th_learning_index_fits), (A_th_learning_index_starts, iA g 5 th_learning_index_starts), (A_th_rights, iA g 64 f7)]) (st := [.int x2, .ref A_th_rights]) (st2 := [.int r12, .int x2, .ref A_th_rights]) C cv_X5_rightPlaces tb761 (c_X5_rightPlaces l g A_th_learning A_p1 A_p1_sizes A_th_learning_digits A_p1_breaks (.ref A_th_learning_index) (.ref A_th_learning_levels) (.ref A_th_learning_good) (.ref A_th_learning_bad) V_p1_letters (.ref A_p1_rules) (.ref A_p1_hs) (.int p1_learnt) p1_words p1_sizes f9 p1_breaks F r12 hM) rfl 2 rfl rfl ⟨rfl, rfl, by decide, by decide⟩ (Nat.le_of_ble_eq_true rfl) [2, 1, 8, 5, 9] rfl (by decide) rfl rfl dX0_value_39 [none, some 1, some 0, none, none, some 3, none, none, some 2, some 4, none, none, none, none, none] (by decide) ⟨rfl, ⟨⟨rfl, rfl⟩, ⟨⟨rfl, rfl⟩, ⟨rfl, ⟨rfl, ⟨⟨rfl, rfl⟩, ⟨rfl, ⟨rfl, ⟨⟨rfl, rfl⟩, ⟨⟨rfl, rfl⟩, ⟨rfl, ⟨rfl, ⟨rfl, ⟨rfl, ⟨rfl, trivial⟩⟩⟩⟩⟩⟩⟩⟩⟩⟩⟩⟩⟩⟩⟩ rfl ?_
      refine b_iast C 14 rfl dX0_value_42 hm (fun f13 hm => Wb.to (w' := [(A_th, oO 0 [.ref A_th_learning, .ref A_th_rights, .int th_valued]), (A_p1, oO 6 [V_p1_letters, .ref A_p1_breaks, .ref A_p1_sizes, .ref A_p1_rules, .ref A_p1_hs, .int p1_words, .int p1_learnt]), (A_th_learning, oO 4 [.ref A_th_learning_index, .ref A_th_learning_levels, .ref A_th_learning_good, .ref A_th_learning_bad, .ref A_th_learning_digits]), (A_th_learning_levels, iA g 270 f8), (A_th_learning_index, oO 2 [V_th_learning_index_numbers, V_th_learning_index_codes, .ref A_th_learning_index_fits, .int th_learning_index_known, .ref A_th_learning_index_starts, V_th_learning_index_signs, V_th_learning_index_size]), (A_th_learning_digits, iA g 30 f9), (A_th_learning_good, iA g 270 f10), (A_th_learning_bad, iA g 270 f11), (A_p1_sizes, iA g 6 p1_sizes), (A_p1_breaks, iA g 6 p1_breaks), (A_p1_rules, iA g 5 p1_rules), (A_p1_hs, iA g 5 p1_hs), (A_th_learning_index_fits, iA g 270 th_learning_index_fits), (A_th_learning_index_starts, iA g 5 th_learning_index_starts), (A_th_rights, iA g 64 f13)]) rfl ?_)
      refine b_iinc (v2 := x2 + 1) (lv' := [(2, .int (x2 + 1)), (0, .ref A_th), (1, .ref A_p1)]) C dX0_value_43 2 rfl rfl (by decide) rfl ?_
      refine b_goto (tgt := 10) C dX0_value_46 (by decide) ?_
      exact Wb.lv (hc1 (x2 + 1) f8 f9 f10 f11 f13 hm) [1, 2, 0] rfl
  · cases hm
    exact b_vret C dX0_value_7
/-- BreakLearner$Chances.commonDivisor(II)I -/
def m_X0_commonDivisor (F : Nat)  (n1 : Int32) (n2 : Int32)  : Option (Int32) :=
  wl3 (fun (x2 : Int32) (x3 : Int32) (x4 : Int32) c1 =>
    if 50 ≤ x4 then
      some x2
    else
      if x3 = 0 then
        some x2
      else
        nzK x3 (
        letK (irm x2 x3) (fun x5 =>
        c1 x3 x5 (x4 + 1)
        )
        )
    ) F n1 n2 0
abbrev rmX0_commonDivisor : Room := { frames := 0, cells := 0, slots := 0, locals := 0 }
set_option maxHeartbeats 4000000 in
set_option maxRecDepth 100000 in
theorem c_X0_commonDivisor (l : Launch) (g : Gl)  (n1 : Int32) (n2 : Int32)  (F : Nat) (u : Int32) (hm : m_X0_commonDivisor F n1 n2 = some u) : Ct l g yX0_commonDivisor cX0_commonDivisor 6 (some .int) rmX0_commonDivisor [.int n1, .int n2] [] (some (.int u)) [] := by
  refine ent (own := RX0) (lv := [(0, .int n1), (1, .int n2)]) (by decide) rfl (Nat.le_of_ble_eq_true rfl) rfl rfl ?_
  intro x C
  unfold m_X0_commonDivisor at hm
  refine b_iload_n C dX0_commonDivisor_0 rfl 0 rfl ?_
  refine b_istore_n (lv' := [(2, .int n1), (0, .int n1), (1, .int n2)]) C dX0_commonDivisor_1 rfl (by decide) rfl ?_
  refine b_iload_n C dX0_commonDivisor_2 rfl 2 rfl ?_
  refine b_istore_n (lv' := [(3, .int n2), (2, .int n1), (0, .int n1), (1, .int n2)]) C dX0_commonDivisor_3 rfl (by decide) rfl ?_
  refine b_iconst (v := 0) C dX0_commonDivisor_4 (by decide) ?_
  refine b_istore (lv' := [(4, .int 0), (3, .int n2), (2, .int n1), (0, .int n1), (1, .int n2)]) C dX0_commonDivisor_5 (by decide) rfl ?_
  refine Wb.lv (lv' := [(2, .int n1), (3, .int n2), (4, .int 0)]) ?_ [2, 1, 0] rfl
  refine wl3_W (Wg := fun (x2 : Int32) (x3 : Int32) (x4 : Int32) => Wb x [] [(2, .int x2), (3, .int x3), (4, .int x4)] 7 []) ?_ F n1 n2 0 hm
  intro x2 x3 x4 c1 hc1 hm
  refine b_iload C dX0_commonDivisor_7 2 rfl ?_
  refine b_bipush (v := 50) C dX0_commonDivisor_9 (by decide) ?_
  refine b_icmp_ge (tgt := 34) C dX0_commonDivisor_11 (by decide) hm (fun hm => ?_) (fun hm => ?_)
  · refine b_iload_n C dX0_commonDivisor_34 rfl 0 rfl ?_
    cases hm
    exact b_iret C dX0_commonDivisor_35
  · refine b_iload_n C dX0_commonDivisor_14 rfl 1 rfl ?_
    refine b_if_eq (tgt := 34) C dX0_commonDivisor_15 (by decide) hm (fun hm => ?_) (fun hm => ?_)
    · refine b_iload_n C dX0_commonDivisor_34 rfl 0 rfl ?_
      cases hm
      exact b_iret C dX0_commonDivisor_35
    · refine b_iload_n C dX0_commonDivisor_18 rfl 0 rfl ?_
      refine b_iload_n C dX0_commonDivisor_19 rfl 1 rfl ?_
      obtain ⟨hz, hm⟩ := nzK_some hm
      refine b_irem C dX0_commonDivisor_20 hz ?_
      refine b_topi hm (fun x5 hm => ?_)
      refine b_istore (lv' := [(5, .int x5), (2, .int x2), (3, .int x3), (4, .int x4)]) C dX0_commonDivisor_21 (by decide) rfl ?_
      refine b_iload_n C dX0_commonDivisor_23 rfl 2 rfl ?_
      refine b_istore_n (lv' := [(2, .int x3), (5, .int x5), (3, .int x3), (4, .int x4)]) C dX0_commonDivisor_24 rfl (by decide) rfl ?_
      refine b_iload C dX0_commonDivisor_25 1 rfl ?_
      refine b_istore_n (lv' := [(3, .int x5), (2, .int x3), (5, .int x5), (4, .int x4)]) C dX0_commonDivisor_27 rfl (by decide) rfl ?_
      refine b_iinc (v2 := x4 + 1) (lv' := [(4, .int (x4 + 1)), (3, .int x5), (2, .int x3), (5, .int x5)]) C dX0_commonDivisor_28 3 rfl rfl (by decide) rfl ?_
      refine b_goto (tgt := 7) C dX0_commonDivisor_31 (by decide) ?_
      exact Wb.lv (hc1 x3 x5 (x4 + 1) hm) [2, 1, 0] rfl
/-- BreakLearner$Chances.leastTerms(IIZ)I -/
def m_X0_leastTerms (F : Nat)  (n1 : Int32) (n2 : Int32) (n3 : Int32)  : Option (Int32) :=
  bK1 (m_X0_commonDivisor F (iabs n1) n2) (fun r1 =>
  if 1 ≤ r1 then
    jn1 (fun (y2 : Int32) =>
      nzK r1 (
      some (y2 / r1)
      )
      ) (fun k3 =>
      if n3 = 0 then
        k3 n2
      else
        k3 n1
      )
  else
    some 0
  )
abbrev rmX0_leastTerms : Room := { frames := 1, cells := 0, slots := 0, locals := 25 }
set_option maxHeartbeats 4000000 in
set_option maxRecDepth 100000 in
theorem c_X0_leastTerms (l : Launch) (g : Gl)  (n1 : Int32) (n2 : Int32) (n3 : Int32)  (F : Nat) (u : Int32) (hm : m_X0_leastTerms F n1 n2 n3 = some u) : Ct l g yX0_leastTerms cX0_leastTerms 4 (some .int) rmX0_leastTerms [.int n1, .int n2, .int n3] [] (some (.int u)) [] := by
  refine ent (own := RX0) (lv := [(0, .int n1), (1, .int n2), (2, .int n3)]) (by decide) rfl (Nat.le_of_ble_eq_true rfl) rfl rfl ?_
  intro x C
  unfold m_X0_leastTerms at hm
  refine b_iload_n C dX0_leastTerms_0 rfl 0 rfl ?_
  refine b_mabs C tb768 tb769 tb73 tb770 (by decide) (Nat.le_of_ble_eq_true rfl) dX0_leastTerms_1 ?_
  refine b_iload_n C dX0_leastTerms_4 rfl 1 rfl ?_
  obtain ⟨r1, hM, hm⟩ := bK1_some hm
  refine b_kS (w' := []) (st := []) (st2 := [.int r1]) C cs_X0_commonDivisor tb771 (c_X0_commonDivisor l g (iabs n1) n2 F r1 hM) rfl ⟨rfl, rfl, by decide, by decide⟩ (Nat.le_of_ble_eq_true rfl) [] rfl (by decide) rfl rfl dX0_leastTerms_5 [] (by decide) trivial rfl ?_
  refine b_istore_n (lv' := [(3, .int r1), (0, .int n1), (1, .int n2), (2, .int n3)]) C dX0_leastTerms_8 rfl (by decide) rfl ?_
  refine b_iload_n C dX0_leastTerms_9 rfl 0 rfl ?_
  refine b_iconst (v := 1) C dX0_leastTerms_10 (by decide) ?_
  refine b_icmp_ge (tgt := 16) C dX0_leastTerms_11 (by decide) hm (fun hm => ?_) (fun hm => ?_)
  · refine b_iload_n C dX0_leastTerms_16 rfl 3 rfl ?_
    obtain ⟨k3, hk3, hm⟩ := jn1_some hm
    have jk3 : ∀ (y2 : Int32), k3 y2 = some u → Wb x [] [(3, .int r1)] 25 [.int y2] := by
      intro y2 hm
      have hm := hk3 _ hm
      refine b_iload_n C dX0_leastTerms_25 rfl 0 rfl ?_
      obtain ⟨hz, hm⟩ := nzK_some hm
      refine b_idiv C dX0_leastTerms_26 hz ?_
      cases hm
      exact b_iret C dX0_leastTerms_27
    refine b_if_eq (tgt := 24) C dX0_leastTerms_17 (by decide) hm (fun hm => ?_) (fun hm => ?_)
    · refine b_iload_n C dX0_leastTerms_24 rfl 2 rfl ?_
      exact Wb.lv (jk3 n2 hm) [0] rfl
    · refine b_iload_n C dX0_leastTerms_20 rfl 1 rfl ?_
      refine b_goto (tgt := 25) C dX0_leastTerms_21 (by decide) ?_
      exact Wb.lv (jk3 n1 hm) [0] rfl
  · refine b_iconst (v := 0) C dX0_leastTerms_14 (by decide) ?_
    cases hm
    exact b_iret C dX0_leastTerms_15
