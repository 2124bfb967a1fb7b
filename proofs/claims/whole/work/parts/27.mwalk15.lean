/-- BreakLearnerModel.turn(II)I -/
def m_X11_turn (F : Nat)  (n1 : Int32) (n2 : Int32) (th_thrown : Int32) (th_doings : Int32) (th_page : (Nat → Int32)) (th_book : (Nat → Int32)) : Option (Int32 × Int32 × Int32 × (Nat → Int32) × (Nat → Int32)) :=
  bK1 (m_X11_noPlace F n1 n2 th_page) (fun r1 =>
  if r1 = 0 then
    bK2 (m_X11_note F th_doings th_book th_page) (fun z2 f3 =>
    rdK 22 th_page (7 + n1) (fun v4 =>
    stK 22 th_page (7 + n1) (v4 ^^^ (1 <<< (n2 &&& 31))) (fun f5 =>
    rdK 22 f5 (7 + n1) (fun v6 =>
    bK1 (m_X11_has F v6 n2) (fun r7 =>
    if r7 = 0 then
      some (0, 0, z2, f5, f3)
    else
      some (1, 0, z2, f5, f3)
    )
    )
    )
    )
    )
  else
    some ((-1), 0, th_doings, th_page, th_book)
  )
abbrev rmX11_turn : Room := { frames := 3, cells := 0, slots := 0, locals := 68 }
set_option maxHeartbeats 4000000 in
set_option maxRecDepth 100000 in
theorem c_X11_turn (l : Launch) (g : Gl) (A_th A_th_page A_th_book : Nat) (V_th_text V_th_textSize V_th_readPage V_th_trial V_th_kept V_th_isKept V_th_seen V_th_seenPlace V_th_seenDigit V_th_seenIs V_th_seed V_th_plan V_th_good V_th_bad V_th_signs V_th_signMany V_th_digits V_th_isNode V_th_base V_th_slot V_th_whichMany V_th_whichFirst V_th_value : Value)  (n1 : Int32) (n2 : Int32) (th_thrown : Int32) (th_doings : Int32) (th_page : (Nat → Int32)) (th_book : (Nat → Int32)) (F : Nat) (u : Int32 × Int32 × Int32 × (Nat → Int32) × (Nat → Int32)) (hm : m_X11_turn F n1 n2 th_thrown th_doings th_page th_book = some u) : Ct l g yX11_turn cX11_turn 3 (some .int) rmX11_turn [.ref A_th, .int n1, .int n2] [(A_th, oO 10 [.int th_thrown, V_th_text, V_th_textSize, V_th_readPage, .ref A_th_page, V_th_trial, .ref A_th_book, .int th_doings, V_th_kept, V_th_isKept, V_th_seen, V_th_seenPlace, V_th_seenDigit, V_th_seenIs, V_th_seed, V_th_plan, V_th_good, V_th_bad, V_th_signs, V_th_signMany, V_th_digits, V_th_isNode, V_th_base, V_th_slot, V_th_whichMany, V_th_whichFirst, V_th_value]), (A_th_page, iA g 22 th_page), (A_th_book, iA g 308 th_book)] (some (.int u.1)) [(A_th, oO 10 [.int u.2.1, V_th_text, V_th_textSize, V_th_readPage, .ref A_th_page, V_th_trial, .ref A_th_book, .int u.2.2.1, V_th_kept, V_th_isKept, V_th_seen, V_th_seenPlace, V_th_seenDigit, V_th_seenIs, V_th_seed, V_th_plan, V_th_good, V_th_bad, V_th_signs, V_th_signMany, V_th_digits, V_th_isNode, V_th_base, V_th_slot, V_th_whichMany, V_th_whichFirst, V_th_value]), (A_th_page, iA g 22 u.2.2.2.1), (A_th_book, iA g 308 u.2.2.2.2)] := by
  refine ent (own := RX11) (lv := [(0, .ref A_th), (1, .int n1), (2, .int n2)]) (by decide) rfl (Nat.le_of_ble_eq_true rfl) rfl rfl ?_
  intro x C
  unfold m_X11_turn at hm
  refine b_aload_n C dX11_turn_0 rfl 0 rfl ?_
  refine b_iconst (v := 0) C dX11_turn_1 (by decide) ?_
  refine pfX11_68 (w' := [(A_th, oO 10 [.int 0, V_th_text, V_th_textSize, V_th_readPage, .ref A_th_page, V_th_trial, .ref A_th_book, .int th_doings, V_th_kept, V_th_isKept, V_th_seen, V_th_seenPlace, V_th_seenDigit, V_th_seenIs, V_th_seed, V_th_plan, V_th_good, V_th_bad, V_th_signs, V_th_signMany, V_th_digits, V_th_isNode, V_th_base, V_th_slot, V_th_whichMany, V_th_whichFirst, V_th_value]), (A_th_page, iA g 22 th_page), (A_th_book, iA g 308 th_book)]) C rfl rfl 0 rfl (Nat.le_of_ble_eq_true rfl) dX11_turn_2 rfl ?_
  refine b_aload_n C dX11_turn_5 rfl 0 rfl ?_
  refine b_iload_n C dX11_turn_6 rfl 1 rfl ?_
  refine b_iload_n C dX11_turn_7 rfl 2 rfl ?_
  obtain ⟨r1, hM, hm⟩ := bK1_some hm
  refine b_kV (w' := [(A_th, oO 10 [.int 0, V_th_text, V_th_textSize, V_th_readPage, .ref A_th_page, V_th_trial, .ref A_th_book, .int th_doings, V_th_kept, V_th_isKept, V_th_seen, V_th_seenPlace, V_th_seenDigit, V_th_seenIs, V_th_seed, V_th_plan, V_th_good, V_th_bad, V_th_signs, V_th_signMany, V_th_digits, V_th_isNode, V_th_base, V_th_slot, V_th_whichMany, V_th_whichFirst, V_th_value]), (A_th_page, iA g 22 th_page), (A_th_book, iA g 308 th_book)]) (st := []) (st2 := [.int r1]) C cv_X11_noPlace tb1067 (c_X11_noPlace l g A_th A_th_page (.int 0) V_th_text V_th_textSize V_th_readPage V_th_trial (.ref A_th_book) (.int th_doings) V_th_kept V_th_isKept V_th_seen V_th_seenPlace V_th_seenDigit V_th_seenIs V_th_seed V_th_plan V_th_good V_th_bad V_th_signs V_th_signMany V_th_digits V_th_isNode V_th_base V_th_slot V_th_whichMany V_th_whichFirst V_th_value n1 n2 th_page F r1 hM) rfl 0 rfl rfl ⟨rfl, rfl, by decide, by decide⟩ (Nat.le_of_ble_eq_true rfl) [0, 1] rfl (by decide) rfl rfl dX11_turn_8 [some 0, some 1, none] (by decide) ⟨⟨rfl, rfl⟩, ⟨⟨rfl, rfl⟩, ⟨rfl, trivial⟩⟩⟩ rfl ?_
  refine b_if_eq (tgt := 16) C dX11_turn_11 (by decide) hm (fun hm => ?_) (fun hm => ?_)
  · refine b_aload_n C dX11_turn_16 rfl 0 rfl ?_
    obtain ⟨z2, f3, hM, hm⟩ := bK2_some hm
    refine b_kV (w' := [(A_th, oO 10 [.int 0, V_th_text, V_th_textSize, V_th_readPage, .ref A_th_page, V_th_trial, .ref A_th_book, .int z2, V_th_kept, V_th_isKept, V_th_seen, V_th_seenPlace, V_th_seenDigit, V_th_seenIs, V_th_seed, V_th_plan, V_th_good, V_th_bad, V_th_signs, V_th_signMany, V_th_digits, V_th_isNode, V_th_base, V_th_slot, V_th_whichMany, V_th_whichFirst, V_th_value]), (A_th_page, iA g 22 th_page), (A_th_book, iA g 308 f3)]) (st := []) (st2 := []) C cv_X11_note tb1093 (c_X11_note l g A_th A_th_book A_th_page (.int 0) V_th_text V_th_textSize V_th_readPage V_th_trial V_th_kept V_th_isKept V_th_seen V_th_seenPlace V_th_seenDigit V_th_seenIs V_th_seed V_th_plan V_th_good V_th_bad V_th_signs V_th_signMany V_th_digits V_th_isNode V_th_base V_th_slot V_th_whichMany V_th_whichFirst V_th_value th_doings th_book th_page F (z2, f3) hM) rfl 0 rfl rfl ⟨rfl, rfl, by decide, by decide⟩ (Nat.le_of_ble_eq_true rfl) [0, 2, 1] rfl (by decide) rfl rfl dX11_turn_17 [some 0, some 2, some 1] (by decide) ⟨⟨rfl, rfl⟩, ⟨⟨rfl, rfl⟩, ⟨⟨rfl, rfl⟩, trivial⟩⟩⟩ rfl ?_
    refine b_aload_n C dX11_turn_20 rfl 0 rfl ?_
    refine gfX11_16 C 0 rfl rfl dX11_turn_21 ?_
    refine b_bipush (v := 7) C dX11_turn_24 (by decide) ?_
    refine b_iload_n C dX11_turn_26 rfl 1 rfl ?_
    refine b_iadd C dX11_turn_27 ?_
    refine b_dup2 C dX11_turn_28 rfl rfl ?_
    refine b_iald C 1 rfl dX11_turn_29 hm (fun v4 hm => ?_)
    refine b_iconst (v := 1) C dX11_turn_30 (by decide) ?_
    refine b_iload_n C dX11_turn_31 rfl 2 rfl ?_
    refine b_ishl C dX11_turn_32 ?_
    refine b_ixor C dX11_turn_33 ?_
    refine b_iast C 1 rfl dX11_turn_34 hm (fun f5 hm => Wb.to (w' := [(A_th, oO 10 [.int 0, V_th_text, V_th_textSize, V_th_readPage, .ref A_th_page, V_th_trial, .ref A_th_book, .int z2, V_th_kept, V_th_isKept, V_th_seen, V_th_seenPlace, V_th_seenDigit, V_th_seenIs, V_th_seed, V_th_plan, V_th_good, V_th_bad, V_th_signs, V_th_signMany, V_th_digits, V_th_isNode, V_th_base, V_th_slot, V_th_whichMany, V_th_whichFirst, V_th_value]), (A_th_page, iA g 22 f5), (A_th_book, iA g 308 f3)]) rfl ?_)
    refine b_aload_n C dX11_turn_35 rfl 0 rfl ?_
    refine gfX11_16 C 0 rfl rfl dX11_turn_36 ?_
    refine b_bipush (v := 7) C dX11_turn_39 (by decide) ?_
    refine b_iload_n C dX11_turn_41 rfl 1 rfl ?_
    refine b_iadd C dX11_turn_42 ?_
    refine b_iald C 1 rfl dX11_turn_43 hm (fun v6 hm => ?_)
    refine b_iload_n C dX11_turn_44 rfl 2 rfl ?_
    obtain ⟨r7, hM, hm⟩ := bK1_some hm
    refine b_kS (w' := [(A_th, oO 10 [.int 0, V_th_text, V_th_textSize, V_th_readPage, .ref A_th_page, V_th_trial, .ref A_th_book, .int z2, V_th_kept, V_th_isKept, V_th_seen, V_th_seenPlace, V_th_seenDigit, V_th_seenIs, V_th_seed, V_th_plan, V_th_good, V_th_bad, V_th_signs, V_th_signMany, V_th_digits, V_th_isNode, V_th_base, V_th_slot, V_th_whichMany, V_th_whichFirst, V_th_value]), (A_th_page, iA g 22 f5), (A_th_book, iA g 308 f3)]) (st := []) (st2 := [.int r7]) C cs_X11_has tb998 (c_X11_has l g v6 n2 F r7 hM) rfl ⟨rfl, rfl, by decide, by decide⟩ (Nat.le_of_ble_eq_true rfl) [] rfl (by decide) rfl rfl dX11_turn_45 [none, none, none] (by decide) ⟨rfl, ⟨rfl, ⟨rfl, trivial⟩⟩⟩ rfl ?_
    refine b_if_eq (tgt := 55) C dX11_turn_48 (by decide) hm (fun hm => ?_) (fun hm => ?_)
    · refine b_iconst (v := 0) C dX11_turn_55 (by decide) ?_
      cases hm
      exact b_iret C dX11_turn_56
    · refine b_iconst (v := 1) C dX11_turn_51 (by decide) ?_
      refine b_goto (tgt := 56) C dX11_turn_52 (by decide) ?_
      cases hm
      exact b_iret C dX11_turn_56
  · refine b_iconst (v := (-1)) C dX11_turn_14 (by decide) ?_
    cases hm
    exact b_iret C dX11_turn_15
/-- BreakLearnerModel.rule(III)I -/
def m_X11_rule (F : Nat)  (n1 : Int32) (n2 : Int32) (n3 : Int32) (th_thrown : Int32) (th_doings : Int32) (th_signMany : Int32) (th_book : (Nat → Int32)) (th_page : (Nat → Int32)) (th_plan : (Nat → Int32)) (th_signs : (Nat → Int32)) (th_digits : (Nat → Int32)) (th_good : (Nat → Int32)) (th_bad : (Nat → Int32)) : Option (Int32 × Int32 × Int32 × Int32 × (Nat → Int32) × (Nat → Int32) × (Nat → Int32) × (Nat → Int32) × (Nat → Int32) × (Nat → Int32) × (Nat → Int32)) :=
  bK1 (m_X11_in F n1.toInt64 1 4) (fun r1 =>
  if r1 = 0 then
    some ((-1), 0, th_doings, th_signMany, th_book, th_page, th_plan, th_signs, th_digits, th_good, th_bad)
  else
    bK1 (m_X11_in F n2.toInt64 0 2) (fun r2 =>
    if r2 = 0 then
      some ((-2), 0, th_doings, th_signMany, th_book, th_page, th_plan, th_signs, th_digits, th_good, th_bad)
    else
      bK1 (m_X11_in F n3.toInt64 1 9) (fun r3 =>
      if r3 = 0 then
        some ((-2), 0, th_doings, th_signMany, th_book, th_page, th_plan, th_signs, th_digits, th_good, th_bad)
      else
        bK2 (m_X11_note F th_doings th_book th_page) (fun z4 f5 =>
        stK 22 th_page ((13 + n1) - 1) n2 (fun f6 =>
        stK 22 f6 ((17 + n1) - 1) n3 (fun f7 =>
        bK6 (m_X11_learnAll F th_signMany f7 th_plan th_signs th_digits th_good th_bad) (fun z8 f9 f10 f11 f12 f13 =>
        bK1 (m_X11_rightOfAll F f7 f11) (fun r14 =>
        some (r14, 0, z4, z8, f5, f7, f9, f10, f11, f12, f13)
        )
        )
        )
        )
        )
      )
    )
  )
abbrev rmX11_rule : Room := { frames := 6, cells := 0, slots := 0, locals := 149 }
set_option maxHeartbeats 4000000 in
set_option maxRecDepth 100000 in
theorem c_X11_rule (l : Launch) (g : Gl) (A_th A_th_book A_th_page A_th_plan A_th_signs A_th_digits A_th_good A_th_bad : Nat) (V_th_text V_th_textSize V_th_readPage V_th_trial V_th_kept V_th_isKept V_th_seen V_th_seenPlace V_th_seenDigit V_th_seenIs V_th_seed V_th_isNode V_th_base V_th_slot V_th_whichMany V_th_whichFirst V_th_value : Value)  (n1 : Int32) (n2 : Int32) (n3 : Int32) (th_thrown : Int32) (th_doings : Int32) (th_signMany : Int32) (th_book : (Nat → Int32)) (th_page : (Nat → Int32)) (th_plan : (Nat → Int32)) (th_signs : (Nat → Int32)) (th_digits : (Nat → Int32)) (th_good : (Nat → Int32)) (th_bad : (Nat → Int32)) (F : Nat) (u : Int32 × Int32 × Int32 × Int32 × (Nat → Int32) × (Nat → Int32) × (Nat → Int32) × (Nat → Int32) × (Nat → Int32) × (Nat → Int32) × (Nat → Int32)) (hm : m_X11_rule F n1 n2 n3 th_thrown th_doings th_signMany th_book th_page th_plan th_signs th_digits th_good th_bad = some u) : Ct l g yX11_rule cX11_rule 4 (some .int) rmX11_rule [.ref A_th, .int n1, .int n2, .int n3] [(A_th, oO 10 [.int th_thrown, V_th_text, V_th_textSize, V_th_readPage, .ref A_th_page, V_th_trial, .ref A_th_book, .int th_doings, V_th_kept, V_th_isKept, V_th_seen, V_th_seenPlace, V_th_seenDigit, V_th_seenIs, V_th_seed, .ref A_th_plan, .ref A_th_good, .ref A_th_bad, .ref A_th_signs, .int th_signMany, .ref A_th_digits, V_th_isNode, V_th_base, V_th_slot, V_th_whichMany, V_th_whichFirst, V_th_value]), (A_th_book, iA g 308 th_book), (A_th_page, iA g 22 th_page), (A_th_plan, iA g 1372 th_plan), (A_th_signs, iA g 8 th_signs), (A_th_digits, iA g 36 th_digits), (A_th_good, iA g 1372 th_good), (A_th_bad, iA g 1372 th_bad)] (some (.int u.1)) [(A_th, oO 10 [.int u.2.1, V_th_text, V_th_textSize, V_th_readPage, .ref A_th_page, V_th_trial, .ref A_th_book, .int u.2.2.1, V_th_kept, V_th_isKept, V_th_seen, V_th_seenPlace, V_th_seenDigit, V_th_seenIs, V_th_seed, .ref A_th_plan, .ref A_th_good, .ref A_th_bad, .ref A_th_signs, .int u.2.2.2.1, .ref A_th_digits, V_th_isNode, V_th_base, V_th_slot, V_th_whichMany, V_th_whichFirst, V_th_value]), (A_th_book, iA g 308 u.2.2.2.2.1), (A_th_page, iA g 22 u.2.2.2.2.2.1), (A_th_plan, iA g 1372 u.2.2.2.2.2.2.1), (A_th_signs, iA g 8 u.2.2.2.2.2.2.2.1), (A_th_digits, iA g 36 u.2.2.2.2.2.2.2.2.1), (A_th_good, iA g 1372 u.2.2.2.2.2.2.2.2.2.1), (A_th_bad, iA g 1372 u.2.2.2.2.2.2.2.2.2.2)] := by
  refine ent (own := RX11) (lv := [(0, .ref A_th), (1, .int n1), (2, .int n2), (3, .int n3)]) (by decide) rfl (Nat.le_of_ble_eq_true rfl) rfl rfl ?_
  intro x C
  unfold m_X11_rule at hm
  refine b_aload_n C dX11_rule_0 rfl 0 rfl ?_
  refine b_iconst (v := 0) C dX11_rule_1 (by decide) ?_
  refine pfX11_68 (w' := [(A_th, oO 10 [.int 0, V_th_text, V_th_textSize, V_th_readPage, .ref A_th_page, V_th_trial, .ref A_th_book, .int th_doings, V_th_kept, V_th_isKept, V_th_seen, V_th_seenPlace, V_th_seenDigit, V_th_seenIs, V_th_seed, .ref A_th_plan, .ref A_th_good, .ref A_th_bad, .ref A_th_signs, .int th_signMany, .ref A_th_digits, V_th_isNode, V_th_base, V_th_slot, V_th_whichMany, V_th_whichFirst, V_th_value]), (A_th_book, iA g 308 th_book), (A_th_page, iA g 22 th_page), (A_th_plan, iA g 1372 th_plan), (A_th_signs, iA g 8 th_signs), (A_th_digits, iA g 36 th_digits), (A_th_good, iA g 1372 th_good), (A_th_bad, iA g 1372 th_bad)]) C rfl rfl 0 rfl (Nat.le_of_ble_eq_true rfl) dX11_rule_2 rfl ?_
  refine b_iload_n C dX11_rule_5 rfl 1 rfl ?_
  refine b_i2l C dX11_rule_6 ?_
  refine b_lconst (v := 1) C dX11_rule_7 (by decide) ?_
  refine b_ldc2 C tb1075 dX11_rule_8 ?_
  obtain ⟨r1, hM, hm⟩ := bK1_some hm
  refine b_kS (w' := [(A_th, oO 10 [.int 0, V_th_text, V_th_textSize, V_th_readPage, .ref A_th_page, V_th_trial, .ref A_th_book, .int th_doings, V_th_kept, V_th_isKept, V_th_seen, V_th_seenPlace, V_th_seenDigit, V_th_seenIs, V_th_seed, .ref A_th_plan, .ref A_th_good, .ref A_th_bad, .ref A_th_signs, .int th_signMany, .ref A_th_digits, V_th_isNode, V_th_base, V_th_slot, V_th_whichMany, V_th_whichFirst, V_th_value]), (A_th_book, iA g 308 th_book), (A_th_page, iA g 22 th_page), (A_th_plan, iA g 1372 th_plan), (A_th_signs, iA g 8 th_signs), (A_th_digits, iA g 36 th_digits), (A_th_good, iA g 1372 th_good), (A_th_bad, iA g 1372 th_bad)]) (st := []) (st2 := [.int r1]) C cs_X11_in tb937 (c_X11_in l g n1.toInt64 1 4 F r1 hM) rfl ⟨rfl, rfl, by decide, by decide⟩ (Nat.le_of_ble_eq_true rfl) [] rfl (by decide) rfl rfl dX11_rule_11 [none, none, none, none, none, none, none, none] (by decide) ⟨rfl, ⟨rfl, ⟨rfl, ⟨rfl, ⟨rfl, ⟨rfl, ⟨rfl, ⟨rfl, trivial⟩⟩⟩⟩⟩⟩⟩⟩ rfl ?_
  refine b_if_ne (tgt := 19) C dX11_rule_14 (by decide) hm (fun hm => ?_) (fun hm => ?_)
  · refine b_iload_n C dX11_rule_19 rfl 2 rfl ?_
    refine b_i2l C dX11_rule_20 ?_
    refine b_lconst (v := 0) C dX11_rule_21 (by decide) ?_
    refine b_ldc2 C tb1109 dX11_rule_22 ?_
    obtain ⟨r2, hM, hm⟩ := bK1_some hm
    refine b_kS (w' := [(A_th, oO 10 [.int 0, V_th_text, V_th_textSize, V_th_readPage, .ref A_th_page, V_th_trial, .ref A_th_book, .int th_doings, V_th_kept, V_th_isKept, V_th_seen, V_th_seenPlace, V_th_seenDigit, V_th_seenIs, V_th_seed, .ref A_th_plan, .ref A_th_good, .ref A_th_bad, .ref A_th_signs, .int th_signMany, .ref A_th_digits, V_th_isNode, V_th_base, V_th_slot, V_th_whichMany, V_th_whichFirst, V_th_value]), (A_th_book, iA g 308 th_book), (A_th_page, iA g 22 th_page), (A_th_plan, iA g 1372 th_plan), (A_th_signs, iA g 8 th_signs), (A_th_digits, iA g 36 th_digits), (A_th_good, iA g 1372 th_good), (A_th_bad, iA g 1372 th_bad)]) (st := []) (st2 := [.int r2]) C cs_X11_in tb937 (c_X11_in l g n2.toInt64 0 2 F r2 hM) rfl ⟨rfl, rfl, by decide, by decide⟩ (Nat.le_of_ble_eq_true rfl) [] rfl (by decide) rfl rfl dX11_rule_25 [none, none, none, none, none, none, none, none] (by decide) ⟨rfl, ⟨rfl, ⟨rfl, ⟨rfl, ⟨rfl, ⟨rfl, ⟨rfl, ⟨rfl, trivial⟩⟩⟩⟩⟩⟩⟩⟩ rfl ?_
    refine b_if_eq (tgt := 43) C dX11_rule_28 (by decide) hm (fun hm => ?_) (fun hm => ?_)
    · refine b_bipush (v := (-2)) C dX11_rule_43 (by decide) ?_
      cases hm
      exact b_iret C dX11_rule_45
    · refine b_iload_n C dX11_rule_31 rfl 3 rfl ?_
      refine b_i2l C dX11_rule_32 ?_
      refine b_lconst (v := 1) C dX11_rule_33 (by decide) ?_
      refine b_ldc2 C tb1110 dX11_rule_34 ?_
      obtain ⟨r3, hM, hm⟩ := bK1_some hm
      refine b_kS (w' := [(A_th, oO 10 [.int 0, V_th_text, V_th_textSize, V_th_readPage, .ref A_th_page, V_th_trial, .ref A_th_book, .int th_doings, V_th_kept, V_th_isKept, V_th_seen, V_th_seenPlace, V_th_seenDigit, V_th_seenIs, V_th_seed, .ref A_th_plan, .ref A_th_good, .ref A_th_bad, .ref A_th_signs, .int th_signMany, .ref A_th_digits, V_th_isNode, V_th_base, V_th_slot, V_th_whichMany, V_th_whichFirst, V_th_value]), (A_th_book, iA g 308 th_book), (A_th_page, iA g 22 th_page), (A_th_plan, iA g 1372 th_plan), (A_th_signs, iA g 8 th_signs), (A_th_digits, iA g 36 th_digits), (A_th_good, iA g 1372 th_good), (A_th_bad, iA g 1372 th_bad)]) (st := []) (st2 := [.int r3]) C cs_X11_in tb937 (c_X11_in l g n3.toInt64 1 9 F r3 hM) rfl ⟨rfl, rfl, by decide, by decide⟩ (Nat.le_of_ble_eq_true rfl) [] rfl (by decide) rfl rfl dX11_rule_37 [none, none, none, none, none, none, none, none] (by decide) ⟨rfl, ⟨rfl, ⟨rfl, ⟨rfl, ⟨rfl, ⟨rfl, ⟨rfl, ⟨rfl, trivial⟩⟩⟩⟩⟩⟩⟩⟩ rfl ?_
      refine b_if_ne (tgt := 46) C dX11_rule_40 (by decide) hm (fun hm => ?_) (fun hm => ?_)
      · refine b_aload_n C dX11_rule_46 rfl 0 rfl ?_
        obtain ⟨z4, f5, hM, hm⟩ := bK2_some hm
        refine b_kV (w' := [(A_th, oO 10 [.int 0, V_th_text, V_th_textSize, V_th_readPage, .ref A_th_page, V_th_trial, .ref A_th_book, .int z4, V_th_kept, V_th_isKept, V_th_seen, V_th_seenPlace, V_th_seenDigit, V_th_seenIs, V_th_seed, .ref A_th_plan, .ref A_th_good, .ref A_th_bad, .ref A_th_signs, .int th_signMany, .ref A_th_digits, V_th_isNode, V_th_base, V_th_slot, V_th_whichMany, V_th_whichFirst, V_th_value]), (A_th_book, iA g 308 f5), (A_th_page, iA g 22 th_page), (A_th_plan, iA g 1372 th_plan), (A_th_signs, iA g 8 th_signs), (A_th_digits, iA g 36 th_digits), (A_th_good, iA g 1372 th_good), (A_th_bad, iA g 1372 th_bad)]) (st := []) (st2 := []) C cv_X11_note tb1093 (c_X11_note l g A_th A_th_book A_th_page (.int 0) V_th_text V_th_textSize V_th_readPage V_th_trial V_th_kept V_th_isKept V_th_seen V_th_seenPlace V_th_seenDigit V_th_seenIs V_th_seed (.ref A_th_plan) (.ref A_th_good) (.ref A_th_bad) (.ref A_th_signs) (.int th_signMany) (.ref A_th_digits) V_th_isNode V_th_base V_th_slot V_th_whichMany V_th_whichFirst V_th_value th_doings th_book th_page F (z4, f5) hM) rfl 0 rfl rfl ⟨rfl, rfl, by decide, by decide⟩ (Nat.le_of_ble_eq_true rfl) [0, 1, 2] rfl (by decide) rfl rfl dX11_rule_47 [some 0, some 1, some 2, none, none, none, none, none] (by decide) ⟨⟨rfl, rfl⟩, ⟨⟨rfl, rfl⟩, ⟨⟨rfl, rfl⟩, ⟨rfl, ⟨rfl, ⟨rfl, ⟨rfl, ⟨rfl, trivial⟩⟩⟩⟩⟩⟩⟩⟩ rfl ?_
        refine b_aload_n C dX11_rule_50 rfl 0 rfl ?_
        refine gfX11_16 C 0 rfl rfl dX11_rule_51 ?_
        refine b_bipush (v := 13) C dX11_rule_54 (by decide) ?_
        refine b_iload_n C dX11_rule_56 rfl 1 rfl ?_
        refine b_iadd C dX11_rule_57 ?_
        refine b_iconst (v := 1) C dX11_rule_58 (by decide) ?_
        refine b_isub C dX11_rule_59 ?_
        refine b_iload_n C dX11_rule_60 rfl 2 rfl ?_
        refine b_iast C 2 rfl dX11_rule_61 hm (fun f6 hm => Wb.to (w' := [(A_th, oO 10 [.int 0, V_th_text, V_th_textSize, V_th_readPage, .ref A_th_page, V_th_trial, .ref A_th_book, .int z4, V_th_kept, V_th_isKept, V_th_seen, V_th_seenPlace, V_th_seenDigit, V_th_seenIs, V_th_seed, .ref A_th_plan, .ref A_th_good, .ref A_th_bad, .ref A_th_signs, .int th_signMany, .ref A_th_digits, V_th_isNode, V_th_base, V_th_slot, V_th_whichMany, V_th_whichFirst, V_th_value]), (A_th_book, iA g 308 f5), (A_th_page, iA g 22 f6), (A_th_plan, iA g 1372 th_plan), (A_th_signs, iA g 8 th_signs), (A_th_digits, iA g 36 th_digits), (A_th_good, iA g 1372 th_good), (A_th_bad, iA g 1372 th_bad)]) rfl ?_)
        refine b_aload_n C dX11_rule_62 rfl 0 rfl ?_
        refine gfX11_16 C 0 rfl rfl dX11_rule_63 ?_
        refine b_bipush (v := 17) C dX11_rule_66 (by decide) ?_
        refine b_iload_n C dX11_rule_68 rfl 1 rfl ?_
        refine b_iadd C dX11_rule_69 ?_
        refine b_iconst (v := 1) C dX11_rule_70 (by decide) ?_
        refine b_isub C dX11_rule_71 ?_
        refine b_iload_n C dX11_rule_72 rfl 3 rfl ?_
        refine b_iast C 2 rfl dX11_rule_73 hm (fun f7 hm => Wb.to (w' := [(A_th, oO 10 [.int 0, V_th_text, V_th_textSize, V_th_readPage, .ref A_th_page, V_th_trial, .ref A_th_book, .int z4, V_th_kept, V_th_isKept, V_th_seen, V_th_seenPlace, V_th_seenDigit, V_th_seenIs, V_th_seed, .ref A_th_plan, .ref A_th_good, .ref A_th_bad, .ref A_th_signs, .int th_signMany, .ref A_th_digits, V_th_isNode, V_th_base, V_th_slot, V_th_whichMany, V_th_whichFirst, V_th_value]), (A_th_book, iA g 308 f5), (A_th_page, iA g 22 f7), (A_th_plan, iA g 1372 th_plan), (A_th_signs, iA g 8 th_signs), (A_th_digits, iA g 36 th_digits), (A_th_good, iA g 1372 th_good), (A_th_bad, iA g 1372 th_bad)]) rfl ?_)
        refine b_aload_n C dX11_rule_74 rfl 0 rfl ?_
        refine b_aload_n C dX11_rule_75 rfl 0 rfl ?_
        refine gfX11_16 C 0 rfl rfl dX11_rule_76 ?_
        obtain ⟨z8, f9, f10, f11, f12, f13, hM, hm⟩ := bK6_some hm
        refine b_kV (w' := [(A_th, oO 10 [.int 0, V_th_text, V_th_textSize, V_th_readPage, .ref A_th_page, V_th_trial, .ref A_th_book, .int z4, V_th_kept, V_th_isKept, V_th_seen, V_th_seenPlace, V_th_seenDigit, V_th_seenIs, V_th_seed, .ref A_th_plan, .ref A_th_good, .ref A_th_bad, .ref A_th_signs, .int z8, .ref A_th_digits, V_th_isNode, V_th_base, V_th_slot, V_th_whichMany, V_th_whichFirst, V_th_value]), (A_th_book, iA g 308 f5), (A_th_page, iA g 22 f7), (A_th_plan, iA g 1372 f9), (A_th_signs, iA g 8 f10), (A_th_digits, iA g 36 f11), (A_th_good, iA g 1372 f12), (A_th_bad, iA g 1372 f13)]) (st := []) (st2 := []) C cv_X11_learnAll tb963 (c_X11_learnAll l g A_th A_th_page A_th_plan A_th_signs A_th_digits A_th_good A_th_bad (.int 0) V_th_text V_th_textSize V_th_readPage (.ref A_th_page) V_th_trial (.ref A_th_book) (.int z4) V_th_kept V_th_isKept V_th_seen V_th_seenPlace V_th_seenDigit V_th_seenIs V_th_seed V_th_isNode V_th_base V_th_slot V_th_whichMany V_th_whichFirst V_th_value th_signMany f7 th_plan th_signs th_digits th_good th_bad F (z8, f9, f10, f11, f12, f13) hM) rfl 0 rfl rfl ⟨rfl, rfl, by decide, by decide⟩ (Nat.le_of_ble_eq_true rfl) [0, 2, 3, 4, 5, 6, 7] rfl (by decide) rfl rfl dX11_rule_79 [some 0, none, some 1, some 2, some 3, some 4, some 5, some 6] (by decide) ⟨⟨rfl, rfl⟩, ⟨rfl, ⟨⟨rfl, rfl⟩, ⟨⟨rfl, rfl⟩, ⟨⟨rfl, rfl⟩, ⟨⟨rfl, rfl⟩, ⟨⟨rfl, rfl⟩, ⟨⟨rfl, rfl⟩, trivial⟩⟩⟩⟩⟩⟩⟩⟩ rfl ?_
        refine b_aload_n C dX11_rule_82 rfl 0 rfl ?_
        refine b_aload_n C dX11_rule_83 rfl 0 rfl ?_
        refine gfX11_16 C 0 rfl rfl dX11_rule_84 ?_
        obtain ⟨r14, hM, hm⟩ := bK1_some hm
        refine b_kV (w' := [(A_th, oO 10 [.int 0, V_th_text, V_th_textSize, V_th_readPage, .ref A_th_page, V_th_trial, .ref A_th_book, .int z4, V_th_kept, V_th_isKept, V_th_seen, V_th_seenPlace, V_th_seenDigit, V_th_seenIs, V_th_seed, .ref A_th_plan, .ref A_th_good, .ref A_th_bad, .ref A_th_signs, .int z8, .ref A_th_digits, V_th_isNode, V_th_base, V_th_slot, V_th_whichMany, V_th_whichFirst, V_th_value]), (A_th_book, iA g 308 f5), (A_th_page, iA g 22 f7), (A_th_plan, iA g 1372 f9), (A_th_signs, iA g 8 f10), (A_th_digits, iA g 36 f11), (A_th_good, iA g 1372 f12), (A_th_bad, iA g 1372 f13)]) (st := []) (st2 := [.int r14]) C cv_X11_rightOfAll tb1027 (c_X11_rightOfAll l g A_th A_th_page A_th_digits (.int 0) V_th_text V_th_textSize V_th_readPage (.ref A_th_page) V_th_trial (.ref A_th_book) (.int z4) V_th_kept V_th_isKept V_th_seen V_th_seenPlace V_th_seenDigit V_th_seenIs V_th_seed (.ref A_th_plan) (.ref A_th_good) (.ref A_th_bad) (.ref A_th_signs) (.int z8) V_th_isNode V_th_base V_th_slot V_th_whichMany V_th_whichFirst V_th_value f7 f11 F r14 hM) rfl 0 rfl rfl ⟨rfl, rfl, by decide, by decide⟩ (Nat.le_of_ble_eq_true rfl) [0, 2, 5] rfl (by decide) rfl rfl dX11_rule_87 [some 0, none, some 1, none, none, some 2, none, none] (by decide) ⟨⟨rfl, rfl⟩, ⟨rfl, ⟨⟨rfl, rfl⟩, ⟨rfl, ⟨rfl, ⟨⟨rfl, rfl⟩, ⟨rfl, ⟨rfl, trivial⟩⟩⟩⟩⟩⟩⟩⟩ rfl ?_
        cases hm
        exact b_iret C dX11_rule_90
      · refine b_bipush (v := (-2)) C dX11_rule_43 (by decide) ?_
        cases hm
        exact b_iret C dX11_rule_45
  · refine b_iconst (v := (-1)) C dX11_rule_17 (by decide) ?_
    cases hm
    exact b_iret C dX11_rule_18
/-- BreakLearnerModel.study()I -/
def m_X11_study (F : Nat)   (th_thrown : Int32) (th_doings : Int32) (th_signMany : Int32) (th_page : (Nat → Int32)) (th_book : (Nat → Int32)) (th_plan : (Nat → Int32)) (th_signs : (Nat → Int32)) (th_digits : (Nat → Int32)) (th_good : (Nat → Int32)) (th_bad : (Nat → Int32)) : Option (Int32 × Int32 × Int32 × Int32 × (Nat → Int32) × (Nat → Int32) × (Nat → Int32) × (Nat → Int32) × (Nat → Int32) × (Nat → Int32) × (Nat → Int32)) :=
  rdK 22 th_page 21 (fun v1 =>
  if v1 = 4 then
    some ((-4), 0, th_doings, th_signMany, th_page, th_book, th_plan, th_signs, th_digits, th_good, th_bad)
  else
    bK2 (m_X11_note F th_doings th_book th_page) (fun z2 f3 =>
    rdK 22 th_page 21 (fun v4 =>
    stK 22 th_page 21 (v4 + 1) (fun f5 =>
    bK6 (m_X11_learnAll F th_signMany f5 th_plan th_signs th_digits th_good th_bad) (fun z6 f7 f8 f9 f10 f11 =>
    rdK 22 f5 21 (fun v12 =>
    bK1 (m_X11_patternsOf F v12 f7) (fun r13 =>
    some (r13, 0, z2, z6, f5, f3, f7, f8, f9, f10, f11)
    )
    )
    )
    )
    )
    )
  )
abbrev rmX11_study : Room := { frames := 6, cells := 0, slots := 0, locals := 149 }
set_option maxHeartbeats 4000000 in
set_option maxRecDepth 100000 in
theorem c_X11_study (l : Launch) (g : Gl) (A_th A_th_page A_th_book A_th_plan A_th_signs A_th_digits A_th_good A_th_bad : Nat) (V_th_text V_th_textSize V_th_readPage V_th_trial V_th_kept V_th_isKept V_th_seen V_th_seenPlace V_th_seenDigit V_th_seenIs V_th_seed V_th_isNode V_th_base V_th_slot V_th_whichMany V_th_whichFirst V_th_value : Value)   (th_thrown : Int32) (th_doings : Int32) (th_signMany : Int32) (th_page : (Nat → Int32)) (th_book : (Nat → Int32)) (th_plan : (Nat → Int32)) (th_signs : (Nat → Int32)) (th_digits : (Nat → Int32)) (th_good : (Nat → Int32)) (th_bad : (Nat → Int32)) (F : Nat) (u : Int32 × Int32 × Int32 × Int32 × (Nat → Int32) × (Nat → Int32) × (Nat → Int32) × (Nat → Int32) × (Nat → Int32) × (Nat → Int32) × (Nat → Int32)) (hm : m_X11_study F th_thrown th_doings th_signMany th_page th_book th_plan th_signs th_digits th_good th_bad = some u) : Ct l g yX11_study cX11_study 1 (some .int) rmX11_study [.ref A_th] [(A_th, oO 10 [.int th_thrown, V_th_text, V_th_textSize, V_th_readPage, .ref A_th_page, V_th_trial, .ref A_th_book, .int th_doings, V_th_kept, V_th_isKept, V_th_seen, V_th_seenPlace, V_th_seenDigit, V_th_seenIs, V_th_seed, .ref A_th_plan, .ref A_th_good, .ref A_th_bad, .ref A_th_signs, .int th_signMany, .ref A_th_digits, V_th_isNode, V_th_base, V_th_slot, V_th_whichMany, V_th_whichFirst, V_th_value]), (A_th_page, iA g 22 th_page), (A_th_book, iA g 308 th_book), (A_th_plan, iA g 1372 th_plan), (A_th_signs, iA g 8 th_signs), (A_th_digits, iA g 36 th_digits), (A_th_good, iA g 1372 th_good), (A_th_bad, iA g 1372 th_bad)] (some (.int u.1)) [(A_th, oO 10 [.int u.2.1, V_th_text, V_th_textSize, V_th_readPage, .ref A_th_page, V_th_trial, .ref A_th_book, .int u.2.2.1, V_th_kept, V_th_isKept, V_th_seen, V_th_seenPlace, V_th_seenDigit, V_th_seenIs, V_th_seed, .ref A_th_plan, .ref A_th_good, .ref A_th_bad, .ref A_th_signs, .int u.2.2.2.1, .ref A_th_digits, V_th_isNode, V_th_base, V_th_slot, V_th_whichMany, V_th_whichFirst, V_th_value]), (A_th_page, iA g 22 u.2.2.2.2.1), (A_th_book, iA g 308 u.2.2.2.2.2.1), (A_th_plan, iA g 1372 u.2.2.2.2.2.2.1), (A_th_signs, iA g 8 u.2.2.2.2.2.2.2.1), (A_th_digits, iA g 36 u.2.2.2.2.2.2.2.2.1), (A_th_good, iA g 1372 u.2.2.2.2.2.2.2.2.2.1), (A_th_bad, iA g 1372 u.2.2.2.2.2.2.2.2.2.2)] := by
  refine ent (own := RX11) (lv := [(0, .ref A_th)]) (by decide) rfl (Nat.le_of_ble_eq_true rfl) rfl rfl ?_
  intro x C
  unfold m_X11_study at hm
  refine b_aload_n C dX11_study_0 rfl 0 rfl ?_
  refine b_iconst (v := 0) C dX11_study_1 (by decide) ?_
  refine pfX11_68 (w' := [(A_th, oO 10 [.int 0, V_th_text, V_th_textSize, V_th_readPage, .ref A_th_page, V_th_trial, .ref A_th_book, .int th_doings, V_th_kept, V_th_isKept, V_th_seen, V_th_seenPlace, V_th_seenDigit, V_th_seenIs, V_th_seed, .ref A_th_plan, .ref A_th_good, .ref A_th_bad, .ref A_th_signs, .int th_signMany, .ref A_th_digits, V_th_isNode, V_th_base, V_th_slot, V_th_whichMany, V_th_whichFirst, V_th_value]), (A_th_page, iA g 22 th_page), (A_th_book, iA g 308 th_book), (A_th_plan, iA g 1372 th_plan), (A_th_signs, iA g 8 th_signs), (A_th_digits, iA g 36 th_digits), (A_th_good, iA g 1372 th_good), (A_th_bad, iA g 1372 th_bad)]) C rfl rfl 0 rfl (Nat.le_of_ble_eq_true rfl) dX11_study_2 rfl ?_
  refine b_aload_n C dX11_study_5 rfl 0 rfl ?_
  refine gfX11_16 C 0 rfl rfl dX11_study_6 ?_
  refine b_bipush (v := 21) C dX11_study_9 (by decide) ?_
  refine b_iald C 1 rfl dX11_study_11 hm (fun v1 hm => ?_)
  refine b_iconst (v := 4) C dX11_study_12 (by decide) ?_
  refine b_icmp_ne (tgt := 19) C dX11_study_13 (by decide) hm (fun hm => ?_) (fun hm => ?_)
  · refine b_aload_n C dX11_study_19 rfl 0 rfl ?_
    obtain ⟨z2, f3, hM, hm⟩ := bK2_some hm
    refine b_kV (w' := [(A_th, oO 10 [.int 0, V_th_text, V_th_textSize, V_th_readPage, .ref A_th_page, V_th_trial, .ref A_th_book, .int z2, V_th_kept, V_th_isKept, V_th_seen, V_th_seenPlace, V_th_seenDigit, V_th_seenIs, V_th_seed, .ref A_th_plan, .ref A_th_good, .ref A_th_bad, .ref A_th_signs, .int th_signMany, .ref A_th_digits, V_th_isNode, V_th_base, V_th_slot, V_th_whichMany, V_th_whichFirst, V_th_value]), (A_th_page, iA g 22 th_page), (A_th_book, iA g 308 f3), (A_th_plan, iA g 1372 th_plan), (A_th_signs, iA g 8 th_signs), (A_th_digits, iA g 36 th_digits), (A_th_good, iA g 1372 th_good), (A_th_bad, iA g 1372 th_bad)]) (st := []) (st2 := []) C cv_X11_note tb1093 (c_X11_note l g A_th A_th_book A_th_page (.int 0) V_th_text V_th_textSize V_th_readPage V_th_trial V_th_kept V_th_isKept V_th_seen V_th_seenPlace V_th_seenDigit V_th_seenIs V_th_seed (.ref A_th_plan) (.ref A_th_good) (.ref A_th_bad) (.ref A_th_signs) (.int th_signMany) (.ref A_th_digits) V_th_isNode V_th_base V_th_slot V_th_whichMany V_th_whichFirst V_th_value th_doings th_book th_page F (z2, f3) hM) rfl 0 rfl rfl ⟨rfl, rfl, by decide, by decide⟩ (Nat.le_of_ble_eq_true rfl) [0, 2, 1] rfl (by decide) rfl rfl dX11_study_20 [some 0, some 2, some 1, none, none, none, none, none] (by decide) ⟨⟨rfl, rfl⟩, ⟨⟨rfl, rfl⟩, ⟨⟨rfl, rfl⟩, ⟨rfl, ⟨rfl, ⟨rfl, ⟨rfl, ⟨rfl, trivial⟩⟩⟩⟩⟩⟩⟩⟩ rfl ?_
    refine b_aload_n C dX11_study_23 rfl 0 rfl ?_
    refine gfX11_16 C 0 rfl rfl dX11_study_24 ?_
    refine b_bipush (v := 21) C dX11_study_27 (by decide) ?_
    refine b_dup2 C dX11_study_29 rfl rfl ?_
    refine b_iald C 1 rfl dX11_study_30 hm (fun v4 hm => ?_)
    refine b_iconst (v := 1) C dX11_study_31 (by decide) ?_
    refine b_iadd C dX11_study_32 ?_
    refine b_iast C 1 rfl dX11_study_33 hm (fun f5 hm => Wb.to (w' := [(A_th, oO 10 [.int 0, V_th_text, V_th_textSize, V_th_readPage, .ref A_th_page, V_th_trial, .ref A_th_book, .int z2, V_th_kept, V_th_isKept, V_th_seen, V_th_seenPlace, V_th_seenDigit, V_th_seenIs, V_th_seed, .ref A_th_plan, .ref A_th_good, .ref A_th_bad, .ref A_th_signs, .int th_signMany, .ref A_th_digits, V_th_isNode, V_th_base, V_th_slot, V_th_whichMany, V_th_whichFirst, V_th_value]), (A_th_page, iA g 22 f5), (A_th_book, iA g 308 f3), (A_th_plan, iA g 1372 th_plan), (A_th_signs, iA g 8 th_signs), (A_th_digits, iA g 36 th_digits), (A_th_good, iA g 1372 th_good), (A_th_bad, iA g 1372 th_bad)]) rfl ?_)
    refine b_aload_n C dX11_study_34 rfl 0 rfl ?_
    refine b_aload_n C dX11_study_35 rfl 0 rfl ?_
    refine gfX11_16 C 0 rfl rfl dX11_study_36 ?_
    obtain ⟨z6, f7, f8, f9, f10, f11, hM, hm⟩ := bK6_some hm
    refine b_kV (w' := [(A_th, oO 10 [.int 0, V_th_text, V_th_textSize, V_th_readPage, .ref A_th_page, V_th_trial, .ref A_th_book, .int z2, V_th_kept, V_th_isKept, V_th_seen, V_th_seenPlace, V_th_seenDigit, V_th_seenIs, V_th_seed, .ref A_th_plan, .ref A_th_good, .ref A_th_bad, .ref A_th_signs, .int z6, .ref A_th_digits, V_th_isNode, V_th_base, V_th_slot, V_th_whichMany, V_th_whichFirst, V_th_value]), (A_th_page, iA g 22 f5), (A_th_book, iA g 308 f3), (A_th_plan, iA g 1372 f7), (A_th_signs, iA g 8 f8), (A_th_digits, iA g 36 f9), (A_th_good, iA g 1372 f10), (A_th_bad, iA g 1372 f11)]) (st := []) (st2 := []) C cv_X11_learnAll tb963 (c_X11_learnAll l g A_th A_th_page A_th_plan A_th_signs A_th_digits A_th_good A_th_bad (.int 0) V_th_text V_th_textSize V_th_readPage (.ref A_th_page) V_th_trial (.ref A_th_book) (.int z2) V_th_kept V_th_isKept V_th_seen V_th_seenPlace V_th_seenDigit V_th_seenIs V_th_seed V_th_isNode V_th_base V_th_slot V_th_whichMany V_th_whichFirst V_th_value th_signMany f5 th_plan th_signs th_digits th_good th_bad F (z6, f7, f8, f9, f10, f11) hM) rfl 0 rfl rfl ⟨rfl, rfl, by decide, by decide⟩ (Nat.le_of_ble_eq_true rfl) [0, 1, 3, 4, 5, 6, 7] rfl (by decide) rfl rfl dX11_study_39 [some 0, some 1, none, some 2, some 3, some 4, some 5, some 6] (by decide) ⟨⟨rfl, rfl⟩, ⟨⟨rfl, rfl⟩, ⟨rfl, ⟨⟨rfl, rfl⟩, ⟨⟨rfl, rfl⟩, ⟨⟨rfl, rfl⟩, ⟨⟨rfl, rfl⟩, ⟨⟨rfl, rfl⟩, trivial⟩⟩⟩⟩⟩⟩⟩⟩ rfl ?_
    refine b_aload_n C dX11_study_42 rfl 0 rfl ?_
    refine b_aload_n C dX11_study_43 rfl 0 rfl ?_
    refine gfX11_16 C 0 rfl rfl dX11_study_44 ?_
    refine b_bipush (v := 21) C dX11_study_47 (by decide) ?_
    refine b_iald C 1 rfl dX11_study_49 hm (fun v12 hm => ?_)
    obtain ⟨r13, hM, hm⟩ := bK1_some hm
    refine b_kV (w' := [(A_th, oO 10 [.int 0, V_th_text, V_th_textSize, V_th_readPage, .ref A_th_page, V_th_trial, .ref A_th_book, .int z2, V_th_kept, V_th_isKept, V_th_seen, V_th_seenPlace, V_th_seenDigit, V_th_seenIs, V_th_seed, .ref A_th_plan, .ref A_th_good, .ref A_th_bad, .ref A_th_signs, .int z6, .ref A_th_digits, V_th_isNode, V_th_base, V_th_slot, V_th_whichMany, V_th_whichFirst, V_th_value]), (A_th_page, iA g 22 f5), (A_th_book, iA g 308 f3), (A_th_plan, iA g 1372 f7), (A_th_signs, iA g 8 f8), (A_th_digits, iA g 36 f9), (A_th_good, iA g 1372 f10), (A_th_bad, iA g 1372 f11)]) (st := []) (st2 := [.int r13]) C cv_X11_patternsOf tb1039 (c_X11_patternsOf l g A_th A_th_plan (.int 0) V_th_text V_th_textSize V_th_readPage (.ref A_th_page) V_th_trial (.ref A_th_book) (.int z2) V_th_kept V_th_isKept V_th_seen V_th_seenPlace V_th_seenDigit V_th_seenIs V_th_seed (.ref A_th_good) (.ref A_th_bad) (.ref A_th_signs) (.int z6) (.ref A_th_digits) V_th_isNode V_th_base V_th_slot V_th_whichMany V_th_whichFirst V_th_value v12 f7 F r13 hM) rfl 0 rfl rfl ⟨rfl, rfl, by decide, by decide⟩ (Nat.le_of_ble_eq_true rfl) [0, 3] rfl (by decide) rfl rfl dX11_study_50 [some 0, none, none, some 1, none, none, none, none] (by decide) ⟨⟨rfl, rfl⟩, ⟨rfl, ⟨rfl, ⟨⟨rfl, rfl⟩, ⟨rfl, ⟨rfl, ⟨rfl, ⟨rfl, trivial⟩⟩⟩⟩⟩⟩⟩⟩ rfl ?_
    cases hm
    exact b_iret C dX11_study_53
  · refine b_bipush (v := (-4)) C dX11_study_16 (by decide) ?_
    cases hm
    exact b_iret C dX11_study_18
/-- BreakLearnerModel.undo()I -/
def m_X11_undo (F : Nat)   (th_thrown : Int32) (th_doings : Int32) (th_page : (Nat → Int32)) (th_book : (Nat → Int32)) : Option (Int32 × Int32 × Int32 × (Nat → Int32)) :=
  if th_doings = 0 then
    some ((-3), 0, th_doings, th_page)
  else
    letK (th_doings - 1) (fun z1 =>
    wl2 (fun (x3 : Int32) (f4 : (Nat → Int32)) c2 =>
      if 22 ≤ x3 then
        some (z1, 0, z1, f4)
      else
        rdK 308 th_book ((22 * z1) + x3) (fun v5 =>
        stK 22 f4 x3 v5 (fun f6 =>
        c2 (x3 + 1) f6
        )
        )
      ) F 0 th_page
    )
abbrev rmX11_undo : Room := { frames := 0, cells := 0, slots := 0, locals := 0 }
set_option maxHeartbeats 4000000 in
set_option maxRecDepth 100000 in
theorem c_X11_undo (l : Launch) (g : Gl) (A_th A_th_page A_th_book : Nat) (V_th_text V_th_textSize V_th_readPage V_th_trial V_th_kept V_th_isKept V_th_seen V_th_seenPlace V_th_seenDigit V_th_seenIs V_th_seed V_th_plan V_th_good V_th_bad V_th_signs V_th_signMany V_th_digits V_th_isNode V_th_base V_th_slot V_th_whichMany V_th_whichFirst V_th_value : Value)   (th_thrown : Int32) (th_doings : Int32) (th_page : (Nat → Int32)) (th_book : (Nat → Int32)) (F : Nat) (u : Int32 × Int32 × Int32 × (Nat → Int32)) (hm : m_X11_undo F th_thrown th_doings th_page th_book = some u) : Ct l g yX11_undo cX11_undo 2 (some .int) rmX11_undo [.ref A_th] [(A_th, oO 10 [.int th_thrown, V_th_text, V_th_textSize, V_th_readPage, .ref A_th_page, V_th_trial, .ref A_th_book, .int th_doings, V_th_kept, V_th_isKept, V_th_seen, V_th_seenPlace, V_th_seenDigit, V_th_seenIs, V_th_seed, V_th_plan, V_th_good, V_th_bad, V_th_signs, V_th_signMany, V_th_digits, V_th_isNode, V_th_base, V_th_slot, V_th_whichMany, V_th_whichFirst, V_th_value]), (A_th_page, iA g 22 th_page), (A_th_book, iA g 308 th_book)] (some (.int u.1)) [(A_th, oO 10 [.int u.2.1, V_th_text, V_th_textSize, V_th_readPage, .ref A_th_page, V_th_trial, .ref A_th_book, .int u.2.2.1, V_th_kept, V_th_isKept, V_th_seen, V_th_seenPlace, V_th_seenDigit, V_th_seenIs, V_th_seed, V_th_plan, V_th_good, V_th_bad, V_th_signs, V_th_signMany, V_th_digits, V_th_isNode, V_th_base, V_th_slot, V_th_whichMany, V_th_whichFirst, V_th_value]), (A_th_page, iA g 22 u.2.2.2), (A_th_book, iA g 308 th_book)] := by
  refine ent (own := RX11) (lv := [(0, .ref A_th)]) (by decide) rfl (Nat.le_of_ble_eq_true rfl) rfl rfl ?_
  intro x C
  unfold m_X11_undo at hm
  refine b_aload_n C dX11_undo_0 rfl 0 rfl ?_
  refine b_iconst (v := 0) C dX11_undo_1 (by decide) ?_
  refine pfX11_68 (w' := [(A_th, oO 10 [.int 0, V_th_text, V_th_textSize, V_th_readPage, .ref A_th_page, V_th_trial, .ref A_th_book, .int th_doings, V_th_kept, V_th_isKept, V_th_seen, V_th_seenPlace, V_th_seenDigit, V_th_seenIs, V_th_seed, V_th_plan, V_th_good, V_th_bad, V_th_signs, V_th_signMany, V_th_digits, V_th_isNode, V_th_base, V_th_slot, V_th_whichMany, V_th_whichFirst, V_th_value]), (A_th_page, iA g 22 th_page), (A_th_book, iA g 308 th_book)]) C rfl rfl 0 rfl (Nat.le_of_ble_eq_true rfl) dX11_undo_2 rfl ?_
  refine b_aload_n C dX11_undo_5 rfl 0 rfl ?_
  refine gfX11_99 C 0 rfl rfl dX11_undo_6 ?_
  refine b_if_ne (tgt := 15) C dX11_undo_9 (by decide) hm (fun hm => ?_) (fun hm => ?_)
  · refine b_aload_n C dX11_undo_15 rfl 0 rfl ?_
    refine b_dup C dX11_undo_16 rfl ?_
    refine gfX11_99 C 0 rfl rfl dX11_undo_17 ?_
    refine b_iconst (v := 1) C dX11_undo_20 (by decide) ?_
    refine b_isub C dX11_undo_21 ?_
    refine b_topi hm (fun z1 hm => ?_)
    refine pfX11_99 (w' := [(A_th, oO 10 [.int 0, V_th_text, V_th_textSize, V_th_readPage, .ref A_th_page, V_th_trial, .ref A_th_book, .int z1, V_th_kept, V_th_isKept, V_th_seen, V_th_seenPlace, V_th_seenDigit, V_th_seenIs, V_th_seed, V_th_plan, V_th_good, V_th_bad, V_th_signs, V_th_signMany, V_th_digits, V_th_isNode, V_th_base, V_th_slot, V_th_whichMany, V_th_whichFirst, V_th_value]), (A_th_page, iA g 22 th_page), (A_th_book, iA g 308 th_book)]) C rfl rfl 0 rfl (Nat.le_of_ble_eq_true rfl) dX11_undo_22 rfl ?_
    refine b_iconst (v := 0) C dX11_undo_25 (by decide) ?_
    refine b_istore_n (lv' := [(1, .int 0), (0, .ref A_th)]) C dX11_undo_26 rfl (by decide) rfl ?_
    refine Wb.lv (lv' := [(0, .ref A_th), (1, .int 0)]) ?_ [1, 0] rfl
    refine wl2_W (Wg := fun (x3 : Int32) (f4 : (Nat → Int32)) => Wb x [(A_th, oO 10 [.int 0, V_th_text, V_th_textSize, V_th_readPage, .ref A_th_page, V_th_trial, .ref A_th_book, .int z1, V_th_kept, V_th_isKept, V_th_seen, V_th_seenPlace, V_th_seenDigit, V_th_seenIs, V_th_seed, V_th_plan, V_th_good, V_th_bad, V_th_signs, V_th_signMany, V_th_digits, V_th_isNode, V_th_base, V_th_slot, V_th_whichMany, V_th_whichFirst, V_th_value]), (A_th_page, iA g 22 f4), (A_th_book, iA g 308 th_book)] [(0, .ref A_th), (1, .int x3)] 27 []) ?_ F 0 th_page hm
    intro x3 f4 c2 hc2 hm
    refine b_iload_n C dX11_undo_27 rfl 1 rfl ?_
    refine b_bipush (v := 22) C dX11_undo_28 (by decide) ?_
    refine b_icmp_ge (tgt := 59) C dX11_undo_30 (by decide) hm (fun hm => ?_) (fun hm => ?_)
    · refine b_aload_n C dX11_undo_59 rfl 0 rfl ?_
      refine gfX11_99 C 0 rfl rfl dX11_undo_60 ?_
      cases hm
      exact b_iret C dX11_undo_63
    · refine b_aload_n C dX11_undo_33 rfl 0 rfl ?_
      refine gfX11_16 C 0 rfl rfl dX11_undo_34 ?_
      refine b_iload_n C dX11_undo_37 rfl 1 rfl ?_
      refine b_aload_n C dX11_undo_38 rfl 0 rfl ?_
      refine gfX11_22 C 0 rfl rfl dX11_undo_39 ?_
      refine b_bipush (v := 22) C dX11_undo_42 (by decide) ?_
      refine b_aload_n C dX11_undo_44 rfl 0 rfl ?_
      refine gfX11_99 C 0 rfl rfl dX11_undo_45 ?_
      refine b_imul C dX11_undo_48 ?_
      refine b_iload_n C dX11_undo_49 rfl 1 rfl ?_
      refine b_iadd C dX11_undo_50 ?_
      refine b_iald C 2 rfl dX11_undo_51 hm (fun v5 hm => ?_)
      refine b_iast C 1 rfl dX11_undo_52 hm (fun f6 hm => Wb.to (w' := [(A_th, oO 10 [.int 0, V_th_text, V_th_textSize, V_th_readPage, .ref A_th_page, V_th_trial, .ref A_th_book, .int z1, V_th_kept, V_th_isKept, V_th_seen, V_th_seenPlace, V_th_seenDigit, V_th_seenIs, V_th_seed, V_th_plan, V_th_good, V_th_bad, V_th_signs, V_th_signMany, V_th_digits, V_th_isNode, V_th_base, V_th_slot, V_th_whichMany, V_th_whichFirst, V_th_value]), (A_th_page, iA g 22 f6), (A_th_book, iA g 308 th_book)]) rfl ?_)
      refine b_iinc (v2 := x3 + 1) (lv' := [(1, .int (x3 + 1)), (0, .ref A_th)]) C dX11_undo_53 1 rfl rfl (by decide) rfl ?_
      refine b_goto (tgt := 27) C dX11_undo_56 (by decide) ?_
      exact Wb.lv (hc2 (x3 + 1) f6 hm) [1, 0] rfl
  · refine b_bipush (v := (-3)) C dX11_undo_12 (by decide) ?_
    cases hm
    exact b_iret C dX11_undo_14
/-- BreakLearnerModel.base(I)I -/
def m_X11_base (F : Nat)  (n1 : Int32) (th_thrown : Int32) (th_signMany : Int32) (th_page : (Nat → Int32)) (th_plan : (Nat → Int32)) (th_signs : (Nat → Int32)) (th_digits : (Nat → Int32)) (th_good : (Nat → Int32)) (th_bad : (Nat → Int32)) (th_isNode : (Nat → Int32)) (th_base : (Nat → Int32)) (th_slot : (Nat → Int32)) : Option (Int32 × Int32 × Int32 × (Nat → Int32) × (Nat → Int32) × (Nat → Int32) × (Nat → Int32) × (Nat → Int32) × (Nat → Int32) × (Nat → Int32) × (Nat → Int32)) :=
  jn0 (
    bK6 (m_X11_learnAll F th_signMany th_page th_plan th_signs th_digits th_good th_bad) (fun z2 f3 f4 f5 f6 f7 =>
    bK3 (m_X11_pack F th_isNode th_base f3 th_slot) (fun f8 f9 f10 =>
    bK1 (m_X11_sevens F n1) (fun r11 =>
    rdK 343 f9 r11 (fun v12 =>
    some (v12, 0, z2, f3, f4, f5, f6, f7, f8, f9, f10)
    )
    )
    )
    )
    ) (fun k1 =>
    if n1 = 0 then
      k1
    else
      bK1 (m_X11_areFigures F n1 1 3 6) (fun r13 =>
      if r13 = 0 then
        some ((-2), 0, th_signMany, th_plan, th_signs, th_digits, th_good, th_bad, th_isNode, th_base, th_slot)
      else
        k1
      )
    )
abbrev rmX11_base : Room := { frames := 6, cells := 0, slots := 0, locals := 149 }
set_option maxHeartbeats 4000000 in
set_option maxRecDepth 100000 in
theorem c_X11_base (l : Launch) (g : Gl) (A_th A_th_page A_th_plan A_th_signs A_th_digits A_th_good A_th_bad A_th_isNode A_th_base A_th_slot : Nat) (V_th_text V_th_textSize V_th_readPage V_th_trial V_th_book V_th_doings V_th_kept V_th_isKept V_th_seen V_th_seenPlace V_th_seenDigit V_th_seenIs V_th_seed V_th_whichMany V_th_whichFirst V_th_value : Value)  (n1 : Int32) (th_thrown : Int32) (th_signMany : Int32) (th_page : (Nat → Int32)) (th_plan : (Nat → Int32)) (th_signs : (Nat → Int32)) (th_digits : (Nat → Int32)) (th_good : (Nat → Int32)) (th_bad : (Nat → Int32)) (th_isNode : (Nat → Int32)) (th_base : (Nat → Int32)) (th_slot : (Nat → Int32)) (F : Nat) (u : Int32 × Int32 × Int32 × (Nat → Int32) × (Nat → Int32) × (Nat → Int32) × (Nat → Int32) × (Nat → Int32) × (Nat → Int32) × (Nat → Int32) × (Nat → Int32)) (hm : m_X11_base F n1 th_thrown th_signMany th_page th_plan th_signs th_digits th_good th_bad th_isNode th_base th_slot = some u) : Ct l g yX11_base cX11_base 2 (some .int) rmX11_base [.ref A_th, .int n1] [(A_th, oO 10 [.int th_thrown, V_th_text, V_th_textSize, V_th_readPage, .ref A_th_page, V_th_trial, V_th_book, V_th_doings, V_th_kept, V_th_isKept, V_th_seen, V_th_seenPlace, V_th_seenDigit, V_th_seenIs, V_th_seed, .ref A_th_plan, .ref A_th_good, .ref A_th_bad, .ref A_th_signs, .int th_signMany, .ref A_th_digits, .ref A_th_isNode, .ref A_th_base, .ref A_th_slot, V_th_whichMany, V_th_whichFirst, V_th_value]), (A_th_page, iA g 22 th_page), (A_th_plan, iA g 1372 th_plan), (A_th_signs, iA g 8 th_signs), (A_th_digits, iA g 36 th_digits), (A_th_good, iA g 1372 th_good), (A_th_bad, iA g 1372 th_bad), (A_th_isNode, zA g 343 th_isNode), (A_th_base, iA g 343 th_base), (A_th_slot, iA g 1600 th_slot)] (some (.int u.1)) [(A_th, oO 10 [.int u.2.1, V_th_text, V_th_textSize, V_th_readPage, .ref A_th_page, V_th_trial, V_th_book, V_th_doings, V_th_kept, V_th_isKept, V_th_seen, V_th_seenPlace, V_th_seenDigit, V_th_seenIs, V_th_seed, .ref A_th_plan, .ref A_th_good, .ref A_th_bad, .ref A_th_signs, .int u.2.2.1, .ref A_th_digits, .ref A_th_isNode, .ref A_th_base, .ref A_th_slot, V_th_whichMany, V_th_whichFirst, V_th_value]), (A_th_page, iA g 22 th_page), (A_th_plan, iA g 1372 u.2.2.2.1), (A_th_signs, iA g 8 u.2.2.2.2.1), (A_th_digits, iA g 36 u.2.2.2.2.2.1), (A_th_good, iA g 1372 u.2.2.2.2.2.2.1), (A_th_bad, iA g 1372 u.2.2.2.2.2.2.2.1), (A_th_isNode, zA g 343 u.2.2.2.2.2.2.2.2.1), (A_th_base, iA g 343 u.2.2.2.2.2.2.2.2.2.1), (A_th_slot, iA g 1600 u.2.2.2.2.2.2.2.2.2.2)] := by
  refine ent (own := RX11) (lv := [(0, .ref A_th), (1, .int n1)]) (by decide) rfl (Nat.le_of_ble_eq_true rfl) rfl rfl ?_
  intro x C
  unfold m_X11_base at hm
  refine b_aload_n C dX11_base_0 rfl 0 rfl ?_
  refine b_iconst (v := 0) C dX11_base_1 (by decide) ?_
  refine pfX11_68 (w' := [(A_th, oO 10 [.int 0, V_th_text, V_th_textSize, V_th_readPage, .ref A_th_page, V_th_trial, V_th_book, V_th_doings, V_th_kept, V_th_isKept, V_th_seen, V_th_seenPlace, V_th_seenDigit, V_th_seenIs, V_th_seed, .ref A_th_plan, .ref A_th_good, .ref A_th_bad, .ref A_th_signs, .int th_signMany, .ref A_th_digits, .ref A_th_isNode, .ref A_th_base, .ref A_th_slot, V_th_whichMany, V_th_whichFirst, V_th_value]), (A_th_page, iA g 22 th_page), (A_th_plan, iA g 1372 th_plan), (A_th_signs, iA g 8 th_signs), (A_th_digits, iA g 36 th_digits), (A_th_good, iA g 1372 th_good), (A_th_bad, iA g 1372 th_bad), (A_th_isNode, zA g 343 th_isNode), (A_th_base, iA g 343 th_base), (A_th_slot, iA g 1600 th_slot)]) C rfl rfl 0 rfl (Nat.le_of_ble_eq_true rfl) dX11_base_2 rfl ?_
  refine b_iload_n C dX11_base_5 rfl 1 rfl ?_
  obtain ⟨k1, hk1, hm⟩ := jn0_some hm
  have jk1 : k1  = some u → Wb x [(A_th, oO 10 [.int 0, V_th_text, V_th_textSize, V_th_readPage, .ref A_th_page, V_th_trial, V_th_book, V_th_doings, V_th_kept, V_th_isKept, V_th_seen, V_th_seenPlace, V_th_seenDigit, V_th_seenIs, V_th_seed, .ref A_th_plan, .ref A_th_good, .ref A_th_bad, .ref A_th_signs, .int th_signMany, .ref A_th_digits, .ref A_th_isNode, .ref A_th_base, .ref A_th_slot, V_th_whichMany, V_th_whichFirst, V_th_value]), (A_th_page, iA g 22 th_page), (A_th_plan, iA g 1372 th_plan), (A_th_signs, iA g 8 th_signs), (A_th_digits, iA g 36 th_digits), (A_th_good, iA g 1372 th_good), (A_th_bad, iA g 1372 th_bad), (A_th_isNode, zA g 343 th_isNode), (A_th_base, iA g 343 th_base), (A_th_slot, iA g 1600 th_slot)] [(0, .ref A_th), (1, .int n1)] 23 [] := by
    intro  hm
    have hm := hk1 hm
    refine b_aload_n C dX11_base_23 rfl 0 rfl ?_
    refine b_aload_n C dX11_base_24 rfl 0 rfl ?_
    refine gfX11_16 C 0 rfl rfl dX11_base_25 ?_
    obtain ⟨z2, f3, f4, f5, f6, f7, hM, hm⟩ := bK6_some hm
    refine b_kV (w' := [(A_th, oO 10 [.int 0, V_th_text, V_th_textSize, V_th_readPage, .ref A_th_page, V_th_trial, V_th_book, V_th_doings, V_th_kept, V_th_isKept, V_th_seen, V_th_seenPlace, V_th_seenDigit, V_th_seenIs, V_th_seed, .ref A_th_plan, .ref A_th_good, .ref A_th_bad, .ref A_th_signs, .int z2, .ref A_th_digits, .ref A_th_isNode, .ref A_th_base, .ref A_th_slot, V_th_whichMany, V_th_whichFirst, V_th_value]), (A_th_page, iA g 22 th_page), (A_th_plan, iA g 1372 f3), (A_th_signs, iA g 8 f4), (A_th_digits, iA g 36 f5), (A_th_good, iA g 1372 f6), (A_th_bad, iA g 1372 f7), (A_th_isNode, zA g 343 th_isNode), (A_th_base, iA g 343 th_base), (A_th_slot, iA g 1600 th_slot)]) (st := []) (st2 := []) C cv_X11_learnAll tb963 (c_X11_learnAll l g A_th A_th_page A_th_plan A_th_signs A_th_digits A_th_good A_th_bad (.int 0) V_th_text V_th_textSize V_th_readPage (.ref A_th_page) V_th_trial V_th_book V_th_doings V_th_kept V_th_isKept V_th_seen V_th_seenPlace V_th_seenDigit V_th_seenIs V_th_seed (.ref A_th_isNode) (.ref A_th_base) (.ref A_th_slot) V_th_whichMany V_th_whichFirst V_th_value th_signMany th_page th_plan th_signs th_digits th_good th_bad F (z2, f3, f4, f5, f6, f7) hM) rfl 0 rfl rfl ⟨rfl, rfl, by decide, by decide⟩ (Nat.le_of_ble_eq_true rfl) [0, 1, 2, 3, 4, 5, 6] rfl (by decide) rfl rfl dX11_base_28 [some 0, some 1, some 2, some 3, some 4, some 5, some 6, none, none, none] (by decide) ⟨⟨rfl, rfl⟩, ⟨⟨rfl, rfl⟩, ⟨⟨rfl, rfl⟩, ⟨⟨rfl, rfl⟩, ⟨⟨rfl, rfl⟩, ⟨⟨rfl, rfl⟩, ⟨⟨rfl, rfl⟩, ⟨rfl, ⟨rfl, ⟨rfl, trivial⟩⟩⟩⟩⟩⟩⟩⟩⟩⟩ rfl ?_
    refine b_aload_n C dX11_base_31 rfl 0 rfl ?_
    obtain ⟨f8, f9, f10, hM, hm⟩ := bK3_some hm
    refine b_kV (w' := [(A_th, oO 10 [.int 0, V_th_text, V_th_textSize, V_th_readPage, .ref A_th_page, V_th_trial, V_th_book, V_th_doings, V_th_kept, V_th_isKept, V_th_seen, V_th_seenPlace, V_th_seenDigit, V_th_seenIs, V_th_seed, .ref A_th_plan, .ref A_th_good, .ref A_th_bad, .ref A_th_signs, .int z2, .ref A_th_digits, .ref A_th_isNode, .ref A_th_base, .ref A_th_slot, V_th_whichMany, V_th_whichFirst, V_th_value]), (A_th_page, iA g 22 th_page), (A_th_plan, iA g 1372 f3), (A_th_signs, iA g 8 f4), (A_th_digits, iA g 36 f5), (A_th_good, iA g 1372 f6), (A_th_bad, iA g 1372 f7), (A_th_isNode, zA g 343 f8), (A_th_base, iA g 343 f9), (A_th_slot, iA g 1600 f10)]) (st := []) (st2 := []) C cv_X11_pack tb1008 (c_X11_pack l g A_th A_th_isNode A_th_base A_th_plan A_th_slot (.int 0) V_th_text V_th_textSize V_th_readPage (.ref A_th_page) V_th_trial V_th_book V_th_doings V_th_kept V_th_isKept V_th_seen V_th_seenPlace V_th_seenDigit V_th_seenIs V_th_seed (.ref A_th_good) (.ref A_th_bad) (.ref A_th_signs) (.int z2) (.ref A_th_digits) V_th_whichMany V_th_whichFirst V_th_value th_isNode th_base f3 th_slot F (f8, f9, f10) hM) rfl 0 rfl rfl ⟨rfl, rfl, by decide, by decide⟩ (Nat.le_of_ble_eq_true rfl) [0, 7, 8, 2, 9] rfl (by decide) rfl rfl dX11_base_32 [some 0, none, some 3, none, none, none, none, some 1, some 2, some 4] (by decide) ⟨⟨rfl, rfl⟩, ⟨rfl, ⟨⟨rfl, rfl⟩, ⟨rfl, ⟨rfl, ⟨rfl, ⟨rfl, ⟨⟨rfl, rfl⟩, ⟨⟨rfl, rfl⟩, ⟨⟨rfl, rfl⟩, trivial⟩⟩⟩⟩⟩⟩⟩⟩⟩⟩ rfl ?_
    refine b_aload_n C dX11_base_35 rfl 0 rfl ?_
    refine gfX11_59 C 0 rfl rfl dX11_base_36 ?_
    refine b_iload_n C dX11_base_39 rfl 1 rfl ?_
    obtain ⟨r11, hM, hm⟩ := bK1_some hm
    refine b_kS (w' := [(A_th, oO 10 [.int 0, V_th_text, V_th_textSize, V_th_readPage, .ref A_th_page, V_th_trial, V_th_book, V_th_doings, V_th_kept, V_th_isKept, V_th_seen, V_th_seenPlace, V_th_seenDigit, V_th_seenIs, V_th_seed, .ref A_th_plan, .ref A_th_good, .ref A_th_bad, .ref A_th_signs, .int z2, .ref A_th_digits, .ref A_th_isNode, .ref A_th_base, .ref A_th_slot, V_th_whichMany, V_th_whichFirst, V_th_value]), (A_th_page, iA g 22 th_page), (A_th_plan, iA g 1372 f3), (A_th_signs, iA g 8 f4), (A_th_digits, iA g 36 f5), (A_th_good, iA g 1372 f6), (A_th_bad, iA g 1372 f7), (A_th_isNode, zA g 343 f8), (A_th_base, iA g 343 f9), (A_th_slot, iA g 1600 f10)]) (st := [.ref A_th_base]) (st2 := [.int r11, .ref A_th_base]) C cs_X11_sevens tb1086 (c_X11_sevens l g n1 F r11 hM) rfl ⟨rfl, rfl, by decide, by decide⟩ (Nat.le_of_ble_eq_true rfl) [] rfl (by decide) rfl rfl dX11_base_40 [none, none, none, none, none, none, none, none, none, none] (by decide) ⟨rfl, ⟨rfl, ⟨rfl, ⟨rfl, ⟨rfl, ⟨rfl, ⟨rfl, ⟨rfl, ⟨rfl, ⟨rfl, trivial⟩⟩⟩⟩⟩⟩⟩⟩⟩⟩ rfl ?_
    refine b_iald C 8 rfl dX11_base_43 hm (fun v12 hm => ?_)
    cases hm
    exact b_iret C dX11_base_44
  refine b_if_eq (tgt := 23) C dX11_base_6 (by decide) hm (fun hm => ?_) (fun hm => ?_)
  · exact Wb.lv (jk1  hm) [0, 1] rfl
  · refine b_iload_n C dX11_base_9 rfl 1 rfl ?_
    refine b_iconst (v := 1) C dX11_base_10 (by decide) ?_
    refine b_iconst (v := 3) C dX11_base_11 (by decide) ?_
    refine b_bipush (v := 6) C dX11_base_12 (by decide) ?_
    obtain ⟨r13, hM, hm⟩ := bK1_some hm
    refine b_kS (w' := [(A_th, oO 10 [.int 0, V_th_text, V_th_textSize, V_th_readPage, .ref A_th_page, V_th_trial, V_th_book, V_th_doings, V_th_kept, V_th_isKept, V_th_seen, V_th_seenPlace, V_th_seenDigit, V_th_seenIs, V_th_seed, .ref A_th_plan, .ref A_th_good, .ref A_th_bad, .ref A_th_signs, .int th_signMany, .ref A_th_digits, .ref A_th_isNode, .ref A_th_base, .ref A_th_slot, V_th_whichMany, V_th_whichFirst, V_th_value]), (A_th_page, iA g 22 th_page), (A_th_plan, iA g 1372 th_plan), (A_th_signs, iA g 8 th_signs), (A_th_digits, iA g 36 th_digits), (A_th_good, iA g 1372 th_good), (A_th_bad, iA g 1372 th_bad), (A_th_isNode, zA g 343 th_isNode), (A_th_base, iA g 343 th_base), (A_th_slot, iA g 1600 th_slot)]) (st := []) (st2 := [.int r13]) C cs_X11_areFigures tb1083 (c_X11_areFigures l g n1 1 3 6 F r13 hM) rfl ⟨rfl, rfl, by decide, by decide⟩ (Nat.le_of_ble_eq_true rfl) [] rfl (by decide) rfl rfl dX11_base_14 [none, none, none, none, none, none, none, none, none, none] (by decide) ⟨rfl, ⟨rfl, ⟨rfl, ⟨rfl, ⟨rfl, ⟨rfl, ⟨rfl, ⟨rfl, ⟨rfl, ⟨rfl, trivial⟩⟩⟩⟩⟩⟩⟩⟩⟩⟩ rfl ?_
    refine b_if_ne (tgt := 23) C dX11_base_17 (by decide) hm (fun hm => ?_) (fun hm => ?_)
    · exact Wb.lv (jk1  hm) [0, 1] rfl
    · refine b_bipush (v := (-2)) C dX11_base_20 (by decide) ?_
      cases hm
      exact b_iret C dX11_base_22
/-- BreakLearnerModel.slot(I)I -/
def m_X11_slot (F : Nat)  (n1 : Int32) (th_thrown : Int32) (th_signMany : Int32) (th_page : (Nat → Int32)) (th_plan : (Nat → Int32)) (th_signs : (Nat → Int32)) (th_digits : (Nat → Int32)) (th_good : (Nat → Int32)) (th_bad : (Nat → Int32)) (th_isNode : (Nat → Int32)) (th_base : (Nat → Int32)) (th_slot : (Nat → Int32)) : Option (Int32 × Int32 × Int32 × (Nat → Int32) × (Nat → Int32) × (Nat → Int32) × (Nat → Int32) × (Nat → Int32) × (Nat → Int32) × (Nat → Int32) × (Nat → Int32)) :=
  if 0 ≤ n1 then
    bK6 (m_X11_learnAll F th_signMany th_page th_plan th_signs th_digits th_good th_bad) (fun z1 f2 f3 f4 f5 f6 =>
    bK3 (m_X11_pack F th_isNode th_base f2 th_slot) (fun f7 f8 f9 =>
    jn0 (
      some ((-9), 0, z1, f2, f3, f4, f5, f6, f7, f8, f9)
      ) (fun k10 =>
      if 1600 ≤ n1 then
        k10
      else
        rdK 1600 f9 n1 (fun v11 =>
        if v11 = (-9) then
          k10
        else
          rdK 1600 f9 n1 (fun v12 =>
          bK1 (m_X11_figures F v12) (fun r13 =>
          some (r13, 0, z1, f2, f3, f4, f5, f6, f7, f8, f9)
          )
          )
        )
      )
    )
    )
  else
    some ((-2), 0, th_signMany, th_plan, th_signs, th_digits, th_good, th_bad, th_isNode, th_base, th_slot)
abbrev rmX11_slot : Room := { frames := 6, cells := 0, slots := 0, locals := 149 }
set_option maxHeartbeats 4000000 in
set_option maxRecDepth 100000 in
theorem c_X11_slot (l : Launch) (g : Gl) (A_th A_th_page A_th_plan A_th_signs A_th_digits A_th_good A_th_bad A_th_isNode A_th_base A_th_slot : Nat) (V_th_text V_th_textSize V_th_readPage V_th_trial V_th_book V_th_doings V_th_kept V_th_isKept V_th_seen V_th_seenPlace V_th_seenDigit V_th_seenIs V_th_seed V_th_whichMany V_th_whichFirst V_th_value : Value)  (n1 : Int32) (th_thrown : Int32) (th_signMany : Int32) (th_page : (Nat → Int32)) (th_plan : (Nat → Int32)) (th_signs : (Nat → Int32)) (th_digits : (Nat → Int32)) (th_good : (Nat → Int32)) (th_bad : (Nat → Int32)) (th_isNode : (Nat → Int32)) (th_base : (Nat → Int32)) (th_slot : (Nat → Int32)) (F : Nat) (u : Int32 × Int32 × Int32 × (Nat → Int32) × (Nat → Int32) × (Nat → Int32) × (Nat → Int32) × (Nat → Int32) × (Nat → Int32) × (Nat → Int32) × (Nat → Int32)) (hm : m_X11_slot F n1 th_thrown th_signMany th_page th_plan th_signs th_digits th_good th_bad th_isNode th_base th_slot = some u) : Ct l g yX11_slot cX11_slot 2 (some .int) rmX11_slot [.ref A_th, .int n1] [(A_th, oO 10 [.int th_thrown, V_th_text, V_th_textSize, V_th_readPage, .ref A_th_page, V_th_trial, V_th_book, V_th_doings, V_th_kept, V_th_isKept, V_th_seen, V_th_seenPlace, V_th_seenDigit, V_th_seenIs, V_th_seed, .ref A_th_plan, .ref A_th_good, .ref A_th_bad, .ref A_th_signs, .int th_signMany, .ref A_th_digits, .ref A_th_isNode, .ref A_th_base, .ref A_th_slot, V_th_whichMany, V_th_whichFirst, V_th_value]), (A_th_page, iA g 22 th_page), (A_th_plan, iA g 1372 th_plan), (A_th_signs, iA g 8 th_signs), (A_th_digits, iA g 36 th_digits), (A_th_good, iA g 1372 th_good), (A_th_bad, iA g 1372 th_bad), (A_th_isNode, zA g 343 th_isNode), (A_th_base, iA g 343 th_base), (A_th_slot, iA g 1600 th_slot)] (some (.int u.1)) [(A_th, oO 10 [.int u.2.1, V_th_text, V_th_textSize, V_th_readPage, .ref A_th_page, V_th_trial, V_th_book, V_th_doings, V_th_kept, V_th_isKept, V_th_seen, V_th_seenPlace, V_th_seenDigit, V_th_seenIs, V_th_seed, .ref A_th_plan, .ref A_th_good, .ref A_th_bad, .ref A_th_signs, .int u.2.2.1, .ref A_th_digits, .ref A_th_isNode, .ref A_th_base, .ref A_th_slot, V_th_whichMany, V_th_whichFirst, V_th_value]), (A_th_page, iA g 22 th_page), (A_th_plan, iA g 1372 u.2.2.2.1), (A_th_signs, iA g 8 u.2.2.2.2.1), (A_th_digits, iA g 36 u.2.2.2.2.2.1), (A_th_good, iA g 1372 u.2.2.2.2.2.2.1), (A_th_bad, iA g 1372 u.2.2.2.2.2.2.2.1), (A_th_isNode, zA g 343 u.2.2.2.2.2.2.2.2.1), (A_th_base, iA g 343 u.2.2.2.2.2.2.2.2.2.1), (A_th_slot, iA g 1600 u.2.2.2.2.2.2.2.2.2.2)] := by
  refine ent (own := RX11) (lv := [(0, .ref A_th), (1, .int n1)]) (by decide) rfl (Nat.le_of_ble_eq_true rfl) rfl rfl ?_
  intro x C
  unfold m_X11_slot at hm
  refine b_aload_n C dX11_slot_0 rfl 0 rfl ?_
  refine b_iconst (v := 0) C dX11_slot_1 (by decide) ?_
  refine pfX11_68 (w' := [(A_th, oO 10 [.int 0, V_th_text, V_th_textSize, V_th_readPage, .ref A_th_page, V_th_trial, V_th_book, V_th_doings, V_th_kept, V_th_isKept, V_th_seen, V_th_seenPlace, V_th_seenDigit, V_th_seenIs, V_th_seed, .ref A_th_plan, .ref A_th_good, .ref A_th_bad, .ref A_th_signs, .int th_signMany, .ref A_th_digits, .ref A_th_isNode, .ref A_th_base, .ref A_th_slot, V_th_whichMany, V_th_whichFirst, V_th_value]), (A_th_page, iA g 22 th_page), (A_th_plan, iA g 1372 th_plan), (A_th_signs, iA g 8 th_signs), (A_th_digits, iA g 36 th_digits), (A_th_good, iA g 1372 th_good), (A_th_bad, iA g 1372 th_bad), (A_th_isNode, zA g 343 th_isNode), (A_th_base, iA g 343 th_base), (A_th_slot, iA g 1600 th_slot)]) C rfl rfl 0 rfl (Nat.le_of_ble_eq_true rfl) dX11_slot_2 rfl ?_
  refine b_iload_n C dX11_slot_5 rfl 1 rfl ?_
  refine b_if_ge (tgt := 12) C dX11_slot_6 (by decide) hm (fun hm => ?_) (fun hm => ?_)
  · refine b_aload_n C dX11_slot_12 rfl 0 rfl ?_
    refine b_aload_n C dX11_slot_13 rfl 0 rfl ?_
    refine gfX11_16 C 0 rfl rfl dX11_slot_14 ?_
    obtain ⟨z1, f2, f3, f4, f5, f6, hM, hm⟩ := bK6_some hm
    refine b_kV (w' := [(A_th, oO 10 [.int 0, V_th_text, V_th_textSize, V_th_readPage, .ref A_th_page, V_th_trial, V_th_book, V_th_doings, V_th_kept, V_th_isKept, V_th_seen, V_th_seenPlace, V_th_seenDigit, V_th_seenIs, V_th_seed, .ref A_th_plan, .ref A_th_good, .ref A_th_bad, .ref A_th_signs, .int z1, .ref A_th_digits, .ref A_th_isNode, .ref A_th_base, .ref A_th_slot, V_th_whichMany, V_th_whichFirst, V_th_value]), (A_th_page, iA g 22 th_page), (A_th_plan, iA g 1372 f2), (A_th_signs, iA g 8 f3), (A_th_digits, iA g 36 f4), (A_th_good, iA g 1372 f5), (A_th_bad, iA g 1372 f6), (A_th_isNode, zA g 343 th_isNode), (A_th_base, iA g 343 th_base), (A_th_slot, iA g 1600 th_slot)]) (st := []) (st2 := []) C cv_X11_learnAll tb963 (c_X11_learnAll l g A_th A_th_page A_th_plan A_th_signs A_th_digits A_th_good A_th_bad (.int 0) V_th_text V_th_textSize V_th_readPage (.ref A_th_page) V_th_trial V_th_book V_th_doings V_th_kept V_th_isKept V_th_seen V_th_seenPlace V_th_seenDigit V_th_seenIs V_th_seed (.ref A_th_isNode) (.ref A_th_base) (.ref A_th_slot) V_th_whichMany V_th_whichFirst V_th_value th_signMany th_page th_plan th_signs th_digits th_good th_bad F (z1, f2, f3, f4, f5, f6) hM) rfl 0 rfl rfl ⟨rfl, rfl, by decide, by decide⟩ (Nat.le_of_ble_eq_true rfl) [0, 1, 2, 3, 4, 5, 6] rfl (by decide) rfl rfl dX11_slot_17 [some 0, some 1, some 2, some 3, some 4, some 5, some 6, none, none, none] (by decide) ⟨⟨rfl, rfl⟩, ⟨⟨rfl, rfl⟩, ⟨⟨rfl, rfl⟩, ⟨⟨rfl, rfl⟩, ⟨⟨rfl, rfl⟩, ⟨⟨rfl, rfl⟩, ⟨⟨rfl, rfl⟩, ⟨rfl, ⟨rfl, ⟨rfl, trivial⟩⟩⟩⟩⟩⟩⟩⟩⟩⟩ rfl ?_
    refine b_aload_n C dX11_slot_20 rfl 0 rfl ?_
    obtain ⟨f7, f8, f9, hM, hm⟩ := bK3_some hm
    refine b_kV (w' := [(A_th, oO 10 [.int 0, V_th_text, V_th_textSize, V_th_readPage, .ref A_th_page, V_th_trial, V_th_book, V_th_doings, V_th_kept, V_th_isKept, V_th_seen, V_th_seenPlace, V_th_seenDigit, V_th_seenIs, V_th_seed, .ref A_th_plan, .ref A_th_good, .ref A_th_bad, .ref A_th_signs, .int z1, .ref A_th_digits, .ref A_th_isNode, .ref A_th_base, .ref A_th_slot, V_th_whichMany, V_th_whichFirst, V_th_value]), (A_th_page, iA g 22 th_page), (A_th_plan, iA g 1372 f2), (A_th_signs, iA g 8 f3), (A_th_digits, iA g 36 f4), (A_th_good, iA g 1372 f5), (A_th_bad, iA g 1372 f6), (A_th_isNode, zA g 343 f7), (A_th_base, iA g 343 f8), (A_th_slot, iA g 1600 f9)]) (st := []) (st2 := []) C cv_X11_pack tb1008 (c_X11_pack l g A_th A_th_isNode A_th_base A_th_plan A_th_slot (.int 0) V_th_text V_th_textSize V_th_readPage (.ref A_th_page) V_th_trial V_th_book V_th_doings V_th_kept V_th_isKept V_th_seen V_th_seenPlace V_th_seenDigit V_th_seenIs V_th_seed (.ref A_th_good) (.ref A_th_bad) (.ref A_th_signs) (.int z1) (.ref A_th_digits) V_th_whichMany V_th_whichFirst V_th_value th_isNode th_base f2 th_slot F (f7, f8, f9) hM) rfl 0 rfl rfl ⟨rfl, rfl, by decide, by decide⟩ (Nat.le_of_ble_eq_true rfl) [0, 7, 8, 2, 9] rfl (by decide) rfl rfl dX11_slot_21 [some 0, none, some 3, none, none, none, none, some 1, some 2, some 4] (by decide) ⟨⟨rfl, rfl⟩, ⟨rfl, ⟨⟨rfl, rfl⟩, ⟨rfl, ⟨rfl, ⟨rfl, ⟨rfl, ⟨⟨rfl, rfl⟩, ⟨⟨rfl, rfl⟩, ⟨⟨rfl, rfl⟩, trivial⟩⟩⟩⟩⟩⟩⟩⟩⟩⟩ rfl ?_
    refine b_iload_n C dX11_slot_24 rfl 1 rfl ?_
    refine b_sipush (v := 1600) C dX11_slot_25 (by decide) ?_
    obtain ⟨k10, hk10, hm⟩ := jn0_some hm
    have jk10 : k10  = some u → Wb x [(A_th, oO 10 [.int 0, V_th_text, V_th_textSize, V_th_readPage, .ref A_th_page, V_th_trial, V_th_book, V_th_doings, V_th_kept, V_th_isKept, V_th_seen, V_th_seenPlace, V_th_seenDigit, V_th_seenIs, V_th_seed, .ref A_th_plan, .ref A_th_good, .ref A_th_bad, .ref A_th_signs, .int z1, .ref A_th_digits, .ref A_th_isNode, .ref A_th_base, .ref A_th_slot, V_th_whichMany, V_th_whichFirst, V_th_value]), (A_th_page, iA g 22 th_page), (A_th_plan, iA g 1372 f2), (A_th_signs, iA g 8 f3), (A_th_digits, iA g 36 f4), (A_th_good, iA g 1372 f5), (A_th_bad, iA g 1372 f6), (A_th_isNode, zA g 343 f7), (A_th_base, iA g 343 f8), (A_th_slot, iA g 1600 f9)] [] 42 [] := by
      intro  hm
      have hm := hk10 hm
      refine b_bipush (v := (-9)) C dX11_slot_42 (by decide) ?_
      refine b_goto (tgt := 56) C dX11_slot_44 (by decide) ?_
      cases hm
      exact b_iret C dX11_slot_56
    refine b_icmp_ge (tgt := 42) C dX11_slot_28 (by decide) hm (fun hm => ?_) (fun hm => ?_)
    · exact Wb.lv (jk10  hm) [] rfl
    · refine b_aload_n C dX11_slot_31 rfl 0 rfl ?_
      refine gfX11_62 C 0 rfl rfl dX11_slot_32 ?_
      refine b_iload_n C dX11_slot_35 rfl 1 rfl ?_
      refine b_iald C 9 rfl dX11_slot_36 hm (fun v11 hm => ?_)
      refine b_bipush (v := (-9)) C dX11_slot_37 (by decide) ?_
      refine b_icmp_ne (tgt := 47) C dX11_slot_39 (by decide) hm (fun hm => ?_) (fun hm => ?_)
      · refine b_aload_n C dX11_slot_47 rfl 0 rfl ?_
        refine gfX11_62 C 0 rfl rfl dX11_slot_48 ?_
        refine b_iload_n C dX11_slot_51 rfl 1 rfl ?_
        refine b_iald C 9 rfl dX11_slot_52 hm (fun v12 hm => ?_)
        obtain ⟨r13, hM, hm⟩ := bK1_some hm
        refine b_kS (w' := [(A_th, oO 10 [.int 0, V_th_text, V_th_textSize, V_th_readPage, .ref A_th_page, V_th_trial, V_th_book, V_th_doings, V_th_kept, V_th_isKept, V_th_seen, V_th_seenPlace, V_th_seenDigit, V_th_seenIs, V_th_seed, .ref A_th_plan, .ref A_th_good, .ref A_th_bad, .ref A_th_signs, .int z1, .ref A_th_digits, .ref A_th_isNode, .ref A_th_base, .ref A_th_slot, V_th_whichMany, V_th_whichFirst, V_th_value]), (A_th_page, iA g 22 th_page), (A_th_plan, iA g 1372 f2), (A_th_signs, iA g 8 f3), (A_th_digits, iA g 36 f4), (A_th_good, iA g 1372 f5), (A_th_bad, iA g 1372 f6), (A_th_isNode, zA g 343 f7), (A_th_base, iA g 343 f8), (A_th_slot, iA g 1600 f9)]) (st := []) (st2 := [.int r13]) C cs_X11_figures tb1127 (c_X11_figures l g v12 F r13 hM) rfl ⟨rfl, rfl, by decide, by decide⟩ (Nat.le_of_ble_eq_true rfl) [] rfl (by decide) rfl rfl dX11_slot_53 [none, none, none, none, none, none, none, none, none, none] (by decide) ⟨rfl, ⟨rfl, ⟨rfl, ⟨rfl, ⟨rfl, ⟨rfl, ⟨rfl, ⟨rfl, ⟨rfl, ⟨rfl, trivial⟩⟩⟩⟩⟩⟩⟩⟩⟩⟩ rfl ?_
        cases hm
        exact b_iret C dX11_slot_56
      · exact Wb.lv (jk10  hm) [] rfl
  · refine b_bipush (v := (-2)) C dX11_slot_9 (by decide) ?_
    cases hm
    exact b_iret C dX11_slot_11
/-- BreakLearnerModel.ask(II)I -/
def m_X11_ask (F : Nat)  (n1 : Int32) (n2 : Int32) (th_thrown : Int32) (th_signMany : Int32) (th_page : (Nat → Int32)) (th_plan : (Nat → Int32)) (th_signs : (Nat → Int32)) (th_digits : (Nat → Int32)) (th_good : (Nat → Int32)) (th_bad : (Nat → Int32)) : Option (Int32 × Int32 × Int32 × (Nat → Int32) × (Nat → Int32) × (Nat → Int32) × (Nat → Int32) × (Nat → Int32)) :=
  bK1 (m_X11_areFigures F n1 2 6 5) (fun r1 =>
  if r1 = 0 then
    some ((-2), 0, th_signMany, th_plan, th_signs, th_digits, th_good, th_bad)
  else
    bK1 (m_X11_length F n1) (fun r2 =>
    bK1 (m_X11_in F n2.toInt64 0 ((r2 - 2).toInt64)) (fun r3 =>
    if r3 = 0 then
      some ((-1), 0, th_signMany, th_plan, th_signs, th_digits, th_good, th_bad)
    else
      bK6 (m_X11_learnAll F th_signMany th_page th_plan th_signs th_digits th_good th_bad) (fun z4 f5 f6 f7 f8 f9 =>
      bK2 (m_X11_laySigns F n1 z4 f6) (fun z10 f11 =>
      bK1 (m_X11_digitAt F n2 z10 f11 f5) (fun r12 =>
      some (r12, 0, z10, f5, f11, f7, f8, f9)
      )
      )
      )
    )
    )
  )
abbrev rmX11_ask : Room := { frames := 6, cells := 0, slots := 0, locals := 149 }
set_option maxHeartbeats 4000000 in
set_option maxRecDepth 100000 in
theorem c_X11_ask (l : Launch) (g : Gl) (A_th A_th_page A_th_plan A_th_signs A_th_digits A_th_good A_th_bad : Nat) (V_th_text V_th_textSize V_th_readPage V_th_trial V_th_book V_th_doings V_th_kept V_th_isKept V_th_seen V_th_seenPlace V_th_seenDigit V_th_seenIs V_th_seed V_th_isNode V_th_base V_th_slot V_th_whichMany V_th_whichFirst V_th_value : Value)  (n1 : Int32) (n2 : Int32) (th_thrown : Int32) (th_signMany : Int32) (th_page : (Nat → Int32)) (th_plan : (Nat → Int32)) (th_signs : (Nat → Int32)) (th_digits : (Nat → Int32)) (th_good : (Nat → Int32)) (th_bad : (Nat → Int32)) (F : Nat) (u : Int32 × Int32 × Int32 × (Nat → Int32) × (Nat → Int32) × (Nat → Int32) × (Nat → Int32) × (Nat → Int32)) (hm : m_X11_ask F n1 n2 th_thrown th_signMany th_page th_plan th_signs th_digits th_good th_bad = some u) : Ct l g yX11_ask cX11_ask 3 (some .int) rmX11_ask [.ref A_th, .int n1, .int n2] [(A_th, oO 10 [.int th_thrown, V_th_text, V_th_textSize, V_th_readPage, .ref A_th_page, V_th_trial, V_th_book, V_th_doings, V_th_kept, V_th_isKept, V_th_seen, V_th_seenPlace, V_th_seenDigit, V_th_seenIs, V_th_seed, .ref A_th_plan, .ref A_th_good, .ref A_th_bad, .ref A_th_signs, .int th_signMany, .ref A_th_digits, V_th_isNode, V_th_base, V_th_slot, V_th_whichMany, V_th_whichFirst, V_th_value]), (A_th_page, iA g 22 th_page), (A_th_plan, iA g 1372 th_plan), (A_th_signs, iA g 8 th_signs), (A_th_digits, iA g 36 th_digits), (A_th_good, iA g 1372 th_good), (A_th_bad, iA g 1372 th_bad)] (some (.int u.1)) [(A_th, oO 10 [.int u.2.1, V_th_text, V_th_textSize, V_th_readPage, .ref A_th_page, V_th_trial, V_th_book, V_th_doings, V_th_kept, V_th_isKept, V_th_seen, V_th_seenPlace, V_th_seenDigit, V_th_seenIs, V_th_seed, .ref A_th_plan, .ref A_th_good, .ref A_th_bad, .ref A_th_signs, .int u.2.2.1, .ref A_th_digits, V_th_isNode, V_th_base, V_th_slot, V_th_whichMany, V_th_whichFirst, V_th_value]), (A_th_page, iA g 22 th_page), (A_th_plan, iA g 1372 u.2.2.2.1), (A_th_signs, iA g 8 u.2.2.2.2.1), (A_th_digits, iA g 36 u.2.2.2.2.2.1), (A_th_good, iA g 1372 u.2.2.2.2.2.2.1), (A_th_bad, iA g 1372 u.2.2.2.2.2.2.2)] := by
  refine ent (own := RX11) (lv := [(0, .ref A_th), (1, .int n1), (2, .int n2)]) (by decide) rfl (Nat.le_of_ble_eq_true rfl) rfl rfl ?_
  intro x C
  unfold m_X11_ask at hm
  refine b_aload_n C dX11_ask_0 rfl 0 rfl ?_
  refine b_iconst (v := 0) C dX11_ask_1 (by decide) ?_
  refine pfX11_68 (w' := [(A_th, oO 10 [.int 0, V_th_text, V_th_textSize, V_th_readPage, .ref A_th_page, V_th_trial, V_th_book, V_th_doings, V_th_kept, V_th_isKept, V_th_seen, V_th_seenPlace, V_th_seenDigit, V_th_seenIs, V_th_seed, .ref A_th_plan, .ref A_th_good, .ref A_th_bad, .ref A_th_signs, .int th_signMany, .ref A_th_digits, V_th_isNode, V_th_base, V_th_slot, V_th_whichMany, V_th_whichFirst, V_th_value]), (A_th_page, iA g 22 th_page), (A_th_plan, iA g 1372 th_plan), (A_th_signs, iA g 8 th_signs), (A_th_digits, iA g 36 th_digits), (A_th_good, iA g 1372 th_good), (A_th_bad, iA g 1372 th_bad)]) C rfl rfl 0 rfl (Nat.le_of_ble_eq_true rfl) dX11_ask_2 rfl ?_
  refine b_iload_n C dX11_ask_5 rfl 1 rfl ?_
  refine b_iconst (v := 2) C dX11_ask_6 (by decide) ?_
  refine b_bipush (v := 6) C dX11_ask_7 (by decide) ?_
  refine b_iconst (v := 5) C dX11_ask_9 (by decide) ?_
  obtain ⟨r1, hM, hm⟩ := bK1_some hm
  refine b_kS (w' := [(A_th, oO 10 [.int 0, V_th_text, V_th_textSize, V_th_readPage, .ref A_th_page, V_th_trial, V_th_book, V_th_doings, V_th_kept, V_th_isKept, V_th_seen, V_th_seenPlace, V_th_seenDigit, V_th_seenIs, V_th_seed, .ref A_th_plan, .ref A_th_good, .ref A_th_bad, .ref A_th_signs, .int th_signMany, .ref A_th_digits, V_th_isNode, V_th_base, V_th_slot, V_th_whichMany, V_th_whichFirst, V_th_value]), (A_th_page, iA g 22 th_page), (A_th_plan, iA g 1372 th_plan), (A_th_signs, iA g 8 th_signs), (A_th_digits, iA g 36 th_digits), (A_th_good, iA g 1372 th_good), (A_th_bad, iA g 1372 th_bad)]) (st := []) (st2 := [.int r1]) C cs_X11_areFigures tb1083 (c_X11_areFigures l g n1 2 6 5 F r1 hM) rfl ⟨rfl, rfl, by decide, by decide⟩ (Nat.le_of_ble_eq_true rfl) [] rfl (by decide) rfl rfl dX11_ask_10 [none, none, none, none, none, none, none] (by decide) ⟨rfl, ⟨rfl, ⟨rfl, ⟨rfl, ⟨rfl, ⟨rfl, ⟨rfl, trivial⟩⟩⟩⟩⟩⟩⟩ rfl ?_
  refine b_if_ne (tgt := 19) C dX11_ask_13 (by decide) hm (fun hm => ?_) (fun hm => ?_)
  · refine b_iload_n C dX11_ask_19 rfl 2 rfl ?_
    refine b_i2l C dX11_ask_20 ?_
    refine b_lconst (v := 0) C dX11_ask_21 (by decide) ?_
    refine b_iload_n C dX11_ask_22 rfl 1 rfl ?_
    obtain ⟨r2, hM, hm⟩ := bK1_some hm
    refine b_kS (w' := [(A_th, oO 10 [.int 0, V_th_text, V_th_textSize, V_th_readPage, .ref A_th_page, V_th_trial, V_th_book, V_th_doings, V_th_kept, V_th_isKept, V_th_seen, V_th_seenPlace, V_th_seenDigit, V_th_seenIs, V_th_seed, .ref A_th_plan, .ref A_th_good, .ref A_th_bad, .ref A_th_signs, .int th_signMany, .ref A_th_digits, V_th_isNode, V_th_base, V_th_slot, V_th_whichMany, V_th_whichFirst, V_th_value]), (A_th_page, iA g 22 th_page), (A_th_plan, iA g 1372 th_plan), (A_th_signs, iA g 8 th_signs), (A_th_digits, iA g 36 th_digits), (A_th_good, iA g 1372 th_good), (A_th_bad, iA g 1372 th_bad)]) (st := [.long 0, .long n2.toInt64]) (st2 := [.int r2, .long 0, .long n2.toInt64]) C cs_X11_length tb979 (c_X11_length l g n1 F r2 hM) rfl ⟨rfl, rfl, by decide, by decide⟩ (Nat.le_of_ble_eq_true rfl) [] rfl (by decide) rfl rfl dX11_ask_23 [none, none, none, none, none, none, none] (by decide) ⟨rfl, ⟨rfl, ⟨rfl, ⟨rfl, ⟨rfl, ⟨rfl, ⟨rfl, trivial⟩⟩⟩⟩⟩⟩⟩ rfl ?_
    refine b_iconst (v := 2) C dX11_ask_26 (by decide) ?_
    refine b_isub C dX11_ask_27 ?_
    refine b_i2l C dX11_ask_28 ?_
    obtain ⟨r3, hM, hm⟩ := bK1_some hm
    refine b_kS (w' := [(A_th, oO 10 [.int 0, V_th_text, V_th_textSize, V_th_readPage, .ref A_th_page, V_th_trial, V_th_book, V_th_doings, V_th_kept, V_th_isKept, V_th_seen, V_th_seenPlace, V_th_seenDigit, V_th_seenIs, V_th_seed, .ref A_th_plan, .ref A_th_good, .ref A_th_bad, .ref A_th_signs, .int th_signMany, .ref A_th_digits, V_th_isNode, V_th_base, V_th_slot, V_th_whichMany, V_th_whichFirst, V_th_value]), (A_th_page, iA g 22 th_page), (A_th_plan, iA g 1372 th_plan), (A_th_signs, iA g 8 th_signs), (A_th_digits, iA g 36 th_digits), (A_th_good, iA g 1372 th_good), (A_th_bad, iA g 1372 th_bad)]) (st := []) (st2 := [.int r3]) C cs_X11_in tb937 (c_X11_in l g n2.toInt64 0 ((r2 - 2).toInt64) F r3 hM) rfl ⟨rfl, rfl, by decide, by decide⟩ (Nat.le_of_ble_eq_true rfl) [] rfl (by decide) rfl rfl dX11_ask_29 [none, none, none, none, none, none, none] (by decide) ⟨rfl, ⟨rfl, ⟨rfl, ⟨rfl, ⟨rfl, ⟨rfl, ⟨rfl, trivial⟩⟩⟩⟩⟩⟩⟩ rfl ?_
    refine b_if_ne (tgt := 37) C dX11_ask_32 (by decide) hm (fun hm => ?_) (fun hm => ?_)
    · refine b_aload_n C dX11_ask_37 rfl 0 rfl ?_
      refine b_aload_n C dX11_ask_38 rfl 0 rfl ?_
      refine gfX11_16 C 0 rfl rfl dX11_ask_39 ?_
      obtain ⟨z4, f5, f6, f7, f8, f9, hM, hm⟩ := bK6_some hm
      refine b_kV (w' := [(A_th, oO 10 [.int 0, V_th_text, V_th_textSize, V_th_readPage, .ref A_th_page, V_th_trial, V_th_book, V_th_doings, V_th_kept, V_th_isKept, V_th_seen, V_th_seenPlace, V_th_seenDigit, V_th_seenIs, V_th_seed, .ref A_th_plan, .ref A_th_good, .ref A_th_bad, .ref A_th_signs, .int z4, .ref A_th_digits, V_th_isNode, V_th_base, V_th_slot, V_th_whichMany, V_th_whichFirst, V_th_value]), (A_th_page, iA g 22 th_page), (A_th_plan, iA g 1372 f5), (A_th_signs, iA g 8 f6), (A_th_digits, iA g 36 f7), (A_th_good, iA g 1372 f8), (A_th_bad, iA g 1372 f9)]) (st := []) (st2 := []) C cv_X11_learnAll tb963 (c_X11_learnAll l g A_th A_th_page A_th_plan A_th_signs A_th_digits A_th_good A_th_bad (.int 0) V_th_text V_th_textSize V_th_readPage (.ref A_th_page) V_th_trial V_th_book V_th_doings V_th_kept V_th_isKept V_th_seen V_th_seenPlace V_th_seenDigit V_th_seenIs V_th_seed V_th_isNode V_th_base V_th_slot V_th_whichMany V_th_whichFirst V_th_value th_signMany th_page th_plan th_signs th_digits th_good th_bad F (z4, f5, f6, f7, f8, f9) hM) rfl 0 rfl rfl ⟨rfl, rfl, by decide, by decide⟩ (Nat.le_of_ble_eq_true rfl) [0, 1, 2, 3, 4, 5, 6] rfl (by decide) rfl rfl dX11_ask_42 [some 0, some 1, some 2, some 3, some 4, some 5, some 6] (by decide) ⟨⟨rfl, rfl⟩, ⟨⟨rfl, rfl⟩, ⟨⟨rfl, rfl⟩, ⟨⟨rfl, rfl⟩, ⟨⟨rfl, rfl⟩, ⟨⟨rfl, rfl⟩, ⟨⟨rfl, rfl⟩, trivial⟩⟩⟩⟩⟩⟩⟩ rfl ?_
      refine b_aload_n C dX11_ask_45 rfl 0 rfl ?_
      refine b_iload_n C dX11_ask_46 rfl 1 rfl ?_
      obtain ⟨z10, f11, hM, hm⟩ := bK2_some hm
      refine b_kV (w' := [(A_th, oO 10 [.int 0, V_th_text, V_th_textSize, V_th_readPage, .ref A_th_page, V_th_trial, V_th_book, V_th_doings, V_th_kept, V_th_isKept, V_th_seen, V_th_seenPlace, V_th_seenDigit, V_th_seenIs, V_th_seed, .ref A_th_plan, .ref A_th_good, .ref A_th_bad, .ref A_th_signs, .int z10, .ref A_th_digits, V_th_isNode, V_th_base, V_th_slot, V_th_whichMany, V_th_whichFirst, V_th_value]), (A_th_page, iA g 22 th_page), (A_th_plan, iA g 1372 f5), (A_th_signs, iA g 8 f11), (A_th_digits, iA g 36 f7), (A_th_good, iA g 1372 f8), (A_th_bad, iA g 1372 f9)]) (st := []) (st2 := []) C cv_X11_laySigns tb975 (c_X11_laySigns l g A_th A_th_signs (.int 0) V_th_text V_th_textSize V_th_readPage (.ref A_th_page) V_th_trial V_th_book V_th_doings V_th_kept V_th_isKept V_th_seen V_th_seenPlace V_th_seenDigit V_th_seenIs V_th_seed (.ref A_th_plan) (.ref A_th_good) (.ref A_th_bad) (.ref A_th_digits) V_th_isNode V_th_base V_th_slot V_th_whichMany V_th_whichFirst V_th_value n1 z4 f6 F (z10, f11) hM) rfl 0 rfl rfl ⟨rfl, rfl, by decide, by decide⟩ (Nat.le_of_ble_eq_true rfl) [0, 3] rfl (by decide) rfl rfl dX11_ask_47 [some 0, none, none, some 1, none, none, none] (by decide) ⟨⟨rfl, rfl⟩, ⟨rfl, ⟨rfl, ⟨⟨rfl, rfl⟩, ⟨rfl, ⟨rfl, ⟨rfl, trivial⟩⟩⟩⟩⟩⟩⟩ rfl ?_
      refine b_aload_n C dX11_ask_50 rfl 0 rfl ?_
      refine b_iload_n C dX11_ask_51 rfl 2 rfl ?_
      obtain ⟨r12, hM, hm⟩ := bK1_some hm
      refine b_kV (w' := [(A_th, oO 10 [.int 0, V_th_text, V_th_textSize, V_th_readPage, .ref A_th_page, V_th_trial, V_th_book, V_th_doings, V_th_kept, V_th_isKept, V_th_seen, V_th_seenPlace, V_th_seenDigit, V_th_seenIs, V_th_seed, .ref A_th_plan, .ref A_th_good, .ref A_th_bad, .ref A_th_signs, .int z10, .ref A_th_digits, V_th_isNode, V_th_base, V_th_slot, V_th_whichMany, V_th_whichFirst, V_th_value]), (A_th_page, iA g 22 th_page), (A_th_plan, iA g 1372 f5), (A_th_signs, iA g 8 f11), (A_th_digits, iA g 36 f7), (A_th_good, iA g 1372 f8), (A_th_bad, iA g 1372 f9)]) (st := []) (st2 := [.int r12]) C cv_X11_digitAt tb982 (c_X11_digitAt l g A_th A_th_signs A_th_plan (.int 0) V_th_text V_th_textSize V_th_readPage (.ref A_th_page) V_th_trial V_th_book V_th_doings V_th_kept V_th_isKept V_th_seen V_th_seenPlace V_th_seenDigit V_th_seenIs V_th_seed (.ref A_th_good) (.ref A_th_bad) (.ref A_th_digits) V_th_isNode V_th_base V_th_slot V_th_whichMany V_th_whichFirst V_th_value n2 z10 f11 f5 F r12 hM) rfl 0 rfl rfl ⟨rfl, rfl, by decide, by decide⟩ (Nat.le_of_ble_eq_true rfl) [0, 3, 2] rfl (by decide) rfl rfl dX11_ask_52 [some 0, none, some 2, some 1, none, none, none] (by decide) ⟨⟨rfl, rfl⟩, ⟨rfl, ⟨⟨rfl, rfl⟩, ⟨⟨rfl, rfl⟩, ⟨rfl, ⟨rfl, ⟨rfl, trivial⟩⟩⟩⟩⟩⟩⟩ rfl ?_
      cases hm
      exact b_iret C dX11_ask_55
    · refine b_iconst (v := (-1)) C dX11_ask_35 (by decide) ?_
      cases hm
      exact b_iret C dX11_ask_36
  · refine b_bipush (v := (-2)) C dX11_ask_16 (by decide) ?_
    cases hm
    exact b_iret C dX11_ask_18
/-- BreakLearnerModel.earns(I)I -/
def m_X11_earns (F : Nat)  (n1 : Int32) (th_thrown : Int32) (th_signMany : Int32) (th_page : (Nat → Int32)) (th_plan : (Nat → Int32)) (th_signs : (Nat → Int32)) (th_digits : (Nat → Int32)) (th_good : (Nat → Int32)) (th_bad : (Nat → Int32)) : Option (Int32 × Int32 × Int32 × (Nat → Int32) × (Nat → Int32) × (Nat → Int32) × (Nat → Int32) × (Nat → Int32)) :=
  bK1 (m_X11_isString F n1) (fun r1 =>
  if r1 = 0 then
    some ((-2), 0, th_signMany, th_plan, th_signs, th_digits, th_good, th_bad)
  else
    bK6 (m_X11_learnAll F th_signMany th_page th_plan th_signs th_digits th_good th_bad) (fun z2 f3 f4 f5 f6 f7 =>
    bK1 (m_X11_rightOfAll F th_page f5) (fun r8 =>
    wl2 (fun (x10 : Int32) (f11 : (Nat → Int32)) c9 =>
      if 4 ≤ x10 then
        bK3 (m_X11_layDigits F z2 th_page f4 f5 f11) (fun z12 f13 f14 =>
        bK1 (m_X11_rightOfAll F th_page f14) (fun r15 =>
        some (r8 - r15, 0, z12, f11, f13, f14, f6, f7)
        )
        )
      else
        bK1 (m_X11_sevens F n1) (fun r16 =>
        stK 1372 f11 ((4 * r16) + x10) 0 (fun f17 =>
        c9 (x10 + 1) f17
        )
        )
      ) F 0 f3
    )
    )
  )
abbrev rmX11_earns : Room := { frames := 6, cells := 0, slots := 0, locals := 149 }
set_option maxHeartbeats 4000000 in
set_option maxRecDepth 100000 in
theorem c_X11_earns (l : Launch) (g : Gl) (A_th A_th_page A_th_plan A_th_signs A_th_digits A_th_good A_th_bad : Nat) (V_th_text V_th_textSize V_th_readPage V_th_trial V_th_book V_th_doings V_th_kept V_th_isKept V_th_seen V_th_seenPlace V_th_seenDigit V_th_seenIs V_th_seed V_th_isNode V_th_base V_th_slot V_th_whichMany V_th_whichFirst V_th_value : Value)  (n1 : Int32) (th_thrown : Int32) (th_signMany : Int32) (th_page : (Nat → Int32)) (th_plan : (Nat → Int32)) (th_signs : (Nat → Int32)) (th_digits : (Nat → Int32)) (th_good : (Nat → Int32)) (th_bad : (Nat → Int32)) (F : Nat) (u : Int32 × Int32 × Int32 × (Nat → Int32) × (Nat → Int32) × (Nat → Int32) × (Nat → Int32) × (Nat → Int32)) (hm : m_X11_earns F n1 th_thrown th_signMany th_page th_plan th_signs th_digits th_good th_bad = some u) : Ct l g yX11_earns cX11_earns 4 (some .int) rmX11_earns [.ref A_th, .int n1] [(A_th, oO 10 [.int th_thrown, V_th_text, V_th_textSize, V_th_readPage, .ref A_th_page, V_th_trial, V_th_book, V_th_doings, V_th_kept, V_th_isKept, V_th_seen, V_th_seenPlace, V_th_seenDigit, V_th_seenIs, V_th_seed, .ref A_th_plan, .ref A_th_good, .ref A_th_bad, .ref A_th_signs, .int th_signMany, .ref A_th_digits, V_th_isNode, V_th_base, V_th_slot, V_th_whichMany, V_th_whichFirst, V_th_value]), (A_th_page, iA g 22 th_page), (A_th_plan, iA g 1372 th_plan), (A_th_signs, iA g 8 th_signs), (A_th_digits, iA g 36 th_digits), (A_th_good, iA g 1372 th_good), (A_th_bad, iA g 1372 th_bad)] (some (.int u.1)) [(A_th, oO 10 [.int u.2.1, V_th_text, V_th_textSize, V_th_readPage, .ref A_th_page, V_th_trial, V_th_book, V_th_doings, V_th_kept, V_th_isKept, V_th_seen, V_th_seenPlace, V_th_seenDigit, V_th_seenIs, V_th_seed, .ref A_th_plan, .ref A_th_good, .ref A_th_bad, .ref A_th_signs, .int u.2.2.1, .ref A_th_digits, V_th_isNode, V_th_base, V_th_slot, V_th_whichMany, V_th_whichFirst, V_th_value]), (A_th_page, iA g 22 th_page), (A_th_plan, iA g 1372 u.2.2.2.1), (A_th_signs, iA g 8 u.2.2.2.2.1), (A_th_digits, iA g 36 u.2.2.2.2.2.1), (A_th_good, iA g 1372 u.2.2.2.2.2.2.1), (A_th_bad, iA g 1372 u.2.2.2.2.2.2.2)] := by
  refine ent (own := RX11) (lv := [(0, .ref A_th), (1, .int n1)]) (by decide) rfl (Nat.le_of_ble_eq_true rfl) rfl rfl ?_
  intro x C
  unfold m_X11_earns at hm
  refine b_aload_n C dX11_earns_0 rfl 0 rfl ?_
  refine b_iconst (v := 0) C dX11_earns_1 (by decide) ?_
  refine pfX11_68 (w' := [(A_th, oO 10 [.int 0, V_th_text, V_th_textSize, V_th_readPage, .ref A_th_page, V_th_trial, V_th_book, V_th_doings, V_th_kept, V_th_isKept, V_th_seen, V_th_seenPlace, V_th_seenDigit, V_th_seenIs, V_th_seed, .ref A_th_plan, .ref A_th_good, .ref A_th_bad, .ref A_th_signs, .int th_signMany, .ref A_th_digits, V_th_isNode, V_th_base, V_th_slot, V_th_whichMany, V_th_whichFirst, V_th_value]), (A_th_page, iA g 22 th_page), (A_th_plan, iA g 1372 th_plan), (A_th_signs, iA g 8 th_signs), (A_th_digits, iA g 36 th_digits), (A_th_good, iA g 1372 th_good), (A_th_bad, iA g 1372 th_bad)]) C rfl rfl 0 rfl (Nat.le_of_ble_eq_true rfl) dX11_earns_2 rfl ?_
  refine b_iload_n C dX11_earns_5 rfl 1 rfl ?_
  obtain ⟨r1, hM, hm⟩ := bK1_some hm
  refine b_kS (w' := [(A_th, oO 10 [.int 0, V_th_text, V_th_textSize, V_th_readPage, .ref A_th_page, V_th_trial, V_th_book, V_th_doings, V_th_kept, V_th_isKept, V_th_seen, V_th_seenPlace, V_th_seenDigit, V_th_seenIs, V_th_seed, .ref A_th_plan, .ref A_th_good, .ref A_th_bad, .ref A_th_signs, .int th_signMany, .ref A_th_digits, V_th_isNode, V_th_base, V_th_slot, V_th_whichMany, V_th_whichFirst, V_th_value]), (A_th_page, iA g 22 th_page), (A_th_plan, iA g 1372 th_plan), (A_th_signs, iA g 8 th_signs), (A_th_digits, iA g 36 th_digits), (A_th_good, iA g 1372 th_good), (A_th_bad, iA g 1372 th_bad)]) (st := []) (st2 := [.int r1]) C cs_X11_isString tb1080 (c_X11_isString l g n1 F r1 hM) rfl ⟨rfl, rfl, by decide, by decide⟩ (Nat.le_of_ble_eq_true rfl) [] rfl (by decide) rfl rfl dX11_earns_6 [none, none, none, none, none, none, none] (by decide) ⟨rfl, ⟨rfl, ⟨rfl, ⟨rfl, ⟨rfl, ⟨rfl, ⟨rfl, trivial⟩⟩⟩⟩⟩⟩⟩ rfl ?_
  refine b_if_ne (tgt := 15) C dX11_earns_9 (by decide) hm (fun hm => ?_) (fun hm => ?_)
  · refine b_aload_n C dX11_earns_15 rfl 0 rfl ?_
    refine b_aload_n C dX11_earns_16 rfl 0 rfl ?_
    refine gfX11_16 C 0 rfl rfl dX11_earns_17 ?_
    obtain ⟨z2, f3, f4, f5, f6, f7, hM, hm⟩ := bK6_some hm
    refine b_kV (w' := [(A_th, oO 10 [.int 0, V_th_text, V_th_textSize, V_th_readPage, .ref A_th_page, V_th_trial, V_th_book, V_th_doings, V_th_kept, V_th_isKept, V_th_seen, V_th_seenPlace, V_th_seenDigit, V_th_seenIs, V_th_seed, .ref A_th_plan, .ref A_th_good, .ref A_th_bad, .ref A_th_signs, .int z2, .ref A_th_digits, V_th_isNode, V_th_base, V_th_slot, V_th_whichMany, V_th_whichFirst, V_th_value]), (A_th_page, iA g 22 th_page), (A_th_plan, iA g 1372 f3), (A_th_signs, iA g 8 f4), (A_th_digits, iA g 36 f5), (A_th_good, iA g 1372 f6), (A_th_bad, iA g 1372 f7)]) (st := []) (st2 := []) C cv_X11_learnAll tb963 (c_X11_learnAll l g A_th A_th_page A_th_plan A_th_signs A_th_digits A_th_good A_th_bad (.int 0) V_th_text V_th_textSize V_th_readPage (.ref A_th_page) V_th_trial V_th_book V_th_doings V_th_kept V_th_isKept V_th_seen V_th_seenPlace V_th_seenDigit V_th_seenIs V_th_seed V_th_isNode V_th_base V_th_slot V_th_whichMany V_th_whichFirst V_th_value th_signMany th_page th_plan th_signs th_digits th_good th_bad F (z2, f3, f4, f5, f6, f7) hM) rfl 0 rfl rfl ⟨rfl, rfl, by decide, by decide⟩ (Nat.le_of_ble_eq_true rfl) [0, 1, 2, 3, 4, 5, 6] rfl (by decide) rfl rfl dX11_earns_20 [some 0, some 1, some 2, some 3, some 4, some 5, some 6] (by decide) ⟨⟨rfl, rfl⟩, ⟨⟨rfl, rfl⟩, ⟨⟨rfl, rfl⟩, ⟨⟨rfl, rfl⟩, ⟨⟨rfl, rfl⟩, ⟨⟨rfl, rfl⟩, ⟨⟨rfl, rfl⟩, trivial⟩⟩⟩⟩⟩⟩⟩ rfl ?_
    refine b_aload_n C dX11_earns_23 rfl 0 rfl ?_
    refine b_aload_n C dX11_earns_24 rfl 0 rfl ?_
    refine gfX11_16 C 0 rfl rfl dX11_earns_25 ?_
    obtain ⟨r8, hM, hm⟩ := bK1_some hm
    refine b_kV (w' := [(A_th, oO 10 [.int 0, V_th_text, V_th_textSize, V_th_readPage, .ref A_th_page, V_th_trial, V_th_book, V_th_doings, V_th_kept, V_th_isKept, V_th_seen, V_th_seenPlace, V_th_seenDigit, V_th_seenIs, V_th_seed, .ref A_th_plan, .ref A_th_good, .ref A_th_bad, .ref A_th_signs, .int z2, .ref A_th_digits, V_th_isNode, V_th_base, V_th_slot, V_th_whichMany, V_th_whichFirst, V_th_value]), (A_th_page, iA g 22 th_page), (A_th_plan, iA g 1372 f3), (A_th_signs, iA g 8 f4), (A_th_digits, iA g 36 f5), (A_th_good, iA g 1372 f6), (A_th_bad, iA g 1372 f7)]) (st := []) (st2 := [.int r8]) C cv_X11_rightOfAll tb1027 (c_X11_rightOfAll l g A_th A_th_page A_th_digits (.int 0) V_th_text V_th_textSize V_th_readPage (.ref A_th_page) V_th_trial V_th_book V_th_doings V_th_kept V_th_isKept V_th_seen V_th_seenPlace V_th_seenDigit V_th_seenIs V_th_seed (.ref A_th_plan) (.ref A_th_good) (.ref A_th_bad) (.ref A_th_signs) (.int z2) V_th_isNode V_th_base V_th_slot V_th_whichMany V_th_whichFirst V_th_value th_page f5 F r8 hM) rfl 0 rfl rfl ⟨rfl, rfl, by decide, by decide⟩ (Nat.le_of_ble_eq_true rfl) [0, 1, 4] rfl (by decide) rfl rfl dX11_earns_28 [some 0, some 1, none, none, some 2, none, none] (by decide) ⟨⟨rfl, rfl⟩, ⟨⟨rfl, rfl⟩, ⟨rfl, ⟨rfl, ⟨⟨rfl, rfl⟩, ⟨rfl, ⟨rfl, trivial⟩⟩⟩⟩⟩⟩⟩ rfl ?_
    refine b_istore_n (lv' := [(2, .int r8), (0, .ref A_th), (1, .int n1)]) C dX11_earns_31 rfl (by decide) rfl ?_
    refine b_iconst (v := 0) C dX11_earns_32 (by decide) ?_
    refine b_istore_n (lv' := [(3, .int 0), (2, .int r8), (0, .ref A_th), (1, .int n1)]) C dX11_earns_33 rfl (by decide) rfl ?_
    refine Wb.lv (lv' := [(0, .ref A_th), (1, .int n1), (2, .int r8), (3, .int 0)]) ?_ [2, 3, 1, 0] rfl
    refine wl2_W (Wg := fun (x10 : Int32) (f11 : (Nat → Int32)) => Wb x [(A_th, oO 10 [.int 0, V_th_text, V_th_textSize, V_th_readPage, .ref A_th_page, V_th_trial, V_th_book, V_th_doings, V_th_kept, V_th_isKept, V_th_seen, V_th_seenPlace, V_th_seenDigit, V_th_seenIs, V_th_seed, .ref A_th_plan, .ref A_th_good, .ref A_th_bad, .ref A_th_signs, .int z2, .ref A_th_digits, V_th_isNode, V_th_base, V_th_slot, V_th_whichMany, V_th_whichFirst, V_th_value]), (A_th_page, iA g 22 th_page), (A_th_plan, iA g 1372 f11), (A_th_signs, iA g 8 f4), (A_th_digits, iA g 36 f5), (A_th_good, iA g 1372 f6), (A_th_bad, iA g 1372 f7)] [(0, .ref A_th), (1, .int n1), (2, .int r8), (3, .int x10)] 34 []) ?_ F 0 f3 hm
    intro x10 f11 c9 hc9 hm
    refine b_iload_n C dX11_earns_34 rfl 3 rfl ?_
    refine b_iconst (v := 4) C dX11_earns_35 (by decide) ?_
    refine b_icmp_ge (tgt := 59) C dX11_earns_36 (by decide) hm (fun hm => ?_) (fun hm => ?_)
    · refine b_aload_n C dX11_earns_59 rfl 0 rfl ?_
      refine b_aload_n C dX11_earns_60 rfl 0 rfl ?_
      refine gfX11_16 C 0 rfl rfl dX11_earns_61 ?_
      obtain ⟨z12, f13, f14, hM, hm⟩ := bK3_some hm
      refine b_kV (w' := [(A_th, oO 10 [.int 0, V_th_text, V_th_textSize, V_th_readPage, .ref A_th_page, V_th_trial, V_th_book, V_th_doings, V_th_kept, V_th_isKept, V_th_seen, V_th_seenPlace, V_th_seenDigit, V_th_seenIs, V_th_seed, .ref A_th_plan, .ref A_th_good, .ref A_th_bad, .ref A_th_signs, .int z12, .ref A_th_digits, V_th_isNode, V_th_base, V_th_slot, V_th_whichMany, V_th_whichFirst, V_th_value]), (A_th_page, iA g 22 th_page), (A_th_plan, iA g 1372 f11), (A_th_signs, iA g 8 f13), (A_th_digits, iA g 36 f14), (A_th_good, iA g 1372 f6), (A_th_bad, iA g 1372 f7)]) (st := []) (st2 := []) C cv_X11_layDigits tb971 (c_X11_layDigits l g A_th A_th_page A_th_signs A_th_digits A_th_plan (.int 0) V_th_text V_th_textSize V_th_readPage (.ref A_th_page) V_th_trial V_th_book V_th_doings V_th_kept V_th_isKept V_th_seen V_th_seenPlace V_th_seenDigit V_th_seenIs V_th_seed (.ref A_th_good) (.ref A_th_bad) V_th_isNode V_th_base V_th_slot V_th_whichMany V_th_whichFirst V_th_value z2 th_page f4 f5 f11 F (z12, f13, f14) hM) rfl 0 rfl rfl ⟨rfl, rfl, by decide, by decide⟩ (Nat.le_of_ble_eq_true rfl) [0, 1, 3, 4, 2] rfl (by decide) rfl rfl dX11_earns_64 [some 0, some 1, some 4, some 2, some 3, none, none] (by decide) ⟨⟨rfl, rfl⟩, ⟨⟨rfl, rfl⟩, ⟨⟨rfl, rfl⟩, ⟨⟨rfl, rfl⟩, ⟨⟨rfl, rfl⟩, ⟨rfl, ⟨rfl, trivial⟩⟩⟩⟩⟩⟩⟩ rfl ?_
      refine b_iload_n C dX11_earns_67 rfl 2 rfl ?_
      refine b_aload_n C dX11_earns_68 rfl 0 rfl ?_
      refine b_aload_n C dX11_earns_69 rfl 0 rfl ?_
      refine gfX11_16 C 0 rfl rfl dX11_earns_70 ?_
      obtain ⟨r15, hM, hm⟩ := bK1_some hm
      refine b_kV (w' := [(A_th, oO 10 [.int 0, V_th_text, V_th_textSize, V_th_readPage, .ref A_th_page, V_th_trial, V_th_book, V_th_doings, V_th_kept, V_th_isKept, V_th_seen, V_th_seenPlace, V_th_seenDigit, V_th_seenIs, V_th_seed, .ref A_th_plan, .ref A_th_good, .ref A_th_bad, .ref A_th_signs, .int z12, .ref A_th_digits, V_th_isNode, V_th_base, V_th_slot, V_th_whichMany, V_th_whichFirst, V_th_value]), (A_th_page, iA g 22 th_page), (A_th_plan, iA g 1372 f11), (A_th_signs, iA g 8 f13), (A_th_digits, iA g 36 f14), (A_th_good, iA g 1372 f6), (A_th_bad, iA g 1372 f7)]) (st := [.int r8]) (st2 := [.int r15, .int r8]) C cv_X11_rightOfAll tb1027 (c_X11_rightOfAll l g A_th A_th_page A_th_digits (.int 0) V_th_text V_th_textSize V_th_readPage (.ref A_th_page) V_th_trial V_th_book V_th_doings V_th_kept V_th_isKept V_th_seen V_th_seenPlace V_th_seenDigit V_th_seenIs V_th_seed (.ref A_th_plan) (.ref A_th_good) (.ref A_th_bad) (.ref A_th_signs) (.int z12) V_th_isNode V_th_base V_th_slot V_th_whichMany V_th_whichFirst V_th_value th_page f14 F r15 hM) rfl 0 rfl rfl ⟨rfl, rfl, by decide, by decide⟩ (Nat.le_of_ble_eq_true rfl) [0, 1, 4] rfl (by decide) rfl rfl dX11_earns_73 [some 0, some 1, none, none, some 2, none, none] (by decide) ⟨⟨rfl, rfl⟩, ⟨⟨rfl, rfl⟩, ⟨rfl, ⟨rfl, ⟨⟨rfl, rfl⟩, ⟨rfl, ⟨rfl, trivial⟩⟩⟩⟩⟩⟩⟩ rfl ?_
      refine b_isub C dX11_earns_76 ?_
      cases hm
      exact b_iret C dX11_earns_77
    · refine b_aload_n C dX11_earns_39 rfl 0 rfl ?_
      refine gfX11_41 C 0 rfl rfl dX11_earns_40 ?_
      refine b_iconst (v := 4) C dX11_earns_43 (by decide) ?_
      refine b_iload_n C dX11_earns_44 rfl 1 rfl ?_
      obtain ⟨r16, hM, hm⟩ := bK1_some hm
      refine b_kS (w' := [(A_th, oO 10 [.int 0, V_th_text, V_th_textSize, V_th_readPage, .ref A_th_page, V_th_trial, V_th_book, V_th_doings, V_th_kept, V_th_isKept, V_th_seen, V_th_seenPlace, V_th_seenDigit, V_th_seenIs, V_th_seed, .ref A_th_plan, .ref A_th_good, .ref A_th_bad, .ref A_th_signs, .int z2, .ref A_th_digits, V_th_isNode, V_th_base, V_th_slot, V_th_whichMany, V_th_whichFirst, V_th_value]), (A_th_page, iA g 22 th_page), (A_th_plan, iA g 1372 f11), (A_th_signs, iA g 8 f4), (A_th_digits, iA g 36 f5), (A_th_good, iA g 1372 f6), (A_th_bad, iA g 1372 f7)]) (st := [.int 4, .ref A_th_plan]) (st2 := [.int r16, .int 4, .ref A_th_plan]) C cs_X11_sevens tb1086 (c_X11_sevens l g n1 F r16 hM) rfl ⟨rfl, rfl, by decide, by decide⟩ (Nat.le_of_ble_eq_true rfl) [] rfl (by decide) rfl rfl dX11_earns_45 [none, none, none, none, none, none, none] (by decide) ⟨rfl, ⟨rfl, ⟨rfl, ⟨rfl, ⟨rfl, ⟨rfl, ⟨rfl, trivial⟩⟩⟩⟩⟩⟩⟩ rfl ?_
      refine b_imul C dX11_earns_48 ?_
      refine b_iload_n C dX11_earns_49 rfl 3 rfl ?_
      refine b_iadd C dX11_earns_50 ?_
      refine b_iconst (v := 0) C dX11_earns_51 (by decide) ?_
      refine b_iast C 2 rfl dX11_earns_52 hm (fun f17 hm => Wb.to (w' := [(A_th, oO 10 [.int 0, V_th_text, V_th_textSize, V_th_readPage, .ref A_th_page, V_th_trial, V_th_book, V_th_doings, V_th_kept, V_th_isKept, V_th_seen, V_th_seenPlace, V_th_seenDigit, V_th_seenIs, V_th_seed, .ref A_th_plan, .ref A_th_good, .ref A_th_bad, .ref A_th_signs, .int z2, .ref A_th_digits, V_th_isNode, V_th_base, V_th_slot, V_th_whichMany, V_th_whichFirst, V_th_value]), (A_th_page, iA g 22 th_page), (A_th_plan, iA g 1372 f17), (A_th_signs, iA g 8 f4), (A_th_digits, iA g 36 f5), (A_th_good, iA g 1372 f6), (A_th_bad, iA g 1372 f7)]) rfl ?_)
      refine b_iinc (v2 := x10 + 1) (lv' := [(3, .int (x10 + 1)), (0, .ref A_th), (1, .int n1), (2, .int r8)]) C dX11_earns_53 3 rfl rfl (by decide) rfl ?_
      refine b_goto (tgt := 34) C dX11_earns_56 (by decide) ?_
      exact Wb.lv (hc9 (x10 + 1) f17 hm) [1, 2, 3, 0] rfl
  · refine b_bipush (v := (-2)) C dX11_earns_12 (by decide) ?_
    cases hm
    exact b_iret C dX11_earns_14
/-- BreakLearnerModel.begin()V -/
def m_X11_begin (F : Nat)   (th_trial : (Nat → Int32)) (th_page : (Nat → Int32)) : Option ((Nat → Int32)) :=
  wl2 (fun (x2 : Int32) (f3 : (Nat → Int32)) c1 =>
    if 22 ≤ x2 then
      some f3
    else
      rdK 22 th_page x2 (fun v4 =>
      stK 22 f3 x2 v4 (fun f5 =>
      c1 (x2 + 1) f5
      )
      )
    ) F 0 th_trial
abbrev rmX11_begin : Room := { frames := 0, cells := 0, slots := 0, locals := 0 }
set_option maxHeartbeats 4000000 in
set_option maxRecDepth 100000 in
theorem c_X11_begin (l : Launch) (g : Gl) (A_th A_th_trial A_th_page : Nat) (V_th_thrown V_th_text V_th_textSize V_th_readPage V_th_book V_th_doings V_th_kept V_th_isKept V_th_seen V_th_seenPlace V_th_seenDigit V_th_seenIs V_th_seed V_th_plan V_th_good V_th_bad V_th_signs V_th_signMany V_th_digits V_th_isNode V_th_base V_th_slot V_th_whichMany V_th_whichFirst V_th_value : Value)   (th_trial : (Nat → Int32)) (th_page : (Nat → Int32)) (F : Nat) (u : (Nat → Int32)) (hm : m_X11_begin F th_trial th_page = some u) : Ct l g yX11_begin cX11_begin 2 none rmX11_begin [.ref A_th] [(A_th, oO 10 [V_th_thrown, V_th_text, V_th_textSize, V_th_readPage, .ref A_th_page, .ref A_th_trial, V_th_book, V_th_doings, V_th_kept, V_th_isKept, V_th_seen, V_th_seenPlace, V_th_seenDigit, V_th_seenIs, V_th_seed, V_th_plan, V_th_good, V_th_bad, V_th_signs, V_th_signMany, V_th_digits, V_th_isNode, V_th_base, V_th_slot, V_th_whichMany, V_th_whichFirst, V_th_value]), (A_th_trial, iA g 22 th_trial), (A_th_page, iA g 22 th_page)] none [(A_th, oO 10 [V_th_thrown, V_th_text, V_th_textSize, V_th_readPage, .ref A_th_page, .ref A_th_trial, V_th_book, V_th_doings, V_th_kept, V_th_isKept, V_th_seen, V_th_seenPlace, V_th_seenDigit, V_th_seenIs, V_th_seed, V_th_plan, V_th_good, V_th_bad, V_th_signs, V_th_signMany, V_th_digits, V_th_isNode, V_th_base, V_th_slot, V_th_whichMany, V_th_whichFirst, V_th_value]), (A_th_trial, iA g 22 u), (A_th_page, iA g 22 th_page)] := by
  refine ent (own := RX11) (lv := [(0, .ref A_th)]) (by decide) rfl (Nat.le_of_ble_eq_true rfl) rfl rfl ?_
  intro x C
  unfold m_X11_begin at hm
  refine b_iconst (v := 0) C dX11_begin_0 (by decide) ?_
  refine b_istore_n (lv' := [(1, .int 0), (0, .ref A_th)]) C dX11_begin_1 rfl (by decide) rfl ?_
  refine Wb.lv (lv' := [(0, .ref A_th), (1, .int 0)]) ?_ [1, 0] rfl
  refine wl2_W (Wg := fun (x2 : Int32) (f3 : (Nat → Int32)) => Wb x [(A_th, oO 10 [V_th_thrown, V_th_text, V_th_textSize, V_th_readPage, .ref A_th_page, .ref A_th_trial, V_th_book, V_th_doings, V_th_kept, V_th_isKept, V_th_seen, V_th_seenPlace, V_th_seenDigit, V_th_seenIs, V_th_seed, V_th_plan, V_th_good, V_th_bad, V_th_signs, V_th_signMany, V_th_digits, V_th_isNode, V_th_base, V_th_slot, V_th_whichMany, V_th_whichFirst, V_th_value]), (A_th_trial, iA g 22 f3), (A_th_page, iA g 22 th_page)] [(0, .ref A_th), (1, .int x2)] 2 []) ?_ F 0 th_trial hm
  intro x2 f3 c1 hc1 hm
  refine b_iload_n C dX11_begin_2 rfl 1 rfl ?_
  refine b_bipush (v := 22) C dX11_begin_3 (by decide) ?_
  refine b_icmp_ge (tgt := 26) C dX11_begin_5 (by decide) hm (fun hm => ?_) (fun hm => ?_)
  · cases hm
    exact b_vret C dX11_begin_26
  · refine b_aload_n C dX11_begin_8 rfl 0 rfl ?_
    refine gfX11_19 C 0 rfl rfl dX11_begin_9 ?_
    refine b_iload_n C dX11_begin_12 rfl 1 rfl ?_
    refine b_aload_n C dX11_begin_13 rfl 0 rfl ?_
    refine gfX11_16 C 0 rfl rfl dX11_begin_14 ?_
    refine b_iload_n C dX11_begin_17 rfl 1 rfl ?_
    refine b_iald C 2 rfl dX11_begin_18 hm (fun v4 hm => ?_)
    refine b_iast C 1 rfl dX11_begin_19 hm (fun f5 hm => Wb.to (w' := [(A_th, oO 10 [V_th_thrown, V_th_text, V_th_textSize, V_th_readPage, .ref A_th_page, .ref A_th_trial, V_th_book, V_th_doings, V_th_kept, V_th_isKept, V_th_seen, V_th_seenPlace, V_th_seenDigit, V_th_seenIs, V_th_seed, V_th_plan, V_th_good, V_th_bad, V_th_signs, V_th_signMany, V_th_digits, V_th_isNode, V_th_base, V_th_slot, V_th_whichMany, V_th_whichFirst, V_th_value]), (A_th_trial, iA g 22 f5), (A_th_page, iA g 22 th_page)]) rfl ?_)
    refine b_iinc (v2 := x2 + 1) (lv' := [(1, .int (x2 + 1)), (0, .ref A_th)]) C dX11_begin_20 1 rfl rfl (by decide) rfl ?_
    refine b_goto (tgt := 2) C dX11_begin_23 (by decide) ?_
    exact Wb.lv (hc1 (x2 + 1) f5 hm) [1, 0] rfl
/-- BreakLearnerModel.longPower(JI)J -/
def m_X11_longPower (F : Nat)  (n1 : Int64) (n2 : Int32)  : Option (Int64) :=
  wl2 (fun (x2 : Int64) (x3 : Int32) c1 =>
    if n2 ≤ x3 then
      some x2
    else
      letK (x2 * n1) (fun x4 =>
      c1 x4 (x3 + 1)
      )
    ) F 1 0
abbrev rmX11_longPower : Room := { frames := 0, cells := 0, slots := 0, locals := 0 }
set_option maxHeartbeats 4000000 in
set_option maxRecDepth 100000 in
theorem c_X11_longPower (l : Launch) (g : Gl)  (n1 : Int64) (n2 : Int32)  (F : Nat) (u : Int64) (hm : m_X11_longPower F n1 n2 = some u) : Ct l g yX11_longPower cX11_longPower 6 (some .long) rmX11_longPower [.long n1, .int n2] [] (some (.long u)) [] := by
  refine ent (own := RX11) (lv := [(0, .long n1), (2, .int n2)]) (by decide) rfl (Nat.le_of_ble_eq_true rfl) rfl rfl ?_
  intro x C
  unfold m_X11_longPower at hm
  refine b_lconst (v := 1) C dX11_longPower_0 (by decide) ?_
  refine b_lstore_n (lv' := [(3, .long 1), (0, .long n1), (2, .int n2)]) C dX11_longPower_1 rfl (by decide) rfl ?_
  refine b_iconst (v := 0) C dX11_longPower_2 (by decide) ?_
  refine b_istore (lv' := [(5, .int 0), (3, .long 1), (0, .long n1), (2, .int n2)]) C dX11_longPower_3 (by decide) rfl ?_
  refine Wb.lv (lv' := [(0, .long n1), (2, .int n2), (3, .long 1), (5, .int 0)]) ?_ [2, 3, 1, 0] rfl
  refine wl2_W (Wg := fun (x2 : Int64) (x3 : Int32) => Wb x [] [(0, .long n1), (2, .int n2), (3, .long x2), (5, .int x3)] 5 []) ?_ F 1 0 hm
  intro x2 x3 c1 hc1 hm
  refine b_iload C dX11_longPower_5 3 rfl ?_
  refine b_iload_n C dX11_longPower_7 rfl 1 rfl ?_
  refine b_icmp_ge (tgt := 21) C dX11_longPower_8 (by decide) hm (fun hm => ?_) (fun hm => ?_)
  · refine b_lload_n C dX11_longPower_21 rfl 2 rfl ?_
    cases hm
    exact b_lret C dX11_longPower_22
  · refine b_lload_n C dX11_longPower_11 rfl 2 rfl ?_
    refine b_lload_n C dX11_longPower_12 rfl 0 rfl ?_
    refine b_lmul C dX11_longPower_13 ?_
    refine b_topl hm (fun x4 hm => ?_)
    refine b_lstore_n (lv' := [(3, .long x4), (0, .long n1), (2, .int n2), (5, .int x3)]) C dX11_longPower_14 rfl (by decide) rfl ?_
    refine b_iinc (v2 := x3 + 1) (lv' := [(5, .int (x3 + 1)), (3, .long x4), (0, .long n1), (2, .int n2)]) C dX11_longPower_15 3 rfl rfl (by decide) rfl ?_
    refine b_goto (tgt := 5) C dX11_longPower_18 (by decide) ?_
    exact Wb.lv (hc1 x4 (x3 + 1) hm) [2, 3, 1, 0] rfl
/-- BreakLearnerModel.isSo(IIII)Z -/
def m_X11_isSo (F : Nat)  (n1 : Int32) (n2 : Int32) (n3 : Int32) (n4 : Int32) (th_signMany : Int32) (th_trial : (Nat → Int32)) (th_plan : (Nat → Int32)) (th_signs : (Nat → Int32)) (th_digits : (Nat → Int32)) (th_good : (Nat → Int32)) (th_bad : (Nat → Int32)) : Option (Int32 × Int32 × (Nat → Int32) × (Nat → Int32) × (Nat → Int32) × (Nat → Int32) × (Nat → Int32)) :=
  bK6 (m_X11_learnAll F th_signMany th_trial th_plan th_signs th_digits th_good th_bad) (fun z1 f2 f3 f4 f5 f6 =>
  rdK 22 th_trial 0 (fun v7 =>
  jn1 (fun (y8 : Int32) =>
    if n1 = 4 then
      if y8 = 0 then
        some (0, z1, f2, f3, f4, f5, f6)
      else
        rdK 22 th_trial (1 + n2) (fun v10 =>
        bK1 (m_X11_length F v10) (fun r11 =>
        if (r11 - 1) ≤ n3 then
          some (0, z1, f2, f3, f4, f5, f6)
        else
          if 10 ≤ n4 then
            some (0, z1, f2, f3, f4, f5, f6)
          else
            rdK 36 f4 ((6 * n2) + n3) (fun v12 =>
            if v12 = n4 then
              some (1, z1, f2, f3, f4, f5, f6)
            else
              some (0, z1, f2, f3, f4, f5, f6)
            )
        )
        )
    else
      if n1 = 5 then
        if y8 = 0 then
          some (0, z1, f2, f3, f4, f5, f6)
        else
          if n3 = 0 then
            if n4 = 0 then
              bK1 (m_X11_rightOf F n2 th_trial f4) (fun r14 =>
              rdK 22 th_trial (1 + n2) (fun v15 =>
              bK1 (m_X11_length F v15) (fun r16 =>
              if r14 = (r16 - 1) then
                some (1, z1, f2, f3, f4, f5, f6)
              else
                some (0, z1, f2, f3, f4, f5, f6)
              )
              )
              )
            else
              some (0, z1, f2, f3, f4, f5, f6)
          else
            some (0, z1, f2, f3, f4, f5, f6)
      else
        if n2 = 0 then
          if n3 = 0 then
            bK1 (m_X11_rightOfAll F th_trial f4) (fun r18 =>
            if r18 < n4 then
              some (0, z1, f2, f3, f4, f5, f6)
            else
              some (1, z1, f2, f3, f4, f5, f6)
            )
          else
            some (0, z1, f2, f3, f4, f5, f6)
        else
          some (0, z1, f2, f3, f4, f5, f6)
    ) (fun k9 =>
    if v7 ≤ n2 then
      k9 0
    else
      k9 1
    )
  )
  )
abbrev rmX11_isSo : Room := { frames := 6, cells := 0, slots := 0, locals := 149 }
set_option maxHeartbeats 4000000 in
set_option maxRecDepth 100000 in
theorem c_X11_isSo (l : Launch) (g : Gl) (A_th A_th_trial A_th_plan A_th_signs A_th_digits A_th_good A_th_bad : Nat) (V_th_thrown V_th_text V_th_textSize V_th_readPage V_th_page V_th_book V_th_doings V_th_kept V_th_isKept V_th_seen V_th_seenPlace V_th_seenDigit V_th_seenIs V_th_seed V_th_isNode V_th_base V_th_slot V_th_whichMany V_th_whichFirst V_th_value : Value)  (n1 : Int32) (n2 : Int32) (n3 : Int32) (n4 : Int32) (th_signMany : Int32) (th_trial : (Nat → Int32)) (th_plan : (Nat → Int32)) (th_signs : (Nat → Int32)) (th_digits : (Nat → Int32)) (th_good : (Nat → Int32)) (th_bad : (Nat → Int32)) (F : Nat) (u : Int32 × Int32 × (Nat → Int32) × (Nat → Int32) × (Nat → Int32) × (Nat → Int32) × (Nat → Int32)) (hm : m_X11_isSo F n1 n2 n3 n4 th_signMany th_trial th_plan th_signs th_digits th_good th_bad = some u) : Ct l g yX11_isSo cX11_isSo 6 (some .boolean) rmX11_isSo [.ref A_th, .int n1, .int n2, .int n3, .int n4] [(A_th, oO 10 [V_th_thrown, V_th_text, V_th_textSize, V_th_readPage, V_th_page, .ref A_th_trial, V_th_book, V_th_doings, V_th_kept, V_th_isKept, V_th_seen, V_th_seenPlace, V_th_seenDigit, V_th_seenIs, V_th_seed, .ref A_th_plan, .ref A_th_good, .ref A_th_bad, .ref A_th_signs, .int th_signMany, .ref A_th_digits, V_th_isNode, V_th_base, V_th_slot, V_th_whichMany, V_th_whichFirst, V_th_value]), (A_th_trial, iA g 22 th_trial), (A_th_plan, iA g 1372 th_plan), (A_th_signs, iA g 8 th_signs), (A_th_digits, iA g 36 th_digits), (A_th_good, iA g 1372 th_good), (A_th_bad, iA g 1372 th_bad)] (some (.int u.1)) [(A_th, oO 10 [V_th_thrown, V_th_text, V_th_textSize, V_th_readPage, V_th_page, .ref A_th_trial, V_th_book, V_th_doings, V_th_kept, V_th_isKept, V_th_seen, V_th_seenPlace, V_th_seenDigit, V_th_seenIs, V_th_seed, .ref A_th_plan, .ref A_th_good, .ref A_th_bad, .ref A_th_signs, .int u.2.1, .ref A_th_digits, V_th_isNode, V_th_base, V_th_slot, V_th_whichMany, V_th_whichFirst, V_th_value]), (A_th_trial, iA g 22 th_trial), (A_th_plan, iA g 1372 u.2.2.1), (A_th_signs, iA g 8 u.2.2.2.1), (A_th_digits, iA g 36 u.2.2.2.2.1), (A_th_good, iA g 1372 u.2.2.2.2.2.1), (A_th_bad, iA g 1372 u.2.2.2.2.2.2)] := by
  refine ent (own := RX11) (lv := [(0, .ref A_th), (1, .int n1), (2, .int n2), (3, .int n3), (4, .int n4)]) (by decide) rfl (Nat.le_of_ble_eq_true rfl) rfl rfl ?_
  intro x C
  unfold m_X11_isSo at hm
  refine b_aload_n C dX11_isSo_0 rfl 0 rfl ?_
  refine b_aload_n C dX11_isSo_1 rfl 0 rfl ?_
  refine gfX11_19 C 0 rfl rfl dX11_isSo_2 ?_
  obtain ⟨z1, f2, f3, f4, f5, f6, hM, hm⟩ := bK6_some hm
  refine b_kV (w' := [(A_th, oO 10 [V_th_thrown, V_th_text, V_th_textSize, V_th_readPage, V_th_page, .ref A_th_trial, V_th_book, V_th_doings, V_th_kept, V_th_isKept, V_th_seen, V_th_seenPlace, V_th_seenDigit, V_th_seenIs, V_th_seed, .ref A_th_plan, .ref A_th_good, .ref A_th_bad, .ref A_th_signs, .int z1, .ref A_th_digits, V_th_isNode, V_th_base, V_th_slot, V_th_whichMany, V_th_whichFirst, V_th_value]), (A_th_trial, iA g 22 th_trial), (A_th_plan, iA g 1372 f2), (A_th_signs, iA g 8 f3), (A_th_digits, iA g 36 f4), (A_th_good, iA g 1372 f5), (A_th_bad, iA g 1372 f6)]) (st := []) (st2 := []) C cv_X11_learnAll tb963 (c_X11_learnAll l g A_th A_th_trial A_th_plan A_th_signs A_th_digits A_th_good A_th_bad V_th_thrown V_th_text V_th_textSize V_th_readPage V_th_page (.ref A_th_trial) V_th_book V_th_doings V_th_kept V_th_isKept V_th_seen V_th_seenPlace V_th_seenDigit V_th_seenIs V_th_seed V_th_isNode V_th_base V_th_slot V_th_whichMany V_th_whichFirst V_th_value th_signMany th_trial th_plan th_signs th_digits th_good th_bad F (z1, f2, f3, f4, f5, f6) hM) rfl 0 rfl rfl ⟨rfl, rfl, by decide, by decide⟩ (Nat.le_of_ble_eq_true rfl) [0, 1, 2, 3, 4, 5, 6] rfl (by decide) rfl rfl dX11_isSo_5 [some 0, some 1, some 2, some 3, some 4, some 5, some 6] (by decide) ⟨⟨rfl, rfl⟩, ⟨⟨rfl, rfl⟩, ⟨⟨rfl, rfl⟩, ⟨⟨rfl, rfl⟩, ⟨⟨rfl, rfl⟩, ⟨⟨rfl, rfl⟩, ⟨⟨rfl, rfl⟩, trivial⟩⟩⟩⟩⟩⟩⟩ rfl ?_
  refine b_iload_n C dX11_isSo_8 rfl 2 rfl ?_
  refine b_aload_n C dX11_isSo_9 rfl 0 rfl ?_
  refine gfX11_19 C 0 rfl rfl dX11_isSo_10 ?_
  refine b_iconst (v := 0) C dX11_isSo_13 (by decide) ?_
  refine b_iald C 1 rfl dX11_isSo_14 hm (fun v7 hm => ?_)
  obtain ⟨k9, hk9, hm⟩ := jn1_some hm
  have jk9 : ∀ (y8 : Int32), k9 y8 = some u → Wb x [(A_th, oO 10 [V_th_thrown, V_th_text, V_th_textSize, V_th_readPage, V_th_page, .ref A_th_trial, V_th_book, V_th_doings, V_th_kept, V_th_isKept, V_th_seen, V_th_seenPlace, V_th_seenDigit, V_th_seenIs, V_th_seed, .ref A_th_plan, .ref A_th_good, .ref A_th_bad, .ref A_th_signs, .int z1, .ref A_th_digits, V_th_isNode, V_th_base, V_th_slot, V_th_whichMany, V_th_whichFirst, V_th_value]), (A_th_trial, iA g 22 th_trial), (A_th_plan, iA g 1372 f2), (A_th_signs, iA g 8 f3), (A_th_digits, iA g 36 f4), (A_th_good, iA g 1372 f5), (A_th_bad, iA g 1372 f6)] [(0, .ref A_th), (1, .int n1), (2, .int n2), (3, .int n3), (4, .int n4)] 23 [.int y8] := by
    intro y8 hm
    have hm := hk9 _ hm
    refine b_istore (lv' := [(5, .int y8), (0, .ref A_th), (1, .int n1), (2, .int n2), (3, .int n3), (4, .int n4)]) C dX11_isSo_23 (by decide) rfl ?_
    refine b_iload_n C dX11_isSo_25 rfl 2 rfl ?_
    rcases sw_some hm with ⟨h13, hm⟩ | ⟨h13, hm⟩
    · refine b_look (off := 26) (tgt := 52) C dX11_isSo_26 (by decide) (by rw [h13]; decide) (by decide) ?_
      refine b_iload C dX11_isSo_52 0 rfl ?_
      refine b_if_eq (tgt := 101) C dX11_isSo_54 (by decide) hm (fun hm => ?_) (fun hm => ?_)
      · refine b_iconst (v := 0) C dX11_isSo_101 (by decide) ?_
        cases hm
        exact b_zret (v := 0) C (by decide) dX11_isSo_102
      · refine b_iload_n C dX11_isSo_57 rfl 4 rfl ?_
        refine b_aload_n C dX11_isSo_58 rfl 1 rfl ?_
        refine gfX11_19 C 0 rfl rfl dX11_isSo_59 ?_
        refine b_iconst (v := 1) C dX11_isSo_62 (by decide) ?_
        refine b_iload_n C dX11_isSo_63 rfl 3 rfl ?_
        refine b_iadd C dX11_isSo_64 ?_
        refine b_iald C 1 rfl dX11_isSo_65 hm (fun v10 hm => ?_)
        obtain ⟨r11, hM, hm⟩ := bK1_some hm
        refine b_kS (w' := [(A_th, oO 10 [V_th_thrown, V_th_text, V_th_textSize, V_th_readPage, V_th_page, .ref A_th_trial, V_th_book, V_th_doings, V_th_kept, V_th_isKept, V_th_seen, V_th_seenPlace, V_th_seenDigit, V_th_seenIs, V_th_seed, .ref A_th_plan, .ref A_th_good, .ref A_th_bad, .ref A_th_signs, .int z1, .ref A_th_digits, V_th_isNode, V_th_base, V_th_slot, V_th_whichMany, V_th_whichFirst, V_th_value]), (A_th_trial, iA g 22 th_trial), (A_th_plan, iA g 1372 f2), (A_th_signs, iA g 8 f3), (A_th_digits, iA g 36 f4), (A_th_good, iA g 1372 f5), (A_th_bad, iA g 1372 f6)]) (st := [.int n3]) (st2 := [.int r11, .int n3]) C cs_X11_length tb979 (c_X11_length l g v10 F r11 hM) rfl ⟨rfl, rfl, by decide, by decide⟩ (Nat.le_of_ble_eq_true rfl) [] rfl (by decide) rfl rfl dX11_isSo_66 [none, none, none, none, none, none, none] (by decide) ⟨rfl, ⟨rfl, ⟨rfl, ⟨rfl, ⟨rfl, ⟨rfl, ⟨rfl, trivial⟩⟩⟩⟩⟩⟩⟩ rfl ?_
        refine b_iconst (v := 1) C dX11_isSo_69 (by decide) ?_
        refine b_isub C dX11_isSo_70 ?_
        refine b_icmp_ge (tgt := 101) C dX11_isSo_71 (by decide) hm (fun hm => ?_) (fun hm => ?_)
        · refine b_iconst (v := 0) C dX11_isSo_101 (by decide) ?_
          cases hm
          exact b_zret (v := 0) C (by decide) dX11_isSo_102
        · refine b_iload C dX11_isSo_74 5 rfl ?_
          refine b_bipush (v := 10) C dX11_isSo_76 (by decide) ?_
          refine b_icmp_ge (tgt := 101) C dX11_isSo_78 (by decide) hm (fun hm => ?_) (fun hm => ?_)
          · refine b_iconst (v := 0) C dX11_isSo_101 (by decide) ?_
            cases hm
            exact b_zret (v := 0) C (by decide) dX11_isSo_102
          · refine b_aload_n C dX11_isSo_81 rfl 1 rfl ?_
            refine gfX11_53 C 0 rfl rfl dX11_isSo_82 ?_
            refine b_bipush (v := 6) C dX11_isSo_85 (by decide) ?_
            refine b_iload_n C dX11_isSo_87 rfl 3 rfl ?_
            refine b_imul C dX11_isSo_88 ?_
            refine b_iload_n C dX11_isSo_89 rfl 4 rfl ?_
            refine b_iadd C dX11_isSo_90 ?_
            refine b_iald C 4 rfl dX11_isSo_91 hm (fun v12 hm => ?_)
            refine b_iload C dX11_isSo_92 5 rfl ?_
            refine b_icmp_ne (tgt := 101) C dX11_isSo_94 (by decide) hm (fun hm => ?_) (fun hm => ?_)
            · refine b_iconst (v := 0) C dX11_isSo_101 (by decide) ?_
              cases hm
              exact b_zret (v := 0) C (by decide) dX11_isSo_102
            · refine b_iconst (v := 1) C dX11_isSo_97 (by decide) ?_
              refine b_goto (tgt := 102) C dX11_isSo_98 (by decide) ?_
              cases hm
              exact b_zret (v := 1) C (by decide) dX11_isSo_102
    · rcases sw_some hm with ⟨h17, hm⟩ | ⟨h17, hm⟩
      · refine b_look (off := 77) (tgt := 103) C dX11_isSo_26 (by decide) (by rw [h17]; decide) (by decide) ?_
        refine b_iload C dX11_isSo_103 0 rfl ?_
        refine b_if_eq (tgt := 146) C dX11_isSo_105 (by decide) hm (fun hm => ?_) (fun hm => ?_)
        · refine b_iconst (v := 0) C dX11_isSo_146 (by decide) ?_
          cases hm
          exact b_zret (v := 0) C (by decide) dX11_isSo_147
        · refine b_iload_n C dX11_isSo_108 rfl 4 rfl ?_
          refine b_if_ne (tgt := 146) C dX11_isSo_109 (by decide) hm (fun hm => ?_) (fun hm => ?_)
          · refine b_iconst (v := 0) C dX11_isSo_146 (by decide) ?_
            cases hm
            exact b_zret (v := 0) C (by decide) dX11_isSo_147
          · refine b_iload C dX11_isSo_112 5 rfl ?_
            refine b_if_ne (tgt := 146) C dX11_isSo_114 (by decide) hm (fun hm => ?_) (fun hm => ?_)
            · refine b_iconst (v := 0) C dX11_isSo_146 (by decide) ?_
              cases hm
              exact b_zret (v := 0) C (by decide) dX11_isSo_147
            · refine b_aload_n C dX11_isSo_117 rfl 1 rfl ?_
              refine b_aload_n C dX11_isSo_118 rfl 1 rfl ?_
              refine gfX11_19 C 0 rfl rfl dX11_isSo_119 ?_
              refine b_iload_n C dX11_isSo_122 rfl 3 rfl ?_
              obtain ⟨r14, hM, hm⟩ := bK1_some hm
              refine b_kV (w' := [(A_th, oO 10 [V_th_thrown, V_th_text, V_th_textSize, V_th_readPage, V_th_page, .ref A_th_trial, V_th_book, V_th_doings, V_th_kept, V_th_isKept, V_th_seen, V_th_seenPlace, V_th_seenDigit, V_th_seenIs, V_th_seed, .ref A_th_plan, .ref A_th_good, .ref A_th_bad, .ref A_th_signs, .int z1, .ref A_th_digits, V_th_isNode, V_th_base, V_th_slot, V_th_whichMany, V_th_whichFirst, V_th_value]), (A_th_trial, iA g 22 th_trial), (A_th_plan, iA g 1372 f2), (A_th_signs, iA g 8 f3), (A_th_digits, iA g 36 f4), (A_th_good, iA g 1372 f5), (A_th_bad, iA g 1372 f6)]) (st := []) (st2 := [.int r14]) C cv_X11_rightOf tb1031 (c_X11_rightOf l g A_th A_th_trial A_th_digits V_th_thrown V_th_text V_th_textSize V_th_readPage V_th_page (.ref A_th_trial) V_th_book V_th_doings V_th_kept V_th_isKept V_th_seen V_th_seenPlace V_th_seenDigit V_th_seenIs V_th_seed (.ref A_th_plan) (.ref A_th_good) (.ref A_th_bad) (.ref A_th_signs) (.int z1) V_th_isNode V_th_base V_th_slot V_th_whichMany V_th_whichFirst V_th_value n2 th_trial f4 F r14 hM) rfl 0 rfl rfl ⟨rfl, rfl, by decide, by decide⟩ (Nat.le_of_ble_eq_true rfl) [0, 1, 4] rfl (by decide) rfl rfl dX11_isSo_123 [some 0, some 1, none, none, some 2, none, none] (by decide) ⟨⟨rfl, rfl⟩, ⟨⟨rfl, rfl⟩, ⟨rfl, ⟨rfl, ⟨⟨rfl, rfl⟩, ⟨rfl, ⟨rfl, trivial⟩⟩⟩⟩⟩⟩⟩ rfl ?_
              refine b_aload_n C dX11_isSo_126 rfl 1 rfl ?_
              refine gfX11_19 C 0 rfl rfl dX11_isSo_127 ?_
              refine b_iconst (v := 1) C dX11_isSo_130 (by decide) ?_
              refine b_iload_n C dX11_isSo_131 rfl 3 rfl ?_
              refine b_iadd C dX11_isSo_132 ?_
              refine b_iald C 1 rfl dX11_isSo_133 hm (fun v15 hm => ?_)
              obtain ⟨r16, hM, hm⟩ := bK1_some hm
              refine b_kS (w' := [(A_th, oO 10 [V_th_thrown, V_th_text, V_th_textSize, V_th_readPage, V_th_page, .ref A_th_trial, V_th_book, V_th_doings, V_th_kept, V_th_isKept, V_th_seen, V_th_seenPlace, V_th_seenDigit, V_th_seenIs, V_th_seed, .ref A_th_plan, .ref A_th_good, .ref A_th_bad, .ref A_th_signs, .int z1, .ref A_th_digits, V_th_isNode, V_th_base, V_th_slot, V_th_whichMany, V_th_whichFirst, V_th_value]), (A_th_trial, iA g 22 th_trial), (A_th_plan, iA g 1372 f2), (A_th_signs, iA g 8 f3), (A_th_digits, iA g 36 f4), (A_th_good, iA g 1372 f5), (A_th_bad, iA g 1372 f6)]) (st := [.int r14]) (st2 := [.int r16, .int r14]) C cs_X11_length tb979 (c_X11_length l g v15 F r16 hM) rfl ⟨rfl, rfl, by decide, by decide⟩ (Nat.le_of_ble_eq_true rfl) [] rfl (by decide) rfl rfl dX11_isSo_134 [none, none, none, none, none, none, none] (by decide) ⟨rfl, ⟨rfl, ⟨rfl, ⟨rfl, ⟨rfl, ⟨rfl, ⟨rfl, trivial⟩⟩⟩⟩⟩⟩⟩ rfl ?_
              refine b_iconst (v := 1) C dX11_isSo_137 (by decide) ?_
              refine b_isub C dX11_isSo_138 ?_
              refine b_icmp_ne (tgt := 146) C dX11_isSo_139 (by decide) hm (fun hm => ?_) (fun hm => ?_)
              · refine b_iconst (v := 0) C dX11_isSo_146 (by decide) ?_
                cases hm
                exact b_zret (v := 0) C (by decide) dX11_isSo_147
              · refine b_iconst (v := 1) C dX11_isSo_142 (by decide) ?_
                refine b_goto (tgt := 147) C dX11_isSo_143 (by decide) ?_
                cases hm
                exact b_zret (v := 1) C (by decide) dX11_isSo_147
      · refine b_look (off := 122) (tgt := 148) C dX11_isSo_26 (by decide) (by refine (lv_osw h13 (by decide)).trans ?_; refine (lv_osw h17 (by decide)).trans ?_; rfl) (by decide) ?_
        refine b_iload_n C dX11_isSo_148 rfl 3 rfl ?_
        refine b_if_ne (tgt := 173) C dX11_isSo_149 (by decide) hm (fun hm => ?_) (fun hm => ?_)
        · refine b_iconst (v := 0) C dX11_isSo_173 (by decide) ?_
          cases hm
          exact b_zret (v := 0) C (by decide) dX11_isSo_174
        · refine b_iload_n C dX11_isSo_152 rfl 4 rfl ?_
          refine b_if_ne (tgt := 173) C dX11_isSo_153 (by decide) hm (fun hm => ?_) (fun hm => ?_)
          · refine b_iconst (v := 0) C dX11_isSo_173 (by decide) ?_
            cases hm
            exact b_zret (v := 0) C (by decide) dX11_isSo_174
          · refine b_aload_n C dX11_isSo_156 rfl 1 rfl ?_
            refine b_aload_n C dX11_isSo_157 rfl 1 rfl ?_
            refine gfX11_19 C 0 rfl rfl dX11_isSo_158 ?_
            obtain ⟨r18, hM, hm⟩ := bK1_some hm
            refine b_kV (w' := [(A_th, oO 10 [V_th_thrown, V_th_text, V_th_textSize, V_th_readPage, V_th_page, .ref A_th_trial, V_th_book, V_th_doings, V_th_kept, V_th_isKept, V_th_seen, V_th_seenPlace, V_th_seenDigit, V_th_seenIs, V_th_seed, .ref A_th_plan, .ref A_th_good, .ref A_th_bad, .ref A_th_signs, .int z1, .ref A_th_digits, V_th_isNode, V_th_base, V_th_slot, V_th_whichMany, V_th_whichFirst, V_th_value]), (A_th_trial, iA g 22 th_trial), (A_th_plan, iA g 1372 f2), (A_th_signs, iA g 8 f3), (A_th_digits, iA g 36 f4), (A_th_good, iA g 1372 f5), (A_th_bad, iA g 1372 f6)]) (st := []) (st2 := [.int r18]) C cv_X11_rightOfAll tb1027 (c_X11_rightOfAll l g A_th A_th_trial A_th_digits V_th_thrown V_th_text V_th_textSize V_th_readPage V_th_page (.ref A_th_trial) V_th_book V_th_doings V_th_kept V_th_isKept V_th_seen V_th_seenPlace V_th_seenDigit V_th_seenIs V_th_seed (.ref A_th_plan) (.ref A_th_good) (.ref A_th_bad) (.ref A_th_signs) (.int z1) V_th_isNode V_th_base V_th_slot V_th_whichMany V_th_whichFirst V_th_value th_trial f4 F r18 hM) rfl 0 rfl rfl ⟨rfl, rfl, by decide, by decide⟩ (Nat.le_of_ble_eq_true rfl) [0, 1, 4] rfl (by decide) rfl rfl dX11_isSo_161 [some 0, some 1, none, none, some 2, none, none] (by decide) ⟨⟨rfl, rfl⟩, ⟨⟨rfl, rfl⟩, ⟨rfl, ⟨rfl, ⟨⟨rfl, rfl⟩, ⟨rfl, ⟨rfl, trivial⟩⟩⟩⟩⟩⟩⟩ rfl ?_
            refine b_iload C dX11_isSo_164 5 rfl ?_
            refine b_icmp_lt (tgt := 173) C dX11_isSo_166 (by decide) hm (fun hm => ?_) (fun hm => ?_)
            · refine b_iconst (v := 0) C dX11_isSo_173 (by decide) ?_
              cases hm
              exact b_zret (v := 0) C (by decide) dX11_isSo_174
            · refine b_iconst (v := 1) C dX11_isSo_169 (by decide) ?_
              refine b_goto (tgt := 174) C dX11_isSo_170 (by decide) ?_
              cases hm
              exact b_zret (v := 1) C (by decide) dX11_isSo_174
  refine b_icmp_ge (tgt := 22) C dX11_isSo_15 (by decide) hm (fun hm => ?_) (fun hm => ?_)
  · refine b_iconst (v := 0) C dX11_isSo_22 (by decide) ?_
    exact Wb.lv (jk9 0 hm) [0, 1, 2, 3, 4] rfl
  · refine b_iconst (v := 1) C dX11_isSo_18 (by decide) ?_
    refine b_goto (tgt := 23) C dX11_isSo_19 (by decide) ?_
    exact Wb.lv (jk9 1 hm) [0, 1, 2, 3, 4] rfl
