/-- BreakLearnerModel.isPattern(II)Z -/
def m_X11_isPattern (F : Nat)  (n1 : Int32) (n2 : Int32) (th_signMany : Int32) (th_trial : (Nat → Int32)) (th_plan : (Nat → Int32)) (th_signs : (Nat → Int32)) (th_digits : (Nat → Int32)) (th_good : (Nat → Int32)) (th_bad : (Nat → Int32)) : Option (Int32 × Int32 × (Nat → Int32) × (Nat → Int32) × (Nat → Int32) × (Nat → Int32) × (Nat → Int32)) :=
  bK6 (m_X11_learnAll F th_signMany th_trial th_plan th_signs th_digits th_good th_bad) (fun z1 f2 f3 f4 f5 f6 =>
  bK1 (m_X11_isString F n2) (fun r7 =>
  if r7 = 0 then
    some (0, z1, f2, f3, f4, f5, f6)
  else
    bK1 (m_X11_length F n2) (fun r8 =>
    if r8 < n1 then
      some (0, z1, f2, f3, f4, f5, f6)
    else
      bK1 (m_X11_sevens F n2) (fun r9 =>
      rdK 1372 f2 ((4 * r9) + n1) (fun v10 =>
      if v10 ≤ 0 then
        some (0, z1, f2, f3, f4, f5, f6)
      else
        some (1, z1, f2, f3, f4, f5, f6)
      )
      )
    )
  )
  )
abbrev rmX11_isPattern : Room := { frames := 6, cells := 0, slots := 0, locals := 149 }
set_option maxHeartbeats 4000000 in
set_option maxRecDepth 100000 in
theorem c_X11_isPattern (l : Launch) (g : Gl) (A_th A_th_trial A_th_plan A_th_signs A_th_digits A_th_good A_th_bad : Nat) (V_th_thrown V_th_text V_th_textSize V_th_readPage V_th_page V_th_book V_th_doings V_th_kept V_th_isKept V_th_seen V_th_seenPlace V_th_seenDigit V_th_seenIs V_th_seed V_th_isNode V_th_base V_th_slot V_th_whichMany V_th_whichFirst V_th_value : Value)  (n1 : Int32) (n2 : Int32) (th_signMany : Int32) (th_trial : (Nat → Int32)) (th_plan : (Nat → Int32)) (th_signs : (Nat → Int32)) (th_digits : (Nat → Int32)) (th_good : (Nat → Int32)) (th_bad : (Nat → Int32)) (F : Nat) (u : Int32 × Int32 × (Nat → Int32) × (Nat → Int32) × (Nat → Int32) × (Nat → Int32) × (Nat → Int32)) (hm : m_X11_isPattern F n1 n2 th_signMany th_trial th_plan th_signs th_digits th_good th_bad = some u) : Ct l g yX11_isPattern cX11_isPattern 3 (some .boolean) rmX11_isPattern [.ref A_th, .int n1, .int n2] [(A_th, oO 10 [V_th_thrown, V_th_text, V_th_textSize, V_th_readPage, V_th_page, .ref A_th_trial, V_th_book, V_th_doings, V_th_kept, V_th_isKept, V_th_seen, V_th_seenPlace, V_th_seenDigit, V_th_seenIs, V_th_seed, .ref A_th_plan, .ref A_th_good, .ref A_th_bad, .ref A_th_signs, .int th_signMany, .ref A_th_digits, V_th_isNode, V_th_base, V_th_slot, V_th_whichMany, V_th_whichFirst, V_th_value]), (A_th_trial, iA g 22 th_trial), (A_th_plan, iA g 1372 th_plan), (A_th_signs, iA g 8 th_signs), (A_th_digits, iA g 36 th_digits), (A_th_good, iA g 1372 th_good), (A_th_bad, iA g 1372 th_bad)] (some (.int u.1)) [(A_th, oO 10 [V_th_thrown, V_th_text, V_th_textSize, V_th_readPage, V_th_page, .ref A_th_trial, V_th_book, V_th_doings, V_th_kept, V_th_isKept, V_th_seen, V_th_seenPlace, V_th_seenDigit, V_th_seenIs, V_th_seed, .ref A_th_plan, .ref A_th_good, .ref A_th_bad, .ref A_th_signs, .int u.2.1, .ref A_th_digits, V_th_isNode, V_th_base, V_th_slot, V_th_whichMany, V_th_whichFirst, V_th_value]), (A_th_trial, iA g 22 th_trial), (A_th_plan, iA g 1372 u.2.2.1), (A_th_signs, iA g 8 u.2.2.2.1), (A_th_digits, iA g 36 u.2.2.2.2.1), (A_th_good, iA g 1372 u.2.2.2.2.2.1), (A_th_bad, iA g 1372 u.2.2.2.2.2.2)] := by
  refine ent (own := RX11) (lv := [(0, .ref A_th), (1, .int n1), (2, .int n2)]) (by decide) rfl (Nat.le_of_ble_eq_true rfl) rfl rfl ?_
  intro x C
  unfold m_X11_isPattern at hm
  refine b_aload_n C dX11_isPattern_0 rfl 0 rfl ?_
  refine b_aload_n C dX11_isPattern_1 rfl 0 rfl ?_
  refine gfX11_19 C 0 rfl rfl dX11_isPattern_2 ?_
  obtain ⟨z1, f2, f3, f4, f5, f6, hM, hm⟩ := bK6_some hm
  refine b_kV (w' := [(A_th, oO 10 [V_th_thrown, V_th_text, V_th_textSize, V_th_readPage, V_th_page, .ref A_th_trial, V_th_book, V_th_doings, V_th_kept, V_th_isKept, V_th_seen, V_th_seenPlace, V_th_seenDigit, V_th_seenIs, V_th_seed, .ref A_th_plan, .ref A_th_good, .ref A_th_bad, .ref A_th_signs, .int z1, .ref A_th_digits, V_th_isNode, V_th_base, V_th_slot, V_th_whichMany, V_th_whichFirst, V_th_value]), (A_th_trial, iA g 22 th_trial), (A_th_plan, iA g 1372 f2), (A_th_signs, iA g 8 f3), (A_th_digits, iA g 36 f4), (A_th_good, iA g 1372 f5), (A_th_bad, iA g 1372 f6)]) (st := []) (st2 := []) C cv_X11_learnAll tb963 (c_X11_learnAll l g A_th A_th_trial A_th_plan A_th_signs A_th_digits A_th_good A_th_bad V_th_thrown V_th_text V_th_textSize V_th_readPage V_th_page (.ref A_th_trial) V_th_book V_th_doings V_th_kept V_th_isKept V_th_seen V_th_seenPlace V_th_seenDigit V_th_seenIs V_th_seed V_th_isNode V_th_base V_th_slot V_th_whichMany V_th_whichFirst V_th_value th_signMany th_trial th_plan th_signs th_digits th_good th_bad F (z1, f2, f3, f4, f5, f6) hM) rfl 0 rfl rfl ⟨rfl, rfl, by decide, by decide⟩ (Nat.le_of_ble_eq_true rfl) [0, 1, 2, 3, 4, 5, 6] rfl (by decide) rfl rfl dX11_isPattern_5 [some 0, some 1, some 2, some 3, some 4, some 5, some 6] (by decide) ⟨⟨rfl, rfl⟩, ⟨⟨rfl, rfl⟩, ⟨⟨rfl, rfl⟩, ⟨⟨rfl, rfl⟩, ⟨⟨rfl, rfl⟩, ⟨⟨rfl, rfl⟩, ⟨⟨rfl, rfl⟩, trivial⟩⟩⟩⟩⟩⟩⟩ rfl ?_
  refine b_iload_n C dX11_isPattern_8 rfl 2 rfl ?_
  obtain ⟨r7, hM, hm⟩ := bK1_some hm
  refine b_kS (w' := [(A_th, oO 10 [V_th_thrown, V_th_text, V_th_textSize, V_th_readPage, V_th_page, .ref A_th_trial, V_th_book, V_th_doings, V_th_kept, V_th_isKept, V_th_seen, V_th_seenPlace, V_th_seenDigit, V_th_seenIs, V_th_seed, .ref A_th_plan, .ref A_th_good, .ref A_th_bad, .ref A_th_signs, .int z1, .ref A_th_digits, V_th_isNode, V_th_base, V_th_slot, V_th_whichMany, V_th_whichFirst, V_th_value]), (A_th_trial, iA g 22 th_trial), (A_th_plan, iA g 1372 f2), (A_th_signs, iA g 8 f3), (A_th_digits, iA g 36 f4), (A_th_good, iA g 1372 f5), (A_th_bad, iA g 1372 f6)]) (st := []) (st2 := [.int r7]) C cs_X11_isString tb1080 (c_X11_isString l g n2 F r7 hM) rfl ⟨rfl, rfl, by decide, by decide⟩ (Nat.le_of_ble_eq_true rfl) [] rfl (by decide) rfl rfl dX11_isPattern_9 [none, none, none, none, none, none, none] (by decide) ⟨rfl, ⟨rfl, ⟨rfl, ⟨rfl, ⟨rfl, ⟨rfl, ⟨rfl, trivial⟩⟩⟩⟩⟩⟩⟩ rfl ?_
  refine b_if_eq (tgt := 43) C dX11_isPattern_12 (by decide) hm (fun hm => ?_) (fun hm => ?_)
  · refine b_iconst (v := 0) C dX11_isPattern_43 (by decide) ?_
    cases hm
    exact b_zret (v := 0) C (by decide) dX11_isPattern_44
  · refine b_iload_n C dX11_isPattern_15 rfl 1 rfl ?_
    refine b_iload_n C dX11_isPattern_16 rfl 2 rfl ?_
    obtain ⟨r8, hM, hm⟩ := bK1_some hm
    refine b_kS (w' := [(A_th, oO 10 [V_th_thrown, V_th_text, V_th_textSize, V_th_readPage, V_th_page, .ref A_th_trial, V_th_book, V_th_doings, V_th_kept, V_th_isKept, V_th_seen, V_th_seenPlace, V_th_seenDigit, V_th_seenIs, V_th_seed, .ref A_th_plan, .ref A_th_good, .ref A_th_bad, .ref A_th_signs, .int z1, .ref A_th_digits, V_th_isNode, V_th_base, V_th_slot, V_th_whichMany, V_th_whichFirst, V_th_value]), (A_th_trial, iA g 22 th_trial), (A_th_plan, iA g 1372 f2), (A_th_signs, iA g 8 f3), (A_th_digits, iA g 36 f4), (A_th_good, iA g 1372 f5), (A_th_bad, iA g 1372 f6)]) (st := [.int n1]) (st2 := [.int r8, .int n1]) C cs_X11_length tb979 (c_X11_length l g n2 F r8 hM) rfl ⟨rfl, rfl, by decide, by decide⟩ (Nat.le_of_ble_eq_true rfl) [] rfl (by decide) rfl rfl dX11_isPattern_17 [none, none, none, none, none, none, none] (by decide) ⟨rfl, ⟨rfl, ⟨rfl, ⟨rfl, ⟨rfl, ⟨rfl, ⟨rfl, trivial⟩⟩⟩⟩⟩⟩⟩ rfl ?_
    refine b_icmp_gt (tgt := 43) C dX11_isPattern_20 (by decide) hm (fun hm => ?_) (fun hm => ?_)
    · refine b_iconst (v := 0) C dX11_isPattern_43 (by decide) ?_
      cases hm
      exact b_zret (v := 0) C (by decide) dX11_isPattern_44
    · refine b_aload_n C dX11_isPattern_23 rfl 0 rfl ?_
      refine gfX11_41 C 0 rfl rfl dX11_isPattern_24 ?_
      refine b_iconst (v := 4) C dX11_isPattern_27 (by decide) ?_
      refine b_iload_n C dX11_isPattern_28 rfl 2 rfl ?_
      obtain ⟨r9, hM, hm⟩ := bK1_some hm
      refine b_kS (w' := [(A_th, oO 10 [V_th_thrown, V_th_text, V_th_textSize, V_th_readPage, V_th_page, .ref A_th_trial, V_th_book, V_th_doings, V_th_kept, V_th_isKept, V_th_seen, V_th_seenPlace, V_th_seenDigit, V_th_seenIs, V_th_seed, .ref A_th_plan, .ref A_th_good, .ref A_th_bad, .ref A_th_signs, .int z1, .ref A_th_digits, V_th_isNode, V_th_base, V_th_slot, V_th_whichMany, V_th_whichFirst, V_th_value]), (A_th_trial, iA g 22 th_trial), (A_th_plan, iA g 1372 f2), (A_th_signs, iA g 8 f3), (A_th_digits, iA g 36 f4), (A_th_good, iA g 1372 f5), (A_th_bad, iA g 1372 f6)]) (st := [.int 4, .ref A_th_plan]) (st2 := [.int r9, .int 4, .ref A_th_plan]) C cs_X11_sevens tb1086 (c_X11_sevens l g n2 F r9 hM) rfl ⟨rfl, rfl, by decide, by decide⟩ (Nat.le_of_ble_eq_true rfl) [] rfl (by decide) rfl rfl dX11_isPattern_29 [none, none, none, none, none, none, none] (by decide) ⟨rfl, ⟨rfl, ⟨rfl, ⟨rfl, ⟨rfl, ⟨rfl, ⟨rfl, trivial⟩⟩⟩⟩⟩⟩⟩ rfl ?_
      refine b_imul C dX11_isPattern_32 ?_
      refine b_iload_n C dX11_isPattern_33 rfl 1 rfl ?_
      refine b_iadd C dX11_isPattern_34 ?_
      refine b_iald C 2 rfl dX11_isPattern_35 hm (fun v10 hm => ?_)
      refine b_if_le (tgt := 43) C dX11_isPattern_36 (by decide) hm (fun hm => ?_) (fun hm => ?_)
      · refine b_iconst (v := 0) C dX11_isPattern_43 (by decide) ?_
        cases hm
        exact b_zret (v := 0) C (by decide) dX11_isPattern_44
      · refine b_iconst (v := 1) C dX11_isPattern_39 (by decide) ?_
        refine b_goto (tgt := 44) C dX11_isPattern_40 (by decide) ?_
        cases hm
        exact b_zret (v := 1) C (by decide) dX11_isPattern_44
/-- BreakLearnerModel.rules(III)Z -/
def m_X11_rules (F : Nat)  (n1 : Int32) (n2 : Int32) (n3 : Int32) (th_trial : (Nat → Int32)) : Option (Int32 × (Nat → Int32)) :=
  bK1 (m_X11_in F n1.toInt64 1 4) (fun r1 =>
  jn1 (fun (y2 : Int32) =>
    if y2 = 0 then
      zK y2 (some (y2, th_trial))
    else
      stK 22 th_trial ((13 + n1) - 1) n2 (fun f4 =>
      stK 22 f4 ((17 + n1) - 1) n3 (fun f5 =>
      zK y2 (some (y2, f5))
      )
      )
    ) (fun k3 =>
    jn0 (
      k3 0
      ) (fun k6 =>
      if r1 = 0 then
        k6
      else
        if 3 ≤ n2 then
          k6
        else
          bK1 (m_X11_in F n3.toInt64 1 9) (fun r7 =>
          if r7 = 0 then
            k6
          else
            k3 1
          )
      )
    )
  )
abbrev rmX11_rules : Room := { frames := 1, cells := 0, slots := 0, locals := 25 }
set_option maxHeartbeats 4000000 in
set_option maxRecDepth 100000 in
theorem c_X11_rules (l : Launch) (g : Gl) (A_th A_th_trial : Nat) (V_th_thrown V_th_text V_th_textSize V_th_readPage V_th_page V_th_book V_th_doings V_th_kept V_th_isKept V_th_seen V_th_seenPlace V_th_seenDigit V_th_seenIs V_th_seed V_th_plan V_th_good V_th_bad V_th_signs V_th_signMany V_th_digits V_th_isNode V_th_base V_th_slot V_th_whichMany V_th_whichFirst V_th_value : Value)  (n1 : Int32) (n2 : Int32) (n3 : Int32) (th_trial : (Nat → Int32)) (F : Nat) (u : Int32 × (Nat → Int32)) (hm : m_X11_rules F n1 n2 n3 th_trial = some u) : Ct l g yX11_rules cX11_rules 5 (some .boolean) rmX11_rules [.ref A_th, .int n1, .int n2, .int n3] [(A_th, oO 10 [V_th_thrown, V_th_text, V_th_textSize, V_th_readPage, V_th_page, .ref A_th_trial, V_th_book, V_th_doings, V_th_kept, V_th_isKept, V_th_seen, V_th_seenPlace, V_th_seenDigit, V_th_seenIs, V_th_seed, V_th_plan, V_th_good, V_th_bad, V_th_signs, V_th_signMany, V_th_digits, V_th_isNode, V_th_base, V_th_slot, V_th_whichMany, V_th_whichFirst, V_th_value]), (A_th_trial, iA g 22 th_trial)] (some (.int u.1)) [(A_th, oO 10 [V_th_thrown, V_th_text, V_th_textSize, V_th_readPage, V_th_page, .ref A_th_trial, V_th_book, V_th_doings, V_th_kept, V_th_isKept, V_th_seen, V_th_seenPlace, V_th_seenDigit, V_th_seenIs, V_th_seed, V_th_plan, V_th_good, V_th_bad, V_th_signs, V_th_signMany, V_th_digits, V_th_isNode, V_th_base, V_th_slot, V_th_whichMany, V_th_whichFirst, V_th_value]), (A_th_trial, iA g 22 u.2)] := by
  refine ent (own := RX11) (lv := [(0, .ref A_th), (1, .int n1), (2, .int n2), (3, .int n3)]) (by decide) rfl (Nat.le_of_ble_eq_true rfl) rfl rfl ?_
  intro x C
  unfold m_X11_rules at hm
  refine b_iload_n C dX11_rules_0 rfl 1 rfl ?_
  refine b_i2l C dX11_rules_1 ?_
  refine b_lconst (v := 1) C dX11_rules_2 (by decide) ?_
  refine b_ldc2 C tb1075 dX11_rules_3 ?_
  obtain ⟨r1, hM, hm⟩ := bK1_some hm
  refine b_kS (w' := [(A_th, oO 10 [V_th_thrown, V_th_text, V_th_textSize, V_th_readPage, V_th_page, .ref A_th_trial, V_th_book, V_th_doings, V_th_kept, V_th_isKept, V_th_seen, V_th_seenPlace, V_th_seenDigit, V_th_seenIs, V_th_seed, V_th_plan, V_th_good, V_th_bad, V_th_signs, V_th_signMany, V_th_digits, V_th_isNode, V_th_base, V_th_slot, V_th_whichMany, V_th_whichFirst, V_th_value]), (A_th_trial, iA g 22 th_trial)]) (st := []) (st2 := [.int r1]) C cs_X11_in tb937 (c_X11_in l g n1.toInt64 1 4 F r1 hM) rfl ⟨rfl, rfl, by decide, by decide⟩ (Nat.le_of_ble_eq_true rfl) [] rfl (by decide) rfl rfl dX11_rules_6 [none, none] (by decide) ⟨rfl, ⟨rfl, trivial⟩⟩ rfl ?_
  obtain ⟨k3, hk3, hm⟩ := jn1_some hm
  have jk3 : ∀ (y2 : Int32), k3 y2 = some u → Wb x [(A_th, oO 10 [V_th_thrown, V_th_text, V_th_textSize, V_th_readPage, V_th_page, .ref A_th_trial, V_th_book, V_th_doings, V_th_kept, V_th_isKept, V_th_seen, V_th_seenPlace, V_th_seenDigit, V_th_seenIs, V_th_seed, V_th_plan, V_th_good, V_th_bad, V_th_signs, V_th_signMany, V_th_digits, V_th_isNode, V_th_base, V_th_slot, V_th_whichMany, V_th_whichFirst, V_th_value]), (A_th_trial, iA g 22 th_trial)] [(0, .ref A_th), (1, .int n1), (2, .int n2), (3, .int n3)] 34 [.int y2] := by
    intro y2 hm
    have hm := hk3 _ hm
    refine b_istore (lv' := [(4, .int y2), (0, .ref A_th), (1, .int n1), (2, .int n2), (3, .int n3)]) C dX11_rules_34 (by decide) rfl ?_
    refine b_iload C dX11_rules_36 0 rfl ?_
    refine b_if_eq (tgt := 65) C dX11_rules_38 (by decide) hm (fun hm => ?_) (fun hm => ?_)
    · refine b_iload C dX11_rules_65 0 rfl ?_
      obtain ⟨hn, hm⟩ := zK_some hm
      cases hm
      exact b_zret C hn dX11_rules_67
    · refine b_aload_n C dX11_rules_41 rfl 1 rfl ?_
      refine gfX11_19 C 0 rfl rfl dX11_rules_42 ?_
      refine b_bipush (v := 13) C dX11_rules_45 (by decide) ?_
      refine b_iload_n C dX11_rules_47 rfl 2 rfl ?_
      refine b_iadd C dX11_rules_48 ?_
      refine b_iconst (v := 1) C dX11_rules_49 (by decide) ?_
      refine b_isub C dX11_rules_50 ?_
      refine b_iload_n C dX11_rules_51 rfl 3 rfl ?_
      refine b_iast C 1 rfl dX11_rules_52 hm (fun f4 hm => Wb.to (w' := [(A_th, oO 10 [V_th_thrown, V_th_text, V_th_textSize, V_th_readPage, V_th_page, .ref A_th_trial, V_th_book, V_th_doings, V_th_kept, V_th_isKept, V_th_seen, V_th_seenPlace, V_th_seenDigit, V_th_seenIs, V_th_seed, V_th_plan, V_th_good, V_th_bad, V_th_signs, V_th_signMany, V_th_digits, V_th_isNode, V_th_base, V_th_slot, V_th_whichMany, V_th_whichFirst, V_th_value]), (A_th_trial, iA g 22 f4)]) rfl ?_)
      refine b_aload_n C dX11_rules_53 rfl 1 rfl ?_
      refine gfX11_19 C 0 rfl rfl dX11_rules_54 ?_
      refine b_bipush (v := 17) C dX11_rules_57 (by decide) ?_
      refine b_iload_n C dX11_rules_59 rfl 2 rfl ?_
      refine b_iadd C dX11_rules_60 ?_
      refine b_iconst (v := 1) C dX11_rules_61 (by decide) ?_
      refine b_isub C dX11_rules_62 ?_
      refine b_iload_n C dX11_rules_63 rfl 4 rfl ?_
      refine b_iast C 1 rfl dX11_rules_64 hm (fun f5 hm => Wb.to (w' := [(A_th, oO 10 [V_th_thrown, V_th_text, V_th_textSize, V_th_readPage, V_th_page, .ref A_th_trial, V_th_book, V_th_doings, V_th_kept, V_th_isKept, V_th_seen, V_th_seenPlace, V_th_seenDigit, V_th_seenIs, V_th_seed, V_th_plan, V_th_good, V_th_bad, V_th_signs, V_th_signMany, V_th_digits, V_th_isNode, V_th_base, V_th_slot, V_th_whichMany, V_th_whichFirst, V_th_value]), (A_th_trial, iA g 22 f5)]) rfl ?_)
      refine b_iload C dX11_rules_65 0 rfl ?_
      obtain ⟨hn, hm⟩ := zK_some hm
      cases hm
      exact b_zret C hn dX11_rules_67
  obtain ⟨k6, hk6, hm⟩ := jn0_some hm
  have jk6 : k6  = some u → Wb x [(A_th, oO 10 [V_th_thrown, V_th_text, V_th_textSize, V_th_readPage, V_th_page, .ref A_th_trial, V_th_book, V_th_doings, V_th_kept, V_th_isKept, V_th_seen, V_th_seenPlace, V_th_seenDigit, V_th_seenIs, V_th_seed, V_th_plan, V_th_good, V_th_bad, V_th_signs, V_th_signMany, V_th_digits, V_th_isNode, V_th_base, V_th_slot, V_th_whichMany, V_th_whichFirst, V_th_value]), (A_th_trial, iA g 22 th_trial)] [(0, .ref A_th), (1, .int n1), (2, .int n2), (3, .int n3)] 33 [] := by
    intro  hm
    have hm := hk6 hm
    refine b_iconst (v := 0) C dX11_rules_33 (by decide) ?_
    exact Wb.lv (jk3 0 hm) [0, 1, 2, 3] rfl
  refine b_if_eq (tgt := 33) C dX11_rules_9 (by decide) hm (fun hm => ?_) (fun hm => ?_)
  · exact Wb.lv (jk6  hm) [0, 1, 2, 3] rfl
  · refine b_iload_n C dX11_rules_12 rfl 2 rfl ?_
    refine b_iconst (v := 3) C dX11_rules_13 (by decide) ?_
    refine b_icmp_ge (tgt := 33) C dX11_rules_14 (by decide) hm (fun hm => ?_) (fun hm => ?_)
    · exact Wb.lv (jk6  hm) [0, 1, 2, 3] rfl
    · refine b_iload_n C dX11_rules_17 rfl 3 rfl ?_
      refine b_i2l C dX11_rules_18 ?_
      refine b_lconst (v := 1) C dX11_rules_19 (by decide) ?_
      refine b_ldc2 C tb1110 dX11_rules_20 ?_
      obtain ⟨r7, hM, hm⟩ := bK1_some hm
      refine b_kS (w' := [(A_th, oO 10 [V_th_thrown, V_th_text, V_th_textSize, V_th_readPage, V_th_page, .ref A_th_trial, V_th_book, V_th_doings, V_th_kept, V_th_isKept, V_th_seen, V_th_seenPlace, V_th_seenDigit, V_th_seenIs, V_th_seed, V_th_plan, V_th_good, V_th_bad, V_th_signs, V_th_signMany, V_th_digits, V_th_isNode, V_th_base, V_th_slot, V_th_whichMany, V_th_whichFirst, V_th_value]), (A_th_trial, iA g 22 th_trial)]) (st := []) (st2 := [.int r7]) C cs_X11_in tb937 (c_X11_in l g n3.toInt64 1 9 F r7 hM) rfl ⟨rfl, rfl, by decide, by decide⟩ (Nat.le_of_ble_eq_true rfl) [] rfl (by decide) rfl rfl dX11_rules_23 [none, none] (by decide) ⟨rfl, ⟨rfl, trivial⟩⟩ rfl ?_
      refine b_if_eq (tgt := 33) C dX11_rules_26 (by decide) hm (fun hm => ?_) (fun hm => ?_)
      · exact Wb.lv (jk6  hm) [0, 1, 2, 3] rfl
      · refine b_iconst (v := 1) C dX11_rules_29 (by decide) ?_
        refine b_goto (tgt := 34) C dX11_rules_30 (by decide) ?_
        exact Wb.lv (jk3 1 hm) [0, 1, 2, 3] rfl
/-- BreakLearnerModel.turns(II)Z -/
def m_X11_turns (F : Nat)  (n1 : Int32) (n2 : Int32) (th_trial : (Nat → Int32)) : Option (Int32 × (Nat → Int32)) :=
  rdK 22 th_trial 0 (fun v1 =>
  jn1 (fun (y2 : Int32) =>
    if y2 = 0 then
      zK y2 (some (y2, th_trial))
    else
      rdK 22 th_trial (7 + n1) (fun v4 =>
      stK 22 th_trial (7 + n1) (v4 ^^^ (1 <<< (n2 &&& 31))) (fun f5 =>
      zK y2 (some (y2, f5))
      )
      )
    ) (fun k3 =>
    jn0 (
      k3 0
      ) (fun k6 =>
      if v1 ≤ n1 then
        k6
      else
        rdK 22 th_trial (1 + n1) (fun v7 =>
        bK1 (m_X11_length F v7) (fun r8 =>
        if (r8 - 1) ≤ n2 then
          k6
        else
          k3 1
        )
        )
      )
    )
  )
abbrev rmX11_turns : Room := { frames := 1, cells := 0, slots := 0, locals := 22 }
set_option maxHeartbeats 4000000 in
set_option maxRecDepth 100000 in
theorem c_X11_turns (l : Launch) (g : Gl) (A_th A_th_trial : Nat) (V_th_thrown V_th_text V_th_textSize V_th_readPage V_th_page V_th_book V_th_doings V_th_kept V_th_isKept V_th_seen V_th_seenPlace V_th_seenDigit V_th_seenIs V_th_seed V_th_plan V_th_good V_th_bad V_th_signs V_th_signMany V_th_digits V_th_isNode V_th_base V_th_slot V_th_whichMany V_th_whichFirst V_th_value : Value)  (n1 : Int32) (n2 : Int32) (th_trial : (Nat → Int32)) (F : Nat) (u : Int32 × (Nat → Int32)) (hm : m_X11_turns F n1 n2 th_trial = some u) : Ct l g yX11_turns cX11_turns 4 (some .boolean) rmX11_turns [.ref A_th, .int n1, .int n2] [(A_th, oO 10 [V_th_thrown, V_th_text, V_th_textSize, V_th_readPage, V_th_page, .ref A_th_trial, V_th_book, V_th_doings, V_th_kept, V_th_isKept, V_th_seen, V_th_seenPlace, V_th_seenDigit, V_th_seenIs, V_th_seed, V_th_plan, V_th_good, V_th_bad, V_th_signs, V_th_signMany, V_th_digits, V_th_isNode, V_th_base, V_th_slot, V_th_whichMany, V_th_whichFirst, V_th_value]), (A_th_trial, iA g 22 th_trial)] (some (.int u.1)) [(A_th, oO 10 [V_th_thrown, V_th_text, V_th_textSize, V_th_readPage, V_th_page, .ref A_th_trial, V_th_book, V_th_doings, V_th_kept, V_th_isKept, V_th_seen, V_th_seenPlace, V_th_seenDigit, V_th_seenIs, V_th_seed, V_th_plan, V_th_good, V_th_bad, V_th_signs, V_th_signMany, V_th_digits, V_th_isNode, V_th_base, V_th_slot, V_th_whichMany, V_th_whichFirst, V_th_value]), (A_th_trial, iA g 22 u.2)] := by
  refine ent (own := RX11) (lv := [(0, .ref A_th), (1, .int n1), (2, .int n2)]) (by decide) rfl (Nat.le_of_ble_eq_true rfl) rfl rfl ?_
  intro x C
  unfold m_X11_turns at hm
  refine b_iload_n C dX11_turns_0 rfl 1 rfl ?_
  refine b_aload_n C dX11_turns_1 rfl 0 rfl ?_
  refine gfX11_19 C 0 rfl rfl dX11_turns_2 ?_
  refine b_iconst (v := 0) C dX11_turns_5 (by decide) ?_
  refine b_iald C 1 rfl dX11_turns_6 hm (fun v1 hm => ?_)
  obtain ⟨k3, hk3, hm⟩ := jn1_some hm
  have jk3 : ∀ (y2 : Int32), k3 y2 = some u → Wb x [(A_th, oO 10 [V_th_thrown, V_th_text, V_th_textSize, V_th_readPage, V_th_page, .ref A_th_trial, V_th_book, V_th_doings, V_th_kept, V_th_isKept, V_th_seen, V_th_seenPlace, V_th_seenDigit, V_th_seenIs, V_th_seed, V_th_plan, V_th_good, V_th_bad, V_th_signs, V_th_signMany, V_th_digits, V_th_isNode, V_th_base, V_th_slot, V_th_whichMany, V_th_whichFirst, V_th_value]), (A_th_trial, iA g 22 th_trial)] [(0, .ref A_th), (1, .int n1), (2, .int n2)] 32 [.int y2] := by
    intro y2 hm
    have hm := hk3 _ hm
    refine b_istore_n (lv' := [(3, .int y2), (0, .ref A_th), (1, .int n1), (2, .int n2)]) C dX11_turns_32 rfl (by decide) rfl ?_
    refine b_iload_n C dX11_turns_33 rfl 0 rfl ?_
    refine b_if_eq (tgt := 52) C dX11_turns_34 (by decide) hm (fun hm => ?_) (fun hm => ?_)
    · refine b_iload_n C dX11_turns_52 rfl 0 rfl ?_
      obtain ⟨hn, hm⟩ := zK_some hm
      cases hm
      exact b_zret C hn dX11_turns_53
    · refine b_aload_n C dX11_turns_37 rfl 1 rfl ?_
      refine gfX11_19 C 0 rfl rfl dX11_turns_38 ?_
      refine b_bipush (v := 7) C dX11_turns_41 (by decide) ?_
      refine b_iload_n C dX11_turns_43 rfl 2 rfl ?_
      refine b_iadd C dX11_turns_44 ?_
      refine b_dup2 C dX11_turns_45 rfl rfl ?_
      refine b_iald C 1 rfl dX11_turns_46 hm (fun v4 hm => ?_)
      refine b_iconst (v := 1) C dX11_turns_47 (by decide) ?_
      refine b_iload_n C dX11_turns_48 rfl 3 rfl ?_
      refine b_ishl C dX11_turns_49 ?_
      refine b_ixor C dX11_turns_50 ?_
      refine b_iast C 1 rfl dX11_turns_51 hm (fun f5 hm => Wb.to (w' := [(A_th, oO 10 [V_th_thrown, V_th_text, V_th_textSize, V_th_readPage, V_th_page, .ref A_th_trial, V_th_book, V_th_doings, V_th_kept, V_th_isKept, V_th_seen, V_th_seenPlace, V_th_seenDigit, V_th_seenIs, V_th_seed, V_th_plan, V_th_good, V_th_bad, V_th_signs, V_th_signMany, V_th_digits, V_th_isNode, V_th_base, V_th_slot, V_th_whichMany, V_th_whichFirst, V_th_value]), (A_th_trial, iA g 22 f5)]) rfl ?_)
      refine b_iload_n C dX11_turns_52 rfl 0 rfl ?_
      obtain ⟨hn, hm⟩ := zK_some hm
      cases hm
      exact b_zret C hn dX11_turns_53
  obtain ⟨k6, hk6, hm⟩ := jn0_some hm
  have jk6 : k6  = some u → Wb x [(A_th, oO 10 [V_th_thrown, V_th_text, V_th_textSize, V_th_readPage, V_th_page, .ref A_th_trial, V_th_book, V_th_doings, V_th_kept, V_th_isKept, V_th_seen, V_th_seenPlace, V_th_seenDigit, V_th_seenIs, V_th_seed, V_th_plan, V_th_good, V_th_bad, V_th_signs, V_th_signMany, V_th_digits, V_th_isNode, V_th_base, V_th_slot, V_th_whichMany, V_th_whichFirst, V_th_value]), (A_th_trial, iA g 22 th_trial)] [(0, .ref A_th), (1, .int n1), (2, .int n2)] 31 [] := by
    intro  hm
    have hm := hk6 hm
    refine b_iconst (v := 0) C dX11_turns_31 (by decide) ?_
    exact Wb.lv (jk3 0 hm) [0, 1, 2] rfl
  refine b_icmp_ge (tgt := 31) C dX11_turns_7 (by decide) hm (fun hm => ?_) (fun hm => ?_)
  · exact Wb.lv (jk6  hm) [0, 1, 2] rfl
  · refine b_iload_n C dX11_turns_10 rfl 2 rfl ?_
    refine b_aload_n C dX11_turns_11 rfl 0 rfl ?_
    refine gfX11_19 C 0 rfl rfl dX11_turns_12 ?_
    refine b_iconst (v := 1) C dX11_turns_15 (by decide) ?_
    refine b_iload_n C dX11_turns_16 rfl 1 rfl ?_
    refine b_iadd C dX11_turns_17 ?_
    refine b_iald C 1 rfl dX11_turns_18 hm (fun v7 hm => ?_)
    obtain ⟨r8, hM, hm⟩ := bK1_some hm
    refine b_kS (w' := [(A_th, oO 10 [V_th_thrown, V_th_text, V_th_textSize, V_th_readPage, V_th_page, .ref A_th_trial, V_th_book, V_th_doings, V_th_kept, V_th_isKept, V_th_seen, V_th_seenPlace, V_th_seenDigit, V_th_seenIs, V_th_seed, V_th_plan, V_th_good, V_th_bad, V_th_signs, V_th_signMany, V_th_digits, V_th_isNode, V_th_base, V_th_slot, V_th_whichMany, V_th_whichFirst, V_th_value]), (A_th_trial, iA g 22 th_trial)]) (st := [.int n2]) (st2 := [.int r8, .int n2]) C cs_X11_length tb979 (c_X11_length l g v7 F r8 hM) rfl ⟨rfl, rfl, by decide, by decide⟩ (Nat.le_of_ble_eq_true rfl) [] rfl (by decide) rfl rfl dX11_turns_19 [none, none] (by decide) ⟨rfl, ⟨rfl, trivial⟩⟩ rfl ?_
    refine b_iconst (v := 1) C dX11_turns_22 (by decide) ?_
    refine b_isub C dX11_turns_23 ?_
    refine b_icmp_ge (tgt := 31) C dX11_turns_24 (by decide) hm (fun hm => ?_) (fun hm => ?_)
    · exact Wb.lv (jk6  hm) [0, 1, 2] rfl
    · refine b_iconst (v := 1) C dX11_turns_27 (by decide) ?_
      refine b_goto (tgt := 32) C dX11_turns_28 (by decide) ?_
      exact Wb.lv (jk3 1 hm) [0, 1, 2] rfl
/-- BreakLearnerModel.studies()Z -/
def m_X11_studies (F : Nat)   (th_trial : (Nat → Int32)) : Option (Int32 × (Nat → Int32)) :=
  rdK 22 th_trial 21 (fun v1 =>
  jn1 (fun (y2 : Int32) =>
    rdK 22 th_trial 21 (fun v4 =>
    jn1 (fun (y5 : Int32) =>
      stK 22 th_trial 21 (v4 + y5) (fun f7 =>
      zK y2 (some (y2, f7))
      )
      ) (fun k6 =>
      if y2 = 0 then
        k6 0
      else
        k6 1
      )
    )
    ) (fun k3 =>
    if 4 ≤ v1 then
      k3 0
    else
      k3 1
    )
  )
abbrev rmX11_studies : Room := { frames := 0, cells := 0, slots := 0, locals := 0 }
set_option maxHeartbeats 4000000 in
set_option maxRecDepth 100000 in
theorem c_X11_studies (l : Launch) (g : Gl) (A_th A_th_trial : Nat) (V_th_thrown V_th_text V_th_textSize V_th_readPage V_th_page V_th_book V_th_doings V_th_kept V_th_isKept V_th_seen V_th_seenPlace V_th_seenDigit V_th_seenIs V_th_seed V_th_plan V_th_good V_th_bad V_th_signs V_th_signMany V_th_digits V_th_isNode V_th_base V_th_slot V_th_whichMany V_th_whichFirst V_th_value : Value)   (th_trial : (Nat → Int32)) (F : Nat) (u : Int32 × (Nat → Int32)) (hm : m_X11_studies F th_trial = some u) : Ct l g yX11_studies cX11_studies 2 (some .boolean) rmX11_studies [.ref A_th] [(A_th, oO 10 [V_th_thrown, V_th_text, V_th_textSize, V_th_readPage, V_th_page, .ref A_th_trial, V_th_book, V_th_doings, V_th_kept, V_th_isKept, V_th_seen, V_th_seenPlace, V_th_seenDigit, V_th_seenIs, V_th_seed, V_th_plan, V_th_good, V_th_bad, V_th_signs, V_th_signMany, V_th_digits, V_th_isNode, V_th_base, V_th_slot, V_th_whichMany, V_th_whichFirst, V_th_value]), (A_th_trial, iA g 22 th_trial)] (some (.int u.1)) [(A_th, oO 10 [V_th_thrown, V_th_text, V_th_textSize, V_th_readPage, V_th_page, .ref A_th_trial, V_th_book, V_th_doings, V_th_kept, V_th_isKept, V_th_seen, V_th_seenPlace, V_th_seenDigit, V_th_seenIs, V_th_seed, V_th_plan, V_th_good, V_th_bad, V_th_signs, V_th_signMany, V_th_digits, V_th_isNode, V_th_base, V_th_slot, V_th_whichMany, V_th_whichFirst, V_th_value]), (A_th_trial, iA g 22 u.2)] := by
  refine ent (own := RX11) (lv := [(0, .ref A_th)]) (by decide) rfl (Nat.le_of_ble_eq_true rfl) rfl rfl ?_
  intro x C
  unfold m_X11_studies at hm
  refine b_aload_n C dX11_studies_0 rfl 0 rfl ?_
  refine gfX11_19 C 0 rfl rfl dX11_studies_1 ?_
  refine b_bipush (v := 21) C dX11_studies_4 (by decide) ?_
  refine b_iald C 1 rfl dX11_studies_6 hm (fun v1 hm => ?_)
  refine b_iconst (v := 4) C dX11_studies_7 (by decide) ?_
  obtain ⟨k3, hk3, hm⟩ := jn1_some hm
  have jk3 : ∀ (y2 : Int32), k3 y2 = some u → Wb x [(A_th, oO 10 [V_th_thrown, V_th_text, V_th_textSize, V_th_readPage, V_th_page, .ref A_th_trial, V_th_book, V_th_doings, V_th_kept, V_th_isKept, V_th_seen, V_th_seenPlace, V_th_seenDigit, V_th_seenIs, V_th_seed, V_th_plan, V_th_good, V_th_bad, V_th_signs, V_th_signMany, V_th_digits, V_th_isNode, V_th_base, V_th_slot, V_th_whichMany, V_th_whichFirst, V_th_value]), (A_th_trial, iA g 22 th_trial)] [(0, .ref A_th)] 16 [.int y2] := by
    intro y2 hm
    have hm := hk3 _ hm
    refine b_istore_n (lv' := [(1, .int y2), (0, .ref A_th)]) C dX11_studies_16 rfl (by decide) rfl ?_
    refine b_aload_n C dX11_studies_17 rfl 1 rfl ?_
    refine gfX11_19 C 0 rfl rfl dX11_studies_18 ?_
    refine b_bipush (v := 21) C dX11_studies_21 (by decide) ?_
    refine b_dup2 C dX11_studies_23 rfl rfl ?_
    refine b_iald C 1 rfl dX11_studies_24 hm (fun v4 hm => ?_)
    refine b_iload_n C dX11_studies_25 rfl 0 rfl ?_
    obtain ⟨k6, hk6, hm⟩ := jn1_some hm
    have jk6 : ∀ (y5 : Int32), k6 y5 = some u → Wb x [(A_th, oO 10 [V_th_thrown, V_th_text, V_th_textSize, V_th_readPage, V_th_page, .ref A_th_trial, V_th_book, V_th_doings, V_th_kept, V_th_isKept, V_th_seen, V_th_seenPlace, V_th_seenDigit, V_th_seenIs, V_th_seed, V_th_plan, V_th_good, V_th_bad, V_th_signs, V_th_signMany, V_th_digits, V_th_isNode, V_th_base, V_th_slot, V_th_whichMany, V_th_whichFirst, V_th_value]), (A_th_trial, iA g 22 th_trial)] [(1, .int y2)] 34 [.int y5, .int v4, .int 21, .ref A_th_trial] := by
      intro y5 hm
      have hm := hk6 _ hm
      refine b_iadd C dX11_studies_34 ?_
      refine b_iast C 1 rfl dX11_studies_35 hm (fun f7 hm => Wb.to (w' := [(A_th, oO 10 [V_th_thrown, V_th_text, V_th_textSize, V_th_readPage, V_th_page, .ref A_th_trial, V_th_book, V_th_doings, V_th_kept, V_th_isKept, V_th_seen, V_th_seenPlace, V_th_seenDigit, V_th_seenIs, V_th_seed, V_th_plan, V_th_good, V_th_bad, V_th_signs, V_th_signMany, V_th_digits, V_th_isNode, V_th_base, V_th_slot, V_th_whichMany, V_th_whichFirst, V_th_value]), (A_th_trial, iA g 22 f7)]) rfl ?_)
      refine b_iload_n C dX11_studies_36 rfl 0 rfl ?_
      obtain ⟨hn, hm⟩ := zK_some hm
      cases hm
      exact b_zret C hn dX11_studies_37
    refine b_if_eq (tgt := 33) C dX11_studies_26 (by decide) hm (fun hm => ?_) (fun hm => ?_)
    · refine b_iconst (v := 0) C dX11_studies_33 (by decide) ?_
      exact Wb.lv (jk6 0 hm) [0] rfl
    · refine b_iconst (v := 1) C dX11_studies_29 (by decide) ?_
      refine b_goto (tgt := 34) C dX11_studies_30 (by decide) ?_
      exact Wb.lv (jk6 1 hm) [0] rfl
  refine b_icmp_ge (tgt := 15) C dX11_studies_8 (by decide) hm (fun hm => ?_) (fun hm => ?_)
  · refine b_iconst (v := 0) C dX11_studies_15 (by decide) ?_
    exact Wb.lv (jk3 0 hm) [0] rfl
  · refine b_iconst (v := 1) C dX11_studies_11 (by decide) ?_
    refine b_goto (tgt := 16) C dX11_studies_12 (by decide) ?_
    exact Wb.lv (jk3 1 hm) [0] rfl
/-- BreakLearnerModel.does(I)Z -/
def m_X11_does (F : Nat)  (n1 : Int32) (th_signMany : Int32) (th_trial : (Nat → Int32)) (th_plan : (Nat → Int32)) (th_signs : (Nat → Int32)) (th_digits : (Nat → Int32)) (th_good : (Nat → Int32)) (th_bad : (Nat → Int32)) : Option (Int32 × Int32 × (Nat → Int32) × (Nat → Int32) × (Nat → Int32) × (Nat → Int32) × (Nat → Int32) × (Nat → Int32)) :=
  letK (n1 / 10000) (fun x1 =>
  letK (irm (n1 / 1000) 10) (fun x2 =>
  letK (irm (n1 / 100) 10) (fun x3 =>
  letK (irm n1 100) (fun x4 =>
  if x1 = 1 then
    if x4 = 0 then
      bK2 (m_X11_turns F x2 x3 th_trial) (fun r5 f6 =>
      if r5 = 0 then
        some (0, th_signMany, f6, th_plan, th_signs, th_digits, th_good, th_bad)
      else
        some (1, th_signMany, f6, th_plan, th_signs, th_digits, th_good, th_bad)
      )
    else
      some (0, th_signMany, th_trial, th_plan, th_signs, th_digits, th_good, th_bad)
  else
    if x1 = 2 then
      bK2 (m_X11_rules F x2 x3 x4 th_trial) (fun r8 f9 =>
      zK r8 (some (r8, th_signMany, f9, th_plan, th_signs, th_digits, th_good, th_bad))
      )
    else
      if x1 = 3 then
        if n1 = 30000 then
          bK2 (m_X11_studies F th_trial) (fun r11 f12 =>
          if r11 = 0 then
            some (0, th_signMany, f12, th_plan, th_signs, th_digits, th_good, th_bad)
          else
            some (1, th_signMany, f12, th_plan, th_signs, th_digits, th_good, th_bad)
          )
        else
          some (0, th_signMany, th_trial, th_plan, th_signs, th_digits, th_good, th_bad)
      else
        if x1 = 4 then
          bK1 (m_X11_in F x1.toInt64 4 6) (fun r14 =>
          if r14 = 0 then
            some (0, th_signMany, th_trial, th_plan, th_signs, th_digits, th_good, th_bad)
          else
            bK7 (m_X11_isSo F x1 x2 x3 x4 th_signMany th_trial th_plan th_signs th_digits th_good th_bad) (fun r15 z16 f17 f18 f19 f20 f21 =>
            if r15 = 0 then
              some (0, z16, th_trial, f17, f18, f19, f20, f21)
            else
              some (1, z16, th_trial, f17, f18, f19, f20, f21)
            )
          )
        else
          if x1 = 5 then
            bK1 (m_X11_in F x1.toInt64 4 6) (fun r23 =>
            if r23 = 0 then
              some (0, th_signMany, th_trial, th_plan, th_signs, th_digits, th_good, th_bad)
            else
              bK7 (m_X11_isSo F x1 x2 x3 x4 th_signMany th_trial th_plan th_signs th_digits th_good th_bad) (fun r24 z25 f26 f27 f28 f29 f30 =>
              if r24 = 0 then
                some (0, z25, th_trial, f26, f27, f28, f29, f30)
              else
                some (1, z25, th_trial, f26, f27, f28, f29, f30)
              )
            )
          else
            if x1 = 6 then
              bK1 (m_X11_in F x1.toInt64 4 6) (fun r32 =>
              if r32 = 0 then
                some (0, th_signMany, th_trial, th_plan, th_signs, th_digits, th_good, th_bad)
              else
                bK7 (m_X11_isSo F x1 x2 x3 x4 th_signMany th_trial th_plan th_signs th_digits th_good th_bad) (fun r33 z34 f35 f36 f37 f38 f39 =>
                if r33 = 0 then
                  some (0, z34, th_trial, f35, f36, f37, f38, f39)
                else
                  some (1, z34, th_trial, f35, f36, f37, f38, f39)
                )
              )
            else
              if x1 = 7 then
                bK7 (m_X11_isPattern F x2 (irm n1 1000) th_signMany th_trial th_plan th_signs th_digits th_good th_bad) (fun r41 z42 f43 f44 f45 f46 f47 =>
                zK r41 (some (r41, z42, th_trial, f43, f44, f45, f46, f47))
                )
              else
                bK1 (m_X11_in F x1.toInt64 4 6) (fun r49 =>
                if r49 = 0 then
                  some (0, th_signMany, th_trial, th_plan, th_signs, th_digits, th_good, th_bad)
                else
                  bK7 (m_X11_isSo F x1 x2 x3 x4 th_signMany th_trial th_plan th_signs th_digits th_good th_bad) (fun r50 z51 f52 f53 f54 f55 f56 =>
                  if r50 = 0 then
                    some (0, z51, th_trial, f52, f53, f54, f55, f56)
                  else
                    some (1, z51, th_trial, f52, f53, f54, f55, f56)
                  )
                )
  )
  )
  )
  )
abbrev rmX11_does : Room := { frames := 7, cells := 0, slots := 0, locals := 174 }
set_option maxHeartbeats 4000000 in
set_option maxRecDepth 100000 in
theorem c_X11_does (l : Launch) (g : Gl) (A_th A_th_trial A_th_plan A_th_signs A_th_digits A_th_good A_th_bad : Nat) (V_th_thrown V_th_text V_th_textSize V_th_readPage V_th_page V_th_book V_th_doings V_th_kept V_th_isKept V_th_seen V_th_seenPlace V_th_seenDigit V_th_seenIs V_th_seed V_th_isNode V_th_base V_th_slot V_th_whichMany V_th_whichFirst V_th_value : Value)  (n1 : Int32) (th_signMany : Int32) (th_trial : (Nat → Int32)) (th_plan : (Nat → Int32)) (th_signs : (Nat → Int32)) (th_digits : (Nat → Int32)) (th_good : (Nat → Int32)) (th_bad : (Nat → Int32)) (F : Nat) (u : Int32 × Int32 × (Nat → Int32) × (Nat → Int32) × (Nat → Int32) × (Nat → Int32) × (Nat → Int32) × (Nat → Int32)) (hm : m_X11_does F n1 th_signMany th_trial th_plan th_signs th_digits th_good th_bad = some u) : Ct l g yX11_does cX11_does 6 (some .boolean) rmX11_does [.ref A_th, .int n1] [(A_th, oO 10 [V_th_thrown, V_th_text, V_th_textSize, V_th_readPage, V_th_page, .ref A_th_trial, V_th_book, V_th_doings, V_th_kept, V_th_isKept, V_th_seen, V_th_seenPlace, V_th_seenDigit, V_th_seenIs, V_th_seed, .ref A_th_plan, .ref A_th_good, .ref A_th_bad, .ref A_th_signs, .int th_signMany, .ref A_th_digits, V_th_isNode, V_th_base, V_th_slot, V_th_whichMany, V_th_whichFirst, V_th_value]), (A_th_trial, iA g 22 th_trial), (A_th_plan, iA g 1372 th_plan), (A_th_signs, iA g 8 th_signs), (A_th_digits, iA g 36 th_digits), (A_th_good, iA g 1372 th_good), (A_th_bad, iA g 1372 th_bad)] (some (.int u.1)) [(A_th, oO 10 [V_th_thrown, V_th_text, V_th_textSize, V_th_readPage, V_th_page, .ref A_th_trial, V_th_book, V_th_doings, V_th_kept, V_th_isKept, V_th_seen, V_th_seenPlace, V_th_seenDigit, V_th_seenIs, V_th_seed, .ref A_th_plan, .ref A_th_good, .ref A_th_bad, .ref A_th_signs, .int u.2.1, .ref A_th_digits, V_th_isNode, V_th_base, V_th_slot, V_th_whichMany, V_th_whichFirst, V_th_value]), (A_th_trial, iA g 22 u.2.2.1), (A_th_plan, iA g 1372 u.2.2.2.1), (A_th_signs, iA g 8 u.2.2.2.2.1), (A_th_digits, iA g 36 u.2.2.2.2.2.1), (A_th_good, iA g 1372 u.2.2.2.2.2.2.1), (A_th_bad, iA g 1372 u.2.2.2.2.2.2.2)] := by
  refine ent (own := RX11) (lv := [(0, .ref A_th), (1, .int n1)]) (by decide) rfl (Nat.le_of_ble_eq_true rfl) rfl rfl ?_
  intro x C
  unfold m_X11_does at hm
  refine b_iload_n C dX11_does_0 rfl 1 rfl ?_
  refine b_sipush (v := 10000) C dX11_does_1 (by decide) ?_
  refine b_idiv C dX11_does_4 (by decide) ?_
  refine b_topi hm (fun x1 hm => ?_)
  refine b_istore_n (lv' := [(2, .int x1), (0, .ref A_th), (1, .int n1)]) C dX11_does_5 rfl (by decide) rfl ?_
  refine b_iload_n C dX11_does_6 rfl 2 rfl ?_
  refine b_sipush (v := 1000) C dX11_does_7 (by decide) ?_
  refine b_idiv C dX11_does_10 (by decide) ?_
  refine b_bipush (v := 10) C dX11_does_11 (by decide) ?_
  refine b_irem C dX11_does_13 (by decide) ?_
  refine b_topi hm (fun x2 hm => ?_)
  refine b_istore_n (lv' := [(3, .int x2), (2, .int x1), (0, .ref A_th), (1, .int n1)]) C dX11_does_14 rfl (by decide) rfl ?_
  refine b_iload_n C dX11_does_15 rfl 3 rfl ?_
  refine b_bipush (v := 100) C dX11_does_16 (by decide) ?_
  refine b_idiv C dX11_does_18 (by decide) ?_
  refine b_bipush (v := 10) C dX11_does_19 (by decide) ?_
  refine b_irem C dX11_does_21 (by decide) ?_
  refine b_topi hm (fun x3 hm => ?_)
  refine b_istore (lv' := [(4, .int x3), (3, .int x2), (2, .int x1), (0, .ref A_th), (1, .int n1)]) C dX11_does_22 (by decide) rfl ?_
  refine b_iload_n C dX11_does_24 rfl 4 rfl ?_
  refine b_bipush (v := 100) C dX11_does_25 (by decide) ?_
  refine b_irem C dX11_does_27 (by decide) ?_
  refine b_topi hm (fun x4 hm => ?_)
  refine b_istore (lv' := [(5, .int x4), (4, .int x3), (3, .int x2), (2, .int x1), (0, .ref A_th), (1, .int n1)]) C dX11_does_28 (by decide) rfl ?_
  refine b_iload_n C dX11_does_30 rfl 3 rfl ?_
  rcases sw_some hm with ⟨h7, hm⟩ | ⟨h7, hm⟩
  · refine b_tin (tgt := 72) C h7 dX11_does_31 (by decide) (by decide) rfl (by decide) ?_
    refine b_iload C dX11_does_72 0 rfl ?_
    refine b_if_ne (tgt := 91) C dX11_does_74 (by decide) hm (fun hm => ?_) (fun hm => ?_)
    · refine b_iconst (v := 0) C dX11_does_91 (by decide) ?_
      cases hm
      exact b_zret (v := 0) C (by decide) dX11_does_92
    · refine b_aload_n C dX11_does_77 rfl 4 rfl ?_
      refine b_iload_n C dX11_does_78 rfl 2 rfl ?_
      refine b_iload C dX11_does_79 1 rfl ?_
      obtain ⟨r5, f6, hM, hm⟩ := bK2_some hm
      refine b_kV (w' := [(A_th, oO 10 [V_th_thrown, V_th_text, V_th_textSize, V_th_readPage, V_th_page, .ref A_th_trial, V_th_book, V_th_doings, V_th_kept, V_th_isKept, V_th_seen, V_th_seenPlace, V_th_seenDigit, V_th_seenIs, V_th_seed, .ref A_th_plan, .ref A_th_good, .ref A_th_bad, .ref A_th_signs, .int th_signMany, .ref A_th_digits, V_th_isNode, V_th_base, V_th_slot, V_th_whichMany, V_th_whichFirst, V_th_value]), (A_th_trial, iA g 22 f6), (A_th_plan, iA g 1372 th_plan), (A_th_signs, iA g 8 th_signs), (A_th_digits, iA g 36 th_digits), (A_th_good, iA g 1372 th_good), (A_th_bad, iA g 1372 th_bad)]) (st := []) (st2 := [.int r5]) C cv_X11_turns tb1155 (c_X11_turns l g A_th A_th_trial V_th_thrown V_th_text V_th_textSize V_th_readPage V_th_page V_th_book V_th_doings V_th_kept V_th_isKept V_th_seen V_th_seenPlace V_th_seenDigit V_th_seenIs V_th_seed (.ref A_th_plan) (.ref A_th_good) (.ref A_th_bad) (.ref A_th_signs) (.int th_signMany) (.ref A_th_digits) V_th_isNode V_th_base V_th_slot V_th_whichMany V_th_whichFirst V_th_value x2 x3 th_trial F (r5, f6) hM) rfl 0 rfl rfl ⟨rfl, rfl, by decide, by decide⟩ (Nat.le_of_ble_eq_true rfl) [0, 1] rfl (by decide) rfl rfl dX11_does_81 [some 0, some 1, none, none, none, none, none] (by decide) ⟨⟨rfl, rfl⟩, ⟨⟨rfl, rfl⟩, ⟨rfl, ⟨rfl, ⟨rfl, ⟨rfl, ⟨rfl, trivial⟩⟩⟩⟩⟩⟩⟩ rfl ?_
      refine b_if_eq (tgt := 91) C dX11_does_84 (by decide) hm (fun hm => ?_) (fun hm => ?_)
      · refine b_iconst (v := 0) C dX11_does_91 (by decide) ?_
        cases hm
        exact b_zret (v := 0) C (by decide) dX11_does_92
      · refine b_iconst (v := 1) C dX11_does_87 (by decide) ?_
        refine b_goto (tgt := 92) C dX11_does_88 (by decide) ?_
        cases hm
        exact b_zret (v := 1) C (by decide) dX11_does_92
  · rcases sw_some hm with ⟨h10, hm⟩ | ⟨h10, hm⟩
    · refine b_tin (tgt := 93) C h10 dX11_does_31 (by decide) (by decide) rfl (by decide) ?_
      refine b_aload_n C dX11_does_93 rfl 4 rfl ?_
      refine b_iload_n C dX11_does_94 rfl 2 rfl ?_
      refine b_iload C dX11_does_95 1 rfl ?_
      refine b_iload C dX11_does_97 0 rfl ?_
      obtain ⟨r8, f9, hM, hm⟩ := bK2_some hm
      refine b_kV (w' := [(A_th, oO 10 [V_th_thrown, V_th_text, V_th_textSize, V_th_readPage, V_th_page, .ref A_th_trial, V_th_book, V_th_doings, V_th_kept, V_th_isKept, V_th_seen, V_th_seenPlace, V_th_seenDigit, V_th_seenIs, V_th_seed, .ref A_th_plan, .ref A_th_good, .ref A_th_bad, .ref A_th_signs, .int th_signMany, .ref A_th_digits, V_th_isNode, V_th_base, V_th_slot, V_th_whichMany, V_th_whichFirst, V_th_value]), (A_th_trial, iA g 22 f9), (A_th_plan, iA g 1372 th_plan), (A_th_signs, iA g 8 th_signs), (A_th_digits, iA g 36 th_digits), (A_th_good, iA g 1372 th_good), (A_th_bad, iA g 1372 th_bad)]) (st := []) (st2 := [.int r8]) C cv_X11_rules tb1159 (c_X11_rules l g A_th A_th_trial V_th_thrown V_th_text V_th_textSize V_th_readPage V_th_page V_th_book V_th_doings V_th_kept V_th_isKept V_th_seen V_th_seenPlace V_th_seenDigit V_th_seenIs V_th_seed (.ref A_th_plan) (.ref A_th_good) (.ref A_th_bad) (.ref A_th_signs) (.int th_signMany) (.ref A_th_digits) V_th_isNode V_th_base V_th_slot V_th_whichMany V_th_whichFirst V_th_value x2 x3 x4 th_trial F (r8, f9) hM) rfl 0 rfl rfl ⟨rfl, rfl, by decide, by decide⟩ (Nat.le_of_ble_eq_true rfl) [0, 1] rfl (by decide) rfl rfl dX11_does_99 [some 0, some 1, none, none, none, none, none] (by decide) ⟨⟨rfl, rfl⟩, ⟨⟨rfl, rfl⟩, ⟨rfl, ⟨rfl, ⟨rfl, ⟨rfl, ⟨rfl, trivial⟩⟩⟩⟩⟩⟩⟩ rfl ?_
      obtain ⟨hn, hm⟩ := zK_some hm
      cases hm
      exact b_zret C hn dX11_does_102
    · rcases sw_some hm with ⟨h13, hm⟩ | ⟨h13, hm⟩
      · refine b_tin (tgt := 103) C h13 dX11_does_31 (by decide) (by decide) rfl (by decide) ?_
        refine b_iload_n C dX11_does_103 rfl 5 rfl ?_
        refine b_sipush (v := 30000) C dX11_does_104 (by decide) ?_
        refine b_icmp_ne (tgt := 121) C dX11_does_107 (by decide) hm (fun hm => ?_) (fun hm => ?_)
        · refine b_iconst (v := 0) C dX11_does_121 (by decide) ?_
          cases hm
          exact b_zret (v := 0) C (by decide) dX11_does_122
        · refine b_aload_n C dX11_does_110 rfl 4 rfl ?_
          obtain ⟨r11, f12, hM, hm⟩ := bK2_some hm
          refine b_kV (w' := [(A_th, oO 10 [V_th_thrown, V_th_text, V_th_textSize, V_th_readPage, V_th_page, .ref A_th_trial, V_th_book, V_th_doings, V_th_kept, V_th_isKept, V_th_seen, V_th_seenPlace, V_th_seenDigit, V_th_seenIs, V_th_seed, .ref A_th_plan, .ref A_th_good, .ref A_th_bad, .ref A_th_signs, .int th_signMany, .ref A_th_digits, V_th_isNode, V_th_base, V_th_slot, V_th_whichMany, V_th_whichFirst, V_th_value]), (A_th_trial, iA g 22 f12), (A_th_plan, iA g 1372 th_plan), (A_th_signs, iA g 8 th_signs), (A_th_digits, iA g 36 th_digits), (A_th_good, iA g 1372 th_good), (A_th_bad, iA g 1372 th_bad)]) (st := []) (st2 := [.int r11]) C cv_X11_studies tb1163 (c_X11_studies l g A_th A_th_trial V_th_thrown V_th_text V_th_textSize V_th_readPage V_th_page V_th_book V_th_doings V_th_kept V_th_isKept V_th_seen V_th_seenPlace V_th_seenDigit V_th_seenIs V_th_seed (.ref A_th_plan) (.ref A_th_good) (.ref A_th_bad) (.ref A_th_signs) (.int th_signMany) (.ref A_th_digits) V_th_isNode V_th_base V_th_slot V_th_whichMany V_th_whichFirst V_th_value th_trial F (r11, f12) hM) rfl 0 rfl rfl ⟨rfl, rfl, by decide, by decide⟩ (Nat.le_of_ble_eq_true rfl) [0, 1] rfl (by decide) rfl rfl dX11_does_111 [some 0, some 1, none, none, none, none, none] (by decide) ⟨⟨rfl, rfl⟩, ⟨⟨rfl, rfl⟩, ⟨rfl, ⟨rfl, ⟨rfl, ⟨rfl, ⟨rfl, trivial⟩⟩⟩⟩⟩⟩⟩ rfl ?_
          refine b_if_eq (tgt := 121) C dX11_does_114 (by decide) hm (fun hm => ?_) (fun hm => ?_)
          · refine b_iconst (v := 0) C dX11_does_121 (by decide) ?_
            cases hm
            exact b_zret (v := 0) C (by decide) dX11_does_122
          · refine b_iconst (v := 1) C dX11_does_117 (by decide) ?_
            refine b_goto (tgt := 122) C dX11_does_118 (by decide) ?_
            cases hm
            exact b_zret (v := 1) C (by decide) dX11_does_122
      · rcases sw_some hm with ⟨h22, hm⟩ | ⟨h22, hm⟩
        · refine b_tin (tgt := 134) C h22 dX11_does_31 (by decide) (by decide) rfl (by decide) ?_
          refine b_iload_n C dX11_does_134 rfl 3 rfl ?_
          refine b_i2l C dX11_does_135 ?_
          refine b_ldc2 C tb1075 dX11_does_136 ?_
          refine b_ldc2 C tb1171 dX11_does_139 ?_
          obtain ⟨r14, hM, hm⟩ := bK1_some hm
          refine b_kS (w' := [(A_th, oO 10 [V_th_thrown, V_th_text, V_th_textSize, V_th_readPage, V_th_page, .ref A_th_trial, V_th_book, V_th_doings, V_th_kept, V_th_isKept, V_th_seen, V_th_seenPlace, V_th_seenDigit, V_th_seenIs, V_th_seed, .ref A_th_plan, .ref A_th_good, .ref A_th_bad, .ref A_th_signs, .int th_signMany, .ref A_th_digits, V_th_isNode, V_th_base, V_th_slot, V_th_whichMany, V_th_whichFirst, V_th_value]), (A_th_trial, iA g 22 th_trial), (A_th_plan, iA g 1372 th_plan), (A_th_signs, iA g 8 th_signs), (A_th_digits, iA g 36 th_digits), (A_th_good, iA g 1372 th_good), (A_th_bad, iA g 1372 th_bad)]) (st := []) (st2 := [.int r14]) C cs_X11_in tb937 (c_X11_in l g x1.toInt64 4 6 F r14 hM) rfl ⟨rfl, rfl, by decide, by decide⟩ (Nat.le_of_ble_eq_true rfl) [] rfl (by decide) rfl rfl dX11_does_142 [none, none, none, none, none, none, none] (by decide) ⟨rfl, ⟨rfl, ⟨rfl, ⟨rfl, ⟨rfl, ⟨rfl, ⟨rfl, trivial⟩⟩⟩⟩⟩⟩⟩ rfl ?_
          refine b_if_eq (tgt := 165) C dX11_does_145 (by decide) hm (fun hm => ?_) (fun hm => ?_)
          · refine b_iconst (v := 0) C dX11_does_165 (by decide) ?_
            cases hm
            exact b_zret (v := 0) C (by decide) dX11_does_166
          · refine b_aload_n C dX11_does_148 rfl 4 rfl ?_
            refine b_iload_n C dX11_does_149 rfl 3 rfl ?_
            refine b_iload_n C dX11_does_150 rfl 2 rfl ?_
            refine b_iload C dX11_does_151 1 rfl ?_
            refine b_iload C dX11_does_153 0 rfl ?_
            obtain ⟨r15, z16, f17, f18, f19, f20, f21, hM, hm⟩ := bK7_some hm
            refine b_kV (w' := [(A_th, oO 10 [V_th_thrown, V_th_text, V_th_textSize, V_th_readPage, V_th_page, .ref A_th_trial, V_th_book, V_th_doings, V_th_kept, V_th_isKept, V_th_seen, V_th_seenPlace, V_th_seenDigit, V_th_seenIs, V_th_seed, .ref A_th_plan, .ref A_th_good, .ref A_th_bad, .ref A_th_signs, .int z16, .ref A_th_digits, V_th_isNode, V_th_base, V_th_slot, V_th_whichMany, V_th_whichFirst, V_th_value]), (A_th_trial, iA g 22 th_trial), (A_th_plan, iA g 1372 f17), (A_th_signs, iA g 8 f18), (A_th_digits, iA g 36 f19), (A_th_good, iA g 1372 f20), (A_th_bad, iA g 1372 f21)]) (st := []) (st2 := [.int r15]) C cv_X11_isSo tb1172 (c_X11_isSo l g A_th A_th_trial A_th_plan A_th_signs A_th_digits A_th_good A_th_bad V_th_thrown V_th_text V_th_textSize V_th_readPage V_th_page V_th_book V_th_doings V_th_kept V_th_isKept V_th_seen V_th_seenPlace V_th_seenDigit V_th_seenIs V_th_seed V_th_isNode V_th_base V_th_slot V_th_whichMany V_th_whichFirst V_th_value x1 x2 x3 x4 th_signMany th_trial th_plan th_signs th_digits th_good th_bad F (r15, z16, f17, f18, f19, f20, f21) hM) rfl 0 rfl rfl ⟨rfl, rfl, by decide, by decide⟩ (Nat.le_of_ble_eq_true rfl) [0, 1, 2, 3, 4, 5, 6] rfl (by decide) rfl rfl dX11_does_155 [some 0, some 1, some 2, some 3, some 4, some 5, some 6] (by decide) ⟨⟨rfl, rfl⟩, ⟨⟨rfl, rfl⟩, ⟨⟨rfl, rfl⟩, ⟨⟨rfl, rfl⟩, ⟨⟨rfl, rfl⟩, ⟨⟨rfl, rfl⟩, ⟨⟨rfl, rfl⟩, trivial⟩⟩⟩⟩⟩⟩⟩ rfl ?_
            refine b_if_eq (tgt := 165) C dX11_does_158 (by decide) hm (fun hm => ?_) (fun hm => ?_)
            · refine b_iconst (v := 0) C dX11_does_165 (by decide) ?_
              cases hm
              exact b_zret (v := 0) C (by decide) dX11_does_166
            · refine b_iconst (v := 1) C dX11_does_161 (by decide) ?_
              refine b_goto (tgt := 166) C dX11_does_162 (by decide) ?_
              cases hm
              exact b_zret (v := 1) C (by decide) dX11_does_166
        · rcases sw_some hm with ⟨h31, hm⟩ | ⟨h31, hm⟩
          · refine b_tin (tgt := 134) C h31 dX11_does_31 (by decide) (by decide) rfl (by decide) ?_
            refine b_iload_n C dX11_does_134 rfl 3 rfl ?_
            refine b_i2l C dX11_does_135 ?_
            refine b_ldc2 C tb1075 dX11_does_136 ?_
            refine b_ldc2 C tb1171 dX11_does_139 ?_
            obtain ⟨r23, hM, hm⟩ := bK1_some hm
            refine b_kS (w' := [(A_th, oO 10 [V_th_thrown, V_th_text, V_th_textSize, V_th_readPage, V_th_page, .ref A_th_trial, V_th_book, V_th_doings, V_th_kept, V_th_isKept, V_th_seen, V_th_seenPlace, V_th_seenDigit, V_th_seenIs, V_th_seed, .ref A_th_plan, .ref A_th_good, .ref A_th_bad, .ref A_th_signs, .int th_signMany, .ref A_th_digits, V_th_isNode, V_th_base, V_th_slot, V_th_whichMany, V_th_whichFirst, V_th_value]), (A_th_trial, iA g 22 th_trial), (A_th_plan, iA g 1372 th_plan), (A_th_signs, iA g 8 th_signs), (A_th_digits, iA g 36 th_digits), (A_th_good, iA g 1372 th_good), (A_th_bad, iA g 1372 th_bad)]) (st := []) (st2 := [.int r23]) C cs_X11_in tb937 (c_X11_in l g x1.toInt64 4 6 F r23 hM) rfl ⟨rfl, rfl, by decide, by decide⟩ (Nat.le_of_ble_eq_true rfl) [] rfl (by decide) rfl rfl dX11_does_142 [none, none, none, none, none, none, none] (by decide) ⟨rfl, ⟨rfl, ⟨rfl, ⟨rfl, ⟨rfl, ⟨rfl, ⟨rfl, trivial⟩⟩⟩⟩⟩⟩⟩ rfl ?_
            refine b_if_eq (tgt := 165) C dX11_does_145 (by decide) hm (fun hm => ?_) (fun hm => ?_)
            · refine b_iconst (v := 0) C dX11_does_165 (by decide) ?_
              cases hm
              exact b_zret (v := 0) C (by decide) dX11_does_166
            · refine b_aload_n C dX11_does_148 rfl 4 rfl ?_
              refine b_iload_n C dX11_does_149 rfl 3 rfl ?_
              refine b_iload_n C dX11_does_150 rfl 2 rfl ?_
              refine b_iload C dX11_does_151 1 rfl ?_
              refine b_iload C dX11_does_153 0 rfl ?_
              obtain ⟨r24, z25, f26, f27, f28, f29, f30, hM, hm⟩ := bK7_some hm
              refine b_kV (w' := [(A_th, oO 10 [V_th_thrown, V_th_text, V_th_textSize, V_th_readPage, V_th_page, .ref A_th_trial, V_th_book, V_th_doings, V_th_kept, V_th_isKept, V_th_seen, V_th_seenPlace, V_th_seenDigit, V_th_seenIs, V_th_seed, .ref A_th_plan, .ref A_th_good, .ref A_th_bad, .ref A_th_signs, .int z25, .ref A_th_digits, V_th_isNode, V_th_base, V_th_slot, V_th_whichMany, V_th_whichFirst, V_th_value]), (A_th_trial, iA g 22 th_trial), (A_th_plan, iA g 1372 f26), (A_th_signs, iA g 8 f27), (A_th_digits, iA g 36 f28), (A_th_good, iA g 1372 f29), (A_th_bad, iA g 1372 f30)]) (st := []) (st2 := [.int r24]) C cv_X11_isSo tb1172 (c_X11_isSo l g A_th A_th_trial A_th_plan A_th_signs A_th_digits A_th_good A_th_bad V_th_thrown V_th_text V_th_textSize V_th_readPage V_th_page V_th_book V_th_doings V_th_kept V_th_isKept V_th_seen V_th_seenPlace V_th_seenDigit V_th_seenIs V_th_seed V_th_isNode V_th_base V_th_slot V_th_whichMany V_th_whichFirst V_th_value x1 x2 x3 x4 th_signMany th_trial th_plan th_signs th_digits th_good th_bad F (r24, z25, f26, f27, f28, f29, f30) hM) rfl 0 rfl rfl ⟨rfl, rfl, by decide, by decide⟩ (Nat.le_of_ble_eq_true rfl) [0, 1, 2, 3, 4, 5, 6] rfl (by decide) rfl rfl dX11_does_155 [some 0, some 1, some 2, some 3, some 4, some 5, some 6] (by decide) ⟨⟨rfl, rfl⟩, ⟨⟨rfl, rfl⟩, ⟨⟨rfl, rfl⟩, ⟨⟨rfl, rfl⟩, ⟨⟨rfl, rfl⟩, ⟨⟨rfl, rfl⟩, ⟨⟨rfl, rfl⟩, trivial⟩⟩⟩⟩⟩⟩⟩ rfl ?_
              refine b_if_eq (tgt := 165) C dX11_does_158 (by decide) hm (fun hm => ?_) (fun hm => ?_)
              · refine b_iconst (v := 0) C dX11_does_165 (by decide) ?_
                cases hm
                exact b_zret (v := 0) C (by decide) dX11_does_166
              · refine b_iconst (v := 1) C dX11_does_161 (by decide) ?_
                refine b_goto (tgt := 166) C dX11_does_162 (by decide) ?_
                cases hm
                exact b_zret (v := 1) C (by decide) dX11_does_166
          · rcases sw_some hm with ⟨h40, hm⟩ | ⟨h40, hm⟩
            · refine b_tin (tgt := 134) C h40 dX11_does_31 (by decide) (by decide) rfl (by decide) ?_
              refine b_iload_n C dX11_does_134 rfl 3 rfl ?_
              refine b_i2l C dX11_does_135 ?_
              refine b_ldc2 C tb1075 dX11_does_136 ?_
              refine b_ldc2 C tb1171 dX11_does_139 ?_
              obtain ⟨r32, hM, hm⟩ := bK1_some hm
              refine b_kS (w' := [(A_th, oO 10 [V_th_thrown, V_th_text, V_th_textSize, V_th_readPage, V_th_page, .ref A_th_trial, V_th_book, V_th_doings, V_th_kept, V_th_isKept, V_th_seen, V_th_seenPlace, V_th_seenDigit, V_th_seenIs, V_th_seed, .ref A_th_plan, .ref A_th_good, .ref A_th_bad, .ref A_th_signs, .int th_signMany, .ref A_th_digits, V_th_isNode, V_th_base, V_th_slot, V_th_whichMany, V_th_whichFirst, V_th_value]), (A_th_trial, iA g 22 th_trial), (A_th_plan, iA g 1372 th_plan), (A_th_signs, iA g 8 th_signs), (A_th_digits, iA g 36 th_digits), (A_th_good, iA g 1372 th_good), (A_th_bad, iA g 1372 th_bad)]) (st := []) (st2 := [.int r32]) C cs_X11_in tb937 (c_X11_in l g x1.toInt64 4 6 F r32 hM) rfl ⟨rfl, rfl, by decide, by decide⟩ (Nat.le_of_ble_eq_true rfl) [] rfl (by decide) rfl rfl dX11_does_142 [none, none, none, none, none, none, none] (by decide) ⟨rfl, ⟨rfl, ⟨rfl, ⟨rfl, ⟨rfl, ⟨rfl, ⟨rfl, trivial⟩⟩⟩⟩⟩⟩⟩ rfl ?_
              refine b_if_eq (tgt := 165) C dX11_does_145 (by decide) hm (fun hm => ?_) (fun hm => ?_)
              · refine b_iconst (v := 0) C dX11_does_165 (by decide) ?_
                cases hm
                exact b_zret (v := 0) C (by decide) dX11_does_166
              · refine b_aload_n C dX11_does_148 rfl 4 rfl ?_
                refine b_iload_n C dX11_does_149 rfl 3 rfl ?_
                refine b_iload_n C dX11_does_150 rfl 2 rfl ?_
                refine b_iload C dX11_does_151 1 rfl ?_
                refine b_iload C dX11_does_153 0 rfl ?_
                obtain ⟨r33, z34, f35, f36, f37, f38, f39, hM, hm⟩ := bK7_some hm
                refine b_kV (w' := [(A_th, oO 10 [V_th_thrown, V_th_text, V_th_textSize, V_th_readPage, V_th_page, .ref A_th_trial, V_th_book, V_th_doings, V_th_kept, V_th_isKept, V_th_seen, V_th_seenPlace, V_th_seenDigit, V_th_seenIs, V_th_seed, .ref A_th_plan, .ref A_th_good, .ref A_th_bad, .ref A_th_signs, .int z34, .ref A_th_digits, V_th_isNode, V_th_base, V_th_slot, V_th_whichMany, V_th_whichFirst, V_th_value]), (A_th_trial, iA g 22 th_trial), (A_th_plan, iA g 1372 f35), (A_th_signs, iA g 8 f36), (A_th_digits, iA g 36 f37), (A_th_good, iA g 1372 f38), (A_th_bad, iA g 1372 f39)]) (st := []) (st2 := [.int r33]) C cv_X11_isSo tb1172 (c_X11_isSo l g A_th A_th_trial A_th_plan A_th_signs A_th_digits A_th_good A_th_bad V_th_thrown V_th_text V_th_textSize V_th_readPage V_th_page V_th_book V_th_doings V_th_kept V_th_isKept V_th_seen V_th_seenPlace V_th_seenDigit V_th_seenIs V_th_seed V_th_isNode V_th_base V_th_slot V_th_whichMany V_th_whichFirst V_th_value x1 x2 x3 x4 th_signMany th_trial th_plan th_signs th_digits th_good th_bad F (r33, z34, f35, f36, f37, f38, f39) hM) rfl 0 rfl rfl ⟨rfl, rfl, by decide, by decide⟩ (Nat.le_of_ble_eq_true rfl) [0, 1, 2, 3, 4, 5, 6] rfl (by decide) rfl rfl dX11_does_155 [some 0, some 1, some 2, some 3, some 4, some 5, some 6] (by decide) ⟨⟨rfl, rfl⟩, ⟨⟨rfl, rfl⟩, ⟨⟨rfl, rfl⟩, ⟨⟨rfl, rfl⟩, ⟨⟨rfl, rfl⟩, ⟨⟨rfl, rfl⟩, ⟨⟨rfl, rfl⟩, trivial⟩⟩⟩⟩⟩⟩⟩ rfl ?_
                refine b_if_eq (tgt := 165) C dX11_does_158 (by decide) hm (fun hm => ?_) (fun hm => ?_)
                · refine b_iconst (v := 0) C dX11_does_165 (by decide) ?_
                  cases hm
                  exact b_zret (v := 0) C (by decide) dX11_does_166
                · refine b_iconst (v := 1) C dX11_does_161 (by decide) ?_
                  refine b_goto (tgt := 166) C dX11_does_162 (by decide) ?_
                  cases hm
                  exact b_zret (v := 1) C (by decide) dX11_does_166
            · rcases sw_some hm with ⟨h48, hm⟩ | ⟨h48, hm⟩
              · refine b_tin (tgt := 123) C h48 dX11_does_31 (by decide) (by decide) rfl (by decide) ?_
                refine b_aload_n C dX11_does_123 rfl 4 rfl ?_
                refine b_iload_n C dX11_does_124 rfl 2 rfl ?_
                refine b_iload_n C dX11_does_125 rfl 5 rfl ?_
                refine b_sipush (v := 1000) C dX11_does_126 (by decide) ?_
                refine b_irem C dX11_does_129 (by decide) ?_
                obtain ⟨r41, z42, f43, f44, f45, f46, f47, hM, hm⟩ := bK7_some hm
                refine b_kV (w' := [(A_th, oO 10 [V_th_thrown, V_th_text, V_th_textSize, V_th_readPage, V_th_page, .ref A_th_trial, V_th_book, V_th_doings, V_th_kept, V_th_isKept, V_th_seen, V_th_seenPlace, V_th_seenDigit, V_th_seenIs, V_th_seed, .ref A_th_plan, .ref A_th_good, .ref A_th_bad, .ref A_th_signs, .int z42, .ref A_th_digits, V_th_isNode, V_th_base, V_th_slot, V_th_whichMany, V_th_whichFirst, V_th_value]), (A_th_trial, iA g 22 th_trial), (A_th_plan, iA g 1372 f43), (A_th_signs, iA g 8 f44), (A_th_digits, iA g 36 f45), (A_th_good, iA g 1372 f46), (A_th_bad, iA g 1372 f47)]) (st := []) (st2 := [.int r41]) C cv_X11_isPattern tb1167 (c_X11_isPattern l g A_th A_th_trial A_th_plan A_th_signs A_th_digits A_th_good A_th_bad V_th_thrown V_th_text V_th_textSize V_th_readPage V_th_page V_th_book V_th_doings V_th_kept V_th_isKept V_th_seen V_th_seenPlace V_th_seenDigit V_th_seenIs V_th_seed V_th_isNode V_th_base V_th_slot V_th_whichMany V_th_whichFirst V_th_value x2 (irm n1 1000) th_signMany th_trial th_plan th_signs th_digits th_good th_bad F (r41, z42, f43, f44, f45, f46, f47) hM) rfl 0 rfl rfl ⟨rfl, rfl, by decide, by decide⟩ (Nat.le_of_ble_eq_true rfl) [0, 1, 2, 3, 4, 5, 6] rfl (by decide) rfl rfl dX11_does_130 [some 0, some 1, some 2, some 3, some 4, some 5, some 6] (by decide) ⟨⟨rfl, rfl⟩, ⟨⟨rfl, rfl⟩, ⟨⟨rfl, rfl⟩, ⟨⟨rfl, rfl⟩, ⟨⟨rfl, rfl⟩, ⟨⟨rfl, rfl⟩, ⟨⟨rfl, rfl⟩, trivial⟩⟩⟩⟩⟩⟩⟩ rfl ?_
                obtain ⟨hn, hm⟩ := zK_some hm
                cases hm
                exact b_zret C hn dX11_does_133
              · refine b_tout (tgt := 134) C dX11_does_31 (by have := lv_neT h7 (a := 1) (by decide); have := lv_neT h10 (a := 2) (by decide); have := lv_neT h13 (a := 3) (by decide); have := lv_neT h22 (a := 4) (by decide); have := lv_neT h31 (a := 5) (by decide); have := lv_neT h40 (a := 6) (by decide); have := lv_neT h48 (a := 7) (by decide); omega) (by decide) ?_
                refine b_iload_n C dX11_does_134 rfl 3 rfl ?_
                refine b_i2l C dX11_does_135 ?_
                refine b_ldc2 C tb1075 dX11_does_136 ?_
                refine b_ldc2 C tb1171 dX11_does_139 ?_
                obtain ⟨r49, hM, hm⟩ := bK1_some hm
                refine b_kS (w' := [(A_th, oO 10 [V_th_thrown, V_th_text, V_th_textSize, V_th_readPage, V_th_page, .ref A_th_trial, V_th_book, V_th_doings, V_th_kept, V_th_isKept, V_th_seen, V_th_seenPlace, V_th_seenDigit, V_th_seenIs, V_th_seed, .ref A_th_plan, .ref A_th_good, .ref A_th_bad, .ref A_th_signs, .int th_signMany, .ref A_th_digits, V_th_isNode, V_th_base, V_th_slot, V_th_whichMany, V_th_whichFirst, V_th_value]), (A_th_trial, iA g 22 th_trial), (A_th_plan, iA g 1372 th_plan), (A_th_signs, iA g 8 th_signs), (A_th_digits, iA g 36 th_digits), (A_th_good, iA g 1372 th_good), (A_th_bad, iA g 1372 th_bad)]) (st := []) (st2 := [.int r49]) C cs_X11_in tb937 (c_X11_in l g x1.toInt64 4 6 F r49 hM) rfl ⟨rfl, rfl, by decide, by decide⟩ (Nat.le_of_ble_eq_true rfl) [] rfl (by decide) rfl rfl dX11_does_142 [none, none, none, none, none, none, none] (by decide) ⟨rfl, ⟨rfl, ⟨rfl, ⟨rfl, ⟨rfl, ⟨rfl, ⟨rfl, trivial⟩⟩⟩⟩⟩⟩⟩ rfl ?_
                refine b_if_eq (tgt := 165) C dX11_does_145 (by decide) hm (fun hm => ?_) (fun hm => ?_)
                · refine b_iconst (v := 0) C dX11_does_165 (by decide) ?_
                  cases hm
                  exact b_zret (v := 0) C (by decide) dX11_does_166
                · refine b_aload_n C dX11_does_148 rfl 4 rfl ?_
                  refine b_iload_n C dX11_does_149 rfl 3 rfl ?_
                  refine b_iload_n C dX11_does_150 rfl 2 rfl ?_
                  refine b_iload C dX11_does_151 1 rfl ?_
                  refine b_iload C dX11_does_153 0 rfl ?_
                  obtain ⟨r50, z51, f52, f53, f54, f55, f56, hM, hm⟩ := bK7_some hm
                  refine b_kV (w' := [(A_th, oO 10 [V_th_thrown, V_th_text, V_th_textSize, V_th_readPage, V_th_page, .ref A_th_trial, V_th_book, V_th_doings, V_th_kept, V_th_isKept, V_th_seen, V_th_seenPlace, V_th_seenDigit, V_th_seenIs, V_th_seed, .ref A_th_plan, .ref A_th_good, .ref A_th_bad, .ref A_th_signs, .int z51, .ref A_th_digits, V_th_isNode, V_th_base, V_th_slot, V_th_whichMany, V_th_whichFirst, V_th_value]), (A_th_trial, iA g 22 th_trial), (A_th_plan, iA g 1372 f52), (A_th_signs, iA g 8 f53), (A_th_digits, iA g 36 f54), (A_th_good, iA g 1372 f55), (A_th_bad, iA g 1372 f56)]) (st := []) (st2 := [.int r50]) C cv_X11_isSo tb1172 (c_X11_isSo l g A_th A_th_trial A_th_plan A_th_signs A_th_digits A_th_good A_th_bad V_th_thrown V_th_text V_th_textSize V_th_readPage V_th_page V_th_book V_th_doings V_th_kept V_th_isKept V_th_seen V_th_seenPlace V_th_seenDigit V_th_seenIs V_th_seed V_th_isNode V_th_base V_th_slot V_th_whichMany V_th_whichFirst V_th_value x1 x2 x3 x4 th_signMany th_trial th_plan th_signs th_digits th_good th_bad F (r50, z51, f52, f53, f54, f55, f56) hM) rfl 0 rfl rfl ⟨rfl, rfl, by decide, by decide⟩ (Nat.le_of_ble_eq_true rfl) [0, 1, 2, 3, 4, 5, 6] rfl (by decide) rfl rfl dX11_does_155 [some 0, some 1, some 2, some 3, some 4, some 5, some 6] (by decide) ⟨⟨rfl, rfl⟩, ⟨⟨rfl, rfl⟩, ⟨⟨rfl, rfl⟩, ⟨⟨rfl, rfl⟩, ⟨⟨rfl, rfl⟩, ⟨⟨rfl, rfl⟩, ⟨⟨rfl, rfl⟩, trivial⟩⟩⟩⟩⟩⟩⟩ rfl ?_
                  refine b_if_eq (tgt := 165) C dX11_does_158 (by decide) hm (fun hm => ?_) (fun hm => ?_)
                  · refine b_iconst (v := 0) C dX11_does_165 (by decide) ?_
                    cases hm
                    exact b_zret (v := 0) C (by decide) dX11_does_166
                  · refine b_iconst (v := 1) C dX11_does_161 (by decide) ?_
                    refine b_goto (tgt := 166) C dX11_does_162 (by decide) ?_
                    cases hm
                    exact b_zret (v := 1) C (by decide) dX11_does_166
/-- BreakLearnerModel.judge(IJ)I -/
def m_X11_judge (F : Nat)  (n1 : Int32) (n2 : Int64) (th_thrown : Int32) (th_signMany : Int32) (th_trial : (Nat → Int32)) (th_page : (Nat → Int32)) (th_plan : (Nat → Int32)) (th_signs : (Nat → Int32)) (th_digits : (Nat → Int32)) (th_good : (Nat → Int32)) (th_bad : (Nat → Int32)) : Option (Int32 × Int32 × Int32 × (Nat → Int32) × (Nat → Int32) × (Nat → Int32) × (Nat → Int32) × (Nat → Int32) × (Nat → Int32)) :=
  bK1 (m_X11_in F n1.toInt64 1 3) (fun r1 =>
  if r1 = 0 then
    some ((-2), 0, th_signMany, th_trial, th_plan, th_signs, th_digits, th_good, th_bad)
  else
    bK1 (m_X11_longPower F 100000 n1) (fun r2 =>
    bK1 (m_X11_in F n2 0 (r2 - 1)) (fun r3 =>
    if r3 = 0 then
      some ((-2), 0, th_signMany, th_trial, th_plan, th_signs, th_digits, th_good, th_bad)
    else
      bK1 (m_X11_begin F th_trial th_page) (fun f4 =>
      wl8 (fun (x6 : Int32) (z7 : Int32) (f8 : (Nat → Int32)) (f9 : (Nat → Int32)) (f10 : (Nat → Int32)) (f11 : (Nat → Int32)) (f12 : (Nat → Int32)) (f13 : (Nat → Int32)) c5 =>
        if n1 ≤ x6 then
          some ((-9), 0, z7, f8, f9, f10, f11, f12, f13)
        else
          bK1 (m_X11_longPower F 100000 ((n1 - 1) - x6)) (fun r14 =>
          nzL r14 (
          bK8 (m_X11_does F ((lrm (n2 / r14) 100000).toInt32) z7 f8 f9 f10 f11 f12 f13) (fun r15 z16 f17 f18 f19 f20 f21 f22 =>
          if r15 = 0 then
            some (x6, 0, z16, f17, f18, f19, f20, f21, f22)
          else
            c5 (x6 + 1) z16 f17 f18 f19 f20 f21 f22
          )
          )
          )
        ) F 0 th_signMany f4 th_plan th_signs th_digits th_good th_bad
      )
    )
    )
  )
abbrev rmX11_judge : Room := { frames := 8, cells := 0, slots := 0, locals := 199 }
set_option maxHeartbeats 4000000 in
set_option maxRecDepth 100000 in
theorem c_X11_judge (l : Launch) (g : Gl) (A_th A_th_trial A_th_page A_th_plan A_th_signs A_th_digits A_th_good A_th_bad : Nat) (V_th_text V_th_textSize V_th_readPage V_th_book V_th_doings V_th_kept V_th_isKept V_th_seen V_th_seenPlace V_th_seenDigit V_th_seenIs V_th_seed V_th_isNode V_th_base V_th_slot V_th_whichMany V_th_whichFirst V_th_value : Value)  (n1 : Int32) (n2 : Int64) (th_thrown : Int32) (th_signMany : Int32) (th_trial : (Nat → Int32)) (th_page : (Nat → Int32)) (th_plan : (Nat → Int32)) (th_signs : (Nat → Int32)) (th_digits : (Nat → Int32)) (th_good : (Nat → Int32)) (th_bad : (Nat → Int32)) (F : Nat) (u : Int32 × Int32 × Int32 × (Nat → Int32) × (Nat → Int32) × (Nat → Int32) × (Nat → Int32) × (Nat → Int32) × (Nat → Int32)) (hm : m_X11_judge F n1 n2 th_thrown th_signMany th_trial th_page th_plan th_signs th_digits th_good th_bad = some u) : Ct l g yX11_judge cX11_judge 5 (some .int) rmX11_judge [.ref A_th, .int n1, .long n2] [(A_th, oO 10 [.int th_thrown, V_th_text, V_th_textSize, V_th_readPage, .ref A_th_page, .ref A_th_trial, V_th_book, V_th_doings, V_th_kept, V_th_isKept, V_th_seen, V_th_seenPlace, V_th_seenDigit, V_th_seenIs, V_th_seed, .ref A_th_plan, .ref A_th_good, .ref A_th_bad, .ref A_th_signs, .int th_signMany, .ref A_th_digits, V_th_isNode, V_th_base, V_th_slot, V_th_whichMany, V_th_whichFirst, V_th_value]), (A_th_trial, iA g 22 th_trial), (A_th_page, iA g 22 th_page), (A_th_plan, iA g 1372 th_plan), (A_th_signs, iA g 8 th_signs), (A_th_digits, iA g 36 th_digits), (A_th_good, iA g 1372 th_good), (A_th_bad, iA g 1372 th_bad)] (some (.int u.1)) [(A_th, oO 10 [.int u.2.1, V_th_text, V_th_textSize, V_th_readPage, .ref A_th_page, .ref A_th_trial, V_th_book, V_th_doings, V_th_kept, V_th_isKept, V_th_seen, V_th_seenPlace, V_th_seenDigit, V_th_seenIs, V_th_seed, .ref A_th_plan, .ref A_th_good, .ref A_th_bad, .ref A_th_signs, .int u.2.2.1, .ref A_th_digits, V_th_isNode, V_th_base, V_th_slot, V_th_whichMany, V_th_whichFirst, V_th_value]), (A_th_trial, iA g 22 u.2.2.2.1), (A_th_page, iA g 22 th_page), (A_th_plan, iA g 1372 u.2.2.2.2.1), (A_th_signs, iA g 8 u.2.2.2.2.2.1), (A_th_digits, iA g 36 u.2.2.2.2.2.2.1), (A_th_good, iA g 1372 u.2.2.2.2.2.2.2.1), (A_th_bad, iA g 1372 u.2.2.2.2.2.2.2.2)] := by
  refine ent (own := RX11) (lv := [(0, .ref A_th), (1, .int n1), (2, .long n2)]) (by decide) rfl (Nat.le_of_ble_eq_true rfl) rfl rfl ?_
  intro x C
  unfold m_X11_judge at hm
  refine b_aload_n C dX11_judge_0 rfl 0 rfl ?_
  refine b_iconst (v := 0) C dX11_judge_1 (by decide) ?_
  refine pfX11_68 (w' := [(A_th, oO 10 [.int 0, V_th_text, V_th_textSize, V_th_readPage, .ref A_th_page, .ref A_th_trial, V_th_book, V_th_doings, V_th_kept, V_th_isKept, V_th_seen, V_th_seenPlace, V_th_seenDigit, V_th_seenIs, V_th_seed, .ref A_th_plan, .ref A_th_good, .ref A_th_bad, .ref A_th_signs, .int th_signMany, .ref A_th_digits, V_th_isNode, V_th_base, V_th_slot, V_th_whichMany, V_th_whichFirst, V_th_value]), (A_th_trial, iA g 22 th_trial), (A_th_page, iA g 22 th_page), (A_th_plan, iA g 1372 th_plan), (A_th_signs, iA g 8 th_signs), (A_th_digits, iA g 36 th_digits), (A_th_good, iA g 1372 th_good), (A_th_bad, iA g 1372 th_bad)]) C rfl rfl 0 rfl (Nat.le_of_ble_eq_true rfl) dX11_judge_2 rfl ?_
  refine b_iload_n C dX11_judge_5 rfl 1 rfl ?_
  refine b_i2l C dX11_judge_6 ?_
  refine b_lconst (v := 1) C dX11_judge_7 (by decide) ?_
  refine b_ldc2 C tb1142 dX11_judge_8 ?_
  obtain ⟨r1, hM, hm⟩ := bK1_some hm
  refine b_kS (w' := [(A_th, oO 10 [.int 0, V_th_text, V_th_textSize, V_th_readPage, .ref A_th_page, .ref A_th_trial, V_th_book, V_th_doings, V_th_kept, V_th_isKept, V_th_seen, V_th_seenPlace, V_th_seenDigit, V_th_seenIs, V_th_seed, .ref A_th_plan, .ref A_th_good, .ref A_th_bad, .ref A_th_signs, .int th_signMany, .ref A_th_digits, V_th_isNode, V_th_base, V_th_slot, V_th_whichMany, V_th_whichFirst, V_th_value]), (A_th_trial, iA g 22 th_trial), (A_th_page, iA g 22 th_page), (A_th_plan, iA g 1372 th_plan), (A_th_signs, iA g 8 th_signs), (A_th_digits, iA g 36 th_digits), (A_th_good, iA g 1372 th_good), (A_th_bad, iA g 1372 th_bad)]) (st := []) (st2 := [.int r1]) C cs_X11_in tb937 (c_X11_in l g n1.toInt64 1 3 F r1 hM) rfl ⟨rfl, rfl, by decide, by decide⟩ (Nat.le_of_ble_eq_true rfl) [] rfl (by decide) rfl rfl dX11_judge_11 [none, none, none, none, none, none, none, none] (by decide) ⟨rfl, ⟨rfl, ⟨rfl, ⟨rfl, ⟨rfl, ⟨rfl, ⟨rfl, ⟨rfl, trivial⟩⟩⟩⟩⟩⟩⟩⟩ rfl ?_
  refine b_if_eq (tgt := 34) C dX11_judge_14 (by decide) hm (fun hm => ?_) (fun hm => ?_)
  · refine b_bipush (v := (-2)) C dX11_judge_34 (by decide) ?_
    cases hm
    exact b_iret C dX11_judge_36
  · refine b_lload_n C dX11_judge_17 rfl 2 rfl ?_
    refine b_lconst (v := 0) C dX11_judge_18 (by decide) ?_
    refine b_ldc2 C tb1143 dX11_judge_19 ?_
    refine b_iload_n C dX11_judge_22 rfl 1 rfl ?_
    obtain ⟨r2, hM, hm⟩ := bK1_some hm
    refine b_kS (w' := [(A_th, oO 10 [.int 0, V_th_text, V_th_textSize, V_th_readPage, .ref A_th_page, .ref A_th_trial, V_th_book, V_th_doings, V_th_kept, V_th_isKept, V_th_seen, V_th_seenPlace, V_th_seenDigit, V_th_seenIs, V_th_seed, .ref A_th_plan, .ref A_th_good, .ref A_th_bad, .ref A_th_signs, .int th_signMany, .ref A_th_digits, V_th_isNode, V_th_base, V_th_slot, V_th_whichMany, V_th_whichFirst, V_th_value]), (A_th_trial, iA g 22 th_trial), (A_th_page, iA g 22 th_page), (A_th_plan, iA g 1372 th_plan), (A_th_signs, iA g 8 th_signs), (A_th_digits, iA g 36 th_digits), (A_th_good, iA g 1372 th_good), (A_th_bad, iA g 1372 th_bad)]) (st := [.long 0, .long n2]) (st2 := [.long r2, .long 0, .long n2]) C cs_X11_longPower tb1144 (c_X11_longPower l g 100000 n1 F r2 hM) rfl ⟨rfl, rfl, by decide, by decide⟩ (Nat.le_of_ble_eq_true rfl) [] rfl (by decide) rfl rfl dX11_judge_23 [none, none, none, none, none, none, none, none] (by decide) ⟨rfl, ⟨rfl, ⟨rfl, ⟨rfl, ⟨rfl, ⟨rfl, ⟨rfl, ⟨rfl, trivial⟩⟩⟩⟩⟩⟩⟩⟩ rfl ?_
    refine b_lconst (v := 1) C dX11_judge_26 (by decide) ?_
    refine b_lsub C dX11_judge_27 ?_
    obtain ⟨r3, hM, hm⟩ := bK1_some hm
    refine b_kS (w' := [(A_th, oO 10 [.int 0, V_th_text, V_th_textSize, V_th_readPage, .ref A_th_page, .ref A_th_trial, V_th_book, V_th_doings, V_th_kept, V_th_isKept, V_th_seen, V_th_seenPlace, V_th_seenDigit, V_th_seenIs, V_th_seed, .ref A_th_plan, .ref A_th_good, .ref A_th_bad, .ref A_th_signs, .int th_signMany, .ref A_th_digits, V_th_isNode, V_th_base, V_th_slot, V_th_whichMany, V_th_whichFirst, V_th_value]), (A_th_trial, iA g 22 th_trial), (A_th_page, iA g 22 th_page), (A_th_plan, iA g 1372 th_plan), (A_th_signs, iA g 8 th_signs), (A_th_digits, iA g 36 th_digits), (A_th_good, iA g 1372 th_good), (A_th_bad, iA g 1372 th_bad)]) (st := []) (st2 := [.int r3]) C cs_X11_in tb937 (c_X11_in l g n2 0 (r2 - 1) F r3 hM) rfl ⟨rfl, rfl, by decide, by decide⟩ (Nat.le_of_ble_eq_true rfl) [] rfl (by decide) rfl rfl dX11_judge_28 [none, none, none, none, none, none, none, none] (by decide) ⟨rfl, ⟨rfl, ⟨rfl, ⟨rfl, ⟨rfl, ⟨rfl, ⟨rfl, ⟨rfl, trivial⟩⟩⟩⟩⟩⟩⟩⟩ rfl ?_
    refine b_if_ne (tgt := 37) C dX11_judge_31 (by decide) hm (fun hm => ?_) (fun hm => ?_)
    · refine b_aload_n C dX11_judge_37 rfl 0 rfl ?_
      obtain ⟨f4, hM, hm⟩ := bK1_some hm
      refine b_kV (w' := [(A_th, oO 10 [.int 0, V_th_text, V_th_textSize, V_th_readPage, .ref A_th_page, .ref A_th_trial, V_th_book, V_th_doings, V_th_kept, V_th_isKept, V_th_seen, V_th_seenPlace, V_th_seenDigit, V_th_seenIs, V_th_seed, .ref A_th_plan, .ref A_th_good, .ref A_th_bad, .ref A_th_signs, .int th_signMany, .ref A_th_digits, V_th_isNode, V_th_base, V_th_slot, V_th_whichMany, V_th_whichFirst, V_th_value]), (A_th_trial, iA g 22 f4), (A_th_page, iA g 22 th_page), (A_th_plan, iA g 1372 th_plan), (A_th_signs, iA g 8 th_signs), (A_th_digits, iA g 36 th_digits), (A_th_good, iA g 1372 th_good), (A_th_bad, iA g 1372 th_bad)]) (st := []) (st2 := []) C cv_X11_begin tb1147 (c_X11_begin l g A_th A_th_trial A_th_page (.int 0) V_th_text V_th_textSize V_th_readPage V_th_book V_th_doings V_th_kept V_th_isKept V_th_seen V_th_seenPlace V_th_seenDigit V_th_seenIs V_th_seed (.ref A_th_plan) (.ref A_th_good) (.ref A_th_bad) (.ref A_th_signs) (.int th_signMany) (.ref A_th_digits) V_th_isNode V_th_base V_th_slot V_th_whichMany V_th_whichFirst V_th_value th_trial th_page F f4 hM) rfl 0 rfl rfl ⟨rfl, rfl, by decide, by decide⟩ (Nat.le_of_ble_eq_true rfl) [0, 1, 2] rfl (by decide) rfl rfl dX11_judge_38 [some 0, some 1, some 2, none, none, none, none, none] (by decide) ⟨⟨rfl, rfl⟩, ⟨⟨rfl, rfl⟩, ⟨⟨rfl, rfl⟩, ⟨rfl, ⟨rfl, ⟨rfl, ⟨rfl, ⟨rfl, trivial⟩⟩⟩⟩⟩⟩⟩⟩ rfl ?_
      refine b_iconst (v := 0) C dX11_judge_41 (by decide) ?_
      refine b_istore (lv' := [(4, .int 0), (0, .ref A_th), (1, .int n1), (2, .long n2)]) C dX11_judge_42 (by decide) rfl ?_
      refine Wb.lv (lv' := [(0, .ref A_th), (1, .int n1), (2, .long n2), (4, .int 0)]) ?_ [1, 2, 3, 0] rfl
      refine wl8_W (Wg := fun (x6 : Int32) (z7 : Int32) (f8 : (Nat → Int32)) (f9 : (Nat → Int32)) (f10 : (Nat → Int32)) (f11 : (Nat → Int32)) (f12 : (Nat → Int32)) (f13 : (Nat → Int32)) => Wb x [(A_th, oO 10 [.int 0, V_th_text, V_th_textSize, V_th_readPage, .ref A_th_page, .ref A_th_trial, V_th_book, V_th_doings, V_th_kept, V_th_isKept, V_th_seen, V_th_seenPlace, V_th_seenDigit, V_th_seenIs, V_th_seed, .ref A_th_plan, .ref A_th_good, .ref A_th_bad, .ref A_th_signs, .int z7, .ref A_th_digits, V_th_isNode, V_th_base, V_th_slot, V_th_whichMany, V_th_whichFirst, V_th_value]), (A_th_trial, iA g 22 f8), (A_th_page, iA g 22 th_page), (A_th_plan, iA g 1372 f9), (A_th_signs, iA g 8 f10), (A_th_digits, iA g 36 f11), (A_th_good, iA g 1372 f12), (A_th_bad, iA g 1372 f13)] [(0, .ref A_th), (1, .int n1), (2, .long n2), (4, .int x6)] 44 []) ?_ F 0 th_signMany f4 th_plan th_signs th_digits th_good th_bad hm
      intro x6 z7 f8 f9 f10 f11 f12 f13 c5 hc5 hm
      refine b_iload C dX11_judge_44 3 rfl ?_
      refine b_iload_n C dX11_judge_46 rfl 1 rfl ?_
      refine b_icmp_ge (tgt := 85) C dX11_judge_47 (by decide) hm (fun hm => ?_) (fun hm => ?_)
      · refine b_bipush (v := (-9)) C dX11_judge_85 (by decide) ?_
        cases hm
        exact b_iret C dX11_judge_87
      · refine b_aload_n C dX11_judge_50 rfl 0 rfl ?_
        refine b_lload_n C dX11_judge_51 rfl 2 rfl ?_
        refine b_ldc2 C tb1143 dX11_judge_52 ?_
        refine b_iload_n C dX11_judge_55 rfl 1 rfl ?_
        refine b_iconst (v := 1) C dX11_judge_56 (by decide) ?_
        refine b_isub C dX11_judge_57 ?_
        refine b_iload C dX11_judge_58 3 rfl ?_
        refine b_isub C dX11_judge_60 ?_
        obtain ⟨r14, hM, hm⟩ := bK1_some hm
        refine b_kS (w' := [(A_th, oO 10 [.int 0, V_th_text, V_th_textSize, V_th_readPage, .ref A_th_page, .ref A_th_trial, V_th_book, V_th_doings, V_th_kept, V_th_isKept, V_th_seen, V_th_seenPlace, V_th_seenDigit, V_th_seenIs, V_th_seed, .ref A_th_plan, .ref A_th_good, .ref A_th_bad, .ref A_th_signs, .int z7, .ref A_th_digits, V_th_isNode, V_th_base, V_th_slot, V_th_whichMany, V_th_whichFirst, V_th_value]), (A_th_trial, iA g 22 f8), (A_th_page, iA g 22 th_page), (A_th_plan, iA g 1372 f9), (A_th_signs, iA g 8 f10), (A_th_digits, iA g 36 f11), (A_th_good, iA g 1372 f12), (A_th_bad, iA g 1372 f13)]) (st := [.long n2, .ref A_th]) (st2 := [.long r14, .long n2, .ref A_th]) C cs_X11_longPower tb1144 (c_X11_longPower l g 100000 ((n1 - 1) - x6) F r14 hM) rfl ⟨rfl, rfl, by decide, by decide⟩ (Nat.le_of_ble_eq_true rfl) [] rfl (by decide) rfl rfl dX11_judge_61 [none, none, none, none, none, none, none, none] (by decide) ⟨rfl, ⟨rfl, ⟨rfl, ⟨rfl, ⟨rfl, ⟨rfl, ⟨rfl, ⟨rfl, trivial⟩⟩⟩⟩⟩⟩⟩⟩ rfl ?_
        obtain ⟨hz, hm⟩ := nzL_some hm
        refine b_ldiv C dX11_judge_64 hz ?_
        refine b_ldc2 C tb1143 dX11_judge_65 ?_
        refine b_lrem C dX11_judge_68 (by decide) ?_
        refine b_l2i C dX11_judge_69 ?_
        obtain ⟨r15, z16, f17, f18, f19, f20, f21, f22, hM, hm⟩ := bK8_some hm
        refine b_kV (w' := [(A_th, oO 10 [.int 0, V_th_text, V_th_textSize, V_th_readPage, .ref A_th_page, .ref A_th_trial, V_th_book, V_th_doings, V_th_kept, V_th_isKept, V_th_seen, V_th_seenPlace, V_th_seenDigit, V_th_seenIs, V_th_seed, .ref A_th_plan, .ref A_th_good, .ref A_th_bad, .ref A_th_signs, .int z16, .ref A_th_digits, V_th_isNode, V_th_base, V_th_slot, V_th_whichMany, V_th_whichFirst, V_th_value]), (A_th_trial, iA g 22 f17), (A_th_page, iA g 22 th_page), (A_th_plan, iA g 1372 f18), (A_th_signs, iA g 8 f19), (A_th_digits, iA g 36 f20), (A_th_good, iA g 1372 f21), (A_th_bad, iA g 1372 f22)]) (st := []) (st2 := [.int r15]) C cv_X11_does tb1151 (c_X11_does l g A_th A_th_trial A_th_plan A_th_signs A_th_digits A_th_good A_th_bad (.int 0) V_th_text V_th_textSize V_th_readPage (.ref A_th_page) V_th_book V_th_doings V_th_kept V_th_isKept V_th_seen V_th_seenPlace V_th_seenDigit V_th_seenIs V_th_seed V_th_isNode V_th_base V_th_slot V_th_whichMany V_th_whichFirst V_th_value ((lrm (n2 / r14) 100000).toInt32) z7 f8 f9 f10 f11 f12 f13 F (r15, z16, f17, f18, f19, f20, f21, f22) hM) rfl 0 rfl rfl ⟨rfl, rfl, by decide, by decide⟩ (Nat.le_of_ble_eq_true rfl) [0, 1, 3, 4, 5, 6, 7] rfl (by decide) rfl rfl dX11_judge_70 [some 0, some 1, none, some 2, some 3, some 4, some 5, some 6] (by decide) ⟨⟨rfl, rfl⟩, ⟨⟨rfl, rfl⟩, ⟨rfl, ⟨⟨rfl, rfl⟩, ⟨⟨rfl, rfl⟩, ⟨⟨rfl, rfl⟩, ⟨⟨rfl, rfl⟩, ⟨⟨rfl, rfl⟩, trivial⟩⟩⟩⟩⟩⟩⟩⟩ rfl ?_
        refine b_if_ne (tgt := 79) C dX11_judge_73 (by decide) hm (fun hm => ?_) (fun hm => ?_)
        · refine b_iinc (v2 := x6 + 1) (lv' := [(4, .int (x6 + 1)), (0, .ref A_th), (1, .int n1), (2, .long n2)]) C dX11_judge_79 3 rfl rfl (by decide) rfl ?_
          refine b_goto (tgt := 44) C dX11_judge_82 (by decide) ?_
          exact Wb.lv (hc5 (x6 + 1) z16 f17 f18 f19 f20 f21 f22 hm) [1, 2, 3, 0] rfl
        · refine b_iload C dX11_judge_76 3 rfl ?_
          cases hm
          exact b_iret C dX11_judge_78
    · refine b_bipush (v := (-2)) C dX11_judge_34 (by decide) ?_
      cases hm
      exact b_iret C dX11_judge_36
/-- BreakLearnerModel.orders(II)I -/
def m_X11_orders (F : Nat)  (n1 : Int32) (n2 : Int32)  : Option (Int32) :=
  wl2 (fun (x2 : Int32) (x3 : Int32) c1 =>
    if n2 < x3 then
      wl2 (fun (x5 : Int32) (x6 : Int32) c4 =>
        if ((n1 - 1) - n2) < x6 then
          some x5
        else
          letK (x5 * x6) (fun x7 =>
          c4 x7 (x6 + 1)
          )
        ) F x2 2
    else
      letK (x2 * x3) (fun x8 =>
      c1 x8 (x3 + 1)
      )
    ) F 1 2
abbrev rmX11_orders : Room := { frames := 0, cells := 0, slots := 0, locals := 0 }
set_option maxHeartbeats 4000000 in
set_option maxRecDepth 100000 in
theorem c_X11_orders (l : Launch) (g : Gl)  (n1 : Int32) (n2 : Int32)  (F : Nat) (u : Int32) (hm : m_X11_orders F n1 n2 = some u) : Ct l g yX11_orders cX11_orders 4 (some .int) rmX11_orders [.int n1, .int n2] [] (some (.int u)) [] := by
  refine ent (own := RX11) (lv := [(0, .int n1), (1, .int n2)]) (by decide) rfl (Nat.le_of_ble_eq_true rfl) rfl rfl ?_
  intro x C
  unfold m_X11_orders at hm
  refine b_iconst (v := 1) C dX11_orders_0 (by decide) ?_
  refine b_istore_n (lv' := [(2, .int 1), (0, .int n1), (1, .int n2)]) C dX11_orders_1 rfl (by decide) rfl ?_
  refine b_iconst (v := 2) C dX11_orders_2 (by decide) ?_
  refine b_istore_n (lv' := [(3, .int 2), (2, .int 1), (0, .int n1), (1, .int n2)]) C dX11_orders_3 rfl (by decide) rfl ?_
  refine Wb.lv (lv' := [(0, .int n1), (1, .int n2), (2, .int 1), (3, .int 2)]) ?_ [2, 3, 1, 0] rfl
  refine wl2_W (Wg := fun (x2 : Int32) (x3 : Int32) => Wb x [] [(0, .int n1), (1, .int n2), (2, .int x2), (3, .int x3)] 4 []) ?_ F 1 2 hm
  intro x2 x3 c1 hc1 hm
  refine b_iload_n C dX11_orders_4 rfl 3 rfl ?_
  refine b_iload_n C dX11_orders_5 rfl 1 rfl ?_
  refine b_icmp_gt (tgt := 19) C dX11_orders_6 (by decide) hm (fun hm => ?_) (fun hm => ?_)
  · refine b_iconst (v := 2) C dX11_orders_19 (by decide) ?_
    refine b_istore_n (lv' := [(3, .int 2), (0, .int n1), (1, .int n2), (2, .int x2)]) C dX11_orders_20 rfl (by decide) rfl ?_
    refine Wb.lv (lv' := [(0, .int n1), (1, .int n2), (2, .int x2), (3, .int 2)]) ?_ [1, 2, 3, 0] rfl
    refine wl2_W (Wg := fun (x5 : Int32) (x6 : Int32) => Wb x [] [(0, .int n1), (1, .int n2), (2, .int x5), (3, .int x6)] 21 []) ?_ F x2 2 hm
    intro x5 x6 c4 hc4 hm
    refine b_iload_n C dX11_orders_21 rfl 3 rfl ?_
    refine b_iload_n C dX11_orders_22 rfl 0 rfl ?_
    refine b_iconst (v := 1) C dX11_orders_23 (by decide) ?_
    refine b_isub C dX11_orders_24 ?_
    refine b_iload_n C dX11_orders_25 rfl 1 rfl ?_
    refine b_isub C dX11_orders_26 ?_
    refine b_icmp_gt (tgt := 40) C dX11_orders_27 (by decide) hm (fun hm => ?_) (fun hm => ?_)
    · refine b_iload_n C dX11_orders_40 rfl 2 rfl ?_
      cases hm
      exact b_iret C dX11_orders_41
    · refine b_iload_n C dX11_orders_30 rfl 2 rfl ?_
      refine b_iload_n C dX11_orders_31 rfl 3 rfl ?_
      refine b_imul C dX11_orders_32 ?_
      refine b_topi hm (fun x7 hm => ?_)
      refine b_istore_n (lv' := [(2, .int x7), (0, .int n1), (1, .int n2), (3, .int x6)]) C dX11_orders_33 rfl (by decide) rfl ?_
      refine b_iinc (v2 := x6 + 1) (lv' := [(3, .int (x6 + 1)), (2, .int x7), (0, .int n1), (1, .int n2)]) C dX11_orders_34 3 rfl rfl (by decide) rfl ?_
      refine b_goto (tgt := 21) C dX11_orders_37 (by decide) ?_
      exact Wb.lv (hc4 x7 (x6 + 1) hm) [2, 3, 1, 0] rfl
  · refine b_iload_n C dX11_orders_9 rfl 2 rfl ?_
    refine b_iload_n C dX11_orders_10 rfl 3 rfl ?_
    refine b_imul C dX11_orders_11 ?_
    refine b_topi hm (fun x8 hm => ?_)
    refine b_istore_n (lv' := [(2, .int x8), (0, .int n1), (1, .int n2), (3, .int x3)]) C dX11_orders_12 rfl (by decide) rfl ?_
    refine b_iinc (v2 := x3 + 1) (lv' := [(3, .int (x3 + 1)), (2, .int x8), (0, .int n1), (1, .int n2)]) C dX11_orders_13 3 rfl rfl (by decide) rfl ?_
    refine b_goto (tgt := 4) C dX11_orders_16 (by decide) ?_
    exact Wb.lv (hc1 x8 (x3 + 1) hm) [2, 3, 1, 0] rfl
/-- BreakLearnerModel.divisor(II)I -/
def m_X11_divisor (F : Nat)  (n1 : Int32) (n2 : Int32)  : Option (Int32) :=
  jn1 (fun (y1 : Int32) =>
    wl2 (fun (x4 : Int32) (x5 : Int32) c3 =>
      if x5 = 0 then
        some x4
      else
        nzK x5 (
        letK (irm x4 x5) (fun x6 =>
        c3 x5 x6
        )
        )
      ) F y1 n2
    ) (fun k2 =>
    if 0 ≤ n1 then
      k2 n1
    else
      k2 (-n1)
    )
abbrev rmX11_divisor : Room := { frames := 0, cells := 0, slots := 0, locals := 0 }
set_option maxHeartbeats 4000000 in
set_option maxRecDepth 100000 in
theorem c_X11_divisor (l : Launch) (g : Gl)  (n1 : Int32) (n2 : Int32)  (F : Nat) (u : Int32) (hm : m_X11_divisor F n1 n2 = some u) : Ct l g yX11_divisor cX11_divisor 5 (some .int) rmX11_divisor [.int n1, .int n2] [] (some (.int u)) [] := by
  refine ent (own := RX11) (lv := [(0, .int n1), (1, .int n2)]) (by decide) rfl (Nat.le_of_ble_eq_true rfl) rfl rfl ?_
  intro x C
  unfold m_X11_divisor at hm
  refine b_iload_n C dX11_divisor_0 rfl 0 rfl ?_
  obtain ⟨k2, hk2, hm⟩ := jn1_some hm
  have jk2 : ∀ (y1 : Int32), k2 y1 = some u → Wb x [] [(1, .int n2)] 10 [.int y1] := by
    intro y1 hm
    have hm := hk2 _ hm
    refine b_istore_n (lv' := [(2, .int y1), (1, .int n2)]) C dX11_divisor_10 rfl (by decide) rfl ?_
    refine b_iload_n C dX11_divisor_11 rfl 1 rfl ?_
    refine b_istore_n (lv' := [(3, .int n2), (2, .int y1), (1, .int n2)]) C dX11_divisor_12 rfl (by decide) rfl ?_
    refine Wb.lv (lv' := [(2, .int y1), (3, .int n2)]) ?_ [1, 0] rfl
    refine wl2_W (Wg := fun (x4 : Int32) (x5 : Int32) => Wb x [] [(2, .int x4), (3, .int x5)] 13 []) ?_ F y1 n2 hm
    intro x4 x5 c3 hc3 hm
    refine b_iload_n C dX11_divisor_13 rfl 1 rfl ?_
    refine b_if_eq (tgt := 30) C dX11_divisor_14 (by decide) hm (fun hm => ?_) (fun hm => ?_)
    · refine b_iload_n C dX11_divisor_30 rfl 0 rfl ?_
      cases hm
      exact b_iret C dX11_divisor_31
    · refine b_iload_n C dX11_divisor_17 rfl 0 rfl ?_
      refine b_iload_n C dX11_divisor_18 rfl 1 rfl ?_
      obtain ⟨hz, hm⟩ := nzK_some hm
      refine b_irem C dX11_divisor_19 hz ?_
      refine b_topi hm (fun x6 hm => ?_)
      refine b_istore (lv' := [(4, .int x6), (2, .int x4), (3, .int x5)]) C dX11_divisor_20 (by decide) rfl ?_
      refine b_iload_n C dX11_divisor_22 rfl 2 rfl ?_
      refine b_istore_n (lv' := [(2, .int x5), (4, .int x6), (3, .int x5)]) C dX11_divisor_23 rfl (by decide) rfl ?_
      refine b_iload C dX11_divisor_24 1 rfl ?_
      refine b_istore_n (lv' := [(3, .int x6), (2, .int x5), (4, .int x6)]) C dX11_divisor_26 rfl (by decide) rfl ?_
      refine b_goto (tgt := 13) C dX11_divisor_27 (by decide) ?_
      exact Wb.lv (hc3 x5 x6 hm) [1, 0] rfl
  refine b_if_ge (tgt := 9) C dX11_divisor_1 (by decide) hm (fun hm => ?_) (fun hm => ?_)
  · refine b_iload_n C dX11_divisor_9 rfl 0 rfl ?_
    exact Wb.lv (jk2 n1 hm) [1] rfl
  · refine b_iload_n C dX11_divisor_4 rfl 0 rfl ?_
    refine b_ineg C dX11_divisor_5 ?_
    refine b_goto (tgt := 10) C dX11_divisor_6 (by decide) ?_
    exact Wb.lv (jk2 (-n1) hm) [1] rfl
/-- BreakLearnerModel.fraction(IIZ)I -/
def m_X11_fraction (F : Nat)  (n1 : Int32) (n2 : Int32) (n3 : Int32)  : Option (Int32) :=
  bK1 (m_X11_divisor F n1 n2) (fun r1 =>
  if n3 = 0 then
    nzK r1 (
    some (n2 / r1)
    )
  else
    nzK r1 (
    some (n1 / r1)
    )
  )
abbrev rmX11_fraction : Room := { frames := 1, cells := 0, slots := 0, locals := 24 }
set_option maxHeartbeats 4000000 in
set_option maxRecDepth 100000 in
theorem c_X11_fraction (l : Launch) (g : Gl)  (n1 : Int32) (n2 : Int32) (n3 : Int32)  (F : Nat) (u : Int32) (hm : m_X11_fraction F n1 n2 n3 = some u) : Ct l g yX11_fraction cX11_fraction 4 (some .int) rmX11_fraction [.int n1, .int n2, .int n3] [] (some (.int u)) [] := by
  refine ent (own := RX11) (lv := [(0, .int n1), (1, .int n2), (2, .int n3)]) (by decide) rfl (Nat.le_of_ble_eq_true rfl) rfl rfl ?_
  intro x C
  unfold m_X11_fraction at hm
  refine b_iload_n C dX11_fraction_0 rfl 0 rfl ?_
  refine b_iload_n C dX11_fraction_1 rfl 1 rfl ?_
  obtain ⟨r1, hM, hm⟩ := bK1_some hm
  refine b_kS (w' := []) (st := []) (st2 := [.int r1]) C cs_X11_divisor tb1193 (c_X11_divisor l g n1 n2 F r1 hM) rfl ⟨rfl, rfl, by decide, by decide⟩ (Nat.le_of_ble_eq_true rfl) [] rfl (by decide) rfl rfl dX11_fraction_2 [] (by decide) trivial rfl ?_
  refine b_istore_n (lv' := [(3, .int r1), (0, .int n1), (1, .int n2), (2, .int n3)]) C dX11_fraction_5 rfl (by decide) rfl ?_
  refine b_iload_n C dX11_fraction_6 rfl 3 rfl ?_
  refine b_if_eq (tgt := 16) C dX11_fraction_7 (by decide) hm (fun hm => ?_) (fun hm => ?_)
  · refine b_iload_n C dX11_fraction_16 rfl 2 rfl ?_
    refine b_iload_n C dX11_fraction_17 rfl 0 rfl ?_
    obtain ⟨hz, hm⟩ := nzK_some hm
    refine b_idiv C dX11_fraction_18 hz ?_
    cases hm
    exact b_iret C dX11_fraction_19
  · refine b_iload_n C dX11_fraction_10 rfl 1 rfl ?_
    refine b_iload_n C dX11_fraction_11 rfl 0 rfl ?_
    obtain ⟨hz, hm⟩ := nzK_some hm
    refine b_idiv C dX11_fraction_12 hz ?_
    refine b_goto (tgt := 19) C dX11_fraction_13 (by decide) ?_
    cases hm
    exact b_iret C dX11_fraction_19
/-- BreakLearnerModel.layValues()V -/
def m_X11_layValues (F : Nat)   (th_signMany : Int32) (th_page : (Nat → Int32)) (th_plan : (Nat → Int32)) (th_signs : (Nat → Int32)) (th_digits : (Nat → Int32)) (th_good : (Nat → Int32)) (th_bad : (Nat → Int32)) (th_value : (Nat → Int32)) : Option (Int32 × (Nat → Int32) × (Nat → Int32) × (Nat → Int32) × (Nat → Int32) × (Nat → Int32) × (Nat → Int32)) :=
  wl8 (fun (x2 : Int32) (z3 : Int32) (f4 : (Nat → Int32)) (f5 : (Nat → Int32)) (f6 : (Nat → Int32)) (f7 : (Nat → Int32)) (f8 : (Nat → Int32)) (f9 : (Nat → Int32)) c1 =>
    rdK 22 th_page 0 (fun v10 =>
    if (1 <<< (v10 &&& 31)) ≤ x2 then
      some (z3, f4, f5, f6, f7, f8, f9)
    else
      bK6 (m_X11_learn F x2 z3 th_page f4 f5 f6 f7 f8) (fun z11 f12 f13 f14 f15 f16 =>
      bK1 (m_X11_rightOfAll F th_page f14) (fun r17 =>
      stK 64 f9 x2 r17 (fun f18 =>
      c1 (x2 + 1) z11 f12 f13 f14 f15 f16 f18
      )
      )
      )
    )
    ) F 0 th_signMany th_plan th_signs th_digits th_good th_bad th_value
abbrev rmX11_layValues : Room := { frames := 5, cells := 0, slots := 0, locals := 128 }
set_option maxHeartbeats 4000000 in
set_option maxRecDepth 100000 in
theorem c_X11_layValues (l : Launch) (g : Gl) (A_th A_th_page A_th_plan A_th_signs A_th_digits A_th_good A_th_bad A_th_value : Nat) (V_th_thrown V_th_text V_th_textSize V_th_readPage V_th_trial V_th_book V_th_doings V_th_kept V_th_isKept V_th_seen V_th_seenPlace V_th_seenDigit V_th_seenIs V_th_seed V_th_isNode V_th_base V_th_slot V_th_whichMany V_th_whichFirst : Value)   (th_signMany : Int32) (th_page : (Nat → Int32)) (th_plan : (Nat → Int32)) (th_signs : (Nat → Int32)) (th_digits : (Nat → Int32)) (th_good : (Nat → Int32)) (th_bad : (Nat → Int32)) (th_value : (Nat → Int32)) (F : Nat) (u : Int32 × (Nat → Int32) × (Nat → Int32) × (Nat → Int32) × (Nat → Int32) × (Nat → Int32) × (Nat → Int32)) (hm : m_X11_layValues F th_signMany th_page th_plan th_signs th_digits th_good th_bad th_value = some u) : Ct l g yX11_layValues cX11_layValues 2 none rmX11_layValues [.ref A_th] [(A_th, oO 10 [V_th_thrown, V_th_text, V_th_textSize, V_th_readPage, .ref A_th_page, V_th_trial, V_th_book, V_th_doings, V_th_kept, V_th_isKept, V_th_seen, V_th_seenPlace, V_th_seenDigit, V_th_seenIs, V_th_seed, .ref A_th_plan, .ref A_th_good, .ref A_th_bad, .ref A_th_signs, .int th_signMany, .ref A_th_digits, V_th_isNode, V_th_base, V_th_slot, V_th_whichMany, V_th_whichFirst, .ref A_th_value]), (A_th_page, iA g 22 th_page), (A_th_plan, iA g 1372 th_plan), (A_th_signs, iA g 8 th_signs), (A_th_digits, iA g 36 th_digits), (A_th_good, iA g 1372 th_good), (A_th_bad, iA g 1372 th_bad), (A_th_value, iA g 64 th_value)] none [(A_th, oO 10 [V_th_thrown, V_th_text, V_th_textSize, V_th_readPage, .ref A_th_page, V_th_trial, V_th_book, V_th_doings, V_th_kept, V_th_isKept, V_th_seen, V_th_seenPlace, V_th_seenDigit, V_th_seenIs, V_th_seed, .ref A_th_plan, .ref A_th_good, .ref A_th_bad, .ref A_th_signs, .int u.1, .ref A_th_digits, V_th_isNode, V_th_base, V_th_slot, V_th_whichMany, V_th_whichFirst, .ref A_th_value]), (A_th_page, iA g 22 th_page), (A_th_plan, iA g 1372 u.2.1), (A_th_signs, iA g 8 u.2.2.1), (A_th_digits, iA g 36 u.2.2.2.1), (A_th_good, iA g 1372 u.2.2.2.2.1), (A_th_bad, iA g 1372 u.2.2.2.2.2.1), (A_th_value, iA g 64 u.2.2.2.2.2.2)] := by
  refine ent (own := RX11) (lv := [(0, .ref A_th)]) (by decide) rfl (Nat.le_of_ble_eq_true rfl) rfl rfl ?_
  intro x C
  unfold m_X11_layValues at hm
  refine b_iconst (v := 0) C dX11_layValues_0 (by decide) ?_
  refine b_istore_n (lv' := [(1, .int 0), (0, .ref A_th)]) C dX11_layValues_1 rfl (by decide) rfl ?_
  refine Wb.lv (lv' := [(0, .ref A_th), (1, .int 0)]) ?_ [1, 0] rfl
  refine wl8_W (Wg := fun (x2 : Int32) (z3 : Int32) (f4 : (Nat → Int32)) (f5 : (Nat → Int32)) (f6 : (Nat → Int32)) (f7 : (Nat → Int32)) (f8 : (Nat → Int32)) (f9 : (Nat → Int32)) => Wb x [(A_th, oO 10 [V_th_thrown, V_th_text, V_th_textSize, V_th_readPage, .ref A_th_page, V_th_trial, V_th_book, V_th_doings, V_th_kept, V_th_isKept, V_th_seen, V_th_seenPlace, V_th_seenDigit, V_th_seenIs, V_th_seed, .ref A_th_plan, .ref A_th_good, .ref A_th_bad, .ref A_th_signs, .int z3, .ref A_th_digits, V_th_isNode, V_th_base, V_th_slot, V_th_whichMany, V_th_whichFirst, .ref A_th_value]), (A_th_page, iA g 22 th_page), (A_th_plan, iA g 1372 f4), (A_th_signs, iA g 8 f5), (A_th_digits, iA g 36 f6), (A_th_good, iA g 1372 f7), (A_th_bad, iA g 1372 f8), (A_th_value, iA g 64 f9)] [(0, .ref A_th), (1, .int x2)] 2 []) ?_ F 0 th_signMany th_plan th_signs th_digits th_good th_bad th_value hm
  intro x2 z3 f4 f5 f6 f7 f8 f9 c1 hc1 hm
  refine b_iload_n C dX11_layValues_2 rfl 1 rfl ?_
  refine b_iconst (v := 1) C dX11_layValues_3 (by decide) ?_
  refine b_aload_n C dX11_layValues_4 rfl 0 rfl ?_
  refine gfX11_16 C 0 rfl rfl dX11_layValues_5 ?_
  refine b_iconst (v := 0) C dX11_layValues_8 (by decide) ?_
  refine b_iald C 1 rfl dX11_layValues_9 hm (fun v10 hm => ?_)
  refine b_ishl C dX11_layValues_10 ?_
  refine b_icmp_ge (tgt := 43) C dX11_layValues_11 (by decide) hm (fun hm => ?_) (fun hm => ?_)
  · cases hm
    exact b_vret C dX11_layValues_43
  · refine b_aload_n C dX11_layValues_14 rfl 0 rfl ?_
    refine b_aload_n C dX11_layValues_15 rfl 0 rfl ?_
    refine gfX11_16 C 0 rfl rfl dX11_layValues_16 ?_
    refine b_iload_n C dX11_layValues_19 rfl 1 rfl ?_
    obtain ⟨z11, f12, f13, f14, f15, f16, hM, hm⟩ := bK6_some hm
    refine b_kV (w' := [(A_th, oO 10 [V_th_thrown, V_th_text, V_th_textSize, V_th_readPage, .ref A_th_page, V_th_trial, V_th_book, V_th_doings, V_th_kept, V_th_isKept, V_th_seen, V_th_seenPlace, V_th_seenDigit, V_th_seenIs, V_th_seed, .ref A_th_plan, .ref A_th_good, .ref A_th_bad, .ref A_th_signs, .int z11, .ref A_th_digits, V_th_isNode, V_th_base, V_th_slot, V_th_whichMany, V_th_whichFirst, .ref A_th_value]), (A_th_page, iA g 22 th_page), (A_th_plan, iA g 1372 f12), (A_th_signs, iA g 8 f13), (A_th_digits, iA g 36 f14), (A_th_good, iA g 1372 f15), (A_th_bad, iA g 1372 f16), (A_th_value, iA g 64 f9)]) (st := []) (st2 := []) C cv_X11_learn tb967 (c_X11_learn l g A_th A_th_page A_th_plan A_th_signs A_th_digits A_th_good A_th_bad V_th_thrown V_th_text V_th_textSize V_th_readPage (.ref A_th_page) V_th_trial V_th_book V_th_doings V_th_kept V_th_isKept V_th_seen V_th_seenPlace V_th_seenDigit V_th_seenIs V_th_seed V_th_isNode V_th_base V_th_slot V_th_whichMany V_th_whichFirst (.ref A_th_value) x2 z3 th_page f4 f5 f6 f7 f8 F (z11, f12, f13, f14, f15, f16) hM) rfl 0 rfl rfl ⟨rfl, rfl, by decide, by decide⟩ (Nat.le_of_ble_eq_true rfl) [0, 1, 2, 3, 4, 5, 6] rfl (by decide) rfl rfl dX11_layValues_20 [some 0, some 1, some 2, some 3, some 4, some 5, some 6, none] (by decide) ⟨⟨rfl, rfl⟩, ⟨⟨rfl, rfl⟩, ⟨⟨rfl, rfl⟩, ⟨⟨rfl, rfl⟩, ⟨⟨rfl, rfl⟩, ⟨⟨rfl, rfl⟩, ⟨⟨rfl, rfl⟩, ⟨rfl, trivial⟩⟩⟩⟩⟩⟩⟩⟩ rfl ?_
    refine b_aload_n C dX11_layValues_23 rfl 0 rfl ?_
    refine gfX11_65 C 0 rfl rfl dX11_layValues_24 ?_
    refine b_iload_n C dX11_layValues_27 rfl 1 rfl ?_
    refine b_aload_n C dX11_layValues_28 rfl 0 rfl ?_
    refine b_aload_n C dX11_layValues_29 rfl 0 rfl ?_
    refine gfX11_16 C 0 rfl rfl dX11_layValues_30 ?_
    obtain ⟨r17, hM, hm⟩ := bK1_some hm
    refine b_kV (w' := [(A_th, oO 10 [V_th_thrown, V_th_text, V_th_textSize, V_th_readPage, .ref A_th_page, V_th_trial, V_th_book, V_th_doings, V_th_kept, V_th_isKept, V_th_seen, V_th_seenPlace, V_th_seenDigit, V_th_seenIs, V_th_seed, .ref A_th_plan, .ref A_th_good, .ref A_th_bad, .ref A_th_signs, .int z11, .ref A_th_digits, V_th_isNode, V_th_base, V_th_slot, V_th_whichMany, V_th_whichFirst, .ref A_th_value]), (A_th_page, iA g 22 th_page), (A_th_plan, iA g 1372 f12), (A_th_signs, iA g 8 f13), (A_th_digits, iA g 36 f14), (A_th_good, iA g 1372 f15), (A_th_bad, iA g 1372 f16), (A_th_value, iA g 64 f9)]) (st := [.int x2, .ref A_th_value]) (st2 := [.int r17, .int x2, .ref A_th_value]) C cv_X11_rightOfAll tb1027 (c_X11_rightOfAll l g A_th A_th_page A_th_digits V_th_thrown V_th_text V_th_textSize V_th_readPage (.ref A_th_page) V_th_trial V_th_book V_th_doings V_th_kept V_th_isKept V_th_seen V_th_seenPlace V_th_seenDigit V_th_seenIs V_th_seed (.ref A_th_plan) (.ref A_th_good) (.ref A_th_bad) (.ref A_th_signs) (.int z11) V_th_isNode V_th_base V_th_slot V_th_whichMany V_th_whichFirst (.ref A_th_value) th_page f14 F r17 hM) rfl 0 rfl rfl ⟨rfl, rfl, by decide, by decide⟩ (Nat.le_of_ble_eq_true rfl) [0, 1, 4] rfl (by decide) rfl rfl dX11_layValues_33 [some 0, some 1, none, none, some 2, none, none, none] (by decide) ⟨⟨rfl, rfl⟩, ⟨⟨rfl, rfl⟩, ⟨rfl, ⟨rfl, ⟨⟨rfl, rfl⟩, ⟨rfl, ⟨rfl, ⟨rfl, trivial⟩⟩⟩⟩⟩⟩⟩⟩ rfl ?_
    refine b_iast C 7 rfl dX11_layValues_36 hm (fun f18 hm => Wb.to (w' := [(A_th, oO 10 [V_th_thrown, V_th_text, V_th_textSize, V_th_readPage, .ref A_th_page, V_th_trial, V_th_book, V_th_doings, V_th_kept, V_th_isKept, V_th_seen, V_th_seenPlace, V_th_seenDigit, V_th_seenIs, V_th_seed, .ref A_th_plan, .ref A_th_good, .ref A_th_bad, .ref A_th_signs, .int z11, .ref A_th_digits, V_th_isNode, V_th_base, V_th_slot, V_th_whichMany, V_th_whichFirst, .ref A_th_value]), (A_th_page, iA g 22 th_page), (A_th_plan, iA g 1372 f12), (A_th_signs, iA g 8 f13), (A_th_digits, iA g 36 f14), (A_th_good, iA g 1372 f15), (A_th_bad, iA g 1372 f16), (A_th_value, iA g 64 f18)]) rfl ?_)
    refine b_iinc (v2 := x2 + 1) (lv' := [(1, .int (x2 + 1)), (0, .ref A_th)]) C dX11_layValues_37 1 rfl rfl (by decide) rfl ?_
    refine b_goto (tgt := 2) C dX11_layValues_40 (by decide) ?_
    exact Wb.lv (hc1 (x2 + 1) z11 f12 f13 f14 f15 f16 f18 hm) [1, 0] rfl
