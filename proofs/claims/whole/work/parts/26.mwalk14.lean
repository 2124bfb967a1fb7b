/-- BreakLearnerModel.level(II)I -/
def m_X11_level (F : Nat)  (n1 : Int32) (n2 : Int32) (th_thrown : Int32) (th_signMany : Int32) (th_page : (Nat → Int32)) (th_plan : (Nat → Int32)) (th_signs : (Nat → Int32)) (th_digits : (Nat → Int32)) (th_good : (Nat → Int32)) (th_bad : (Nat → Int32)) : Option (Int32 × Int32 × Int32 × (Nat → Int32) × (Nat → Int32) × (Nat → Int32) × (Nat → Int32) × (Nat → Int32)) :=
  bK1 (m_X11_in F n1.toInt64 1 4) (fun r1 =>
  if r1 = 0 then
    some ((-1), 0, th_signMany, th_plan, th_signs, th_digits, th_good, th_bad)
  else
    bK6 (m_X11_learnAll F th_signMany th_page th_plan th_signs th_digits th_good th_bad) (fun z2 f3 f4 f5 f6 f7 =>
    if n2 = 0 then
      rdK 22 th_page ((13 + n1) - 1) (fun v10 =>
      some (v10, 0, z2, f3, f4, f5, f6, f7)
      )
    else
      if n2 = 1 then
        rdK 22 th_page ((17 + n1) - 1) (fun v9 =>
        some (v9, 0, z2, f3, f4, f5, f6, f7)
        )
      else
        if n2 = 2 then
          bK1 (m_X11_patternsOf F n1 f3) (fun r8 =>
          some (r8, 0, z2, f3, f4, f5, f6, f7)
          )
        else
          some ((-2), 0, z2, f3, f4, f5, f6, f7)
    )
  )
abbrev rmX11_level : Room := { frames := 6, cells := 0, slots := 0, locals := 149 }
set_option maxHeartbeats 4000000 in
set_option maxRecDepth 100000 in
theorem c_X11_level (l : Launch) (g : Gl) (A_th A_th_page A_th_plan A_th_signs A_th_digits A_th_good A_th_bad : Nat) (V_th_text V_th_textSize V_th_readPage V_th_trial V_th_book V_th_doings V_th_kept V_th_isKept V_th_seen V_th_seenPlace V_th_seenDigit V_th_seenIs V_th_seed V_th_isNode V_th_base V_th_slot V_th_whichMany V_th_whichFirst V_th_value : Value)  (n1 : Int32) (n2 : Int32) (th_thrown : Int32) (th_signMany : Int32) (th_page : (Nat → Int32)) (th_plan : (Nat → Int32)) (th_signs : (Nat → Int32)) (th_digits : (Nat → Int32)) (th_good : (Nat → Int32)) (th_bad : (Nat → Int32)) (F : Nat) (u : Int32 × Int32 × Int32 × (Nat → Int32) × (Nat → Int32) × (Nat → Int32) × (Nat → Int32) × (Nat → Int32)) (hm : m_X11_level F n1 n2 th_thrown th_signMany th_page th_plan th_signs th_digits th_good th_bad = some u) : Ct l g yX11_level cX11_level 3 (some .int) rmX11_level [.ref A_th, .int n1, .int n2] [(A_th, oO 10 [.int th_thrown, V_th_text, V_th_textSize, V_th_readPage, .ref A_th_page, V_th_trial, V_th_book, V_th_doings, V_th_kept, V_th_isKept, V_th_seen, V_th_seenPlace, V_th_seenDigit, V_th_seenIs, V_th_seed, .ref A_th_plan, .ref A_th_good, .ref A_th_bad, .ref A_th_signs, .int th_signMany, .ref A_th_digits, V_th_isNode, V_th_base, V_th_slot, V_th_whichMany, V_th_whichFirst, V_th_value]), (A_th_page, iA g 22 th_page), (A_th_plan, iA g 1372 th_plan), (A_th_signs, iA g 8 th_signs), (A_th_digits, iA g 36 th_digits), (A_th_good, iA g 1372 th_good), (A_th_bad, iA g 1372 th_bad)] (some (.int u.1)) [(A_th, oO 10 [.int u.2.1, V_th_text, V_th_textSize, V_th_readPage, .ref A_th_page, V_th_trial, V_th_book, V_th_doings, V_th_kept, V_th_isKept, V_th_seen, V_th_seenPlace, V_th_seenDigit, V_th_seenIs, V_th_seed, .ref A_th_plan, .ref A_th_good, .ref A_th_bad, .ref A_th_signs, .int u.2.2.1, .ref A_th_digits, V_th_isNode, V_th_base, V_th_slot, V_th_whichMany, V_th_whichFirst, V_th_value]), (A_th_page, iA g 22 th_page), (A_th_plan, iA g 1372 u.2.2.2.1), (A_th_signs, iA g 8 u.2.2.2.2.1), (A_th_digits, iA g 36 u.2.2.2.2.2.1), (A_th_good, iA g 1372 u.2.2.2.2.2.2.1), (A_th_bad, iA g 1372 u.2.2.2.2.2.2.2)] := by
  refine ent (own := RX11) (lv := [(0, .ref A_th), (1, .int n1), (2, .int n2)]) (by decide) rfl (Nat.le_of_ble_eq_true rfl) rfl rfl ?_
  intro x C
  unfold m_X11_level at hm
  refine b_aload_n C dX11_level_0 rfl 0 rfl ?_
  refine b_iconst (v := 0) C dX11_level_1 (by decide) ?_
  refine pfX11_68 (w' := [(A_th, oO 10 [.int 0, V_th_text, V_th_textSize, V_th_readPage, .ref A_th_page, V_th_trial, V_th_book, V_th_doings, V_th_kept, V_th_isKept, V_th_seen, V_th_seenPlace, V_th_seenDigit, V_th_seenIs, V_th_seed, .ref A_th_plan, .ref A_th_good, .ref A_th_bad, .ref A_th_signs, .int th_signMany, .ref A_th_digits, V_th_isNode, V_th_base, V_th_slot, V_th_whichMany, V_th_whichFirst, V_th_value]), (A_th_page, iA g 22 th_page), (A_th_plan, iA g 1372 th_plan), (A_th_signs, iA g 8 th_signs), (A_th_digits, iA g 36 th_digits), (A_th_good, iA g 1372 th_good), (A_th_bad, iA g 1372 th_bad)]) C rfl rfl 0 rfl (Nat.le_of_ble_eq_true rfl) dX11_level_2 rfl ?_
  refine b_iload_n C dX11_level_5 rfl 1 rfl ?_
  refine b_i2l C dX11_level_6 ?_
  refine b_lconst (v := 1) C dX11_level_7 (by decide) ?_
  refine b_ldc2 C tb1075 dX11_level_8 ?_
  obtain ⟨r1, hM, hm⟩ := bK1_some hm
  refine b_kS (w' := [(A_th, oO 10 [.int 0, V_th_text, V_th_textSize, V_th_readPage, .ref A_th_page, V_th_trial, V_th_book, V_th_doings, V_th_kept, V_th_isKept, V_th_seen, V_th_seenPlace, V_th_seenDigit, V_th_seenIs, V_th_seed, .ref A_th_plan, .ref A_th_good, .ref A_th_bad, .ref A_th_signs, .int th_signMany, .ref A_th_digits, V_th_isNode, V_th_base, V_th_slot, V_th_whichMany, V_th_whichFirst, V_th_value]), (A_th_page, iA g 22 th_page), (A_th_plan, iA g 1372 th_plan), (A_th_signs, iA g 8 th_signs), (A_th_digits, iA g 36 th_digits), (A_th_good, iA g 1372 th_good), (A_th_bad, iA g 1372 th_bad)]) (st := []) (st2 := [.int r1]) C cs_X11_in tb937 (c_X11_in l g n1.toInt64 1 4 F r1 hM) rfl ⟨rfl, rfl, by decide, by decide⟩ (Nat.le_of_ble_eq_true rfl) [] rfl (by decide) rfl rfl dX11_level_11 [none, none, none, none, none, none, none] (by decide) ⟨rfl, ⟨rfl, ⟨rfl, ⟨rfl, ⟨rfl, ⟨rfl, ⟨rfl, trivial⟩⟩⟩⟩⟩⟩⟩ rfl ?_
  refine b_if_ne (tgt := 19) C dX11_level_14 (by decide) hm (fun hm => ?_) (fun hm => ?_)
  · refine b_aload_n C dX11_level_19 rfl 0 rfl ?_
    refine b_aload_n C dX11_level_20 rfl 0 rfl ?_
    refine gfX11_16 C 0 rfl rfl dX11_level_21 ?_
    obtain ⟨z2, f3, f4, f5, f6, f7, hM, hm⟩ := bK6_some hm
    refine b_kV (w' := [(A_th, oO 10 [.int 0, V_th_text, V_th_textSize, V_th_readPage, .ref A_th_page, V_th_trial, V_th_book, V_th_doings, V_th_kept, V_th_isKept, V_th_seen, V_th_seenPlace, V_th_seenDigit, V_th_seenIs, V_th_seed, .ref A_th_plan, .ref A_th_good, .ref A_th_bad, .ref A_th_signs, .int z2, .ref A_th_digits, V_th_isNode, V_th_base, V_th_slot, V_th_whichMany, V_th_whichFirst, V_th_value]), (A_th_page, iA g 22 th_page), (A_th_plan, iA g 1372 f3), (A_th_signs, iA g 8 f4), (A_th_digits, iA g 36 f5), (A_th_good, iA g 1372 f6), (A_th_bad, iA g 1372 f7)]) (st := []) (st2 := []) C cv_X11_learnAll tb963 (c_X11_learnAll l g A_th A_th_page A_th_plan A_th_signs A_th_digits A_th_good A_th_bad (.int 0) V_th_text V_th_textSize V_th_readPage (.ref A_th_page) V_th_trial V_th_book V_th_doings V_th_kept V_th_isKept V_th_seen V_th_seenPlace V_th_seenDigit V_th_seenIs V_th_seed V_th_isNode V_th_base V_th_slot V_th_whichMany V_th_whichFirst V_th_value th_signMany th_page th_plan th_signs th_digits th_good th_bad F (z2, f3, f4, f5, f6, f7) hM) rfl 0 rfl rfl ⟨rfl, rfl, by decide, by decide⟩ (Nat.le_of_ble_eq_true rfl) [0, 1, 2, 3, 4, 5, 6] rfl (by decide) rfl rfl dX11_level_24 [some 0, some 1, some 2, some 3, some 4, some 5, some 6] (by decide) ⟨⟨rfl, rfl⟩, ⟨⟨rfl, rfl⟩, ⟨⟨rfl, rfl⟩, ⟨⟨rfl, rfl⟩, ⟨⟨rfl, rfl⟩, ⟨⟨rfl, rfl⟩, ⟨⟨rfl, rfl⟩, trivial⟩⟩⟩⟩⟩⟩⟩ rfl ?_
    refine b_iload_n C dX11_level_27 rfl 2 rfl ?_
    refine b_if_ne (tgt := 45) C dX11_level_28 (by decide) hm (fun hm => ?_) (fun hm => ?_)
    · refine b_iload_n C dX11_level_45 rfl 2 rfl ?_
      refine b_iconst (v := 1) C dX11_level_46 (by decide) ?_
      refine b_icmp_ne (tgt := 64) C dX11_level_47 (by decide) hm (fun hm => ?_) (fun hm => ?_)
      · refine b_iload_n C dX11_level_64 rfl 2 rfl ?_
        refine b_iconst (v := 2) C dX11_level_65 (by decide) ?_
        refine b_icmp_ne (tgt := 77) C dX11_level_66 (by decide) hm (fun hm => ?_) (fun hm => ?_)
        · refine b_bipush (v := (-2)) C dX11_level_77 (by decide) ?_
          cases hm
          exact b_iret C dX11_level_79
        · refine b_aload_n C dX11_level_69 rfl 0 rfl ?_
          refine b_iload_n C dX11_level_70 rfl 1 rfl ?_
          obtain ⟨r8, hM, hm⟩ := bK1_some hm
          refine b_kV (w' := [(A_th, oO 10 [.int 0, V_th_text, V_th_textSize, V_th_readPage, .ref A_th_page, V_th_trial, V_th_book, V_th_doings, V_th_kept, V_th_isKept, V_th_seen, V_th_seenPlace, V_th_seenDigit, V_th_seenIs, V_th_seed, .ref A_th_plan, .ref A_th_good, .ref A_th_bad, .ref A_th_signs, .int z2, .ref A_th_digits, V_th_isNode, V_th_base, V_th_slot, V_th_whichMany, V_th_whichFirst, V_th_value]), (A_th_page, iA g 22 th_page), (A_th_plan, iA g 1372 f3), (A_th_signs, iA g 8 f4), (A_th_digits, iA g 36 f5), (A_th_good, iA g 1372 f6), (A_th_bad, iA g 1372 f7)]) (st := []) (st2 := [.int r8]) C cv_X11_patternsOf tb1039 (c_X11_patternsOf l g A_th A_th_plan (.int 0) V_th_text V_th_textSize V_th_readPage (.ref A_th_page) V_th_trial V_th_book V_th_doings V_th_kept V_th_isKept V_th_seen V_th_seenPlace V_th_seenDigit V_th_seenIs V_th_seed (.ref A_th_good) (.ref A_th_bad) (.ref A_th_signs) (.int z2) (.ref A_th_digits) V_th_isNode V_th_base V_th_slot V_th_whichMany V_th_whichFirst V_th_value n1 f3 F r8 hM) rfl 0 rfl rfl ⟨rfl, rfl, by decide, by decide⟩ (Nat.le_of_ble_eq_true rfl) [0, 2] rfl (by decide) rfl rfl dX11_level_71 [some 0, none, some 1, none, none, none, none] (by decide) ⟨⟨rfl, rfl⟩, ⟨rfl, ⟨⟨rfl, rfl⟩, ⟨rfl, ⟨rfl, ⟨rfl, ⟨rfl, trivial⟩⟩⟩⟩⟩⟩⟩ rfl ?_
          refine b_goto (tgt := 79) C dX11_level_74 (by decide) ?_
          cases hm
          exact b_iret C dX11_level_79
      · refine b_aload_n C dX11_level_50 rfl 0 rfl ?_
        refine gfX11_16 C 0 rfl rfl dX11_level_51 ?_
        refine b_bipush (v := 17) C dX11_level_54 (by decide) ?_
        refine b_iload_n C dX11_level_56 rfl 1 rfl ?_
        refine b_iadd C dX11_level_57 ?_
        refine b_iconst (v := 1) C dX11_level_58 (by decide) ?_
        refine b_isub C dX11_level_59 ?_
        refine b_iald C 1 rfl dX11_level_60 hm (fun v9 hm => ?_)
        refine b_goto (tgt := 79) C dX11_level_61 (by decide) ?_
        cases hm
        exact b_iret C dX11_level_79
    · refine b_aload_n C dX11_level_31 rfl 0 rfl ?_
      refine gfX11_16 C 0 rfl rfl dX11_level_32 ?_
      refine b_bipush (v := 13) C dX11_level_35 (by decide) ?_
      refine b_iload_n C dX11_level_37 rfl 1 rfl ?_
      refine b_iadd C dX11_level_38 ?_
      refine b_iconst (v := 1) C dX11_level_39 (by decide) ?_
      refine b_isub C dX11_level_40 ?_
      refine b_iald C 1 rfl dX11_level_41 hm (fun v10 hm => ?_)
      refine b_goto (tgt := 79) C dX11_level_42 (by decide) ?_
      cases hm
      exact b_iret C dX11_level_79
  · refine b_iconst (v := (-1)) C dX11_level_17 (by decide) ?_
    cases hm
    exact b_iret C dX11_level_18
/-- BreakLearnerModel.areFigures(IIII)Z -/
def m_X11_areFigures (F : Nat)  (n1 : Int32) (n2 : Int32) (n3 : Int32) (n4 : Int32)  : Option (Int32) :=
  jn1 (fun (y1 : Int32) =>
    wl2 (fun (x4 : Int32) (x5 : Int32) c3 =>
      if x5 ≤ 0 then
        zK x4 (some x4)
      else
        jn1 (fun (y6 : Int32) =>
          letK (x5 / 10) (fun x8 =>
          c3 y6 x8
          )
          ) (fun k7 =>
          jn0 (
            k7 0
            ) (fun k9 =>
            if x4 = 0 then
              k9
            else
              bK1 (m_X11_in F ((irm x5 10).toInt64) 1 n4.toInt64) (fun r10 =>
              if r10 = 0 then
                k9
              else
                k7 1
              )
            )
          )
      ) F y1 n1
    ) (fun k2 =>
    jn0 (
      k2 0
      ) (fun k11 =>
      if n1 ≤ 0 then
        k11
      else
        bK1 (m_X11_length F n1) (fun r12 =>
        bK1 (m_X11_in F r12.toInt64 n2.toInt64 n3.toInt64) (fun r13 =>
        if r13 = 0 then
          k11
        else
          k2 1
        )
        )
      )
    )
abbrev rmX11_areFigures : Room := { frames := 1, cells := 0, slots := 0, locals := 25 }
set_option maxHeartbeats 4000000 in
set_option maxRecDepth 100000 in
theorem c_X11_areFigures (l : Launch) (g : Gl)  (n1 : Int32) (n2 : Int32) (n3 : Int32) (n4 : Int32)  (F : Nat) (u : Int32) (hm : m_X11_areFigures F n1 n2 n3 n4 = some u) : Ct l g yX11_areFigures cX11_areFigures 6 (some .boolean) rmX11_areFigures [.int n1, .int n2, .int n3, .int n4] [] (some (.int u)) [] := by
  refine ent (own := RX11) (lv := [(0, .int n1), (1, .int n2), (2, .int n3), (3, .int n4)]) (by decide) rfl (Nat.le_of_ble_eq_true rfl) rfl rfl ?_
  intro x C
  unfold m_X11_areFigures at hm
  refine b_iload_n C dX11_areFigures_0 rfl 0 rfl ?_
  obtain ⟨k2, hk2, hm⟩ := jn1_some hm
  have jk2 : ∀ (y1 : Int32), k2 y1 = some u → Wb x [] [(0, .int n1), (3, .int n4)] 24 [.int y1] := by
    intro y1 hm
    have hm := hk2 _ hm
    refine b_istore (lv' := [(4, .int y1), (0, .int n1), (3, .int n4)]) C dX11_areFigures_24 (by decide) rfl ?_
    refine b_iload_n C dX11_areFigures_26 rfl 1 rfl ?_
    refine b_istore (lv' := [(5, .int n1), (4, .int y1), (0, .int n1), (3, .int n4)]) C dX11_areFigures_27 (by decide) rfl ?_
    refine Wb.lv (lv' := [(3, .int n4), (4, .int y1), (5, .int n1)]) ?_ [3, 1, 0] rfl
    refine wl2_W (Wg := fun (x4 : Int32) (x5 : Int32) => Wb x [] [(3, .int n4), (4, .int x4), (5, .int x5)] 29 []) ?_ F y1 n1 hm
    intro x4 x5 c3 hc3 hm
    refine b_iload C dX11_areFigures_29 2 rfl ?_
    refine b_if_le (tgt := 71) C dX11_areFigures_31 (by decide) hm (fun hm => ?_) (fun hm => ?_)
    · refine b_iload C dX11_areFigures_71 1 rfl ?_
      obtain ⟨hn, hm⟩ := zK_some hm
      cases hm
      exact b_zret C hn dX11_areFigures_73
    · refine b_iload C dX11_areFigures_34 1 rfl ?_
      obtain ⟨k7, hk7, hm⟩ := jn1_some hm
      have jk7 : ∀ (y6 : Int32), k7 y6 = some u → Wb x [] [(3, .int n4), (5, .int x5)] 59 [.int y6] := by
        intro y6 hm
        have hm := hk7 _ hm
        refine b_istore (lv' := [(4, .int y6), (3, .int n4), (5, .int x5)]) C dX11_areFigures_59 (by decide) rfl ?_
        refine b_iload C dX11_areFigures_61 2 rfl ?_
        refine b_bipush (v := 10) C dX11_areFigures_63 (by decide) ?_
        refine b_idiv C dX11_areFigures_65 (by decide) ?_
        refine b_topi hm (fun x8 hm => ?_)
        refine b_istore (lv' := [(5, .int x8), (4, .int y6), (3, .int n4)]) C dX11_areFigures_66 (by decide) rfl ?_
        refine b_goto (tgt := 29) C dX11_areFigures_68 (by decide) ?_
        exact Wb.lv (hc3 y6 x8 hm) [2, 1, 0] rfl
      obtain ⟨k9, hk9, hm⟩ := jn0_some hm
      have jk9 : k9  = some u → Wb x [] [(3, .int n4), (5, .int x5)] 58 [] := by
        intro  hm
        have hm := hk9 hm
        refine b_iconst (v := 0) C dX11_areFigures_58 (by decide) ?_
        exact Wb.lv (jk7 0 hm) [0, 1] rfl
      refine b_if_eq (tgt := 58) C dX11_areFigures_36 (by decide) hm (fun hm => ?_) (fun hm => ?_)
      · exact Wb.lv (jk9  hm) [0, 2] rfl
      · refine b_iload C dX11_areFigures_39 2 rfl ?_
        refine b_bipush (v := 10) C dX11_areFigures_41 (by decide) ?_
        refine b_irem C dX11_areFigures_43 (by decide) ?_
        refine b_i2l C dX11_areFigures_44 ?_
        refine b_lconst (v := 1) C dX11_areFigures_45 (by decide) ?_
        refine b_iload_n C dX11_areFigures_46 rfl 0 rfl ?_
        refine b_i2l C dX11_areFigures_47 ?_
        obtain ⟨r10, hM, hm⟩ := bK1_some hm
        refine b_kS (w' := []) (st := []) (st2 := [.int r10]) C cs_X11_in tb937 (c_X11_in l g ((irm x5 10).toInt64) 1 n4.toInt64 F r10 hM) rfl ⟨rfl, rfl, by decide, by decide⟩ (Nat.le_of_ble_eq_true rfl) [] rfl (by decide) rfl rfl dX11_areFigures_48 [] (by decide) trivial rfl ?_
        refine b_if_eq (tgt := 58) C dX11_areFigures_51 (by decide) hm (fun hm => ?_) (fun hm => ?_)
        · exact Wb.lv (jk9  hm) [0, 2] rfl
        · refine b_iconst (v := 1) C dX11_areFigures_54 (by decide) ?_
          refine b_goto (tgt := 59) C dX11_areFigures_55 (by decide) ?_
          exact Wb.lv (jk7 1 hm) [0, 2] rfl
  obtain ⟨k11, hk11, hm⟩ := jn0_some hm
  have jk11 : k11  = some u → Wb x [] [(0, .int n1), (3, .int n4)] 23 [] := by
    intro  hm
    have hm := hk11 hm
    refine b_iconst (v := 0) C dX11_areFigures_23 (by decide) ?_
    exact Wb.lv (jk2 0 hm) [0, 1] rfl
  refine b_if_le (tgt := 23) C dX11_areFigures_1 (by decide) hm (fun hm => ?_) (fun hm => ?_)
  · exact Wb.lv (jk11  hm) [0, 3] rfl
  · refine b_iload_n C dX11_areFigures_4 rfl 0 rfl ?_
    obtain ⟨r12, hM, hm⟩ := bK1_some hm
    refine b_kS (w' := []) (st := []) (st2 := [.int r12]) C cs_X11_length tb979 (c_X11_length l g n1 F r12 hM) rfl ⟨rfl, rfl, by decide, by decide⟩ (Nat.le_of_ble_eq_true rfl) [] rfl (by decide) rfl rfl dX11_areFigures_5 [] (by decide) trivial rfl ?_
    refine b_i2l C dX11_areFigures_8 ?_
    refine b_iload_n C dX11_areFigures_9 rfl 1 rfl ?_
    refine b_i2l C dX11_areFigures_10 ?_
    refine b_iload_n C dX11_areFigures_11 rfl 2 rfl ?_
    refine b_i2l C dX11_areFigures_12 ?_
    obtain ⟨r13, hM, hm⟩ := bK1_some hm
    refine b_kS (w' := []) (st := []) (st2 := [.int r13]) C cs_X11_in tb937 (c_X11_in l g r12.toInt64 n2.toInt64 n3.toInt64 F r13 hM) rfl ⟨rfl, rfl, by decide, by decide⟩ (Nat.le_of_ble_eq_true rfl) [] rfl (by decide) rfl rfl dX11_areFigures_13 [] (by decide) trivial rfl ?_
    refine b_if_eq (tgt := 23) C dX11_areFigures_16 (by decide) hm (fun hm => ?_) (fun hm => ?_)
    · exact Wb.lv (jk11  hm) [0, 3] rfl
    · refine b_iconst (v := 1) C dX11_areFigures_19 (by decide) ?_
      refine b_goto (tgt := 24) C dX11_areFigures_20 (by decide) ?_
      exact Wb.lv (jk2 1 hm) [0, 3] rfl
/-- BreakLearnerModel.isString(I)Z -/
def m_X11_isString (F : Nat)  (n1 : Int32)  : Option (Int32) :=
  bK1 (m_X11_areFigures F n1 1 3 6) (fun r1 =>
  if r1 = 0 then
    some 0
  else
    if n1 = 6 then
      some 0
    else
      if n1 = 66 then
        some 0
      else
        jn0 (
          some 1
          ) (fun k2 =>
          if n1 < 100 then
            k2
          else
            if (irm (n1 / 10) 10) = 6 then
              some 0
            else
              k2
          )
  )
abbrev rmX11_isString : Room := { frames := 2, cells := 0, slots := 0, locals := 50 }
set_option maxHeartbeats 4000000 in
set_option maxRecDepth 100000 in
theorem c_X11_isString (l : Launch) (g : Gl)  (n1 : Int32)  (F : Nat) (u : Int32) (hm : m_X11_isString F n1 = some u) : Ct l g yX11_isString cX11_isString 1 (some .boolean) rmX11_isString [.int n1] [] (some (.int u)) [] := by
  refine ent (own := RX11) (lv := [(0, .int n1)]) (by decide) rfl (Nat.le_of_ble_eq_true rfl) rfl rfl ?_
  intro x C
  unfold m_X11_isString at hm
  refine b_iload_n C dX11_isString_0 rfl 0 rfl ?_
  refine b_iconst (v := 1) C dX11_isString_1 (by decide) ?_
  refine b_iconst (v := 3) C dX11_isString_2 (by decide) ?_
  refine b_bipush (v := 6) C dX11_isString_3 (by decide) ?_
  obtain ⟨r1, hM, hm⟩ := bK1_some hm
  refine b_kS (w' := []) (st := []) (st2 := [.int r1]) C cs_X11_areFigures tb1083 (c_X11_areFigures l g n1 1 3 6 F r1 hM) rfl ⟨rfl, rfl, by decide, by decide⟩ (Nat.le_of_ble_eq_true rfl) [] rfl (by decide) rfl rfl dX11_isString_5 [] (by decide) trivial rfl ?_
  refine b_if_eq (tgt := 45) C dX11_isString_8 (by decide) hm (fun hm => ?_) (fun hm => ?_)
  · refine b_iconst (v := 0) C dX11_isString_45 (by decide) ?_
    cases hm
    exact b_zret (v := 0) C (by decide) dX11_isString_46
  · refine b_iload_n C dX11_isString_11 rfl 0 rfl ?_
    refine b_bipush (v := 6) C dX11_isString_12 (by decide) ?_
    refine b_icmp_eq (tgt := 45) C dX11_isString_14 (by decide) hm (fun hm => ?_) (fun hm => ?_)
    · refine b_iconst (v := 0) C dX11_isString_45 (by decide) ?_
      cases hm
      exact b_zret (v := 0) C (by decide) dX11_isString_46
    · refine b_iload_n C dX11_isString_17 rfl 0 rfl ?_
      refine b_bipush (v := 66) C dX11_isString_18 (by decide) ?_
      refine b_icmp_eq (tgt := 45) C dX11_isString_20 (by decide) hm (fun hm => ?_) (fun hm => ?_)
      · refine b_iconst (v := 0) C dX11_isString_45 (by decide) ?_
        cases hm
        exact b_zret (v := 0) C (by decide) dX11_isString_46
      · refine b_iload_n C dX11_isString_23 rfl 0 rfl ?_
        refine b_bipush (v := 100) C dX11_isString_24 (by decide) ?_
        obtain ⟨k2, hk2, hm⟩ := jn0_some hm
        have jk2 : k2  = some u → Wb x [] [] 41 [] := by
          intro  hm
          have hm := hk2 hm
          refine b_iconst (v := 1) C dX11_isString_41 (by decide) ?_
          refine b_goto (tgt := 46) C dX11_isString_42 (by decide) ?_
          cases hm
          exact b_zret (v := 1) C (by decide) dX11_isString_46
        refine b_icmp_lt (tgt := 41) C dX11_isString_26 (by decide) hm (fun hm => ?_) (fun hm => ?_)
        · exact Wb.lv (jk2  hm) [] rfl
        · refine b_iload_n C dX11_isString_29 rfl 0 rfl ?_
          refine b_bipush (v := 10) C dX11_isString_30 (by decide) ?_
          refine b_idiv C dX11_isString_32 (by decide) ?_
          refine b_bipush (v := 10) C dX11_isString_33 (by decide) ?_
          refine b_irem C dX11_isString_35 (by decide) ?_
          refine b_bipush (v := 6) C dX11_isString_36 (by decide) ?_
          refine b_icmp_eq (tgt := 45) C dX11_isString_38 (by decide) hm (fun hm => ?_) (fun hm => ?_)
          · refine b_iconst (v := 0) C dX11_isString_45 (by decide) ?_
            cases hm
            exact b_zret (v := 0) C (by decide) dX11_isString_46
          · exact Wb.lv (jk2  hm) [] rfl
/-- BreakLearnerModel.pattern(II)I -/
def m_X11_pattern (F : Nat)  (n1 : Int32) (n2 : Int32) (th_thrown : Int32) (th_signMany : Int32) (th_page : (Nat → Int32)) (th_plan : (Nat → Int32)) (th_signs : (Nat → Int32)) (th_digits : (Nat → Int32)) (th_good : (Nat → Int32)) (th_bad : (Nat → Int32)) : Option (Int32 × Int32 × Int32 × (Nat → Int32) × (Nat → Int32) × (Nat → Int32) × (Nat → Int32) × (Nat → Int32)) :=
  bK1 (m_X11_isString F n1) (fun r1 =>
  if r1 = 0 then
    some ((-2), 0, th_signMany, th_plan, th_signs, th_digits, th_good, th_bad)
  else
    bK1 (m_X11_length F n1) (fun r2 =>
    bK1 (m_X11_in F n2.toInt64 0 r2.toInt64) (fun r3 =>
    if r3 = 0 then
      some ((-2), 0, th_signMany, th_plan, th_signs, th_digits, th_good, th_bad)
    else
      bK6 (m_X11_learnAll F th_signMany th_page th_plan th_signs th_digits th_good th_bad) (fun z4 f5 f6 f7 f8 f9 =>
      bK1 (m_X11_sevens F n1) (fun r10 =>
      rdK 1372 f5 ((4 * r10) + n2) (fun v11 =>
      some (v11, 0, z4, f5, f6, f7, f8, f9)
      )
      )
      )
    )
    )
  )
abbrev rmX11_pattern : Room := { frames := 6, cells := 0, slots := 0, locals := 149 }
set_option maxHeartbeats 4000000 in
set_option maxRecDepth 100000 in
theorem c_X11_pattern (l : Launch) (g : Gl) (A_th A_th_page A_th_plan A_th_signs A_th_digits A_th_good A_th_bad : Nat) (V_th_text V_th_textSize V_th_readPage V_th_trial V_th_book V_th_doings V_th_kept V_th_isKept V_th_seen V_th_seenPlace V_th_seenDigit V_th_seenIs V_th_seed V_th_isNode V_th_base V_th_slot V_th_whichMany V_th_whichFirst V_th_value : Value)  (n1 : Int32) (n2 : Int32) (th_thrown : Int32) (th_signMany : Int32) (th_page : (Nat → Int32)) (th_plan : (Nat → Int32)) (th_signs : (Nat → Int32)) (th_digits : (Nat → Int32)) (th_good : (Nat → Int32)) (th_bad : (Nat → Int32)) (F : Nat) (u : Int32 × Int32 × Int32 × (Nat → Int32) × (Nat → Int32) × (Nat → Int32) × (Nat → Int32) × (Nat → Int32)) (hm : m_X11_pattern F n1 n2 th_thrown th_signMany th_page th_plan th_signs th_digits th_good th_bad = some u) : Ct l g yX11_pattern cX11_pattern 3 (some .int) rmX11_pattern [.ref A_th, .int n1, .int n2] [(A_th, oO 10 [.int th_thrown, V_th_text, V_th_textSize, V_th_readPage, .ref A_th_page, V_th_trial, V_th_book, V_th_doings, V_th_kept, V_th_isKept, V_th_seen, V_th_seenPlace, V_th_seenDigit, V_th_seenIs, V_th_seed, .ref A_th_plan, .ref A_th_good, .ref A_th_bad, .ref A_th_signs, .int th_signMany, .ref A_th_digits, V_th_isNode, V_th_base, V_th_slot, V_th_whichMany, V_th_whichFirst, V_th_value]), (A_th_page, iA g 22 th_page), (A_th_plan, iA g 1372 th_plan), (A_th_signs, iA g 8 th_signs), (A_th_digits, iA g 36 th_digits), (A_th_good, iA g 1372 th_good), (A_th_bad, iA g 1372 th_bad)] (some (.int u.1)) [(A_th, oO 10 [.int u.2.1, V_th_text, V_th_textSize, V_th_readPage, .ref A_th_page, V_th_trial, V_th_book, V_th_doings, V_th_kept, V_th_isKept, V_th_seen, V_th_seenPlace, V_th_seenDigit, V_th_seenIs, V_th_seed, .ref A_th_plan, .ref A_th_good, .ref A_th_bad, .ref A_th_signs, .int u.2.2.1, .ref A_th_digits, V_th_isNode, V_th_base, V_th_slot, V_th_whichMany, V_th_whichFirst, V_th_value]), (A_th_page, iA g 22 th_page), (A_th_plan, iA g 1372 u.2.2.2.1), (A_th_signs, iA g 8 u.2.2.2.2.1), (A_th_digits, iA g 36 u.2.2.2.2.2.1), (A_th_good, iA g 1372 u.2.2.2.2.2.2.1), (A_th_bad, iA g 1372 u.2.2.2.2.2.2.2)] := by
  refine ent (own := RX11) (lv := [(0, .ref A_th), (1, .int n1), (2, .int n2)]) (by decide) rfl (Nat.le_of_ble_eq_true rfl) rfl rfl ?_
  intro x C
  unfold m_X11_pattern at hm
  refine b_aload_n C dX11_pattern_0 rfl 0 rfl ?_
  refine b_iconst (v := 0) C dX11_pattern_1 (by decide) ?_
  refine pfX11_68 (w' := [(A_th, oO 10 [.int 0, V_th_text, V_th_textSize, V_th_readPage, .ref A_th_page, V_th_trial, V_th_book, V_th_doings, V_th_kept, V_th_isKept, V_th_seen, V_th_seenPlace, V_th_seenDigit, V_th_seenIs, V_th_seed, .ref A_th_plan, .ref A_th_good, .ref A_th_bad, .ref A_th_signs, .int th_signMany, .ref A_th_digits, V_th_isNode, V_th_base, V_th_slot, V_th_whichMany, V_th_whichFirst, V_th_value]), (A_th_page, iA g 22 th_page), (A_th_plan, iA g 1372 th_plan), (A_th_signs, iA g 8 th_signs), (A_th_digits, iA g 36 th_digits), (A_th_good, iA g 1372 th_good), (A_th_bad, iA g 1372 th_bad)]) C rfl rfl 0 rfl (Nat.le_of_ble_eq_true rfl) dX11_pattern_2 rfl ?_
  refine b_iload_n C dX11_pattern_5 rfl 1 rfl ?_
  obtain ⟨r1, hM, hm⟩ := bK1_some hm
  refine b_kS (w' := [(A_th, oO 10 [.int 0, V_th_text, V_th_textSize, V_th_readPage, .ref A_th_page, V_th_trial, V_th_book, V_th_doings, V_th_kept, V_th_isKept, V_th_seen, V_th_seenPlace, V_th_seenDigit, V_th_seenIs, V_th_seed, .ref A_th_plan, .ref A_th_good, .ref A_th_bad, .ref A_th_signs, .int th_signMany, .ref A_th_digits, V_th_isNode, V_th_base, V_th_slot, V_th_whichMany, V_th_whichFirst, V_th_value]), (A_th_page, iA g 22 th_page), (A_th_plan, iA g 1372 th_plan), (A_th_signs, iA g 8 th_signs), (A_th_digits, iA g 36 th_digits), (A_th_good, iA g 1372 th_good), (A_th_bad, iA g 1372 th_bad)]) (st := []) (st2 := [.int r1]) C cs_X11_isString tb1080 (c_X11_isString l g n1 F r1 hM) rfl ⟨rfl, rfl, by decide, by decide⟩ (Nat.le_of_ble_eq_true rfl) [] rfl (by decide) rfl rfl dX11_pattern_6 [none, none, none, none, none, none, none] (by decide) ⟨rfl, ⟨rfl, ⟨rfl, ⟨rfl, ⟨rfl, ⟨rfl, ⟨rfl, trivial⟩⟩⟩⟩⟩⟩⟩ rfl ?_
  refine b_if_eq (tgt := 26) C dX11_pattern_9 (by decide) hm (fun hm => ?_) (fun hm => ?_)
  · refine b_bipush (v := (-2)) C dX11_pattern_26 (by decide) ?_
    cases hm
    exact b_iret C dX11_pattern_28
  · refine b_iload_n C dX11_pattern_12 rfl 2 rfl ?_
    refine b_i2l C dX11_pattern_13 ?_
    refine b_lconst (v := 0) C dX11_pattern_14 (by decide) ?_
    refine b_iload_n C dX11_pattern_15 rfl 1 rfl ?_
    obtain ⟨r2, hM, hm⟩ := bK1_some hm
    refine b_kS (w' := [(A_th, oO 10 [.int 0, V_th_text, V_th_textSize, V_th_readPage, .ref A_th_page, V_th_trial, V_th_book, V_th_doings, V_th_kept, V_th_isKept, V_th_seen, V_th_seenPlace, V_th_seenDigit, V_th_seenIs, V_th_seed, .ref A_th_plan, .ref A_th_good, .ref A_th_bad, .ref A_th_signs, .int th_signMany, .ref A_th_digits, V_th_isNode, V_th_base, V_th_slot, V_th_whichMany, V_th_whichFirst, V_th_value]), (A_th_page, iA g 22 th_page), (A_th_plan, iA g 1372 th_plan), (A_th_signs, iA g 8 th_signs), (A_th_digits, iA g 36 th_digits), (A_th_good, iA g 1372 th_good), (A_th_bad, iA g 1372 th_bad)]) (st := [.long 0, .long n2.toInt64]) (st2 := [.int r2, .long 0, .long n2.toInt64]) C cs_X11_length tb979 (c_X11_length l g n1 F r2 hM) rfl ⟨rfl, rfl, by decide, by decide⟩ (Nat.le_of_ble_eq_true rfl) [] rfl (by decide) rfl rfl dX11_pattern_16 [none, none, none, none, none, none, none] (by decide) ⟨rfl, ⟨rfl, ⟨rfl, ⟨rfl, ⟨rfl, ⟨rfl, ⟨rfl, trivial⟩⟩⟩⟩⟩⟩⟩ rfl ?_
    refine b_i2l C dX11_pattern_19 ?_
    obtain ⟨r3, hM, hm⟩ := bK1_some hm
    refine b_kS (w' := [(A_th, oO 10 [.int 0, V_th_text, V_th_textSize, V_th_readPage, .ref A_th_page, V_th_trial, V_th_book, V_th_doings, V_th_kept, V_th_isKept, V_th_seen, V_th_seenPlace, V_th_seenDigit, V_th_seenIs, V_th_seed, .ref A_th_plan, .ref A_th_good, .ref A_th_bad, .ref A_th_signs, .int th_signMany, .ref A_th_digits, V_th_isNode, V_th_base, V_th_slot, V_th_whichMany, V_th_whichFirst, V_th_value]), (A_th_page, iA g 22 th_page), (A_th_plan, iA g 1372 th_plan), (A_th_signs, iA g 8 th_signs), (A_th_digits, iA g 36 th_digits), (A_th_good, iA g 1372 th_good), (A_th_bad, iA g 1372 th_bad)]) (st := []) (st2 := [.int r3]) C cs_X11_in tb937 (c_X11_in l g n2.toInt64 0 r2.toInt64 F r3 hM) rfl ⟨rfl, rfl, by decide, by decide⟩ (Nat.le_of_ble_eq_true rfl) [] rfl (by decide) rfl rfl dX11_pattern_20 [none, none, none, none, none, none, none] (by decide) ⟨rfl, ⟨rfl, ⟨rfl, ⟨rfl, ⟨rfl, ⟨rfl, ⟨rfl, trivial⟩⟩⟩⟩⟩⟩⟩ rfl ?_
    refine b_if_ne (tgt := 29) C dX11_pattern_23 (by decide) hm (fun hm => ?_) (fun hm => ?_)
    · refine b_aload_n C dX11_pattern_29 rfl 0 rfl ?_
      refine b_aload_n C dX11_pattern_30 rfl 0 rfl ?_
      refine gfX11_16 C 0 rfl rfl dX11_pattern_31 ?_
      obtain ⟨z4, f5, f6, f7, f8, f9, hM, hm⟩ := bK6_some hm
      refine b_kV (w' := [(A_th, oO 10 [.int 0, V_th_text, V_th_textSize, V_th_readPage, .ref A_th_page, V_th_trial, V_th_book, V_th_doings, V_th_kept, V_th_isKept, V_th_seen, V_th_seenPlace, V_th_seenDigit, V_th_seenIs, V_th_seed, .ref A_th_plan, .ref A_th_good, .ref A_th_bad, .ref A_th_signs, .int z4, .ref A_th_digits, V_th_isNode, V_th_base, V_th_slot, V_th_whichMany, V_th_whichFirst, V_th_value]), (A_th_page, iA g 22 th_page), (A_th_plan, iA g 1372 f5), (A_th_signs, iA g 8 f6), (A_th_digits, iA g 36 f7), (A_th_good, iA g 1372 f8), (A_th_bad, iA g 1372 f9)]) (st := []) (st2 := []) C cv_X11_learnAll tb963 (c_X11_learnAll l g A_th A_th_page A_th_plan A_th_signs A_th_digits A_th_good A_th_bad (.int 0) V_th_text V_th_textSize V_th_readPage (.ref A_th_page) V_th_trial V_th_book V_th_doings V_th_kept V_th_isKept V_th_seen V_th_seenPlace V_th_seenDigit V_th_seenIs V_th_seed V_th_isNode V_th_base V_th_slot V_th_whichMany V_th_whichFirst V_th_value th_signMany th_page th_plan th_signs th_digits th_good th_bad F (z4, f5, f6, f7, f8, f9) hM) rfl 0 rfl rfl ⟨rfl, rfl, by decide, by decide⟩ (Nat.le_of_ble_eq_true rfl) [0, 1, 2, 3, 4, 5, 6] rfl (by decide) rfl rfl dX11_pattern_34 [some 0, some 1, some 2, some 3, some 4, some 5, some 6] (by decide) ⟨⟨rfl, rfl⟩, ⟨⟨rfl, rfl⟩, ⟨⟨rfl, rfl⟩, ⟨⟨rfl, rfl⟩, ⟨⟨rfl, rfl⟩, ⟨⟨rfl, rfl⟩, ⟨⟨rfl, rfl⟩, trivial⟩⟩⟩⟩⟩⟩⟩ rfl ?_
      refine b_aload_n C dX11_pattern_37 rfl 0 rfl ?_
      refine gfX11_41 C 0 rfl rfl dX11_pattern_38 ?_
      refine b_iconst (v := 4) C dX11_pattern_41 (by decide) ?_
      refine b_iload_n C dX11_pattern_42 rfl 1 rfl ?_
      obtain ⟨r10, hM, hm⟩ := bK1_some hm
      refine b_kS (w' := [(A_th, oO 10 [.int 0, V_th_text, V_th_textSize, V_th_readPage, .ref A_th_page, V_th_trial, V_th_book, V_th_doings, V_th_kept, V_th_isKept, V_th_seen, V_th_seenPlace, V_th_seenDigit, V_th_seenIs, V_th_seed, .ref A_th_plan, .ref A_th_good, .ref A_th_bad, .ref A_th_signs, .int z4, .ref A_th_digits, V_th_isNode, V_th_base, V_th_slot, V_th_whichMany, V_th_whichFirst, V_th_value]), (A_th_page, iA g 22 th_page), (A_th_plan, iA g 1372 f5), (A_th_signs, iA g 8 f6), (A_th_digits, iA g 36 f7), (A_th_good, iA g 1372 f8), (A_th_bad, iA g 1372 f9)]) (st := [.int 4, .ref A_th_plan]) (st2 := [.int r10, .int 4, .ref A_th_plan]) C cs_X11_sevens tb1086 (c_X11_sevens l g n1 F r10 hM) rfl ⟨rfl, rfl, by decide, by decide⟩ (Nat.le_of_ble_eq_true rfl) [] rfl (by decide) rfl rfl dX11_pattern_43 [none, none, none, none, none, none, none] (by decide) ⟨rfl, ⟨rfl, ⟨rfl, ⟨rfl, ⟨rfl, ⟨rfl, ⟨rfl, trivial⟩⟩⟩⟩⟩⟩⟩ rfl ?_
      refine b_imul C dX11_pattern_46 ?_
      refine b_iload_n C dX11_pattern_47 rfl 2 rfl ?_
      refine b_iadd C dX11_pattern_48 ?_
      refine b_iald C 2 rfl dX11_pattern_49 hm (fun v11 hm => ?_)
      cases hm
      exact b_iret C dX11_pattern_50
    · refine b_bipush (v := (-2)) C dX11_pattern_26 (by decide) ?_
      cases hm
      exact b_iret C dX11_pattern_28
/-- BreakLearnerModel.note()V -/
def m_X11_note (F : Nat)   (th_doings : Int32) (th_book : (Nat → Int32)) (th_page : (Nat → Int32)) : Option (Int32 × (Nat → Int32)) :=
  jn2 (fun (z1 : Int32) (f2 : (Nat → Int32)) =>
    wl2 (fun (x5 : Int32) (f6 : (Nat → Int32)) c4 =>
      if 22 ≤ x5 then
        letK (z1 + 1) (fun z7 =>
        some (z7, f6)
        )
      else
        rdK 22 th_page x5 (fun v8 =>
        stK 308 f6 ((22 * z1) + x5) v8 (fun f9 =>
        c4 (x5 + 1) f9
        )
        )
      ) F 0 f2
    ) (fun k3 =>
    if th_doings = 14 then
      wl2 (fun (x11 : Int32) (f12 : (Nat → Int32)) c10 =>
        if 286 ≤ x11 then
          letK (th_doings - 1) (fun z13 =>
          k3 z13 f12
          )
        else
          rdK 308 f12 (x11 + 22) (fun v14 =>
          stK 308 f12 x11 v14 (fun f15 =>
          c10 (x11 + 1) f15
          )
          )
        ) F 0 th_book
    else
      k3 th_doings th_book
    )
abbrev rmX11_note : Room := { frames := 0, cells := 0, slots := 0, locals := 0 }
set_option maxHeartbeats 4000000 in
set_option maxRecDepth 100000 in
theorem c_X11_note (l : Launch) (g : Gl) (A_th A_th_book A_th_page : Nat) (V_th_thrown V_th_text V_th_textSize V_th_readPage V_th_trial V_th_kept V_th_isKept V_th_seen V_th_seenPlace V_th_seenDigit V_th_seenIs V_th_seed V_th_plan V_th_good V_th_bad V_th_signs V_th_signMany V_th_digits V_th_isNode V_th_base V_th_slot V_th_whichMany V_th_whichFirst V_th_value : Value)   (th_doings : Int32) (th_book : (Nat → Int32)) (th_page : (Nat → Int32)) (F : Nat) (u : Int32 × (Nat → Int32)) (hm : m_X11_note F th_doings th_book th_page = some u) : Ct l g yX11_note cX11_note 2 none rmX11_note [.ref A_th] [(A_th, oO 10 [V_th_thrown, V_th_text, V_th_textSize, V_th_readPage, .ref A_th_page, V_th_trial, .ref A_th_book, .int th_doings, V_th_kept, V_th_isKept, V_th_seen, V_th_seenPlace, V_th_seenDigit, V_th_seenIs, V_th_seed, V_th_plan, V_th_good, V_th_bad, V_th_signs, V_th_signMany, V_th_digits, V_th_isNode, V_th_base, V_th_slot, V_th_whichMany, V_th_whichFirst, V_th_value]), (A_th_book, iA g 308 th_book), (A_th_page, iA g 22 th_page)] none [(A_th, oO 10 [V_th_thrown, V_th_text, V_th_textSize, V_th_readPage, .ref A_th_page, V_th_trial, .ref A_th_book, .int u.1, V_th_kept, V_th_isKept, V_th_seen, V_th_seenPlace, V_th_seenDigit, V_th_seenIs, V_th_seed, V_th_plan, V_th_good, V_th_bad, V_th_signs, V_th_signMany, V_th_digits, V_th_isNode, V_th_base, V_th_slot, V_th_whichMany, V_th_whichFirst, V_th_value]), (A_th_book, iA g 308 u.2), (A_th_page, iA g 22 th_page)] := by
  refine ent (own := RX11) (lv := [(0, .ref A_th)]) (by decide) rfl (Nat.le_of_ble_eq_true rfl) rfl rfl ?_
  intro x C
  unfold m_X11_note at hm
  refine b_aload_n C dX11_note_0 rfl 0 rfl ?_
  refine gfX11_99 C 0 rfl rfl dX11_note_1 ?_
  refine b_bipush (v := 14) C dX11_note_4 (by decide) ?_
  obtain ⟨k3, hk3, hm⟩ := jn2_some hm
  have jk3 : ∀ (z1 : Int32) (f2 : (Nat → Int32)), k3 z1 f2 = some u → Wb x [(A_th, oO 10 [V_th_thrown, V_th_text, V_th_textSize, V_th_readPage, .ref A_th_page, V_th_trial, .ref A_th_book, .int z1, V_th_kept, V_th_isKept, V_th_seen, V_th_seenPlace, V_th_seenDigit, V_th_seenIs, V_th_seed, V_th_plan, V_th_good, V_th_bad, V_th_signs, V_th_signMany, V_th_digits, V_th_isNode, V_th_base, V_th_slot, V_th_whichMany, V_th_whichFirst, V_th_value]), (A_th_book, iA g 308 f2), (A_th_page, iA g 22 th_page)] [(0, .ref A_th)] 49 [] := by
    intro z1 f2 hm
    have hm := hk3 _ _ hm
    refine b_iconst (v := 0) C dX11_note_49 (by decide) ?_
    refine b_istore_n (lv' := [(1, .int 0), (0, .ref A_th)]) C dX11_note_50 rfl (by decide) rfl ?_
    refine Wb.lv (lv' := [(0, .ref A_th), (1, .int 0)]) ?_ [1, 0] rfl
    refine wl2_W (Wg := fun (x5 : Int32) (f6 : (Nat → Int32)) => Wb x [(A_th, oO 10 [V_th_thrown, V_th_text, V_th_textSize, V_th_readPage, .ref A_th_page, V_th_trial, .ref A_th_book, .int z1, V_th_kept, V_th_isKept, V_th_seen, V_th_seenPlace, V_th_seenDigit, V_th_seenIs, V_th_seed, V_th_plan, V_th_good, V_th_bad, V_th_signs, V_th_signMany, V_th_digits, V_th_isNode, V_th_base, V_th_slot, V_th_whichMany, V_th_whichFirst, V_th_value]), (A_th_book, iA g 308 f6), (A_th_page, iA g 22 th_page)] [(0, .ref A_th), (1, .int x5)] 51 []) ?_ F 0 f2 hm
    intro x5 f6 c4 hc4 hm
    refine b_iload_n C dX11_note_51 rfl 1 rfl ?_
    refine b_bipush (v := 22) C dX11_note_52 (by decide) ?_
    refine b_icmp_ge (tgt := 83) C dX11_note_54 (by decide) hm (fun hm => ?_) (fun hm => ?_)
    · refine b_aload_n C dX11_note_83 rfl 0 rfl ?_
      refine b_dup C dX11_note_84 rfl ?_
      refine gfX11_99 C 0 rfl rfl dX11_note_85 ?_
      refine b_iconst (v := 1) C dX11_note_88 (by decide) ?_
      refine b_iadd C dX11_note_89 ?_
      refine b_topi hm (fun z7 hm => ?_)
      refine pfX11_99 (w' := [(A_th, oO 10 [V_th_thrown, V_th_text, V_th_textSize, V_th_readPage, .ref A_th_page, V_th_trial, .ref A_th_book, .int z7, V_th_kept, V_th_isKept, V_th_seen, V_th_seenPlace, V_th_seenDigit, V_th_seenIs, V_th_seed, V_th_plan, V_th_good, V_th_bad, V_th_signs, V_th_signMany, V_th_digits, V_th_isNode, V_th_base, V_th_slot, V_th_whichMany, V_th_whichFirst, V_th_value]), (A_th_book, iA g 308 f6), (A_th_page, iA g 22 th_page)]) C rfl rfl 0 rfl (Nat.le_of_ble_eq_true rfl) dX11_note_90 rfl ?_
      cases hm
      exact b_vret C dX11_note_93
    · refine b_aload_n C dX11_note_57 rfl 0 rfl ?_
      refine gfX11_22 C 0 rfl rfl dX11_note_58 ?_
      refine b_bipush (v := 22) C dX11_note_61 (by decide) ?_
      refine b_aload_n C dX11_note_63 rfl 0 rfl ?_
      refine gfX11_99 C 0 rfl rfl dX11_note_64 ?_
      refine b_imul C dX11_note_67 ?_
      refine b_iload_n C dX11_note_68 rfl 1 rfl ?_
      refine b_iadd C dX11_note_69 ?_
      refine b_aload_n C dX11_note_70 rfl 0 rfl ?_
      refine gfX11_16 C 0 rfl rfl dX11_note_71 ?_
      refine b_iload_n C dX11_note_74 rfl 1 rfl ?_
      refine b_iald C 2 rfl dX11_note_75 hm (fun v8 hm => ?_)
      refine b_iast C 1 rfl dX11_note_76 hm (fun f9 hm => Wb.to (w' := [(A_th, oO 10 [V_th_thrown, V_th_text, V_th_textSize, V_th_readPage, .ref A_th_page, V_th_trial, .ref A_th_book, .int z1, V_th_kept, V_th_isKept, V_th_seen, V_th_seenPlace, V_th_seenDigit, V_th_seenIs, V_th_seed, V_th_plan, V_th_good, V_th_bad, V_th_signs, V_th_signMany, V_th_digits, V_th_isNode, V_th_base, V_th_slot, V_th_whichMany, V_th_whichFirst, V_th_value]), (A_th_book, iA g 308 f9), (A_th_page, iA g 22 th_page)]) rfl ?_)
      refine b_iinc (v2 := x5 + 1) (lv' := [(1, .int (x5 + 1)), (0, .ref A_th)]) C dX11_note_77 1 rfl rfl (by decide) rfl ?_
      refine b_goto (tgt := 51) C dX11_note_80 (by decide) ?_
      exact Wb.lv (hc4 (x5 + 1) f9 hm) [1, 0] rfl
  refine b_icmp_ne (tgt := 49) C dX11_note_6 (by decide) hm (fun hm => ?_) (fun hm => ?_)
  · exact Wb.lv (jk3 th_doings th_book hm) [0] rfl
  · refine b_iconst (v := 0) C dX11_note_9 (by decide) ?_
    refine b_istore_n (lv' := [(1, .int 0), (0, .ref A_th)]) C dX11_note_10 rfl (by decide) rfl ?_
    refine Wb.lv (lv' := [(0, .ref A_th), (1, .int 0)]) ?_ [1, 0] rfl
    refine wl2_W (Wg := fun (x11 : Int32) (f12 : (Nat → Int32)) => Wb x [(A_th, oO 10 [V_th_thrown, V_th_text, V_th_textSize, V_th_readPage, .ref A_th_page, V_th_trial, .ref A_th_book, .int th_doings, V_th_kept, V_th_isKept, V_th_seen, V_th_seenPlace, V_th_seenDigit, V_th_seenIs, V_th_seed, V_th_plan, V_th_good, V_th_bad, V_th_signs, V_th_signMany, V_th_digits, V_th_isNode, V_th_base, V_th_slot, V_th_whichMany, V_th_whichFirst, V_th_value]), (A_th_book, iA g 308 f12), (A_th_page, iA g 22 th_page)] [(0, .ref A_th), (1, .int x11)] 11 []) ?_ F 0 th_book hm
    intro x11 f12 c10 hc10 hm
    refine b_iload_n C dX11_note_11 rfl 1 rfl ?_
    refine b_sipush (v := 286) C dX11_note_12 (by decide) ?_
    refine b_icmp_ge (tgt := 39) C dX11_note_15 (by decide) hm (fun hm => ?_) (fun hm => ?_)
    · refine b_aload_n C dX11_note_39 rfl 0 rfl ?_
      refine b_dup C dX11_note_40 rfl ?_
      refine gfX11_99 C 0 rfl rfl dX11_note_41 ?_
      refine b_iconst (v := 1) C dX11_note_44 (by decide) ?_
      refine b_isub C dX11_note_45 ?_
      refine b_topi hm (fun z13 hm => ?_)
      refine pfX11_99 (w' := [(A_th, oO 10 [V_th_thrown, V_th_text, V_th_textSize, V_th_readPage, .ref A_th_page, V_th_trial, .ref A_th_book, .int z13, V_th_kept, V_th_isKept, V_th_seen, V_th_seenPlace, V_th_seenDigit, V_th_seenIs, V_th_seed, V_th_plan, V_th_good, V_th_bad, V_th_signs, V_th_signMany, V_th_digits, V_th_isNode, V_th_base, V_th_slot, V_th_whichMany, V_th_whichFirst, V_th_value]), (A_th_book, iA g 308 f12), (A_th_page, iA g 22 th_page)]) C rfl rfl 0 rfl (Nat.le_of_ble_eq_true rfl) dX11_note_46 rfl ?_
      exact Wb.lv (jk3 z13 f12 hm) [0] rfl
    · refine b_aload_n C dX11_note_18 rfl 0 rfl ?_
      refine gfX11_22 C 0 rfl rfl dX11_note_19 ?_
      refine b_iload_n C dX11_note_22 rfl 1 rfl ?_
      refine b_aload_n C dX11_note_23 rfl 0 rfl ?_
      refine gfX11_22 C 0 rfl rfl dX11_note_24 ?_
      refine b_iload_n C dX11_note_27 rfl 1 rfl ?_
      refine b_bipush (v := 22) C dX11_note_28 (by decide) ?_
      refine b_iadd C dX11_note_30 ?_
      refine b_iald C 1 rfl dX11_note_31 hm (fun v14 hm => ?_)
      refine b_iast C 1 rfl dX11_note_32 hm (fun f15 hm => Wb.to (w' := [(A_th, oO 10 [V_th_thrown, V_th_text, V_th_textSize, V_th_readPage, .ref A_th_page, V_th_trial, .ref A_th_book, .int th_doings, V_th_kept, V_th_isKept, V_th_seen, V_th_seenPlace, V_th_seenDigit, V_th_seenIs, V_th_seed, V_th_plan, V_th_good, V_th_bad, V_th_signs, V_th_signMany, V_th_digits, V_th_isNode, V_th_base, V_th_slot, V_th_whichMany, V_th_whichFirst, V_th_value]), (A_th_book, iA g 308 f15), (A_th_page, iA g 22 th_page)]) rfl ?_)
      refine b_iinc (v2 := x11 + 1) (lv' := [(1, .int (x11 + 1)), (0, .ref A_th)]) C dX11_note_33 1 rfl rfl (by decide) rfl ?_
      refine b_goto (tgt := 11) C dX11_note_36 (by decide) ?_
      exact Wb.lv (hc10 (x11 + 1) f15 hm) [1, 0] rfl
/-- BreakLearnerModel.add(II)I -/
def m_X11_add (F : Nat)  (n1 : Int32) (n2 : Int32) (th_thrown : Int32) (th_doings : Int32) (th_page : (Nat → Int32)) (th_book : (Nat → Int32)) : Option (Int32 × Int32 × Int32 × (Nat → Int32) × (Nat → Int32)) :=
  bK1 (m_X11_areFigures F n1 2 6 5) (fun r1 =>
  if r1 = 0 then
    some ((-2), 0, th_doings, th_page, th_book)
  else
    bK1 (m_X11_length F n1) (fun r2 =>
    bK1 (m_X11_in F n2.toInt64 0 (Int32.toInt64 ((1 <<< ((r2 - 1) &&& 31)) - 1))) (fun r3 =>
    if r3 = 0 then
      some ((-2), 0, th_doings, th_page, th_book)
    else
      rdK 22 th_page 0 (fun v4 =>
      if v4 = 6 then
        some ((-4), 0, th_doings, th_page, th_book)
      else
        bK2 (m_X11_note F th_doings th_book th_page) (fun z5 f6 =>
        rdK 22 th_page 0 (fun v7 =>
        stK 22 th_page (1 + v7) n1 (fun f8 =>
        rdK 22 f8 0 (fun v9 =>
        stK 22 f8 (7 + v9) n2 (fun f10 =>
        rdK 22 f10 0 (fun v11 =>
        stK 22 f10 0 (v11 + 1) (fun f12 =>
        rdK 22 f12 0 (fun v13 =>
        some (v13, 0, z5, f12, f6)
        )
        )
        )
        )
        )
        )
        )
        )
      )
    )
    )
  )
abbrev rmX11_add : Room := { frames := 2, cells := 0, slots := 0, locals := 50 }
set_option maxHeartbeats 4000000 in
set_option maxRecDepth 100000 in
theorem c_X11_add (l : Launch) (g : Gl) (A_th A_th_page A_th_book : Nat) (V_th_text V_th_textSize V_th_readPage V_th_trial V_th_kept V_th_isKept V_th_seen V_th_seenPlace V_th_seenDigit V_th_seenIs V_th_seed V_th_plan V_th_good V_th_bad V_th_signs V_th_signMany V_th_digits V_th_isNode V_th_base V_th_slot V_th_whichMany V_th_whichFirst V_th_value : Value)  (n1 : Int32) (n2 : Int32) (th_thrown : Int32) (th_doings : Int32) (th_page : (Nat → Int32)) (th_book : (Nat → Int32)) (F : Nat) (u : Int32 × Int32 × Int32 × (Nat → Int32) × (Nat → Int32)) (hm : m_X11_add F n1 n2 th_thrown th_doings th_page th_book = some u) : Ct l g yX11_add cX11_add 3 (some .int) rmX11_add [.ref A_th, .int n1, .int n2] [(A_th, oO 10 [.int th_thrown, V_th_text, V_th_textSize, V_th_readPage, .ref A_th_page, V_th_trial, .ref A_th_book, .int th_doings, V_th_kept, V_th_isKept, V_th_seen, V_th_seenPlace, V_th_seenDigit, V_th_seenIs, V_th_seed, V_th_plan, V_th_good, V_th_bad, V_th_signs, V_th_signMany, V_th_digits, V_th_isNode, V_th_base, V_th_slot, V_th_whichMany, V_th_whichFirst, V_th_value]), (A_th_page, iA g 22 th_page), (A_th_book, iA g 308 th_book)] (some (.int u.1)) [(A_th, oO 10 [.int u.2.1, V_th_text, V_th_textSize, V_th_readPage, .ref A_th_page, V_th_trial, .ref A_th_book, .int u.2.2.1, V_th_kept, V_th_isKept, V_th_seen, V_th_seenPlace, V_th_seenDigit, V_th_seenIs, V_th_seed, V_th_plan, V_th_good, V_th_bad, V_th_signs, V_th_signMany, V_th_digits, V_th_isNode, V_th_base, V_th_slot, V_th_whichMany, V_th_whichFirst, V_th_value]), (A_th_page, iA g 22 u.2.2.2.1), (A_th_book, iA g 308 u.2.2.2.2)] := by
  refine ent (own := RX11) (lv := [(0, .ref A_th), (1, .int n1), (2, .int n2)]) (by decide) rfl (Nat.le_of_ble_eq_true rfl) rfl rfl ?_
  intro x C
  unfold m_X11_add at hm
  refine b_aload_n C dX11_add_0 rfl 0 rfl ?_
  refine b_iconst (v := 0) C dX11_add_1 (by decide) ?_
  refine pfX11_68 (w' := [(A_th, oO 10 [.int 0, V_th_text, V_th_textSize, V_th_readPage, .ref A_th_page, V_th_trial, .ref A_th_book, .int th_doings, V_th_kept, V_th_isKept, V_th_seen, V_th_seenPlace, V_th_seenDigit, V_th_seenIs, V_th_seed, V_th_plan, V_th_good, V_th_bad, V_th_signs, V_th_signMany, V_th_digits, V_th_isNode, V_th_base, V_th_slot, V_th_whichMany, V_th_whichFirst, V_th_value]), (A_th_page, iA g 22 th_page), (A_th_book, iA g 308 th_book)]) C rfl rfl 0 rfl (Nat.le_of_ble_eq_true rfl) dX11_add_2 rfl ?_
  refine b_iload_n C dX11_add_5 rfl 1 rfl ?_
  refine b_iconst (v := 2) C dX11_add_6 (by decide) ?_
  refine b_bipush (v := 6) C dX11_add_7 (by decide) ?_
  refine b_iconst (v := 5) C dX11_add_9 (by decide) ?_
  obtain ⟨r1, hM, hm⟩ := bK1_some hm
  refine b_kS (w' := [(A_th, oO 10 [.int 0, V_th_text, V_th_textSize, V_th_readPage, .ref A_th_page, V_th_trial, .ref A_th_book, .int th_doings, V_th_kept, V_th_isKept, V_th_seen, V_th_seenPlace, V_th_seenDigit, V_th_seenIs, V_th_seed, V_th_plan, V_th_good, V_th_bad, V_th_signs, V_th_signMany, V_th_digits, V_th_isNode, V_th_base, V_th_slot, V_th_whichMany, V_th_whichFirst, V_th_value]), (A_th_page, iA g 22 th_page), (A_th_book, iA g 308 th_book)]) (st := []) (st2 := [.int r1]) C cs_X11_areFigures tb1083 (c_X11_areFigures l g n1 2 6 5 F r1 hM) rfl ⟨rfl, rfl, by decide, by decide⟩ (Nat.le_of_ble_eq_true rfl) [] rfl (by decide) rfl rfl dX11_add_10 [none, none, none] (by decide) ⟨rfl, ⟨rfl, ⟨rfl, trivial⟩⟩⟩ rfl ?_
  refine b_if_eq (tgt := 36) C dX11_add_13 (by decide) hm (fun hm => ?_) (fun hm => ?_)
  · refine b_bipush (v := (-2)) C dX11_add_36 (by decide) ?_
    cases hm
    exact b_iret C dX11_add_38
  · refine b_iload_n C dX11_add_16 rfl 2 rfl ?_
    refine b_i2l C dX11_add_17 ?_
    refine b_lconst (v := 0) C dX11_add_18 (by decide) ?_
    refine b_iconst (v := 1) C dX11_add_19 (by decide) ?_
    refine b_iload_n C dX11_add_20 rfl 1 rfl ?_
    obtain ⟨r2, hM, hm⟩ := bK1_some hm
    refine b_kS (w' := [(A_th, oO 10 [.int 0, V_th_text, V_th_textSize, V_th_readPage, .ref A_th_page, V_th_trial, .ref A_th_book, .int th_doings, V_th_kept, V_th_isKept, V_th_seen, V_th_seenPlace, V_th_seenDigit, V_th_seenIs, V_th_seed, V_th_plan, V_th_good, V_th_bad, V_th_signs, V_th_signMany, V_th_digits, V_th_isNode, V_th_base, V_th_slot, V_th_whichMany, V_th_whichFirst, V_th_value]), (A_th_page, iA g 22 th_page), (A_th_book, iA g 308 th_book)]) (st := [.int 1, .long 0, .long n2.toInt64]) (st2 := [.int r2, .int 1, .long 0, .long n2.toInt64]) C cs_X11_length tb979 (c_X11_length l g n1 F r2 hM) rfl ⟨rfl, rfl, by decide, by decide⟩ (Nat.le_of_ble_eq_true rfl) [] rfl (by decide) rfl rfl dX11_add_21 [none, none, none] (by decide) ⟨rfl, ⟨rfl, ⟨rfl, trivial⟩⟩⟩ rfl ?_
    refine b_iconst (v := 1) C dX11_add_24 (by decide) ?_
    refine b_isub C dX11_add_25 ?_
    refine b_ishl C dX11_add_26 ?_
    refine b_iconst (v := 1) C dX11_add_27 (by decide) ?_
    refine b_isub C dX11_add_28 ?_
    refine b_i2l C dX11_add_29 ?_
    obtain ⟨r3, hM, hm⟩ := bK1_some hm
    refine b_kS (w' := [(A_th, oO 10 [.int 0, V_th_text, V_th_textSize, V_th_readPage, .ref A_th_page, V_th_trial, .ref A_th_book, .int th_doings, V_th_kept, V_th_isKept, V_th_seen, V_th_seenPlace, V_th_seenDigit, V_th_seenIs, V_th_seed, V_th_plan, V_th_good, V_th_bad, V_th_signs, V_th_signMany, V_th_digits, V_th_isNode, V_th_base, V_th_slot, V_th_whichMany, V_th_whichFirst, V_th_value]), (A_th_page, iA g 22 th_page), (A_th_book, iA g 308 th_book)]) (st := []) (st2 := [.int r3]) C cs_X11_in tb937 (c_X11_in l g n2.toInt64 0 (Int32.toInt64 ((1 <<< ((r2 - 1) &&& 31)) - 1)) F r3 hM) rfl ⟨rfl, rfl, by decide, by decide⟩ (Nat.le_of_ble_eq_true rfl) [] rfl (by decide) rfl rfl dX11_add_30 [none, none, none] (by decide) ⟨rfl, ⟨rfl, ⟨rfl, trivial⟩⟩⟩ rfl ?_
    refine b_if_ne (tgt := 39) C dX11_add_33 (by decide) hm (fun hm => ?_) (fun hm => ?_)
    · refine b_aload_n C dX11_add_39 rfl 0 rfl ?_
      refine gfX11_16 C 0 rfl rfl dX11_add_40 ?_
      refine b_iconst (v := 0) C dX11_add_43 (by decide) ?_
      refine b_iald C 1 rfl dX11_add_44 hm (fun v4 hm => ?_)
      refine b_bipush (v := 6) C dX11_add_45 (by decide) ?_
      refine b_icmp_ne (tgt := 53) C dX11_add_47 (by decide) hm (fun hm => ?_) (fun hm => ?_)
      · refine b_aload_n C dX11_add_53 rfl 0 rfl ?_
        obtain ⟨z5, f6, hM, hm⟩ := bK2_some hm
        refine b_kV (w' := [(A_th, oO 10 [.int 0, V_th_text, V_th_textSize, V_th_readPage, .ref A_th_page, V_th_trial, .ref A_th_book, .int z5, V_th_kept, V_th_isKept, V_th_seen, V_th_seenPlace, V_th_seenDigit, V_th_seenIs, V_th_seed, V_th_plan, V_th_good, V_th_bad, V_th_signs, V_th_signMany, V_th_digits, V_th_isNode, V_th_base, V_th_slot, V_th_whichMany, V_th_whichFirst, V_th_value]), (A_th_page, iA g 22 th_page), (A_th_book, iA g 308 f6)]) (st := []) (st2 := []) C cv_X11_note tb1093 (c_X11_note l g A_th A_th_book A_th_page (.int 0) V_th_text V_th_textSize V_th_readPage V_th_trial V_th_kept V_th_isKept V_th_seen V_th_seenPlace V_th_seenDigit V_th_seenIs V_th_seed V_th_plan V_th_good V_th_bad V_th_signs V_th_signMany V_th_digits V_th_isNode V_th_base V_th_slot V_th_whichMany V_th_whichFirst V_th_value th_doings th_book th_page F (z5, f6) hM) rfl 0 rfl rfl ⟨rfl, rfl, by decide, by decide⟩ (Nat.le_of_ble_eq_true rfl) [0, 2, 1] rfl (by decide) rfl rfl dX11_add_54 [some 0, some 2, some 1] (by decide) ⟨⟨rfl, rfl⟩, ⟨⟨rfl, rfl⟩, ⟨⟨rfl, rfl⟩, trivial⟩⟩⟩ rfl ?_
        refine b_aload_n C dX11_add_57 rfl 0 rfl ?_
        refine gfX11_16 C 0 rfl rfl dX11_add_58 ?_
        refine b_iconst (v := 1) C dX11_add_61 (by decide) ?_
        refine b_aload_n C dX11_add_62 rfl 0 rfl ?_
        refine gfX11_16 C 0 rfl rfl dX11_add_63 ?_
        refine b_iconst (v := 0) C dX11_add_66 (by decide) ?_
        refine b_iald C 1 rfl dX11_add_67 hm (fun v7 hm => ?_)
        refine b_iadd C dX11_add_68 ?_
        refine b_iload_n C dX11_add_69 rfl 1 rfl ?_
        refine b_iast C 1 rfl dX11_add_70 hm (fun f8 hm => Wb.to (w' := [(A_th, oO 10 [.int 0, V_th_text, V_th_textSize, V_th_readPage, .ref A_th_page, V_th_trial, .ref A_th_book, .int z5, V_th_kept, V_th_isKept, V_th_seen, V_th_seenPlace, V_th_seenDigit, V_th_seenIs, V_th_seed, V_th_plan, V_th_good, V_th_bad, V_th_signs, V_th_signMany, V_th_digits, V_th_isNode, V_th_base, V_th_slot, V_th_whichMany, V_th_whichFirst, V_th_value]), (A_th_page, iA g 22 f8), (A_th_book, iA g 308 f6)]) rfl ?_)
        refine b_aload_n C dX11_add_71 rfl 0 rfl ?_
        refine gfX11_16 C 0 rfl rfl dX11_add_72 ?_
        refine b_bipush (v := 7) C dX11_add_75 (by decide) ?_
        refine b_aload_n C dX11_add_77 rfl 0 rfl ?_
        refine gfX11_16 C 0 rfl rfl dX11_add_78 ?_
        refine b_iconst (v := 0) C dX11_add_81 (by decide) ?_
        refine b_iald C 1 rfl dX11_add_82 hm (fun v9 hm => ?_)
        refine b_iadd C dX11_add_83 ?_
        refine b_iload_n C dX11_add_84 rfl 2 rfl ?_
        refine b_iast C 1 rfl dX11_add_85 hm (fun f10 hm => Wb.to (w' := [(A_th, oO 10 [.int 0, V_th_text, V_th_textSize, V_th_readPage, .ref A_th_page, V_th_trial, .ref A_th_book, .int z5, V_th_kept, V_th_isKept, V_th_seen, V_th_seenPlace, V_th_seenDigit, V_th_seenIs, V_th_seed, V_th_plan, V_th_good, V_th_bad, V_th_signs, V_th_signMany, V_th_digits, V_th_isNode, V_th_base, V_th_slot, V_th_whichMany, V_th_whichFirst, V_th_value]), (A_th_page, iA g 22 f10), (A_th_book, iA g 308 f6)]) rfl ?_)
        refine b_aload_n C dX11_add_86 rfl 0 rfl ?_
        refine gfX11_16 C 0 rfl rfl dX11_add_87 ?_
        refine b_iconst (v := 0) C dX11_add_90 (by decide) ?_
        refine b_dup2 C dX11_add_91 rfl rfl ?_
        refine b_iald C 1 rfl dX11_add_92 hm (fun v11 hm => ?_)
        refine b_iconst (v := 1) C dX11_add_93 (by decide) ?_
        refine b_iadd C dX11_add_94 ?_
        refine b_iast C 1 rfl dX11_add_95 hm (fun f12 hm => Wb.to (w' := [(A_th, oO 10 [.int 0, V_th_text, V_th_textSize, V_th_readPage, .ref A_th_page, V_th_trial, .ref A_th_book, .int z5, V_th_kept, V_th_isKept, V_th_seen, V_th_seenPlace, V_th_seenDigit, V_th_seenIs, V_th_seed, V_th_plan, V_th_good, V_th_bad, V_th_signs, V_th_signMany, V_th_digits, V_th_isNode, V_th_base, V_th_slot, V_th_whichMany, V_th_whichFirst, V_th_value]), (A_th_page, iA g 22 f12), (A_th_book, iA g 308 f6)]) rfl ?_)
        refine b_aload_n C dX11_add_96 rfl 0 rfl ?_
        refine gfX11_16 C 0 rfl rfl dX11_add_97 ?_
        refine b_iconst (v := 0) C dX11_add_100 (by decide) ?_
        refine b_iald C 1 rfl dX11_add_101 hm (fun v13 hm => ?_)
        cases hm
        exact b_iret C dX11_add_102
      · refine b_bipush (v := (-4)) C dX11_add_50 (by decide) ?_
        cases hm
        exact b_iret C dX11_add_52
    · refine b_bipush (v := (-2)) C dX11_add_36 (by decide) ?_
      cases hm
      exact b_iret C dX11_add_38
/-- BreakLearnerModel.drop(I)I -/
def m_X11_drop (F : Nat)  (n1 : Int32) (th_thrown : Int32) (th_doings : Int32) (th_page : (Nat → Int32)) (th_book : (Nat → Int32)) : Option (Int32 × Int32 × Int32 × (Nat → Int32) × (Nat → Int32)) :=
  bK1 (m_X11_noWord F n1 th_page) (fun r1 =>
  if r1 = 0 then
    bK2 (m_X11_note F th_doings th_book th_page) (fun z2 f3 =>
    rdK 22 th_page (1 + n1) (fun v4 =>
    rdK 22 th_page 0 (fun v5 =>
    stK 22 th_page 0 (v5 - 1) (fun f6 =>
    wl2 (fun (x8 : Int32) (f9 : (Nat → Int32)) c7 =>
      rdK 22 f9 0 (fun v10 =>
      if v10 ≤ x8 then
        some (v4, 0, z2, f9, f3)
      else
        rdK 22 f9 ((1 + x8) + 1) (fun v11 =>
        stK 22 f9 (1 + x8) v11 (fun f12 =>
        rdK 22 f12 ((7 + x8) + 1) (fun v13 =>
        stK 22 f12 (7 + x8) v13 (fun f14 =>
        c7 (x8 + 1) f14
        )
        )
        )
        )
      )
      ) F n1 f6
    )
    )
    )
    )
  else
    some ((-1), 0, th_doings, th_page, th_book)
  )
abbrev rmX11_drop : Room := { frames := 2, cells := 0, slots := 0, locals := 46 }
set_option maxHeartbeats 4000000 in
set_option maxRecDepth 100000 in
theorem c_X11_drop (l : Launch) (g : Gl) (A_th A_th_page A_th_book : Nat) (V_th_text V_th_textSize V_th_readPage V_th_trial V_th_kept V_th_isKept V_th_seen V_th_seenPlace V_th_seenDigit V_th_seenIs V_th_seed V_th_plan V_th_good V_th_bad V_th_signs V_th_signMany V_th_digits V_th_isNode V_th_base V_th_slot V_th_whichMany V_th_whichFirst V_th_value : Value)  (n1 : Int32) (th_thrown : Int32) (th_doings : Int32) (th_page : (Nat → Int32)) (th_book : (Nat → Int32)) (F : Nat) (u : Int32 × Int32 × Int32 × (Nat → Int32) × (Nat → Int32)) (hm : m_X11_drop F n1 th_thrown th_doings th_page th_book = some u) : Ct l g yX11_drop cX11_drop 4 (some .int) rmX11_drop [.ref A_th, .int n1] [(A_th, oO 10 [.int th_thrown, V_th_text, V_th_textSize, V_th_readPage, .ref A_th_page, V_th_trial, .ref A_th_book, .int th_doings, V_th_kept, V_th_isKept, V_th_seen, V_th_seenPlace, V_th_seenDigit, V_th_seenIs, V_th_seed, V_th_plan, V_th_good, V_th_bad, V_th_signs, V_th_signMany, V_th_digits, V_th_isNode, V_th_base, V_th_slot, V_th_whichMany, V_th_whichFirst, V_th_value]), (A_th_page, iA g 22 th_page), (A_th_book, iA g 308 th_book)] (some (.int u.1)) [(A_th, oO 10 [.int u.2.1, V_th_text, V_th_textSize, V_th_readPage, .ref A_th_page, V_th_trial, .ref A_th_book, .int u.2.2.1, V_th_kept, V_th_isKept, V_th_seen, V_th_seenPlace, V_th_seenDigit, V_th_seenIs, V_th_seed, V_th_plan, V_th_good, V_th_bad, V_th_signs, V_th_signMany, V_th_digits, V_th_isNode, V_th_base, V_th_slot, V_th_whichMany, V_th_whichFirst, V_th_value]), (A_th_page, iA g 22 u.2.2.2.1), (A_th_book, iA g 308 u.2.2.2.2)] := by
  refine ent (own := RX11) (lv := [(0, .ref A_th), (1, .int n1)]) (by decide) rfl (Nat.le_of_ble_eq_true rfl) rfl rfl ?_
  intro x C
  unfold m_X11_drop at hm
  refine b_aload_n C dX11_drop_0 rfl 0 rfl ?_
  refine b_iconst (v := 0) C dX11_drop_1 (by decide) ?_
  refine pfX11_68 (w' := [(A_th, oO 10 [.int 0, V_th_text, V_th_textSize, V_th_readPage, .ref A_th_page, V_th_trial, .ref A_th_book, .int th_doings, V_th_kept, V_th_isKept, V_th_seen, V_th_seenPlace, V_th_seenDigit, V_th_seenIs, V_th_seed, V_th_plan, V_th_good, V_th_bad, V_th_signs, V_th_signMany, V_th_digits, V_th_isNode, V_th_base, V_th_slot, V_th_whichMany, V_th_whichFirst, V_th_value]), (A_th_page, iA g 22 th_page), (A_th_book, iA g 308 th_book)]) C rfl rfl 0 rfl (Nat.le_of_ble_eq_true rfl) dX11_drop_2 rfl ?_
  refine b_aload_n C dX11_drop_5 rfl 0 rfl ?_
  refine b_iload_n C dX11_drop_6 rfl 1 rfl ?_
  obtain ⟨r1, hM, hm⟩ := bK1_some hm
  refine b_kV (w' := [(A_th, oO 10 [.int 0, V_th_text, V_th_textSize, V_th_readPage, .ref A_th_page, V_th_trial, .ref A_th_book, .int th_doings, V_th_kept, V_th_isKept, V_th_seen, V_th_seenPlace, V_th_seenDigit, V_th_seenIs, V_th_seed, V_th_plan, V_th_good, V_th_bad, V_th_signs, V_th_signMany, V_th_digits, V_th_isNode, V_th_base, V_th_slot, V_th_whichMany, V_th_whichFirst, V_th_value]), (A_th_page, iA g 22 th_page), (A_th_book, iA g 308 th_book)]) (st := []) (st2 := [.int r1]) C cv_X11_noWord tb1059 (c_X11_noWord l g A_th A_th_page (.int 0) V_th_text V_th_textSize V_th_readPage V_th_trial (.ref A_th_book) (.int th_doings) V_th_kept V_th_isKept V_th_seen V_th_seenPlace V_th_seenDigit V_th_seenIs V_th_seed V_th_plan V_th_good V_th_bad V_th_signs V_th_signMany V_th_digits V_th_isNode V_th_base V_th_slot V_th_whichMany V_th_whichFirst V_th_value n1 th_page F r1 hM) rfl 0 rfl rfl ⟨rfl, rfl, by decide, by decide⟩ (Nat.le_of_ble_eq_true rfl) [0, 1] rfl (by decide) rfl rfl dX11_drop_7 [some 0, some 1, none] (by decide) ⟨⟨rfl, rfl⟩, ⟨⟨rfl, rfl⟩, ⟨rfl, trivial⟩⟩⟩ rfl ?_
  refine b_if_eq (tgt := 15) C dX11_drop_10 (by decide) hm (fun hm => ?_) (fun hm => ?_)
  · refine b_aload_n C dX11_drop_15 rfl 0 rfl ?_
    obtain ⟨z2, f3, hM, hm⟩ := bK2_some hm
    refine b_kV (w' := [(A_th, oO 10 [.int 0, V_th_text, V_th_textSize, V_th_readPage, .ref A_th_page, V_th_trial, .ref A_th_book, .int z2, V_th_kept, V_th_isKept, V_th_seen, V_th_seenPlace, V_th_seenDigit, V_th_seenIs, V_th_seed, V_th_plan, V_th_good, V_th_bad, V_th_signs, V_th_signMany, V_th_digits, V_th_isNode, V_th_base, V_th_slot, V_th_whichMany, V_th_whichFirst, V_th_value]), (A_th_page, iA g 22 th_page), (A_th_book, iA g 308 f3)]) (st := []) (st2 := []) C cv_X11_note tb1093 (c_X11_note l g A_th A_th_book A_th_page (.int 0) V_th_text V_th_textSize V_th_readPage V_th_trial V_th_kept V_th_isKept V_th_seen V_th_seenPlace V_th_seenDigit V_th_seenIs V_th_seed V_th_plan V_th_good V_th_bad V_th_signs V_th_signMany V_th_digits V_th_isNode V_th_base V_th_slot V_th_whichMany V_th_whichFirst V_th_value th_doings th_book th_page F (z2, f3) hM) rfl 0 rfl rfl ⟨rfl, rfl, by decide, by decide⟩ (Nat.le_of_ble_eq_true rfl) [0, 2, 1] rfl (by decide) rfl rfl dX11_drop_16 [some 0, some 2, some 1] (by decide) ⟨⟨rfl, rfl⟩, ⟨⟨rfl, rfl⟩, ⟨⟨rfl, rfl⟩, trivial⟩⟩⟩ rfl ?_
    refine b_aload_n C dX11_drop_19 rfl 0 rfl ?_
    refine gfX11_16 C 0 rfl rfl dX11_drop_20 ?_
    refine b_iconst (v := 1) C dX11_drop_23 (by decide) ?_
    refine b_iload_n C dX11_drop_24 rfl 1 rfl ?_
    refine b_iadd C dX11_drop_25 ?_
    refine b_iald C 1 rfl dX11_drop_26 hm (fun v4 hm => ?_)
    refine b_istore_n (lv' := [(2, .int v4), (0, .ref A_th), (1, .int n1)]) C dX11_drop_27 rfl (by decide) rfl ?_
    refine b_aload_n C dX11_drop_28 rfl 1 rfl ?_
    refine gfX11_16 C 0 rfl rfl dX11_drop_29 ?_
    refine b_iconst (v := 0) C dX11_drop_32 (by decide) ?_
    refine b_dup2 C dX11_drop_33 rfl rfl ?_
    refine b_iald C 1 rfl dX11_drop_34 hm (fun v5 hm => ?_)
    refine b_iconst (v := 1) C dX11_drop_35 (by decide) ?_
    refine b_isub C dX11_drop_36 ?_
    refine b_iast C 1 rfl dX11_drop_37 hm (fun f6 hm => Wb.to (w' := [(A_th, oO 10 [.int 0, V_th_text, V_th_textSize, V_th_readPage, .ref A_th_page, V_th_trial, .ref A_th_book, .int z2, V_th_kept, V_th_isKept, V_th_seen, V_th_seenPlace, V_th_seenDigit, V_th_seenIs, V_th_seed, V_th_plan, V_th_good, V_th_bad, V_th_signs, V_th_signMany, V_th_digits, V_th_isNode, V_th_base, V_th_slot, V_th_whichMany, V_th_whichFirst, V_th_value]), (A_th_page, iA g 22 f6), (A_th_book, iA g 308 f3)]) rfl ?_)
    refine b_iload_n C dX11_drop_38 rfl 2 rfl ?_
    refine b_istore_n (lv' := [(3, .int n1), (2, .int v4), (0, .ref A_th), (1, .int n1)]) C dX11_drop_39 rfl (by decide) rfl ?_
    refine Wb.lv (lv' := [(0, .ref A_th), (2, .int v4), (3, .int n1)]) ?_ [2, 1, 0] rfl
    refine wl2_W (Wg := fun (x8 : Int32) (f9 : (Nat → Int32)) => Wb x [(A_th, oO 10 [.int 0, V_th_text, V_th_textSize, V_th_readPage, .ref A_th_page, V_th_trial, .ref A_th_book, .int z2, V_th_kept, V_th_isKept, V_th_seen, V_th_seenPlace, V_th_seenDigit, V_th_seenIs, V_th_seed, V_th_plan, V_th_good, V_th_bad, V_th_signs, V_th_signMany, V_th_digits, V_th_isNode, V_th_base, V_th_slot, V_th_whichMany, V_th_whichFirst, V_th_value]), (A_th_page, iA g 22 f9), (A_th_book, iA g 308 f3)] [(0, .ref A_th), (2, .int v4), (3, .int x8)] 40 []) ?_ F n1 f6 hm
    intro x8 f9 c7 hc7 hm
    refine b_iload_n C dX11_drop_40 rfl 2 rfl ?_
    refine b_aload_n C dX11_drop_41 rfl 0 rfl ?_
    refine gfX11_16 C 0 rfl rfl dX11_drop_42 ?_
    refine b_iconst (v := 0) C dX11_drop_45 (by decide) ?_
    refine b_iald C 1 rfl dX11_drop_46 hm (fun v10 hm => ?_)
    refine b_icmp_ge (tgt := 94) C dX11_drop_47 (by decide) hm (fun hm => ?_) (fun hm => ?_)
    · refine b_iload_n C dX11_drop_94 rfl 1 rfl ?_
      cases hm
      exact b_iret C dX11_drop_95
    · refine b_aload_n C dX11_drop_50 rfl 0 rfl ?_
      refine gfX11_16 C 0 rfl rfl dX11_drop_51 ?_
      refine b_iconst (v := 1) C dX11_drop_54 (by decide) ?_
      refine b_iload_n C dX11_drop_55 rfl 2 rfl ?_
      refine b_iadd C dX11_drop_56 ?_
      refine b_aload_n C dX11_drop_57 rfl 0 rfl ?_
      refine gfX11_16 C 0 rfl rfl dX11_drop_58 ?_
      refine b_iconst (v := 1) C dX11_drop_61 (by decide) ?_
      refine b_iload_n C dX11_drop_62 rfl 2 rfl ?_
      refine b_iadd C dX11_drop_63 ?_
      refine b_iconst (v := 1) C dX11_drop_64 (by decide) ?_
      refine b_iadd C dX11_drop_65 ?_
      refine b_iald C 1 rfl dX11_drop_66 hm (fun v11 hm => ?_)
      refine b_iast C 1 rfl dX11_drop_67 hm (fun f12 hm => Wb.to (w' := [(A_th, oO 10 [.int 0, V_th_text, V_th_textSize, V_th_readPage, .ref A_th_page, V_th_trial, .ref A_th_book, .int z2, V_th_kept, V_th_isKept, V_th_seen, V_th_seenPlace, V_th_seenDigit, V_th_seenIs, V_th_seed, V_th_plan, V_th_good, V_th_bad, V_th_signs, V_th_signMany, V_th_digits, V_th_isNode, V_th_base, V_th_slot, V_th_whichMany, V_th_whichFirst, V_th_value]), (A_th_page, iA g 22 f12), (A_th_book, iA g 308 f3)]) rfl ?_)
      refine b_aload_n C dX11_drop_68 rfl 0 rfl ?_
      refine gfX11_16 C 0 rfl rfl dX11_drop_69 ?_
      refine b_bipush (v := 7) C dX11_drop_72 (by decide) ?_
      refine b_iload_n C dX11_drop_74 rfl 2 rfl ?_
      refine b_iadd C dX11_drop_75 ?_
      refine b_aload_n C dX11_drop_76 rfl 0 rfl ?_
      refine gfX11_16 C 0 rfl rfl dX11_drop_77 ?_
      refine b_bipush (v := 7) C dX11_drop_80 (by decide) ?_
      refine b_iload_n C dX11_drop_82 rfl 2 rfl ?_
      refine b_iadd C dX11_drop_83 ?_
      refine b_iconst (v := 1) C dX11_drop_84 (by decide) ?_
      refine b_iadd C dX11_drop_85 ?_
      refine b_iald C 1 rfl dX11_drop_86 hm (fun v13 hm => ?_)
      refine b_iast C 1 rfl dX11_drop_87 hm (fun f14 hm => Wb.to (w' := [(A_th, oO 10 [.int 0, V_th_text, V_th_textSize, V_th_readPage, .ref A_th_page, V_th_trial, .ref A_th_book, .int z2, V_th_kept, V_th_isKept, V_th_seen, V_th_seenPlace, V_th_seenDigit, V_th_seenIs, V_th_seed, V_th_plan, V_th_good, V_th_bad, V_th_signs, V_th_signMany, V_th_digits, V_th_isNode, V_th_base, V_th_slot, V_th_whichMany, V_th_whichFirst, V_th_value]), (A_th_page, iA g 22 f14), (A_th_book, iA g 308 f3)]) rfl ?_)
      refine b_iinc (v2 := x8 + 1) (lv' := [(3, .int (x8 + 1)), (0, .ref A_th), (2, .int v4)]) C dX11_drop_88 2 rfl rfl (by decide) rfl ?_
      refine b_goto (tgt := 40) C dX11_drop_91 (by decide) ?_
      exact Wb.lv (hc7 (x8 + 1) f14 hm) [1, 2, 0] rfl
  · refine b_iconst (v := (-1)) C dX11_drop_13 (by decide) ?_
    cases hm
    exact b_iret C dX11_drop_14
