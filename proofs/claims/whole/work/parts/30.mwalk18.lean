/-- BreakLearnerModel.drawn(I)I -/
def m_X11_drawn (F : Nat)  (n1 : Int32) (th_thrown : Int32) (th_seed : Int64) (th_signMany : Int32) (th_page : (Nat → Int32)) (th_plan : (Nat → Int32)) (th_signs : (Nat → Int32)) (th_digits : (Nat → Int32)) (th_good : (Nat → Int32)) (th_bad : (Nat → Int32)) : Option (Int32 × Int32 × Int64 × Int32 × (Nat → Int32) × (Nat → Int32) × (Nat → Int32) × (Nat → Int32) × (Nat → Int32)) :=
  bK1 (m_X11_in F n1.toInt64 1 20) (fun r1 =>
  if r1 = 0 then
    some ((-2), 0, th_seed, th_signMany, th_plan, th_signs, th_digits, th_good, th_bad)
  else
    bK6 (m_X11_learnAll F th_signMany th_page th_plan th_signs th_digits th_good th_bad) (fun z2 f3 f4 f5 f6 f7 =>
    wl5 (fun (x9 : Int32) (x10 : Int32) (z11 : Int64) (z12 : Int32) (f13 : (Nat → Int32)) c8 =>
      if n1 ≤ x10 then
        some (x9, 0, z11, z12, f3, f13, f5, f6, f7)
      else
        letK ((z11 * 6364136223846793005) + 1442695040888963407) (fun z14 =>
        letK ((lush z14 33).toInt32) (fun x15 =>
        bK2 (m_X11_laySigns F (((((1000 * ((irm x15 5) + 1)) + (100 * ((irm (x15 / 8) 5) + 1))) + (10 * ((irm (x15 / 64) 5) + 1))) + (irm (x15 / 512) 5)) + 1) z12 f13) (fun z16 f17 =>
        wl2 (fun (x19 : Int32) (x20 : Int32) c18 =>
          if 3 ≤ x20 then
            c8 x19 (x10 + 1) z14 z16 f17
          else
            bK1 (m_X11_digitAt F x20 z16 f17 f3) (fun r21 =>
            letK (x19 + r21) (fun x22 =>
            c18 x22 (x20 + 1)
            )
            )
          ) F x9 0
        )
        )
        )
      ) F 0 0 th_seed z2 f4
    )
  )
abbrev rmX11_drawn : Room := { frames := 6, cells := 0, slots := 0, locals := 149 }
set_option maxHeartbeats 4000000 in
set_option maxRecDepth 100000 in
theorem c_X11_drawn (l : Launch) (g : Gl) (A_th A_th_page A_th_plan A_th_signs A_th_digits A_th_good A_th_bad : Nat) (V_th_text V_th_textSize V_th_readPage V_th_trial V_th_book V_th_doings V_th_kept V_th_isKept V_th_seen V_th_seenPlace V_th_seenDigit V_th_seenIs V_th_isNode V_th_base V_th_slot V_th_whichMany V_th_whichFirst V_th_value : Value)  (n1 : Int32) (th_thrown : Int32) (th_seed : Int64) (th_signMany : Int32) (th_page : (Nat → Int32)) (th_plan : (Nat → Int32)) (th_signs : (Nat → Int32)) (th_digits : (Nat → Int32)) (th_good : (Nat → Int32)) (th_bad : (Nat → Int32)) (F : Nat) (u : Int32 × Int32 × Int64 × Int32 × (Nat → Int32) × (Nat → Int32) × (Nat → Int32) × (Nat → Int32) × (Nat → Int32)) (hm : m_X11_drawn F n1 th_thrown th_seed th_signMany th_page th_plan th_signs th_digits th_good th_bad = some u) : Ct l g yX11_drawn cX11_drawn 6 (some .int) rmX11_drawn [.ref A_th, .int n1] [(A_th, oO 10 [.int th_thrown, V_th_text, V_th_textSize, V_th_readPage, .ref A_th_page, V_th_trial, V_th_book, V_th_doings, V_th_kept, V_th_isKept, V_th_seen, V_th_seenPlace, V_th_seenDigit, V_th_seenIs, .long th_seed, .ref A_th_plan, .ref A_th_good, .ref A_th_bad, .ref A_th_signs, .int th_signMany, .ref A_th_digits, V_th_isNode, V_th_base, V_th_slot, V_th_whichMany, V_th_whichFirst, V_th_value]), (A_th_page, iA g 22 th_page), (A_th_plan, iA g 1372 th_plan), (A_th_signs, iA g 8 th_signs), (A_th_digits, iA g 36 th_digits), (A_th_good, iA g 1372 th_good), (A_th_bad, iA g 1372 th_bad)] (some (.int u.1)) [(A_th, oO 10 [.int u.2.1, V_th_text, V_th_textSize, V_th_readPage, .ref A_th_page, V_th_trial, V_th_book, V_th_doings, V_th_kept, V_th_isKept, V_th_seen, V_th_seenPlace, V_th_seenDigit, V_th_seenIs, .long u.2.2.1, .ref A_th_plan, .ref A_th_good, .ref A_th_bad, .ref A_th_signs, .int u.2.2.2.1, .ref A_th_digits, V_th_isNode, V_th_base, V_th_slot, V_th_whichMany, V_th_whichFirst, V_th_value]), (A_th_page, iA g 22 th_page), (A_th_plan, iA g 1372 u.2.2.2.2.1), (A_th_signs, iA g 8 u.2.2.2.2.2.1), (A_th_digits, iA g 36 u.2.2.2.2.2.2.1), (A_th_good, iA g 1372 u.2.2.2.2.2.2.2.1), (A_th_bad, iA g 1372 u.2.2.2.2.2.2.2.2)] := by
  refine ent (own := RX11) (lv := [(0, .ref A_th), (1, .int n1)]) (by decide) rfl (Nat.le_of_ble_eq_true rfl) rfl rfl ?_
  intro x C
  unfold m_X11_drawn at hm
  refine b_aload_n C dX11_drawn_0 rfl 0 rfl ?_
  refine b_iconst (v := 0) C dX11_drawn_1 (by decide) ?_
  refine pfX11_68 (w' := [(A_th, oO 10 [.int 0, V_th_text, V_th_textSize, V_th_readPage, .ref A_th_page, V_th_trial, V_th_book, V_th_doings, V_th_kept, V_th_isKept, V_th_seen, V_th_seenPlace, V_th_seenDigit, V_th_seenIs, .long th_seed, .ref A_th_plan, .ref A_th_good, .ref A_th_bad, .ref A_th_signs, .int th_signMany, .ref A_th_digits, V_th_isNode, V_th_base, V_th_slot, V_th_whichMany, V_th_whichFirst, V_th_value]), (A_th_page, iA g 22 th_page), (A_th_plan, iA g 1372 th_plan), (A_th_signs, iA g 8 th_signs), (A_th_digits, iA g 36 th_digits), (A_th_good, iA g 1372 th_good), (A_th_bad, iA g 1372 th_bad)]) C rfl rfl 0 rfl (Nat.le_of_ble_eq_true rfl) dX11_drawn_2 rfl ?_
  refine b_iload_n C dX11_drawn_5 rfl 1 rfl ?_
  refine b_i2l C dX11_drawn_6 ?_
  refine b_lconst (v := 1) C dX11_drawn_7 (by decide) ?_
  refine b_ldc2 C tb1225 dX11_drawn_8 ?_
  obtain ⟨r1, hM, hm⟩ := bK1_some hm
  refine b_kS (w' := [(A_th, oO 10 [.int 0, V_th_text, V_th_textSize, V_th_readPage, .ref A_th_page, V_th_trial, V_th_book, V_th_doings, V_th_kept, V_th_isKept, V_th_seen, V_th_seenPlace, V_th_seenDigit, V_th_seenIs, .long th_seed, .ref A_th_plan, .ref A_th_good, .ref A_th_bad, .ref A_th_signs, .int th_signMany, .ref A_th_digits, V_th_isNode, V_th_base, V_th_slot, V_th_whichMany, V_th_whichFirst, V_th_value]), (A_th_page, iA g 22 th_page), (A_th_plan, iA g 1372 th_plan), (A_th_signs, iA g 8 th_signs), (A_th_digits, iA g 36 th_digits), (A_th_good, iA g 1372 th_good), (A_th_bad, iA g 1372 th_bad)]) (st := []) (st2 := [.int r1]) C cs_X11_in tb937 (c_X11_in l g n1.toInt64 1 20 F r1 hM) rfl ⟨rfl, rfl, by decide, by decide⟩ (Nat.le_of_ble_eq_true rfl) [] rfl (by decide) rfl rfl dX11_drawn_11 [none, none, none, none, none, none, none] (by decide) ⟨rfl, ⟨rfl, ⟨rfl, ⟨rfl, ⟨rfl, ⟨rfl, ⟨rfl, trivial⟩⟩⟩⟩⟩⟩⟩ rfl ?_
  refine b_if_ne (tgt := 20) C dX11_drawn_14 (by decide) hm (fun hm => ?_) (fun hm => ?_)
  · refine b_aload_n C dX11_drawn_20 rfl 0 rfl ?_
    refine b_aload_n C dX11_drawn_21 rfl 0 rfl ?_
    refine gfX11_16 C 0 rfl rfl dX11_drawn_22 ?_
    obtain ⟨z2, f3, f4, f5, f6, f7, hM, hm⟩ := bK6_some hm
    refine b_kV (w' := [(A_th, oO 10 [.int 0, V_th_text, V_th_textSize, V_th_readPage, .ref A_th_page, V_th_trial, V_th_book, V_th_doings, V_th_kept, V_th_isKept, V_th_seen, V_th_seenPlace, V_th_seenDigit, V_th_seenIs, .long th_seed, .ref A_th_plan, .ref A_th_good, .ref A_th_bad, .ref A_th_signs, .int z2, .ref A_th_digits, V_th_isNode, V_th_base, V_th_slot, V_th_whichMany, V_th_whichFirst, V_th_value]), (A_th_page, iA g 22 th_page), (A_th_plan, iA g 1372 f3), (A_th_signs, iA g 8 f4), (A_th_digits, iA g 36 f5), (A_th_good, iA g 1372 f6), (A_th_bad, iA g 1372 f7)]) (st := []) (st2 := []) C cv_X11_learnAll tb963 (c_X11_learnAll l g A_th A_th_page A_th_plan A_th_signs A_th_digits A_th_good A_th_bad (.int 0) V_th_text V_th_textSize V_th_readPage (.ref A_th_page) V_th_trial V_th_book V_th_doings V_th_kept V_th_isKept V_th_seen V_th_seenPlace V_th_seenDigit V_th_seenIs (.long th_seed) V_th_isNode V_th_base V_th_slot V_th_whichMany V_th_whichFirst V_th_value th_signMany th_page th_plan th_signs th_digits th_good th_bad F (z2, f3, f4, f5, f6, f7) hM) rfl 0 rfl rfl ⟨rfl, rfl, by decide, by decide⟩ (Nat.le_of_ble_eq_true rfl) [0, 1, 2, 3, 4, 5, 6] rfl (by decide) rfl rfl dX11_drawn_25 [some 0, some 1, some 2, some 3, some 4, some 5, some 6] (by decide) ⟨⟨rfl, rfl⟩, ⟨⟨rfl, rfl⟩, ⟨⟨rfl, rfl⟩, ⟨⟨rfl, rfl⟩, ⟨⟨rfl, rfl⟩, ⟨⟨rfl, rfl⟩, ⟨⟨rfl, rfl⟩, trivial⟩⟩⟩⟩⟩⟩⟩ rfl ?_
    refine b_iconst (v := 0) C dX11_drawn_28 (by decide) ?_
    refine b_istore_n (lv' := [(2, .int 0), (0, .ref A_th), (1, .int n1)]) C dX11_drawn_29 rfl (by decide) rfl ?_
    refine b_iconst (v := 0) C dX11_drawn_30 (by decide) ?_
    refine b_istore_n (lv' := [(3, .int 0), (2, .int 0), (0, .ref A_th), (1, .int n1)]) C dX11_drawn_31 rfl (by decide) rfl ?_
    refine Wb.lv (lv' := [(0, .ref A_th), (1, .int n1), (2, .int 0), (3, .int 0)]) ?_ [2, 3, 1, 0] rfl
    refine wl5_W (Wg := fun (x9 : Int32) (x10 : Int32) (z11 : Int64) (z12 : Int32) (f13 : (Nat → Int32)) => Wb x [(A_th, oO 10 [.int 0, V_th_text, V_th_textSize, V_th_readPage, .ref A_th_page, V_th_trial, V_th_book, V_th_doings, V_th_kept, V_th_isKept, V_th_seen, V_th_seenPlace, V_th_seenDigit, V_th_seenIs, .long z11, .ref A_th_plan, .ref A_th_good, .ref A_th_bad, .ref A_th_signs, .int z12, .ref A_th_digits, V_th_isNode, V_th_base, V_th_slot, V_th_whichMany, V_th_whichFirst, V_th_value]), (A_th_page, iA g 22 th_page), (A_th_plan, iA g 1372 f3), (A_th_signs, iA g 8 f13), (A_th_digits, iA g 36 f5), (A_th_good, iA g 1372 f6), (A_th_bad, iA g 1372 f7)] [(0, .ref A_th), (1, .int n1), (2, .int x9), (3, .int x10)] 32 []) ?_ F 0 0 th_seed z2 f4 hm
    intro x9 x10 z11 z12 f13 c8 hc8 hm
    refine b_iload_n C dX11_drawn_32 rfl 3 rfl ?_
    refine b_iload_n C dX11_drawn_33 rfl 1 rfl ?_
    refine b_icmp_ge (tgt := 144) C dX11_drawn_34 (by decide) hm (fun hm => ?_) (fun hm => ?_)
    · refine b_iload_n C dX11_drawn_144 rfl 2 rfl ?_
      cases hm
      exact b_iret C dX11_drawn_145
    · refine b_aload_n C dX11_drawn_37 rfl 0 rfl ?_
      refine b_aload_n C dX11_drawn_38 rfl 0 rfl ?_
      refine gfX11_275 C 0 rfl rfl dX11_drawn_39 ?_
      refine b_ldc2 C tb1226 dX11_drawn_42 ?_
      refine b_lmul C dX11_drawn_45 ?_
      refine b_ldc2 C tb1227 dX11_drawn_46 ?_
      refine b_ladd C dX11_drawn_49 ?_
      refine b_topl hm (fun z14 hm => ?_)
      refine pfX11_275 (w' := [(A_th, oO 10 [.int 0, V_th_text, V_th_textSize, V_th_readPage, .ref A_th_page, V_th_trial, V_th_book, V_th_doings, V_th_kept, V_th_isKept, V_th_seen, V_th_seenPlace, V_th_seenDigit, V_th_seenIs, .long z14, .ref A_th_plan, .ref A_th_good, .ref A_th_bad, .ref A_th_signs, .int z12, .ref A_th_digits, V_th_isNode, V_th_base, V_th_slot, V_th_whichMany, V_th_whichFirst, V_th_value]), (A_th_page, iA g 22 th_page), (A_th_plan, iA g 1372 f3), (A_th_signs, iA g 8 f13), (A_th_digits, iA g 36 f5), (A_th_good, iA g 1372 f6), (A_th_bad, iA g 1372 f7)]) C rfl rfl 0 rfl (Nat.le_of_ble_eq_true rfl) dX11_drawn_50 rfl ?_
      refine b_aload_n C dX11_drawn_53 rfl 0 rfl ?_
      refine gfX11_275 C 0 rfl rfl dX11_drawn_54 ?_
      refine b_bipush (v := 33) C dX11_drawn_57 (by decide) ?_
      refine b_lushr C dX11_drawn_59 ?_
      refine b_l2i C dX11_drawn_60 ?_
      refine b_topi hm (fun x15 hm => ?_)
      refine b_istore (lv' := [(4, .int x15), (0, .ref A_th), (1, .int n1), (2, .int x9), (3, .int x10)]) C dX11_drawn_61 (by decide) rfl ?_
      refine b_aload_n C dX11_drawn_63 rfl 1 rfl ?_
      refine b_sipush (v := 1000) C dX11_drawn_64 (by decide) ?_
      refine b_iload C dX11_drawn_67 0 rfl ?_
      refine b_iconst (v := 5) C dX11_drawn_69 (by decide) ?_
      refine b_irem C dX11_drawn_70 (by decide) ?_
      refine b_iconst (v := 1) C dX11_drawn_71 (by decide) ?_
      refine b_iadd C dX11_drawn_72 ?_
      refine b_imul C dX11_drawn_73 ?_
      refine b_bipush (v := 100) C dX11_drawn_74 (by decide) ?_
      refine b_iload C dX11_drawn_76 0 rfl ?_
      refine b_bipush (v := 8) C dX11_drawn_78 (by decide) ?_
      refine b_idiv C dX11_drawn_80 (by decide) ?_
      refine b_iconst (v := 5) C dX11_drawn_81 (by decide) ?_
      refine b_irem C dX11_drawn_82 (by decide) ?_
      refine b_iconst (v := 1) C dX11_drawn_83 (by decide) ?_
      refine b_iadd C dX11_drawn_84 ?_
      refine b_imul C dX11_drawn_85 ?_
      refine b_iadd C dX11_drawn_86 ?_
      refine b_bipush (v := 10) C dX11_drawn_87 (by decide) ?_
      refine b_iload C dX11_drawn_89 0 rfl ?_
      refine b_bipush (v := 64) C dX11_drawn_91 (by decide) ?_
      refine b_idiv C dX11_drawn_93 (by decide) ?_
      refine b_iconst (v := 5) C dX11_drawn_94 (by decide) ?_
      refine b_irem C dX11_drawn_95 (by decide) ?_
      refine b_iconst (v := 1) C dX11_drawn_96 (by decide) ?_
      refine b_iadd C dX11_drawn_97 ?_
      refine b_imul C dX11_drawn_98 ?_
      refine b_iadd C dX11_drawn_99 ?_
      refine b_iload C dX11_drawn_100 0 rfl ?_
      refine b_sipush (v := 512) C dX11_drawn_102 (by decide) ?_
      refine b_idiv C dX11_drawn_105 (by decide) ?_
      refine b_iconst (v := 5) C dX11_drawn_106 (by decide) ?_
      refine b_irem C dX11_drawn_107 (by decide) ?_
      refine b_iadd C dX11_drawn_108 ?_
      refine b_iconst (v := 1) C dX11_drawn_109 (by decide) ?_
      refine b_iadd C dX11_drawn_110 ?_
      obtain ⟨z16, f17, hM, hm⟩ := bK2_some hm
      refine b_kV (w' := [(A_th, oO 10 [.int 0, V_th_text, V_th_textSize, V_th_readPage, .ref A_th_page, V_th_trial, V_th_book, V_th_doings, V_th_kept, V_th_isKept, V_th_seen, V_th_seenPlace, V_th_seenDigit, V_th_seenIs, .long z14, .ref A_th_plan, .ref A_th_good, .ref A_th_bad, .ref A_th_signs, .int z16, .ref A_th_digits, V_th_isNode, V_th_base, V_th_slot, V_th_whichMany, V_th_whichFirst, V_th_value]), (A_th_page, iA g 22 th_page), (A_th_plan, iA g 1372 f3), (A_th_signs, iA g 8 f17), (A_th_digits, iA g 36 f5), (A_th_good, iA g 1372 f6), (A_th_bad, iA g 1372 f7)]) (st := []) (st2 := []) C cv_X11_laySigns tb975 (c_X11_laySigns l g A_th A_th_signs (.int 0) V_th_text V_th_textSize V_th_readPage (.ref A_th_page) V_th_trial V_th_book V_th_doings V_th_kept V_th_isKept V_th_seen V_th_seenPlace V_th_seenDigit V_th_seenIs (.long z14) (.ref A_th_plan) (.ref A_th_good) (.ref A_th_bad) (.ref A_th_digits) V_th_isNode V_th_base V_th_slot V_th_whichMany V_th_whichFirst V_th_value (((((1000 * ((irm x15 5) + 1)) + (100 * ((irm (x15 / 8) 5) + 1))) + (10 * ((irm (x15 / 64) 5) + 1))) + (irm (x15 / 512) 5)) + 1) z12 f13 F (z16, f17) hM) rfl 0 rfl rfl ⟨rfl, rfl, by decide, by decide⟩ (Nat.le_of_ble_eq_true rfl) [0, 3] rfl (by decide) rfl rfl dX11_drawn_111 [some 0, none, none, some 1, none, none, none] (by decide) ⟨⟨rfl, rfl⟩, ⟨rfl, ⟨rfl, ⟨⟨rfl, rfl⟩, ⟨rfl, ⟨rfl, ⟨rfl, trivial⟩⟩⟩⟩⟩⟩⟩ rfl ?_
      refine b_iconst (v := 0) C dX11_drawn_114 (by decide) ?_
      refine b_istore (lv' := [(5, .int 0), (4, .int x15), (0, .ref A_th), (1, .int n1), (2, .int x9), (3, .int x10)]) C dX11_drawn_115 (by decide) rfl ?_
      refine Wb.lv (lv' := [(0, .ref A_th), (1, .int n1), (2, .int x9), (3, .int x10), (5, .int 0)]) ?_ [2, 3, 4, 5, 0] rfl
      refine wl2_W (Wg := fun (x19 : Int32) (x20 : Int32) => Wb x [(A_th, oO 10 [.int 0, V_th_text, V_th_textSize, V_th_readPage, .ref A_th_page, V_th_trial, V_th_book, V_th_doings, V_th_kept, V_th_isKept, V_th_seen, V_th_seenPlace, V_th_seenDigit, V_th_seenIs, .long z14, .ref A_th_plan, .ref A_th_good, .ref A_th_bad, .ref A_th_signs, .int z16, .ref A_th_digits, V_th_isNode, V_th_base, V_th_slot, V_th_whichMany, V_th_whichFirst, V_th_value]), (A_th_page, iA g 22 th_page), (A_th_plan, iA g 1372 f3), (A_th_signs, iA g 8 f17), (A_th_digits, iA g 36 f5), (A_th_good, iA g 1372 f6), (A_th_bad, iA g 1372 f7)] [(0, .ref A_th), (1, .int n1), (2, .int x19), (3, .int x10), (5, .int x20)] 117 []) ?_ F x9 0 hm
      intro x19 x20 c18 hc18 hm
      refine b_iload C dX11_drawn_117 4 rfl ?_
      refine b_iconst (v := 3) C dX11_drawn_119 (by decide) ?_
      refine b_icmp_ge (tgt := 138) C dX11_drawn_120 (by decide) hm (fun hm => ?_) (fun hm => ?_)
      · refine b_iinc (v2 := x10 + 1) (lv' := [(3, .int (x10 + 1)), (0, .ref A_th), (1, .int n1), (2, .int x19), (5, .int x20)]) C dX11_drawn_138 3 rfl rfl (by decide) rfl ?_
        refine b_goto (tgt := 32) C dX11_drawn_141 (by decide) ?_
        exact Wb.lv (hc8 x19 (x10 + 1) z14 z16 f17 hm) [1, 2, 3, 0] rfl
      · refine b_iload_n C dX11_drawn_123 rfl 2 rfl ?_
        refine b_aload_n C dX11_drawn_124 rfl 0 rfl ?_
        refine b_iload C dX11_drawn_125 4 rfl ?_
        obtain ⟨r21, hM, hm⟩ := bK1_some hm
        refine b_kV (w' := [(A_th, oO 10 [.int 0, V_th_text, V_th_textSize, V_th_readPage, .ref A_th_page, V_th_trial, V_th_book, V_th_doings, V_th_kept, V_th_isKept, V_th_seen, V_th_seenPlace, V_th_seenDigit, V_th_seenIs, .long z14, .ref A_th_plan, .ref A_th_good, .ref A_th_bad, .ref A_th_signs, .int z16, .ref A_th_digits, V_th_isNode, V_th_base, V_th_slot, V_th_whichMany, V_th_whichFirst, V_th_value]), (A_th_page, iA g 22 th_page), (A_th_plan, iA g 1372 f3), (A_th_signs, iA g 8 f17), (A_th_digits, iA g 36 f5), (A_th_good, iA g 1372 f6), (A_th_bad, iA g 1372 f7)]) (st := [.int x19]) (st2 := [.int r21, .int x19]) C cv_X11_digitAt tb982 (c_X11_digitAt l g A_th A_th_signs A_th_plan (.int 0) V_th_text V_th_textSize V_th_readPage (.ref A_th_page) V_th_trial V_th_book V_th_doings V_th_kept V_th_isKept V_th_seen V_th_seenPlace V_th_seenDigit V_th_seenIs (.long z14) (.ref A_th_good) (.ref A_th_bad) (.ref A_th_digits) V_th_isNode V_th_base V_th_slot V_th_whichMany V_th_whichFirst V_th_value x20 z16 f17 f3 F r21 hM) rfl 0 rfl rfl ⟨rfl, rfl, by decide, by decide⟩ (Nat.le_of_ble_eq_true rfl) [0, 3, 2] rfl (by decide) rfl rfl dX11_drawn_127 [some 0, none, some 2, some 1, none, none, none] (by decide) ⟨⟨rfl, rfl⟩, ⟨rfl, ⟨⟨rfl, rfl⟩, ⟨⟨rfl, rfl⟩, ⟨rfl, ⟨rfl, ⟨rfl, trivial⟩⟩⟩⟩⟩⟩⟩ rfl ?_
        refine b_iadd C dX11_drawn_130 ?_
        refine b_topi hm (fun x22 hm => ?_)
        refine b_istore_n (lv' := [(2, .int x22), (0, .ref A_th), (1, .int n1), (3, .int x10), (5, .int x20)]) C dX11_drawn_131 rfl (by decide) rfl ?_
        refine b_iinc (v2 := x20 + 1) (lv' := [(5, .int (x20 + 1)), (2, .int x22), (0, .ref A_th), (1, .int n1), (3, .int x10)]) C dX11_drawn_132 4 rfl rfl (by decide) rfl ?_
        refine b_goto (tgt := 117) C dX11_drawn_135 (by decide) ?_
        exact Wb.lv (hc18 x22 (x20 + 1) hm) [2, 3, 1, 4, 0] rfl
  · refine b_bipush (v := (-2)) C dX11_drawn_17 (by decide) ?_
    cases hm
    exact b_iret C dX11_drawn_19
/-- BreakLearnerModel.keep(I)I -/
def m_X11_keep (F : Nat)  (n1 : Int32) (th_thrown : Int32) (th_isKept : (Nat → Int32)) (th_kept : (Nat → Int32)) (th_page : (Nat → Int32)) : Option (Int32 × Int32 × (Nat → Int32) × (Nat → Int32)) :=
  bK1 (m_X11_in F n1.toInt64 0 1) (fun r1 =>
  if r1 = 0 then
    some ((-1), 0, th_isKept, th_kept)
  else
    stK 2 th_isKept n1 (vp_nar .boolean 1) (fun f2 =>
    wl2 (fun (x4 : Int32) (f5 : (Nat → Int32)) c3 =>
      if 22 ≤ x4 then
        rdK 22 th_page 0 (fun v6 =>
        some (v6, 0, f2, f5)
        )
      else
        rdK 22 th_page x4 (fun v7 =>
        stK 44 f5 ((22 * n1) + x4) v7 (fun f8 =>
        c3 (x4 + 1) f8
        )
        )
      ) F 0 th_kept
    )
  )
abbrev rmX11_keep : Room := { frames := 1, cells := 0, slots := 0, locals := 25 }
set_option maxHeartbeats 4000000 in
set_option maxRecDepth 100000 in
theorem c_X11_keep (l : Launch) (g : Gl) (A_th A_th_isKept A_th_kept A_th_page : Nat) (V_th_text V_th_textSize V_th_readPage V_th_trial V_th_book V_th_doings V_th_seen V_th_seenPlace V_th_seenDigit V_th_seenIs V_th_seed V_th_plan V_th_good V_th_bad V_th_signs V_th_signMany V_th_digits V_th_isNode V_th_base V_th_slot V_th_whichMany V_th_whichFirst V_th_value : Value)  (n1 : Int32) (th_thrown : Int32) (th_isKept : (Nat → Int32)) (th_kept : (Nat → Int32)) (th_page : (Nat → Int32)) (F : Nat) (u : Int32 × Int32 × (Nat → Int32) × (Nat → Int32)) (hm : m_X11_keep F n1 th_thrown th_isKept th_kept th_page = some u) : Ct l g yX11_keep cX11_keep 3 (some .int) rmX11_keep [.ref A_th, .int n1] [(A_th, oO 10 [.int th_thrown, V_th_text, V_th_textSize, V_th_readPage, .ref A_th_page, V_th_trial, V_th_book, V_th_doings, .ref A_th_kept, .ref A_th_isKept, V_th_seen, V_th_seenPlace, V_th_seenDigit, V_th_seenIs, V_th_seed, V_th_plan, V_th_good, V_th_bad, V_th_signs, V_th_signMany, V_th_digits, V_th_isNode, V_th_base, V_th_slot, V_th_whichMany, V_th_whichFirst, V_th_value]), (A_th_isKept, zA g 2 th_isKept), (A_th_kept, iA g 44 th_kept), (A_th_page, iA g 22 th_page)] (some (.int u.1)) [(A_th, oO 10 [.int u.2.1, V_th_text, V_th_textSize, V_th_readPage, .ref A_th_page, V_th_trial, V_th_book, V_th_doings, .ref A_th_kept, .ref A_th_isKept, V_th_seen, V_th_seenPlace, V_th_seenDigit, V_th_seenIs, V_th_seed, V_th_plan, V_th_good, V_th_bad, V_th_signs, V_th_signMany, V_th_digits, V_th_isNode, V_th_base, V_th_slot, V_th_whichMany, V_th_whichFirst, V_th_value]), (A_th_isKept, zA g 2 u.2.2.1), (A_th_kept, iA g 44 u.2.2.2), (A_th_page, iA g 22 th_page)] := by
  refine ent (own := RX11) (lv := [(0, .ref A_th), (1, .int n1)]) (by decide) rfl (Nat.le_of_ble_eq_true rfl) rfl rfl ?_
  intro x C
  unfold m_X11_keep at hm
  refine b_aload_n C dX11_keep_0 rfl 0 rfl ?_
  refine b_iconst (v := 0) C dX11_keep_1 (by decide) ?_
  refine pfX11_68 (w' := [(A_th, oO 10 [.int 0, V_th_text, V_th_textSize, V_th_readPage, .ref A_th_page, V_th_trial, V_th_book, V_th_doings, .ref A_th_kept, .ref A_th_isKept, V_th_seen, V_th_seenPlace, V_th_seenDigit, V_th_seenIs, V_th_seed, V_th_plan, V_th_good, V_th_bad, V_th_signs, V_th_signMany, V_th_digits, V_th_isNode, V_th_base, V_th_slot, V_th_whichMany, V_th_whichFirst, V_th_value]), (A_th_isKept, zA g 2 th_isKept), (A_th_kept, iA g 44 th_kept), (A_th_page, iA g 22 th_page)]) C rfl rfl 0 rfl (Nat.le_of_ble_eq_true rfl) dX11_keep_2 rfl ?_
  refine b_iload_n C dX11_keep_5 rfl 1 rfl ?_
  refine b_i2l C dX11_keep_6 ?_
  refine b_lconst (v := 0) C dX11_keep_7 (by decide) ?_
  refine b_lconst (v := 1) C dX11_keep_8 (by decide) ?_
  obtain ⟨r1, hM, hm⟩ := bK1_some hm
  refine b_kS (w' := [(A_th, oO 10 [.int 0, V_th_text, V_th_textSize, V_th_readPage, .ref A_th_page, V_th_trial, V_th_book, V_th_doings, .ref A_th_kept, .ref A_th_isKept, V_th_seen, V_th_seenPlace, V_th_seenDigit, V_th_seenIs, V_th_seed, V_th_plan, V_th_good, V_th_bad, V_th_signs, V_th_signMany, V_th_digits, V_th_isNode, V_th_base, V_th_slot, V_th_whichMany, V_th_whichFirst, V_th_value]), (A_th_isKept, zA g 2 th_isKept), (A_th_kept, iA g 44 th_kept), (A_th_page, iA g 22 th_page)]) (st := []) (st2 := [.int r1]) C cs_X11_in tb937 (c_X11_in l g n1.toInt64 0 1 F r1 hM) rfl ⟨rfl, rfl, by decide, by decide⟩ (Nat.le_of_ble_eq_true rfl) [] rfl (by decide) rfl rfl dX11_keep_9 [none, none, none, none] (by decide) ⟨rfl, ⟨rfl, ⟨rfl, ⟨rfl, trivial⟩⟩⟩⟩ rfl ?_
  refine b_if_ne (tgt := 17) C dX11_keep_12 (by decide) hm (fun hm => ?_) (fun hm => ?_)
  · refine b_aload_n C dX11_keep_17 rfl 0 rfl ?_
    refine gfX11_28 C 0 rfl rfl dX11_keep_18 ?_
    refine b_iload_n C dX11_keep_21 rfl 1 rfl ?_
    refine b_iconst (v := 1) C dX11_keep_22 (by decide) ?_
    refine b_zast C 1 rfl dX11_keep_23 hm (fun f2 hm => Wb.to (w' := [(A_th, oO 10 [.int 0, V_th_text, V_th_textSize, V_th_readPage, .ref A_th_page, V_th_trial, V_th_book, V_th_doings, .ref A_th_kept, .ref A_th_isKept, V_th_seen, V_th_seenPlace, V_th_seenDigit, V_th_seenIs, V_th_seed, V_th_plan, V_th_good, V_th_bad, V_th_signs, V_th_signMany, V_th_digits, V_th_isNode, V_th_base, V_th_slot, V_th_whichMany, V_th_whichFirst, V_th_value]), (A_th_isKept, zA g 2 f2), (A_th_kept, iA g 44 th_kept), (A_th_page, iA g 22 th_page)]) rfl ?_)
    refine b_iconst (v := 0) C dX11_keep_24 (by decide) ?_
    refine b_istore_n (lv' := [(2, .int 0), (0, .ref A_th), (1, .int n1)]) C dX11_keep_25 rfl (by decide) rfl ?_
    refine Wb.lv (lv' := [(0, .ref A_th), (1, .int n1), (2, .int 0)]) ?_ [1, 2, 0] rfl
    refine wl2_W (Wg := fun (x4 : Int32) (f5 : (Nat → Int32)) => Wb x [(A_th, oO 10 [.int 0, V_th_text, V_th_textSize, V_th_readPage, .ref A_th_page, V_th_trial, V_th_book, V_th_doings, .ref A_th_kept, .ref A_th_isKept, V_th_seen, V_th_seenPlace, V_th_seenDigit, V_th_seenIs, V_th_seed, V_th_plan, V_th_good, V_th_bad, V_th_signs, V_th_signMany, V_th_digits, V_th_isNode, V_th_base, V_th_slot, V_th_whichMany, V_th_whichFirst, V_th_value]), (A_th_isKept, zA g 2 f2), (A_th_kept, iA g 44 f5), (A_th_page, iA g 22 th_page)] [(0, .ref A_th), (1, .int n1), (2, .int x4)] 26 []) ?_ F 0 th_kept hm
    intro x4 f5 c3 hc3 hm
    refine b_iload_n C dX11_keep_26 rfl 2 rfl ?_
    refine b_bipush (v := 22) C dX11_keep_27 (by decide) ?_
    refine b_icmp_ge (tgt := 55) C dX11_keep_29 (by decide) hm (fun hm => ?_) (fun hm => ?_)
    · refine b_aload_n C dX11_keep_55 rfl 0 rfl ?_
      refine gfX11_16 C 0 rfl rfl dX11_keep_56 ?_
      refine b_iconst (v := 0) C dX11_keep_59 (by decide) ?_
      refine b_iald C 3 rfl dX11_keep_60 hm (fun v6 hm => ?_)
      cases hm
      exact b_iret C dX11_keep_61
    · refine b_aload_n C dX11_keep_32 rfl 0 rfl ?_
      refine gfX11_25 C 0 rfl rfl dX11_keep_33 ?_
      refine b_bipush (v := 22) C dX11_keep_36 (by decide) ?_
      refine b_iload_n C dX11_keep_38 rfl 1 rfl ?_
      refine b_imul C dX11_keep_39 ?_
      refine b_iload_n C dX11_keep_40 rfl 2 rfl ?_
      refine b_iadd C dX11_keep_41 ?_
      refine b_aload_n C dX11_keep_42 rfl 0 rfl ?_
      refine gfX11_16 C 0 rfl rfl dX11_keep_43 ?_
      refine b_iload_n C dX11_keep_46 rfl 2 rfl ?_
      refine b_iald C 3 rfl dX11_keep_47 hm (fun v7 hm => ?_)
      refine b_iast C 2 rfl dX11_keep_48 hm (fun f8 hm => Wb.to (w' := [(A_th, oO 10 [.int 0, V_th_text, V_th_textSize, V_th_readPage, .ref A_th_page, V_th_trial, V_th_book, V_th_doings, .ref A_th_kept, .ref A_th_isKept, V_th_seen, V_th_seenPlace, V_th_seenDigit, V_th_seenIs, V_th_seed, V_th_plan, V_th_good, V_th_bad, V_th_signs, V_th_signMany, V_th_digits, V_th_isNode, V_th_base, V_th_slot, V_th_whichMany, V_th_whichFirst, V_th_value]), (A_th_isKept, zA g 2 f2), (A_th_kept, iA g 44 f8), (A_th_page, iA g 22 th_page)]) rfl ?_)
      refine b_iinc (v2 := x4 + 1) (lv' := [(2, .int (x4 + 1)), (0, .ref A_th), (1, .int n1)]) C dX11_keep_49 2 rfl rfl (by decide) rfl ?_
      refine b_goto (tgt := 26) C dX11_keep_52 (by decide) ?_
      exact Wb.lv (hc3 (x4 + 1) f8 hm) [1, 2, 0] rfl
  · refine b_iconst (v := (-1)) C dX11_keep_15 (by decide) ?_
    cases hm
    exact b_iret C dX11_keep_16
/-- BreakLearnerModel.again(I)I -/
def m_X11_again (F : Nat)  (n1 : Int32) (th_thrown : Int32) (th_doings : Int32) (th_isKept : (Nat → Int32)) (th_page : (Nat → Int32)) (th_kept : (Nat → Int32)) : Option (Int32 × Int32 × Int32 × (Nat → Int32)) :=
  bK1 (m_X11_in F n1.toInt64 0 1) (fun r1 =>
  if r1 = 0 then
    some ((-1), 0, th_doings, th_page)
  else
    rdK 2 th_isKept n1 (fun v2 =>
    if v2 = 0 then
      some ((-3), 0, th_doings, th_page)
    else
      wl2 (fun (x4 : Int32) (f5 : (Nat → Int32)) c3 =>
        if 22 ≤ x4 then
          rdK 22 f5 0 (fun v6 =>
          some (v6, 0, 0, f5)
          )
        else
          rdK 44 th_kept ((22 * n1) + x4) (fun v7 =>
          stK 22 f5 x4 v7 (fun f8 =>
          c3 (x4 + 1) f8
          )
          )
        ) F 0 th_page
    )
  )
abbrev rmX11_again : Room := { frames := 1, cells := 0, slots := 0, locals := 25 }
set_option maxHeartbeats 4000000 in
set_option maxRecDepth 100000 in
theorem c_X11_again (l : Launch) (g : Gl) (A_th A_th_isKept A_th_page A_th_kept : Nat) (V_th_text V_th_textSize V_th_readPage V_th_trial V_th_book V_th_seen V_th_seenPlace V_th_seenDigit V_th_seenIs V_th_seed V_th_plan V_th_good V_th_bad V_th_signs V_th_signMany V_th_digits V_th_isNode V_th_base V_th_slot V_th_whichMany V_th_whichFirst V_th_value : Value)  (n1 : Int32) (th_thrown : Int32) (th_doings : Int32) (th_isKept : (Nat → Int32)) (th_page : (Nat → Int32)) (th_kept : (Nat → Int32)) (F : Nat) (u : Int32 × Int32 × Int32 × (Nat → Int32)) (hm : m_X11_again F n1 th_thrown th_doings th_isKept th_page th_kept = some u) : Ct l g yX11_again cX11_again 3 (some .int) rmX11_again [.ref A_th, .int n1] [(A_th, oO 10 [.int th_thrown, V_th_text, V_th_textSize, V_th_readPage, .ref A_th_page, V_th_trial, V_th_book, .int th_doings, .ref A_th_kept, .ref A_th_isKept, V_th_seen, V_th_seenPlace, V_th_seenDigit, V_th_seenIs, V_th_seed, V_th_plan, V_th_good, V_th_bad, V_th_signs, V_th_signMany, V_th_digits, V_th_isNode, V_th_base, V_th_slot, V_th_whichMany, V_th_whichFirst, V_th_value]), (A_th_isKept, zA g 2 th_isKept), (A_th_page, iA g 22 th_page), (A_th_kept, iA g 44 th_kept)] (some (.int u.1)) [(A_th, oO 10 [.int u.2.1, V_th_text, V_th_textSize, V_th_readPage, .ref A_th_page, V_th_trial, V_th_book, .int u.2.2.1, .ref A_th_kept, .ref A_th_isKept, V_th_seen, V_th_seenPlace, V_th_seenDigit, V_th_seenIs, V_th_seed, V_th_plan, V_th_good, V_th_bad, V_th_signs, V_th_signMany, V_th_digits, V_th_isNode, V_th_base, V_th_slot, V_th_whichMany, V_th_whichFirst, V_th_value]), (A_th_isKept, zA g 2 th_isKept), (A_th_page, iA g 22 u.2.2.2), (A_th_kept, iA g 44 th_kept)] := by
  refine ent (own := RX11) (lv := [(0, .ref A_th), (1, .int n1)]) (by decide) rfl (Nat.le_of_ble_eq_true rfl) rfl rfl ?_
  intro x C
  unfold m_X11_again at hm
  refine b_aload_n C dX11_again_0 rfl 0 rfl ?_
  refine b_iconst (v := 0) C dX11_again_1 (by decide) ?_
  refine pfX11_68 (w' := [(A_th, oO 10 [.int 0, V_th_text, V_th_textSize, V_th_readPage, .ref A_th_page, V_th_trial, V_th_book, .int th_doings, .ref A_th_kept, .ref A_th_isKept, V_th_seen, V_th_seenPlace, V_th_seenDigit, V_th_seenIs, V_th_seed, V_th_plan, V_th_good, V_th_bad, V_th_signs, V_th_signMany, V_th_digits, V_th_isNode, V_th_base, V_th_slot, V_th_whichMany, V_th_whichFirst, V_th_value]), (A_th_isKept, zA g 2 th_isKept), (A_th_page, iA g 22 th_page), (A_th_kept, iA g 44 th_kept)]) C rfl rfl 0 rfl (Nat.le_of_ble_eq_true rfl) dX11_again_2 rfl ?_
  refine b_iload_n C dX11_again_5 rfl 1 rfl ?_
  refine b_i2l C dX11_again_6 ?_
  refine b_lconst (v := 0) C dX11_again_7 (by decide) ?_
  refine b_lconst (v := 1) C dX11_again_8 (by decide) ?_
  obtain ⟨r1, hM, hm⟩ := bK1_some hm
  refine b_kS (w' := [(A_th, oO 10 [.int 0, V_th_text, V_th_textSize, V_th_readPage, .ref A_th_page, V_th_trial, V_th_book, .int th_doings, .ref A_th_kept, .ref A_th_isKept, V_th_seen, V_th_seenPlace, V_th_seenDigit, V_th_seenIs, V_th_seed, V_th_plan, V_th_good, V_th_bad, V_th_signs, V_th_signMany, V_th_digits, V_th_isNode, V_th_base, V_th_slot, V_th_whichMany, V_th_whichFirst, V_th_value]), (A_th_isKept, zA g 2 th_isKept), (A_th_page, iA g 22 th_page), (A_th_kept, iA g 44 th_kept)]) (st := []) (st2 := [.int r1]) C cs_X11_in tb937 (c_X11_in l g n1.toInt64 0 1 F r1 hM) rfl ⟨rfl, rfl, by decide, by decide⟩ (Nat.le_of_ble_eq_true rfl) [] rfl (by decide) rfl rfl dX11_again_9 [none, none, none, none] (by decide) ⟨rfl, ⟨rfl, ⟨rfl, ⟨rfl, trivial⟩⟩⟩⟩ rfl ?_
  refine b_if_ne (tgt := 17) C dX11_again_12 (by decide) hm (fun hm => ?_) (fun hm => ?_)
  · refine b_aload_n C dX11_again_17 rfl 0 rfl ?_
    refine gfX11_28 C 0 rfl rfl dX11_again_18 ?_
    refine b_iload_n C dX11_again_21 rfl 1 rfl ?_
    refine b_zald C 1 rfl dX11_again_22 hm (fun v2 hm => ?_)
    refine b_if_ne (tgt := 29) C dX11_again_23 (by decide) hm (fun hm => ?_) (fun hm => ?_)
    · refine b_iconst (v := 0) C dX11_again_29 (by decide) ?_
      refine b_istore_n (lv' := [(2, .int 0), (0, .ref A_th), (1, .int n1)]) C dX11_again_30 rfl (by decide) rfl ?_
      refine Wb.lv (lv' := [(0, .ref A_th), (1, .int n1), (2, .int 0)]) ?_ [1, 2, 0] rfl
      refine wl2_W (Wg := fun (x4 : Int32) (f5 : (Nat → Int32)) => Wb x [(A_th, oO 10 [.int 0, V_th_text, V_th_textSize, V_th_readPage, .ref A_th_page, V_th_trial, V_th_book, .int th_doings, .ref A_th_kept, .ref A_th_isKept, V_th_seen, V_th_seenPlace, V_th_seenDigit, V_th_seenIs, V_th_seed, V_th_plan, V_th_good, V_th_bad, V_th_signs, V_th_signMany, V_th_digits, V_th_isNode, V_th_base, V_th_slot, V_th_whichMany, V_th_whichFirst, V_th_value]), (A_th_isKept, zA g 2 th_isKept), (A_th_page, iA g 22 f5), (A_th_kept, iA g 44 th_kept)] [(0, .ref A_th), (1, .int n1), (2, .int x4)] 31 []) ?_ F 0 th_page hm
      intro x4 f5 c3 hc3 hm
      refine b_iload_n C dX11_again_31 rfl 2 rfl ?_
      refine b_bipush (v := 22) C dX11_again_32 (by decide) ?_
      refine b_icmp_ge (tgt := 60) C dX11_again_34 (by decide) hm (fun hm => ?_) (fun hm => ?_)
      · refine b_aload_n C dX11_again_60 rfl 0 rfl ?_
        refine b_iconst (v := 0) C dX11_again_61 (by decide) ?_
        refine pfX11_99 (w' := [(A_th, oO 10 [.int 0, V_th_text, V_th_textSize, V_th_readPage, .ref A_th_page, V_th_trial, V_th_book, .int 0, .ref A_th_kept, .ref A_th_isKept, V_th_seen, V_th_seenPlace, V_th_seenDigit, V_th_seenIs, V_th_seed, V_th_plan, V_th_good, V_th_bad, V_th_signs, V_th_signMany, V_th_digits, V_th_isNode, V_th_base, V_th_slot, V_th_whichMany, V_th_whichFirst, V_th_value]), (A_th_isKept, zA g 2 th_isKept), (A_th_page, iA g 22 f5), (A_th_kept, iA g 44 th_kept)]) C rfl rfl 0 rfl (Nat.le_of_ble_eq_true rfl) dX11_again_62 rfl ?_
        refine b_aload_n C dX11_again_65 rfl 0 rfl ?_
        refine gfX11_16 C 0 rfl rfl dX11_again_66 ?_
        refine b_iconst (v := 0) C dX11_again_69 (by decide) ?_
        refine b_iald C 2 rfl dX11_again_70 hm (fun v6 hm => ?_)
        cases hm
        exact b_iret C dX11_again_71
      · refine b_aload_n C dX11_again_37 rfl 0 rfl ?_
        refine gfX11_16 C 0 rfl rfl dX11_again_38 ?_
        refine b_iload_n C dX11_again_41 rfl 2 rfl ?_
        refine b_aload_n C dX11_again_42 rfl 0 rfl ?_
        refine gfX11_25 C 0 rfl rfl dX11_again_43 ?_
        refine b_bipush (v := 22) C dX11_again_46 (by decide) ?_
        refine b_iload_n C dX11_again_48 rfl 1 rfl ?_
        refine b_imul C dX11_again_49 ?_
        refine b_iload_n C dX11_again_50 rfl 2 rfl ?_
        refine b_iadd C dX11_again_51 ?_
        refine b_iald C 3 rfl dX11_again_52 hm (fun v7 hm => ?_)
        refine b_iast C 2 rfl dX11_again_53 hm (fun f8 hm => Wb.to (w' := [(A_th, oO 10 [.int 0, V_th_text, V_th_textSize, V_th_readPage, .ref A_th_page, V_th_trial, V_th_book, .int th_doings, .ref A_th_kept, .ref A_th_isKept, V_th_seen, V_th_seenPlace, V_th_seenDigit, V_th_seenIs, V_th_seed, V_th_plan, V_th_good, V_th_bad, V_th_signs, V_th_signMany, V_th_digits, V_th_isNode, V_th_base, V_th_slot, V_th_whichMany, V_th_whichFirst, V_th_value]), (A_th_isKept, zA g 2 th_isKept), (A_th_page, iA g 22 f8), (A_th_kept, iA g 44 th_kept)]) rfl ?_)
        refine b_iinc (v2 := x4 + 1) (lv' := [(2, .int (x4 + 1)), (0, .ref A_th), (1, .int n1)]) C dX11_again_54 2 rfl rfl (by decide) rfl ?_
        refine b_goto (tgt := 31) C dX11_again_57 (by decide) ?_
        exact Wb.lv (hc3 (x4 + 1) f8 hm) [1, 2, 0] rfl
    · refine b_bipush (v := (-3)) C dX11_again_26 (by decide) ?_
      cases hm
      exact b_iret C dX11_again_28
  · refine b_iconst (v := (-1)) C dX11_again_15 (by decide) ?_
    cases hm
    exact b_iret C dX11_again_16
