/-- BreakLearnerModel.share(IZ)I -/
def m_X11_share (F : Nat)  (n1 : Int32) (n2 : Int32) (th_thrown : Int32) (th_signMany : Int32) (th_page : (Nat → Int32)) (th_plan : (Nat → Int32)) (th_signs : (Nat → Int32)) (th_digits : (Nat → Int32)) (th_good : (Nat → Int32)) (th_bad : (Nat → Int32)) (th_value : (Nat → Int32)) : Option (Int32 × Int32 × Int32 × (Nat → Int32) × (Nat → Int32) × (Nat → Int32) × (Nat → Int32) × (Nat → Int32) × (Nat → Int32)) :=
  bK1 (m_X11_noWord F n1 th_page) (fun r1 =>
  if r1 = 0 then
    rdK 22 th_page 0 (fun v2 =>
    bK7 (m_X11_layValues F th_signMany th_page th_plan th_signs th_digits th_good th_bad th_value) (fun z3 f4 f5 f6 f7 f8 f9 =>
    wl3 (fun (x11 : Int32) (x12 : Int32) (x13 : Int32) c10 =>
      if (1 <<< (v2 &&& 31)) ≤ x13 then
        bK1 (m_X11_fraction F x11 x12 n2) (fun r14 =>
        some (r14, 0, z3, f4, f5, f6, f7, f8, f9)
        )
      else
        bK1 (m_X11_has F x13 n1) (fun r15 =>
        if r15 = 0 then
          bK1 (m_X11_many F x13) (fun r16 =>
          bK1 (m_X11_orders F v2 r16) (fun r17 =>
          letK (x12 + r17) (fun x18 =>
          rdK 64 f9 (x13 ||| (1 <<< (n1 &&& 31))) (fun v19 =>
          rdK 64 f9 x13 (fun v20 =>
          letK (x11 + (r17 * (v19 - v20))) (fun x21 =>
          c10 x21 x18 (x13 + 1)
          )
          )
          )
          )
          )
          )
        else
          c10 x11 x12 (x13 + 1)
        )
      ) F 0 0 0
    )
    )
  else
    some ((-1), 0, th_signMany, th_plan, th_signs, th_digits, th_good, th_bad, th_value)
  )
abbrev rmX11_share : Room := { frames := 6, cells := 0, slots := 0, locals := 149 }
set_option maxHeartbeats 4000000 in
set_option maxRecDepth 100000 in
theorem c_X11_share (l : Launch) (g : Gl) (A_th A_th_page A_th_plan A_th_signs A_th_digits A_th_good A_th_bad A_th_value : Nat) (V_th_text V_th_textSize V_th_readPage V_th_trial V_th_book V_th_doings V_th_kept V_th_isKept V_th_seen V_th_seenPlace V_th_seenDigit V_th_seenIs V_th_seed V_th_isNode V_th_base V_th_slot V_th_whichMany V_th_whichFirst : Value)  (n1 : Int32) (n2 : Int32) (th_thrown : Int32) (th_signMany : Int32) (th_page : (Nat → Int32)) (th_plan : (Nat → Int32)) (th_signs : (Nat → Int32)) (th_digits : (Nat → Int32)) (th_good : (Nat → Int32)) (th_bad : (Nat → Int32)) (th_value : (Nat → Int32)) (F : Nat) (u : Int32 × Int32 × Int32 × (Nat → Int32) × (Nat → Int32) × (Nat → Int32) × (Nat → Int32) × (Nat → Int32) × (Nat → Int32)) (hm : m_X11_share F n1 n2 th_thrown th_signMany th_page th_plan th_signs th_digits th_good th_bad th_value = some u) : Ct l g yX11_share cX11_share 8 (some .int) rmX11_share [.ref A_th, .int n1, .int n2] [(A_th, oO 10 [.int th_thrown, V_th_text, V_th_textSize, V_th_readPage, .ref A_th_page, V_th_trial, V_th_book, V_th_doings, V_th_kept, V_th_isKept, V_th_seen, V_th_seenPlace, V_th_seenDigit, V_th_seenIs, V_th_seed, .ref A_th_plan, .ref A_th_good, .ref A_th_bad, .ref A_th_signs, .int th_signMany, .ref A_th_digits, V_th_isNode, V_th_base, V_th_slot, V_th_whichMany, V_th_whichFirst, .ref A_th_value]), (A_th_page, iA g 22 th_page), (A_th_plan, iA g 1372 th_plan), (A_th_signs, iA g 8 th_signs), (A_th_digits, iA g 36 th_digits), (A_th_good, iA g 1372 th_good), (A_th_bad, iA g 1372 th_bad), (A_th_value, iA g 64 th_value)] (some (.int u.1)) [(A_th, oO 10 [.int u.2.1, V_th_text, V_th_textSize, V_th_readPage, .ref A_th_page, V_th_trial, V_th_book, V_th_doings, V_th_kept, V_th_isKept, V_th_seen, V_th_seenPlace, V_th_seenDigit, V_th_seenIs, V_th_seed, .ref A_th_plan, .ref A_th_good, .ref A_th_bad, .ref A_th_signs, .int u.2.2.1, .ref A_th_digits, V_th_isNode, V_th_base, V_th_slot, V_th_whichMany, V_th_whichFirst, .ref A_th_value]), (A_th_page, iA g 22 th_page), (A_th_plan, iA g 1372 u.2.2.2.1), (A_th_signs, iA g 8 u.2.2.2.2.1), (A_th_digits, iA g 36 u.2.2.2.2.2.1), (A_th_good, iA g 1372 u.2.2.2.2.2.2.1), (A_th_bad, iA g 1372 u.2.2.2.2.2.2.2.1), (A_th_value, iA g 64 u.2.2.2.2.2.2.2.2)] := by
  refine ent (own := RX11) (lv := [(0, .ref A_th), (1, .int n1), (2, .int n2)]) (by decide) rfl (Nat.le_of_ble_eq_true rfl) rfl rfl ?_
  intro x C
  unfold m_X11_share at hm
  refine b_aload_n C dX11_share_0 rfl 0 rfl ?_
  refine b_iconst (v := 0) C dX11_share_1 (by decide) ?_
  refine pfX11_68 (w' := [(A_th, oO 10 [.int 0, V_th_text, V_th_textSize, V_th_readPage, .ref A_th_page, V_th_trial, V_th_book, V_th_doings, V_th_kept, V_th_isKept, V_th_seen, V_th_seenPlace, V_th_seenDigit, V_th_seenIs, V_th_seed, .ref A_th_plan, .ref A_th_good, .ref A_th_bad, .ref A_th_signs, .int th_signMany, .ref A_th_digits, V_th_isNode, V_th_base, V_th_slot, V_th_whichMany, V_th_whichFirst, .ref A_th_value]), (A_th_page, iA g 22 th_page), (A_th_plan, iA g 1372 th_plan), (A_th_signs, iA g 8 th_signs), (A_th_digits, iA g 36 th_digits), (A_th_good, iA g 1372 th_good), (A_th_bad, iA g 1372 th_bad), (A_th_value, iA g 64 th_value)]) C rfl rfl 0 rfl (Nat.le_of_ble_eq_true rfl) dX11_share_2 rfl ?_
  refine b_aload_n C dX11_share_5 rfl 0 rfl ?_
  refine b_iload_n C dX11_share_6 rfl 1 rfl ?_
  obtain ⟨r1, hM, hm⟩ := bK1_some hm
  refine b_kV (w' := [(A_th, oO 10 [.int 0, V_th_text, V_th_textSize, V_th_readPage, .ref A_th_page, V_th_trial, V_th_book, V_th_doings, V_th_kept, V_th_isKept, V_th_seen, V_th_seenPlace, V_th_seenDigit, V_th_seenIs, V_th_seed, .ref A_th_plan, .ref A_th_good, .ref A_th_bad, .ref A_th_signs, .int th_signMany, .ref A_th_digits, V_th_isNode, V_th_base, V_th_slot, V_th_whichMany, V_th_whichFirst, .ref A_th_value]), (A_th_page, iA g 22 th_page), (A_th_plan, iA g 1372 th_plan), (A_th_signs, iA g 8 th_signs), (A_th_digits, iA g 36 th_digits), (A_th_good, iA g 1372 th_good), (A_th_bad, iA g 1372 th_bad), (A_th_value, iA g 64 th_value)]) (st := []) (st2 := [.int r1]) C cv_X11_noWord tb1059 (c_X11_noWord l g A_th A_th_page (.int 0) V_th_text V_th_textSize V_th_readPage V_th_trial V_th_book V_th_doings V_th_kept V_th_isKept V_th_seen V_th_seenPlace V_th_seenDigit V_th_seenIs V_th_seed (.ref A_th_plan) (.ref A_th_good) (.ref A_th_bad) (.ref A_th_signs) (.int th_signMany) (.ref A_th_digits) V_th_isNode V_th_base V_th_slot V_th_whichMany V_th_whichFirst (.ref A_th_value) n1 th_page F r1 hM) rfl 0 rfl rfl ⟨rfl, rfl, by decide, by decide⟩ (Nat.le_of_ble_eq_true rfl) [0, 1] rfl (by decide) rfl rfl dX11_share_7 [some 0, some 1, none, none, none, none, none, none] (by decide) ⟨⟨rfl, rfl⟩, ⟨⟨rfl, rfl⟩, ⟨rfl, ⟨rfl, ⟨rfl, ⟨rfl, ⟨rfl, ⟨rfl, trivial⟩⟩⟩⟩⟩⟩⟩⟩ rfl ?_
  refine b_if_eq (tgt := 15) C dX11_share_10 (by decide) hm (fun hm => ?_) (fun hm => ?_)
  · refine b_aload_n C dX11_share_15 rfl 0 rfl ?_
    refine gfX11_16 C 0 rfl rfl dX11_share_16 ?_
    refine b_iconst (v := 0) C dX11_share_19 (by decide) ?_
    refine b_iald C 1 rfl dX11_share_20 hm (fun v2 hm => ?_)
    refine b_istore_n (lv' := [(3, .int v2), (0, .ref A_th), (1, .int n1), (2, .int n2)]) C dX11_share_21 rfl (by decide) rfl ?_
    refine b_aload_n C dX11_share_22 rfl 1 rfl ?_
    obtain ⟨z3, f4, f5, f6, f7, f8, f9, hM, hm⟩ := bK7_some hm
    refine b_kV (w' := [(A_th, oO 10 [.int 0, V_th_text, V_th_textSize, V_th_readPage, .ref A_th_page, V_th_trial, V_th_book, V_th_doings, V_th_kept, V_th_isKept, V_th_seen, V_th_seenPlace, V_th_seenDigit, V_th_seenIs, V_th_seed, .ref A_th_plan, .ref A_th_good, .ref A_th_bad, .ref A_th_signs, .int z3, .ref A_th_digits, V_th_isNode, V_th_base, V_th_slot, V_th_whichMany, V_th_whichFirst, .ref A_th_value]), (A_th_page, iA g 22 th_page), (A_th_plan, iA g 1372 f4), (A_th_signs, iA g 8 f5), (A_th_digits, iA g 36 f6), (A_th_good, iA g 1372 f7), (A_th_bad, iA g 1372 f8), (A_th_value, iA g 64 f9)]) (st := []) (st2 := []) C cv_X11_layValues tb1180 (c_X11_layValues l g A_th A_th_page A_th_plan A_th_signs A_th_digits A_th_good A_th_bad A_th_value (.int 0) V_th_text V_th_textSize V_th_readPage V_th_trial V_th_book V_th_doings V_th_kept V_th_isKept V_th_seen V_th_seenPlace V_th_seenDigit V_th_seenIs V_th_seed V_th_isNode V_th_base V_th_slot V_th_whichMany V_th_whichFirst th_signMany th_page th_plan th_signs th_digits th_good th_bad th_value F (z3, f4, f5, f6, f7, f8, f9) hM) rfl 0 rfl rfl ⟨rfl, rfl, by decide, by decide⟩ (Nat.le_of_ble_eq_true rfl) [0, 1, 2, 3, 4, 5, 6, 7] rfl (by decide) rfl rfl dX11_share_23 [some 0, some 1, some 2, some 3, some 4, some 5, some 6, some 7] (by decide) ⟨⟨rfl, rfl⟩, ⟨⟨rfl, rfl⟩, ⟨⟨rfl, rfl⟩, ⟨⟨rfl, rfl⟩, ⟨⟨rfl, rfl⟩, ⟨⟨rfl, rfl⟩, ⟨⟨rfl, rfl⟩, ⟨⟨rfl, rfl⟩, trivial⟩⟩⟩⟩⟩⟩⟩⟩ rfl ?_
    refine b_iconst (v := 0) C dX11_share_26 (by decide) ?_
    refine b_istore (lv' := [(4, .int 0), (3, .int v2), (0, .ref A_th), (1, .int n1), (2, .int n2)]) C dX11_share_27 (by decide) rfl ?_
    refine b_iconst (v := 0) C dX11_share_29 (by decide) ?_
    refine b_istore (lv' := [(5, .int 0), (4, .int 0), (3, .int v2), (0, .ref A_th), (1, .int n1), (2, .int n2)]) C dX11_share_30 (by decide) rfl ?_
    refine b_iconst (v := 0) C dX11_share_32 (by decide) ?_
    refine b_istore (lv' := [(6, .int 0), (5, .int 0), (4, .int 0), (3, .int v2), (0, .ref A_th), (1, .int n1), (2, .int n2)]) C dX11_share_33 (by decide) rfl ?_
    refine Wb.lv (lv' := [(0, .ref A_th), (1, .int n1), (2, .int n2), (3, .int v2), (4, .int 0), (5, .int 0), (6, .int 0)]) ?_ [4, 5, 6, 3, 2, 1, 0] rfl
    refine wl3_W (Wg := fun (x11 : Int32) (x12 : Int32) (x13 : Int32) => Wb x [(A_th, oO 10 [.int 0, V_th_text, V_th_textSize, V_th_readPage, .ref A_th_page, V_th_trial, V_th_book, V_th_doings, V_th_kept, V_th_isKept, V_th_seen, V_th_seenPlace, V_th_seenDigit, V_th_seenIs, V_th_seed, .ref A_th_plan, .ref A_th_good, .ref A_th_bad, .ref A_th_signs, .int z3, .ref A_th_digits, V_th_isNode, V_th_base, V_th_slot, V_th_whichMany, V_th_whichFirst, .ref A_th_value]), (A_th_page, iA g 22 th_page), (A_th_plan, iA g 1372 f4), (A_th_signs, iA g 8 f5), (A_th_digits, iA g 36 f6), (A_th_good, iA g 1372 f7), (A_th_bad, iA g 1372 f8), (A_th_value, iA g 64 f9)] [(0, .ref A_th), (1, .int n1), (2, .int n2), (3, .int v2), (4, .int x11), (5, .int x12), (6, .int x13)] 35 []) ?_ F 0 0 0 hm
    intro x11 x12 x13 c10 hc10 hm
    refine b_iload C dX11_share_35 6 rfl ?_
    refine b_iconst (v := 1) C dX11_share_37 (by decide) ?_
    refine b_iload_n C dX11_share_38 rfl 3 rfl ?_
    refine b_ishl C dX11_share_39 ?_
    refine b_icmp_ge (tgt := 103) C dX11_share_40 (by decide) hm (fun hm => ?_) (fun hm => ?_)
    · refine b_iload C dX11_share_103 4 rfl ?_
      refine b_iload C dX11_share_105 5 rfl ?_
      refine b_iload_n C dX11_share_107 rfl 2 rfl ?_
      obtain ⟨r14, hM, hm⟩ := bK1_some hm
      refine b_kS (w' := [(A_th, oO 10 [.int 0, V_th_text, V_th_textSize, V_th_readPage, .ref A_th_page, V_th_trial, V_th_book, V_th_doings, V_th_kept, V_th_isKept, V_th_seen, V_th_seenPlace, V_th_seenDigit, V_th_seenIs, V_th_seed, .ref A_th_plan, .ref A_th_good, .ref A_th_bad, .ref A_th_signs, .int z3, .ref A_th_digits, V_th_isNode, V_th_base, V_th_slot, V_th_whichMany, V_th_whichFirst, .ref A_th_value]), (A_th_page, iA g 22 th_page), (A_th_plan, iA g 1372 f4), (A_th_signs, iA g 8 f5), (A_th_digits, iA g 36 f6), (A_th_good, iA g 1372 f7), (A_th_bad, iA g 1372 f8), (A_th_value, iA g 64 f9)]) (st := []) (st2 := [.int r14]) C cs_X11_fraction tb1190 (c_X11_fraction l g x11 x12 n2 F r14 hM) rfl ⟨rfl, rfl, by decide, by decide⟩ (Nat.le_of_ble_eq_true rfl) [] rfl (by decide) rfl rfl dX11_share_108 [none, none, none, none, none, none, none, none] (by decide) ⟨rfl, ⟨rfl, ⟨rfl, ⟨rfl, ⟨rfl, ⟨rfl, ⟨rfl, ⟨rfl, trivial⟩⟩⟩⟩⟩⟩⟩⟩ rfl ?_
      cases hm
      exact b_iret C dX11_share_111
    · refine b_iload C dX11_share_43 6 rfl ?_
      refine b_iload_n C dX11_share_45 rfl 1 rfl ?_
      obtain ⟨r15, hM, hm⟩ := bK1_some hm
      refine b_kS (w' := [(A_th, oO 10 [.int 0, V_th_text, V_th_textSize, V_th_readPage, .ref A_th_page, V_th_trial, V_th_book, V_th_doings, V_th_kept, V_th_isKept, V_th_seen, V_th_seenPlace, V_th_seenDigit, V_th_seenIs, V_th_seed, .ref A_th_plan, .ref A_th_good, .ref A_th_bad, .ref A_th_signs, .int z3, .ref A_th_digits, V_th_isNode, V_th_base, V_th_slot, V_th_whichMany, V_th_whichFirst, .ref A_th_value]), (A_th_page, iA g 22 th_page), (A_th_plan, iA g 1372 f4), (A_th_signs, iA g 8 f5), (A_th_digits, iA g 36 f6), (A_th_good, iA g 1372 f7), (A_th_bad, iA g 1372 f8), (A_th_value, iA g 64 f9)]) (st := []) (st2 := [.int r15]) C cs_X11_has tb998 (c_X11_has l g x13 n1 F r15 hM) rfl ⟨rfl, rfl, by decide, by decide⟩ (Nat.le_of_ble_eq_true rfl) [] rfl (by decide) rfl rfl dX11_share_46 [none, none, none, none, none, none, none, none] (by decide) ⟨rfl, ⟨rfl, ⟨rfl, ⟨rfl, ⟨rfl, ⟨rfl, ⟨rfl, ⟨rfl, trivial⟩⟩⟩⟩⟩⟩⟩⟩ rfl ?_
      refine b_if_ne (tgt := 97) C dX11_share_49 (by decide) hm (fun hm => ?_) (fun hm => ?_)
      · refine b_iinc (v2 := x13 + 1) (lv' := [(6, .int (x13 + 1)), (0, .ref A_th), (1, .int n1), (2, .int n2), (3, .int v2), (4, .int x11), (5, .int x12)]) C dX11_share_97 6 rfl rfl (by decide) rfl ?_
        refine b_goto (tgt := 35) C dX11_share_100 (by decide) ?_
        exact Wb.lv (hc10 x11 x12 (x13 + 1) hm) [1, 2, 3, 4, 5, 6, 0] rfl
      · refine b_iload_n C dX11_share_52 rfl 3 rfl ?_
        refine b_iload C dX11_share_53 6 rfl ?_
        obtain ⟨r16, hM, hm⟩ := bK1_some hm
        refine b_kS (w' := [(A_th, oO 10 [.int 0, V_th_text, V_th_textSize, V_th_readPage, .ref A_th_page, V_th_trial, V_th_book, V_th_doings, V_th_kept, V_th_isKept, V_th_seen, V_th_seenPlace, V_th_seenDigit, V_th_seenIs, V_th_seed, .ref A_th_plan, .ref A_th_good, .ref A_th_bad, .ref A_th_signs, .int z3, .ref A_th_digits, V_th_isNode, V_th_base, V_th_slot, V_th_whichMany, V_th_whichFirst, .ref A_th_value]), (A_th_page, iA g 22 th_page), (A_th_plan, iA g 1372 f4), (A_th_signs, iA g 8 f5), (A_th_digits, iA g 36 f6), (A_th_good, iA g 1372 f7), (A_th_bad, iA g 1372 f8), (A_th_value, iA g 64 f9)]) (st := [.int v2]) (st2 := [.int r16, .int v2]) C cs_X11_many tb1184 (c_X11_many l g x13 F r16 hM) rfl ⟨rfl, rfl, by decide, by decide⟩ (Nat.le_of_ble_eq_true rfl) [] rfl (by decide) rfl rfl dX11_share_55 [none, none, none, none, none, none, none, none] (by decide) ⟨rfl, ⟨rfl, ⟨rfl, ⟨rfl, ⟨rfl, ⟨rfl, ⟨rfl, ⟨rfl, trivial⟩⟩⟩⟩⟩⟩⟩⟩ rfl ?_
        obtain ⟨r17, hM, hm⟩ := bK1_some hm
        refine b_kS (w' := [(A_th, oO 10 [.int 0, V_th_text, V_th_textSize, V_th_readPage, .ref A_th_page, V_th_trial, V_th_book, V_th_doings, V_th_kept, V_th_isKept, V_th_seen, V_th_seenPlace, V_th_seenDigit, V_th_seenIs, V_th_seed, .ref A_th_plan, .ref A_th_good, .ref A_th_bad, .ref A_th_signs, .int z3, .ref A_th_digits, V_th_isNode, V_th_base, V_th_slot, V_th_whichMany, V_th_whichFirst, .ref A_th_value]), (A_th_page, iA g 22 th_page), (A_th_plan, iA g 1372 f4), (A_th_signs, iA g 8 f5), (A_th_digits, iA g 36 f6), (A_th_good, iA g 1372 f7), (A_th_bad, iA g 1372 f8), (A_th_value, iA g 64 f9)]) (st := []) (st2 := [.int r17]) C cs_X11_orders tb1187 (c_X11_orders l g v2 r16 F r17 hM) rfl ⟨rfl, rfl, by decide, by decide⟩ (Nat.le_of_ble_eq_true rfl) [] rfl (by decide) rfl rfl dX11_share_58 [none, none, none, none, none, none, none, none] (by decide) ⟨rfl, ⟨rfl, ⟨rfl, ⟨rfl, ⟨rfl, ⟨rfl, ⟨rfl, ⟨rfl, trivial⟩⟩⟩⟩⟩⟩⟩⟩ rfl ?_
        refine b_istore (lv' := [(7, .int r17), (0, .ref A_th), (1, .int n1), (2, .int n2), (3, .int v2), (4, .int x11), (5, .int x12), (6, .int x13)]) C dX11_share_61 (by decide) rfl ?_
        refine b_iload C dX11_share_63 6 rfl ?_
        refine b_iload C dX11_share_65 0 rfl ?_
        refine b_iadd C dX11_share_67 ?_
        refine b_topi hm (fun x18 hm => ?_)
        refine b_istore (lv' := [(5, .int x18), (7, .int r17), (0, .ref A_th), (1, .int n1), (2, .int n2), (3, .int v2), (4, .int x11), (6, .int x13)]) C dX11_share_68 (by decide) rfl ?_
        refine b_iload C dX11_share_70 6 rfl ?_
        refine b_iload C dX11_share_72 1 rfl ?_
        refine b_aload_n C dX11_share_74 rfl 2 rfl ?_
        refine gfX11_65 C 0 rfl rfl dX11_share_75 ?_
        refine b_iload C dX11_share_78 7 rfl ?_
        refine b_iconst (v := 1) C dX11_share_80 (by decide) ?_
        refine b_iload_n C dX11_share_81 rfl 3 rfl ?_
        refine b_ishl C dX11_share_82 ?_
        refine b_ior C dX11_share_83 ?_
        refine b_iald C 7 rfl dX11_share_84 hm (fun v19 hm => ?_)
        refine b_aload_n C dX11_share_85 rfl 2 rfl ?_
        refine gfX11_65 C 0 rfl rfl dX11_share_86 ?_
        refine b_iload C dX11_share_89 7 rfl ?_
        refine b_iald C 7 rfl dX11_share_91 hm (fun v20 hm => ?_)
        refine b_isub C dX11_share_92 ?_
        refine b_imul C dX11_share_93 ?_
        refine b_iadd C dX11_share_94 ?_
        refine b_topi hm (fun x21 hm => ?_)
        refine b_istore (lv' := [(4, .int x21), (5, .int x18), (7, .int r17), (0, .ref A_th), (1, .int n1), (2, .int n2), (3, .int v2), (6, .int x13)]) C dX11_share_95 (by decide) rfl ?_
        refine b_iinc (v2 := x13 + 1) (lv' := [(6, .int (x13 + 1)), (4, .int x21), (5, .int x18), (7, .int r17), (0, .ref A_th), (1, .int n1), (2, .int n2), (3, .int v2)]) C dX11_share_97 7 rfl rfl (by decide) rfl ?_
        refine b_goto (tgt := 35) C dX11_share_100 (by decide) ?_
        exact Wb.lv (hc10 x21 x18 (x13 + 1) hm) [4, 5, 6, 7, 1, 2, 0] rfl
  · refine b_iconst (v := (-1)) C dX11_share_13 (by decide) ?_
    cases hm
    exact b_iret C dX11_share_14
/-- BreakLearnerModel.see(III)I -/
def m_X11_see (F : Nat)  (n1 : Int32) (n2 : Int32) (n3 : Int32) (th_thrown : Int32) (th_seen : Int32) (th_seenPlace : (Nat → Int32)) (th_seenDigit : (Nat → Int32)) (th_seenIs : (Nat → Int32)) : Option (Int32 × Int32 × Int32 × (Nat → Int32) × (Nat → Int32) × (Nat → Int32)) :=
  bK1 (m_X11_in F n1.toInt64 0 1) (fun r1 =>
  if r1 = 0 then
    some ((-2), 0, th_seen, th_seenPlace, th_seenDigit, th_seenIs)
  else
    bK1 (m_X11_in F n2.toInt64 0 4) (fun r2 =>
    if r2 = 0 then
      some ((-2), 0, th_seen, th_seenPlace, th_seenDigit, th_seenIs)
    else
      bK1 (m_X11_in F n3.toInt64 0 1) (fun r3 =>
      if r3 = 0 then
        some ((-2), 0, th_seen, th_seenPlace, th_seenDigit, th_seenIs)
      else
        if th_seen = 6 then
          some ((-4), 0, th_seen, th_seenPlace, th_seenDigit, th_seenIs)
        else
          stK 6 th_seenPlace th_seen n1 (fun f4 =>
          stK 6 th_seenDigit th_seen n2 (fun f5 =>
          stK 6 th_seenIs th_seen n3 (fun f6 =>
          letK (th_seen + 1) (fun z7 =>
          some (z7, 0, z7, f4, f5, f6)
          )
          )
          )
          )
      )
    )
  )
abbrev rmX11_see : Room := { frames := 1, cells := 0, slots := 0, locals := 25 }
set_option maxHeartbeats 4000000 in
set_option maxRecDepth 100000 in
theorem c_X11_see (l : Launch) (g : Gl) (A_th A_th_seenPlace A_th_seenDigit A_th_seenIs : Nat) (V_th_text V_th_textSize V_th_readPage V_th_page V_th_trial V_th_book V_th_doings V_th_kept V_th_isKept V_th_seed V_th_plan V_th_good V_th_bad V_th_signs V_th_signMany V_th_digits V_th_isNode V_th_base V_th_slot V_th_whichMany V_th_whichFirst V_th_value : Value)  (n1 : Int32) (n2 : Int32) (n3 : Int32) (th_thrown : Int32) (th_seen : Int32) (th_seenPlace : (Nat → Int32)) (th_seenDigit : (Nat → Int32)) (th_seenIs : (Nat → Int32)) (F : Nat) (u : Int32 × Int32 × Int32 × (Nat → Int32) × (Nat → Int32) × (Nat → Int32)) (hm : m_X11_see F n1 n2 n3 th_thrown th_seen th_seenPlace th_seenDigit th_seenIs = some u) : Ct l g yX11_see cX11_see 4 (some .int) rmX11_see [.ref A_th, .int n1, .int n2, .int n3] [(A_th, oO 10 [.int th_thrown, V_th_text, V_th_textSize, V_th_readPage, V_th_page, V_th_trial, V_th_book, V_th_doings, V_th_kept, V_th_isKept, .int th_seen, .ref A_th_seenPlace, .ref A_th_seenDigit, .ref A_th_seenIs, V_th_seed, V_th_plan, V_th_good, V_th_bad, V_th_signs, V_th_signMany, V_th_digits, V_th_isNode, V_th_base, V_th_slot, V_th_whichMany, V_th_whichFirst, V_th_value]), (A_th_seenPlace, iA g 6 th_seenPlace), (A_th_seenDigit, iA g 6 th_seenDigit), (A_th_seenIs, iA g 6 th_seenIs)] (some (.int u.1)) [(A_th, oO 10 [.int u.2.1, V_th_text, V_th_textSize, V_th_readPage, V_th_page, V_th_trial, V_th_book, V_th_doings, V_th_kept, V_th_isKept, .int u.2.2.1, .ref A_th_seenPlace, .ref A_th_seenDigit, .ref A_th_seenIs, V_th_seed, V_th_plan, V_th_good, V_th_bad, V_th_signs, V_th_signMany, V_th_digits, V_th_isNode, V_th_base, V_th_slot, V_th_whichMany, V_th_whichFirst, V_th_value]), (A_th_seenPlace, iA g 6 u.2.2.2.1), (A_th_seenDigit, iA g 6 u.2.2.2.2.1), (A_th_seenIs, iA g 6 u.2.2.2.2.2)] := by
  refine ent (own := RX11) (lv := [(0, .ref A_th), (1, .int n1), (2, .int n2), (3, .int n3)]) (by decide) rfl (Nat.le_of_ble_eq_true rfl) rfl rfl ?_
  intro x C
  unfold m_X11_see at hm
  refine b_aload_n C dX11_see_0 rfl 0 rfl ?_
  refine b_iconst (v := 0) C dX11_see_1 (by decide) ?_
  refine pfX11_68 (w' := [(A_th, oO 10 [.int 0, V_th_text, V_th_textSize, V_th_readPage, V_th_page, V_th_trial, V_th_book, V_th_doings, V_th_kept, V_th_isKept, .int th_seen, .ref A_th_seenPlace, .ref A_th_seenDigit, .ref A_th_seenIs, V_th_seed, V_th_plan, V_th_good, V_th_bad, V_th_signs, V_th_signMany, V_th_digits, V_th_isNode, V_th_base, V_th_slot, V_th_whichMany, V_th_whichFirst, V_th_value]), (A_th_seenPlace, iA g 6 th_seenPlace), (A_th_seenDigit, iA g 6 th_seenDigit), (A_th_seenIs, iA g 6 th_seenIs)]) C rfl rfl 0 rfl (Nat.le_of_ble_eq_true rfl) dX11_see_2 rfl ?_
  refine b_iload_n C dX11_see_5 rfl 1 rfl ?_
  refine b_i2l C dX11_see_6 ?_
  refine b_lconst (v := 0) C dX11_see_7 (by decide) ?_
  refine b_lconst (v := 1) C dX11_see_8 (by decide) ?_
  obtain ⟨r1, hM, hm⟩ := bK1_some hm
  refine b_kS (w' := [(A_th, oO 10 [.int 0, V_th_text, V_th_textSize, V_th_readPage, V_th_page, V_th_trial, V_th_book, V_th_doings, V_th_kept, V_th_isKept, .int th_seen, .ref A_th_seenPlace, .ref A_th_seenDigit, .ref A_th_seenIs, V_th_seed, V_th_plan, V_th_good, V_th_bad, V_th_signs, V_th_signMany, V_th_digits, V_th_isNode, V_th_base, V_th_slot, V_th_whichMany, V_th_whichFirst, V_th_value]), (A_th_seenPlace, iA g 6 th_seenPlace), (A_th_seenDigit, iA g 6 th_seenDigit), (A_th_seenIs, iA g 6 th_seenIs)]) (st := []) (st2 := [.int r1]) C cs_X11_in tb937 (c_X11_in l g n1.toInt64 0 1 F r1 hM) rfl ⟨rfl, rfl, by decide, by decide⟩ (Nat.le_of_ble_eq_true rfl) [] rfl (by decide) rfl rfl dX11_see_9 [none, none, none, none] (by decide) ⟨rfl, ⟨rfl, ⟨rfl, ⟨rfl, trivial⟩⟩⟩⟩ rfl ?_
  refine b_if_eq (tgt := 37) C dX11_see_12 (by decide) hm (fun hm => ?_) (fun hm => ?_)
  · refine b_bipush (v := (-2)) C dX11_see_37 (by decide) ?_
    cases hm
    exact b_iret C dX11_see_39
  · refine b_iload_n C dX11_see_15 rfl 2 rfl ?_
    refine b_i2l C dX11_see_16 ?_
    refine b_lconst (v := 0) C dX11_see_17 (by decide) ?_
    refine b_ldc2 C tb1075 dX11_see_18 ?_
    obtain ⟨r2, hM, hm⟩ := bK1_some hm
    refine b_kS (w' := [(A_th, oO 10 [.int 0, V_th_text, V_th_textSize, V_th_readPage, V_th_page, V_th_trial, V_th_book, V_th_doings, V_th_kept, V_th_isKept, .int th_seen, .ref A_th_seenPlace, .ref A_th_seenDigit, .ref A_th_seenIs, V_th_seed, V_th_plan, V_th_good, V_th_bad, V_th_signs, V_th_signMany, V_th_digits, V_th_isNode, V_th_base, V_th_slot, V_th_whichMany, V_th_whichFirst, V_th_value]), (A_th_seenPlace, iA g 6 th_seenPlace), (A_th_seenDigit, iA g 6 th_seenDigit), (A_th_seenIs, iA g 6 th_seenIs)]) (st := []) (st2 := [.int r2]) C cs_X11_in tb937 (c_X11_in l g n2.toInt64 0 4 F r2 hM) rfl ⟨rfl, rfl, by decide, by decide⟩ (Nat.le_of_ble_eq_true rfl) [] rfl (by decide) rfl rfl dX11_see_21 [none, none, none, none] (by decide) ⟨rfl, ⟨rfl, ⟨rfl, ⟨rfl, trivial⟩⟩⟩⟩ rfl ?_
    refine b_if_eq (tgt := 37) C dX11_see_24 (by decide) hm (fun hm => ?_) (fun hm => ?_)
    · refine b_bipush (v := (-2)) C dX11_see_37 (by decide) ?_
      cases hm
      exact b_iret C dX11_see_39
    · refine b_iload_n C dX11_see_27 rfl 3 rfl ?_
      refine b_i2l C dX11_see_28 ?_
      refine b_lconst (v := 0) C dX11_see_29 (by decide) ?_
      refine b_lconst (v := 1) C dX11_see_30 (by decide) ?_
      obtain ⟨r3, hM, hm⟩ := bK1_some hm
      refine b_kS (w' := [(A_th, oO 10 [.int 0, V_th_text, V_th_textSize, V_th_readPage, V_th_page, V_th_trial, V_th_book, V_th_doings, V_th_kept, V_th_isKept, .int th_seen, .ref A_th_seenPlace, .ref A_th_seenDigit, .ref A_th_seenIs, V_th_seed, V_th_plan, V_th_good, V_th_bad, V_th_signs, V_th_signMany, V_th_digits, V_th_isNode, V_th_base, V_th_slot, V_th_whichMany, V_th_whichFirst, V_th_value]), (A_th_seenPlace, iA g 6 th_seenPlace), (A_th_seenDigit, iA g 6 th_seenDigit), (A_th_seenIs, iA g 6 th_seenIs)]) (st := []) (st2 := [.int r3]) C cs_X11_in tb937 (c_X11_in l g n3.toInt64 0 1 F r3 hM) rfl ⟨rfl, rfl, by decide, by decide⟩ (Nat.le_of_ble_eq_true rfl) [] rfl (by decide) rfl rfl dX11_see_31 [none, none, none, none] (by decide) ⟨rfl, ⟨rfl, ⟨rfl, ⟨rfl, trivial⟩⟩⟩⟩ rfl ?_
      refine b_if_ne (tgt := 40) C dX11_see_34 (by decide) hm (fun hm => ?_) (fun hm => ?_)
      · refine b_aload_n C dX11_see_40 rfl 0 rfl ?_
        refine gfX11_186 C 0 rfl rfl dX11_see_41 ?_
        refine b_bipush (v := 6) C dX11_see_44 (by decide) ?_
        refine b_icmp_ne (tgt := 52) C dX11_see_46 (by decide) hm (fun hm => ?_) (fun hm => ?_)
        · refine b_aload_n C dX11_see_52 rfl 0 rfl ?_
          refine gfX11_32 C 0 rfl rfl dX11_see_53 ?_
          refine b_aload_n C dX11_see_56 rfl 0 rfl ?_
          refine gfX11_186 C 0 rfl rfl dX11_see_57 ?_
          refine b_iload_n C dX11_see_60 rfl 1 rfl ?_
          refine b_iast C 1 rfl dX11_see_61 hm (fun f4 hm => Wb.to (w' := [(A_th, oO 10 [.int 0, V_th_text, V_th_textSize, V_th_readPage, V_th_page, V_th_trial, V_th_book, V_th_doings, V_th_kept, V_th_isKept, .int th_seen, .ref A_th_seenPlace, .ref A_th_seenDigit, .ref A_th_seenIs, V_th_seed, V_th_plan, V_th_good, V_th_bad, V_th_signs, V_th_signMany, V_th_digits, V_th_isNode, V_th_base, V_th_slot, V_th_whichMany, V_th_whichFirst, V_th_value]), (A_th_seenPlace, iA g 6 f4), (A_th_seenDigit, iA g 6 th_seenDigit), (A_th_seenIs, iA g 6 th_seenIs)]) rfl ?_)
          refine b_aload_n C dX11_see_62 rfl 0 rfl ?_
          refine gfX11_35 C 0 rfl rfl dX11_see_63 ?_
          refine b_aload_n C dX11_see_66 rfl 0 rfl ?_
          refine gfX11_186 C 0 rfl rfl dX11_see_67 ?_
          refine b_iload_n C dX11_see_70 rfl 2 rfl ?_
          refine b_iast C 2 rfl dX11_see_71 hm (fun f5 hm => Wb.to (w' := [(A_th, oO 10 [.int 0, V_th_text, V_th_textSize, V_th_readPage, V_th_page, V_th_trial, V_th_book, V_th_doings, V_th_kept, V_th_isKept, .int th_seen, .ref A_th_seenPlace, .ref A_th_seenDigit, .ref A_th_seenIs, V_th_seed, V_th_plan, V_th_good, V_th_bad, V_th_signs, V_th_signMany, V_th_digits, V_th_isNode, V_th_base, V_th_slot, V_th_whichMany, V_th_whichFirst, V_th_value]), (A_th_seenPlace, iA g 6 f4), (A_th_seenDigit, iA g 6 f5), (A_th_seenIs, iA g 6 th_seenIs)]) rfl ?_)
          refine b_aload_n C dX11_see_72 rfl 0 rfl ?_
          refine gfX11_38 C 0 rfl rfl dX11_see_73 ?_
          refine b_aload_n C dX11_see_76 rfl 0 rfl ?_
          refine gfX11_186 C 0 rfl rfl dX11_see_77 ?_
          refine b_iload_n C dX11_see_80 rfl 3 rfl ?_
          refine b_iast C 3 rfl dX11_see_81 hm (fun f6 hm => Wb.to (w' := [(A_th, oO 10 [.int 0, V_th_text, V_th_textSize, V_th_readPage, V_th_page, V_th_trial, V_th_book, V_th_doings, V_th_kept, V_th_isKept, .int th_seen, .ref A_th_seenPlace, .ref A_th_seenDigit, .ref A_th_seenIs, V_th_seed, V_th_plan, V_th_good, V_th_bad, V_th_signs, V_th_signMany, V_th_digits, V_th_isNode, V_th_base, V_th_slot, V_th_whichMany, V_th_whichFirst, V_th_value]), (A_th_seenPlace, iA g 6 f4), (A_th_seenDigit, iA g 6 f5), (A_th_seenIs, iA g 6 f6)]) rfl ?_)
          refine b_aload_n C dX11_see_82 rfl 0 rfl ?_
          refine b_dup C dX11_see_83 rfl ?_
          refine gfX11_186 C 0 rfl rfl dX11_see_84 ?_
          refine b_iconst (v := 1) C dX11_see_87 (by decide) ?_
          refine b_iadd C dX11_see_88 ?_
          refine b_topi hm (fun z7 hm => ?_)
          refine pfX11_186 (w' := [(A_th, oO 10 [.int 0, V_th_text, V_th_textSize, V_th_readPage, V_th_page, V_th_trial, V_th_book, V_th_doings, V_th_kept, V_th_isKept, .int z7, .ref A_th_seenPlace, .ref A_th_seenDigit, .ref A_th_seenIs, V_th_seed, V_th_plan, V_th_good, V_th_bad, V_th_signs, V_th_signMany, V_th_digits, V_th_isNode, V_th_base, V_th_slot, V_th_whichMany, V_th_whichFirst, V_th_value]), (A_th_seenPlace, iA g 6 f4), (A_th_seenDigit, iA g 6 f5), (A_th_seenIs, iA g 6 f6)]) C rfl rfl 0 rfl (Nat.le_of_ble_eq_true rfl) dX11_see_89 rfl ?_
          refine b_aload_n C dX11_see_92 rfl 0 rfl ?_
          refine gfX11_186 C 0 rfl rfl dX11_see_93 ?_
          cases hm
          exact b_iret C dX11_see_96
        · refine b_bipush (v := (-4)) C dX11_see_49 (by decide) ?_
          cases hm
          exact b_iret C dX11_see_51
      · refine b_bipush (v := (-2)) C dX11_see_37 (by decide) ?_
        cases hm
        exact b_iret C dX11_see_39
/-- BreakLearnerModel.unsee()I -/
def m_X11_unsee (F : Nat)   (th_thrown : Int32) (th_seen : Int32) : Option (Int32 × Int32 × Int32) :=
  some (th_seen, 0, 0)
abbrev rmX11_unsee : Room := { frames := 0, cells := 0, slots := 0, locals := 0 }
set_option maxHeartbeats 4000000 in
set_option maxRecDepth 100000 in
theorem c_X11_unsee (l : Launch) (g : Gl) (A_th : Nat) (V_th_text V_th_textSize V_th_readPage V_th_page V_th_trial V_th_book V_th_doings V_th_kept V_th_isKept V_th_seenPlace V_th_seenDigit V_th_seenIs V_th_seed V_th_plan V_th_good V_th_bad V_th_signs V_th_signMany V_th_digits V_th_isNode V_th_base V_th_slot V_th_whichMany V_th_whichFirst V_th_value : Value)   (th_thrown : Int32) (th_seen : Int32) (F : Nat) (u : Int32 × Int32 × Int32) (hm : m_X11_unsee F th_thrown th_seen = some u) : Ct l g yX11_unsee cX11_unsee 2 (some .int) rmX11_unsee [.ref A_th] [(A_th, oO 10 [.int th_thrown, V_th_text, V_th_textSize, V_th_readPage, V_th_page, V_th_trial, V_th_book, V_th_doings, V_th_kept, V_th_isKept, .int th_seen, V_th_seenPlace, V_th_seenDigit, V_th_seenIs, V_th_seed, V_th_plan, V_th_good, V_th_bad, V_th_signs, V_th_signMany, V_th_digits, V_th_isNode, V_th_base, V_th_slot, V_th_whichMany, V_th_whichFirst, V_th_value])] (some (.int u.1)) [(A_th, oO 10 [.int u.2.1, V_th_text, V_th_textSize, V_th_readPage, V_th_page, V_th_trial, V_th_book, V_th_doings, V_th_kept, V_th_isKept, .int u.2.2, V_th_seenPlace, V_th_seenDigit, V_th_seenIs, V_th_seed, V_th_plan, V_th_good, V_th_bad, V_th_signs, V_th_signMany, V_th_digits, V_th_isNode, V_th_base, V_th_slot, V_th_whichMany, V_th_whichFirst, V_th_value])] := by
  refine ent (own := RX11) (lv := [(0, .ref A_th)]) (by decide) rfl (Nat.le_of_ble_eq_true rfl) rfl rfl ?_
  intro x C
  unfold m_X11_unsee at hm
  refine b_aload_n C dX11_unsee_0 rfl 0 rfl ?_
  refine b_iconst (v := 0) C dX11_unsee_1 (by decide) ?_
  refine pfX11_68 (w' := [(A_th, oO 10 [.int 0, V_th_text, V_th_textSize, V_th_readPage, V_th_page, V_th_trial, V_th_book, V_th_doings, V_th_kept, V_th_isKept, .int th_seen, V_th_seenPlace, V_th_seenDigit, V_th_seenIs, V_th_seed, V_th_plan, V_th_good, V_th_bad, V_th_signs, V_th_signMany, V_th_digits, V_th_isNode, V_th_base, V_th_slot, V_th_whichMany, V_th_whichFirst, V_th_value])]) C rfl rfl 0 rfl (Nat.le_of_ble_eq_true rfl) dX11_unsee_2 rfl ?_
  refine b_aload_n C dX11_unsee_5 rfl 0 rfl ?_
  refine gfX11_186 C 0 rfl rfl dX11_unsee_6 ?_
  refine b_istore_n (lv' := [(1, .int th_seen), (0, .ref A_th)]) C dX11_unsee_9 rfl (by decide) rfl ?_
  refine b_aload_n C dX11_unsee_10 rfl 1 rfl ?_
  refine b_iconst (v := 0) C dX11_unsee_11 (by decide) ?_
  refine pfX11_186 (w' := [(A_th, oO 10 [.int 0, V_th_text, V_th_textSize, V_th_readPage, V_th_page, V_th_trial, V_th_book, V_th_doings, V_th_kept, V_th_isKept, .int 0, V_th_seenPlace, V_th_seenDigit, V_th_seenIs, V_th_seed, V_th_plan, V_th_good, V_th_bad, V_th_signs, V_th_signMany, V_th_digits, V_th_isNode, V_th_base, V_th_slot, V_th_whichMany, V_th_whichFirst, V_th_value])]) C rfl rfl 0 rfl (Nat.le_of_ble_eq_true rfl) dX11_unsee_12 rfl ?_
  refine b_iload_n C dX11_unsee_15 rfl 0 rfl ?_
  cases hm
  exact b_iret C dX11_unsee_16
/-- BreakLearnerModel.which(I)I -/
def m_X11_which (F : Nat)  (n1 : Int32) (th_thrown : Int32) (th_seen : Int32) (th_signMany : Int32) (th_whichMany : Int32) (th_whichFirst : Int32) (th_page : (Nat → Int32)) (th_plan : (Nat → Int32)) (th_signs : (Nat → Int32)) (th_digits : (Nat → Int32)) (th_good : (Nat → Int32)) (th_bad : (Nat → Int32)) (th_seenPlace : (Nat → Int32)) (th_seenDigit : (Nat → Int32)) (th_seenIs : (Nat → Int32)) : Option (Int32 × Int32 × Int32 × Int32 × Int32 × (Nat → Int32) × (Nat → Int32) × (Nat → Int32) × (Nat → Int32) × (Nat → Int32)) :=
  bK1 (m_X11_in F n1.toInt64 0 1) (fun r1 =>
  if r1 = 0 then
    some ((-2), 0, th_signMany, th_whichMany, th_whichFirst, th_plan, th_signs, th_digits, th_good, th_bad)
  else
    bK6 (m_X11_learnAll F th_signMany th_page th_plan th_signs th_digits th_good th_bad) (fun z2 f3 f4 f5 f6 f7 =>
    wl5 (fun (x9 : Int32) (z10 : Int32) (z11 : Int32) (z12 : Int32) (f13 : (Nat → Int32)) c8 =>
      if 125 ≤ x9 then
        if n1 = 0 then
          some (z11, 0, z10, z11, z12, f3, f13, f5, f6, f7)
        else
          some (z12, 0, z10, z11, z12, f3, f13, f5, f6, f7)
      else
        letK ((((100 * ((x9 / 25) + 1)) + (10 * ((irm (x9 / 5) 5) + 1))) + (irm x9 5)) + 1) (fun x14 =>
        bK2 (m_X11_laySigns F x14 z10 f13) (fun z15 f16 =>
        wl2 (fun (x18 : Int32) (x19 : Int32) c17 =>
          if th_seen ≤ x19 then
            jn1 (fun (y20 : Int32) =>
              jn1 (fun (y22 : Int32) =>
                letK (z11 + y22) (fun z24 =>
                c8 (x9 + 1) z15 z24 y20 f16
                )
                ) (fun k23 =>
                if x18 = 0 then
                  k23 0
                else
                  k23 1
                )
              ) (fun k21 =>
              jn0 (
                k21 z12
                ) (fun k25 =>
                if x18 = 0 then
                  k25
                else
                  if z11 = 0 then
                    k21 x14
                  else
                    k25
                )
              )
          else
            jn1 (fun (y26 : Int32) =>
              c17 y26 (x19 + 1)
              ) (fun k27 =>
              jn0 (
                k27 0
                ) (fun k28 =>
                if x18 = 0 then
                  k28
                else
                  rdK 6 th_seenPlace x19 (fun v29 =>
                  bK1 (m_X11_digitAt F v29 z15 f16 f3) (fun r30 =>
                  rdK 6 th_seenDigit x19 (fun v31 =>
                  jn1 (fun (y32 : Int32) =>
                    rdK 6 th_seenIs x19 (fun v34 =>
                    jn1 (fun (y35 : Int32) =>
                      if y32 = y35 then
                        k27 1
                      else
                        k28
                      ) (fun k36 =>
                      if v34 = 1 then
                        k36 1
                      else
                        k36 0
                      )
                    )
                    ) (fun k33 =>
                    if r30 = v31 then
                      k33 1
                    else
                      k33 0
                    )
                  )
                  )
                  )
                )
              )
          ) F 1 0
        )
        )
      ) F 0 z2 0 (-9) f4
    )
  )
abbrev rmX11_which : Room := { frames := 6, cells := 0, slots := 0, locals := 149 }
set_option maxHeartbeats 4000000 in
set_option maxRecDepth 100000 in
theorem c_X11_which (l : Launch) (g : Gl) (A_th A_th_page A_th_plan A_th_signs A_th_digits A_th_good A_th_bad A_th_seenPlace A_th_seenDigit A_th_seenIs : Nat) (V_th_text V_th_textSize V_th_readPage V_th_trial V_th_book V_th_doings V_th_kept V_th_isKept V_th_seed V_th_isNode V_th_base V_th_slot V_th_value : Value)  (n1 : Int32) (th_thrown : Int32) (th_seen : Int32) (th_signMany : Int32) (th_whichMany : Int32) (th_whichFirst : Int32) (th_page : (Nat → Int32)) (th_plan : (Nat → Int32)) (th_signs : (Nat → Int32)) (th_digits : (Nat → Int32)) (th_good : (Nat → Int32)) (th_bad : (Nat → Int32)) (th_seenPlace : (Nat → Int32)) (th_seenDigit : (Nat → Int32)) (th_seenIs : (Nat → Int32)) (F : Nat) (u : Int32 × Int32 × Int32 × Int32 × Int32 × (Nat → Int32) × (Nat → Int32) × (Nat → Int32) × (Nat → Int32) × (Nat → Int32)) (hm : m_X11_which F n1 th_thrown th_seen th_signMany th_whichMany th_whichFirst th_page th_plan th_signs th_digits th_good th_bad th_seenPlace th_seenDigit th_seenIs = some u) : Ct l g yX11_which cX11_which 6 (some .int) rmX11_which [.ref A_th, .int n1] [(A_th, oO 10 [.int th_thrown, V_th_text, V_th_textSize, V_th_readPage, .ref A_th_page, V_th_trial, V_th_book, V_th_doings, V_th_kept, V_th_isKept, .int th_seen, .ref A_th_seenPlace, .ref A_th_seenDigit, .ref A_th_seenIs, V_th_seed, .ref A_th_plan, .ref A_th_good, .ref A_th_bad, .ref A_th_signs, .int th_signMany, .ref A_th_digits, V_th_isNode, V_th_base, V_th_slot, .int th_whichMany, .int th_whichFirst, V_th_value]), (A_th_page, iA g 22 th_page), (A_th_plan, iA g 1372 th_plan), (A_th_signs, iA g 8 th_signs), (A_th_digits, iA g 36 th_digits), (A_th_good, iA g 1372 th_good), (A_th_bad, iA g 1372 th_bad), (A_th_seenPlace, iA g 6 th_seenPlace), (A_th_seenDigit, iA g 6 th_seenDigit), (A_th_seenIs, iA g 6 th_seenIs)] (some (.int u.1)) [(A_th, oO 10 [.int u.2.1, V_th_text, V_th_textSize, V_th_readPage, .ref A_th_page, V_th_trial, V_th_book, V_th_doings, V_th_kept, V_th_isKept, .int th_seen, .ref A_th_seenPlace, .ref A_th_seenDigit, .ref A_th_seenIs, V_th_seed, .ref A_th_plan, .ref A_th_good, .ref A_th_bad, .ref A_th_signs, .int u.2.2.1, .ref A_th_digits, V_th_isNode, V_th_base, V_th_slot, .int u.2.2.2.1, .int u.2.2.2.2.1, V_th_value]), (A_th_page, iA g 22 th_page), (A_th_plan, iA g 1372 u.2.2.2.2.2.1), (A_th_signs, iA g 8 u.2.2.2.2.2.2.1), (A_th_digits, iA g 36 u.2.2.2.2.2.2.2.1), (A_th_good, iA g 1372 u.2.2.2.2.2.2.2.2.1), (A_th_bad, iA g 1372 u.2.2.2.2.2.2.2.2.2), (A_th_seenPlace, iA g 6 th_seenPlace), (A_th_seenDigit, iA g 6 th_seenDigit), (A_th_seenIs, iA g 6 th_seenIs)] := by
  refine ent (own := RX11) (lv := [(0, .ref A_th), (1, .int n1)]) (by decide) rfl (Nat.le_of_ble_eq_true rfl) rfl rfl ?_
  intro x C
  unfold m_X11_which at hm
  refine b_aload_n C dX11_which_0 rfl 0 rfl ?_
  refine b_iconst (v := 0) C dX11_which_1 (by decide) ?_
  refine pfX11_68 (w' := [(A_th, oO 10 [.int 0, V_th_text, V_th_textSize, V_th_readPage, .ref A_th_page, V_th_trial, V_th_book, V_th_doings, V_th_kept, V_th_isKept, .int th_seen, .ref A_th_seenPlace, .ref A_th_seenDigit, .ref A_th_seenIs, V_th_seed, .ref A_th_plan, .ref A_th_good, .ref A_th_bad, .ref A_th_signs, .int th_signMany, .ref A_th_digits, V_th_isNode, V_th_base, V_th_slot, .int th_whichMany, .int th_whichFirst, V_th_value]), (A_th_page, iA g 22 th_page), (A_th_plan, iA g 1372 th_plan), (A_th_signs, iA g 8 th_signs), (A_th_digits, iA g 36 th_digits), (A_th_good, iA g 1372 th_good), (A_th_bad, iA g 1372 th_bad), (A_th_seenPlace, iA g 6 th_seenPlace), (A_th_seenDigit, iA g 6 th_seenDigit), (A_th_seenIs, iA g 6 th_seenIs)]) C rfl rfl 0 rfl (Nat.le_of_ble_eq_true rfl) dX11_which_2 rfl ?_
  refine b_iload_n C dX11_which_5 rfl 1 rfl ?_
  refine b_i2l C dX11_which_6 ?_
  refine b_lconst (v := 0) C dX11_which_7 (by decide) ?_
  refine b_lconst (v := 1) C dX11_which_8 (by decide) ?_
  obtain ⟨r1, hM, hm⟩ := bK1_some hm
  refine b_kS (w' := [(A_th, oO 10 [.int 0, V_th_text, V_th_textSize, V_th_readPage, .ref A_th_page, V_th_trial, V_th_book, V_th_doings, V_th_kept, V_th_isKept, .int th_seen, .ref A_th_seenPlace, .ref A_th_seenDigit, .ref A_th_seenIs, V_th_seed, .ref A_th_plan, .ref A_th_good, .ref A_th_bad, .ref A_th_signs, .int th_signMany, .ref A_th_digits, V_th_isNode, V_th_base, V_th_slot, .int th_whichMany, .int th_whichFirst, V_th_value]), (A_th_page, iA g 22 th_page), (A_th_plan, iA g 1372 th_plan), (A_th_signs, iA g 8 th_signs), (A_th_digits, iA g 36 th_digits), (A_th_good, iA g 1372 th_good), (A_th_bad, iA g 1372 th_bad), (A_th_seenPlace, iA g 6 th_seenPlace), (A_th_seenDigit, iA g 6 th_seenDigit), (A_th_seenIs, iA g 6 th_seenIs)]) (st := []) (st2 := [.int r1]) C cs_X11_in tb937 (c_X11_in l g n1.toInt64 0 1 F r1 hM) rfl ⟨rfl, rfl, by decide, by decide⟩ (Nat.le_of_ble_eq_true rfl) [] rfl (by decide) rfl rfl dX11_which_9 [none, none, none, none, none, none, none, none, none, none] (by decide) ⟨rfl, ⟨rfl, ⟨rfl, ⟨rfl, ⟨rfl, ⟨rfl, ⟨rfl, ⟨rfl, ⟨rfl, ⟨rfl, trivial⟩⟩⟩⟩⟩⟩⟩⟩⟩⟩ rfl ?_
  refine b_if_ne (tgt := 18) C dX11_which_12 (by decide) hm (fun hm => ?_) (fun hm => ?_)
  · refine b_aload_n C dX11_which_18 rfl 0 rfl ?_
    refine b_aload_n C dX11_which_19 rfl 0 rfl ?_
    refine gfX11_16 C 0 rfl rfl dX11_which_20 ?_
    obtain ⟨z2, f3, f4, f5, f6, f7, hM, hm⟩ := bK6_some hm
    refine b_kV (w' := [(A_th, oO 10 [.int 0, V_th_text, V_th_textSize, V_th_readPage, .ref A_th_page, V_th_trial, V_th_book, V_th_doings, V_th_kept, V_th_isKept, .int th_seen, .ref A_th_seenPlace, .ref A_th_seenDigit, .ref A_th_seenIs, V_th_seed, .ref A_th_plan, .ref A_th_good, .ref A_th_bad, .ref A_th_signs, .int z2, .ref A_th_digits, V_th_isNode, V_th_base, V_th_slot, .int th_whichMany, .int th_whichFirst, V_th_value]), (A_th_page, iA g 22 th_page), (A_th_plan, iA g 1372 f3), (A_th_signs, iA g 8 f4), (A_th_digits, iA g 36 f5), (A_th_good, iA g 1372 f6), (A_th_bad, iA g 1372 f7), (A_th_seenPlace, iA g 6 th_seenPlace), (A_th_seenDigit, iA g 6 th_seenDigit), (A_th_seenIs, iA g 6 th_seenIs)]) (st := []) (st2 := []) C cv_X11_learnAll tb963 (c_X11_learnAll l g A_th A_th_page A_th_plan A_th_signs A_th_digits A_th_good A_th_bad (.int 0) V_th_text V_th_textSize V_th_readPage (.ref A_th_page) V_th_trial V_th_book V_th_doings V_th_kept V_th_isKept (.int th_seen) (.ref A_th_seenPlace) (.ref A_th_seenDigit) (.ref A_th_seenIs) V_th_seed V_th_isNode V_th_base V_th_slot (.int th_whichMany) (.int th_whichFirst) V_th_value th_signMany th_page th_plan th_signs th_digits th_good th_bad F (z2, f3, f4, f5, f6, f7) hM) rfl 0 rfl rfl ⟨rfl, rfl, by decide, by decide⟩ (Nat.le_of_ble_eq_true rfl) [0, 1, 2, 3, 4, 5, 6] rfl (by decide) rfl rfl dX11_which_23 [some 0, some 1, some 2, some 3, some 4, some 5, some 6, none, none, none] (by decide) ⟨⟨rfl, rfl⟩, ⟨⟨rfl, rfl⟩, ⟨⟨rfl, rfl⟩, ⟨⟨rfl, rfl⟩, ⟨⟨rfl, rfl⟩, ⟨⟨rfl, rfl⟩, ⟨⟨rfl, rfl⟩, ⟨rfl, ⟨rfl, ⟨rfl, trivial⟩⟩⟩⟩⟩⟩⟩⟩⟩⟩ rfl ?_
    refine b_aload_n C dX11_which_26 rfl 0 rfl ?_
    refine b_iconst (v := 0) C dX11_which_27 (by decide) ?_
    refine pfX11_262 (w' := [(A_th, oO 10 [.int 0, V_th_text, V_th_textSize, V_th_readPage, .ref A_th_page, V_th_trial, V_th_book, V_th_doings, V_th_kept, V_th_isKept, .int th_seen, .ref A_th_seenPlace, .ref A_th_seenDigit, .ref A_th_seenIs, V_th_seed, .ref A_th_plan, .ref A_th_good, .ref A_th_bad, .ref A_th_signs, .int z2, .ref A_th_digits, V_th_isNode, V_th_base, V_th_slot, .int 0, .int th_whichFirst, V_th_value]), (A_th_page, iA g 22 th_page), (A_th_plan, iA g 1372 f3), (A_th_signs, iA g 8 f4), (A_th_digits, iA g 36 f5), (A_th_good, iA g 1372 f6), (A_th_bad, iA g 1372 f7), (A_th_seenPlace, iA g 6 th_seenPlace), (A_th_seenDigit, iA g 6 th_seenDigit), (A_th_seenIs, iA g 6 th_seenIs)]) C rfl rfl 0 rfl (Nat.le_of_ble_eq_true rfl) dX11_which_28 rfl ?_
    refine b_aload_n C dX11_which_31 rfl 0 rfl ?_
    refine b_bipush (v := (-9)) C dX11_which_32 (by decide) ?_
    refine pfX11_265 (w' := [(A_th, oO 10 [.int 0, V_th_text, V_th_textSize, V_th_readPage, .ref A_th_page, V_th_trial, V_th_book, V_th_doings, V_th_kept, V_th_isKept, .int th_seen, .ref A_th_seenPlace, .ref A_th_seenDigit, .ref A_th_seenIs, V_th_seed, .ref A_th_plan, .ref A_th_good, .ref A_th_bad, .ref A_th_signs, .int z2, .ref A_th_digits, V_th_isNode, V_th_base, V_th_slot, .int 0, .int (-9), V_th_value]), (A_th_page, iA g 22 th_page), (A_th_plan, iA g 1372 f3), (A_th_signs, iA g 8 f4), (A_th_digits, iA g 36 f5), (A_th_good, iA g 1372 f6), (A_th_bad, iA g 1372 f7), (A_th_seenPlace, iA g 6 th_seenPlace), (A_th_seenDigit, iA g 6 th_seenDigit), (A_th_seenIs, iA g 6 th_seenIs)]) C rfl rfl 0 rfl (Nat.le_of_ble_eq_true rfl) dX11_which_34 rfl ?_
    refine b_iconst (v := 0) C dX11_which_37 (by decide) ?_
    refine b_istore_n (lv' := [(2, .int 0), (0, .ref A_th), (1, .int n1)]) C dX11_which_38 rfl (by decide) rfl ?_
    refine Wb.lv (lv' := [(0, .ref A_th), (1, .int n1), (2, .int 0)]) ?_ [1, 2, 0] rfl
    refine wl5_W (Wg := fun (x9 : Int32) (z10 : Int32) (z11 : Int32) (z12 : Int32) (f13 : (Nat → Int32)) => Wb x [(A_th, oO 10 [.int 0, V_th_text, V_th_textSize, V_th_readPage, .ref A_th_page, V_th_trial, V_th_book, V_th_doings, V_th_kept, V_th_isKept, .int th_seen, .ref A_th_seenPlace, .ref A_th_seenDigit, .ref A_th_seenIs, V_th_seed, .ref A_th_plan, .ref A_th_good, .ref A_th_bad, .ref A_th_signs, .int z10, .ref A_th_digits, V_th_isNode, V_th_base, V_th_slot, .int z11, .int z12, V_th_value]), (A_th_page, iA g 22 th_page), (A_th_plan, iA g 1372 f3), (A_th_signs, iA g 8 f13), (A_th_digits, iA g 36 f5), (A_th_good, iA g 1372 f6), (A_th_bad, iA g 1372 f7), (A_th_seenPlace, iA g 6 th_seenPlace), (A_th_seenDigit, iA g 6 th_seenDigit), (A_th_seenIs, iA g 6 th_seenIs)] [(0, .ref A_th), (1, .int n1), (2, .int x9)] 39 []) ?_ F 0 z2 0 (-9) f4 hm
    intro x9 z10 z11 z12 f13 c8 hc8 hm
    refine b_iload_n C dX11_which_39 rfl 2 rfl ?_
    refine b_bipush (v := 125) C dX11_which_40 (by decide) ?_
    refine b_icmp_ge (tgt := 204) C dX11_which_42 (by decide) hm (fun hm => ?_) (fun hm => ?_)
    · refine b_iload_n C dX11_which_204 rfl 1 rfl ?_
      refine b_if_ne (tgt := 215) C dX11_which_205 (by decide) hm (fun hm => ?_) (fun hm => ?_)
      · refine b_aload_n C dX11_which_215 rfl 0 rfl ?_
        refine gfX11_265 C 0 rfl rfl dX11_which_216 ?_
        cases hm
        exact b_iret C dX11_which_219
      · refine b_aload_n C dX11_which_208 rfl 0 rfl ?_
        refine gfX11_262 C 0 rfl rfl dX11_which_209 ?_
        refine b_goto (tgt := 219) C dX11_which_212 (by decide) ?_
        cases hm
        exact b_iret C dX11_which_219
    · refine b_bipush (v := 100) C dX11_which_45 (by decide) ?_
      refine b_iload_n C dX11_which_47 rfl 2 rfl ?_
      refine b_bipush (v := 25) C dX11_which_48 (by decide) ?_
      refine b_idiv C dX11_which_50 (by decide) ?_
      refine b_iconst (v := 1) C dX11_which_51 (by decide) ?_
      refine b_iadd C dX11_which_52 ?_
      refine b_imul C dX11_which_53 ?_
      refine b_bipush (v := 10) C dX11_which_54 (by decide) ?_
      refine b_iload_n C dX11_which_56 rfl 2 rfl ?_
      refine b_iconst (v := 5) C dX11_which_57 (by decide) ?_
      refine b_idiv C dX11_which_58 (by decide) ?_
      refine b_iconst (v := 5) C dX11_which_59 (by decide) ?_
      refine b_irem C dX11_which_60 (by decide) ?_
      refine b_iconst (v := 1) C dX11_which_61 (by decide) ?_
      refine b_iadd C dX11_which_62 ?_
      refine b_imul C dX11_which_63 ?_
      refine b_iadd C dX11_which_64 ?_
      refine b_iload_n C dX11_which_65 rfl 2 rfl ?_
      refine b_iconst (v := 5) C dX11_which_66 (by decide) ?_
      refine b_irem C dX11_which_67 (by decide) ?_
      refine b_iadd C dX11_which_68 ?_
      refine b_iconst (v := 1) C dX11_which_69 (by decide) ?_
      refine b_iadd C dX11_which_70 ?_
      refine b_topi hm (fun x14 hm => ?_)
      refine b_istore_n (lv' := [(3, .int x14), (0, .ref A_th), (1, .int n1), (2, .int x9)]) C dX11_which_71 rfl (by decide) rfl ?_
      refine b_aload_n C dX11_which_72 rfl 1 rfl ?_
      refine b_iload_n C dX11_which_73 rfl 0 rfl ?_
      obtain ⟨z15, f16, hM, hm⟩ := bK2_some hm
      refine b_kV (w' := [(A_th, oO 10 [.int 0, V_th_text, V_th_textSize, V_th_readPage, .ref A_th_page, V_th_trial, V_th_book, V_th_doings, V_th_kept, V_th_isKept, .int th_seen, .ref A_th_seenPlace, .ref A_th_seenDigit, .ref A_th_seenIs, V_th_seed, .ref A_th_plan, .ref A_th_good, .ref A_th_bad, .ref A_th_signs, .int z15, .ref A_th_digits, V_th_isNode, V_th_base, V_th_slot, .int z11, .int z12, V_th_value]), (A_th_page, iA g 22 th_page), (A_th_plan, iA g 1372 f3), (A_th_signs, iA g 8 f16), (A_th_digits, iA g 36 f5), (A_th_good, iA g 1372 f6), (A_th_bad, iA g 1372 f7), (A_th_seenPlace, iA g 6 th_seenPlace), (A_th_seenDigit, iA g 6 th_seenDigit), (A_th_seenIs, iA g 6 th_seenIs)]) (st := []) (st2 := []) C cv_X11_laySigns tb975 (c_X11_laySigns l g A_th A_th_signs (.int 0) V_th_text V_th_textSize V_th_readPage (.ref A_th_page) V_th_trial V_th_book V_th_doings V_th_kept V_th_isKept (.int th_seen) (.ref A_th_seenPlace) (.ref A_th_seenDigit) (.ref A_th_seenIs) V_th_seed (.ref A_th_plan) (.ref A_th_good) (.ref A_th_bad) (.ref A_th_digits) V_th_isNode V_th_base V_th_slot (.int z11) (.int z12) V_th_value x14 z10 f13 F (z15, f16) hM) rfl 0 rfl rfl ⟨rfl, rfl, by decide, by decide⟩ (Nat.le_of_ble_eq_true rfl) [0, 3] rfl (by decide) rfl rfl dX11_which_74 [some 0, none, none, some 1, none, none, none, none, none, none] (by decide) ⟨⟨rfl, rfl⟩, ⟨rfl, ⟨rfl, ⟨⟨rfl, rfl⟩, ⟨rfl, ⟨rfl, ⟨rfl, ⟨rfl, ⟨rfl, ⟨rfl, trivial⟩⟩⟩⟩⟩⟩⟩⟩⟩⟩ rfl ?_
      refine b_iconst (v := 1) C dX11_which_77 (by decide) ?_
      refine b_istore (lv' := [(4, .int 1), (3, .int x14), (0, .ref A_th), (1, .int n1), (2, .int x9)]) C dX11_which_78 (by decide) rfl ?_
      refine b_iconst (v := 0) C dX11_which_80 (by decide) ?_
      refine b_istore (lv' := [(5, .int 0), (4, .int 1), (3, .int x14), (0, .ref A_th), (1, .int n1), (2, .int x9)]) C dX11_which_81 (by decide) rfl ?_
      refine Wb.lv (lv' := [(0, .ref A_th), (1, .int n1), (2, .int x9), (3, .int x14), (4, .int 1), (5, .int 0)]) ?_ [3, 4, 5, 2, 1, 0] rfl
      refine wl2_W (Wg := fun (x18 : Int32) (x19 : Int32) => Wb x [(A_th, oO 10 [.int 0, V_th_text, V_th_textSize, V_th_readPage, .ref A_th_page, V_th_trial, V_th_book, V_th_doings, V_th_kept, V_th_isKept, .int th_seen, .ref A_th_seenPlace, .ref A_th_seenDigit, .ref A_th_seenIs, V_th_seed, .ref A_th_plan, .ref A_th_good, .ref A_th_bad, .ref A_th_signs, .int z15, .ref A_th_digits, V_th_isNode, V_th_base, V_th_slot, .int z11, .int z12, V_th_value]), (A_th_page, iA g 22 th_page), (A_th_plan, iA g 1372 f3), (A_th_signs, iA g 8 f16), (A_th_digits, iA g 36 f5), (A_th_good, iA g 1372 f6), (A_th_bad, iA g 1372 f7), (A_th_seenPlace, iA g 6 th_seenPlace), (A_th_seenDigit, iA g 6 th_seenDigit), (A_th_seenIs, iA g 6 th_seenIs)] [(0, .ref A_th), (1, .int n1), (2, .int x9), (3, .int x14), (4, .int x18), (5, .int x19)] 83 []) ?_ F 1 0 hm
      intro x18 x19 c17 hc17 hm
      refine b_iload C dX11_which_83 5 rfl ?_
      refine b_aload_n C dX11_which_85 rfl 0 rfl ?_
      refine gfX11_186 C 0 rfl rfl dX11_which_86 ?_
      refine b_icmp_ge (tgt := 155) C dX11_which_89 (by decide) hm (fun hm => ?_) (fun hm => ?_)
      · refine b_aload_n C dX11_which_155 rfl 0 rfl ?_
        refine b_iload C dX11_which_156 4 rfl ?_
        obtain ⟨k21, hk21, hm⟩ := jn1_some hm
        have jk21 : ∀ (y20 : Int32), k21 y20 = some u → Wb x [(A_th, oO 10 [.int 0, V_th_text, V_th_textSize, V_th_readPage, .ref A_th_page, V_th_trial, V_th_book, V_th_doings, V_th_kept, V_th_isKept, .int th_seen, .ref A_th_seenPlace, .ref A_th_seenDigit, .ref A_th_seenIs, V_th_seed, .ref A_th_plan, .ref A_th_good, .ref A_th_bad, .ref A_th_signs, .int z15, .ref A_th_digits, V_th_isNode, V_th_base, V_th_slot, .int z11, .int z12, V_th_value]), (A_th_page, iA g 22 th_page), (A_th_plan, iA g 1372 f3), (A_th_signs, iA g 8 f16), (A_th_digits, iA g 36 f5), (A_th_good, iA g 1372 f6), (A_th_bad, iA g 1372 f7), (A_th_seenPlace, iA g 6 th_seenPlace), (A_th_seenDigit, iA g 6 th_seenDigit), (A_th_seenIs, iA g 6 th_seenIs)] [(0, .ref A_th), (1, .int n1), (2, .int x9), (4, .int x18)] 176 [.int y20, .ref A_th] := by
          intro y20 hm
          have hm := hk21 _ hm
          refine pfX11_265 (w' := [(A_th, oO 10 [.int 0, V_th_text, V_th_textSize, V_th_readPage, .ref A_th_page, V_th_trial, V_th_book, V_th_doings, V_th_kept, V_th_isKept, .int th_seen, .ref A_th_seenPlace, .ref A_th_seenDigit, .ref A_th_seenIs, V_th_seed, .ref A_th_plan, .ref A_th_good, .ref A_th_bad, .ref A_th_signs, .int z15, .ref A_th_digits, V_th_isNode, V_th_base, V_th_slot, .int z11, .int y20, V_th_value]), (A_th_page, iA g 22 th_page), (A_th_plan, iA g 1372 f3), (A_th_signs, iA g 8 f16), (A_th_digits, iA g 36 f5), (A_th_good, iA g 1372 f6), (A_th_bad, iA g 1372 f7), (A_th_seenPlace, iA g 6 th_seenPlace), (A_th_seenDigit, iA g 6 th_seenDigit), (A_th_seenIs, iA g 6 th_seenIs)]) C rfl rfl 0 rfl (Nat.le_of_ble_eq_true rfl) dX11_which_176 rfl ?_
          refine b_aload_n C dX11_which_179 rfl 0 rfl ?_
          refine b_dup C dX11_which_180 rfl ?_
          refine gfX11_262 C 0 rfl rfl dX11_which_181 ?_
          refine b_iload C dX11_which_184 3 rfl ?_
          obtain ⟨k23, hk23, hm⟩ := jn1_some hm
          have jk23 : ∀ (y22 : Int32), k23 y22 = some u → Wb x [(A_th, oO 10 [.int 0, V_th_text, V_th_textSize, V_th_readPage, .ref A_th_page, V_th_trial, V_th_book, V_th_doings, V_th_kept, V_th_isKept, .int th_seen, .ref A_th_seenPlace, .ref A_th_seenDigit, .ref A_th_seenIs, V_th_seed, .ref A_th_plan, .ref A_th_good, .ref A_th_bad, .ref A_th_signs, .int z15, .ref A_th_digits, V_th_isNode, V_th_base, V_th_slot, .int z11, .int y20, V_th_value]), (A_th_page, iA g 22 th_page), (A_th_plan, iA g 1372 f3), (A_th_signs, iA g 8 f16), (A_th_digits, iA g 36 f5), (A_th_good, iA g 1372 f6), (A_th_bad, iA g 1372 f7), (A_th_seenPlace, iA g 6 th_seenPlace), (A_th_seenDigit, iA g 6 th_seenDigit), (A_th_seenIs, iA g 6 th_seenIs)] [(0, .ref A_th), (1, .int n1), (2, .int x9)] 194 [.int y22, .int z11, .ref A_th] := by
            intro y22 hm
            have hm := hk23 _ hm
            refine b_iadd C dX11_which_194 ?_
            refine b_topi hm (fun z24 hm => ?_)
            refine pfX11_262 (w' := [(A_th, oO 10 [.int 0, V_th_text, V_th_textSize, V_th_readPage, .ref A_th_page, V_th_trial, V_th_book, V_th_doings, V_th_kept, V_th_isKept, .int th_seen, .ref A_th_seenPlace, .ref A_th_seenDigit, .ref A_th_seenIs, V_th_seed, .ref A_th_plan, .ref A_th_good, .ref A_th_bad, .ref A_th_signs, .int z15, .ref A_th_digits, V_th_isNode, V_th_base, V_th_slot, .int z24, .int y20, V_th_value]), (A_th_page, iA g 22 th_page), (A_th_plan, iA g 1372 f3), (A_th_signs, iA g 8 f16), (A_th_digits, iA g 36 f5), (A_th_good, iA g 1372 f6), (A_th_bad, iA g 1372 f7), (A_th_seenPlace, iA g 6 th_seenPlace), (A_th_seenDigit, iA g 6 th_seenDigit), (A_th_seenIs, iA g 6 th_seenIs)]) C rfl rfl 0 rfl (Nat.le_of_ble_eq_true rfl) dX11_which_195 rfl ?_
            refine b_iinc (v2 := x9 + 1) (lv' := [(2, .int (x9 + 1)), (0, .ref A_th), (1, .int n1)]) C dX11_which_198 2 rfl rfl (by decide) rfl ?_
            refine b_goto (tgt := 39) C dX11_which_201 (by decide) ?_
            exact Wb.lv (hc8 (x9 + 1) z15 z24 y20 f16 hm) [1, 2, 0] rfl
          refine b_if_eq (tgt := 193) C dX11_which_186 (by decide) hm (fun hm => ?_) (fun hm => ?_)
          · refine b_iconst (v := 0) C dX11_which_193 (by decide) ?_
            exact Wb.lv (jk23 0 hm) [0, 1, 2] rfl
          · refine b_iconst (v := 1) C dX11_which_189 (by decide) ?_
            refine b_goto (tgt := 194) C dX11_which_190 (by decide) ?_
            exact Wb.lv (jk23 1 hm) [0, 1, 2] rfl
        obtain ⟨k25, hk25, hm⟩ := jn0_some hm
        have jk25 : k25  = some u → Wb x [(A_th, oO 10 [.int 0, V_th_text, V_th_textSize, V_th_readPage, .ref A_th_page, V_th_trial, V_th_book, V_th_doings, V_th_kept, V_th_isKept, .int th_seen, .ref A_th_seenPlace, .ref A_th_seenDigit, .ref A_th_seenIs, V_th_seed, .ref A_th_plan, .ref A_th_good, .ref A_th_bad, .ref A_th_signs, .int z15, .ref A_th_digits, V_th_isNode, V_th_base, V_th_slot, .int z11, .int z12, V_th_value]), (A_th_page, iA g 22 th_page), (A_th_plan, iA g 1372 f3), (A_th_signs, iA g 8 f16), (A_th_digits, iA g 36 f5), (A_th_good, iA g 1372 f6), (A_th_bad, iA g 1372 f7), (A_th_seenPlace, iA g 6 th_seenPlace), (A_th_seenDigit, iA g 6 th_seenDigit), (A_th_seenIs, iA g 6 th_seenIs)] [(0, .ref A_th), (1, .int n1), (2, .int x9), (4, .int x18)] 172 [.ref A_th] := by
          intro  hm
          have hm := hk25 hm
          refine b_aload_n C dX11_which_172 rfl 0 rfl ?_
          refine gfX11_265 C 0 rfl rfl dX11_which_173 ?_
          exact Wb.lv (jk21 z12 hm) [0, 1, 2, 3] rfl
        refine b_if_eq (tgt := 172) C dX11_which_158 (by decide) hm (fun hm => ?_) (fun hm => ?_)
        · exact Wb.lv (jk25  hm) [0, 1, 2, 4] rfl
        · refine b_aload_n C dX11_which_161 rfl 0 rfl ?_
          refine gfX11_262 C 0 rfl rfl dX11_which_162 ?_
          refine b_if_ne (tgt := 172) C dX11_which_165 (by decide) hm (fun hm => ?_) (fun hm => ?_)
          · exact Wb.lv (jk25  hm) [0, 1, 2, 4] rfl
          · refine b_iload_n C dX11_which_168 rfl 3 rfl ?_
            refine b_goto (tgt := 176) C dX11_which_169 (by decide) ?_
            exact Wb.lv (jk21 x14 hm) [0, 1, 2, 4] rfl
      · refine b_iload C dX11_which_92 4 rfl ?_
        obtain ⟨k27, hk27, hm⟩ := jn1_some hm
        have jk27 : ∀ (y26 : Int32), k27 y26 = some u → Wb x [(A_th, oO 10 [.int 0, V_th_text, V_th_textSize, V_th_readPage, .ref A_th_page, V_th_trial, V_th_book, V_th_doings, V_th_kept, V_th_isKept, .int th_seen, .ref A_th_seenPlace, .ref A_th_seenDigit, .ref A_th_seenIs, V_th_seed, .ref A_th_plan, .ref A_th_good, .ref A_th_bad, .ref A_th_signs, .int z15, .ref A_th_digits, V_th_isNode, V_th_base, V_th_slot, .int z11, .int z12, V_th_value]), (A_th_page, iA g 22 th_page), (A_th_plan, iA g 1372 f3), (A_th_signs, iA g 8 f16), (A_th_digits, iA g 36 f5), (A_th_good, iA g 1372 f6), (A_th_bad, iA g 1372 f7), (A_th_seenPlace, iA g 6 th_seenPlace), (A_th_seenDigit, iA g 6 th_seenDigit), (A_th_seenIs, iA g 6 th_seenIs)] [(0, .ref A_th), (1, .int n1), (2, .int x9), (3, .int x14), (5, .int x19)] 147 [.int y26] := by
          intro y26 hm
          have hm := hk27 _ hm
          refine b_istore (lv' := [(4, .int y26), (0, .ref A_th), (1, .int n1), (2, .int x9), (3, .int x14), (5, .int x19)]) C dX11_which_147 (by decide) rfl ?_
          refine b_iinc (v2 := x19 + 1) (lv' := [(5, .int (x19 + 1)), (4, .int y26), (0, .ref A_th), (1, .int n1), (2, .int x9), (3, .int x14)]) C dX11_which_149 5 rfl rfl (by decide) rfl ?_
          refine b_goto (tgt := 83) C dX11_which_152 (by decide) ?_
          exact Wb.lv (hc17 y26 (x19 + 1) hm) [2, 3, 4, 5, 1, 0] rfl
        obtain ⟨k28, hk28, hm⟩ := jn0_some hm
        have jk28 : k28  = some u → Wb x [(A_th, oO 10 [.int 0, V_th_text, V_th_textSize, V_th_readPage, .ref A_th_page, V_th_trial, V_th_book, V_th_doings, V_th_kept, V_th_isKept, .int th_seen, .ref A_th_seenPlace, .ref A_th_seenDigit, .ref A_th_seenIs, V_th_seed, .ref A_th_plan, .ref A_th_good, .ref A_th_bad, .ref A_th_signs, .int z15, .ref A_th_digits, V_th_isNode, V_th_base, V_th_slot, .int z11, .int z12, V_th_value]), (A_th_page, iA g 22 th_page), (A_th_plan, iA g 1372 f3), (A_th_signs, iA g 8 f16), (A_th_digits, iA g 36 f5), (A_th_good, iA g 1372 f6), (A_th_bad, iA g 1372 f7), (A_th_seenPlace, iA g 6 th_seenPlace), (A_th_seenDigit, iA g 6 th_seenDigit), (A_th_seenIs, iA g 6 th_seenIs)] [(0, .ref A_th), (1, .int n1), (2, .int x9), (3, .int x14), (5, .int x19)] 146 [] := by
          intro  hm
          have hm := hk28 hm
          refine b_iconst (v := 0) C dX11_which_146 (by decide) ?_
          exact Wb.lv (jk27 0 hm) [0, 1, 2, 3, 4] rfl
        refine b_if_eq (tgt := 146) C dX11_which_94 (by decide) hm (fun hm => ?_) (fun hm => ?_)
        · exact Wb.lv (jk28  hm) [0, 1, 2, 3, 5] rfl
        · refine b_aload_n C dX11_which_97 rfl 0 rfl ?_
          refine b_aload_n C dX11_which_98 rfl 0 rfl ?_
          refine gfX11_32 C 0 rfl rfl dX11_which_99 ?_
          refine b_iload C dX11_which_102 5 rfl ?_
          refine b_iald C 7 rfl dX11_which_104 hm (fun v29 hm => ?_)
          obtain ⟨r30, hM, hm⟩ := bK1_some hm
          refine b_kV (w' := [(A_th, oO 10 [.int 0, V_th_text, V_th_textSize, V_th_readPage, .ref A_th_page, V_th_trial, V_th_book, V_th_doings, V_th_kept, V_th_isKept, .int th_seen, .ref A_th_seenPlace, .ref A_th_seenDigit, .ref A_th_seenIs, V_th_seed, .ref A_th_plan, .ref A_th_good, .ref A_th_bad, .ref A_th_signs, .int z15, .ref A_th_digits, V_th_isNode, V_th_base, V_th_slot, .int z11, .int z12, V_th_value]), (A_th_page, iA g 22 th_page), (A_th_plan, iA g 1372 f3), (A_th_signs, iA g 8 f16), (A_th_digits, iA g 36 f5), (A_th_good, iA g 1372 f6), (A_th_bad, iA g 1372 f7), (A_th_seenPlace, iA g 6 th_seenPlace), (A_th_seenDigit, iA g 6 th_seenDigit), (A_th_seenIs, iA g 6 th_seenIs)]) (st := []) (st2 := [.int r30]) C cv_X11_digitAt tb982 (c_X11_digitAt l g A_th A_th_signs A_th_plan (.int 0) V_th_text V_th_textSize V_th_readPage (.ref A_th_page) V_th_trial V_th_book V_th_doings V_th_kept V_th_isKept (.int th_seen) (.ref A_th_seenPlace) (.ref A_th_seenDigit) (.ref A_th_seenIs) V_th_seed (.ref A_th_good) (.ref A_th_bad) (.ref A_th_digits) V_th_isNode V_th_base V_th_slot (.int z11) (.int z12) V_th_value v29 z15 f16 f3 F r30 hM) rfl 0 rfl rfl ⟨rfl, rfl, by decide, by decide⟩ (Nat.le_of_ble_eq_true rfl) [0, 3, 2] rfl (by decide) rfl rfl dX11_which_105 [some 0, none, some 2, some 1, none, none, none, none, none, none] (by decide) ⟨⟨rfl, rfl⟩, ⟨rfl, ⟨⟨rfl, rfl⟩, ⟨⟨rfl, rfl⟩, ⟨rfl, ⟨rfl, ⟨rfl, ⟨rfl, ⟨rfl, ⟨rfl, trivial⟩⟩⟩⟩⟩⟩⟩⟩⟩⟩ rfl ?_
          refine b_aload_n C dX11_which_108 rfl 0 rfl ?_
          refine gfX11_35 C 0 rfl rfl dX11_which_109 ?_
          refine b_iload C dX11_which_112 5 rfl ?_
          refine b_iald C 8 rfl dX11_which_114 hm (fun v31 hm => ?_)
          obtain ⟨k33, hk33, hm⟩ := jn1_some hm
          have jk33 : ∀ (y32 : Int32), k33 y32 = some u → Wb x [(A_th, oO 10 [.int 0, V_th_text, V_th_textSize, V_th_readPage, .ref A_th_page, V_th_trial, V_th_book, V_th_doings, V_th_kept, V_th_isKept, .int th_seen, .ref A_th_seenPlace, .ref A_th_seenDigit, .ref A_th_seenIs, V_th_seed, .ref A_th_plan, .ref A_th_good, .ref A_th_bad, .ref A_th_signs, .int z15, .ref A_th_digits, V_th_isNode, V_th_base, V_th_slot, .int z11, .int z12, V_th_value]), (A_th_page, iA g 22 th_page), (A_th_plan, iA g 1372 f3), (A_th_signs, iA g 8 f16), (A_th_digits, iA g 36 f5), (A_th_good, iA g 1372 f6), (A_th_bad, iA g 1372 f7), (A_th_seenPlace, iA g 6 th_seenPlace), (A_th_seenDigit, iA g 6 th_seenDigit), (A_th_seenIs, iA g 6 th_seenIs)] [(0, .ref A_th), (1, .int n1), (2, .int x9), (3, .int x14), (5, .int x19)] 123 [.int y32] := by
            intro y32 hm
            have hm := hk33 _ hm
            refine b_aload_n C dX11_which_123 rfl 0 rfl ?_
            refine gfX11_38 C 0 rfl rfl dX11_which_124 ?_
            refine b_iload C dX11_which_127 4 rfl ?_
            refine b_iald C 9 rfl dX11_which_129 hm (fun v34 hm => ?_)
            refine b_iconst (v := 1) C dX11_which_130 (by decide) ?_
            obtain ⟨k36, hk36, hm⟩ := jn1_some hm
            have jk36 : ∀ (y35 : Int32), k36 y35 = some u → Wb x [(A_th, oO 10 [.int 0, V_th_text, V_th_textSize, V_th_readPage, .ref A_th_page, V_th_trial, V_th_book, V_th_doings, V_th_kept, V_th_isKept, .int th_seen, .ref A_th_seenPlace, .ref A_th_seenDigit, .ref A_th_seenIs, V_th_seed, .ref A_th_plan, .ref A_th_good, .ref A_th_bad, .ref A_th_signs, .int z15, .ref A_th_digits, V_th_isNode, V_th_base, V_th_slot, .int z11, .int z12, V_th_value]), (A_th_page, iA g 22 th_page), (A_th_plan, iA g 1372 f3), (A_th_signs, iA g 8 f16), (A_th_digits, iA g 36 f5), (A_th_good, iA g 1372 f6), (A_th_bad, iA g 1372 f7), (A_th_seenPlace, iA g 6 th_seenPlace), (A_th_seenDigit, iA g 6 th_seenDigit), (A_th_seenIs, iA g 6 th_seenIs)] [(0, .ref A_th), (1, .int n1), (2, .int x9), (3, .int x14), (5, .int x19)] 139 [.int y35, .int y32] := by
              intro y35 hm
              have hm := hk36 _ hm
              refine b_icmp_ne (tgt := 146) C dX11_which_139 (by decide) hm (fun hm => ?_) (fun hm => ?_)
              · exact Wb.lv (jk28  hm) [0, 1, 2, 3, 4] rfl
              · refine b_iconst (v := 1) C dX11_which_142 (by decide) ?_
                refine b_goto (tgt := 147) C dX11_which_143 (by decide) ?_
                exact Wb.lv (jk27 1 hm) [0, 1, 2, 3, 4] rfl
            refine b_icmp_ne (tgt := 138) C dX11_which_131 (by decide) hm (fun hm => ?_) (fun hm => ?_)
            · refine b_iconst (v := 0) C dX11_which_138 (by decide) ?_
              exact Wb.lv (jk36 0 hm) [0, 1, 2, 3, 4] rfl
            · refine b_iconst (v := 1) C dX11_which_134 (by decide) ?_
              refine b_goto (tgt := 139) C dX11_which_135 (by decide) ?_
              exact Wb.lv (jk36 1 hm) [0, 1, 2, 3, 4] rfl
          refine b_icmp_ne (tgt := 122) C dX11_which_115 (by decide) hm (fun hm => ?_) (fun hm => ?_)
          · refine b_iconst (v := 0) C dX11_which_122 (by decide) ?_
            exact Wb.lv (jk33 0 hm) [0, 1, 2, 3, 5] rfl
          · refine b_iconst (v := 1) C dX11_which_118 (by decide) ?_
            refine b_goto (tgt := 123) C dX11_which_119 (by decide) ?_
            exact Wb.lv (jk33 1 hm) [0, 1, 2, 3, 5] rfl
  · refine b_bipush (v := (-2)) C dX11_which_15 (by decide) ?_
    cases hm
    exact b_iret C dX11_which_17
/-- BreakLearnerModel.lost(IIZ)I -/
def m_X11_lost (F : Nat)  (n1 : Int32) (n2 : Int32) (n3 : Int32) (th_thrown : Int32) (th_signMany : Int32) (th_page : (Nat → Int32)) (th_plan : (Nat → Int32)) (th_signs : (Nat → Int32)) (th_digits : (Nat → Int32)) (th_good : (Nat → Int32)) (th_bad : (Nat → Int32)) (th_value : (Nat → Int32)) : Option (Int32 × Int32 × Int32 × (Nat → Int32) × (Nat → Int32) × (Nat → Int32) × (Nat → Int32) × (Nat → Int32) × (Nat → Int32)) :=
  bK1 (m_X11_in F n1.toInt64 0 30) (fun r1 =>
  if r1 = 0 then
    some ((-2), 0, th_signMany, th_plan, th_signs, th_digits, th_good, th_bad, th_value)
  else
    bK1 (m_X11_in F n2.toInt64 0 10) (fun r2 =>
    if r2 = 0 then
      some ((-2), 0, th_signMany, th_plan, th_signs, th_digits, th_good, th_bad, th_value)
    else
      rdK 22 th_page 0 (fun v3 =>
      bK7 (m_X11_layValues F th_signMany th_page th_plan th_signs th_digits th_good th_bad th_value) (fun z4 f5 f6 f7 f8 f9 f10 =>
      wl2 (fun (x12 : Int32) (x13 : Int32) c11 =>
        if (1 <<< (v3 &&& 31)) ≤ x13 then
          bK1 (m_X11_power F 10 v3) (fun r14 =>
          bK1 (m_X11_fraction F x12 r14 n3) (fun r15 =>
          some (r15, 0, z4, f5, f6, f7, f8, f9, f10)
          )
          )
        else
          bK1 (m_X11_many F x13) (fun r16 =>
          rdK 64 f10 x13 (fun v17 =>
          jn1 (fun (y18 : Int32) =>
            letK (x12 + y18) (fun x20 =>
            c11 x20 (x13 + 1)
            )
            ) (fun k19 =>
            if v17 < n1 then
              k19 0
            else
              bK1 (m_X11_power F (10 - n2) r16) (fun r21 =>
              bK1 (m_X11_power F n2 (v3 - r16)) (fun r22 =>
              k19 (r21 * r22)
              )
              )
            )
          )
          )
        ) F 0 0
      )
      )
    )
  )
abbrev rmX11_lost : Room := { frames := 6, cells := 0, slots := 0, locals := 149 }
set_option maxHeartbeats 4000000 in
set_option maxRecDepth 100000 in
theorem c_X11_lost (l : Launch) (g : Gl) (A_th A_th_page A_th_plan A_th_signs A_th_digits A_th_good A_th_bad A_th_value : Nat) (V_th_text V_th_textSize V_th_readPage V_th_trial V_th_book V_th_doings V_th_kept V_th_isKept V_th_seen V_th_seenPlace V_th_seenDigit V_th_seenIs V_th_seed V_th_isNode V_th_base V_th_slot V_th_whichMany V_th_whichFirst : Value)  (n1 : Int32) (n2 : Int32) (n3 : Int32) (th_thrown : Int32) (th_signMany : Int32) (th_page : (Nat → Int32)) (th_plan : (Nat → Int32)) (th_signs : (Nat → Int32)) (th_digits : (Nat → Int32)) (th_good : (Nat → Int32)) (th_bad : (Nat → Int32)) (th_value : (Nat → Int32)) (F : Nat) (u : Int32 × Int32 × Int32 × (Nat → Int32) × (Nat → Int32) × (Nat → Int32) × (Nat → Int32) × (Nat → Int32) × (Nat → Int32)) (hm : m_X11_lost F n1 n2 n3 th_thrown th_signMany th_page th_plan th_signs th_digits th_good th_bad th_value = some u) : Ct l g yX11_lost cX11_lost 8 (some .int) rmX11_lost [.ref A_th, .int n1, .int n2, .int n3] [(A_th, oO 10 [.int th_thrown, V_th_text, V_th_textSize, V_th_readPage, .ref A_th_page, V_th_trial, V_th_book, V_th_doings, V_th_kept, V_th_isKept, V_th_seen, V_th_seenPlace, V_th_seenDigit, V_th_seenIs, V_th_seed, .ref A_th_plan, .ref A_th_good, .ref A_th_bad, .ref A_th_signs, .int th_signMany, .ref A_th_digits, V_th_isNode, V_th_base, V_th_slot, V_th_whichMany, V_th_whichFirst, .ref A_th_value]), (A_th_page, iA g 22 th_page), (A_th_plan, iA g 1372 th_plan), (A_th_signs, iA g 8 th_signs), (A_th_digits, iA g 36 th_digits), (A_th_good, iA g 1372 th_good), (A_th_bad, iA g 1372 th_bad), (A_th_value, iA g 64 th_value)] (some (.int u.1)) [(A_th, oO 10 [.int u.2.1, V_th_text, V_th_textSize, V_th_readPage, .ref A_th_page, V_th_trial, V_th_book, V_th_doings, V_th_kept, V_th_isKept, V_th_seen, V_th_seenPlace, V_th_seenDigit, V_th_seenIs, V_th_seed, .ref A_th_plan, .ref A_th_good, .ref A_th_bad, .ref A_th_signs, .int u.2.2.1, .ref A_th_digits, V_th_isNode, V_th_base, V_th_slot, V_th_whichMany, V_th_whichFirst, .ref A_th_value]), (A_th_page, iA g 22 th_page), (A_th_plan, iA g 1372 u.2.2.2.1), (A_th_signs, iA g 8 u.2.2.2.2.1), (A_th_digits, iA g 36 u.2.2.2.2.2.1), (A_th_good, iA g 1372 u.2.2.2.2.2.2.1), (A_th_bad, iA g 1372 u.2.2.2.2.2.2.2.1), (A_th_value, iA g 64 u.2.2.2.2.2.2.2.2)] := by
  refine ent (own := RX11) (lv := [(0, .ref A_th), (1, .int n1), (2, .int n2), (3, .int n3)]) (by decide) rfl (Nat.le_of_ble_eq_true rfl) rfl rfl ?_
  intro x C
  unfold m_X11_lost at hm
  refine b_aload_n C dX11_lost_0 rfl 0 rfl ?_
  refine b_iconst (v := 0) C dX11_lost_1 (by decide) ?_
  refine pfX11_68 (w' := [(A_th, oO 10 [.int 0, V_th_text, V_th_textSize, V_th_readPage, .ref A_th_page, V_th_trial, V_th_book, V_th_doings, V_th_kept, V_th_isKept, V_th_seen, V_th_seenPlace, V_th_seenDigit, V_th_seenIs, V_th_seed, .ref A_th_plan, .ref A_th_good, .ref A_th_bad, .ref A_th_signs, .int th_signMany, .ref A_th_digits, V_th_isNode, V_th_base, V_th_slot, V_th_whichMany, V_th_whichFirst, .ref A_th_value]), (A_th_page, iA g 22 th_page), (A_th_plan, iA g 1372 th_plan), (A_th_signs, iA g 8 th_signs), (A_th_digits, iA g 36 th_digits), (A_th_good, iA g 1372 th_good), (A_th_bad, iA g 1372 th_bad), (A_th_value, iA g 64 th_value)]) C rfl rfl 0 rfl (Nat.le_of_ble_eq_true rfl) dX11_lost_2 rfl ?_
  refine b_iload_n C dX11_lost_5 rfl 1 rfl ?_
  refine b_i2l C dX11_lost_6 ?_
  refine b_lconst (v := 0) C dX11_lost_7 (by decide) ?_
  refine b_ldc2 C tb1212 dX11_lost_8 ?_
  obtain ⟨r1, hM, hm⟩ := bK1_some hm
  refine b_kS (w' := [(A_th, oO 10 [.int 0, V_th_text, V_th_textSize, V_th_readPage, .ref A_th_page, V_th_trial, V_th_book, V_th_doings, V_th_kept, V_th_isKept, V_th_seen, V_th_seenPlace, V_th_seenDigit, V_th_seenIs, V_th_seed, .ref A_th_plan, .ref A_th_good, .ref A_th_bad, .ref A_th_signs, .int th_signMany, .ref A_th_digits, V_th_isNode, V_th_base, V_th_slot, V_th_whichMany, V_th_whichFirst, .ref A_th_value]), (A_th_page, iA g 22 th_page), (A_th_plan, iA g 1372 th_plan), (A_th_signs, iA g 8 th_signs), (A_th_digits, iA g 36 th_digits), (A_th_good, iA g 1372 th_good), (A_th_bad, iA g 1372 th_bad), (A_th_value, iA g 64 th_value)]) (st := []) (st2 := [.int r1]) C cs_X11_in tb937 (c_X11_in l g n1.toInt64 0 30 F r1 hM) rfl ⟨rfl, rfl, by decide, by decide⟩ (Nat.le_of_ble_eq_true rfl) [] rfl (by decide) rfl rfl dX11_lost_11 [none, none, none, none, none, none, none, none] (by decide) ⟨rfl, ⟨rfl, ⟨rfl, ⟨rfl, ⟨rfl, ⟨rfl, ⟨rfl, ⟨rfl, trivial⟩⟩⟩⟩⟩⟩⟩⟩ rfl ?_
  refine b_if_eq (tgt := 29) C dX11_lost_14 (by decide) hm (fun hm => ?_) (fun hm => ?_)
  · refine b_bipush (v := (-2)) C dX11_lost_29 (by decide) ?_
    cases hm
    exact b_iret C dX11_lost_31
  · refine b_iload_n C dX11_lost_17 rfl 2 rfl ?_
    refine b_i2l C dX11_lost_18 ?_
    refine b_lconst (v := 0) C dX11_lost_19 (by decide) ?_
    refine b_ldc2 C tb1213 dX11_lost_20 ?_
    obtain ⟨r2, hM, hm⟩ := bK1_some hm
    refine b_kS (w' := [(A_th, oO 10 [.int 0, V_th_text, V_th_textSize, V_th_readPage, .ref A_th_page, V_th_trial, V_th_book, V_th_doings, V_th_kept, V_th_isKept, V_th_seen, V_th_seenPlace, V_th_seenDigit, V_th_seenIs, V_th_seed, .ref A_th_plan, .ref A_th_good, .ref A_th_bad, .ref A_th_signs, .int th_signMany, .ref A_th_digits, V_th_isNode, V_th_base, V_th_slot, V_th_whichMany, V_th_whichFirst, .ref A_th_value]), (A_th_page, iA g 22 th_page), (A_th_plan, iA g 1372 th_plan), (A_th_signs, iA g 8 th_signs), (A_th_digits, iA g 36 th_digits), (A_th_good, iA g 1372 th_good), (A_th_bad, iA g 1372 th_bad), (A_th_value, iA g 64 th_value)]) (st := []) (st2 := [.int r2]) C cs_X11_in tb937 (c_X11_in l g n2.toInt64 0 10 F r2 hM) rfl ⟨rfl, rfl, by decide, by decide⟩ (Nat.le_of_ble_eq_true rfl) [] rfl (by decide) rfl rfl dX11_lost_23 [none, none, none, none, none, none, none, none] (by decide) ⟨rfl, ⟨rfl, ⟨rfl, ⟨rfl, ⟨rfl, ⟨rfl, ⟨rfl, ⟨rfl, trivial⟩⟩⟩⟩⟩⟩⟩⟩ rfl ?_
    refine b_if_ne (tgt := 32) C dX11_lost_26 (by decide) hm (fun hm => ?_) (fun hm => ?_)
    · refine b_aload_n C dX11_lost_32 rfl 0 rfl ?_
      refine gfX11_16 C 0 rfl rfl dX11_lost_33 ?_
      refine b_iconst (v := 0) C dX11_lost_36 (by decide) ?_
      refine b_iald C 1 rfl dX11_lost_37 hm (fun v3 hm => ?_)
      refine b_istore (lv' := [(4, .int v3), (0, .ref A_th), (1, .int n1), (2, .int n2), (3, .int n3)]) C dX11_lost_38 (by decide) rfl ?_
      refine b_aload_n C dX11_lost_40 rfl 1 rfl ?_
      obtain ⟨z4, f5, f6, f7, f8, f9, f10, hM, hm⟩ := bK7_some hm
      refine b_kV (w' := [(A_th, oO 10 [.int 0, V_th_text, V_th_textSize, V_th_readPage, .ref A_th_page, V_th_trial, V_th_book, V_th_doings, V_th_kept, V_th_isKept, V_th_seen, V_th_seenPlace, V_th_seenDigit, V_th_seenIs, V_th_seed, .ref A_th_plan, .ref A_th_good, .ref A_th_bad, .ref A_th_signs, .int z4, .ref A_th_digits, V_th_isNode, V_th_base, V_th_slot, V_th_whichMany, V_th_whichFirst, .ref A_th_value]), (A_th_page, iA g 22 th_page), (A_th_plan, iA g 1372 f5), (A_th_signs, iA g 8 f6), (A_th_digits, iA g 36 f7), (A_th_good, iA g 1372 f8), (A_th_bad, iA g 1372 f9), (A_th_value, iA g 64 f10)]) (st := []) (st2 := []) C cv_X11_layValues tb1180 (c_X11_layValues l g A_th A_th_page A_th_plan A_th_signs A_th_digits A_th_good A_th_bad A_th_value (.int 0) V_th_text V_th_textSize V_th_readPage V_th_trial V_th_book V_th_doings V_th_kept V_th_isKept V_th_seen V_th_seenPlace V_th_seenDigit V_th_seenIs V_th_seed V_th_isNode V_th_base V_th_slot V_th_whichMany V_th_whichFirst th_signMany th_page th_plan th_signs th_digits th_good th_bad th_value F (z4, f5, f6, f7, f8, f9, f10) hM) rfl 0 rfl rfl ⟨rfl, rfl, by decide, by decide⟩ (Nat.le_of_ble_eq_true rfl) [0, 1, 2, 3, 4, 5, 6, 7] rfl (by decide) rfl rfl dX11_lost_41 [some 0, some 1, some 2, some 3, some 4, some 5, some 6, some 7] (by decide) ⟨⟨rfl, rfl⟩, ⟨⟨rfl, rfl⟩, ⟨⟨rfl, rfl⟩, ⟨⟨rfl, rfl⟩, ⟨⟨rfl, rfl⟩, ⟨⟨rfl, rfl⟩, ⟨⟨rfl, rfl⟩, ⟨⟨rfl, rfl⟩, trivial⟩⟩⟩⟩⟩⟩⟩⟩ rfl ?_
      refine b_iconst (v := 0) C dX11_lost_44 (by decide) ?_
      refine b_istore (lv' := [(5, .int 0), (4, .int v3), (0, .ref A_th), (1, .int n1), (2, .int n2), (3, .int n3)]) C dX11_lost_45 (by decide) rfl ?_
      refine b_iconst (v := 0) C dX11_lost_47 (by decide) ?_
      refine b_istore (lv' := [(6, .int 0), (5, .int 0), (4, .int v3), (0, .ref A_th), (1, .int n1), (2, .int n2), (3, .int n3)]) C dX11_lost_48 (by decide) rfl ?_
      refine Wb.lv (lv' := [(0, .ref A_th), (1, .int n1), (2, .int n2), (3, .int n3), (4, .int v3), (5, .int 0), (6, .int 0)]) ?_ [3, 4, 5, 6, 2, 1, 0] rfl
      refine wl2_W (Wg := fun (x12 : Int32) (x13 : Int32) => Wb x [(A_th, oO 10 [.int 0, V_th_text, V_th_textSize, V_th_readPage, .ref A_th_page, V_th_trial, V_th_book, V_th_doings, V_th_kept, V_th_isKept, V_th_seen, V_th_seenPlace, V_th_seenDigit, V_th_seenIs, V_th_seed, .ref A_th_plan, .ref A_th_good, .ref A_th_bad, .ref A_th_signs, .int z4, .ref A_th_digits, V_th_isNode, V_th_base, V_th_slot, V_th_whichMany, V_th_whichFirst, .ref A_th_value]), (A_th_page, iA g 22 th_page), (A_th_plan, iA g 1372 f5), (A_th_signs, iA g 8 f6), (A_th_digits, iA g 36 f7), (A_th_good, iA g 1372 f8), (A_th_bad, iA g 1372 f9), (A_th_value, iA g 64 f10)] [(0, .ref A_th), (1, .int n1), (2, .int n2), (3, .int n3), (4, .int v3), (5, .int x12), (6, .int x13)] 50 []) ?_ F 0 0 hm
      intro x12 x13 c11 hc11 hm
      refine b_iload C dX11_lost_50 6 rfl ?_
      refine b_iconst (v := 1) C dX11_lost_52 (by decide) ?_
      refine b_iload C dX11_lost_53 4 rfl ?_
      refine b_ishl C dX11_lost_55 ?_
      refine b_icmp_ge (tgt := 111) C dX11_lost_56 (by decide) hm (fun hm => ?_) (fun hm => ?_)
      · refine b_iload C dX11_lost_111 5 rfl ?_
        refine b_bipush (v := 10) C dX11_lost_113 (by decide) ?_
        refine b_iload C dX11_lost_115 4 rfl ?_
        obtain ⟨r14, hM, hm⟩ := bK1_some hm
        refine b_kS (w' := [(A_th, oO 10 [.int 0, V_th_text, V_th_textSize, V_th_readPage, .ref A_th_page, V_th_trial, V_th_book, V_th_doings, V_th_kept, V_th_isKept, V_th_seen, V_th_seenPlace, V_th_seenDigit, V_th_seenIs, V_th_seed, .ref A_th_plan, .ref A_th_good, .ref A_th_bad, .ref A_th_signs, .int z4, .ref A_th_digits, V_th_isNode, V_th_base, V_th_slot, V_th_whichMany, V_th_whichFirst, .ref A_th_value]), (A_th_page, iA g 22 th_page), (A_th_plan, iA g 1372 f5), (A_th_signs, iA g 8 f6), (A_th_digits, iA g 36 f7), (A_th_good, iA g 1372 f8), (A_th_bad, iA g 1372 f9), (A_th_value, iA g 64 f10)]) (st := [.int x12]) (st2 := [.int r14, .int x12]) C cs_X11_power tb1214 (c_X11_power l g 10 v3 F r14 hM) rfl ⟨rfl, rfl, by decide, by decide⟩ (Nat.le_of_ble_eq_true rfl) [] rfl (by decide) rfl rfl dX11_lost_117 [none, none, none, none, none, none, none, none] (by decide) ⟨rfl, ⟨rfl, ⟨rfl, ⟨rfl, ⟨rfl, ⟨rfl, ⟨rfl, ⟨rfl, trivial⟩⟩⟩⟩⟩⟩⟩⟩ rfl ?_
        refine b_iload_n C dX11_lost_120 rfl 3 rfl ?_
        obtain ⟨r15, hM, hm⟩ := bK1_some hm
        refine b_kS (w' := [(A_th, oO 10 [.int 0, V_th_text, V_th_textSize, V_th_readPage, .ref A_th_page, V_th_trial, V_th_book, V_th_doings, V_th_kept, V_th_isKept, V_th_seen, V_th_seenPlace, V_th_seenDigit, V_th_seenIs, V_th_seed, .ref A_th_plan, .ref A_th_good, .ref A_th_bad, .ref A_th_signs, .int z4, .ref A_th_digits, V_th_isNode, V_th_base, V_th_slot, V_th_whichMany, V_th_whichFirst, .ref A_th_value]), (A_th_page, iA g 22 th_page), (A_th_plan, iA g 1372 f5), (A_th_signs, iA g 8 f6), (A_th_digits, iA g 36 f7), (A_th_good, iA g 1372 f8), (A_th_bad, iA g 1372 f9), (A_th_value, iA g 64 f10)]) (st := []) (st2 := [.int r15]) C cs_X11_fraction tb1190 (c_X11_fraction l g x12 r14 n3 F r15 hM) rfl ⟨rfl, rfl, by decide, by decide⟩ (Nat.le_of_ble_eq_true rfl) [] rfl (by decide) rfl rfl dX11_lost_121 [none, none, none, none, none, none, none, none] (by decide) ⟨rfl, ⟨rfl, ⟨rfl, ⟨rfl, ⟨rfl, ⟨rfl, ⟨rfl, ⟨rfl, trivial⟩⟩⟩⟩⟩⟩⟩⟩ rfl ?_
        cases hm
        exact b_iret C dX11_lost_124
      · refine b_iload C dX11_lost_59 6 rfl ?_
        obtain ⟨r16, hM, hm⟩ := bK1_some hm
        refine b_kS (w' := [(A_th, oO 10 [.int 0, V_th_text, V_th_textSize, V_th_readPage, .ref A_th_page, V_th_trial, V_th_book, V_th_doings, V_th_kept, V_th_isKept, V_th_seen, V_th_seenPlace, V_th_seenDigit, V_th_seenIs, V_th_seed, .ref A_th_plan, .ref A_th_good, .ref A_th_bad, .ref A_th_signs, .int z4, .ref A_th_digits, V_th_isNode, V_th_base, V_th_slot, V_th_whichMany, V_th_whichFirst, .ref A_th_value]), (A_th_page, iA g 22 th_page), (A_th_plan, iA g 1372 f5), (A_th_signs, iA g 8 f6), (A_th_digits, iA g 36 f7), (A_th_good, iA g 1372 f8), (A_th_bad, iA g 1372 f9), (A_th_value, iA g 64 f10)]) (st := []) (st2 := [.int r16]) C cs_X11_many tb1184 (c_X11_many l g x13 F r16 hM) rfl ⟨rfl, rfl, by decide, by decide⟩ (Nat.le_of_ble_eq_true rfl) [] rfl (by decide) rfl rfl dX11_lost_61 [none, none, none, none, none, none, none, none] (by decide) ⟨rfl, ⟨rfl, ⟨rfl, ⟨rfl, ⟨rfl, ⟨rfl, ⟨rfl, ⟨rfl, trivial⟩⟩⟩⟩⟩⟩⟩⟩ rfl ?_
        refine b_istore (lv' := [(7, .int r16), (0, .ref A_th), (1, .int n1), (2, .int n2), (3, .int n3), (4, .int v3), (5, .int x12), (6, .int x13)]) C dX11_lost_64 (by decide) rfl ?_
        refine b_iload C dX11_lost_66 6 rfl ?_
        refine b_aload_n C dX11_lost_68 rfl 1 rfl ?_
        refine gfX11_65 C 0 rfl rfl dX11_lost_69 ?_
        refine b_iload C dX11_lost_72 7 rfl ?_
        refine b_iald C 7 rfl dX11_lost_74 hm (fun v17 hm => ?_)
        refine b_iload_n C dX11_lost_75 rfl 2 rfl ?_
        obtain ⟨k19, hk19, hm⟩ := jn1_some hm
        have jk19 : ∀ (y18 : Int32), k19 y18 = some u → Wb x [(A_th, oO 10 [.int 0, V_th_text, V_th_textSize, V_th_readPage, .ref A_th_page, V_th_trial, V_th_book, V_th_doings, V_th_kept, V_th_isKept, V_th_seen, V_th_seenPlace, V_th_seenDigit, V_th_seenIs, V_th_seed, .ref A_th_plan, .ref A_th_good, .ref A_th_bad, .ref A_th_signs, .int z4, .ref A_th_digits, V_th_isNode, V_th_base, V_th_slot, V_th_whichMany, V_th_whichFirst, .ref A_th_value]), (A_th_page, iA g 22 th_page), (A_th_plan, iA g 1372 f5), (A_th_signs, iA g 8 f6), (A_th_digits, iA g 36 f7), (A_th_good, iA g 1372 f8), (A_th_bad, iA g 1372 f9), (A_th_value, iA g 64 f10)] [(0, .ref A_th), (1, .int n1), (2, .int n2), (3, .int n3), (4, .int v3), (6, .int x13)] 102 [.int y18, .int x12] := by
          intro y18 hm
          have hm := hk19 _ hm
          refine b_iadd C dX11_lost_102 ?_
          refine b_topi hm (fun x20 hm => ?_)
          refine b_istore (lv' := [(5, .int x20), (0, .ref A_th), (1, .int n1), (2, .int n2), (3, .int n3), (4, .int v3), (6, .int x13)]) C dX11_lost_103 (by decide) rfl ?_
          refine b_iinc (v2 := x13 + 1) (lv' := [(6, .int (x13 + 1)), (5, .int x20), (0, .ref A_th), (1, .int n1), (2, .int n2), (3, .int n3), (4, .int v3)]) C dX11_lost_105 6 rfl rfl (by decide) rfl ?_
          refine b_goto (tgt := 50) C dX11_lost_108 (by decide) ?_
          exact Wb.lv (hc11 x20 (x13 + 1) hm) [2, 3, 4, 5, 6, 1, 0] rfl
        refine b_icmp_lt (tgt := 101) C dX11_lost_76 (by decide) hm (fun hm => ?_) (fun hm => ?_)
        · refine b_iconst (v := 0) C dX11_lost_101 (by decide) ?_
          exact Wb.lv (jk19 0 hm) [1, 2, 3, 4, 5, 7] rfl
        · refine b_bipush (v := 10) C dX11_lost_79 (by decide) ?_
          refine b_iload_n C dX11_lost_81 rfl 3 rfl ?_
          refine b_isub C dX11_lost_82 ?_
          refine b_iload C dX11_lost_83 0 rfl ?_
          obtain ⟨r21, hM, hm⟩ := bK1_some hm
          refine b_kS (w' := [(A_th, oO 10 [.int 0, V_th_text, V_th_textSize, V_th_readPage, .ref A_th_page, V_th_trial, V_th_book, V_th_doings, V_th_kept, V_th_isKept, V_th_seen, V_th_seenPlace, V_th_seenDigit, V_th_seenIs, V_th_seed, .ref A_th_plan, .ref A_th_good, .ref A_th_bad, .ref A_th_signs, .int z4, .ref A_th_digits, V_th_isNode, V_th_base, V_th_slot, V_th_whichMany, V_th_whichFirst, .ref A_th_value]), (A_th_page, iA g 22 th_page), (A_th_plan, iA g 1372 f5), (A_th_signs, iA g 8 f6), (A_th_digits, iA g 36 f7), (A_th_good, iA g 1372 f8), (A_th_bad, iA g 1372 f9), (A_th_value, iA g 64 f10)]) (st := [.int x12]) (st2 := [.int r21, .int x12]) C cs_X11_power tb1214 (c_X11_power l g (10 - n2) r16 F r21 hM) rfl ⟨rfl, rfl, by decide, by decide⟩ (Nat.le_of_ble_eq_true rfl) [] rfl (by decide) rfl rfl dX11_lost_85 [none, none, none, none, none, none, none, none] (by decide) ⟨rfl, ⟨rfl, ⟨rfl, ⟨rfl, ⟨rfl, ⟨rfl, ⟨rfl, ⟨rfl, trivial⟩⟩⟩⟩⟩⟩⟩⟩ rfl ?_
          refine b_iload_n C dX11_lost_88 rfl 3 rfl ?_
          refine b_iload C dX11_lost_89 5 rfl ?_
          refine b_iload C dX11_lost_91 0 rfl ?_
          refine b_isub C dX11_lost_93 ?_
          obtain ⟨r22, hM, hm⟩ := bK1_some hm
          refine b_kS (w' := [(A_th, oO 10 [.int 0, V_th_text, V_th_textSize, V_th_readPage, .ref A_th_page, V_th_trial, V_th_book, V_th_doings, V_th_kept, V_th_isKept, V_th_seen, V_th_seenPlace, V_th_seenDigit, V_th_seenIs, V_th_seed, .ref A_th_plan, .ref A_th_good, .ref A_th_bad, .ref A_th_signs, .int z4, .ref A_th_digits, V_th_isNode, V_th_base, V_th_slot, V_th_whichMany, V_th_whichFirst, .ref A_th_value]), (A_th_page, iA g 22 th_page), (A_th_plan, iA g 1372 f5), (A_th_signs, iA g 8 f6), (A_th_digits, iA g 36 f7), (A_th_good, iA g 1372 f8), (A_th_bad, iA g 1372 f9), (A_th_value, iA g 64 f10)]) (st := [.int r21, .int x12]) (st2 := [.int r22, .int r21, .int x12]) C cs_X11_power tb1214 (c_X11_power l g n2 (v3 - r16) F r22 hM) rfl ⟨rfl, rfl, by decide, by decide⟩ (Nat.le_of_ble_eq_true rfl) [] rfl (by decide) rfl rfl dX11_lost_94 [none, none, none, none, none, none, none, none] (by decide) ⟨rfl, ⟨rfl, ⟨rfl, ⟨rfl, ⟨rfl, ⟨rfl, ⟨rfl, ⟨rfl, trivial⟩⟩⟩⟩⟩⟩⟩⟩ rfl ?_
          refine b_imul C dX11_lost_97 ?_
          refine b_goto (tgt := 102) C dX11_lost_98 (by decide) ?_
          exact Wb.lv (jk19 (r21 * r22) hm) [1, 2, 3, 4, 5, 7] rfl
    · refine b_bipush (v := (-2)) C dX11_lost_29 (by decide) ?_
      cases hm
      exact b_iret C dX11_lost_31
/-- BreakLearnerModel.seed(J)J -/
def m_X11_seed (F : Nat)  (n1 : Int64) (th_thrown : Int32) (th_seed : Int64) : Option (Int64 × Int32 × Int64) :=
  some (th_seed, 0, n1)
abbrev rmX11_seed : Room := { frames := 0, cells := 0, slots := 0, locals := 0 }
set_option maxHeartbeats 4000000 in
set_option maxRecDepth 100000 in
theorem c_X11_seed (l : Launch) (g : Gl) (A_th : Nat) (V_th_text V_th_textSize V_th_readPage V_th_page V_th_trial V_th_book V_th_doings V_th_kept V_th_isKept V_th_seen V_th_seenPlace V_th_seenDigit V_th_seenIs V_th_plan V_th_good V_th_bad V_th_signs V_th_signMany V_th_digits V_th_isNode V_th_base V_th_slot V_th_whichMany V_th_whichFirst V_th_value : Value)  (n1 : Int64) (th_thrown : Int32) (th_seed : Int64) (F : Nat) (u : Int64 × Int32 × Int64) (hm : m_X11_seed F n1 th_thrown th_seed = some u) : Ct l g yX11_seed cX11_seed 5 (some .long) rmX11_seed [.ref A_th, .long n1] [(A_th, oO 10 [.int th_thrown, V_th_text, V_th_textSize, V_th_readPage, V_th_page, V_th_trial, V_th_book, V_th_doings, V_th_kept, V_th_isKept, V_th_seen, V_th_seenPlace, V_th_seenDigit, V_th_seenIs, .long th_seed, V_th_plan, V_th_good, V_th_bad, V_th_signs, V_th_signMany, V_th_digits, V_th_isNode, V_th_base, V_th_slot, V_th_whichMany, V_th_whichFirst, V_th_value])] (some (.long u.1)) [(A_th, oO 10 [.int u.2.1, V_th_text, V_th_textSize, V_th_readPage, V_th_page, V_th_trial, V_th_book, V_th_doings, V_th_kept, V_th_isKept, V_th_seen, V_th_seenPlace, V_th_seenDigit, V_th_seenIs, .long u.2.2, V_th_plan, V_th_good, V_th_bad, V_th_signs, V_th_signMany, V_th_digits, V_th_isNode, V_th_base, V_th_slot, V_th_whichMany, V_th_whichFirst, V_th_value])] := by
  refine ent (own := RX11) (lv := [(0, .ref A_th), (1, .long n1)]) (by decide) rfl (Nat.le_of_ble_eq_true rfl) rfl rfl ?_
  intro x C
  unfold m_X11_seed at hm
  refine b_aload_n C dX11_seed_0 rfl 0 rfl ?_
  refine b_iconst (v := 0) C dX11_seed_1 (by decide) ?_
  refine pfX11_68 (w' := [(A_th, oO 10 [.int 0, V_th_text, V_th_textSize, V_th_readPage, V_th_page, V_th_trial, V_th_book, V_th_doings, V_th_kept, V_th_isKept, V_th_seen, V_th_seenPlace, V_th_seenDigit, V_th_seenIs, .long th_seed, V_th_plan, V_th_good, V_th_bad, V_th_signs, V_th_signMany, V_th_digits, V_th_isNode, V_th_base, V_th_slot, V_th_whichMany, V_th_whichFirst, V_th_value])]) C rfl rfl 0 rfl (Nat.le_of_ble_eq_true rfl) dX11_seed_2 rfl ?_
  refine b_aload_n C dX11_seed_5 rfl 0 rfl ?_
  refine gfX11_275 C 0 rfl rfl dX11_seed_6 ?_
  refine b_lstore_n (lv' := [(3, .long th_seed), (0, .ref A_th), (1, .long n1)]) C dX11_seed_9 rfl (by decide) rfl ?_
  refine b_aload_n C dX11_seed_10 rfl 1 rfl ?_
  refine b_lload_n C dX11_seed_11 rfl 2 rfl ?_
  refine pfX11_275 (w' := [(A_th, oO 10 [.int 0, V_th_text, V_th_textSize, V_th_readPage, V_th_page, V_th_trial, V_th_book, V_th_doings, V_th_kept, V_th_isKept, V_th_seen, V_th_seenPlace, V_th_seenDigit, V_th_seenIs, .long n1, V_th_plan, V_th_good, V_th_bad, V_th_signs, V_th_signMany, V_th_digits, V_th_isNode, V_th_base, V_th_slot, V_th_whichMany, V_th_whichFirst, V_th_value])]) C rfl rfl 0 rfl (Nat.le_of_ble_eq_true rfl) dX11_seed_12 rfl ?_
  refine b_lload_n C dX11_seed_15 rfl 0 rfl ?_
  cases hm
  exact b_lret C dX11_seed_16
