/-- BreakLearnerModel.laySigns(I)V -/
def m_X11_laySigns (F : Nat)  (n1 : Int32) (th_signMany : Int32) (th_signs : (Nat → Int32)) : Option (Int32 × (Nat → Int32)) :=
  bK1 (m_X11_length F n1) (fun r1 =>
  letK (r1 + 2) (fun z2 =>
  stK 8 th_signs 0 6 (fun f3 =>
  stK 8 f3 (r1 + 1) 6 (fun f4 =>
  wl3 (fun (x6 : Int32) (x7 : Int32) (f8 : (Nat → Int32)) c5 =>
    if x6 ≤ 0 then
      some (z2, f8)
    else
      stK 8 f8 x6 (irm x7 10) (fun f9 =>
      letK (x7 / 10) (fun x10 =>
      c5 (x6 + (-1)) x10 f9
      )
      )
    ) F r1 n1 f4
  )
  )
  )
  )
abbrev rmX11_laySigns : Room := { frames := 1, cells := 0, slots := 0, locals := 22 }
set_option maxHeartbeats 4000000 in
set_option maxRecDepth 100000 in
theorem c_X11_laySigns (l : Launch) (g : Gl) (A_th A_th_signs : Nat) (V_th_thrown V_th_text V_th_textSize V_th_readPage V_th_page V_th_trial V_th_book V_th_doings V_th_kept V_th_isKept V_th_seen V_th_seenPlace V_th_seenDigit V_th_seenIs V_th_seed V_th_plan V_th_good V_th_bad V_th_digits V_th_isNode V_th_base V_th_slot V_th_whichMany V_th_whichFirst V_th_value : Value)  (n1 : Int32) (th_signMany : Int32) (th_signs : (Nat → Int32)) (F : Nat) (u : Int32 × (Nat → Int32)) (hm : m_X11_laySigns F n1 th_signMany th_signs = some u) : Ct l g yX11_laySigns cX11_laySigns 5 none rmX11_laySigns [.ref A_th, .int n1] [(A_th, oO 10 [V_th_thrown, V_th_text, V_th_textSize, V_th_readPage, V_th_page, V_th_trial, V_th_book, V_th_doings, V_th_kept, V_th_isKept, V_th_seen, V_th_seenPlace, V_th_seenDigit, V_th_seenIs, V_th_seed, V_th_plan, V_th_good, V_th_bad, .ref A_th_signs, .int th_signMany, V_th_digits, V_th_isNode, V_th_base, V_th_slot, V_th_whichMany, V_th_whichFirst, V_th_value]), (A_th_signs, iA g 8 th_signs)] none [(A_th, oO 10 [V_th_thrown, V_th_text, V_th_textSize, V_th_readPage, V_th_page, V_th_trial, V_th_book, V_th_doings, V_th_kept, V_th_isKept, V_th_seen, V_th_seenPlace, V_th_seenDigit, V_th_seenIs, V_th_seed, V_th_plan, V_th_good, V_th_bad, .ref A_th_signs, .int u.1, V_th_digits, V_th_isNode, V_th_base, V_th_slot, V_th_whichMany, V_th_whichFirst, V_th_value]), (A_th_signs, iA g 8 u.2)] := by
  refine ent (own := RX11) (lv := [(0, .ref A_th), (1, .int n1)]) (by decide) rfl (Nat.le_of_ble_eq_true rfl) rfl rfl ?_
  intro x C
  unfold m_X11_laySigns at hm
  refine b_iload_n C dX11_laySigns_0 rfl 1 rfl ?_
  obtain ⟨r1, hM, hm⟩ := bK1_some hm
  refine b_kS (w' := [(A_th, oO 10 [V_th_thrown, V_th_text, V_th_textSize, V_th_readPage, V_th_page, V_th_trial, V_th_book, V_th_doings, V_th_kept, V_th_isKept, V_th_seen, V_th_seenPlace, V_th_seenDigit, V_th_seenIs, V_th_seed, V_th_plan, V_th_good, V_th_bad, .ref A_th_signs, .int th_signMany, V_th_digits, V_th_isNode, V_th_base, V_th_slot, V_th_whichMany, V_th_whichFirst, V_th_value]), (A_th_signs, iA g 8 th_signs)]) (st := []) (st2 := [.int r1]) C cs_X11_length tb979 (c_X11_length l g n1 F r1 hM) rfl ⟨rfl, rfl, by decide, by decide⟩ (Nat.le_of_ble_eq_true rfl) [] rfl (by decide) rfl rfl dX11_laySigns_1 [none, none] (by decide) ⟨rfl, ⟨rfl, trivial⟩⟩ rfl ?_
  refine b_istore_n (lv' := [(2, .int r1), (0, .ref A_th), (1, .int n1)]) C dX11_laySigns_4 rfl (by decide) rfl ?_
  refine b_aload_n C dX11_laySigns_5 rfl 1 rfl ?_
  refine b_iload_n C dX11_laySigns_6 rfl 0 rfl ?_
  refine b_iconst (v := 2) C dX11_laySigns_7 (by decide) ?_
  refine b_iadd C dX11_laySigns_8 ?_
  refine b_topi hm (fun z2 hm => ?_)
  refine pfX11_102 (w' := [(A_th, oO 10 [V_th_thrown, V_th_text, V_th_textSize, V_th_readPage, V_th_page, V_th_trial, V_th_book, V_th_doings, V_th_kept, V_th_isKept, V_th_seen, V_th_seenPlace, V_th_seenDigit, V_th_seenIs, V_th_seed, V_th_plan, V_th_good, V_th_bad, .ref A_th_signs, .int z2, V_th_digits, V_th_isNode, V_th_base, V_th_slot, V_th_whichMany, V_th_whichFirst, V_th_value]), (A_th_signs, iA g 8 th_signs)]) C rfl rfl 0 rfl (Nat.le_of_ble_eq_true rfl) dX11_laySigns_9 rfl ?_
  refine b_aload_n C dX11_laySigns_12 rfl 1 rfl ?_
  refine gfX11_50 C 0 rfl rfl dX11_laySigns_13 ?_
  refine b_iconst (v := 0) C dX11_laySigns_16 (by decide) ?_
  refine b_bipush (v := 6) C dX11_laySigns_17 (by decide) ?_
  refine b_iast C 1 rfl dX11_laySigns_19 hm (fun f3 hm => Wb.to (w' := [(A_th, oO 10 [V_th_thrown, V_th_text, V_th_textSize, V_th_readPage, V_th_page, V_th_trial, V_th_book, V_th_doings, V_th_kept, V_th_isKept, V_th_seen, V_th_seenPlace, V_th_seenDigit, V_th_seenIs, V_th_seed, V_th_plan, V_th_good, V_th_bad, .ref A_th_signs, .int z2, V_th_digits, V_th_isNode, V_th_base, V_th_slot, V_th_whichMany, V_th_whichFirst, V_th_value]), (A_th_signs, iA g 8 f3)]) rfl ?_)
  refine b_aload_n C dX11_laySigns_20 rfl 1 rfl ?_
  refine gfX11_50 C 0 rfl rfl dX11_laySigns_21 ?_
  refine b_iload_n C dX11_laySigns_24 rfl 0 rfl ?_
  refine b_iconst (v := 1) C dX11_laySigns_25 (by decide) ?_
  refine b_iadd C dX11_laySigns_26 ?_
  refine b_bipush (v := 6) C dX11_laySigns_27 (by decide) ?_
  refine b_iast C 1 rfl dX11_laySigns_29 hm (fun f4 hm => Wb.to (w' := [(A_th, oO 10 [V_th_thrown, V_th_text, V_th_textSize, V_th_readPage, V_th_page, V_th_trial, V_th_book, V_th_doings, V_th_kept, V_th_isKept, V_th_seen, V_th_seenPlace, V_th_seenDigit, V_th_seenIs, V_th_seed, V_th_plan, V_th_good, V_th_bad, .ref A_th_signs, .int z2, V_th_digits, V_th_isNode, V_th_base, V_th_slot, V_th_whichMany, V_th_whichFirst, V_th_value]), (A_th_signs, iA g 8 f4)]) rfl ?_)
  refine b_iload_n C dX11_laySigns_30 rfl 0 rfl ?_
  refine b_istore_n (lv' := [(3, .int r1), (2, .int r1), (0, .ref A_th), (1, .int n1)]) C dX11_laySigns_31 rfl (by decide) rfl ?_
  refine b_iload_n C dX11_laySigns_32 rfl 3 rfl ?_
  refine b_istore (lv' := [(4, .int n1), (3, .int r1), (2, .int r1), (0, .ref A_th), (1, .int n1)]) C dX11_laySigns_33 (by decide) rfl ?_
  refine Wb.lv (lv' := [(0, .ref A_th), (3, .int r1), (4, .int n1)]) ?_ [3, 1, 0] rfl
  refine wl3_W (Wg := fun (x6 : Int32) (x7 : Int32) (f8 : (Nat → Int32)) => Wb x [(A_th, oO 10 [V_th_thrown, V_th_text, V_th_textSize, V_th_readPage, V_th_page, V_th_trial, V_th_book, V_th_doings, V_th_kept, V_th_isKept, V_th_seen, V_th_seenPlace, V_th_seenDigit, V_th_seenIs, V_th_seed, V_th_plan, V_th_good, V_th_bad, .ref A_th_signs, .int z2, V_th_digits, V_th_isNode, V_th_base, V_th_slot, V_th_whichMany, V_th_whichFirst, V_th_value]), (A_th_signs, iA g 8 f8)] [(0, .ref A_th), (3, .int x6), (4, .int x7)] 35 []) ?_ F r1 n1 f4 hm
  intro x6 x7 f8 c5 hc5 hm
  refine b_iload_n C dX11_laySigns_35 rfl 1 rfl ?_
  refine b_if_le (tgt := 63) C dX11_laySigns_36 (by decide) hm (fun hm => ?_) (fun hm => ?_)
  · cases hm
    exact b_vret C dX11_laySigns_63
  · refine b_aload_n C dX11_laySigns_39 rfl 0 rfl ?_
    refine gfX11_50 C 0 rfl rfl dX11_laySigns_40 ?_
    refine b_iload_n C dX11_laySigns_43 rfl 1 rfl ?_
    refine b_iload C dX11_laySigns_44 2 rfl ?_
    refine b_bipush (v := 10) C dX11_laySigns_46 (by decide) ?_
    refine b_irem C dX11_laySigns_48 (by decide) ?_
    refine b_iast C 1 rfl dX11_laySigns_49 hm (fun f9 hm => Wb.to (w' := [(A_th, oO 10 [V_th_thrown, V_th_text, V_th_textSize, V_th_readPage, V_th_page, V_th_trial, V_th_book, V_th_doings, V_th_kept, V_th_isKept, V_th_seen, V_th_seenPlace, V_th_seenDigit, V_th_seenIs, V_th_seed, V_th_plan, V_th_good, V_th_bad, .ref A_th_signs, .int z2, V_th_digits, V_th_isNode, V_th_base, V_th_slot, V_th_whichMany, V_th_whichFirst, V_th_value]), (A_th_signs, iA g 8 f9)]) rfl ?_)
    refine b_iload C dX11_laySigns_50 2 rfl ?_
    refine b_bipush (v := 10) C dX11_laySigns_52 (by decide) ?_
    refine b_idiv C dX11_laySigns_54 (by decide) ?_
    refine b_topi hm (fun x10 hm => ?_)
    refine b_istore (lv' := [(4, .int x10), (0, .ref A_th), (3, .int x6)]) C dX11_laySigns_55 (by decide) rfl ?_
    refine b_iinc (v2 := x6 + (-1)) (lv' := [(3, .int (x6 + (-1))), (4, .int x10), (0, .ref A_th)]) C dX11_laySigns_57 2 rfl rfl (by decide) rfl ?_
    refine b_goto (tgt := 35) C dX11_laySigns_60 (by decide) ?_
    exact Wb.lv (hc5 (x6 + (-1)) x10 f9 hm) [2, 0, 1] rfl
/-- BreakLearnerModel.stringAt(II)I -/
def m_X11_stringAt (F : Nat)  (n1 : Int32) (n2 : Int32) (th_signs : (Nat → Int32)) : Option (Int32) :=
  wl2 (fun (x2 : Int32) (x3 : Int32) c1 =>
    if n2 ≤ x3 then
      some x2
    else
      rdK 8 th_signs (n1 + x3) (fun v4 =>
      letK ((7 * x2) + v4) (fun x5 =>
      c1 x5 (x3 + 1)
      )
      )
    ) F 0 0
abbrev rmX11_stringAt : Room := { frames := 0, cells := 0, slots := 0, locals := 0 }
set_option maxHeartbeats 4000000 in
set_option maxRecDepth 100000 in
theorem c_X11_stringAt (l : Launch) (g : Gl) (A_th A_th_signs : Nat) (V_th_thrown V_th_text V_th_textSize V_th_readPage V_th_page V_th_trial V_th_book V_th_doings V_th_kept V_th_isKept V_th_seen V_th_seenPlace V_th_seenDigit V_th_seenIs V_th_seed V_th_plan V_th_good V_th_bad V_th_signMany V_th_digits V_th_isNode V_th_base V_th_slot V_th_whichMany V_th_whichFirst V_th_value : Value)  (n1 : Int32) (n2 : Int32) (th_signs : (Nat → Int32)) (F : Nat) (u : Int32) (hm : m_X11_stringAt F n1 n2 th_signs = some u) : Ct l g yX11_stringAt cX11_stringAt 5 (some .int) rmX11_stringAt [.ref A_th, .int n1, .int n2] [(A_th, oO 10 [V_th_thrown, V_th_text, V_th_textSize, V_th_readPage, V_th_page, V_th_trial, V_th_book, V_th_doings, V_th_kept, V_th_isKept, V_th_seen, V_th_seenPlace, V_th_seenDigit, V_th_seenIs, V_th_seed, V_th_plan, V_th_good, V_th_bad, .ref A_th_signs, V_th_signMany, V_th_digits, V_th_isNode, V_th_base, V_th_slot, V_th_whichMany, V_th_whichFirst, V_th_value]), (A_th_signs, iA g 8 th_signs)] (some (.int u)) [(A_th, oO 10 [V_th_thrown, V_th_text, V_th_textSize, V_th_readPage, V_th_page, V_th_trial, V_th_book, V_th_doings, V_th_kept, V_th_isKept, V_th_seen, V_th_seenPlace, V_th_seenDigit, V_th_seenIs, V_th_seed, V_th_plan, V_th_good, V_th_bad, .ref A_th_signs, V_th_signMany, V_th_digits, V_th_isNode, V_th_base, V_th_slot, V_th_whichMany, V_th_whichFirst, V_th_value]), (A_th_signs, iA g 8 th_signs)] := by
  refine ent (own := RX11) (lv := [(0, .ref A_th), (1, .int n1), (2, .int n2)]) (by decide) rfl (Nat.le_of_ble_eq_true rfl) rfl rfl ?_
  intro x C
  unfold m_X11_stringAt at hm
  refine b_iconst (v := 0) C dX11_stringAt_0 (by decide) ?_
  refine b_istore_n (lv' := [(3, .int 0), (0, .ref A_th), (1, .int n1), (2, .int n2)]) C dX11_stringAt_1 rfl (by decide) rfl ?_
  refine b_iconst (v := 0) C dX11_stringAt_2 (by decide) ?_
  refine b_istore (lv' := [(4, .int 0), (3, .int 0), (0, .ref A_th), (1, .int n1), (2, .int n2)]) C dX11_stringAt_3 (by decide) rfl ?_
  refine Wb.lv (lv' := [(0, .ref A_th), (1, .int n1), (2, .int n2), (3, .int 0), (4, .int 0)]) ?_ [2, 3, 4, 1, 0] rfl
  refine wl2_W (Wg := fun (x2 : Int32) (x3 : Int32) => Wb x [(A_th, oO 10 [V_th_thrown, V_th_text, V_th_textSize, V_th_readPage, V_th_page, V_th_trial, V_th_book, V_th_doings, V_th_kept, V_th_isKept, V_th_seen, V_th_seenPlace, V_th_seenDigit, V_th_seenIs, V_th_seed, V_th_plan, V_th_good, V_th_bad, .ref A_th_signs, V_th_signMany, V_th_digits, V_th_isNode, V_th_base, V_th_slot, V_th_whichMany, V_th_whichFirst, V_th_value]), (A_th_signs, iA g 8 th_signs)] [(0, .ref A_th), (1, .int n1), (2, .int n2), (3, .int x2), (4, .int x3)] 5 []) ?_ F 0 0 hm
  intro x2 x3 c1 hc1 hm
  refine b_iload C dX11_stringAt_5 4 rfl ?_
  refine b_iload_n C dX11_stringAt_7 rfl 2 rfl ?_
  refine b_icmp_ge (tgt := 32) C dX11_stringAt_8 (by decide) hm (fun hm => ?_) (fun hm => ?_)
  · refine b_iload_n C dX11_stringAt_32 rfl 3 rfl ?_
    cases hm
    exact b_iret C dX11_stringAt_33
  · refine b_bipush (v := 7) C dX11_stringAt_11 (by decide) ?_
    refine b_iload_n C dX11_stringAt_13 rfl 3 rfl ?_
    refine b_imul C dX11_stringAt_14 ?_
    refine b_aload_n C dX11_stringAt_15 rfl 0 rfl ?_
    refine gfX11_50 C 0 rfl rfl dX11_stringAt_16 ?_
    refine b_iload_n C dX11_stringAt_19 rfl 1 rfl ?_
    refine b_iload C dX11_stringAt_20 4 rfl ?_
    refine b_iadd C dX11_stringAt_22 ?_
    refine b_iald C 1 rfl dX11_stringAt_23 hm (fun v4 hm => ?_)
    refine b_iadd C dX11_stringAt_24 ?_
    refine b_topi hm (fun x5 hm => ?_)
    refine b_istore_n (lv' := [(3, .int x5), (0, .ref A_th), (1, .int n1), (2, .int n2), (4, .int x3)]) C dX11_stringAt_25 rfl (by decide) rfl ?_
    refine b_iinc (v2 := x3 + 1) (lv' := [(4, .int (x3 + 1)), (3, .int x5), (0, .ref A_th), (1, .int n1), (2, .int n2)]) C dX11_stringAt_26 4 rfl rfl (by decide) rfl ?_
    refine b_goto (tgt := 5) C dX11_stringAt_29 (by decide) ?_
    exact Wb.lv (hc1 x5 (x3 + 1) hm) [2, 3, 4, 1, 0] rfl
/-- BreakLearnerModel.fits(III)I -/
def m_X11_fits (F : Nat)  (n1 : Int32) (n2 : Int32) (n3 : Int32) (th_signMany : Int32) (th_signs : (Nat → Int32)) : Option (Int32) :=
  letK ((n1 + 2) - n3) (fun x1 =>
  if x1 < 0 then
    some (-9)
  else
    if (x1 + n2) ≤ th_signMany then
      bK1 (m_X11_stringAt F x1 n2 th_signs) (fun r2 =>
      if r2 = 6 then
        some (-9)
      else
        some ((4 * r2) + n3)
      )
    else
      some (-9)
  )
abbrev rmX11_fits : Room := { frames := 1, cells := 0, slots := 0, locals := 24 }
set_option maxHeartbeats 4000000 in
set_option maxRecDepth 100000 in
theorem c_X11_fits (l : Launch) (g : Gl) (A_th A_th_signs : Nat) (V_th_thrown V_th_text V_th_textSize V_th_readPage V_th_page V_th_trial V_th_book V_th_doings V_th_kept V_th_isKept V_th_seen V_th_seenPlace V_th_seenDigit V_th_seenIs V_th_seed V_th_plan V_th_good V_th_bad V_th_digits V_th_isNode V_th_base V_th_slot V_th_whichMany V_th_whichFirst V_th_value : Value)  (n1 : Int32) (n2 : Int32) (n3 : Int32) (th_signMany : Int32) (th_signs : (Nat → Int32)) (F : Nat) (u : Int32) (hm : m_X11_fits F n1 n2 n3 th_signMany th_signs = some u) : Ct l g yX11_fits cX11_fits 6 (some .int) rmX11_fits [.ref A_th, .int n1, .int n2, .int n3] [(A_th, oO 10 [V_th_thrown, V_th_text, V_th_textSize, V_th_readPage, V_th_page, V_th_trial, V_th_book, V_th_doings, V_th_kept, V_th_isKept, V_th_seen, V_th_seenPlace, V_th_seenDigit, V_th_seenIs, V_th_seed, V_th_plan, V_th_good, V_th_bad, .ref A_th_signs, .int th_signMany, V_th_digits, V_th_isNode, V_th_base, V_th_slot, V_th_whichMany, V_th_whichFirst, V_th_value]), (A_th_signs, iA g 8 th_signs)] (some (.int u)) [(A_th, oO 10 [V_th_thrown, V_th_text, V_th_textSize, V_th_readPage, V_th_page, V_th_trial, V_th_book, V_th_doings, V_th_kept, V_th_isKept, V_th_seen, V_th_seenPlace, V_th_seenDigit, V_th_seenIs, V_th_seed, V_th_plan, V_th_good, V_th_bad, .ref A_th_signs, .int th_signMany, V_th_digits, V_th_isNode, V_th_base, V_th_slot, V_th_whichMany, V_th_whichFirst, V_th_value]), (A_th_signs, iA g 8 th_signs)] := by
  refine ent (own := RX11) (lv := [(0, .ref A_th), (1, .int n1), (2, .int n2), (3, .int n3)]) (by decide) rfl (Nat.le_of_ble_eq_true rfl) rfl rfl ?_
  intro x C
  unfold m_X11_fits at hm
  refine b_iload_n C dX11_fits_0 rfl 1 rfl ?_
  refine b_iconst (v := 2) C dX11_fits_1 (by decide) ?_
  refine b_iadd C dX11_fits_2 ?_
  refine b_iload_n C dX11_fits_3 rfl 3 rfl ?_
  refine b_isub C dX11_fits_4 ?_
  refine b_topi hm (fun x1 hm => ?_)
  refine b_istore (lv' := [(4, .int x1), (0, .ref A_th), (1, .int n1), (2, .int n2), (3, .int n3)]) C dX11_fits_5 (by decide) rfl ?_
  refine b_iload C dX11_fits_7 0 rfl ?_
  refine b_if_lt (tgt := 23) C dX11_fits_9 (by decide) hm (fun hm => ?_) (fun hm => ?_)
  · refine b_bipush (v := (-9)) C dX11_fits_23 (by decide) ?_
    cases hm
    exact b_iret C dX11_fits_25
  · refine b_iload C dX11_fits_12 0 rfl ?_
    refine b_iload_n C dX11_fits_14 rfl 3 rfl ?_
    refine b_iadd C dX11_fits_15 ?_
    refine b_aload_n C dX11_fits_16 rfl 1 rfl ?_
    refine gfX11_102 C 0 rfl rfl dX11_fits_17 ?_
    refine b_icmp_le (tgt := 26) C dX11_fits_20 (by decide) hm (fun hm => ?_) (fun hm => ?_)
    · refine b_aload_n C dX11_fits_26 rfl 1 rfl ?_
      refine b_iload C dX11_fits_27 0 rfl ?_
      refine b_iload_n C dX11_fits_29 rfl 3 rfl ?_
      obtain ⟨r2, hM, hm⟩ := bK1_some hm
      refine b_kV (w' := [(A_th, oO 10 [V_th_thrown, V_th_text, V_th_textSize, V_th_readPage, V_th_page, V_th_trial, V_th_book, V_th_doings, V_th_kept, V_th_isKept, V_th_seen, V_th_seenPlace, V_th_seenDigit, V_th_seenIs, V_th_seed, V_th_plan, V_th_good, V_th_bad, .ref A_th_signs, .int th_signMany, V_th_digits, V_th_isNode, V_th_base, V_th_slot, V_th_whichMany, V_th_whichFirst, V_th_value]), (A_th_signs, iA g 8 th_signs)]) (st := []) (st2 := [.int r2]) C cv_X11_stringAt tb990 (c_X11_stringAt l g A_th A_th_signs V_th_thrown V_th_text V_th_textSize V_th_readPage V_th_page V_th_trial V_th_book V_th_doings V_th_kept V_th_isKept V_th_seen V_th_seenPlace V_th_seenDigit V_th_seenIs V_th_seed V_th_plan V_th_good V_th_bad (.int th_signMany) V_th_digits V_th_isNode V_th_base V_th_slot V_th_whichMany V_th_whichFirst V_th_value x1 n2 th_signs F r2 hM) rfl 0 rfl rfl ⟨rfl, rfl, by decide, by decide⟩ (Nat.le_of_ble_eq_true rfl) [0, 1] rfl (by decide) rfl rfl dX11_fits_30 [some 0, some 1] (by decide) ⟨⟨rfl, rfl⟩, ⟨⟨rfl, rfl⟩, trivial⟩⟩ rfl ?_
      refine b_istore (lv' := [(5, .int r2), (4, .int x1), (0, .ref A_th), (1, .int n1), (2, .int n2), (3, .int n3)]) C dX11_fits_33 (by decide) rfl ?_
      refine b_iload C dX11_fits_35 0 rfl ?_
      refine b_bipush (v := 6) C dX11_fits_37 (by decide) ?_
      refine b_icmp_ne (tgt := 47) C dX11_fits_39 (by decide) hm (fun hm => ?_) (fun hm => ?_)
      · refine b_iconst (v := 4) C dX11_fits_47 (by decide) ?_
        refine b_iload C dX11_fits_48 0 rfl ?_
        refine b_imul C dX11_fits_50 ?_
        refine b_iload_n C dX11_fits_51 rfl 5 rfl ?_
        refine b_iadd C dX11_fits_52 ?_
        cases hm
        exact b_iret C dX11_fits_53
      · refine b_bipush (v := (-9)) C dX11_fits_42 (by decide) ?_
        refine b_goto (tgt := 53) C dX11_fits_44 (by decide) ?_
        cases hm
        exact b_iret C dX11_fits_53
    · refine b_bipush (v := (-9)) C dX11_fits_23 (by decide) ?_
      cases hm
      exact b_iret C dX11_fits_25
/-- BreakLearnerModel.digitAt(I)I -/
def m_X11_digitAt (F : Nat)  (n1 : Int32) (th_signMany : Int32) (th_signs : (Nat → Int32)) (th_plan : (Nat → Int32)) : Option (Int32) :=
  wl2 (fun (x2 : Int32) (x3 : Int32) c1 =>
    if 4 ≤ x3 then
      some x2
    else
      wl2 (fun (x5 : Int32) (x6 : Int32) c4 =>
        if x3 < x6 then
          c1 x5 (x3 + 1)
        else
          bK1 (m_X11_fits F n1 x3 x6 th_signMany th_signs) (fun r7 =>
          jn1 (fun (y8 : Int32) =>
            c4 y8 (x6 + 1)
            ) (fun k9 =>
            jn0 (
              k9 x5
              ) (fun k10 =>
              if r7 = (-9) then
                k10
              else
                rdK 1372 th_plan r7 (fun v11 =>
                if v11 ≤ x5 then
                  k10
                else
                  rdK 1372 th_plan r7 (fun v12 =>
                  k9 v12
                  )
                )
              )
            )
          )
        ) F x2 0
    ) F 0 1
abbrev rmX11_digitAt : Room := { frames := 2, cells := 0, slots := 0, locals := 49 }
set_option maxHeartbeats 4000000 in
set_option maxRecDepth 100000 in
theorem c_X11_digitAt (l : Launch) (g : Gl) (A_th A_th_signs A_th_plan : Nat) (V_th_thrown V_th_text V_th_textSize V_th_readPage V_th_page V_th_trial V_th_book V_th_doings V_th_kept V_th_isKept V_th_seen V_th_seenPlace V_th_seenDigit V_th_seenIs V_th_seed V_th_good V_th_bad V_th_digits V_th_isNode V_th_base V_th_slot V_th_whichMany V_th_whichFirst V_th_value : Value)  (n1 : Int32) (th_signMany : Int32) (th_signs : (Nat → Int32)) (th_plan : (Nat → Int32)) (F : Nat) (u : Int32) (hm : m_X11_digitAt F n1 th_signMany th_signs th_plan = some u) : Ct l g yX11_digitAt cX11_digitAt 6 (some .int) rmX11_digitAt [.ref A_th, .int n1] [(A_th, oO 10 [V_th_thrown, V_th_text, V_th_textSize, V_th_readPage, V_th_page, V_th_trial, V_th_book, V_th_doings, V_th_kept, V_th_isKept, V_th_seen, V_th_seenPlace, V_th_seenDigit, V_th_seenIs, V_th_seed, .ref A_th_plan, V_th_good, V_th_bad, .ref A_th_signs, .int th_signMany, V_th_digits, V_th_isNode, V_th_base, V_th_slot, V_th_whichMany, V_th_whichFirst, V_th_value]), (A_th_signs, iA g 8 th_signs), (A_th_plan, iA g 1372 th_plan)] (some (.int u)) [(A_th, oO 10 [V_th_thrown, V_th_text, V_th_textSize, V_th_readPage, V_th_page, V_th_trial, V_th_book, V_th_doings, V_th_kept, V_th_isKept, V_th_seen, V_th_seenPlace, V_th_seenDigit, V_th_seenIs, V_th_seed, .ref A_th_plan, V_th_good, V_th_bad, .ref A_th_signs, .int th_signMany, V_th_digits, V_th_isNode, V_th_base, V_th_slot, V_th_whichMany, V_th_whichFirst, V_th_value]), (A_th_signs, iA g 8 th_signs), (A_th_plan, iA g 1372 th_plan)] := by
  refine ent (own := RX11) (lv := [(0, .ref A_th), (1, .int n1)]) (by decide) rfl (Nat.le_of_ble_eq_true rfl) rfl rfl ?_
  intro x C
  unfold m_X11_digitAt at hm
  refine b_iconst (v := 0) C dX11_digitAt_0 (by decide) ?_
  refine b_istore_n (lv' := [(2, .int 0), (0, .ref A_th), (1, .int n1)]) C dX11_digitAt_1 rfl (by decide) rfl ?_
  refine b_iconst (v := 1) C dX11_digitAt_2 (by decide) ?_
  refine b_istore_n (lv' := [(3, .int 1), (2, .int 0), (0, .ref A_th), (1, .int n1)]) C dX11_digitAt_3 rfl (by decide) rfl ?_
  refine Wb.lv (lv' := [(0, .ref A_th), (1, .int n1), (2, .int 0), (3, .int 1)]) ?_ [2, 3, 1, 0] rfl
  refine wl2_W (Wg := fun (x2 : Int32) (x3 : Int32) => Wb x [(A_th, oO 10 [V_th_thrown, V_th_text, V_th_textSize, V_th_readPage, V_th_page, V_th_trial, V_th_book, V_th_doings, V_th_kept, V_th_isKept, V_th_seen, V_th_seenPlace, V_th_seenDigit, V_th_seenIs, V_th_seed, .ref A_th_plan, V_th_good, V_th_bad, .ref A_th_signs, .int th_signMany, V_th_digits, V_th_isNode, V_th_base, V_th_slot, V_th_whichMany, V_th_whichFirst, V_th_value]), (A_th_signs, iA g 8 th_signs), (A_th_plan, iA g 1372 th_plan)] [(0, .ref A_th), (1, .int n1), (2, .int x2), (3, .int x3)] 4 []) ?_ F 0 1 hm
  intro x2 x3 c1 hc1 hm
  refine b_iload_n C dX11_digitAt_4 rfl 3 rfl ?_
  refine b_iconst (v := 4) C dX11_digitAt_5 (by decide) ?_
  refine b_icmp_ge (tgt := 70) C dX11_digitAt_6 (by decide) hm (fun hm => ?_) (fun hm => ?_)
  · refine b_iload_n C dX11_digitAt_70 rfl 2 rfl ?_
    cases hm
    exact b_iret C dX11_digitAt_71
  · refine b_iconst (v := 0) C dX11_digitAt_9 (by decide) ?_
    refine b_istore (lv' := [(4, .int 0), (0, .ref A_th), (1, .int n1), (2, .int x2), (3, .int x3)]) C dX11_digitAt_10 (by decide) rfl ?_
    refine Wb.lv (lv' := [(0, .ref A_th), (1, .int n1), (2, .int x2), (3, .int x3), (4, .int 0)]) ?_ [1, 2, 3, 4, 0] rfl
    refine wl2_W (Wg := fun (x5 : Int32) (x6 : Int32) => Wb x [(A_th, oO 10 [V_th_thrown, V_th_text, V_th_textSize, V_th_readPage, V_th_page, V_th_trial, V_th_book, V_th_doings, V_th_kept, V_th_isKept, V_th_seen, V_th_seenPlace, V_th_seenDigit, V_th_seenIs, V_th_seed, .ref A_th_plan, V_th_good, V_th_bad, .ref A_th_signs, .int th_signMany, V_th_digits, V_th_isNode, V_th_base, V_th_slot, V_th_whichMany, V_th_whichFirst, V_th_value]), (A_th_signs, iA g 8 th_signs), (A_th_plan, iA g 1372 th_plan)] [(0, .ref A_th), (1, .int n1), (2, .int x5), (3, .int x3), (4, .int x6)] 12 []) ?_ F x2 0 hm
    intro x5 x6 c4 hc4 hm
    refine b_iload C dX11_digitAt_12 4 rfl ?_
    refine b_iload_n C dX11_digitAt_14 rfl 3 rfl ?_
    refine b_icmp_gt (tgt := 64) C dX11_digitAt_15 (by decide) hm (fun hm => ?_) (fun hm => ?_)
    · refine b_iinc (v2 := x3 + 1) (lv' := [(3, .int (x3 + 1)), (0, .ref A_th), (1, .int n1), (2, .int x5), (4, .int x6)]) C dX11_digitAt_64 3 rfl rfl (by decide) rfl ?_
      refine b_goto (tgt := 4) C dX11_digitAt_67 (by decide) ?_
      exact Wb.lv (hc1 x5 (x3 + 1) hm) [1, 2, 3, 0] rfl
    · refine b_aload_n C dX11_digitAt_18 rfl 0 rfl ?_
      refine b_iload_n C dX11_digitAt_19 rfl 1 rfl ?_
      refine b_iload_n C dX11_digitAt_20 rfl 3 rfl ?_
      refine b_iload C dX11_digitAt_21 4 rfl ?_
      obtain ⟨r7, hM, hm⟩ := bK1_some hm
      refine b_kV (w' := [(A_th, oO 10 [V_th_thrown, V_th_text, V_th_textSize, V_th_readPage, V_th_page, V_th_trial, V_th_book, V_th_doings, V_th_kept, V_th_isKept, V_th_seen, V_th_seenPlace, V_th_seenDigit, V_th_seenIs, V_th_seed, .ref A_th_plan, V_th_good, V_th_bad, .ref A_th_signs, .int th_signMany, V_th_digits, V_th_isNode, V_th_base, V_th_slot, V_th_whichMany, V_th_whichFirst, V_th_value]), (A_th_signs, iA g 8 th_signs), (A_th_plan, iA g 1372 th_plan)]) (st := []) (st2 := [.int r7]) C cv_X11_fits tb986 (c_X11_fits l g A_th A_th_signs V_th_thrown V_th_text V_th_textSize V_th_readPage V_th_page V_th_trial V_th_book V_th_doings V_th_kept V_th_isKept V_th_seen V_th_seenPlace V_th_seenDigit V_th_seenIs V_th_seed (.ref A_th_plan) V_th_good V_th_bad V_th_digits V_th_isNode V_th_base V_th_slot V_th_whichMany V_th_whichFirst V_th_value n1 x3 x6 th_signMany th_signs F r7 hM) rfl 0 rfl rfl ⟨rfl, rfl, by decide, by decide⟩ (Nat.le_of_ble_eq_true rfl) [0, 1] rfl (by decide) rfl rfl dX11_digitAt_23 [some 0, some 1, none] (by decide) ⟨⟨rfl, rfl⟩, ⟨⟨rfl, rfl⟩, ⟨rfl, trivial⟩⟩⟩ rfl ?_
      refine b_istore (lv' := [(5, .int r7), (0, .ref A_th), (1, .int n1), (2, .int x5), (3, .int x3), (4, .int x6)]) C dX11_digitAt_26 (by decide) rfl ?_
      refine b_iload C dX11_digitAt_28 0 rfl ?_
      refine b_bipush (v := (-9)) C dX11_digitAt_30 (by decide) ?_
      obtain ⟨k9, hk9, hm⟩ := jn1_some hm
      have jk9 : ∀ (y8 : Int32), k9 y8 = some u → Wb x [(A_th, oO 10 [V_th_thrown, V_th_text, V_th_textSize, V_th_readPage, V_th_page, V_th_trial, V_th_book, V_th_doings, V_th_kept, V_th_isKept, V_th_seen, V_th_seenPlace, V_th_seenDigit, V_th_seenIs, V_th_seed, .ref A_th_plan, V_th_good, V_th_bad, .ref A_th_signs, .int th_signMany, V_th_digits, V_th_isNode, V_th_base, V_th_slot, V_th_whichMany, V_th_whichFirst, V_th_value]), (A_th_signs, iA g 8 th_signs), (A_th_plan, iA g 1372 th_plan)] [(0, .ref A_th), (1, .int n1), (3, .int x3), (4, .int x6)] 57 [.int y8] := by
        intro y8 hm
        have hm := hk9 _ hm
        refine b_istore_n (lv' := [(2, .int y8), (0, .ref A_th), (1, .int n1), (3, .int x3), (4, .int x6)]) C dX11_digitAt_57 rfl (by decide) rfl ?_
        refine b_iinc (v2 := x6 + 1) (lv' := [(4, .int (x6 + 1)), (2, .int y8), (0, .ref A_th), (1, .int n1), (3, .int x3)]) C dX11_digitAt_58 4 rfl rfl (by decide) rfl ?_
        refine b_goto (tgt := 12) C dX11_digitAt_61 (by decide) ?_
        exact Wb.lv (hc4 y8 (x6 + 1) hm) [2, 3, 1, 4, 0] rfl
      obtain ⟨k10, hk10, hm⟩ := jn0_some hm
      have jk10 : k10  = some u → Wb x [(A_th, oO 10 [V_th_thrown, V_th_text, V_th_textSize, V_th_readPage, V_th_page, V_th_trial, V_th_book, V_th_doings, V_th_kept, V_th_isKept, V_th_seen, V_th_seenPlace, V_th_seenDigit, V_th_seenIs, V_th_seed, .ref A_th_plan, V_th_good, V_th_bad, .ref A_th_signs, .int th_signMany, V_th_digits, V_th_isNode, V_th_base, V_th_slot, V_th_whichMany, V_th_whichFirst, V_th_value]), (A_th_signs, iA g 8 th_signs), (A_th_plan, iA g 1372 th_plan)] [(0, .ref A_th), (1, .int n1), (2, .int x5), (3, .int x3), (4, .int x6)] 56 [] := by
        intro  hm
        have hm := hk10 hm
        refine b_iload_n C dX11_digitAt_56 rfl 2 rfl ?_
        exact Wb.lv (jk9 x5 hm) [0, 1, 3, 4] rfl
      refine b_icmp_eq (tgt := 56) C dX11_digitAt_32 (by decide) hm (fun hm => ?_) (fun hm => ?_)
      · exact Wb.lv (jk10  hm) [1, 2, 3, 4, 5] rfl
      · refine b_aload_n C dX11_digitAt_35 rfl 1 rfl ?_
        refine gfX11_41 C 0 rfl rfl dX11_digitAt_36 ?_
        refine b_iload C dX11_digitAt_39 0 rfl ?_
        refine b_iald C 2 rfl dX11_digitAt_41 hm (fun v11 hm => ?_)
        refine b_iload_n C dX11_digitAt_42 rfl 3 rfl ?_
        refine b_icmp_le (tgt := 56) C dX11_digitAt_43 (by decide) hm (fun hm => ?_) (fun hm => ?_)
        · exact Wb.lv (jk10  hm) [1, 2, 3, 4, 5] rfl
        · refine b_aload_n C dX11_digitAt_46 rfl 1 rfl ?_
          refine gfX11_41 C 0 rfl rfl dX11_digitAt_47 ?_
          refine b_iload C dX11_digitAt_50 0 rfl ?_
          refine b_iald C 2 rfl dX11_digitAt_52 hm (fun v12 hm => ?_)
          refine b_goto (tgt := 57) C dX11_digitAt_53 (by decide) ?_
          exact Wb.lv (jk9 v12 hm) [1, 2, 4, 5] rfl
/-- BreakLearnerModel.layDigits([I)V -/
def m_X11_layDigits (F : Nat)   (th_signMany : Int32) (p1 : (Nat → Int32)) (th_signs : (Nat → Int32)) (th_digits : (Nat → Int32)) (th_plan : (Nat → Int32)) : Option (Int32 × (Nat → Int32) × (Nat → Int32)) :=
  wl4 (fun (x2 : Int32) (z3 : Int32) (f4 : (Nat → Int32)) (f5 : (Nat → Int32)) c1 =>
    rdK 22 p1 0 (fun v6 =>
    if v6 ≤ x2 then
      some (z3, f4, f5)
    else
      rdK 22 p1 (1 + x2) (fun v7 =>
      bK2 (m_X11_laySigns F v7 z3 f4) (fun z8 f9 =>
      wl2 (fun (x11 : Int32) (f12 : (Nat → Int32)) c10 =>
        if (z8 - 3) ≤ x11 then
          c1 (x2 + 1) z8 f9 f12
        else
          bK1 (m_X11_digitAt F x11 z8 f9 th_plan) (fun r13 =>
          stK 36 f12 ((6 * x2) + x11) r13 (fun f14 =>
          c10 (x11 + 1) f14
          )
          )
        ) F 0 f5
      )
      )
    )
    ) F 0 th_signMany th_signs th_digits
abbrev rmX11_layDigits : Room := { frames := 3, cells := 0, slots := 0, locals := 74 }
set_option maxHeartbeats 4000000 in
set_option maxRecDepth 100000 in
theorem c_X11_layDigits (l : Launch) (g : Gl) (A_th A_p1 A_th_signs A_th_digits A_th_plan : Nat) (V_th_thrown V_th_text V_th_textSize V_th_readPage V_th_page V_th_trial V_th_book V_th_doings V_th_kept V_th_isKept V_th_seen V_th_seenPlace V_th_seenDigit V_th_seenIs V_th_seed V_th_good V_th_bad V_th_isNode V_th_base V_th_slot V_th_whichMany V_th_whichFirst V_th_value : Value)   (th_signMany : Int32) (p1 : (Nat → Int32)) (th_signs : (Nat → Int32)) (th_digits : (Nat → Int32)) (th_plan : (Nat → Int32)) (F : Nat) (u : Int32 × (Nat → Int32) × (Nat → Int32)) (hm : m_X11_layDigits F th_signMany p1 th_signs th_digits th_plan = some u) : Ct l g yX11_layDigits cX11_layDigits 4 none rmX11_layDigits [.ref A_th, .ref A_p1] [(A_th, oO 10 [V_th_thrown, V_th_text, V_th_textSize, V_th_readPage, V_th_page, V_th_trial, V_th_book, V_th_doings, V_th_kept, V_th_isKept, V_th_seen, V_th_seenPlace, V_th_seenDigit, V_th_seenIs, V_th_seed, .ref A_th_plan, V_th_good, V_th_bad, .ref A_th_signs, .int th_signMany, .ref A_th_digits, V_th_isNode, V_th_base, V_th_slot, V_th_whichMany, V_th_whichFirst, V_th_value]), (A_p1, iA g 22 p1), (A_th_signs, iA g 8 th_signs), (A_th_digits, iA g 36 th_digits), (A_th_plan, iA g 1372 th_plan)] none [(A_th, oO 10 [V_th_thrown, V_th_text, V_th_textSize, V_th_readPage, V_th_page, V_th_trial, V_th_book, V_th_doings, V_th_kept, V_th_isKept, V_th_seen, V_th_seenPlace, V_th_seenDigit, V_th_seenIs, V_th_seed, .ref A_th_plan, V_th_good, V_th_bad, .ref A_th_signs, .int u.1, .ref A_th_digits, V_th_isNode, V_th_base, V_th_slot, V_th_whichMany, V_th_whichFirst, V_th_value]), (A_p1, iA g 22 p1), (A_th_signs, iA g 8 u.2.1), (A_th_digits, iA g 36 u.2.2), (A_th_plan, iA g 1372 th_plan)] := by
  refine ent (own := RX11) (lv := [(0, .ref A_th), (1, .ref A_p1)]) (by decide) rfl (Nat.le_of_ble_eq_true rfl) rfl rfl ?_
  intro x C
  unfold m_X11_layDigits at hm
  refine b_iconst (v := 0) C dX11_layDigits_0 (by decide) ?_
  refine b_istore_n (lv' := [(2, .int 0), (0, .ref A_th), (1, .ref A_p1)]) C dX11_layDigits_1 rfl (by decide) rfl ?_
  refine Wb.lv (lv' := [(0, .ref A_th), (1, .ref A_p1), (2, .int 0)]) ?_ [1, 2, 0] rfl
  refine wl4_W (Wg := fun (x2 : Int32) (z3 : Int32) (f4 : (Nat → Int32)) (f5 : (Nat → Int32)) => Wb x [(A_th, oO 10 [V_th_thrown, V_th_text, V_th_textSize, V_th_readPage, V_th_page, V_th_trial, V_th_book, V_th_doings, V_th_kept, V_th_isKept, V_th_seen, V_th_seenPlace, V_th_seenDigit, V_th_seenIs, V_th_seed, .ref A_th_plan, V_th_good, V_th_bad, .ref A_th_signs, .int z3, .ref A_th_digits, V_th_isNode, V_th_base, V_th_slot, V_th_whichMany, V_th_whichFirst, V_th_value]), (A_p1, iA g 22 p1), (A_th_signs, iA g 8 f4), (A_th_digits, iA g 36 f5), (A_th_plan, iA g 1372 th_plan)] [(0, .ref A_th), (1, .ref A_p1), (2, .int x2)] 2 []) ?_ F 0 th_signMany th_signs th_digits hm
  intro x2 z3 f4 f5 c1 hc1 hm
  refine b_iload_n C dX11_layDigits_2 rfl 2 rfl ?_
  refine b_aload_n C dX11_layDigits_3 rfl 1 rfl ?_
  refine b_iconst (v := 0) C dX11_layDigits_4 (by decide) ?_
  refine b_iald C 1 rfl dX11_layDigits_5 hm (fun v6 hm => ?_)
  refine b_icmp_ge (tgt := 58) C dX11_layDigits_6 (by decide) hm (fun hm => ?_) (fun hm => ?_)
  · cases hm
    exact b_vret C dX11_layDigits_58
  · refine b_aload_n C dX11_layDigits_9 rfl 0 rfl ?_
    refine b_aload_n C dX11_layDigits_10 rfl 1 rfl ?_
    refine b_iconst (v := 1) C dX11_layDigits_11 (by decide) ?_
    refine b_iload_n C dX11_layDigits_12 rfl 2 rfl ?_
    refine b_iadd C dX11_layDigits_13 ?_
    refine b_iald C 1 rfl dX11_layDigits_14 hm (fun v7 hm => ?_)
    obtain ⟨z8, f9, hM, hm⟩ := bK2_some hm
    refine b_kV (w' := [(A_th, oO 10 [V_th_thrown, V_th_text, V_th_textSize, V_th_readPage, V_th_page, V_th_trial, V_th_book, V_th_doings, V_th_kept, V_th_isKept, V_th_seen, V_th_seenPlace, V_th_seenDigit, V_th_seenIs, V_th_seed, .ref A_th_plan, V_th_good, V_th_bad, .ref A_th_signs, .int z8, .ref A_th_digits, V_th_isNode, V_th_base, V_th_slot, V_th_whichMany, V_th_whichFirst, V_th_value]), (A_p1, iA g 22 p1), (A_th_signs, iA g 8 f9), (A_th_digits, iA g 36 f5), (A_th_plan, iA g 1372 th_plan)]) (st := []) (st2 := []) C cv_X11_laySigns tb975 (c_X11_laySigns l g A_th A_th_signs V_th_thrown V_th_text V_th_textSize V_th_readPage V_th_page V_th_trial V_th_book V_th_doings V_th_kept V_th_isKept V_th_seen V_th_seenPlace V_th_seenDigit V_th_seenIs V_th_seed (.ref A_th_plan) V_th_good V_th_bad (.ref A_th_digits) V_th_isNode V_th_base V_th_slot V_th_whichMany V_th_whichFirst V_th_value v7 z3 f4 F (z8, f9) hM) rfl 0 rfl rfl ⟨rfl, rfl, by decide, by decide⟩ (Nat.le_of_ble_eq_true rfl) [0, 2] rfl (by decide) rfl rfl dX11_layDigits_15 [some 0, none, some 1, none, none] (by decide) ⟨⟨rfl, rfl⟩, ⟨rfl, ⟨⟨rfl, rfl⟩, ⟨rfl, ⟨rfl, trivial⟩⟩⟩⟩⟩ rfl ?_
    refine b_iconst (v := 0) C dX11_layDigits_18 (by decide) ?_
    refine b_istore_n (lv' := [(3, .int 0), (0, .ref A_th), (1, .ref A_p1), (2, .int x2)]) C dX11_layDigits_19 rfl (by decide) rfl ?_
    refine Wb.lv (lv' := [(0, .ref A_th), (1, .ref A_p1), (2, .int x2), (3, .int 0)]) ?_ [1, 2, 3, 0] rfl
    refine wl2_W (Wg := fun (x11 : Int32) (f12 : (Nat → Int32)) => Wb x [(A_th, oO 10 [V_th_thrown, V_th_text, V_th_textSize, V_th_readPage, V_th_page, V_th_trial, V_th_book, V_th_doings, V_th_kept, V_th_isKept, V_th_seen, V_th_seenPlace, V_th_seenDigit, V_th_seenIs, V_th_seed, .ref A_th_plan, V_th_good, V_th_bad, .ref A_th_signs, .int z8, .ref A_th_digits, V_th_isNode, V_th_base, V_th_slot, V_th_whichMany, V_th_whichFirst, V_th_value]), (A_p1, iA g 22 p1), (A_th_signs, iA g 8 f9), (A_th_digits, iA g 36 f12), (A_th_plan, iA g 1372 th_plan)] [(0, .ref A_th), (1, .ref A_p1), (2, .int x2), (3, .int x11)] 20 []) ?_ F 0 f5 hm
    intro x11 f12 c10 hc10 hm
    refine b_iload_n C dX11_layDigits_20 rfl 3 rfl ?_
    refine b_aload_n C dX11_layDigits_21 rfl 0 rfl ?_
    refine gfX11_102 C 0 rfl rfl dX11_layDigits_22 ?_
    refine b_iconst (v := 3) C dX11_layDigits_25 (by decide) ?_
    refine b_isub C dX11_layDigits_26 ?_
    refine b_icmp_ge (tgt := 52) C dX11_layDigits_27 (by decide) hm (fun hm => ?_) (fun hm => ?_)
    · refine b_iinc (v2 := x2 + 1) (lv' := [(2, .int (x2 + 1)), (0, .ref A_th), (1, .ref A_p1), (3, .int x11)]) C dX11_layDigits_52 2 rfl rfl (by decide) rfl ?_
      refine b_goto (tgt := 2) C dX11_layDigits_55 (by decide) ?_
      exact Wb.lv (hc1 (x2 + 1) z8 f9 f12 hm) [1, 2, 0] rfl
    · refine b_aload_n C dX11_layDigits_30 rfl 0 rfl ?_
      refine gfX11_53 C 0 rfl rfl dX11_layDigits_31 ?_
      refine b_bipush (v := 6) C dX11_layDigits_34 (by decide) ?_
      refine b_iload_n C dX11_layDigits_36 rfl 2 rfl ?_
      refine b_imul C dX11_layDigits_37 ?_
      refine b_iload_n C dX11_layDigits_38 rfl 3 rfl ?_
      refine b_iadd C dX11_layDigits_39 ?_
      refine b_aload_n C dX11_layDigits_40 rfl 0 rfl ?_
      refine b_iload_n C dX11_layDigits_41 rfl 3 rfl ?_
      obtain ⟨r13, hM, hm⟩ := bK1_some hm
      refine b_kV (w' := [(A_th, oO 10 [V_th_thrown, V_th_text, V_th_textSize, V_th_readPage, V_th_page, V_th_trial, V_th_book, V_th_doings, V_th_kept, V_th_isKept, V_th_seen, V_th_seenPlace, V_th_seenDigit, V_th_seenIs, V_th_seed, .ref A_th_plan, V_th_good, V_th_bad, .ref A_th_signs, .int z8, .ref A_th_digits, V_th_isNode, V_th_base, V_th_slot, V_th_whichMany, V_th_whichFirst, V_th_value]), (A_p1, iA g 22 p1), (A_th_signs, iA g 8 f9), (A_th_digits, iA g 36 f12), (A_th_plan, iA g 1372 th_plan)]) (st := [.int ((6 * x2) + x11), .ref A_th_digits]) (st2 := [.int r13, .int ((6 * x2) + x11), .ref A_th_digits]) C cv_X11_digitAt tb982 (c_X11_digitAt l g A_th A_th_signs A_th_plan V_th_thrown V_th_text V_th_textSize V_th_readPage V_th_page V_th_trial V_th_book V_th_doings V_th_kept V_th_isKept V_th_seen V_th_seenPlace V_th_seenDigit V_th_seenIs V_th_seed V_th_good V_th_bad (.ref A_th_digits) V_th_isNode V_th_base V_th_slot V_th_whichMany V_th_whichFirst V_th_value x11 z8 f9 th_plan F r13 hM) rfl 0 rfl rfl ⟨rfl, rfl, by decide, by decide⟩ (Nat.le_of_ble_eq_true rfl) [0, 2, 4] rfl (by decide) rfl rfl dX11_layDigits_42 [some 0, none, some 1, none, some 2] (by decide) ⟨⟨rfl, rfl⟩, ⟨rfl, ⟨⟨rfl, rfl⟩, ⟨rfl, ⟨⟨rfl, rfl⟩, trivial⟩⟩⟩⟩⟩ rfl ?_
      refine b_iast C 3 rfl dX11_layDigits_45 hm (fun f14 hm => Wb.to (w' := [(A_th, oO 10 [V_th_thrown, V_th_text, V_th_textSize, V_th_readPage, V_th_page, V_th_trial, V_th_book, V_th_doings, V_th_kept, V_th_isKept, V_th_seen, V_th_seenPlace, V_th_seenDigit, V_th_seenIs, V_th_seed, .ref A_th_plan, V_th_good, V_th_bad, .ref A_th_signs, .int z8, .ref A_th_digits, V_th_isNode, V_th_base, V_th_slot, V_th_whichMany, V_th_whichFirst, V_th_value]), (A_p1, iA g 22 p1), (A_th_signs, iA g 8 f9), (A_th_digits, iA g 36 f14), (A_th_plan, iA g 1372 th_plan)]) rfl ?_)
      refine b_iinc (v2 := x11 + 1) (lv' := [(3, .int (x11 + 1)), (0, .ref A_th), (1, .ref A_p1), (2, .int x2)]) C dX11_layDigits_46 3 rfl rfl (by decide) rfl ?_
      refine b_goto (tgt := 20) C dX11_layDigits_49 (by decide) ?_
      exact Wb.lv (hc10 (x11 + 1) f14 hm) [1, 2, 3, 0] rfl
/-- BreakLearnerModel.countPlace(IIZZ)V -/
def m_X11_countPlace (F : Nat)  (n1 : Int32) (n2 : Int32) (n3 : Int32) (n4 : Int32) (th_signMany : Int32) (th_signs : (Nat → Int32)) (th_good : (Nat → Int32)) (th_bad : (Nat → Int32)) : Option ((Nat → Int32) × (Nat → Int32)) :=
  wl3 (fun (x2 : Int32) (f3 : (Nat → Int32)) (f4 : (Nat → Int32)) c1 =>
    if n1 < x2 then
      some (f3, f4)
    else
      bK1 (m_X11_fits F n2 n1 x2 th_signMany th_signs) (fun r5 =>
      if r5 = (-9) then
        c1 (x2 + 1) f3 f4
      else
        rdK 1372 f3 r5 (fun v6 =>
        jn1 (fun (y7 : Int32) =>
          stK 1372 f3 r5 (v6 + y7) (fun f9 =>
          rdK 1372 f4 r5 (fun v10 =>
          jn1 (fun (y11 : Int32) =>
            stK 1372 f4 r5 (v10 + y11) (fun f13 =>
            c1 (x2 + 1) f9 f13
            )
            ) (fun k12 =>
            if n4 = 0 then
              k12 0
            else
              k12 1
            )
          )
          )
          ) (fun k8 =>
          if n3 = 0 then
            k8 0
          else
            k8 1
          )
        )
      )
    ) F 0 th_good th_bad
abbrev rmX11_countPlace : Room := { frames := 2, cells := 0, slots := 0, locals := 49 }
set_option maxHeartbeats 4000000 in
set_option maxRecDepth 100000 in
theorem c_X11_countPlace (l : Launch) (g : Gl) (A_th A_th_signs A_th_good A_th_bad : Nat) (V_th_thrown V_th_text V_th_textSize V_th_readPage V_th_page V_th_trial V_th_book V_th_doings V_th_kept V_th_isKept V_th_seen V_th_seenPlace V_th_seenDigit V_th_seenIs V_th_seed V_th_plan V_th_digits V_th_isNode V_th_base V_th_slot V_th_whichMany V_th_whichFirst V_th_value : Value)  (n1 : Int32) (n2 : Int32) (n3 : Int32) (n4 : Int32) (th_signMany : Int32) (th_signs : (Nat → Int32)) (th_good : (Nat → Int32)) (th_bad : (Nat → Int32)) (F : Nat) (u : (Nat → Int32) × (Nat → Int32)) (hm : m_X11_countPlace F n1 n2 n3 n4 th_signMany th_signs th_good th_bad = some u) : Ct l g yX11_countPlace cX11_countPlace 7 none rmX11_countPlace [.ref A_th, .int n1, .int n2, .int n3, .int n4] [(A_th, oO 10 [V_th_thrown, V_th_text, V_th_textSize, V_th_readPage, V_th_page, V_th_trial, V_th_book, V_th_doings, V_th_kept, V_th_isKept, V_th_seen, V_th_seenPlace, V_th_seenDigit, V_th_seenIs, V_th_seed, V_th_plan, .ref A_th_good, .ref A_th_bad, .ref A_th_signs, .int th_signMany, V_th_digits, V_th_isNode, V_th_base, V_th_slot, V_th_whichMany, V_th_whichFirst, V_th_value]), (A_th_signs, iA g 8 th_signs), (A_th_good, iA g 1372 th_good), (A_th_bad, iA g 1372 th_bad)] none [(A_th, oO 10 [V_th_thrown, V_th_text, V_th_textSize, V_th_readPage, V_th_page, V_th_trial, V_th_book, V_th_doings, V_th_kept, V_th_isKept, V_th_seen, V_th_seenPlace, V_th_seenDigit, V_th_seenIs, V_th_seed, V_th_plan, .ref A_th_good, .ref A_th_bad, .ref A_th_signs, .int th_signMany, V_th_digits, V_th_isNode, V_th_base, V_th_slot, V_th_whichMany, V_th_whichFirst, V_th_value]), (A_th_signs, iA g 8 th_signs), (A_th_good, iA g 1372 u.1), (A_th_bad, iA g 1372 u.2)] := by
  refine ent (own := RX11) (lv := [(0, .ref A_th), (1, .int n1), (2, .int n2), (3, .int n3), (4, .int n4)]) (by decide) rfl (Nat.le_of_ble_eq_true rfl) rfl rfl ?_
  intro x C
  unfold m_X11_countPlace at hm
  refine b_iconst (v := 0) C dX11_countPlace_0 (by decide) ?_
  refine b_istore (lv' := [(5, .int 0), (0, .ref A_th), (1, .int n1), (2, .int n2), (3, .int n3), (4, .int n4)]) C dX11_countPlace_1 (by decide) rfl ?_
  refine Wb.lv (lv' := [(0, .ref A_th), (1, .int n1), (2, .int n2), (3, .int n3), (4, .int n4), (5, .int 0)]) ?_ [1, 2, 3, 4, 5, 0] rfl
  refine wl3_W (Wg := fun (x2 : Int32) (f3 : (Nat → Int32)) (f4 : (Nat → Int32)) => Wb x [(A_th, oO 10 [V_th_thrown, V_th_text, V_th_textSize, V_th_readPage, V_th_page, V_th_trial, V_th_book, V_th_doings, V_th_kept, V_th_isKept, V_th_seen, V_th_seenPlace, V_th_seenDigit, V_th_seenIs, V_th_seed, V_th_plan, .ref A_th_good, .ref A_th_bad, .ref A_th_signs, .int th_signMany, V_th_digits, V_th_isNode, V_th_base, V_th_slot, V_th_whichMany, V_th_whichFirst, V_th_value]), (A_th_signs, iA g 8 th_signs), (A_th_good, iA g 1372 f3), (A_th_bad, iA g 1372 f4)] [(0, .ref A_th), (1, .int n1), (2, .int n2), (3, .int n3), (4, .int n4), (5, .int x2)] 3 []) ?_ F 0 th_good th_bad hm
  intro x2 f3 f4 c1 hc1 hm
  refine b_iload C dX11_countPlace_3 5 rfl ?_
  refine b_iload_n C dX11_countPlace_5 rfl 1 rfl ?_
  refine b_icmp_gt (tgt := 71) C dX11_countPlace_6 (by decide) hm (fun hm => ?_) (fun hm => ?_)
  · cases hm
    exact b_vret C dX11_countPlace_71
  · refine b_aload_n C dX11_countPlace_9 rfl 0 rfl ?_
    refine b_iload_n C dX11_countPlace_10 rfl 2 rfl ?_
    refine b_iload_n C dX11_countPlace_11 rfl 1 rfl ?_
    refine b_iload C dX11_countPlace_12 5 rfl ?_
    obtain ⟨r5, hM, hm⟩ := bK1_some hm
    refine b_kV (w' := [(A_th, oO 10 [V_th_thrown, V_th_text, V_th_textSize, V_th_readPage, V_th_page, V_th_trial, V_th_book, V_th_doings, V_th_kept, V_th_isKept, V_th_seen, V_th_seenPlace, V_th_seenDigit, V_th_seenIs, V_th_seed, V_th_plan, .ref A_th_good, .ref A_th_bad, .ref A_th_signs, .int th_signMany, V_th_digits, V_th_isNode, V_th_base, V_th_slot, V_th_whichMany, V_th_whichFirst, V_th_value]), (A_th_signs, iA g 8 th_signs), (A_th_good, iA g 1372 f3), (A_th_bad, iA g 1372 f4)]) (st := []) (st2 := [.int r5]) C cv_X11_fits tb986 (c_X11_fits l g A_th A_th_signs V_th_thrown V_th_text V_th_textSize V_th_readPage V_th_page V_th_trial V_th_book V_th_doings V_th_kept V_th_isKept V_th_seen V_th_seenPlace V_th_seenDigit V_th_seenIs V_th_seed V_th_plan (.ref A_th_good) (.ref A_th_bad) V_th_digits V_th_isNode V_th_base V_th_slot V_th_whichMany V_th_whichFirst V_th_value n2 n1 x2 th_signMany th_signs F r5 hM) rfl 0 rfl rfl ⟨rfl, rfl, by decide, by decide⟩ (Nat.le_of_ble_eq_true rfl) [0, 1] rfl (by decide) rfl rfl dX11_countPlace_14 [some 0, some 1, none, none] (by decide) ⟨⟨rfl, rfl⟩, ⟨⟨rfl, rfl⟩, ⟨rfl, ⟨rfl, trivial⟩⟩⟩⟩ rfl ?_
    refine b_istore (lv' := [(6, .int r5), (0, .ref A_th), (1, .int n1), (2, .int n2), (3, .int n3), (4, .int n4), (5, .int x2)]) C dX11_countPlace_17 (by decide) rfl ?_
    refine b_iload C dX11_countPlace_19 0 rfl ?_
    refine b_bipush (v := (-9)) C dX11_countPlace_21 (by decide) ?_
    refine b_icmp_eq (tgt := 65) C dX11_countPlace_23 (by decide) hm (fun hm => ?_) (fun hm => ?_)
    · refine b_iinc (v2 := x2 + 1) (lv' := [(5, .int (x2 + 1)), (6, .int r5), (0, .ref A_th), (1, .int n1), (2, .int n2), (3, .int n3), (4, .int n4)]) C dX11_countPlace_65 6 rfl rfl (by decide) rfl ?_
      refine b_goto (tgt := 3) C dX11_countPlace_68 (by decide) ?_
      exact Wb.lv (hc1 (x2 + 1) f3 f4 hm) [2, 3, 4, 5, 6, 0] rfl
    · refine b_aload_n C dX11_countPlace_26 rfl 1 rfl ?_
      refine gfX11_44 C 0 rfl rfl dX11_countPlace_27 ?_
      refine b_iload C dX11_countPlace_30 0 rfl ?_
      refine b_dup2 C dX11_countPlace_32 rfl rfl ?_
      refine b_iald C 2 rfl dX11_countPlace_33 hm (fun v6 hm => ?_)
      refine b_iload_n C dX11_countPlace_34 rfl 4 rfl ?_
      obtain ⟨k8, hk8, hm⟩ := jn1_some hm
      have jk8 : ∀ (y7 : Int32), k8 y7 = some u → Wb x [(A_th, oO 10 [V_th_thrown, V_th_text, V_th_textSize, V_th_readPage, V_th_page, V_th_trial, V_th_book, V_th_doings, V_th_kept, V_th_isKept, V_th_seen, V_th_seenPlace, V_th_seenDigit, V_th_seenIs, V_th_seed, V_th_plan, .ref A_th_good, .ref A_th_bad, .ref A_th_signs, .int th_signMany, V_th_digits, V_th_isNode, V_th_base, V_th_slot, V_th_whichMany, V_th_whichFirst, V_th_value]), (A_th_signs, iA g 8 th_signs), (A_th_good, iA g 1372 f3), (A_th_bad, iA g 1372 f4)] [(0, .ref A_th), (1, .int n1), (2, .int n2), (3, .int n3), (4, .int n4), (5, .int x2), (6, .int r5)] 43 [.int y7, .int v6, .int r5, .ref A_th_good] := by
        intro y7 hm
        have hm := hk8 _ hm
        refine b_iadd C dX11_countPlace_43 ?_
        refine b_iast C 2 rfl dX11_countPlace_44 hm (fun f9 hm => Wb.to (w' := [(A_th, oO 10 [V_th_thrown, V_th_text, V_th_textSize, V_th_readPage, V_th_page, V_th_trial, V_th_book, V_th_doings, V_th_kept, V_th_isKept, V_th_seen, V_th_seenPlace, V_th_seenDigit, V_th_seenIs, V_th_seed, V_th_plan, .ref A_th_good, .ref A_th_bad, .ref A_th_signs, .int th_signMany, V_th_digits, V_th_isNode, V_th_base, V_th_slot, V_th_whichMany, V_th_whichFirst, V_th_value]), (A_th_signs, iA g 8 th_signs), (A_th_good, iA g 1372 f9), (A_th_bad, iA g 1372 f4)]) rfl ?_)
        refine b_aload_n C dX11_countPlace_45 rfl 0 rfl ?_
        refine gfX11_47 C 0 rfl rfl dX11_countPlace_46 ?_
        refine b_iload C dX11_countPlace_49 6 rfl ?_
        refine b_dup2 C dX11_countPlace_51 rfl rfl ?_
        refine b_iald C 3 rfl dX11_countPlace_52 hm (fun v10 hm => ?_)
        refine b_iload C dX11_countPlace_53 4 rfl ?_
        obtain ⟨k12, hk12, hm⟩ := jn1_some hm
        have jk12 : ∀ (y11 : Int32), k12 y11 = some u → Wb x [(A_th, oO 10 [V_th_thrown, V_th_text, V_th_textSize, V_th_readPage, V_th_page, V_th_trial, V_th_book, V_th_doings, V_th_kept, V_th_isKept, V_th_seen, V_th_seenPlace, V_th_seenDigit, V_th_seenIs, V_th_seed, V_th_plan, .ref A_th_good, .ref A_th_bad, .ref A_th_signs, .int th_signMany, V_th_digits, V_th_isNode, V_th_base, V_th_slot, V_th_whichMany, V_th_whichFirst, V_th_value]), (A_th_signs, iA g 8 th_signs), (A_th_good, iA g 1372 f9), (A_th_bad, iA g 1372 f4)] [(0, .ref A_th), (1, .int n1), (2, .int n2), (3, .int n3), (4, .int n4), (5, .int x2)] 63 [.int y11, .int v10, .int r5, .ref A_th_bad] := by
          intro y11 hm
          have hm := hk12 _ hm
          refine b_iadd C dX11_countPlace_63 ?_
          refine b_iast C 3 rfl dX11_countPlace_64 hm (fun f13 hm => Wb.to (w' := [(A_th, oO 10 [V_th_thrown, V_th_text, V_th_textSize, V_th_readPage, V_th_page, V_th_trial, V_th_book, V_th_doings, V_th_kept, V_th_isKept, V_th_seen, V_th_seenPlace, V_th_seenDigit, V_th_seenIs, V_th_seed, V_th_plan, .ref A_th_good, .ref A_th_bad, .ref A_th_signs, .int th_signMany, V_th_digits, V_th_isNode, V_th_base, V_th_slot, V_th_whichMany, V_th_whichFirst, V_th_value]), (A_th_signs, iA g 8 th_signs), (A_th_good, iA g 1372 f9), (A_th_bad, iA g 1372 f13)]) rfl ?_)
          refine b_iinc (v2 := x2 + 1) (lv' := [(5, .int (x2 + 1)), (0, .ref A_th), (1, .int n1), (2, .int n2), (3, .int n3), (4, .int n4)]) C dX11_countPlace_65 5 rfl rfl (by decide) rfl ?_
          refine b_goto (tgt := 3) C dX11_countPlace_68 (by decide) ?_
          exact Wb.lv (hc1 (x2 + 1) f9 f13 hm) [1, 2, 3, 4, 5, 0] rfl
        refine b_if_eq (tgt := 62) C dX11_countPlace_55 (by decide) hm (fun hm => ?_) (fun hm => ?_)
        · refine b_iconst (v := 0) C dX11_countPlace_62 (by decide) ?_
          exact Wb.lv (jk12 0 hm) [0, 1, 2, 3, 4, 5] rfl
        · refine b_iconst (v := 1) C dX11_countPlace_58 (by decide) ?_
          refine b_goto (tgt := 63) C dX11_countPlace_59 (by decide) ?_
          exact Wb.lv (jk12 1 hm) [0, 1, 2, 3, 4, 5] rfl
      refine b_if_eq (tgt := 42) C dX11_countPlace_35 (by decide) hm (fun hm => ?_) (fun hm => ?_)
      · refine b_iconst (v := 0) C dX11_countPlace_42 (by decide) ?_
        exact Wb.lv (jk8 0 hm) [1, 2, 3, 4, 5, 6, 0] rfl
      · refine b_iconst (v := 1) C dX11_countPlace_38 (by decide) ?_
        refine b_goto (tgt := 43) C dX11_countPlace_39 (by decide) ?_
        exact Wb.lv (jk8 1 hm) [1, 2, 3, 4, 5, 6, 0] rfl
/-- BreakLearnerModel.count([IIII)V -/
def m_X11_count (F : Nat)  (n2 : Int32) (n3 : Int32) (n4 : Int32) (th_signMany : Int32) (p1 : (Nat → Int32)) (th_good : (Nat → Int32)) (th_bad : (Nat → Int32)) (th_signs : (Nat → Int32)) (th_digits : (Nat → Int32)) : Option (Int32 × (Nat → Int32) × (Nat → Int32) × (Nat → Int32)) :=
  wl3 (fun (x2 : Int32) (f3 : (Nat → Int32)) (f4 : (Nat → Int32)) c1 =>
    if 1372 ≤ x2 then
      wl5 (fun (x6 : Int32) (z7 : Int32) (f8 : (Nat → Int32)) (f9 : (Nat → Int32)) (f10 : (Nat → Int32)) c5 =>
        rdK 22 p1 0 (fun v11 =>
        if v11 ≤ x6 then
          some (z7, f8, f9, f10)
        else
          rdK 22 p1 (1 + x6) (fun v12 =>
          bK2 (m_X11_laySigns F v12 z7 f10) (fun z13 f14 =>
          wl3 (fun (x16 : Int32) (f17 : (Nat → Int32)) (f18 : (Nat → Int32)) c15 =>
            if (z13 - 3) ≤ x16 then
              c5 (x6 + 1) z13 f17 f18 f14
            else
              bK1 (m_X11_has F n2 x6) (fun r19 =>
              if r19 = 0 then
                c5 (x6 + 1) z13 f17 f18 f14
              else
                rdK 22 p1 (7 + x6) (fun v20 =>
                bK1 (m_X11_has F v20 x16) (fun r21 =>
                rdK 36 th_digits ((6 * x6) + x16) (fun v22 =>
                jn1 (fun (y23 : Int32) =>
                  if (irm n3 2) = 1 then
                    jn1 (fun (y33 : Int32) =>
                      jn1 (fun (y35 : Int32) =>
                        bK2 (m_X11_countPlace F n4 x16 y33 y35 z13 f14 f17 f18) (fun f37 f38 =>
                        c15 (x16 + 1) f37 f38
                        )
                        ) (fun k36 =>
                        if r21 = 0 then
                          k36 1
                        else
                          k36 0
                        )
                      ) (fun k34 =>
                      jn0 (
                        k34 0
                        ) (fun k39 =>
                        if r21 = 0 then
                          k39
                        else
                          if y23 = 0 then
                            k34 1
                          else
                            k39
                        )
                      )
                  else
                    jn1 (fun (y25 : Int32) =>
                      jn1 (fun (y27 : Int32) =>
                        bK2 (m_X11_countPlace F n4 x16 y25 y27 z13 f14 f17 f18) (fun f29 f30 =>
                        c15 (x16 + 1) f29 f30
                        )
                        ) (fun k28 =>
                        jn0 (
                          k28 0
                          ) (fun k31 =>
                          if y23 = 0 then
                            k31
                          else
                            if r21 = 0 then
                              k31
                            else
                              k28 1
                          )
                        )
                      ) (fun k26 =>
                      jn0 (
                        k26 0
                        ) (fun k32 =>
                        if y23 = 0 then
                          k32
                        else
                          if r21 = 0 then
                            k26 1
                          else
                            k32
                        )
                      )
                  ) (fun k24 =>
                  if (irm v22 2) = 1 then
                    k24 1
                  else
                    k24 0
                  )
                )
                )
                )
              )
            ) F 0 f8 f9
          )
          )
        )
        ) F 0 th_signMany f3 f4 th_signs
    else
      stK 1372 f3 x2 0 (fun f40 =>
      stK 1372 f4 x2 0 (fun f41 =>
      c1 (x2 + 1) f40 f41
      )
      )
    ) F 0 th_good th_bad
abbrev rmX11_count : Room := { frames := 3, cells := 0, slots := 0, locals := 75 }
set_option maxHeartbeats 4000000 in
set_option maxRecDepth 100000 in
theorem c_X11_count (l : Launch) (g : Gl) (A_th A_p1 A_th_good A_th_bad A_th_signs A_th_digits : Nat) (V_th_thrown V_th_text V_th_textSize V_th_readPage V_th_page V_th_trial V_th_book V_th_doings V_th_kept V_th_isKept V_th_seen V_th_seenPlace V_th_seenDigit V_th_seenIs V_th_seed V_th_plan V_th_isNode V_th_base V_th_slot V_th_whichMany V_th_whichFirst V_th_value : Value)  (n2 : Int32) (n3 : Int32) (n4 : Int32) (th_signMany : Int32) (p1 : (Nat → Int32)) (th_good : (Nat → Int32)) (th_bad : (Nat → Int32)) (th_signs : (Nat → Int32)) (th_digits : (Nat → Int32)) (F : Nat) (u : Int32 × (Nat → Int32) × (Nat → Int32) × (Nat → Int32)) (hm : m_X11_count F n2 n3 n4 th_signMany p1 th_good th_bad th_signs th_digits = some u) : Ct l g yX11_count cX11_count 9 none rmX11_count [.ref A_th, .ref A_p1, .int n2, .int n3, .int n4] [(A_th, oO 10 [V_th_thrown, V_th_text, V_th_textSize, V_th_readPage, V_th_page, V_th_trial, V_th_book, V_th_doings, V_th_kept, V_th_isKept, V_th_seen, V_th_seenPlace, V_th_seenDigit, V_th_seenIs, V_th_seed, V_th_plan, .ref A_th_good, .ref A_th_bad, .ref A_th_signs, .int th_signMany, .ref A_th_digits, V_th_isNode, V_th_base, V_th_slot, V_th_whichMany, V_th_whichFirst, V_th_value]), (A_p1, iA g 22 p1), (A_th_good, iA g 1372 th_good), (A_th_bad, iA g 1372 th_bad), (A_th_signs, iA g 8 th_signs), (A_th_digits, iA g 36 th_digits)] none [(A_th, oO 10 [V_th_thrown, V_th_text, V_th_textSize, V_th_readPage, V_th_page, V_th_trial, V_th_book, V_th_doings, V_th_kept, V_th_isKept, V_th_seen, V_th_seenPlace, V_th_seenDigit, V_th_seenIs, V_th_seed, V_th_plan, .ref A_th_good, .ref A_th_bad, .ref A_th_signs, .int u.1, .ref A_th_digits, V_th_isNode, V_th_base, V_th_slot, V_th_whichMany, V_th_whichFirst, V_th_value]), (A_p1, iA g 22 p1), (A_th_good, iA g 1372 u.2.1), (A_th_bad, iA g 1372 u.2.2.1), (A_th_signs, iA g 8 u.2.2.2), (A_th_digits, iA g 36 th_digits)] := by
  refine ent (own := RX11) (lv := [(0, .ref A_th), (1, .ref A_p1), (2, .int n2), (3, .int n3), (4, .int n4)]) (by decide) rfl (Nat.le_of_ble_eq_true rfl) rfl rfl ?_
  intro x C
  unfold m_X11_count at hm
  refine b_iconst (v := 0) C dX11_count_0 (by decide) ?_
  refine b_istore (lv' := [(5, .int 0), (0, .ref A_th), (1, .ref A_p1), (2, .int n2), (3, .int n3), (4, .int n4)]) C dX11_count_1 (by decide) rfl ?_
  refine Wb.lv (lv' := [(0, .ref A_th), (1, .ref A_p1), (2, .int n2), (3, .int n3), (4, .int n4), (5, .int 0)]) ?_ [1, 2, 3, 4, 5, 0] rfl
  refine wl3_W (Wg := fun (x2 : Int32) (f3 : (Nat → Int32)) (f4 : (Nat → Int32)) => Wb x [(A_th, oO 10 [V_th_thrown, V_th_text, V_th_textSize, V_th_readPage, V_th_page, V_th_trial, V_th_book, V_th_doings, V_th_kept, V_th_isKept, V_th_seen, V_th_seenPlace, V_th_seenDigit, V_th_seenIs, V_th_seed, V_th_plan, .ref A_th_good, .ref A_th_bad, .ref A_th_signs, .int th_signMany, .ref A_th_digits, V_th_isNode, V_th_base, V_th_slot, V_th_whichMany, V_th_whichFirst, V_th_value]), (A_p1, iA g 22 p1), (A_th_good, iA g 1372 f3), (A_th_bad, iA g 1372 f4), (A_th_signs, iA g 8 th_signs), (A_th_digits, iA g 36 th_digits)] [(0, .ref A_th), (1, .ref A_p1), (2, .int n2), (3, .int n3), (4, .int n4), (5, .int x2)] 3 []) ?_ F 0 th_good th_bad hm
  intro x2 f3 f4 c1 hc1 hm
  refine b_iload C dX11_count_3 5 rfl ?_
  refine b_sipush (v := 1372) C dX11_count_5 (by decide) ?_
  refine b_icmp_ge (tgt := 33) C dX11_count_8 (by decide) hm (fun hm => ?_) (fun hm => ?_)
  · refine b_iconst (v := 0) C dX11_count_33 (by decide) ?_
    refine b_istore (lv' := [(5, .int 0), (0, .ref A_th), (1, .ref A_p1), (2, .int n2), (3, .int n3), (4, .int n4)]) C dX11_count_34 (by decide) rfl ?_
    refine Wb.lv (lv' := [(0, .ref A_th), (1, .ref A_p1), (2, .int n2), (3, .int n3), (4, .int n4), (5, .int 0)]) ?_ [1, 2, 3, 4, 5, 0] rfl
    refine wl5_W (Wg := fun (x6 : Int32) (z7 : Int32) (f8 : (Nat → Int32)) (f9 : (Nat → Int32)) (f10 : (Nat → Int32)) => Wb x [(A_th, oO 10 [V_th_thrown, V_th_text, V_th_textSize, V_th_readPage, V_th_page, V_th_trial, V_th_book, V_th_doings, V_th_kept, V_th_isKept, V_th_seen, V_th_seenPlace, V_th_seenDigit, V_th_seenIs, V_th_seed, V_th_plan, .ref A_th_good, .ref A_th_bad, .ref A_th_signs, .int z7, .ref A_th_digits, V_th_isNode, V_th_base, V_th_slot, V_th_whichMany, V_th_whichFirst, V_th_value]), (A_p1, iA g 22 p1), (A_th_good, iA g 1372 f8), (A_th_bad, iA g 1372 f9), (A_th_signs, iA g 8 f10), (A_th_digits, iA g 36 th_digits)] [(0, .ref A_th), (1, .ref A_p1), (2, .int n2), (3, .int n3), (4, .int n4), (5, .int x6)] 36 []) ?_ F 0 th_signMany f3 f4 th_signs hm
    intro x6 z7 f8 f9 f10 c5 hc5 hm
    refine b_iload C dX11_count_36 5 rfl ?_
    refine b_aload_n C dX11_count_38 rfl 1 rfl ?_
    refine b_iconst (v := 0) C dX11_count_39 (by decide) ?_
    refine b_iald C 1 rfl dX11_count_40 hm (fun v11 hm => ?_)
    refine b_icmp_ge (tgt := 210) C dX11_count_41 (by decide) hm (fun hm => ?_) (fun hm => ?_)
    · cases hm
      exact b_vret C dX11_count_210
    · refine b_aload_n C dX11_count_44 rfl 0 rfl ?_
      refine b_aload_n C dX11_count_45 rfl 1 rfl ?_
      refine b_iconst (v := 1) C dX11_count_46 (by decide) ?_
      refine b_iload C dX11_count_47 5 rfl ?_
      refine b_iadd C dX11_count_49 ?_
      refine b_iald C 1 rfl dX11_count_50 hm (fun v12 hm => ?_)
      obtain ⟨z13, f14, hM, hm⟩ := bK2_some hm
      refine b_kV (w' := [(A_th, oO 10 [V_th_thrown, V_th_text, V_th_textSize, V_th_readPage, V_th_page, V_th_trial, V_th_book, V_th_doings, V_th_kept, V_th_isKept, V_th_seen, V_th_seenPlace, V_th_seenDigit, V_th_seenIs, V_th_seed, V_th_plan, .ref A_th_good, .ref A_th_bad, .ref A_th_signs, .int z13, .ref A_th_digits, V_th_isNode, V_th_base, V_th_slot, V_th_whichMany, V_th_whichFirst, V_th_value]), (A_p1, iA g 22 p1), (A_th_good, iA g 1372 f8), (A_th_bad, iA g 1372 f9), (A_th_signs, iA g 8 f14), (A_th_digits, iA g 36 th_digits)]) (st := []) (st2 := []) C cv_X11_laySigns tb975 (c_X11_laySigns l g A_th A_th_signs V_th_thrown V_th_text V_th_textSize V_th_readPage V_th_page V_th_trial V_th_book V_th_doings V_th_kept V_th_isKept V_th_seen V_th_seenPlace V_th_seenDigit V_th_seenIs V_th_seed V_th_plan (.ref A_th_good) (.ref A_th_bad) (.ref A_th_digits) V_th_isNode V_th_base V_th_slot V_th_whichMany V_th_whichFirst V_th_value v12 z7 f10 F (z13, f14) hM) rfl 0 rfl rfl ⟨rfl, rfl, by decide, by decide⟩ (Nat.le_of_ble_eq_true rfl) [0, 4] rfl (by decide) rfl rfl dX11_count_51 [some 0, none, none, none, some 1, none] (by decide) ⟨⟨rfl, rfl⟩, ⟨rfl, ⟨rfl, ⟨rfl, ⟨⟨rfl, rfl⟩, ⟨rfl, trivial⟩⟩⟩⟩⟩⟩ rfl ?_
      refine b_iconst (v := 0) C dX11_count_54 (by decide) ?_
      refine b_istore (lv' := [(6, .int 0), (0, .ref A_th), (1, .ref A_p1), (2, .int n2), (3, .int n3), (4, .int n4), (5, .int x6)]) C dX11_count_55 (by decide) rfl ?_
      refine Wb.lv (lv' := [(0, .ref A_th), (1, .ref A_p1), (2, .int n2), (3, .int n3), (4, .int n4), (5, .int x6), (6, .int 0)]) ?_ [1, 2, 3, 4, 5, 6, 0] rfl
      refine wl3_W (Wg := fun (x16 : Int32) (f17 : (Nat → Int32)) (f18 : (Nat → Int32)) => Wb x [(A_th, oO 10 [V_th_thrown, V_th_text, V_th_textSize, V_th_readPage, V_th_page, V_th_trial, V_th_book, V_th_doings, V_th_kept, V_th_isKept, V_th_seen, V_th_seenPlace, V_th_seenDigit, V_th_seenIs, V_th_seed, V_th_plan, .ref A_th_good, .ref A_th_bad, .ref A_th_signs, .int z13, .ref A_th_digits, V_th_isNode, V_th_base, V_th_slot, V_th_whichMany, V_th_whichFirst, V_th_value]), (A_p1, iA g 22 p1), (A_th_good, iA g 1372 f17), (A_th_bad, iA g 1372 f18), (A_th_signs, iA g 8 f14), (A_th_digits, iA g 36 th_digits)] [(0, .ref A_th), (1, .ref A_p1), (2, .int n2), (3, .int n3), (4, .int n4), (5, .int x6), (6, .int x16)] 57 []) ?_ F 0 f8 f9 hm
      intro x16 f17 f18 c15 hc15 hm
      refine b_iload C dX11_count_57 6 rfl ?_
      refine b_aload_n C dX11_count_59 rfl 0 rfl ?_
      refine gfX11_102 C 0 rfl rfl dX11_count_60 ?_
      refine b_iconst (v := 3) C dX11_count_63 (by decide) ?_
      refine b_isub C dX11_count_64 ?_
      refine b_icmp_ge (tgt := 204) C dX11_count_65 (by decide) hm (fun hm => ?_) (fun hm => ?_)
      · refine b_iinc (v2 := x6 + 1) (lv' := [(5, .int (x6 + 1)), (0, .ref A_th), (1, .ref A_p1), (2, .int n2), (3, .int n3), (4, .int n4), (6, .int x16)]) C dX11_count_204 5 rfl rfl (by decide) rfl ?_
        refine b_goto (tgt := 36) C dX11_count_207 (by decide) ?_
        exact Wb.lv (hc5 (x6 + 1) z13 f17 f18 f14 hm) [1, 2, 3, 4, 5, 0] rfl
      · refine b_iload_n C dX11_count_68 rfl 2 rfl ?_
        refine b_iload C dX11_count_69 5 rfl ?_
        obtain ⟨r19, hM, hm⟩ := bK1_some hm
        refine b_kS (w' := [(A_th, oO 10 [V_th_thrown, V_th_text, V_th_textSize, V_th_readPage, V_th_page, V_th_trial, V_th_book, V_th_doings, V_th_kept, V_th_isKept, V_th_seen, V_th_seenPlace, V_th_seenDigit, V_th_seenIs, V_th_seed, V_th_plan, .ref A_th_good, .ref A_th_bad, .ref A_th_signs, .int z13, .ref A_th_digits, V_th_isNode, V_th_base, V_th_slot, V_th_whichMany, V_th_whichFirst, V_th_value]), (A_p1, iA g 22 p1), (A_th_good, iA g 1372 f17), (A_th_bad, iA g 1372 f18), (A_th_signs, iA g 8 f14), (A_th_digits, iA g 36 th_digits)]) (st := []) (st2 := [.int r19]) C cs_X11_has tb998 (c_X11_has l g n2 x6 F r19 hM) rfl ⟨rfl, rfl, by decide, by decide⟩ (Nat.le_of_ble_eq_true rfl) [] rfl (by decide) rfl rfl dX11_count_71 [none, none, none, none, none, none] (by decide) ⟨rfl, ⟨rfl, ⟨rfl, ⟨rfl, ⟨rfl, ⟨rfl, trivial⟩⟩⟩⟩⟩⟩ rfl ?_
        refine b_if_eq (tgt := 204) C dX11_count_74 (by decide) hm (fun hm => ?_) (fun hm => ?_)
        · refine b_iinc (v2 := x6 + 1) (lv' := [(5, .int (x6 + 1)), (0, .ref A_th), (1, .ref A_p1), (2, .int n2), (3, .int n3), (4, .int n4), (6, .int x16)]) C dX11_count_204 5 rfl rfl (by decide) rfl ?_
          refine b_goto (tgt := 36) C dX11_count_207 (by decide) ?_
          exact Wb.lv (hc5 (x6 + 1) z13 f17 f18 f14 hm) [1, 2, 3, 4, 5, 0] rfl
        · refine b_aload_n C dX11_count_77 rfl 1 rfl ?_
          refine b_bipush (v := 7) C dX11_count_78 (by decide) ?_
          refine b_iload C dX11_count_80 5 rfl ?_
          refine b_iadd C dX11_count_82 ?_
          refine b_iald C 1 rfl dX11_count_83 hm (fun v20 hm => ?_)
          refine b_iload C dX11_count_84 6 rfl ?_
          obtain ⟨r21, hM, hm⟩ := bK1_some hm
          refine b_kS (w' := [(A_th, oO 10 [V_th_thrown, V_th_text, V_th_textSize, V_th_readPage, V_th_page, V_th_trial, V_th_book, V_th_doings, V_th_kept, V_th_isKept, V_th_seen, V_th_seenPlace, V_th_seenDigit, V_th_seenIs, V_th_seed, V_th_plan, .ref A_th_good, .ref A_th_bad, .ref A_th_signs, .int z13, .ref A_th_digits, V_th_isNode, V_th_base, V_th_slot, V_th_whichMany, V_th_whichFirst, V_th_value]), (A_p1, iA g 22 p1), (A_th_good, iA g 1372 f17), (A_th_bad, iA g 1372 f18), (A_th_signs, iA g 8 f14), (A_th_digits, iA g 36 th_digits)]) (st := []) (st2 := [.int r21]) C cs_X11_has tb998 (c_X11_has l g v20 x16 F r21 hM) rfl ⟨rfl, rfl, by decide, by decide⟩ (Nat.le_of_ble_eq_true rfl) [] rfl (by decide) rfl rfl dX11_count_86 [none, none, none, none, none, none] (by decide) ⟨rfl, ⟨rfl, ⟨rfl, ⟨rfl, ⟨rfl, ⟨rfl, trivial⟩⟩⟩⟩⟩⟩ rfl ?_
          refine b_istore (lv' := [(7, .int r21), (0, .ref A_th), (1, .ref A_p1), (2, .int n2), (3, .int n3), (4, .int n4), (5, .int x6), (6, .int x16)]) C dX11_count_89 (by decide) rfl ?_
          refine b_aload_n C dX11_count_91 rfl 1 rfl ?_
          refine gfX11_53 C 0 rfl rfl dX11_count_92 ?_
          refine b_bipush (v := 6) C dX11_count_95 (by decide) ?_
          refine b_iload C dX11_count_97 6 rfl ?_
          refine b_imul C dX11_count_99 ?_
          refine b_iload C dX11_count_100 7 rfl ?_
          refine b_iadd C dX11_count_102 ?_
          refine b_iald C 5 rfl dX11_count_103 hm (fun v22 hm => ?_)
          refine b_iconst (v := 2) C dX11_count_104 (by decide) ?_
          refine b_irem C dX11_count_105 (by decide) ?_
          refine b_iconst (v := 1) C dX11_count_106 (by decide) ?_
          obtain ⟨k24, hk24, hm⟩ := jn1_some hm
          have jk24 : ∀ (y23 : Int32), k24 y23 = some u → Wb x [(A_th, oO 10 [V_th_thrown, V_th_text, V_th_textSize, V_th_readPage, V_th_page, V_th_trial, V_th_book, V_th_doings, V_th_kept, V_th_isKept, V_th_seen, V_th_seenPlace, V_th_seenDigit, V_th_seenIs, V_th_seed, V_th_plan, .ref A_th_good, .ref A_th_bad, .ref A_th_signs, .int z13, .ref A_th_digits, V_th_isNode, V_th_base, V_th_slot, V_th_whichMany, V_th_whichFirst, V_th_value]), (A_p1, iA g 22 p1), (A_th_good, iA g 1372 f17), (A_th_bad, iA g 1372 f18), (A_th_signs, iA g 8 f14), (A_th_digits, iA g 36 th_digits)] [(0, .ref A_th), (1, .ref A_p1), (2, .int n2), (3, .int n3), (4, .int n4), (5, .int x6), (6, .int x16), (7, .int r21)] 115 [.int y23] := by
            intro y23 hm
            have hm := hk24 _ hm
            refine b_istore (lv' := [(8, .int y23), (0, .ref A_th), (1, .ref A_p1), (2, .int n2), (3, .int n3), (4, .int n4), (5, .int x6), (6, .int x16), (7, .int r21)]) C dX11_count_115 (by decide) rfl ?_
            refine b_iload_n C dX11_count_117 rfl 4 rfl ?_
            refine b_iconst (v := 2) C dX11_count_118 (by decide) ?_
            refine b_irem C dX11_count_119 (by decide) ?_
            refine b_iconst (v := 1) C dX11_count_120 (by decide) ?_
            refine b_icmp_ne (tgt := 160) C dX11_count_121 (by decide) hm (fun hm => ?_) (fun hm => ?_)
            · refine b_aload_n C dX11_count_160 rfl 1 rfl ?_
              refine b_iload C dX11_count_161 5 rfl ?_
              refine b_iload C dX11_count_163 7 rfl ?_
              refine b_iload C dX11_count_165 0 rfl ?_
              obtain ⟨k26, hk26, hm⟩ := jn1_some hm
              have jk26 : ∀ (y25 : Int32), k26 y25 = some u → Wb x [(A_th, oO 10 [V_th_thrown, V_th_text, V_th_textSize, V_th_readPage, V_th_page, V_th_trial, V_th_book, V_th_doings, V_th_kept, V_th_isKept, V_th_seen, V_th_seenPlace, V_th_seenDigit, V_th_seenIs, V_th_seed, V_th_plan, .ref A_th_good, .ref A_th_bad, .ref A_th_signs, .int z13, .ref A_th_digits, V_th_isNode, V_th_base, V_th_slot, V_th_whichMany, V_th_whichFirst, V_th_value]), (A_p1, iA g 22 p1), (A_th_good, iA g 1372 f17), (A_th_bad, iA g 1372 f18), (A_th_signs, iA g 8 f14), (A_th_digits, iA g 36 th_digits)] [(0, .ref A_th), (1, .ref A_p1), (2, .int n2), (3, .int n3), (4, .int n4), (5, .int x6), (6, .int x16), (7, .int r21), (8, .int y23)] 180 [.int y25, .int x16, .int n4, .ref A_th] := by
                intro y25 hm
                have hm := hk26 _ hm
                refine b_iload C dX11_count_180 8 rfl ?_
                obtain ⟨k28, hk28, hm⟩ := jn1_some hm
                have jk28 : ∀ (y27 : Int32), k28 y27 = some u → Wb x [(A_th, oO 10 [V_th_thrown, V_th_text, V_th_textSize, V_th_readPage, V_th_page, V_th_trial, V_th_book, V_th_doings, V_th_kept, V_th_isKept, V_th_seen, V_th_seenPlace, V_th_seenDigit, V_th_seenIs, V_th_seed, V_th_plan, .ref A_th_good, .ref A_th_bad, .ref A_th_signs, .int z13, .ref A_th_digits, V_th_isNode, V_th_base, V_th_slot, V_th_whichMany, V_th_whichFirst, V_th_value]), (A_p1, iA g 22 p1), (A_th_good, iA g 1372 f17), (A_th_bad, iA g 1372 f18), (A_th_signs, iA g 8 f14), (A_th_digits, iA g 36 th_digits)] [(0, .ref A_th), (1, .ref A_p1), (2, .int n2), (3, .int n3), (4, .int n4), (5, .int x6), (6, .int x16)] 195 [.int y27, .int y25, .int x16, .int n4, .ref A_th] := by
                  intro y27 hm
                  have hm := hk28 _ hm
                  obtain ⟨f29, f30, hM, hm⟩ := bK2_some hm
                  refine b_kV (w' := [(A_th, oO 10 [V_th_thrown, V_th_text, V_th_textSize, V_th_readPage, V_th_page, V_th_trial, V_th_book, V_th_doings, V_th_kept, V_th_isKept, V_th_seen, V_th_seenPlace, V_th_seenDigit, V_th_seenIs, V_th_seed, V_th_plan, .ref A_th_good, .ref A_th_bad, .ref A_th_signs, .int z13, .ref A_th_digits, V_th_isNode, V_th_base, V_th_slot, V_th_whichMany, V_th_whichFirst, V_th_value]), (A_p1, iA g 22 p1), (A_th_good, iA g 1372 f29), (A_th_bad, iA g 1372 f30), (A_th_signs, iA g 8 f14), (A_th_digits, iA g 36 th_digits)]) (st := []) (st2 := []) C cv_X11_countPlace tb1001 (c_X11_countPlace l g A_th A_th_signs A_th_good A_th_bad V_th_thrown V_th_text V_th_textSize V_th_readPage V_th_page V_th_trial V_th_book V_th_doings V_th_kept V_th_isKept V_th_seen V_th_seenPlace V_th_seenDigit V_th_seenIs V_th_seed V_th_plan (.ref A_th_digits) V_th_isNode V_th_base V_th_slot V_th_whichMany V_th_whichFirst V_th_value n4 x16 y25 y27 z13 f14 f17 f18 F (f29, f30) hM) rfl 0 rfl rfl ⟨rfl, rfl, by decide, by decide⟩ (Nat.le_of_ble_eq_true rfl) [0, 4, 2, 3] rfl (by decide) rfl rfl dX11_count_195 [some 0, none, some 2, some 3, some 1, none] (by decide) ⟨⟨rfl, rfl⟩, ⟨rfl, ⟨⟨rfl, rfl⟩, ⟨⟨rfl, rfl⟩, ⟨⟨rfl, rfl⟩, ⟨rfl, trivial⟩⟩⟩⟩⟩⟩ rfl ?_
                  refine b_iinc (v2 := x16 + 1) (lv' := [(6, .int (x16 + 1)), (0, .ref A_th), (1, .ref A_p1), (2, .int n2), (3, .int n3), (4, .int n4), (5, .int x6)]) C dX11_count_198 6 rfl rfl (by decide) rfl ?_
                  refine b_goto (tgt := 57) C dX11_count_201 (by decide) ?_
                  exact Wb.lv (hc15 (x16 + 1) f29 f30 hm) [1, 2, 3, 4, 5, 6, 0] rfl
                obtain ⟨k31, hk31, hm⟩ := jn0_some hm
                have jk31 : k31  = some u → Wb x [(A_th, oO 10 [V_th_thrown, V_th_text, V_th_textSize, V_th_readPage, V_th_page, V_th_trial, V_th_book, V_th_doings, V_th_kept, V_th_isKept, V_th_seen, V_th_seenPlace, V_th_seenDigit, V_th_seenIs, V_th_seed, V_th_plan, .ref A_th_good, .ref A_th_bad, .ref A_th_signs, .int z13, .ref A_th_digits, V_th_isNode, V_th_base, V_th_slot, V_th_whichMany, V_th_whichFirst, V_th_value]), (A_p1, iA g 22 p1), (A_th_good, iA g 1372 f17), (A_th_bad, iA g 1372 f18), (A_th_signs, iA g 8 f14), (A_th_digits, iA g 36 th_digits)] [(0, .ref A_th), (1, .ref A_p1), (2, .int n2), (3, .int n3), (4, .int n4), (5, .int x6), (6, .int x16)] 194 [.int y25, .int x16, .int n4, .ref A_th] := by
                  intro  hm
                  have hm := hk31 hm
                  refine b_iconst (v := 0) C dX11_count_194 (by decide) ?_
                  exact Wb.lv (jk28 0 hm) [0, 1, 2, 3, 4, 5, 6] rfl
                refine b_if_eq (tgt := 194) C dX11_count_182 (by decide) hm (fun hm => ?_) (fun hm => ?_)
                · exact Wb.lv (jk31  hm) [0, 1, 2, 3, 4, 5, 6] rfl
                · refine b_iload C dX11_count_185 7 rfl ?_
                  refine b_if_eq (tgt := 194) C dX11_count_187 (by decide) hm (fun hm => ?_) (fun hm => ?_)
                  · exact Wb.lv (jk31  hm) [0, 1, 2, 3, 4, 5, 6] rfl
                  · refine b_iconst (v := 1) C dX11_count_190 (by decide) ?_
                    refine b_goto (tgt := 195) C dX11_count_191 (by decide) ?_
                    exact Wb.lv (jk28 1 hm) [0, 1, 2, 3, 4, 5, 6] rfl
              obtain ⟨k32, hk32, hm⟩ := jn0_some hm
              have jk32 : k32  = some u → Wb x [(A_th, oO 10 [V_th_thrown, V_th_text, V_th_textSize, V_th_readPage, V_th_page, V_th_trial, V_th_book, V_th_doings, V_th_kept, V_th_isKept, V_th_seen, V_th_seenPlace, V_th_seenDigit, V_th_seenIs, V_th_seed, V_th_plan, .ref A_th_good, .ref A_th_bad, .ref A_th_signs, .int z13, .ref A_th_digits, V_th_isNode, V_th_base, V_th_slot, V_th_whichMany, V_th_whichFirst, V_th_value]), (A_p1, iA g 22 p1), (A_th_good, iA g 1372 f17), (A_th_bad, iA g 1372 f18), (A_th_signs, iA g 8 f14), (A_th_digits, iA g 36 th_digits)] [(0, .ref A_th), (1, .ref A_p1), (2, .int n2), (3, .int n3), (4, .int n4), (5, .int x6), (6, .int x16), (7, .int r21), (8, .int y23)] 179 [.int x16, .int n4, .ref A_th] := by
                intro  hm
                have hm := hk32 hm
                refine b_iconst (v := 0) C dX11_count_179 (by decide) ?_
                exact Wb.lv (jk26 0 hm) [0, 1, 2, 3, 4, 5, 6, 7, 8] rfl
              refine b_if_eq (tgt := 179) C dX11_count_167 (by decide) hm (fun hm => ?_) (fun hm => ?_)
              · exact Wb.lv (jk32  hm) [1, 2, 3, 4, 5, 6, 7, 8, 0] rfl
              · refine b_iload C dX11_count_170 8 rfl ?_
                refine b_if_ne (tgt := 179) C dX11_count_172 (by decide) hm (fun hm => ?_) (fun hm => ?_)
                · exact Wb.lv (jk32  hm) [1, 2, 3, 4, 5, 6, 7, 8, 0] rfl
                · refine b_iconst (v := 1) C dX11_count_175 (by decide) ?_
                  refine b_goto (tgt := 180) C dX11_count_176 (by decide) ?_
                  exact Wb.lv (jk26 1 hm) [1, 2, 3, 4, 5, 6, 7, 8, 0] rfl
            · refine b_aload_n C dX11_count_124 rfl 1 rfl ?_
              refine b_iload C dX11_count_125 5 rfl ?_
              refine b_iload C dX11_count_127 7 rfl ?_
              refine b_iload C dX11_count_129 8 rfl ?_
              obtain ⟨k34, hk34, hm⟩ := jn1_some hm
              have jk34 : ∀ (y33 : Int32), k34 y33 = some u → Wb x [(A_th, oO 10 [V_th_thrown, V_th_text, V_th_textSize, V_th_readPage, V_th_page, V_th_trial, V_th_book, V_th_doings, V_th_kept, V_th_isKept, V_th_seen, V_th_seenPlace, V_th_seenDigit, V_th_seenIs, V_th_seed, V_th_plan, .ref A_th_good, .ref A_th_bad, .ref A_th_signs, .int z13, .ref A_th_digits, V_th_isNode, V_th_base, V_th_slot, V_th_whichMany, V_th_whichFirst, V_th_value]), (A_p1, iA g 22 p1), (A_th_good, iA g 1372 f17), (A_th_bad, iA g 1372 f18), (A_th_signs, iA g 8 f14), (A_th_digits, iA g 36 th_digits)] [(0, .ref A_th), (1, .ref A_p1), (2, .int n2), (3, .int n3), (4, .int n4), (5, .int x6), (6, .int x16), (7, .int r21)] 144 [.int y33, .int x16, .int n4, .ref A_th] := by
                intro y33 hm
                have hm := hk34 _ hm
                refine b_iload C dX11_count_144 7 rfl ?_
                obtain ⟨k36, hk36, hm⟩ := jn1_some hm
                have jk36 : ∀ (y35 : Int32), k36 y35 = some u → Wb x [(A_th, oO 10 [V_th_thrown, V_th_text, V_th_textSize, V_th_readPage, V_th_page, V_th_trial, V_th_book, V_th_doings, V_th_kept, V_th_isKept, V_th_seen, V_th_seenPlace, V_th_seenDigit, V_th_seenIs, V_th_seed, V_th_plan, .ref A_th_good, .ref A_th_bad, .ref A_th_signs, .int z13, .ref A_th_digits, V_th_isNode, V_th_base, V_th_slot, V_th_whichMany, V_th_whichFirst, V_th_value]), (A_p1, iA g 22 p1), (A_th_good, iA g 1372 f17), (A_th_bad, iA g 1372 f18), (A_th_signs, iA g 8 f14), (A_th_digits, iA g 36 th_digits)] [(0, .ref A_th), (1, .ref A_p1), (2, .int n2), (3, .int n3), (4, .int n4), (5, .int x6), (6, .int x16)] 154 [.int y35, .int y33, .int x16, .int n4, .ref A_th] := by
                  intro y35 hm
                  have hm := hk36 _ hm
                  obtain ⟨f37, f38, hM, hm⟩ := bK2_some hm
                  refine b_kV (w' := [(A_th, oO 10 [V_th_thrown, V_th_text, V_th_textSize, V_th_readPage, V_th_page, V_th_trial, V_th_book, V_th_doings, V_th_kept, V_th_isKept, V_th_seen, V_th_seenPlace, V_th_seenDigit, V_th_seenIs, V_th_seed, V_th_plan, .ref A_th_good, .ref A_th_bad, .ref A_th_signs, .int z13, .ref A_th_digits, V_th_isNode, V_th_base, V_th_slot, V_th_whichMany, V_th_whichFirst, V_th_value]), (A_p1, iA g 22 p1), (A_th_good, iA g 1372 f37), (A_th_bad, iA g 1372 f38), (A_th_signs, iA g 8 f14), (A_th_digits, iA g 36 th_digits)]) (st := []) (st2 := []) C cv_X11_countPlace tb1001 (c_X11_countPlace l g A_th A_th_signs A_th_good A_th_bad V_th_thrown V_th_text V_th_textSize V_th_readPage V_th_page V_th_trial V_th_book V_th_doings V_th_kept V_th_isKept V_th_seen V_th_seenPlace V_th_seenDigit V_th_seenIs V_th_seed V_th_plan (.ref A_th_digits) V_th_isNode V_th_base V_th_slot V_th_whichMany V_th_whichFirst V_th_value n4 x16 y33 y35 z13 f14 f17 f18 F (f37, f38) hM) rfl 0 rfl rfl ⟨rfl, rfl, by decide, by decide⟩ (Nat.le_of_ble_eq_true rfl) [0, 4, 2, 3] rfl (by decide) rfl rfl dX11_count_154 [some 0, none, some 2, some 3, some 1, none] (by decide) ⟨⟨rfl, rfl⟩, ⟨rfl, ⟨⟨rfl, rfl⟩, ⟨⟨rfl, rfl⟩, ⟨⟨rfl, rfl⟩, ⟨rfl, trivial⟩⟩⟩⟩⟩⟩ rfl ?_
                  refine b_goto (tgt := 198) C dX11_count_157 (by decide) ?_
                  refine b_iinc (v2 := x16 + 1) (lv' := [(6, .int (x16 + 1)), (0, .ref A_th), (1, .ref A_p1), (2, .int n2), (3, .int n3), (4, .int n4), (5, .int x6)]) C dX11_count_198 6 rfl rfl (by decide) rfl ?_
                  refine b_goto (tgt := 57) C dX11_count_201 (by decide) ?_
                  exact Wb.lv (hc15 (x16 + 1) f37 f38 hm) [1, 2, 3, 4, 5, 6, 0] rfl
                refine b_if_ne (tgt := 153) C dX11_count_146 (by decide) hm (fun hm => ?_) (fun hm => ?_)
                · refine b_iconst (v := 0) C dX11_count_153 (by decide) ?_
                  exact Wb.lv (jk36 0 hm) [0, 1, 2, 3, 4, 5, 6] rfl
                · refine b_iconst (v := 1) C dX11_count_149 (by decide) ?_
                  refine b_goto (tgt := 154) C dX11_count_150 (by decide) ?_
                  exact Wb.lv (jk36 1 hm) [0, 1, 2, 3, 4, 5, 6] rfl
              obtain ⟨k39, hk39, hm⟩ := jn0_some hm
              have jk39 : k39  = some u → Wb x [(A_th, oO 10 [V_th_thrown, V_th_text, V_th_textSize, V_th_readPage, V_th_page, V_th_trial, V_th_book, V_th_doings, V_th_kept, V_th_isKept, V_th_seen, V_th_seenPlace, V_th_seenDigit, V_th_seenIs, V_th_seed, V_th_plan, .ref A_th_good, .ref A_th_bad, .ref A_th_signs, .int z13, .ref A_th_digits, V_th_isNode, V_th_base, V_th_slot, V_th_whichMany, V_th_whichFirst, V_th_value]), (A_p1, iA g 22 p1), (A_th_good, iA g 1372 f17), (A_th_bad, iA g 1372 f18), (A_th_signs, iA g 8 f14), (A_th_digits, iA g 36 th_digits)] [(0, .ref A_th), (1, .ref A_p1), (2, .int n2), (3, .int n3), (4, .int n4), (5, .int x6), (6, .int x16), (7, .int r21)] 143 [.int x16, .int n4, .ref A_th] := by
                intro  hm
                have hm := hk39 hm
                refine b_iconst (v := 0) C dX11_count_143 (by decide) ?_
                exact Wb.lv (jk34 0 hm) [0, 1, 2, 3, 4, 5, 6, 7] rfl
              refine b_if_eq (tgt := 143) C dX11_count_131 (by decide) hm (fun hm => ?_) (fun hm => ?_)
              · exact Wb.lv (jk39  hm) [1, 2, 3, 4, 5, 6, 7, 8] rfl
              · refine b_iload C dX11_count_134 0 rfl ?_
                refine b_if_ne (tgt := 143) C dX11_count_136 (by decide) hm (fun hm => ?_) (fun hm => ?_)
                · exact Wb.lv (jk39  hm) [1, 2, 3, 4, 5, 6, 7, 8] rfl
                · refine b_iconst (v := 1) C dX11_count_139 (by decide) ?_
                  refine b_goto (tgt := 144) C dX11_count_140 (by decide) ?_
                  exact Wb.lv (jk34 1 hm) [1, 2, 3, 4, 5, 6, 7, 8] rfl
          refine b_icmp_ne (tgt := 114) C dX11_count_107 (by decide) hm (fun hm => ?_) (fun hm => ?_)
          · refine b_iconst (v := 0) C dX11_count_114 (by decide) ?_
            exact Wb.lv (jk24 0 hm) [1, 2, 3, 4, 5, 6, 7, 0] rfl
          · refine b_iconst (v := 1) C dX11_count_110 (by decide) ?_
            refine b_goto (tgt := 115) C dX11_count_111 (by decide) ?_
            exact Wb.lv (jk24 1 hm) [1, 2, 3, 4, 5, 6, 7, 0] rfl
  · refine b_aload_n C dX11_count_11 rfl 0 rfl ?_
    refine gfX11_44 C 0 rfl rfl dX11_count_12 ?_
    refine b_iload C dX11_count_15 5 rfl ?_
    refine b_iconst (v := 0) C dX11_count_17 (by decide) ?_
    refine b_iast C 2 rfl dX11_count_18 hm (fun f40 hm => Wb.to (w' := [(A_th, oO 10 [V_th_thrown, V_th_text, V_th_textSize, V_th_readPage, V_th_page, V_th_trial, V_th_book, V_th_doings, V_th_kept, V_th_isKept, V_th_seen, V_th_seenPlace, V_th_seenDigit, V_th_seenIs, V_th_seed, V_th_plan, .ref A_th_good, .ref A_th_bad, .ref A_th_signs, .int th_signMany, .ref A_th_digits, V_th_isNode, V_th_base, V_th_slot, V_th_whichMany, V_th_whichFirst, V_th_value]), (A_p1, iA g 22 p1), (A_th_good, iA g 1372 f40), (A_th_bad, iA g 1372 f4), (A_th_signs, iA g 8 th_signs), (A_th_digits, iA g 36 th_digits)]) rfl ?_)
    refine b_aload_n C dX11_count_19 rfl 0 rfl ?_
    refine gfX11_47 C 0 rfl rfl dX11_count_20 ?_
    refine b_iload C dX11_count_23 5 rfl ?_
    refine b_iconst (v := 0) C dX11_count_25 (by decide) ?_
    refine b_iast C 3 rfl dX11_count_26 hm (fun f41 hm => Wb.to (w' := [(A_th, oO 10 [V_th_thrown, V_th_text, V_th_textSize, V_th_readPage, V_th_page, V_th_trial, V_th_book, V_th_doings, V_th_kept, V_th_isKept, V_th_seen, V_th_seenPlace, V_th_seenDigit, V_th_seenIs, V_th_seed, V_th_plan, .ref A_th_good, .ref A_th_bad, .ref A_th_signs, .int th_signMany, .ref A_th_digits, V_th_isNode, V_th_base, V_th_slot, V_th_whichMany, V_th_whichFirst, V_th_value]), (A_p1, iA g 22 p1), (A_th_good, iA g 1372 f40), (A_th_bad, iA g 1372 f41), (A_th_signs, iA g 8 th_signs), (A_th_digits, iA g 36 th_digits)]) rfl ?_)
    refine b_iinc (v2 := x2 + 1) (lv' := [(5, .int (x2 + 1)), (0, .ref A_th), (1, .ref A_p1), (2, .int n2), (3, .int n3), (4, .int n4)]) C dX11_count_27 5 rfl rfl (by decide) rfl ?_
    refine b_goto (tgt := 3) C dX11_count_30 (by decide) ?_
    exact Wb.lv (hc1 (x2 + 1) f40 f41 hm) [1, 2, 3, 4, 5, 0] rfl
/-- BreakLearnerModel.keeps(IIII)Z -/
def m_X11_keeps (F : Nat)  (n1 : Int32) (n2 : Int32) (n3 : Int32) (n4 : Int32)  : Option (Int32) :=
  if 1 ≤ n3 then
    if n1 = 0 then
      if (n3 - n4) < n2 then
        some 0
      else
        some 1
    else
      if n1 = 1 then
        jn0 (
          some 0
          ) (fun k1 =>
          if n4 = 0 then
            if n3 < n2 then
              k1
            else
              some 1
          else
            k1
          )
      else
        if n3 < ((n2 * n4) + n2) then
          some 0
        else
          some 1
  else
    some 0
abbrev rmX11_keeps : Room := { frames := 0, cells := 0, slots := 0, locals := 0 }
set_option maxHeartbeats 4000000 in
set_option maxRecDepth 100000 in
theorem c_X11_keeps (l : Launch) (g : Gl)  (n1 : Int32) (n2 : Int32) (n3 : Int32) (n4 : Int32)  (F : Nat) (u : Int32) (hm : m_X11_keeps F n1 n2 n3 n4 = some u) : Ct l g yX11_keeps cX11_keeps 4 (some .boolean) rmX11_keeps [.int n1, .int n2, .int n3, .int n4] [] (some (.int u)) [] := by
  refine ent (own := RX11) (lv := [(0, .int n1), (1, .int n2), (2, .int n3), (3, .int n4)]) (by decide) rfl (Nat.le_of_ble_eq_true rfl) rfl rfl ?_
  intro x C
  unfold m_X11_keeps at hm
  refine b_iload_n C dX11_keeps_0 rfl 2 rfl ?_
  refine b_iconst (v := 1) C dX11_keeps_1 (by decide) ?_
  refine b_icmp_ge (tgt := 7) C dX11_keeps_2 (by decide) hm (fun hm => ?_) (fun hm => ?_)
  · refine b_iload_n C dX11_keeps_7 rfl 0 rfl ?_
    refine b_if_ne (tgt := 26) C dX11_keeps_8 (by decide) hm (fun hm => ?_) (fun hm => ?_)
    · refine b_iload_n C dX11_keeps_26 rfl 0 rfl ?_
      refine b_iconst (v := 1) C dX11_keeps_27 (by decide) ?_
      refine b_icmp_ne (tgt := 48) C dX11_keeps_28 (by decide) hm (fun hm => ?_) (fun hm => ?_)
      · refine b_iload_n C dX11_keeps_48 rfl 2 rfl ?_
        refine b_iload_n C dX11_keeps_49 rfl 1 rfl ?_
        refine b_iload_n C dX11_keeps_50 rfl 3 rfl ?_
        refine b_imul C dX11_keeps_51 ?_
        refine b_iload_n C dX11_keeps_52 rfl 1 rfl ?_
        refine b_iadd C dX11_keeps_53 ?_
        refine b_icmp_lt (tgt := 61) C dX11_keeps_54 (by decide) hm (fun hm => ?_) (fun hm => ?_)
        · refine b_iconst (v := 0) C dX11_keeps_61 (by decide) ?_
          cases hm
          exact b_zret (v := 0) C (by decide) dX11_keeps_62
        · refine b_iconst (v := 1) C dX11_keeps_57 (by decide) ?_
          refine b_goto (tgt := 62) C dX11_keeps_58 (by decide) ?_
          cases hm
          exact b_zret (v := 1) C (by decide) dX11_keeps_62
      · refine b_iload_n C dX11_keeps_31 rfl 3 rfl ?_
        obtain ⟨k1, hk1, hm⟩ := jn0_some hm
        have jk1 : k1  = some u → Wb x [] [] 44 [] := by
          intro  hm
          have hm := hk1 hm
          refine b_iconst (v := 0) C dX11_keeps_44 (by decide) ?_
          refine b_goto (tgt := 62) C dX11_keeps_45 (by decide) ?_
          cases hm
          exact b_zret (v := 0) C (by decide) dX11_keeps_62
        refine b_if_ne (tgt := 44) C dX11_keeps_32 (by decide) hm (fun hm => ?_) (fun hm => ?_)
        · exact Wb.lv (jk1  hm) [] rfl
        · refine b_iload_n C dX11_keeps_35 rfl 2 rfl ?_
          refine b_iload_n C dX11_keeps_36 rfl 1 rfl ?_
          refine b_icmp_lt (tgt := 44) C dX11_keeps_37 (by decide) hm (fun hm => ?_) (fun hm => ?_)
          · exact Wb.lv (jk1  hm) [] rfl
          · refine b_iconst (v := 1) C dX11_keeps_40 (by decide) ?_
            refine b_goto (tgt := 62) C dX11_keeps_41 (by decide) ?_
            cases hm
            exact b_zret (v := 1) C (by decide) dX11_keeps_62
    · refine b_iload_n C dX11_keeps_11 rfl 2 rfl ?_
      refine b_iload_n C dX11_keeps_12 rfl 3 rfl ?_
      refine b_isub C dX11_keeps_13 ?_
      refine b_iload_n C dX11_keeps_14 rfl 1 rfl ?_
      refine b_icmp_lt (tgt := 22) C dX11_keeps_15 (by decide) hm (fun hm => ?_) (fun hm => ?_)
      · refine b_iconst (v := 0) C dX11_keeps_22 (by decide) ?_
        refine b_goto (tgt := 62) C dX11_keeps_23 (by decide) ?_
        cases hm
        exact b_zret (v := 0) C (by decide) dX11_keeps_62
      · refine b_iconst (v := 1) C dX11_keeps_18 (by decide) ?_
        refine b_goto (tgt := 62) C dX11_keeps_19 (by decide) ?_
        cases hm
        exact b_zret (v := 1) C (by decide) dX11_keeps_62
  · refine b_iconst (v := 0) C dX11_keeps_5 (by decide) ?_
    cases hm
    exact b_zret (v := 0) C (by decide) dX11_keeps_6
