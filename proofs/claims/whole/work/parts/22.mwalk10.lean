/-- BreakLearnerModel.in(JJJ)Z -/
def m_X11_in (F : Nat)  (n1 : Int64) (n2 : Int64) (n3 : Int64)  : Option (Int32) :=
  if (lg_cmp n1 n2) < 0 then
    some 0
  else
    if 0 < (lg_cmp n1 n3) then
      some 0
    else
      some 1
abbrev rmX11_in : Room := { frames := 0, cells := 0, slots := 0, locals := 0 }
set_option maxHeartbeats 4000000 in
set_option maxRecDepth 100000 in
theorem c_X11_in (l : Launch) (g : Gl)  (n1 : Int64) (n2 : Int64) (n3 : Int64)  (F : Nat) (u : Int32) (hm : m_X11_in F n1 n2 n3 = some u) : Ct l g yX11_in cX11_in 6 (some .boolean) rmX11_in [.long n1, .long n2, .long n3] [] (some (.int u)) [] := by
  refine ent (own := RX11) (lv := [(0, .long n1), (2, .long n2), (4, .long n3)]) (by decide) rfl (Nat.le_of_ble_eq_true rfl) rfl rfl ?_
  intro x C
  unfold m_X11_in at hm
  refine b_lload_n C dX11_in_0 rfl 0 rfl ?_
  refine b_lload_n C dX11_in_1 rfl 1 rfl ?_
  refine b_lcmp C dX11_in_2 ?_
  refine b_if_lt (tgt := 17) C dX11_in_3 (by decide) hm (fun hm => ?_) (fun hm => ?_)
  · refine b_iconst (v := 0) C dX11_in_17 (by decide) ?_
    cases hm
    exact b_zret (v := 0) C (by decide) dX11_in_18
  · refine b_lload_n C dX11_in_6 rfl 0 rfl ?_
    refine b_lload C dX11_in_7 2 rfl ?_
    refine b_lcmp C dX11_in_9 ?_
    refine b_if_gt (tgt := 17) C dX11_in_10 (by decide) hm (fun hm => ?_) (fun hm => ?_)
    · refine b_iconst (v := 0) C dX11_in_17 (by decide) ?_
      cases hm
      exact b_zret (v := 0) C (by decide) dX11_in_18
    · refine b_iconst (v := 1) C dX11_in_13 (by decide) ?_
      refine b_goto (tgt := 18) C dX11_in_14 (by decide) ?_
      cases hm
      exact b_zret (v := 1) C (by decide) dX11_in_18
/-- BreakLearnerModel.has(II)Z -/
def m_X11_has (F : Nat)  (n1 : Int32) (n2 : Int32)  : Option (Int32) :=
  if ((n1 >>> (n2 &&& 31)) &&& 1) = 1 then
    some 1
  else
    some 0
abbrev rmX11_has : Room := { frames := 0, cells := 0, slots := 0, locals := 0 }
set_option maxHeartbeats 4000000 in
set_option maxRecDepth 100000 in
theorem c_X11_has (l : Launch) (g : Gl)  (n1 : Int32) (n2 : Int32)  (F : Nat) (u : Int32) (hm : m_X11_has F n1 n2 = some u) : Ct l g yX11_has cX11_has 2 (some .boolean) rmX11_has [.int n1, .int n2] [] (some (.int u)) [] := by
  refine ent (own := RX11) (lv := [(0, .int n1), (1, .int n2)]) (by decide) rfl (Nat.le_of_ble_eq_true rfl) rfl rfl ?_
  intro x C
  unfold m_X11_has at hm
  refine b_iload_n C dX11_has_0 rfl 0 rfl ?_
  refine b_iload_n C dX11_has_1 rfl 1 rfl ?_
  refine b_ishr C dX11_has_2 ?_
  refine b_iconst (v := 1) C dX11_has_3 (by decide) ?_
  refine b_iand C dX11_has_4 ?_
  refine b_iconst (v := 1) C dX11_has_5 (by decide) ?_
  refine b_icmp_ne (tgt := 13) C dX11_has_6 (by decide) hm (fun hm => ?_) (fun hm => ?_)
  · refine b_iconst (v := 0) C dX11_has_13 (by decide) ?_
    cases hm
    exact b_zret (v := 0) C (by decide) dX11_has_14
  · refine b_iconst (v := 1) C dX11_has_9 (by decide) ?_
    refine b_goto (tgt := 14) C dX11_has_10 (by decide) ?_
    cases hm
    exact b_zret (v := 1) C (by decide) dX11_has_14
/-- BreakLearnerModel.many(I)I -/
def m_X11_many (F : Nat)  (n1 : Int32)  : Option (Int32) :=
  wl2 (fun (x2 : Int32) (x3 : Int32) c1 =>
    if 6 ≤ x3 then
      some x2
    else
      letK (x2 + ((n1 >>> (x3 &&& 31)) &&& 1)) (fun x4 =>
      c1 x4 (x3 + 1)
      )
    ) F 0 0
abbrev rmX11_many : Room := { frames := 0, cells := 0, slots := 0, locals := 0 }
set_option maxHeartbeats 4000000 in
set_option maxRecDepth 100000 in
theorem c_X11_many (l : Launch) (g : Gl)  (n1 : Int32)  (F : Nat) (u : Int32) (hm : m_X11_many F n1 = some u) : Ct l g yX11_many cX11_many 3 (some .int) rmX11_many [.int n1] [] (some (.int u)) [] := by
  refine ent (own := RX11) (lv := [(0, .int n1)]) (by decide) rfl (Nat.le_of_ble_eq_true rfl) rfl rfl ?_
  intro x C
  unfold m_X11_many at hm
  refine b_iconst (v := 0) C dX11_many_0 (by decide) ?_
  refine b_istore_n (lv' := [(1, .int 0), (0, .int n1)]) C dX11_many_1 rfl (by decide) rfl ?_
  refine b_iconst (v := 0) C dX11_many_2 (by decide) ?_
  refine b_istore_n (lv' := [(2, .int 0), (1, .int 0), (0, .int n1)]) C dX11_many_3 rfl (by decide) rfl ?_
  refine Wb.lv (lv' := [(0, .int n1), (1, .int 0), (2, .int 0)]) ?_ [2, 1, 0] rfl
  refine wl2_W (Wg := fun (x2 : Int32) (x3 : Int32) => Wb x [] [(0, .int n1), (1, .int x2), (2, .int x3)] 4 []) ?_ F 0 0 hm
  intro x2 x3 c1 hc1 hm
  refine b_iload_n C dX11_many_4 rfl 2 rfl ?_
  refine b_bipush (v := 6) C dX11_many_5 (by decide) ?_
  refine b_icmp_ge (tgt := 24) C dX11_many_7 (by decide) hm (fun hm => ?_) (fun hm => ?_)
  · refine b_iload_n C dX11_many_24 rfl 1 rfl ?_
    cases hm
    exact b_iret C dX11_many_25
  · refine b_iload_n C dX11_many_10 rfl 1 rfl ?_
    refine b_iload_n C dX11_many_11 rfl 0 rfl ?_
    refine b_iload_n C dX11_many_12 rfl 2 rfl ?_
    refine b_ishr C dX11_many_13 ?_
    refine b_iconst (v := 1) C dX11_many_14 (by decide) ?_
    refine b_iand C dX11_many_15 ?_
    refine b_iadd C dX11_many_16 ?_
    refine b_topi hm (fun x4 hm => ?_)
    refine b_istore_n (lv' := [(1, .int x4), (0, .int n1), (2, .int x3)]) C dX11_many_17 rfl (by decide) rfl ?_
    refine b_iinc (v2 := x3 + 1) (lv' := [(2, .int (x3 + 1)), (1, .int x4), (0, .int n1)]) C dX11_many_18 2 rfl rfl (by decide) rfl ?_
    refine b_goto (tgt := 4) C dX11_many_21 (by decide) ?_
    exact Wb.lv (hc1 x4 (x3 + 1) hm) [2, 1, 0] rfl
/-- BreakLearnerModel.power(II)I -/
def m_X11_power (F : Nat)  (n1 : Int32) (n2 : Int32)  : Option (Int32) :=
  wl2 (fun (x2 : Int32) (x3 : Int32) c1 =>
    if n2 ≤ x3 then
      some x2
    else
      letK (x2 * n1) (fun x4 =>
      c1 x4 (x3 + 1)
      )
    ) F 1 0
abbrev rmX11_power : Room := { frames := 0, cells := 0, slots := 0, locals := 0 }
set_option maxHeartbeats 4000000 in
set_option maxRecDepth 100000 in
theorem c_X11_power (l : Launch) (g : Gl)  (n1 : Int32) (n2 : Int32)  (F : Nat) (u : Int32) (hm : m_X11_power F n1 n2 = some u) : Ct l g yX11_power cX11_power 4 (some .int) rmX11_power [.int n1, .int n2] [] (some (.int u)) [] := by
  refine ent (own := RX11) (lv := [(0, .int n1), (1, .int n2)]) (by decide) rfl (Nat.le_of_ble_eq_true rfl) rfl rfl ?_
  intro x C
  unfold m_X11_power at hm
  refine b_iconst (v := 1) C dX11_power_0 (by decide) ?_
  refine b_istore_n (lv' := [(2, .int 1), (0, .int n1), (1, .int n2)]) C dX11_power_1 rfl (by decide) rfl ?_
  refine b_iconst (v := 0) C dX11_power_2 (by decide) ?_
  refine b_istore_n (lv' := [(3, .int 0), (2, .int 1), (0, .int n1), (1, .int n2)]) C dX11_power_3 rfl (by decide) rfl ?_
  refine Wb.lv (lv' := [(0, .int n1), (1, .int n2), (2, .int 1), (3, .int 0)]) ?_ [2, 3, 1, 0] rfl
  refine wl2_W (Wg := fun (x2 : Int32) (x3 : Int32) => Wb x [] [(0, .int n1), (1, .int n2), (2, .int x2), (3, .int x3)] 4 []) ?_ F 1 0 hm
  intro x2 x3 c1 hc1 hm
  refine b_iload_n C dX11_power_4 rfl 3 rfl ?_
  refine b_iload_n C dX11_power_5 rfl 1 rfl ?_
  refine b_icmp_ge (tgt := 19) C dX11_power_6 (by decide) hm (fun hm => ?_) (fun hm => ?_)
  · refine b_iload_n C dX11_power_19 rfl 2 rfl ?_
    cases hm
    exact b_iret C dX11_power_20
  · refine b_iload_n C dX11_power_9 rfl 2 rfl ?_
    refine b_iload_n C dX11_power_10 rfl 0 rfl ?_
    refine b_imul C dX11_power_11 ?_
    refine b_topi hm (fun x4 hm => ?_)
    refine b_istore_n (lv' := [(2, .int x4), (0, .int n1), (1, .int n2), (3, .int x3)]) C dX11_power_12 rfl (by decide) rfl ?_
    refine b_iinc (v2 := x3 + 1) (lv' := [(3, .int (x3 + 1)), (2, .int x4), (0, .int n1), (1, .int n2)]) C dX11_power_13 3 rfl rfl (by decide) rfl ?_
    refine b_goto (tgt := 4) C dX11_power_16 (by decide) ?_
    exact Wb.lv (hc1 x4 (x3 + 1) hm) [2, 3, 1, 0] rfl
/-- BreakLearnerModel.length(I)I -/
def m_X11_length (F : Nat)  (n1 : Int32)  : Option (Int32) :=
  wl2 (fun (x2 : Int32) (x3 : Int32) c1 =>
    if x3 ≤ 0 then
      some x2
    else
      letK (x3 / 10) (fun x4 =>
      c1 (x2 + 1) x4
      )
    ) F 0 n1
abbrev rmX11_length : Room := { frames := 0, cells := 0, slots := 0, locals := 0 }
set_option maxHeartbeats 4000000 in
set_option maxRecDepth 100000 in
theorem c_X11_length (l : Launch) (g : Gl)  (n1 : Int32)  (F : Nat) (u : Int32) (hm : m_X11_length F n1 = some u) : Ct l g yX11_length cX11_length 3 (some .int) rmX11_length [.int n1] [] (some (.int u)) [] := by
  refine ent (own := RX11) (lv := [(0, .int n1)]) (by decide) rfl (Nat.le_of_ble_eq_true rfl) rfl rfl ?_
  intro x C
  unfold m_X11_length at hm
  refine b_iconst (v := 0) C dX11_length_0 (by decide) ?_
  refine b_istore_n (lv' := [(1, .int 0), (0, .int n1)]) C dX11_length_1 rfl (by decide) rfl ?_
  refine b_iload_n C dX11_length_2 rfl 1 rfl ?_
  refine b_istore_n (lv' := [(2, .int n1), (1, .int 0), (0, .int n1)]) C dX11_length_3 rfl (by decide) rfl ?_
  refine Wb.lv (lv' := [(1, .int 0), (2, .int n1)]) ?_ [1, 0] rfl
  refine wl2_W (Wg := fun (x2 : Int32) (x3 : Int32) => Wb x [] [(1, .int x2), (2, .int x3)] 4 []) ?_ F 0 n1 hm
  intro x2 x3 c1 hc1 hm
  refine b_iload_n C dX11_length_4 rfl 1 rfl ?_
  refine b_if_le (tgt := 19) C dX11_length_5 (by decide) hm (fun hm => ?_) (fun hm => ?_)
  · refine b_iload_n C dX11_length_19 rfl 0 rfl ?_
    cases hm
    exact b_iret C dX11_length_20
  · refine b_iinc (v2 := x2 + 1) (lv' := [(1, .int (x2 + 1)), (2, .int x3)]) C dX11_length_8 0 rfl rfl (by decide) rfl ?_
    refine b_iload_n C dX11_length_11 rfl 1 rfl ?_
    refine b_bipush (v := 10) C dX11_length_12 (by decide) ?_
    refine b_idiv C dX11_length_14 (by decide) ?_
    refine b_topi hm (fun x4 hm => ?_)
    refine b_istore_n (lv' := [(2, .int x4), (1, .int (x2 + 1))]) C dX11_length_15 rfl (by decide) rfl ?_
    refine b_goto (tgt := 4) C dX11_length_16 (by decide) ?_
    exact Wb.lv (hc1 (x2 + 1) x4 hm) [1, 0] rfl
/-- BreakLearnerModel.noWord(I)Z -/
def m_X11_noWord (F : Nat)  (n1 : Int32) (th_page : (Nat → Int32)) : Option (Int32) :=
  rdK 22 th_page 0 (fun v1 =>
  bK1 (m_X11_in F n1.toInt64 0 ((v1 - 1).toInt64)) (fun r2 =>
  if r2 = 0 then
    some 1
  else
    some 0
  )
  )
abbrev rmX11_noWord : Room := { frames := 1, cells := 0, slots := 0, locals := 25 }
set_option maxHeartbeats 4000000 in
set_option maxRecDepth 100000 in
theorem c_X11_noWord (l : Launch) (g : Gl) (A_th A_th_page : Nat) (V_th_thrown V_th_text V_th_textSize V_th_readPage V_th_trial V_th_book V_th_doings V_th_kept V_th_isKept V_th_seen V_th_seenPlace V_th_seenDigit V_th_seenIs V_th_seed V_th_plan V_th_good V_th_bad V_th_signs V_th_signMany V_th_digits V_th_isNode V_th_base V_th_slot V_th_whichMany V_th_whichFirst V_th_value : Value)  (n1 : Int32) (th_page : (Nat → Int32)) (F : Nat) (u : Int32) (hm : m_X11_noWord F n1 th_page = some u) : Ct l g yX11_noWord cX11_noWord 2 (some .boolean) rmX11_noWord [.ref A_th, .int n1] [(A_th, oO 10 [V_th_thrown, V_th_text, V_th_textSize, V_th_readPage, .ref A_th_page, V_th_trial, V_th_book, V_th_doings, V_th_kept, V_th_isKept, V_th_seen, V_th_seenPlace, V_th_seenDigit, V_th_seenIs, V_th_seed, V_th_plan, V_th_good, V_th_bad, V_th_signs, V_th_signMany, V_th_digits, V_th_isNode, V_th_base, V_th_slot, V_th_whichMany, V_th_whichFirst, V_th_value]), (A_th_page, iA g 22 th_page)] (some (.int u)) [(A_th, oO 10 [V_th_thrown, V_th_text, V_th_textSize, V_th_readPage, .ref A_th_page, V_th_trial, V_th_book, V_th_doings, V_th_kept, V_th_isKept, V_th_seen, V_th_seenPlace, V_th_seenDigit, V_th_seenIs, V_th_seed, V_th_plan, V_th_good, V_th_bad, V_th_signs, V_th_signMany, V_th_digits, V_th_isNode, V_th_base, V_th_slot, V_th_whichMany, V_th_whichFirst, V_th_value]), (A_th_page, iA g 22 th_page)] := by
  refine ent (own := RX11) (lv := [(0, .ref A_th), (1, .int n1)]) (by decide) rfl (Nat.le_of_ble_eq_true rfl) rfl rfl ?_
  intro x C
  unfold m_X11_noWord at hm
  refine b_iload_n C dX11_noWord_0 rfl 1 rfl ?_
  refine b_i2l C dX11_noWord_1 ?_
  refine b_lconst (v := 0) C dX11_noWord_2 (by decide) ?_
  refine b_aload_n C dX11_noWord_3 rfl 0 rfl ?_
  refine gfX11_16 C 0 rfl rfl dX11_noWord_4 ?_
  refine b_iconst (v := 0) C dX11_noWord_7 (by decide) ?_
  refine b_iald C 1 rfl dX11_noWord_8 hm (fun v1 hm => ?_)
  refine b_iconst (v := 1) C dX11_noWord_9 (by decide) ?_
  refine b_isub C dX11_noWord_10 ?_
  refine b_i2l C dX11_noWord_11 ?_
  obtain ⟨r2, hM, hm⟩ := bK1_some hm
  refine b_kS (w' := [(A_th, oO 10 [V_th_thrown, V_th_text, V_th_textSize, V_th_readPage, .ref A_th_page, V_th_trial, V_th_book, V_th_doings, V_th_kept, V_th_isKept, V_th_seen, V_th_seenPlace, V_th_seenDigit, V_th_seenIs, V_th_seed, V_th_plan, V_th_good, V_th_bad, V_th_signs, V_th_signMany, V_th_digits, V_th_isNode, V_th_base, V_th_slot, V_th_whichMany, V_th_whichFirst, V_th_value]), (A_th_page, iA g 22 th_page)]) (st := []) (st2 := [.int r2]) C cs_X11_in tb937 (c_X11_in l g n1.toInt64 0 ((v1 - 1).toInt64) F r2 hM) rfl ⟨rfl, rfl, by decide, by decide⟩ (Nat.le_of_ble_eq_true rfl) [] rfl (by decide) rfl rfl dX11_noWord_12 [none, none] (by decide) ⟨rfl, ⟨rfl, trivial⟩⟩ rfl ?_
  refine b_if_ne (tgt := 22) C dX11_noWord_15 (by decide) hm (fun hm => ?_) (fun hm => ?_)
  · refine b_iconst (v := 0) C dX11_noWord_22 (by decide) ?_
    cases hm
    exact b_zret (v := 0) C (by decide) dX11_noWord_23
  · refine b_iconst (v := 1) C dX11_noWord_18 (by decide) ?_
    refine b_goto (tgt := 23) C dX11_noWord_19 (by decide) ?_
    cases hm
    exact b_zret (v := 1) C (by decide) dX11_noWord_23
/-- BreakLearnerModel.noPlace(II)Z -/
def m_X11_noPlace (F : Nat)  (n1 : Int32) (n2 : Int32) (th_page : (Nat → Int32)) : Option (Int32) :=
  bK1 (m_X11_noWord F n1 th_page) (fun r1 =>
  jn0 (
    some 1
    ) (fun k2 =>
    if r1 = 0 then
      rdK 22 th_page (1 + n1) (fun v3 =>
      bK1 (m_X11_length F v3) (fun r4 =>
      bK1 (m_X11_in F n2.toInt64 0 ((r4 - 2).toInt64)) (fun r5 =>
      if r5 = 0 then
        k2
      else
        some 0
      )
      )
      )
    else
      k2
    )
  )
abbrev rmX11_noPlace : Room := { frames := 2, cells := 0, slots := 0, locals := 46 }
set_option maxHeartbeats 4000000 in
set_option maxRecDepth 100000 in
theorem c_X11_noPlace (l : Launch) (g : Gl) (A_th A_th_page : Nat) (V_th_thrown V_th_text V_th_textSize V_th_readPage V_th_trial V_th_book V_th_doings V_th_kept V_th_isKept V_th_seen V_th_seenPlace V_th_seenDigit V_th_seenIs V_th_seed V_th_plan V_th_good V_th_bad V_th_signs V_th_signMany V_th_digits V_th_isNode V_th_base V_th_slot V_th_whichMany V_th_whichFirst V_th_value : Value)  (n1 : Int32) (n2 : Int32) (th_page : (Nat → Int32)) (F : Nat) (u : Int32) (hm : m_X11_noPlace F n1 n2 th_page = some u) : Ct l g yX11_noPlace cX11_noPlace 3 (some .boolean) rmX11_noPlace [.ref A_th, .int n1, .int n2] [(A_th, oO 10 [V_th_thrown, V_th_text, V_th_textSize, V_th_readPage, .ref A_th_page, V_th_trial, V_th_book, V_th_doings, V_th_kept, V_th_isKept, V_th_seen, V_th_seenPlace, V_th_seenDigit, V_th_seenIs, V_th_seed, V_th_plan, V_th_good, V_th_bad, V_th_signs, V_th_signMany, V_th_digits, V_th_isNode, V_th_base, V_th_slot, V_th_whichMany, V_th_whichFirst, V_th_value]), (A_th_page, iA g 22 th_page)] (some (.int u)) [(A_th, oO 10 [V_th_thrown, V_th_text, V_th_textSize, V_th_readPage, .ref A_th_page, V_th_trial, V_th_book, V_th_doings, V_th_kept, V_th_isKept, V_th_seen, V_th_seenPlace, V_th_seenDigit, V_th_seenIs, V_th_seed, V_th_plan, V_th_good, V_th_bad, V_th_signs, V_th_signMany, V_th_digits, V_th_isNode, V_th_base, V_th_slot, V_th_whichMany, V_th_whichFirst, V_th_value]), (A_th_page, iA g 22 th_page)] := by
  refine ent (own := RX11) (lv := [(0, .ref A_th), (1, .int n1), (2, .int n2)]) (by decide) rfl (Nat.le_of_ble_eq_true rfl) rfl rfl ?_
  intro x C
  unfold m_X11_noPlace at hm
  refine b_aload_n C dX11_noPlace_0 rfl 0 rfl ?_
  refine b_iload_n C dX11_noPlace_1 rfl 1 rfl ?_
  obtain ⟨r1, hM, hm⟩ := bK1_some hm
  refine b_kV (w' := [(A_th, oO 10 [V_th_thrown, V_th_text, V_th_textSize, V_th_readPage, .ref A_th_page, V_th_trial, V_th_book, V_th_doings, V_th_kept, V_th_isKept, V_th_seen, V_th_seenPlace, V_th_seenDigit, V_th_seenIs, V_th_seed, V_th_plan, V_th_good, V_th_bad, V_th_signs, V_th_signMany, V_th_digits, V_th_isNode, V_th_base, V_th_slot, V_th_whichMany, V_th_whichFirst, V_th_value]), (A_th_page, iA g 22 th_page)]) (st := []) (st2 := [.int r1]) C cv_X11_noWord tb1059 (c_X11_noWord l g A_th A_th_page V_th_thrown V_th_text V_th_textSize V_th_readPage V_th_trial V_th_book V_th_doings V_th_kept V_th_isKept V_th_seen V_th_seenPlace V_th_seenDigit V_th_seenIs V_th_seed V_th_plan V_th_good V_th_bad V_th_signs V_th_signMany V_th_digits V_th_isNode V_th_base V_th_slot V_th_whichMany V_th_whichFirst V_th_value n1 th_page F r1 hM) rfl 0 rfl rfl ⟨rfl, rfl, by decide, by decide⟩ (Nat.le_of_ble_eq_true rfl) [0, 1] rfl (by decide) rfl rfl dX11_noPlace_2 [some 0, some 1] (by decide) ⟨⟨rfl, rfl⟩, ⟨⟨rfl, rfl⟩, trivial⟩⟩ rfl ?_
  obtain ⟨k2, hk2, hm⟩ := jn0_some hm
  have jk2 : k2  = some u → Wb x [(A_th, oO 10 [V_th_thrown, V_th_text, V_th_textSize, V_th_readPage, .ref A_th_page, V_th_trial, V_th_book, V_th_doings, V_th_kept, V_th_isKept, V_th_seen, V_th_seenPlace, V_th_seenDigit, V_th_seenIs, V_th_seed, V_th_plan, V_th_good, V_th_bad, V_th_signs, V_th_signMany, V_th_digits, V_th_isNode, V_th_base, V_th_slot, V_th_whichMany, V_th_whichFirst, V_th_value]), (A_th_page, iA g 22 th_page)] [] 31 [] := by
    intro  hm
    have hm := hk2 hm
    refine b_iconst (v := 1) C dX11_noPlace_31 (by decide) ?_
    refine b_goto (tgt := 36) C dX11_noPlace_32 (by decide) ?_
    cases hm
    exact b_zret (v := 1) C (by decide) dX11_noPlace_36
  refine b_if_ne (tgt := 31) C dX11_noPlace_5 (by decide) hm (fun hm => ?_) (fun hm => ?_)
  · exact Wb.lv (jk2  hm) [] rfl
  · refine b_iload_n C dX11_noPlace_8 rfl 2 rfl ?_
    refine b_i2l C dX11_noPlace_9 ?_
    refine b_lconst (v := 0) C dX11_noPlace_10 (by decide) ?_
    refine b_aload_n C dX11_noPlace_11 rfl 0 rfl ?_
    refine gfX11_16 C 0 rfl rfl dX11_noPlace_12 ?_
    refine b_iconst (v := 1) C dX11_noPlace_15 (by decide) ?_
    refine b_iload_n C dX11_noPlace_16 rfl 1 rfl ?_
    refine b_iadd C dX11_noPlace_17 ?_
    refine b_iald C 1 rfl dX11_noPlace_18 hm (fun v3 hm => ?_)
    obtain ⟨r4, hM, hm⟩ := bK1_some hm
    refine b_kS (w' := [(A_th, oO 10 [V_th_thrown, V_th_text, V_th_textSize, V_th_readPage, .ref A_th_page, V_th_trial, V_th_book, V_th_doings, V_th_kept, V_th_isKept, V_th_seen, V_th_seenPlace, V_th_seenDigit, V_th_seenIs, V_th_seed, V_th_plan, V_th_good, V_th_bad, V_th_signs, V_th_signMany, V_th_digits, V_th_isNode, V_th_base, V_th_slot, V_th_whichMany, V_th_whichFirst, V_th_value]), (A_th_page, iA g 22 th_page)]) (st := [.long 0, .long n2.toInt64]) (st2 := [.int r4, .long 0, .long n2.toInt64]) C cs_X11_length tb979 (c_X11_length l g v3 F r4 hM) rfl ⟨rfl, rfl, by decide, by decide⟩ (Nat.le_of_ble_eq_true rfl) [] rfl (by decide) rfl rfl dX11_noPlace_19 [none, none] (by decide) ⟨rfl, ⟨rfl, trivial⟩⟩ rfl ?_
    refine b_iconst (v := 2) C dX11_noPlace_22 (by decide) ?_
    refine b_isub C dX11_noPlace_23 ?_
    refine b_i2l C dX11_noPlace_24 ?_
    obtain ⟨r5, hM, hm⟩ := bK1_some hm
    refine b_kS (w' := [(A_th, oO 10 [V_th_thrown, V_th_text, V_th_textSize, V_th_readPage, .ref A_th_page, V_th_trial, V_th_book, V_th_doings, V_th_kept, V_th_isKept, V_th_seen, V_th_seenPlace, V_th_seenDigit, V_th_seenIs, V_th_seed, V_th_plan, V_th_good, V_th_bad, V_th_signs, V_th_signMany, V_th_digits, V_th_isNode, V_th_base, V_th_slot, V_th_whichMany, V_th_whichFirst, V_th_value]), (A_th_page, iA g 22 th_page)]) (st := []) (st2 := [.int r5]) C cs_X11_in tb937 (c_X11_in l g n2.toInt64 0 ((r4 - 2).toInt64) F r5 hM) rfl ⟨rfl, rfl, by decide, by decide⟩ (Nat.le_of_ble_eq_true rfl) [] rfl (by decide) rfl rfl dX11_noPlace_25 [none, none] (by decide) ⟨rfl, ⟨rfl, trivial⟩⟩ rfl ?_
    refine b_if_ne (tgt := 35) C dX11_noPlace_28 (by decide) hm (fun hm => ?_) (fun hm => ?_)
    · refine b_iconst (v := 0) C dX11_noPlace_35 (by decide) ?_
      cases hm
      exact b_zret (v := 0) C (by decide) dX11_noPlace_36
    · exact Wb.lv (jk2  hm) [] rfl
/-- BreakLearnerModel.write(I)I -/
def m_X11_write (F : Nat)  (n1 : Int32) (th_thrown : Int32) (th_textSize : Int32) (th_text : (Nat → Int32)) : Option (Int32 × Int32 × Int32 × (Nat → Int32)) :=
  bK1 (m_X11_in F n1.toInt64 0 255) (fun r1 =>
  if r1 = 0 then
    some ((-2), 0, th_textSize, th_text)
  else
    if th_textSize = 64 then
      some ((-4), 0, th_textSize, th_text)
    else
      stK 64 th_text th_textSize n1 (fun f2 =>
      letK (th_textSize + 1) (fun z3 =>
      some (z3, 0, z3, f2)
      )
      )
  )
abbrev rmX11_write : Room := { frames := 1, cells := 0, slots := 0, locals := 25 }
set_option maxHeartbeats 4000000 in
set_option maxRecDepth 100000 in
theorem c_X11_write (l : Launch) (g : Gl) (A_th A_th_text : Nat) (V_th_readPage V_th_page V_th_trial V_th_book V_th_doings V_th_kept V_th_isKept V_th_seen V_th_seenPlace V_th_seenDigit V_th_seenIs V_th_seed V_th_plan V_th_good V_th_bad V_th_signs V_th_signMany V_th_digits V_th_isNode V_th_base V_th_slot V_th_whichMany V_th_whichFirst V_th_value : Value)  (n1 : Int32) (th_thrown : Int32) (th_textSize : Int32) (th_text : (Nat → Int32)) (F : Nat) (u : Int32 × Int32 × Int32 × (Nat → Int32)) (hm : m_X11_write F n1 th_thrown th_textSize th_text = some u) : Ct l g yX11_write cX11_write 2 (some .int) rmX11_write [.ref A_th, .int n1] [(A_th, oO 10 [.int th_thrown, .ref A_th_text, .int th_textSize, V_th_readPage, V_th_page, V_th_trial, V_th_book, V_th_doings, V_th_kept, V_th_isKept, V_th_seen, V_th_seenPlace, V_th_seenDigit, V_th_seenIs, V_th_seed, V_th_plan, V_th_good, V_th_bad, V_th_signs, V_th_signMany, V_th_digits, V_th_isNode, V_th_base, V_th_slot, V_th_whichMany, V_th_whichFirst, V_th_value]), (A_th_text, iA g 64 th_text)] (some (.int u.1)) [(A_th, oO 10 [.int u.2.1, .ref A_th_text, .int u.2.2.1, V_th_readPage, V_th_page, V_th_trial, V_th_book, V_th_doings, V_th_kept, V_th_isKept, V_th_seen, V_th_seenPlace, V_th_seenDigit, V_th_seenIs, V_th_seed, V_th_plan, V_th_good, V_th_bad, V_th_signs, V_th_signMany, V_th_digits, V_th_isNode, V_th_base, V_th_slot, V_th_whichMany, V_th_whichFirst, V_th_value]), (A_th_text, iA g 64 u.2.2.2)] := by
  refine ent (own := RX11) (lv := [(0, .ref A_th), (1, .int n1)]) (by decide) rfl (Nat.le_of_ble_eq_true rfl) rfl rfl ?_
  intro x C
  unfold m_X11_write at hm
  refine b_aload_n C dX11_write_0 rfl 0 rfl ?_
  refine b_iconst (v := 0) C dX11_write_1 (by decide) ?_
  refine pfX11_68 (w' := [(A_th, oO 10 [.int 0, .ref A_th_text, .int th_textSize, V_th_readPage, V_th_page, V_th_trial, V_th_book, V_th_doings, V_th_kept, V_th_isKept, V_th_seen, V_th_seenPlace, V_th_seenDigit, V_th_seenIs, V_th_seed, V_th_plan, V_th_good, V_th_bad, V_th_signs, V_th_signMany, V_th_digits, V_th_isNode, V_th_base, V_th_slot, V_th_whichMany, V_th_whichFirst, V_th_value]), (A_th_text, iA g 64 th_text)]) C rfl rfl 0 rfl (Nat.le_of_ble_eq_true rfl) dX11_write_2 rfl ?_
  refine b_iload_n C dX11_write_5 rfl 1 rfl ?_
  refine b_i2l C dX11_write_6 ?_
  refine b_lconst (v := 0) C dX11_write_7 (by decide) ?_
  refine b_ldc2 C tb936 dX11_write_8 ?_
  obtain ⟨r1, hM, hm⟩ := bK1_some hm
  refine b_kS (w' := [(A_th, oO 10 [.int 0, .ref A_th_text, .int th_textSize, V_th_readPage, V_th_page, V_th_trial, V_th_book, V_th_doings, V_th_kept, V_th_isKept, V_th_seen, V_th_seenPlace, V_th_seenDigit, V_th_seenIs, V_th_seed, V_th_plan, V_th_good, V_th_bad, V_th_signs, V_th_signMany, V_th_digits, V_th_isNode, V_th_base, V_th_slot, V_th_whichMany, V_th_whichFirst, V_th_value]), (A_th_text, iA g 64 th_text)]) (st := []) (st2 := [.int r1]) C cs_X11_in tb937 (c_X11_in l g n1.toInt64 0 255 F r1 hM) rfl ⟨rfl, rfl, by decide, by decide⟩ (Nat.le_of_ble_eq_true rfl) [] rfl (by decide) rfl rfl dX11_write_11 [none, none] (by decide) ⟨rfl, ⟨rfl, trivial⟩⟩ rfl ?_
  refine b_if_ne (tgt := 20) C dX11_write_14 (by decide) hm (fun hm => ?_) (fun hm => ?_)
  · refine b_aload_n C dX11_write_20 rfl 0 rfl ?_
    refine gfX11_86 C 0 rfl rfl dX11_write_21 ?_
    refine b_bipush (v := 64) C dX11_write_24 (by decide) ?_
    refine b_icmp_ne (tgt := 32) C dX11_write_26 (by decide) hm (fun hm => ?_) (fun hm => ?_)
    · refine b_aload_n C dX11_write_32 rfl 0 rfl ?_
      refine gfX11_7 C 0 rfl rfl dX11_write_33 ?_
      refine b_aload_n C dX11_write_36 rfl 0 rfl ?_
      refine gfX11_86 C 0 rfl rfl dX11_write_37 ?_
      refine b_iload_n C dX11_write_40 rfl 1 rfl ?_
      refine b_iast C 1 rfl dX11_write_41 hm (fun f2 hm => Wb.to (w' := [(A_th, oO 10 [.int 0, .ref A_th_text, .int th_textSize, V_th_readPage, V_th_page, V_th_trial, V_th_book, V_th_doings, V_th_kept, V_th_isKept, V_th_seen, V_th_seenPlace, V_th_seenDigit, V_th_seenIs, V_th_seed, V_th_plan, V_th_good, V_th_bad, V_th_signs, V_th_signMany, V_th_digits, V_th_isNode, V_th_base, V_th_slot, V_th_whichMany, V_th_whichFirst, V_th_value]), (A_th_text, iA g 64 f2)]) rfl ?_)
      refine b_aload_n C dX11_write_42 rfl 0 rfl ?_
      refine b_dup C dX11_write_43 rfl ?_
      refine gfX11_86 C 0 rfl rfl dX11_write_44 ?_
      refine b_iconst (v := 1) C dX11_write_47 (by decide) ?_
      refine b_iadd C dX11_write_48 ?_
      refine b_topi hm (fun z3 hm => ?_)
      refine pfX11_86 (w' := [(A_th, oO 10 [.int 0, .ref A_th_text, .int z3, V_th_readPage, V_th_page, V_th_trial, V_th_book, V_th_doings, V_th_kept, V_th_isKept, V_th_seen, V_th_seenPlace, V_th_seenDigit, V_th_seenIs, V_th_seed, V_th_plan, V_th_good, V_th_bad, V_th_signs, V_th_signMany, V_th_digits, V_th_isNode, V_th_base, V_th_slot, V_th_whichMany, V_th_whichFirst, V_th_value]), (A_th_text, iA g 64 f2)]) C rfl rfl 0 rfl (Nat.le_of_ble_eq_true rfl) dX11_write_49 rfl ?_
      refine b_aload_n C dX11_write_52 rfl 0 rfl ?_
      refine gfX11_86 C 0 rfl rfl dX11_write_53 ?_
      cases hm
      exact b_iret C dX11_write_56
    · refine b_bipush (v := (-4)) C dX11_write_29 (by decide) ?_
      cases hm
      exact b_iret C dX11_write_31
  · refine b_bipush (v := (-2)) C dX11_write_17 (by decide) ?_
    cases hm
    exact b_iret C dX11_write_19
/-- BreakLearnerModel.wipe()I -/
def m_X11_wipe (F : Nat)   (th_thrown : Int32) (th_textSize : Int32) : Option (Int32 × Int32 × Int32) :=
  some (th_textSize, 0, 0)
abbrev rmX11_wipe : Room := { frames := 0, cells := 0, slots := 0, locals := 0 }
set_option maxHeartbeats 4000000 in
set_option maxRecDepth 100000 in
theorem c_X11_wipe (l : Launch) (g : Gl) (A_th : Nat) (V_th_text V_th_readPage V_th_page V_th_trial V_th_book V_th_doings V_th_kept V_th_isKept V_th_seen V_th_seenPlace V_th_seenDigit V_th_seenIs V_th_seed V_th_plan V_th_good V_th_bad V_th_signs V_th_signMany V_th_digits V_th_isNode V_th_base V_th_slot V_th_whichMany V_th_whichFirst V_th_value : Value)   (th_thrown : Int32) (th_textSize : Int32) (F : Nat) (u : Int32 × Int32 × Int32) (hm : m_X11_wipe F th_thrown th_textSize = some u) : Ct l g yX11_wipe cX11_wipe 2 (some .int) rmX11_wipe [.ref A_th] [(A_th, oO 10 [.int th_thrown, V_th_text, .int th_textSize, V_th_readPage, V_th_page, V_th_trial, V_th_book, V_th_doings, V_th_kept, V_th_isKept, V_th_seen, V_th_seenPlace, V_th_seenDigit, V_th_seenIs, V_th_seed, V_th_plan, V_th_good, V_th_bad, V_th_signs, V_th_signMany, V_th_digits, V_th_isNode, V_th_base, V_th_slot, V_th_whichMany, V_th_whichFirst, V_th_value])] (some (.int u.1)) [(A_th, oO 10 [.int u.2.1, V_th_text, .int u.2.2, V_th_readPage, V_th_page, V_th_trial, V_th_book, V_th_doings, V_th_kept, V_th_isKept, V_th_seen, V_th_seenPlace, V_th_seenDigit, V_th_seenIs, V_th_seed, V_th_plan, V_th_good, V_th_bad, V_th_signs, V_th_signMany, V_th_digits, V_th_isNode, V_th_base, V_th_slot, V_th_whichMany, V_th_whichFirst, V_th_value])] := by
  refine ent (own := RX11) (lv := [(0, .ref A_th)]) (by decide) rfl (Nat.le_of_ble_eq_true rfl) rfl rfl ?_
  intro x C
  unfold m_X11_wipe at hm
  refine b_aload_n C dX11_wipe_0 rfl 0 rfl ?_
  refine b_iconst (v := 0) C dX11_wipe_1 (by decide) ?_
  refine pfX11_68 (w' := [(A_th, oO 10 [.int 0, V_th_text, .int th_textSize, V_th_readPage, V_th_page, V_th_trial, V_th_book, V_th_doings, V_th_kept, V_th_isKept, V_th_seen, V_th_seenPlace, V_th_seenDigit, V_th_seenIs, V_th_seed, V_th_plan, V_th_good, V_th_bad, V_th_signs, V_th_signMany, V_th_digits, V_th_isNode, V_th_base, V_th_slot, V_th_whichMany, V_th_whichFirst, V_th_value])]) C rfl rfl 0 rfl (Nat.le_of_ble_eq_true rfl) dX11_wipe_2 rfl ?_
  refine b_aload_n C dX11_wipe_5 rfl 0 rfl ?_
  refine gfX11_86 C 0 rfl rfl dX11_wipe_6 ?_
  refine b_istore_n (lv' := [(1, .int th_textSize), (0, .ref A_th)]) C dX11_wipe_9 rfl (by decide) rfl ?_
  refine b_aload_n C dX11_wipe_10 rfl 1 rfl ?_
  refine b_iconst (v := 0) C dX11_wipe_11 (by decide) ?_
  refine pfX11_86 (w' := [(A_th, oO 10 [.int 0, V_th_text, .int 0, V_th_readPage, V_th_page, V_th_trial, V_th_book, V_th_doings, V_th_kept, V_th_isKept, V_th_seen, V_th_seenPlace, V_th_seenDigit, V_th_seenIs, V_th_seed, V_th_plan, V_th_good, V_th_bad, V_th_signs, V_th_signMany, V_th_digits, V_th_isNode, V_th_base, V_th_slot, V_th_whichMany, V_th_whichFirst, V_th_value])]) C rfl rfl 0 rfl (Nat.le_of_ble_eq_true rfl) dX11_wipe_12 rfl ?_
  refine b_iload_n C dX11_wipe_15 rfl 0 rfl ?_
  cases hm
  exact b_iret C dX11_wipe_16
/-- BreakLearnerModel.readList()I -/
def m_X11_readList (F : Nat)   (th_textSize : Int32) (th_readPage : (Nat → Int32)) (th_text : (Nat → Int32)) : Option (Int32 × (Nat → Int32)) :=
  stK 22 th_readPage 0 0 (fun f1 =>
  wl4 (fun (x3 : Int32) (x4 : Int32) (x5 : Int32) (f6 : (Nat → Int32)) c2 =>
    if th_textSize ≤ x5 then
      jn0 (
        some (th_textSize, f6)
        ) (fun k7 =>
        if x4 = 0 then
          rdK 22 f6 0 (fun v8 =>
          if v8 ≤ 0 then
            some ((-9), f6)
          else
            if 2 ≤ x3 then
              some ((-9), f6)
            else
              k7
          )
        else
          k7
        )
    else
      rdK 64 th_text x5 (fun v9 =>
      rdK 22 f6 0 (fun v10 =>
      letK (v10 - 1) (fun x11 =>
      jn0 (
        jn0 (
          bK1 (m_X11_in F v9.toInt64 97 101) (fun r14 =>
          if r14 = 0 then
            some (x5, f6)
          else
            if x11 < 0 then
              some (x5, f6)
            else
              if 6 ≤ x3 then
                some (x5, f6)
              else
                rdK 22 f6 (1 + x11) (fun v15 =>
                stK 22 f6 (1 + x11) ((((10 * v15) + v9) - 97) + 1) (fun f16 =>
                c2 (x3 + 1) 0 (x5 + 1) f16
                )
                )
          )
          ) (fun k13 =>
          if v9 = 45 then
            if x11 < 0 then
              k13
            else
              if x4 = 0 then
                bK1 (m_X11_in F x3.toInt64 1 5) (fun r17 =>
                if r17 = 0 then
                  k13
                else
                  rdK 22 f6 (7 + x11) (fun v18 =>
                  stK 22 f6 (7 + x11) (v18 ||| (1 <<< ((x3 - 1) &&& 31))) (fun f19 =>
                  c2 x3 1 (x5 + 1) f19
                  )
                  )
                )
              else
                k13
          else
            k13
          )
        ) (fun k12 =>
        if v9 = 87 then
          if x4 = 0 then
            jn0 (
              if 5 ≤ x11 then
                k12
              else
                rdK 22 f6 0 (fun v21 =>
                stK 22 f6 0 (v21 + 1) (fun f22 =>
                stK 22 f22 ((1 + x11) + 1) 0 (fun f23 =>
                stK 22 f23 ((7 + x11) + 1) 0 (fun f24 =>
                c2 0 x4 (x5 + 1) f24
                )
                )
                )
                )
              ) (fun k20 =>
              if x11 < 0 then
                k20
              else
                if x3 ≤ 1 then
                  k12
                else
                  k20
              )
          else
            k12
        else
          k12
        )
      )
      )
      )
    ) F 0 0 0 f1
  )
abbrev rmX11_readList : Room := { frames := 1, cells := 0, slots := 0, locals := 25 }
set_option maxHeartbeats 4000000 in
set_option maxRecDepth 100000 in
theorem c_X11_readList (l : Launch) (g : Gl) (A_th A_th_readPage A_th_text : Nat) (V_th_thrown V_th_page V_th_trial V_th_book V_th_doings V_th_kept V_th_isKept V_th_seen V_th_seenPlace V_th_seenDigit V_th_seenIs V_th_seed V_th_plan V_th_good V_th_bad V_th_signs V_th_signMany V_th_digits V_th_isNode V_th_base V_th_slot V_th_whichMany V_th_whichFirst V_th_value : Value)   (th_textSize : Int32) (th_readPage : (Nat → Int32)) (th_text : (Nat → Int32)) (F : Nat) (u : Int32 × (Nat → Int32)) (hm : m_X11_readList F th_textSize th_readPage th_text = some u) : Ct l g yX11_readList cX11_readList 6 (some .int) rmX11_readList [.ref A_th] [(A_th, oO 10 [V_th_thrown, .ref A_th_text, .int th_textSize, .ref A_th_readPage, V_th_page, V_th_trial, V_th_book, V_th_doings, V_th_kept, V_th_isKept, V_th_seen, V_th_seenPlace, V_th_seenDigit, V_th_seenIs, V_th_seed, V_th_plan, V_th_good, V_th_bad, V_th_signs, V_th_signMany, V_th_digits, V_th_isNode, V_th_base, V_th_slot, V_th_whichMany, V_th_whichFirst, V_th_value]), (A_th_readPage, iA g 22 th_readPage), (A_th_text, iA g 64 th_text)] (some (.int u.1)) [(A_th, oO 10 [V_th_thrown, .ref A_th_text, .int th_textSize, .ref A_th_readPage, V_th_page, V_th_trial, V_th_book, V_th_doings, V_th_kept, V_th_isKept, V_th_seen, V_th_seenPlace, V_th_seenDigit, V_th_seenIs, V_th_seed, V_th_plan, V_th_good, V_th_bad, V_th_signs, V_th_signMany, V_th_digits, V_th_isNode, V_th_base, V_th_slot, V_th_whichMany, V_th_whichFirst, V_th_value]), (A_th_readPage, iA g 22 u.2), (A_th_text, iA g 64 th_text)] := by
  refine ent (own := RX11) (lv := [(0, .ref A_th)]) (by decide) rfl (Nat.le_of_ble_eq_true rfl) rfl rfl ?_
  intro x C
  unfold m_X11_readList at hm
  refine b_aload_n C dX11_readList_0 rfl 0 rfl ?_
  refine gfX11_13 C 0 rfl rfl dX11_readList_1 ?_
  refine b_iconst (v := 0) C dX11_readList_4 (by decide) ?_
  refine b_iconst (v := 0) C dX11_readList_5 (by decide) ?_
  refine b_iast C 1 rfl dX11_readList_6 hm (fun f1 hm => Wb.to (w' := [(A_th, oO 10 [V_th_thrown, .ref A_th_text, .int th_textSize, .ref A_th_readPage, V_th_page, V_th_trial, V_th_book, V_th_doings, V_th_kept, V_th_isKept, V_th_seen, V_th_seenPlace, V_th_seenDigit, V_th_seenIs, V_th_seed, V_th_plan, V_th_good, V_th_bad, V_th_signs, V_th_signMany, V_th_digits, V_th_isNode, V_th_base, V_th_slot, V_th_whichMany, V_th_whichFirst, V_th_value]), (A_th_readPage, iA g 22 f1), (A_th_text, iA g 64 th_text)]) rfl ?_)
  refine b_iconst (v := 0) C dX11_readList_7 (by decide) ?_
  refine b_istore_n (lv' := [(1, .int 0), (0, .ref A_th)]) C dX11_readList_8 rfl (by decide) rfl ?_
  refine b_iconst (v := 0) C dX11_readList_9 (by decide) ?_
  refine b_istore_n (lv' := [(2, .int 0), (1, .int 0), (0, .ref A_th)]) C dX11_readList_10 rfl (by decide) rfl ?_
  refine b_iconst (v := 0) C dX11_readList_11 (by decide) ?_
  refine b_istore_n (lv' := [(3, .int 0), (2, .int 0), (1, .int 0), (0, .ref A_th)]) C dX11_readList_12 rfl (by decide) rfl ?_
  refine Wb.lv (lv' := [(0, .ref A_th), (1, .int 0), (2, .int 0), (3, .int 0)]) ?_ [3, 2, 1, 0] rfl
  refine wl4_W (Wg := fun (x3 : Int32) (x4 : Int32) (x5 : Int32) (f6 : (Nat → Int32)) => Wb x [(A_th, oO 10 [V_th_thrown, .ref A_th_text, .int th_textSize, .ref A_th_readPage, V_th_page, V_th_trial, V_th_book, V_th_doings, V_th_kept, V_th_isKept, V_th_seen, V_th_seenPlace, V_th_seenDigit, V_th_seenIs, V_th_seed, V_th_plan, V_th_good, V_th_bad, V_th_signs, V_th_signMany, V_th_digits, V_th_isNode, V_th_base, V_th_slot, V_th_whichMany, V_th_whichFirst, V_th_value]), (A_th_readPage, iA g 22 f6), (A_th_text, iA g 64 th_text)] [(0, .ref A_th), (1, .int x3), (2, .int x4), (3, .int x5)] 13 []) ?_ F 0 0 0 f1 hm
  intro x3 x4 x5 f6 c2 hc2 hm
  refine b_iload_n C dX11_readList_13 rfl 3 rfl ?_
  refine b_aload_n C dX11_readList_14 rfl 0 rfl ?_
  refine gfX11_86 C 0 rfl rfl dX11_readList_15 ?_
  refine b_icmp_ge (tgt := 228) C dX11_readList_18 (by decide) hm (fun hm => ?_) (fun hm => ?_)
  · refine b_iload_n C dX11_readList_228 rfl 2 rfl ?_
    obtain ⟨k7, hk7, hm⟩ := jn0_some hm
    have jk7 : k7  = some u → Wb x [(A_th, oO 10 [V_th_thrown, .ref A_th_text, .int th_textSize, .ref A_th_readPage, V_th_page, V_th_trial, V_th_book, V_th_doings, V_th_kept, V_th_isKept, V_th_seen, V_th_seenPlace, V_th_seenDigit, V_th_seenIs, V_th_seed, V_th_plan, V_th_good, V_th_bad, V_th_signs, V_th_signMany, V_th_digits, V_th_isNode, V_th_base, V_th_slot, V_th_whichMany, V_th_whichFirst, V_th_value]), (A_th_readPage, iA g 22 f6), (A_th_text, iA g 64 th_text)] [(0, .ref A_th)] 246 [] := by
      intro  hm
      have hm := hk7 hm
      refine b_aload_n C dX11_readList_246 rfl 0 rfl ?_
      refine gfX11_86 C 0 rfl rfl dX11_readList_247 ?_
      refine b_goto (tgt := 255) C dX11_readList_250 (by decide) ?_
      cases hm
      exact b_iret C dX11_readList_255
    refine b_if_ne (tgt := 246) C dX11_readList_229 (by decide) hm (fun hm => ?_) (fun hm => ?_)
    · exact Wb.lv (jk7  hm) [0] rfl
    · refine b_aload_n C dX11_readList_232 rfl 0 rfl ?_
      refine gfX11_13 C 0 rfl rfl dX11_readList_233 ?_
      refine b_iconst (v := 0) C dX11_readList_236 (by decide) ?_
      refine b_iald C 1 rfl dX11_readList_237 hm (fun v8 hm => ?_)
      refine b_if_le (tgt := 253) C dX11_readList_238 (by decide) hm (fun hm => ?_) (fun hm => ?_)
      · refine b_bipush (v := (-9)) C dX11_readList_253 (by decide) ?_
        cases hm
        exact b_iret C dX11_readList_255
      · refine b_iload_n C dX11_readList_241 rfl 1 rfl ?_
        refine b_iconst (v := 2) C dX11_readList_242 (by decide) ?_
        refine b_icmp_ge (tgt := 253) C dX11_readList_243 (by decide) hm (fun hm => ?_) (fun hm => ?_)
        · refine b_bipush (v := (-9)) C dX11_readList_253 (by decide) ?_
          cases hm
          exact b_iret C dX11_readList_255
        · exact Wb.lv (jk7  hm) [0] rfl
  · refine b_aload_n C dX11_readList_21 rfl 0 rfl ?_
    refine gfX11_7 C 0 rfl rfl dX11_readList_22 ?_
    refine b_iload_n C dX11_readList_25 rfl 3 rfl ?_
    refine b_iald C 2 rfl dX11_readList_26 hm (fun v9 hm => ?_)
    refine b_istore (lv' := [(4, .int v9), (0, .ref A_th), (1, .int x3), (2, .int x4), (3, .int x5)]) C dX11_readList_27 (by decide) rfl ?_
    refine b_aload_n C dX11_readList_29 rfl 1 rfl ?_
    refine gfX11_13 C 0 rfl rfl dX11_readList_30 ?_
    refine b_iconst (v := 0) C dX11_readList_33 (by decide) ?_
    refine b_iald C 1 rfl dX11_readList_34 hm (fun v10 hm => ?_)
    refine b_iconst (v := 1) C dX11_readList_35 (by decide) ?_
    refine b_isub C dX11_readList_36 ?_
    refine b_topi hm (fun x11 hm => ?_)
    refine b_istore (lv' := [(5, .int x11), (4, .int v9), (0, .ref A_th), (1, .int x3), (2, .int x4), (3, .int x5)]) C dX11_readList_37 (by decide) rfl ?_
    refine b_iload C dX11_readList_39 1 rfl ?_
    refine b_bipush (v := 87) C dX11_readList_41 (by decide) ?_
    obtain ⟨k12, hk12, hm⟩ := jn0_some hm
    have jk12 : k12  = some u → Wb x [(A_th, oO 10 [V_th_thrown, .ref A_th_text, .int th_textSize, .ref A_th_readPage, V_th_page, V_th_trial, V_th_book, V_th_doings, V_th_kept, V_th_isKept, V_th_seen, V_th_seenPlace, V_th_seenDigit, V_th_seenIs, V_th_seed, V_th_plan, V_th_good, V_th_bad, V_th_signs, V_th_signMany, V_th_digits, V_th_isNode, V_th_base, V_th_slot, V_th_whichMany, V_th_whichFirst, V_th_value]), (A_th_readPage, iA g 22 f6), (A_th_text, iA g 64 th_text)] [(0, .ref A_th), (1, .int x3), (2, .int x4), (3, .int x5), (4, .int v9), (5, .int x11)] 106 [] := by
      intro  hm
      have hm := hk12 hm
      refine b_iload C dX11_readList_106 4 rfl ?_
      refine b_bipush (v := 45) C dX11_readList_108 (by decide) ?_
      obtain ⟨k13, hk13, hm⟩ := jn0_some hm
      have jk13 : k13  = some u → Wb x [(A_th, oO 10 [V_th_thrown, .ref A_th_text, .int th_textSize, .ref A_th_readPage, V_th_page, V_th_trial, V_th_book, V_th_doings, V_th_kept, V_th_isKept, V_th_seen, V_th_seenPlace, V_th_seenDigit, V_th_seenIs, V_th_seed, V_th_plan, V_th_good, V_th_bad, V_th_signs, V_th_signMany, V_th_digits, V_th_isNode, V_th_base, V_th_slot, V_th_whichMany, V_th_whichFirst, V_th_value]), (A_th_readPage, iA g 22 f6), (A_th_text, iA g 64 th_text)] [(0, .ref A_th), (1, .int x3), (3, .int x5), (4, .int v9), (5, .int x11)] 157 [] := by
        intro  hm
        have hm := hk13 hm
        refine b_iload C dX11_readList_157 3 rfl ?_
        refine b_i2l C dX11_readList_159 ?_
        refine b_ldc2 C tb953 dX11_readList_160 ?_
        refine b_ldc2 C tb954 dX11_readList_163 ?_
        obtain ⟨r14, hM, hm⟩ := bK1_some hm
        refine b_kS (w' := [(A_th, oO 10 [V_th_thrown, .ref A_th_text, .int th_textSize, .ref A_th_readPage, V_th_page, V_th_trial, V_th_book, V_th_doings, V_th_kept, V_th_isKept, V_th_seen, V_th_seenPlace, V_th_seenDigit, V_th_seenIs, V_th_seed, V_th_plan, V_th_good, V_th_bad, V_th_signs, V_th_signMany, V_th_digits, V_th_isNode, V_th_base, V_th_slot, V_th_whichMany, V_th_whichFirst, V_th_value]), (A_th_readPage, iA g 22 f6), (A_th_text, iA g 64 th_text)]) (st := []) (st2 := [.int r14]) C cs_X11_in tb937 (c_X11_in l g v9.toInt64 97 101 F r14 hM) rfl ⟨rfl, rfl, by decide, by decide⟩ (Nat.le_of_ble_eq_true rfl) [] rfl (by decide) rfl rfl dX11_readList_166 [none, none, none] (by decide) ⟨rfl, ⟨rfl, ⟨rfl, trivial⟩⟩⟩ rfl ?_
        refine b_if_eq (tgt := 220) C dX11_readList_169 (by decide) hm (fun hm => ?_) (fun hm => ?_)
        · refine b_iload_n C dX11_readList_220 rfl 2 rfl ?_
          cases hm
          exact b_iret C dX11_readList_221
        · refine b_iload C dX11_readList_172 4 rfl ?_
          refine b_if_lt (tgt := 220) C dX11_readList_174 (by decide) hm (fun hm => ?_) (fun hm => ?_)
          · refine b_iload_n C dX11_readList_220 rfl 2 rfl ?_
            cases hm
            exact b_iret C dX11_readList_221
          · refine b_iload_n C dX11_readList_177 rfl 1 rfl ?_
            refine b_bipush (v := 6) C dX11_readList_178 (by decide) ?_
            refine b_icmp_ge (tgt := 220) C dX11_readList_180 (by decide) hm (fun hm => ?_) (fun hm => ?_)
            · refine b_iload_n C dX11_readList_220 rfl 2 rfl ?_
              cases hm
              exact b_iret C dX11_readList_221
            · refine b_aload_n C dX11_readList_183 rfl 0 rfl ?_
              refine gfX11_13 C 0 rfl rfl dX11_readList_184 ?_
              refine b_iconst (v := 1) C dX11_readList_187 (by decide) ?_
              refine b_iload C dX11_readList_188 4 rfl ?_
              refine b_iadd C dX11_readList_190 ?_
              refine b_bipush (v := 10) C dX11_readList_191 (by decide) ?_
              refine b_aload_n C dX11_readList_193 rfl 0 rfl ?_
              refine gfX11_13 C 0 rfl rfl dX11_readList_194 ?_
              refine b_iconst (v := 1) C dX11_readList_197 (by decide) ?_
              refine b_iload C dX11_readList_198 4 rfl ?_
              refine b_iadd C dX11_readList_200 ?_
              refine b_iald C 1 rfl dX11_readList_201 hm (fun v15 hm => ?_)
              refine b_imul C dX11_readList_202 ?_
              refine b_iload C dX11_readList_203 3 rfl ?_
              refine b_iadd C dX11_readList_205 ?_
              refine b_bipush (v := 97) C dX11_readList_206 (by decide) ?_
              refine b_isub C dX11_readList_208 ?_
              refine b_iconst (v := 1) C dX11_readList_209 (by decide) ?_
              refine b_iadd C dX11_readList_210 ?_
              refine b_iast C 1 rfl dX11_readList_211 hm (fun f16 hm => Wb.to (w' := [(A_th, oO 10 [V_th_thrown, .ref A_th_text, .int th_textSize, .ref A_th_readPage, V_th_page, V_th_trial, V_th_book, V_th_doings, V_th_kept, V_th_isKept, V_th_seen, V_th_seenPlace, V_th_seenDigit, V_th_seenIs, V_th_seed, V_th_plan, V_th_good, V_th_bad, V_th_signs, V_th_signMany, V_th_digits, V_th_isNode, V_th_base, V_th_slot, V_th_whichMany, V_th_whichFirst, V_th_value]), (A_th_readPage, iA g 22 f16), (A_th_text, iA g 64 th_text)]) rfl ?_)
              refine b_iinc (v2 := x3 + 1) (lv' := [(1, .int (x3 + 1)), (0, .ref A_th), (3, .int x5), (4, .int v9), (5, .int x11)]) C dX11_readList_212 1 rfl rfl (by decide) rfl ?_
              refine b_iconst (v := 0) C dX11_readList_215 (by decide) ?_
              refine b_istore_n (lv' := [(2, .int 0), (1, .int (x3 + 1)), (0, .ref A_th), (3, .int x5), (4, .int v9), (5, .int x11)]) C dX11_readList_216 rfl (by decide) rfl ?_
              refine b_goto (tgt := 222) C dX11_readList_217 (by decide) ?_
              refine b_iinc (v2 := x5 + 1) (lv' := [(3, .int (x5 + 1)), (2, .int 0), (1, .int (x3 + 1)), (0, .ref A_th), (4, .int v9), (5, .int x11)]) C dX11_readList_222 3 rfl rfl (by decide) rfl ?_
              refine b_goto (tgt := 13) C dX11_readList_225 (by decide) ?_
              exact Wb.lv (hc2 (x3 + 1) 0 (x5 + 1) f16 hm) [3, 2, 1, 0] rfl
      refine b_icmp_ne (tgt := 157) C dX11_readList_110 (by decide) hm (fun hm => ?_) (fun hm => ?_)
      · exact Wb.lv (jk13  hm) [0, 1, 3, 4, 5] rfl
      · refine b_iload C dX11_readList_113 5 rfl ?_
        refine b_if_lt (tgt := 157) C dX11_readList_115 (by decide) hm (fun hm => ?_) (fun hm => ?_)
        · exact Wb.lv (jk13  hm) [0, 1, 3, 4, 5] rfl
        · refine b_iload_n C dX11_readList_118 rfl 2 rfl ?_
          refine b_if_ne (tgt := 157) C dX11_readList_119 (by decide) hm (fun hm => ?_) (fun hm => ?_)
          · exact Wb.lv (jk13  hm) [0, 1, 3, 4, 5] rfl
          · refine b_iload_n C dX11_readList_122 rfl 1 rfl ?_
            refine b_i2l C dX11_readList_123 ?_
            refine b_lconst (v := 1) C dX11_readList_124 (by decide) ?_
            refine b_ldc2 C tb952 dX11_readList_125 ?_
            obtain ⟨r17, hM, hm⟩ := bK1_some hm
            refine b_kS (w' := [(A_th, oO 10 [V_th_thrown, .ref A_th_text, .int th_textSize, .ref A_th_readPage, V_th_page, V_th_trial, V_th_book, V_th_doings, V_th_kept, V_th_isKept, V_th_seen, V_th_seenPlace, V_th_seenDigit, V_th_seenIs, V_th_seed, V_th_plan, V_th_good, V_th_bad, V_th_signs, V_th_signMany, V_th_digits, V_th_isNode, V_th_base, V_th_slot, V_th_whichMany, V_th_whichFirst, V_th_value]), (A_th_readPage, iA g 22 f6), (A_th_text, iA g 64 th_text)]) (st := []) (st2 := [.int r17]) C cs_X11_in tb937 (c_X11_in l g x3.toInt64 1 5 F r17 hM) rfl ⟨rfl, rfl, by decide, by decide⟩ (Nat.le_of_ble_eq_true rfl) [] rfl (by decide) rfl rfl dX11_readList_128 [none, none, none] (by decide) ⟨rfl, ⟨rfl, ⟨rfl, trivial⟩⟩⟩ rfl ?_
            refine b_if_eq (tgt := 157) C dX11_readList_131 (by decide) hm (fun hm => ?_) (fun hm => ?_)
            · exact Wb.lv (jk13  hm) [0, 1, 3, 4, 5] rfl
            · refine b_iconst (v := 1) C dX11_readList_134 (by decide) ?_
              refine b_istore_n (lv' := [(2, .int 1), (0, .ref A_th), (1, .int x3), (3, .int x5), (4, .int v9), (5, .int x11)]) C dX11_readList_135 rfl (by decide) rfl ?_
              refine b_aload_n C dX11_readList_136 rfl 1 rfl ?_
              refine gfX11_13 C 0 rfl rfl dX11_readList_137 ?_
              refine b_bipush (v := 7) C dX11_readList_140 (by decide) ?_
              refine b_iload C dX11_readList_142 5 rfl ?_
              refine b_iadd C dX11_readList_144 ?_
              refine b_dup2 C dX11_readList_145 rfl rfl ?_
              refine b_iald C 1 rfl dX11_readList_146 hm (fun v18 hm => ?_)
              refine b_iconst (v := 1) C dX11_readList_147 (by decide) ?_
              refine b_iload_n C dX11_readList_148 rfl 2 rfl ?_
              refine b_iconst (v := 1) C dX11_readList_149 (by decide) ?_
              refine b_isub C dX11_readList_150 ?_
              refine b_ishl C dX11_readList_151 ?_
              refine b_ior C dX11_readList_152 ?_
              refine b_iast C 1 rfl dX11_readList_153 hm (fun f19 hm => Wb.to (w' := [(A_th, oO 10 [V_th_thrown, .ref A_th_text, .int th_textSize, .ref A_th_readPage, V_th_page, V_th_trial, V_th_book, V_th_doings, V_th_kept, V_th_isKept, V_th_seen, V_th_seenPlace, V_th_seenDigit, V_th_seenIs, V_th_seed, V_th_plan, V_th_good, V_th_bad, V_th_signs, V_th_signMany, V_th_digits, V_th_isNode, V_th_base, V_th_slot, V_th_whichMany, V_th_whichFirst, V_th_value]), (A_th_readPage, iA g 22 f19), (A_th_text, iA g 64 th_text)]) rfl ?_)
              refine b_goto (tgt := 222) C dX11_readList_154 (by decide) ?_
              refine b_iinc (v2 := x5 + 1) (lv' := [(3, .int (x5 + 1)), (2, .int 1), (0, .ref A_th), (1, .int x3), (4, .int v9), (5, .int x11)]) C dX11_readList_222 3 rfl rfl (by decide) rfl ?_
              refine b_goto (tgt := 13) C dX11_readList_225 (by decide) ?_
              exact Wb.lv (hc2 x3 1 (x5 + 1) f19 hm) [2, 3, 1, 0] rfl
    refine b_icmp_ne (tgt := 106) C dX11_readList_43 (by decide) hm (fun hm => ?_) (fun hm => ?_)
    · exact Wb.lv (jk12  hm) [2, 3, 4, 5, 1, 0] rfl
    · refine b_iload_n C dX11_readList_46 rfl 4 rfl ?_
      refine b_if_ne (tgt := 106) C dX11_readList_47 (by decide) hm (fun hm => ?_) (fun hm => ?_)
      · exact Wb.lv (jk12  hm) [2, 3, 4, 5, 1, 0] rfl
      · refine b_iload C dX11_readList_50 0 rfl ?_
        obtain ⟨k20, hk20, hm⟩ := jn0_some hm
        have jk20 : k20  = some u → Wb x [(A_th, oO 10 [V_th_thrown, .ref A_th_text, .int th_textSize, .ref A_th_readPage, V_th_page, V_th_trial, V_th_book, V_th_doings, V_th_kept, V_th_isKept, V_th_seen, V_th_seenPlace, V_th_seenDigit, V_th_seenIs, V_th_seed, V_th_plan, V_th_good, V_th_bad, V_th_signs, V_th_signMany, V_th_digits, V_th_isNode, V_th_base, V_th_slot, V_th_whichMany, V_th_whichFirst, V_th_value]), (A_th_readPage, iA g 22 f6), (A_th_text, iA g 64 th_text)] [(0, .ref A_th), (1, .int x3), (2, .int x4), (3, .int x5), (4, .int v9), (5, .int x11)] 60 [] := by
          intro  hm
          have hm := hk20 hm
          refine b_iload C dX11_readList_60 5 rfl ?_
          refine b_iconst (v := 5) C dX11_readList_62 (by decide) ?_
          refine b_icmp_ge (tgt := 106) C dX11_readList_63 (by decide) hm (fun hm => ?_) (fun hm => ?_)
          · exact Wb.lv (jk12  hm) [0, 1, 2, 3, 4, 5] rfl
          · refine b_aload_n C dX11_readList_66 rfl 0 rfl ?_
            refine gfX11_13 C 0 rfl rfl dX11_readList_67 ?_
            refine b_iconst (v := 0) C dX11_readList_70 (by decide) ?_
            refine b_dup2 C dX11_readList_71 rfl rfl ?_
            refine b_iald C 1 rfl dX11_readList_72 hm (fun v21 hm => ?_)
            refine b_iconst (v := 1) C dX11_readList_73 (by decide) ?_
            refine b_iadd C dX11_readList_74 ?_
            refine b_iast C 1 rfl dX11_readList_75 hm (fun f22 hm => Wb.to (w' := [(A_th, oO 10 [V_th_thrown, .ref A_th_text, .int th_textSize, .ref A_th_readPage, V_th_page, V_th_trial, V_th_book, V_th_doings, V_th_kept, V_th_isKept, V_th_seen, V_th_seenPlace, V_th_seenDigit, V_th_seenIs, V_th_seed, V_th_plan, V_th_good, V_th_bad, V_th_signs, V_th_signMany, V_th_digits, V_th_isNode, V_th_base, V_th_slot, V_th_whichMany, V_th_whichFirst, V_th_value]), (A_th_readPage, iA g 22 f22), (A_th_text, iA g 64 th_text)]) rfl ?_)
            refine b_aload_n C dX11_readList_76 rfl 0 rfl ?_
            refine gfX11_13 C 0 rfl rfl dX11_readList_77 ?_
            refine b_iconst (v := 1) C dX11_readList_80 (by decide) ?_
            refine b_iload C dX11_readList_81 5 rfl ?_
            refine b_iadd C dX11_readList_83 ?_
            refine b_iconst (v := 1) C dX11_readList_84 (by decide) ?_
            refine b_iadd C dX11_readList_85 ?_
            refine b_iconst (v := 0) C dX11_readList_86 (by decide) ?_
            refine b_iast C 1 rfl dX11_readList_87 hm (fun f23 hm => Wb.to (w' := [(A_th, oO 10 [V_th_thrown, .ref A_th_text, .int th_textSize, .ref A_th_readPage, V_th_page, V_th_trial, V_th_book, V_th_doings, V_th_kept, V_th_isKept, V_th_seen, V_th_seenPlace, V_th_seenDigit, V_th_seenIs, V_th_seed, V_th_plan, V_th_good, V_th_bad, V_th_signs, V_th_signMany, V_th_digits, V_th_isNode, V_th_base, V_th_slot, V_th_whichMany, V_th_whichFirst, V_th_value]), (A_th_readPage, iA g 22 f23), (A_th_text, iA g 64 th_text)]) rfl ?_)
            refine b_aload_n C dX11_readList_88 rfl 0 rfl ?_
            refine gfX11_13 C 0 rfl rfl dX11_readList_89 ?_
            refine b_bipush (v := 7) C dX11_readList_92 (by decide) ?_
            refine b_iload C dX11_readList_94 5 rfl ?_
            refine b_iadd C dX11_readList_96 ?_
            refine b_iconst (v := 1) C dX11_readList_97 (by decide) ?_
            refine b_iadd C dX11_readList_98 ?_
            refine b_iconst (v := 0) C dX11_readList_99 (by decide) ?_
            refine b_iast C 1 rfl dX11_readList_100 hm (fun f24 hm => Wb.to (w' := [(A_th, oO 10 [V_th_thrown, .ref A_th_text, .int th_textSize, .ref A_th_readPage, V_th_page, V_th_trial, V_th_book, V_th_doings, V_th_kept, V_th_isKept, V_th_seen, V_th_seenPlace, V_th_seenDigit, V_th_seenIs, V_th_seed, V_th_plan, V_th_good, V_th_bad, V_th_signs, V_th_signMany, V_th_digits, V_th_isNode, V_th_base, V_th_slot, V_th_whichMany, V_th_whichFirst, V_th_value]), (A_th_readPage, iA g 22 f24), (A_th_text, iA g 64 th_text)]) rfl ?_)
            refine b_iconst (v := 0) C dX11_readList_101 (by decide) ?_
            refine b_istore_n (lv' := [(1, .int 0), (0, .ref A_th), (2, .int x4), (3, .int x5), (4, .int v9), (5, .int x11)]) C dX11_readList_102 rfl (by decide) rfl ?_
            refine b_goto (tgt := 222) C dX11_readList_103 (by decide) ?_
            refine b_iinc (v2 := x5 + 1) (lv' := [(3, .int (x5 + 1)), (1, .int 0), (0, .ref A_th), (2, .int x4), (4, .int v9), (5, .int x11)]) C dX11_readList_222 3 rfl rfl (by decide) rfl ?_
            refine b_goto (tgt := 13) C dX11_readList_225 (by decide) ?_
            exact Wb.lv (hc2 0 x4 (x5 + 1) f24 hm) [2, 1, 3, 0] rfl
        refine b_if_lt (tgt := 60) C dX11_readList_52 (by decide) hm (fun hm => ?_) (fun hm => ?_)
        · exact Wb.lv (jk20  hm) [2, 3, 4, 5, 1, 0] rfl
        · refine b_iload_n C dX11_readList_55 rfl 3 rfl ?_
          refine b_iconst (v := 1) C dX11_readList_56 (by decide) ?_
          refine b_icmp_le (tgt := 106) C dX11_readList_57 (by decide) hm (fun hm => ?_) (fun hm => ?_)
          · exact Wb.lv (jk12  hm) [2, 3, 4, 5, 1, 0] rfl
          · exact Wb.lv (jk20  hm) [2, 3, 4, 5, 1, 0] rfl
/-- BreakLearnerModel.fault()I -/
def m_X11_fault (F : Nat)   (th_thrown : Int32) (th_textSize : Int32) (th_readPage : (Nat → Int32)) (th_text : (Nat → Int32)) : Option (Int32 × Int32 × (Nat → Int32)) :=
  bK2 (m_X11_readList F th_textSize th_readPage th_text) (fun r1 f2 =>
  some (r1, 0, f2)
  )
abbrev rmX11_fault : Room := { frames := 2, cells := 0, slots := 0, locals := 50 }
set_option maxHeartbeats 4000000 in
set_option maxRecDepth 100000 in
theorem c_X11_fault (l : Launch) (g : Gl) (A_th A_th_readPage A_th_text : Nat) (V_th_page V_th_trial V_th_book V_th_doings V_th_kept V_th_isKept V_th_seen V_th_seenPlace V_th_seenDigit V_th_seenIs V_th_seed V_th_plan V_th_good V_th_bad V_th_signs V_th_signMany V_th_digits V_th_isNode V_th_base V_th_slot V_th_whichMany V_th_whichFirst V_th_value : Value)   (th_thrown : Int32) (th_textSize : Int32) (th_readPage : (Nat → Int32)) (th_text : (Nat → Int32)) (F : Nat) (u : Int32 × Int32 × (Nat → Int32)) (hm : m_X11_fault F th_thrown th_textSize th_readPage th_text = some u) : Ct l g yX11_fault cX11_fault 1 (some .int) rmX11_fault [.ref A_th] [(A_th, oO 10 [.int th_thrown, .ref A_th_text, .int th_textSize, .ref A_th_readPage, V_th_page, V_th_trial, V_th_book, V_th_doings, V_th_kept, V_th_isKept, V_th_seen, V_th_seenPlace, V_th_seenDigit, V_th_seenIs, V_th_seed, V_th_plan, V_th_good, V_th_bad, V_th_signs, V_th_signMany, V_th_digits, V_th_isNode, V_th_base, V_th_slot, V_th_whichMany, V_th_whichFirst, V_th_value]), (A_th_readPage, iA g 22 th_readPage), (A_th_text, iA g 64 th_text)] (some (.int u.1)) [(A_th, oO 10 [.int u.2.1, .ref A_th_text, .int th_textSize, .ref A_th_readPage, V_th_page, V_th_trial, V_th_book, V_th_doings, V_th_kept, V_th_isKept, V_th_seen, V_th_seenPlace, V_th_seenDigit, V_th_seenIs, V_th_seed, V_th_plan, V_th_good, V_th_bad, V_th_signs, V_th_signMany, V_th_digits, V_th_isNode, V_th_base, V_th_slot, V_th_whichMany, V_th_whichFirst, V_th_value]), (A_th_readPage, iA g 22 u.2.2), (A_th_text, iA g 64 th_text)] := by
  refine ent (own := RX11) (lv := [(0, .ref A_th)]) (by decide) rfl (Nat.le_of_ble_eq_true rfl) rfl rfl ?_
  intro x C
  unfold m_X11_fault at hm
  refine b_aload_n C dX11_fault_0 rfl 0 rfl ?_
  refine b_iconst (v := 0) C dX11_fault_1 (by decide) ?_
  refine pfX11_68 (w' := [(A_th, oO 10 [.int 0, .ref A_th_text, .int th_textSize, .ref A_th_readPage, V_th_page, V_th_trial, V_th_book, V_th_doings, V_th_kept, V_th_isKept, V_th_seen, V_th_seenPlace, V_th_seenDigit, V_th_seenIs, V_th_seed, V_th_plan, V_th_good, V_th_bad, V_th_signs, V_th_signMany, V_th_digits, V_th_isNode, V_th_base, V_th_slot, V_th_whichMany, V_th_whichFirst, V_th_value]), (A_th_readPage, iA g 22 th_readPage), (A_th_text, iA g 64 th_text)]) C rfl rfl 0 rfl (Nat.le_of_ble_eq_true rfl) dX11_fault_2 rfl ?_
  refine b_aload_n C dX11_fault_5 rfl 0 rfl ?_
  obtain ⟨r1, f2, hM, hm⟩ := bK2_some hm
  refine b_kV (w' := [(A_th, oO 10 [.int 0, .ref A_th_text, .int th_textSize, .ref A_th_readPage, V_th_page, V_th_trial, V_th_book, V_th_doings, V_th_kept, V_th_isKept, V_th_seen, V_th_seenPlace, V_th_seenDigit, V_th_seenIs, V_th_seed, V_th_plan, V_th_good, V_th_bad, V_th_signs, V_th_signMany, V_th_digits, V_th_isNode, V_th_base, V_th_slot, V_th_whichMany, V_th_whichFirst, V_th_value]), (A_th_readPage, iA g 22 f2), (A_th_text, iA g 64 th_text)]) (st := []) (st2 := [.int r1]) C cv_X11_readList tb948 (c_X11_readList l g A_th A_th_readPage A_th_text (.int 0) V_th_page V_th_trial V_th_book V_th_doings V_th_kept V_th_isKept V_th_seen V_th_seenPlace V_th_seenDigit V_th_seenIs V_th_seed V_th_plan V_th_good V_th_bad V_th_signs V_th_signMany V_th_digits V_th_isNode V_th_base V_th_slot V_th_whichMany V_th_whichFirst V_th_value th_textSize th_readPage th_text F (r1, f2) hM) rfl 0 rfl rfl ⟨rfl, rfl, by decide, by decide⟩ (Nat.le_of_ble_eq_true rfl) [0, 1, 2] rfl (by decide) rfl rfl dX11_fault_6 [some 0, some 1, some 2] (by decide) ⟨⟨rfl, rfl⟩, ⟨⟨rfl, rfl⟩, ⟨⟨rfl, rfl⟩, trivial⟩⟩⟩ rfl ?_
  cases hm
  exact b_iret C dX11_fault_9
/-- BreakLearnerModel.list()I -/
def m_X11_list (F : Nat)   (th_thrown : Int32) (th_textSize : Int32) (th_doings : Int32) (th_readPage : (Nat → Int32)) (th_text : (Nat → Int32)) (th_page : (Nat → Int32)) (th_isKept : (Nat → Int32)) : Option (Int32 × Int32 × Int32 × (Nat → Int32) × (Nat → Int32) × (Nat → Int32)) :=
  bK2 (m_X11_readList F th_textSize th_readPage th_text) (fun r1 f2 =>
  if r1 = (-9) then
    wl2 (fun (x4 : Int32) (f5 : (Nat → Int32)) c3 =>
      if 13 ≤ x4 then
        stK 22 f5 21 0 (fun f6 =>
        stK 2 th_isKept 0 (vp_nar .boolean 0) (fun f7 =>
        stK 2 f7 1 (vp_nar .boolean 0) (fun f8 =>
        rdK 22 f6 0 (fun v9 =>
        some (v9, 0, 0, f2, f6, f8)
        )
        )
        )
        )
      else
        rdK 22 f2 x4 (fun v10 =>
        stK 22 f5 x4 v10 (fun f11 =>
        c3 (x4 + 1) f11
        )
        )
      ) F 0 th_page
  else
    some ((-3), 0, th_doings, f2, th_page, th_isKept)
  )
abbrev rmX11_list : Room := { frames := 2, cells := 0, slots := 0, locals := 50 }
set_option maxHeartbeats 4000000 in
set_option maxRecDepth 100000 in
theorem c_X11_list (l : Launch) (g : Gl) (A_th A_th_readPage A_th_text A_th_page A_th_isKept : Nat) (V_th_trial V_th_book V_th_kept V_th_seen V_th_seenPlace V_th_seenDigit V_th_seenIs V_th_seed V_th_plan V_th_good V_th_bad V_th_signs V_th_signMany V_th_digits V_th_isNode V_th_base V_th_slot V_th_whichMany V_th_whichFirst V_th_value : Value)   (th_thrown : Int32) (th_textSize : Int32) (th_doings : Int32) (th_readPage : (Nat → Int32)) (th_text : (Nat → Int32)) (th_page : (Nat → Int32)) (th_isKept : (Nat → Int32)) (F : Nat) (u : Int32 × Int32 × Int32 × (Nat → Int32) × (Nat → Int32) × (Nat → Int32)) (hm : m_X11_list F th_thrown th_textSize th_doings th_readPage th_text th_page th_isKept = some u) : Ct l g yX11_list cX11_list 2 (some .int) rmX11_list [.ref A_th] [(A_th, oO 10 [.int th_thrown, .ref A_th_text, .int th_textSize, .ref A_th_readPage, .ref A_th_page, V_th_trial, V_th_book, .int th_doings, V_th_kept, .ref A_th_isKept, V_th_seen, V_th_seenPlace, V_th_seenDigit, V_th_seenIs, V_th_seed, V_th_plan, V_th_good, V_th_bad, V_th_signs, V_th_signMany, V_th_digits, V_th_isNode, V_th_base, V_th_slot, V_th_whichMany, V_th_whichFirst, V_th_value]), (A_th_readPage, iA g 22 th_readPage), (A_th_text, iA g 64 th_text), (A_th_page, iA g 22 th_page), (A_th_isKept, zA g 2 th_isKept)] (some (.int u.1)) [(A_th, oO 10 [.int u.2.1, .ref A_th_text, .int th_textSize, .ref A_th_readPage, .ref A_th_page, V_th_trial, V_th_book, .int u.2.2.1, V_th_kept, .ref A_th_isKept, V_th_seen, V_th_seenPlace, V_th_seenDigit, V_th_seenIs, V_th_seed, V_th_plan, V_th_good, V_th_bad, V_th_signs, V_th_signMany, V_th_digits, V_th_isNode, V_th_base, V_th_slot, V_th_whichMany, V_th_whichFirst, V_th_value]), (A_th_readPage, iA g 22 u.2.2.2.1), (A_th_text, iA g 64 th_text), (A_th_page, iA g 22 u.2.2.2.2.1), (A_th_isKept, zA g 2 u.2.2.2.2.2)] := by
  refine ent (own := RX11) (lv := [(0, .ref A_th)]) (by decide) rfl (Nat.le_of_ble_eq_true rfl) rfl rfl ?_
  intro x C
  unfold m_X11_list at hm
  refine b_aload_n C dX11_list_0 rfl 0 rfl ?_
  refine b_iconst (v := 0) C dX11_list_1 (by decide) ?_
  refine pfX11_68 (w' := [(A_th, oO 10 [.int 0, .ref A_th_text, .int th_textSize, .ref A_th_readPage, .ref A_th_page, V_th_trial, V_th_book, .int th_doings, V_th_kept, .ref A_th_isKept, V_th_seen, V_th_seenPlace, V_th_seenDigit, V_th_seenIs, V_th_seed, V_th_plan, V_th_good, V_th_bad, V_th_signs, V_th_signMany, V_th_digits, V_th_isNode, V_th_base, V_th_slot, V_th_whichMany, V_th_whichFirst, V_th_value]), (A_th_readPage, iA g 22 th_readPage), (A_th_text, iA g 64 th_text), (A_th_page, iA g 22 th_page), (A_th_isKept, zA g 2 th_isKept)]) C rfl rfl 0 rfl (Nat.le_of_ble_eq_true rfl) dX11_list_2 rfl ?_
  refine b_aload_n C dX11_list_5 rfl 0 rfl ?_
  obtain ⟨r1, f2, hM, hm⟩ := bK2_some hm
  refine b_kV (w' := [(A_th, oO 10 [.int 0, .ref A_th_text, .int th_textSize, .ref A_th_readPage, .ref A_th_page, V_th_trial, V_th_book, .int th_doings, V_th_kept, .ref A_th_isKept, V_th_seen, V_th_seenPlace, V_th_seenDigit, V_th_seenIs, V_th_seed, V_th_plan, V_th_good, V_th_bad, V_th_signs, V_th_signMany, V_th_digits, V_th_isNode, V_th_base, V_th_slot, V_th_whichMany, V_th_whichFirst, V_th_value]), (A_th_readPage, iA g 22 f2), (A_th_text, iA g 64 th_text), (A_th_page, iA g 22 th_page), (A_th_isKept, zA g 2 th_isKept)]) (st := []) (st2 := [.int r1]) C cv_X11_readList tb948 (c_X11_readList l g A_th A_th_readPage A_th_text (.int 0) (.ref A_th_page) V_th_trial V_th_book (.int th_doings) V_th_kept (.ref A_th_isKept) V_th_seen V_th_seenPlace V_th_seenDigit V_th_seenIs V_th_seed V_th_plan V_th_good V_th_bad V_th_signs V_th_signMany V_th_digits V_th_isNode V_th_base V_th_slot V_th_whichMany V_th_whichFirst V_th_value th_textSize th_readPage th_text F (r1, f2) hM) rfl 0 rfl rfl ⟨rfl, rfl, by decide, by decide⟩ (Nat.le_of_ble_eq_true rfl) [0, 1, 2] rfl (by decide) rfl rfl dX11_list_6 [some 0, some 1, some 2, none, none] (by decide) ⟨⟨rfl, rfl⟩, ⟨⟨rfl, rfl⟩, ⟨⟨rfl, rfl⟩, ⟨rfl, ⟨rfl, trivial⟩⟩⟩⟩⟩ rfl ?_
  refine b_bipush (v := (-9)) C dX11_list_9 (by decide) ?_
  refine b_icmp_eq (tgt := 17) C dX11_list_11 (by decide) hm (fun hm => ?_) (fun hm => ?_)
  · refine b_iconst (v := 0) C dX11_list_17 (by decide) ?_
    refine b_istore_n (lv' := [(1, .int 0), (0, .ref A_th)]) C dX11_list_18 rfl (by decide) rfl ?_
    refine Wb.lv (lv' := [(0, .ref A_th), (1, .int 0)]) ?_ [1, 0] rfl
    refine wl2_W (Wg := fun (x4 : Int32) (f5 : (Nat → Int32)) => Wb x [(A_th, oO 10 [.int 0, .ref A_th_text, .int th_textSize, .ref A_th_readPage, .ref A_th_page, V_th_trial, V_th_book, .int th_doings, V_th_kept, .ref A_th_isKept, V_th_seen, V_th_seenPlace, V_th_seenDigit, V_th_seenIs, V_th_seed, V_th_plan, V_th_good, V_th_bad, V_th_signs, V_th_signMany, V_th_digits, V_th_isNode, V_th_base, V_th_slot, V_th_whichMany, V_th_whichFirst, V_th_value]), (A_th_readPage, iA g 22 f2), (A_th_text, iA g 64 th_text), (A_th_page, iA g 22 f5), (A_th_isKept, zA g 2 th_isKept)] [(0, .ref A_th), (1, .int x4)] 19 []) ?_ F 0 th_page hm
    intro x4 f5 c3 hc3 hm
    refine b_iload_n C dX11_list_19 rfl 1 rfl ?_
    refine b_bipush (v := 13) C dX11_list_20 (by decide) ?_
    refine b_icmp_ge (tgt := 43) C dX11_list_22 (by decide) hm (fun hm => ?_) (fun hm => ?_)
    · refine b_aload_n C dX11_list_43 rfl 0 rfl ?_
      refine gfX11_16 C 0 rfl rfl dX11_list_44 ?_
      refine b_bipush (v := 21) C dX11_list_47 (by decide) ?_
      refine b_iconst (v := 0) C dX11_list_49 (by decide) ?_
      refine b_iast C 3 rfl dX11_list_50 hm (fun f6 hm => Wb.to (w' := [(A_th, oO 10 [.int 0, .ref A_th_text, .int th_textSize, .ref A_th_readPage, .ref A_th_page, V_th_trial, V_th_book, .int th_doings, V_th_kept, .ref A_th_isKept, V_th_seen, V_th_seenPlace, V_th_seenDigit, V_th_seenIs, V_th_seed, V_th_plan, V_th_good, V_th_bad, V_th_signs, V_th_signMany, V_th_digits, V_th_isNode, V_th_base, V_th_slot, V_th_whichMany, V_th_whichFirst, V_th_value]), (A_th_readPage, iA g 22 f2), (A_th_text, iA g 64 th_text), (A_th_page, iA g 22 f6), (A_th_isKept, zA g 2 th_isKept)]) rfl ?_)
      refine b_aload_n C dX11_list_51 rfl 0 rfl ?_
      refine b_iconst (v := 0) C dX11_list_52 (by decide) ?_
      refine pfX11_99 (w' := [(A_th, oO 10 [.int 0, .ref A_th_text, .int th_textSize, .ref A_th_readPage, .ref A_th_page, V_th_trial, V_th_book, .int 0, V_th_kept, .ref A_th_isKept, V_th_seen, V_th_seenPlace, V_th_seenDigit, V_th_seenIs, V_th_seed, V_th_plan, V_th_good, V_th_bad, V_th_signs, V_th_signMany, V_th_digits, V_th_isNode, V_th_base, V_th_slot, V_th_whichMany, V_th_whichFirst, V_th_value]), (A_th_readPage, iA g 22 f2), (A_th_text, iA g 64 th_text), (A_th_page, iA g 22 f6), (A_th_isKept, zA g 2 th_isKept)]) C rfl rfl 0 rfl (Nat.le_of_ble_eq_true rfl) dX11_list_53 rfl ?_
      refine b_aload_n C dX11_list_56 rfl 0 rfl ?_
      refine gfX11_28 C 0 rfl rfl dX11_list_57 ?_
      refine b_iconst (v := 0) C dX11_list_60 (by decide) ?_
      refine b_iconst (v := 0) C dX11_list_61 (by decide) ?_
      refine b_zast C 4 rfl dX11_list_62 hm (fun f7 hm => Wb.to (w' := [(A_th, oO 10 [.int 0, .ref A_th_text, .int th_textSize, .ref A_th_readPage, .ref A_th_page, V_th_trial, V_th_book, .int 0, V_th_kept, .ref A_th_isKept, V_th_seen, V_th_seenPlace, V_th_seenDigit, V_th_seenIs, V_th_seed, V_th_plan, V_th_good, V_th_bad, V_th_signs, V_th_signMany, V_th_digits, V_th_isNode, V_th_base, V_th_slot, V_th_whichMany, V_th_whichFirst, V_th_value]), (A_th_readPage, iA g 22 f2), (A_th_text, iA g 64 th_text), (A_th_page, iA g 22 f6), (A_th_isKept, zA g 2 f7)]) rfl ?_)
      refine b_aload_n C dX11_list_63 rfl 0 rfl ?_
      refine gfX11_28 C 0 rfl rfl dX11_list_64 ?_
      refine b_iconst (v := 1) C dX11_list_67 (by decide) ?_
      refine b_iconst (v := 0) C dX11_list_68 (by decide) ?_
      refine b_zast C 4 rfl dX11_list_69 hm (fun f8 hm => Wb.to (w' := [(A_th, oO 10 [.int 0, .ref A_th_text, .int th_textSize, .ref A_th_readPage, .ref A_th_page, V_th_trial, V_th_book, .int 0, V_th_kept, .ref A_th_isKept, V_th_seen, V_th_seenPlace, V_th_seenDigit, V_th_seenIs, V_th_seed, V_th_plan, V_th_good, V_th_bad, V_th_signs, V_th_signMany, V_th_digits, V_th_isNode, V_th_base, V_th_slot, V_th_whichMany, V_th_whichFirst, V_th_value]), (A_th_readPage, iA g 22 f2), (A_th_text, iA g 64 th_text), (A_th_page, iA g 22 f6), (A_th_isKept, zA g 2 f8)]) rfl ?_)
      refine b_aload_n C dX11_list_70 rfl 0 rfl ?_
      refine gfX11_16 C 0 rfl rfl dX11_list_71 ?_
      refine b_iconst (v := 0) C dX11_list_74 (by decide) ?_
      refine b_iald C 3 rfl dX11_list_75 hm (fun v9 hm => ?_)
      cases hm
      exact b_iret C dX11_list_76
    · refine b_aload_n C dX11_list_25 rfl 0 rfl ?_
      refine gfX11_16 C 0 rfl rfl dX11_list_26 ?_
      refine b_iload_n C dX11_list_29 rfl 1 rfl ?_
      refine b_aload_n C dX11_list_30 rfl 0 rfl ?_
      refine gfX11_13 C 0 rfl rfl dX11_list_31 ?_
      refine b_iload_n C dX11_list_34 rfl 1 rfl ?_
      refine b_iald C 1 rfl dX11_list_35 hm (fun v10 hm => ?_)
      refine b_iast C 3 rfl dX11_list_36 hm (fun f11 hm => Wb.to (w' := [(A_th, oO 10 [.int 0, .ref A_th_text, .int th_textSize, .ref A_th_readPage, .ref A_th_page, V_th_trial, V_th_book, .int th_doings, V_th_kept, .ref A_th_isKept, V_th_seen, V_th_seenPlace, V_th_seenDigit, V_th_seenIs, V_th_seed, V_th_plan, V_th_good, V_th_bad, V_th_signs, V_th_signMany, V_th_digits, V_th_isNode, V_th_base, V_th_slot, V_th_whichMany, V_th_whichFirst, V_th_value]), (A_th_readPage, iA g 22 f2), (A_th_text, iA g 64 th_text), (A_th_page, iA g 22 f11), (A_th_isKept, zA g 2 th_isKept)]) rfl ?_)
      refine b_iinc (v2 := x4 + 1) (lv' := [(1, .int (x4 + 1)), (0, .ref A_th)]) C dX11_list_37 1 rfl rfl (by decide) rfl ?_
      refine b_goto (tgt := 19) C dX11_list_40 (by decide) ?_
      exact Wb.lv (hc3 (x4 + 1) f11 hm) [1, 0] rfl
  · refine b_bipush (v := (-3)) C dX11_list_14 (by decide) ?_
    cases hm
    exact b_iret C dX11_list_16
