/-- BreakLearner$Stock.allPlaces()I -/
def m_X7_allPlaces (F : Nat)   (th_words : Int32) (th_sizes : (Nat → Int32)) : Option (Int32) :=
  wl2 (fun (x2 : Int32) (x3 : Int32) c1 =>
    if th_words ≤ x3 then
      some x2
    else
      rdK 6 th_sizes x3 (fun v4 =>
      letK (x2 + (v4 - 1)) (fun x5 =>
      c1 x5 (x3 + 1)
      )
      )
    ) F 0 0
abbrev rmX7_allPlaces : Room := { frames := 0, cells := 0, slots := 0, locals := 0 }
set_option maxHeartbeats 4000000 in
set_option maxRecDepth 100000 in
theorem c_X7_allPlaces (l : Launch) (g : Gl) (A_th A_th_sizes : Nat) (V_th_letters V_th_breaks V_th_rules V_th_hs V_th_learnt : Value)   (th_words : Int32) (th_sizes : (Nat → Int32)) (F : Nat) (u : Int32) (hm : m_X7_allPlaces F th_words th_sizes = some u) : Ct l g yX7_allPlaces cX7_allPlaces 3 (some .int) rmX7_allPlaces [.ref A_th] [(A_th, oO 6 [V_th_letters, V_th_breaks, .ref A_th_sizes, V_th_rules, V_th_hs, .int th_words, V_th_learnt]), (A_th_sizes, iA g 6 th_sizes)] (some (.int u)) [(A_th, oO 6 [V_th_letters, V_th_breaks, .ref A_th_sizes, V_th_rules, V_th_hs, .int th_words, V_th_learnt]), (A_th_sizes, iA g 6 th_sizes)] := by
  refine ent (own := RX7) (lv := [(0, .ref A_th)]) (by decide) rfl (Nat.le_of_ble_eq_true rfl) rfl rfl ?_
  intro x C
  unfold m_X7_allPlaces at hm
  refine b_iconst (v := 0) C dX7_allPlaces_0 (by decide) ?_
  refine b_istore_n (lv' := [(1, .int 0), (0, .ref A_th)]) C dX7_allPlaces_1 rfl (by decide) rfl ?_
  refine b_iconst (v := 0) C dX7_allPlaces_2 (by decide) ?_
  refine b_istore_n (lv' := [(2, .int 0), (1, .int 0), (0, .ref A_th)]) C dX7_allPlaces_3 rfl (by decide) rfl ?_
  refine Wb.lv (lv' := [(0, .ref A_th), (1, .int 0), (2, .int 0)]) ?_ [2, 1, 0] rfl
  refine wl2_W (Wg := fun (x2 : Int32) (x3 : Int32) => Wb x [(A_th, oO 6 [V_th_letters, V_th_breaks, .ref A_th_sizes, V_th_rules, V_th_hs, .int th_words, V_th_learnt]), (A_th_sizes, iA g 6 th_sizes)] [(0, .ref A_th), (1, .int x2), (2, .int x3)] 4 []) ?_ F 0 0 hm
  intro x2 x3 c1 hc1 hm
  refine b_iload_n C dX7_allPlaces_4 rfl 2 rfl ?_
  refine b_aload_n C dX7_allPlaces_5 rfl 0 rfl ?_
  refine gfX7_39 C 0 rfl rfl dX7_allPlaces_6 ?_
  refine b_icmp_ge (tgt := 29) C dX7_allPlaces_9 (by decide) hm (fun hm => ?_) (fun hm => ?_)
  · refine b_iload_n C dX7_allPlaces_29 rfl 1 rfl ?_
    cases hm
    exact b_iret C dX7_allPlaces_30
  · refine b_iload_n C dX7_allPlaces_12 rfl 1 rfl ?_
    refine b_aload_n C dX7_allPlaces_13 rfl 0 rfl ?_
    refine gfX7_18 C 0 rfl rfl dX7_allPlaces_14 ?_
    refine b_iload_n C dX7_allPlaces_17 rfl 2 rfl ?_
    refine b_iald C 1 rfl dX7_allPlaces_18 hm (fun v4 hm => ?_)
    refine b_iconst (v := 1) C dX7_allPlaces_19 (by decide) ?_
    refine b_isub C dX7_allPlaces_20 ?_
    refine b_iadd C dX7_allPlaces_21 ?_
    refine b_topi hm (fun x5 hm => ?_)
    refine b_istore_n (lv' := [(1, .int x5), (0, .ref A_th), (2, .int x3)]) C dX7_allPlaces_22 rfl (by decide) rfl ?_
    refine b_iinc (v2 := x3 + 1) (lv' := [(2, .int (x3 + 1)), (1, .int x5), (0, .ref A_th)]) C dX7_allPlaces_23 2 rfl rfl (by decide) rfl ?_
    refine b_goto (tgt := 4) C dX7_allPlaces_26 (by decide) ?_
    exact Wb.lv (hc1 x5 (x3 + 1) hm) [2, 1, 0] rfl
/-- BreakLearner$Learning.brokenPlaces(LBreakLearner$Stock;I)I -/
def m_X5_brokenPlaces (F : Nat)  (n2 : Int32) (p1_sizes : (Nat → Int32)) (th_digits : (Nat → Int32)) : Option (Int32) :=
  wl2 (fun (x2 : Int32) (x3 : Int32) c1 =>
    rdK 6 p1_sizes n2 (fun v4 =>
    if (v4 - 1) ≤ x3 then
      some x2
    else
      bK1 (m_X5_digitOf F n2 x3 th_digits) (fun r5 =>
      letK (x2 ||| ((r5 &&& 1) <<< (x3 &&& 31))) (fun x6 =>
      c1 x6 (x3 + 1)
      )
      )
    )
    ) F 0 0
abbrev rmX5_brokenPlaces : Room := { frames := 1, cells := 0, slots := 0, locals := 22 }
set_option maxHeartbeats 4000000 in
set_option maxRecDepth 100000 in
theorem c_X5_brokenPlaces (l : Launch) (g : Gl) (A_th A_p1 A_p1_sizes A_th_digits : Nat) (V_th_index V_th_levels V_th_good V_th_bad V_p1_letters V_p1_breaks V_p1_rules V_p1_hs V_p1_words V_p1_learnt : Value)  (n2 : Int32) (p1_sizes : (Nat → Int32)) (th_digits : (Nat → Int32)) (F : Nat) (u : Int32) (hm : m_X5_brokenPlaces F n2 p1_sizes th_digits = some u) : Ct l g yX5_brokenPlaces cX5_brokenPlaces 5 (some .int) rmX5_brokenPlaces [.ref A_th, .ref A_p1, .int n2] [(A_th, oO 4 [V_th_index, V_th_levels, V_th_good, V_th_bad, .ref A_th_digits]), (A_p1, oO 6 [V_p1_letters, V_p1_breaks, .ref A_p1_sizes, V_p1_rules, V_p1_hs, V_p1_words, V_p1_learnt]), (A_p1_sizes, iA g 6 p1_sizes), (A_th_digits, iA g 30 th_digits)] (some (.int u)) [(A_th, oO 4 [V_th_index, V_th_levels, V_th_good, V_th_bad, .ref A_th_digits]), (A_p1, oO 6 [V_p1_letters, V_p1_breaks, .ref A_p1_sizes, V_p1_rules, V_p1_hs, V_p1_words, V_p1_learnt]), (A_p1_sizes, iA g 6 p1_sizes), (A_th_digits, iA g 30 th_digits)] := by
  refine ent (own := RX5) (lv := [(0, .ref A_th), (1, .ref A_p1), (2, .int n2)]) (by decide) rfl (Nat.le_of_ble_eq_true rfl) rfl rfl ?_
  intro x C
  unfold m_X5_brokenPlaces at hm
  refine b_iconst (v := 0) C dX5_brokenPlaces_0 (by decide) ?_
  refine b_istore_n (lv' := [(3, .int 0), (0, .ref A_th), (1, .ref A_p1), (2, .int n2)]) C dX5_brokenPlaces_1 rfl (by decide) rfl ?_
  refine b_iconst (v := 0) C dX5_brokenPlaces_2 (by decide) ?_
  refine b_istore (lv' := [(4, .int 0), (3, .int 0), (0, .ref A_th), (1, .ref A_p1), (2, .int n2)]) C dX5_brokenPlaces_3 (by decide) rfl ?_
  refine Wb.lv (lv' := [(0, .ref A_th), (1, .ref A_p1), (2, .int n2), (3, .int 0), (4, .int 0)]) ?_ [2, 3, 4, 1, 0] rfl
  refine wl2_W (Wg := fun (x2 : Int32) (x3 : Int32) => Wb x [(A_th, oO 4 [V_th_index, V_th_levels, V_th_good, V_th_bad, .ref A_th_digits]), (A_p1, oO 6 [V_p1_letters, V_p1_breaks, .ref A_p1_sizes, V_p1_rules, V_p1_hs, V_p1_words, V_p1_learnt]), (A_p1_sizes, iA g 6 p1_sizes), (A_th_digits, iA g 30 th_digits)] [(0, .ref A_th), (1, .ref A_p1), (2, .int n2), (3, .int x2), (4, .int x3)] 5 []) ?_ F 0 0 hm
  intro x2 x3 c1 hc1 hm
  refine b_iload C dX5_brokenPlaces_5 4 rfl ?_
  refine b_aload_n C dX5_brokenPlaces_7 rfl 1 rfl ?_
  refine gfX5_62 C 1 rfl rfl dX5_brokenPlaces_8 ?_
  refine b_iload_n C dX5_brokenPlaces_11 rfl 2 rfl ?_
  refine b_iald C 2 rfl dX5_brokenPlaces_12 hm (fun v4 hm => ?_)
  refine b_iconst (v := 1) C dX5_brokenPlaces_13 (by decide) ?_
  refine b_isub C dX5_brokenPlaces_14 ?_
  refine b_icmp_ge (tgt := 39) C dX5_brokenPlaces_15 (by decide) hm (fun hm => ?_) (fun hm => ?_)
  · refine b_iload_n C dX5_brokenPlaces_39 rfl 3 rfl ?_
    cases hm
    exact b_iret C dX5_brokenPlaces_40
  · refine b_iload_n C dX5_brokenPlaces_18 rfl 3 rfl ?_
    refine b_aload_n C dX5_brokenPlaces_19 rfl 0 rfl ?_
    refine b_iload_n C dX5_brokenPlaces_20 rfl 2 rfl ?_
    refine b_iload C dX5_brokenPlaces_21 4 rfl ?_
    obtain ⟨r5, hM, hm⟩ := bK1_some hm
    refine b_kV (w' := [(A_th, oO 4 [V_th_index, V_th_levels, V_th_good, V_th_bad, .ref A_th_digits]), (A_p1, oO 6 [V_p1_letters, V_p1_breaks, .ref A_p1_sizes, V_p1_rules, V_p1_hs, V_p1_words, V_p1_learnt]), (A_p1_sizes, iA g 6 p1_sizes), (A_th_digits, iA g 30 th_digits)]) (st := [.int x2]) (st2 := [.int r5, .int x2]) C cv_X5_digitOf tb450 (c_X5_digitOf l g A_th A_th_digits V_th_index V_th_levels V_th_good V_th_bad n2 x3 th_digits F r5 hM) rfl 0 rfl rfl ⟨rfl, rfl, by decide, by decide⟩ (Nat.le_of_ble_eq_true rfl) [0, 3] rfl (by decide) rfl rfl dX5_brokenPlaces_23 [some 0, none, none, some 1] (by decide) ⟨⟨rfl, rfl⟩, ⟨rfl, ⟨rfl, ⟨⟨rfl, rfl⟩, trivial⟩⟩⟩⟩ rfl ?_
    refine b_iconst (v := 1) C dX5_brokenPlaces_26 (by decide) ?_
    refine b_iand C dX5_brokenPlaces_27 ?_
    refine b_iload C dX5_brokenPlaces_28 4 rfl ?_
    refine b_ishl C dX5_brokenPlaces_30 ?_
    refine b_ior C dX5_brokenPlaces_31 ?_
    refine b_topi hm (fun x6 hm => ?_)
    refine b_istore_n (lv' := [(3, .int x6), (0, .ref A_th), (1, .ref A_p1), (2, .int n2), (4, .int x3)]) C dX5_brokenPlaces_32 rfl (by decide) rfl ?_
    refine b_iinc (v2 := x3 + 1) (lv' := [(4, .int (x3 + 1)), (3, .int x6), (0, .ref A_th), (1, .ref A_p1), (2, .int n2)]) C dX5_brokenPlaces_33 4 rfl rfl (by decide) rfl ?_
    refine b_goto (tgt := 5) C dX5_brokenPlaces_36 (by decide) ?_
    exact Wb.lv (hc1 x6 (x3 + 1) hm) [2, 3, 4, 1, 0] rfl
/-- BreakLearner$Learning.wrongPlaces(LBreakLearner$Stock;I)I -/
def m_X5_wrongPlaces (F : Nat)  (n2 : Int32) (th_digits : (Nat → Int32)) (p1_sizes : (Nat → Int32)) (p1_breaks : (Nat → Int32)) : Option (Int32) :=
  bK1 (m_X5_brokenPlaces F n2 p1_sizes th_digits) (fun r1 =>
  rdK 6 p1_breaks n2 (fun v2 =>
  some (r1 ^^^ v2)
  )
  )
abbrev rmX5_wrongPlaces : Room := { frames := 2, cells := 0, slots := 0, locals := 46 }
set_option maxHeartbeats 4000000 in
set_option maxRecDepth 100000 in
theorem c_X5_wrongPlaces (l : Launch) (g : Gl) (A_th A_p1 A_th_digits A_p1_sizes A_p1_breaks : Nat) (V_th_index V_th_levels V_th_good V_th_bad V_p1_letters V_p1_rules V_p1_hs V_p1_words V_p1_learnt : Value)  (n2 : Int32) (th_digits : (Nat → Int32)) (p1_sizes : (Nat → Int32)) (p1_breaks : (Nat → Int32)) (F : Nat) (u : Int32) (hm : m_X5_wrongPlaces F n2 th_digits p1_sizes p1_breaks = some u) : Ct l g yX5_wrongPlaces cX5_wrongPlaces 3 (some .int) rmX5_wrongPlaces [.ref A_th, .ref A_p1, .int n2] [(A_th, oO 4 [V_th_index, V_th_levels, V_th_good, V_th_bad, .ref A_th_digits]), (A_p1, oO 6 [V_p1_letters, .ref A_p1_breaks, .ref A_p1_sizes, V_p1_rules, V_p1_hs, V_p1_words, V_p1_learnt]), (A_th_digits, iA g 30 th_digits), (A_p1_sizes, iA g 6 p1_sizes), (A_p1_breaks, iA g 6 p1_breaks)] (some (.int u)) [(A_th, oO 4 [V_th_index, V_th_levels, V_th_good, V_th_bad, .ref A_th_digits]), (A_p1, oO 6 [V_p1_letters, .ref A_p1_breaks, .ref A_p1_sizes, V_p1_rules, V_p1_hs, V_p1_words, V_p1_learnt]), (A_th_digits, iA g 30 th_digits), (A_p1_sizes, iA g 6 p1_sizes), (A_p1_breaks, iA g 6 p1_breaks)] := by
  refine ent (own := RX5) (lv := [(0, .ref A_th), (1, .ref A_p1), (2, .int n2)]) (by decide) rfl (Nat.le_of_ble_eq_true rfl) rfl rfl ?_
  intro x C
  unfold m_X5_wrongPlaces at hm
  refine b_aload_n C dX5_wrongPlaces_0 rfl 0 rfl ?_
  refine b_aload_n C dX5_wrongPlaces_1 rfl 1 rfl ?_
  refine b_iload_n C dX5_wrongPlaces_2 rfl 2 rfl ?_
  obtain ⟨r1, hM, hm⟩ := bK1_some hm
  refine b_kV (w' := [(A_th, oO 4 [V_th_index, V_th_levels, V_th_good, V_th_bad, .ref A_th_digits]), (A_p1, oO 6 [V_p1_letters, .ref A_p1_breaks, .ref A_p1_sizes, V_p1_rules, V_p1_hs, V_p1_words, V_p1_learnt]), (A_th_digits, iA g 30 th_digits), (A_p1_sizes, iA g 6 p1_sizes), (A_p1_breaks, iA g 6 p1_breaks)]) (st := []) (st2 := [.int r1]) C cv_X5_brokenPlaces tb486 (c_X5_brokenPlaces l g A_th A_p1 A_p1_sizes A_th_digits V_th_index V_th_levels V_th_good V_th_bad V_p1_letters (.ref A_p1_breaks) V_p1_rules V_p1_hs V_p1_words V_p1_learnt n2 p1_sizes th_digits F r1 hM) rfl 0 rfl rfl ⟨rfl, rfl, by decide, by decide⟩ (Nat.le_of_ble_eq_true rfl) [0, 1, 3, 2] rfl (by decide) rfl rfl dX5_wrongPlaces_3 [some 0, some 1, some 3, some 2, none] (by decide) ⟨⟨rfl, rfl⟩, ⟨⟨rfl, rfl⟩, ⟨⟨rfl, rfl⟩, ⟨⟨rfl, rfl⟩, ⟨rfl, trivial⟩⟩⟩⟩⟩ rfl ?_
  refine b_aload_n C dX5_wrongPlaces_6 rfl 1 rfl ?_
  refine gfX5_69 C 1 rfl rfl dX5_wrongPlaces_7 ?_
  refine b_iload_n C dX5_wrongPlaces_10 rfl 2 rfl ?_
  refine b_iald C 4 rfl dX5_wrongPlaces_11 hm (fun v2 hm => ?_)
  refine b_ixor C dX5_wrongPlaces_12 ?_
  cases hm
  exact b_iret C dX5_wrongPlaces_13
/-- java/lang/Integer.bitCount(I)I -/
def m_J6_bitCount_0f7a4 (F : Nat)  (n1 : Int32)  : Option (Int32) :=
  letK (n1 - ((iush n1 1) &&& 1431655765)) (fun x1 =>
  letK ((x1 &&& 858993459) + ((iush x1 2) &&& 858993459)) (fun x2 =>
  letK ((x2 + (iush x2 4)) &&& 252645135) (fun x3 =>
  letK (x3 + (iush x3 8)) (fun x4 =>
  letK (x4 + (iush x4 16)) (fun x5 =>
  some (x5 &&& 63)
  )
  )
  )
  )
  )
abbrev rmJ6_bitCount_0f7a4 : Room := { frames := 0, cells := 0, slots := 0, locals := 0 }
set_option maxHeartbeats 4000000 in
set_option maxRecDepth 100000 in
theorem c_J6_bitCount_0f7a4 (l : Launch) (g : Gl)  (n1 : Int32)  (F : Nat) (u : Int32) (hm : m_J6_bitCount_0f7a4 F n1 = some u) : Ct l g yJ6_bitCount_0f7a4 cJ6_bitCount_0f7a4 1 (some .int) rmJ6_bitCount_0f7a4 [.int n1] [] (some (.int u)) [] := by
  refine ent (own := RJ6) (lv := [(0, .int n1)]) (by decide) rfl (Nat.le_of_ble_eq_true rfl) rfl rfl ?_
  intro x C
  unfold m_J6_bitCount_0f7a4 at hm
  refine b_iload_n C dJ6_bitCount_0f7a4_0 rfl 0 rfl ?_
  refine b_iload_n C dJ6_bitCount_0f7a4_1 rfl 0 rfl ?_
  refine b_iconst (v := 1) C dJ6_bitCount_0f7a4_2 (by decide) ?_
  refine b_iushr C dJ6_bitCount_0f7a4_3 ?_
  refine b_ldcw C tb493 dJ6_bitCount_0f7a4_4 ?_
  refine b_iand C dJ6_bitCount_0f7a4_7 ?_
  refine b_isub C dJ6_bitCount_0f7a4_8 ?_
  refine b_topi hm (fun x1 hm => ?_)
  refine b_istore_n (lv' := [(0, .int x1)]) C dJ6_bitCount_0f7a4_9 rfl (by decide) rfl ?_
  refine b_iload_n C dJ6_bitCount_0f7a4_10 rfl 0 rfl ?_
  refine b_ldcw C tb494 dJ6_bitCount_0f7a4_11 ?_
  refine b_iand C dJ6_bitCount_0f7a4_14 ?_
  refine b_iload_n C dJ6_bitCount_0f7a4_15 rfl 0 rfl ?_
  refine b_iconst (v := 2) C dJ6_bitCount_0f7a4_16 (by decide) ?_
  refine b_iushr C dJ6_bitCount_0f7a4_17 ?_
  refine b_ldcw C tb494 dJ6_bitCount_0f7a4_18 ?_
  refine b_iand C dJ6_bitCount_0f7a4_21 ?_
  refine b_iadd C dJ6_bitCount_0f7a4_22 ?_
  refine b_topi hm (fun x2 hm => ?_)
  refine b_istore_n (lv' := [(0, .int x2)]) C dJ6_bitCount_0f7a4_23 rfl (by decide) rfl ?_
  refine b_iload_n C dJ6_bitCount_0f7a4_24 rfl 0 rfl ?_
  refine b_iload_n C dJ6_bitCount_0f7a4_25 rfl 0 rfl ?_
  refine b_iconst (v := 4) C dJ6_bitCount_0f7a4_26 (by decide) ?_
  refine b_iushr C dJ6_bitCount_0f7a4_27 ?_
  refine b_iadd C dJ6_bitCount_0f7a4_28 ?_
  refine b_ldcw C tb495 dJ6_bitCount_0f7a4_29 ?_
  refine b_iand C dJ6_bitCount_0f7a4_32 ?_
  refine b_topi hm (fun x3 hm => ?_)
  refine b_istore_n (lv' := [(0, .int x3)]) C dJ6_bitCount_0f7a4_33 rfl (by decide) rfl ?_
  refine b_iload_n C dJ6_bitCount_0f7a4_34 rfl 0 rfl ?_
  refine b_iload_n C dJ6_bitCount_0f7a4_35 rfl 0 rfl ?_
  refine b_bipush (v := 8) C dJ6_bitCount_0f7a4_36 (by decide) ?_
  refine b_iushr C dJ6_bitCount_0f7a4_38 ?_
  refine b_iadd C dJ6_bitCount_0f7a4_39 ?_
  refine b_topi hm (fun x4 hm => ?_)
  refine b_istore_n (lv' := [(0, .int x4)]) C dJ6_bitCount_0f7a4_40 rfl (by decide) rfl ?_
  refine b_iload_n C dJ6_bitCount_0f7a4_41 rfl 0 rfl ?_
  refine b_iload_n C dJ6_bitCount_0f7a4_42 rfl 0 rfl ?_
  refine b_bipush (v := 16) C dJ6_bitCount_0f7a4_43 (by decide) ?_
  refine b_iushr C dJ6_bitCount_0f7a4_45 ?_
  refine b_iadd C dJ6_bitCount_0f7a4_46 ?_
  refine b_topi hm (fun x5 hm => ?_)
  refine b_istore_n (lv' := [(0, .int x5)]) C dJ6_bitCount_0f7a4_47 rfl (by decide) rfl ?_
  refine b_iload_n C dJ6_bitCount_0f7a4_48 rfl 0 rfl ?_
  refine b_bipush (v := 63) C dJ6_bitCount_0f7a4_49 (by decide) ?_
  refine b_iand C dJ6_bitCount_0f7a4_51 ?_
  cases hm
  exact b_iret C dJ6_bitCount_0f7a4_52
/-- BreakLearner$Learning.rightPlaces(LBreakLearner$Stock;)I -/
def m_X5_rightPlaces (F : Nat)   (p1_words : Int32) (p1_sizes : (Nat → Int32)) (th_digits : (Nat → Int32)) (p1_breaks : (Nat → Int32)) : Option (Int32) :=
  wl2 (fun (x2 : Int32) (x3 : Int32) c1 =>
    if p1_words ≤ x3 then
      some x2
    else
      rdK 6 p1_sizes x3 (fun v4 =>
      bK1 (m_X5_wrongPlaces F x3 th_digits p1_sizes p1_breaks) (fun r5 =>
      bK1 (m_J6_bitCount_0f7a4 F r5) (fun r6 =>
      letK (x2 + ((v4 - 1) - r6)) (fun x7 =>
      c1 x7 (x3 + 1)
      )
      )
      )
      )
    ) F 0 0
abbrev rmX5_rightPlaces : Room := { frames := 3, cells := 0, slots := 0, locals := 68 }
set_option maxHeartbeats 4000000 in
set_option maxRecDepth 100000 in
theorem c_X5_rightPlaces (l : Launch) (g : Gl) (A_th A_p1 A_p1_sizes A_th_digits A_p1_breaks : Nat) (V_th_index V_th_levels V_th_good V_th_bad V_p1_letters V_p1_rules V_p1_hs V_p1_learnt : Value)   (p1_words : Int32) (p1_sizes : (Nat → Int32)) (th_digits : (Nat → Int32)) (p1_breaks : (Nat → Int32)) (F : Nat) (u : Int32) (hm : m_X5_rightPlaces F p1_words p1_sizes th_digits p1_breaks = some u) : Ct l g yX5_rightPlaces cX5_rightPlaces 4 (some .int) rmX5_rightPlaces [.ref A_th, .ref A_p1] [(A_th, oO 4 [V_th_index, V_th_levels, V_th_good, V_th_bad, .ref A_th_digits]), (A_p1, oO 6 [V_p1_letters, .ref A_p1_breaks, .ref A_p1_sizes, V_p1_rules, V_p1_hs, .int p1_words, V_p1_learnt]), (A_p1_sizes, iA g 6 p1_sizes), (A_th_digits, iA g 30 th_digits), (A_p1_breaks, iA g 6 p1_breaks)] (some (.int u)) [(A_th, oO 4 [V_th_index, V_th_levels, V_th_good, V_th_bad, .ref A_th_digits]), (A_p1, oO 6 [V_p1_letters, .ref A_p1_breaks, .ref A_p1_sizes, V_p1_rules, V_p1_hs, .int p1_words, V_p1_learnt]), (A_p1_sizes, iA g 6 p1_sizes), (A_th_digits, iA g 30 th_digits), (A_p1_breaks, iA g 6 p1_breaks)] := by
  refine ent (own := RX5) (lv := [(0, .ref A_th), (1, .ref A_p1)]) (by decide) rfl (Nat.le_of_ble_eq_true rfl) rfl rfl ?_
  intro x C
  unfold m_X5_rightPlaces at hm
  refine b_iconst (v := 0) C dX5_rightPlaces_0 (by decide) ?_
  refine b_istore_n (lv' := [(2, .int 0), (0, .ref A_th), (1, .ref A_p1)]) C dX5_rightPlaces_1 rfl (by decide) rfl ?_
  refine b_iconst (v := 0) C dX5_rightPlaces_2 (by decide) ?_
  refine b_istore_n (lv' := [(3, .int 0), (2, .int 0), (0, .ref A_th), (1, .ref A_p1)]) C dX5_rightPlaces_3 rfl (by decide) rfl ?_
  refine Wb.lv (lv' := [(0, .ref A_th), (1, .ref A_p1), (2, .int 0), (3, .int 0)]) ?_ [2, 3, 1, 0] rfl
  refine wl2_W (Wg := fun (x2 : Int32) (x3 : Int32) => Wb x [(A_th, oO 4 [V_th_index, V_th_levels, V_th_good, V_th_bad, .ref A_th_digits]), (A_p1, oO 6 [V_p1_letters, .ref A_p1_breaks, .ref A_p1_sizes, V_p1_rules, V_p1_hs, .int p1_words, V_p1_learnt]), (A_p1_sizes, iA g 6 p1_sizes), (A_th_digits, iA g 30 th_digits), (A_p1_breaks, iA g 6 p1_breaks)] [(0, .ref A_th), (1, .ref A_p1), (2, .int x2), (3, .int x3)] 4 []) ?_ F 0 0 hm
  intro x2 x3 c1 hc1 hm
  refine b_iload_n C dX5_rightPlaces_4 rfl 3 rfl ?_
  refine b_aload_n C dX5_rightPlaces_5 rfl 1 rfl ?_
  refine gfX5_59 C 1 rfl rfl dX5_rightPlaces_6 ?_
  refine b_icmp_ge (tgt := 39) C dX5_rightPlaces_9 (by decide) hm (fun hm => ?_) (fun hm => ?_)
  · refine b_iload_n C dX5_rightPlaces_39 rfl 2 rfl ?_
    cases hm
    exact b_iret C dX5_rightPlaces_40
  · refine b_iload_n C dX5_rightPlaces_12 rfl 2 rfl ?_
    refine b_aload_n C dX5_rightPlaces_13 rfl 1 rfl ?_
    refine gfX5_62 C 1 rfl rfl dX5_rightPlaces_14 ?_
    refine b_iload_n C dX5_rightPlaces_17 rfl 3 rfl ?_
    refine b_iald C 2 rfl dX5_rightPlaces_18 hm (fun v4 hm => ?_)
    refine b_iconst (v := 1) C dX5_rightPlaces_19 (by decide) ?_
    refine b_isub C dX5_rightPlaces_20 ?_
    refine b_aload_n C dX5_rightPlaces_21 rfl 0 rfl ?_
    refine b_aload_n C dX5_rightPlaces_22 rfl 1 rfl ?_
    refine b_iload_n C dX5_rightPlaces_23 rfl 3 rfl ?_
    obtain ⟨r5, hM, hm⟩ := bK1_some hm
    refine b_kV (w' := [(A_th, oO 4 [V_th_index, V_th_levels, V_th_good, V_th_bad, .ref A_th_digits]), (A_p1, oO 6 [V_p1_letters, .ref A_p1_breaks, .ref A_p1_sizes, V_p1_rules, V_p1_hs, .int p1_words, V_p1_learnt]), (A_p1_sizes, iA g 6 p1_sizes), (A_th_digits, iA g 30 th_digits), (A_p1_breaks, iA g 6 p1_breaks)]) (st := [.int (v4 - 1), .int x2]) (st2 := [.int r5, .int (v4 - 1), .int x2]) C cv_X5_wrongPlaces tb482 (c_X5_wrongPlaces l g A_th A_p1 A_th_digits A_p1_sizes A_p1_breaks V_th_index V_th_levels V_th_good V_th_bad V_p1_letters V_p1_rules V_p1_hs (.int p1_words) V_p1_learnt x3 th_digits p1_sizes p1_breaks F r5 hM) rfl 0 rfl rfl ⟨rfl, rfl, by decide, by decide⟩ (Nat.le_of_ble_eq_true rfl) [0, 1, 3, 2, 4] rfl (by decide) rfl rfl dX5_rightPlaces_24 [some 0, some 1, some 3, some 2, some 4] (by decide) ⟨⟨rfl, rfl⟩, ⟨⟨rfl, rfl⟩, ⟨⟨rfl, rfl⟩, ⟨⟨rfl, rfl⟩, ⟨⟨rfl, rfl⟩, trivial⟩⟩⟩⟩⟩ rfl ?_
    obtain ⟨r6, hM, hm⟩ := bK1_some hm
    refine b_kS (w' := [(A_th, oO 4 [V_th_index, V_th_levels, V_th_good, V_th_bad, .ref A_th_digits]), (A_p1, oO 6 [V_p1_letters, .ref A_p1_breaks, .ref A_p1_sizes, V_p1_rules, V_p1_hs, .int p1_words, V_p1_learnt]), (A_p1_sizes, iA g 6 p1_sizes), (A_th_digits, iA g 30 th_digits), (A_p1_breaks, iA g 6 p1_breaks)]) (st := [.int (v4 - 1), .int x2]) (st2 := [.int r6, .int (v4 - 1), .int x2]) C cs_J6_bitCount_0f7a4 tb490 (c_J6_bitCount_0f7a4 l g r5 F r6 hM) rfl ⟨rfl, rfl, by decide, by decide⟩ (Nat.le_of_ble_eq_true rfl) [] rfl (by decide) rfl rfl dX5_rightPlaces_27 [none, none, none, none, none] (by decide) ⟨rfl, ⟨rfl, ⟨rfl, ⟨rfl, ⟨rfl, trivial⟩⟩⟩⟩⟩ rfl ?_
    refine b_isub C dX5_rightPlaces_30 ?_
    refine b_iadd C dX5_rightPlaces_31 ?_
    refine b_topi hm (fun x7 hm => ?_)
    refine b_istore_n (lv' := [(2, .int x7), (0, .ref A_th), (1, .ref A_p1), (3, .int x3)]) C dX5_rightPlaces_32 rfl (by decide) rfl ?_
    refine b_iinc (v2 := x3 + 1) (lv' := [(3, .int (x3 + 1)), (2, .int x7), (0, .ref A_th), (1, .ref A_p1)]) C dX5_rightPlaces_33 3 rfl rfl (by decide) rfl ?_
    refine b_goto (tgt := 4) C dX5_rightPlaces_36 (by decide) ?_
    exact Wb.lv (hc1 x7 (x3 + 1) hm) [2, 3, 1, 0] rfl
/-- BreakLearner$Learning.countOf(I)I -/
def m_X5_countOf (F : Nat)  (n1 : Int32) (th_index_known : Int32) (th_levels : (Nat → Int32)) : Option (Int32) :=
  wl2 (fun (x2 : Int32) (x3 : Int32) c1 =>
    if th_index_known ≤ x3 then
      some x2
    else
      rdK 270 th_levels x3 (fun v4 =>
      if v4 = n1 then
        c1 (x2 + 1) (x3 + 1)
      else
        c1 x2 (x3 + 1)
      )
    ) F 0 0
abbrev rmX5_countOf : Room := { frames := 0, cells := 0, slots := 0, locals := 0 }
set_option maxHeartbeats 4000000 in
set_option maxRecDepth 100000 in
theorem c_X5_countOf (l : Launch) (g : Gl) (A_th A_th_index A_th_levels : Nat) (V_th_good V_th_bad V_th_digits V_th_index_numbers V_th_index_codes V_th_index_fits V_th_index_starts V_th_index_signs V_th_index_size : Value)  (n1 : Int32) (th_index_known : Int32) (th_levels : (Nat → Int32)) (F : Nat) (u : Int32) (hm : m_X5_countOf F n1 th_index_known th_levels = some u) : Ct l g yX5_countOf cX5_countOf 4 (some .int) rmX5_countOf [.ref A_th, .int n1] [(A_th, oO 4 [.ref A_th_index, .ref A_th_levels, V_th_good, V_th_bad, V_th_digits]), (A_th_index, oO 2 [V_th_index_numbers, V_th_index_codes, V_th_index_fits, .int th_index_known, V_th_index_starts, V_th_index_signs, V_th_index_size]), (A_th_levels, iA g 270 th_levels)] (some (.int u)) [(A_th, oO 4 [.ref A_th_index, .ref A_th_levels, V_th_good, V_th_bad, V_th_digits]), (A_th_index, oO 2 [V_th_index_numbers, V_th_index_codes, V_th_index_fits, .int th_index_known, V_th_index_starts, V_th_index_signs, V_th_index_size]), (A_th_levels, iA g 270 th_levels)] := by
  refine ent (own := RX5) (lv := [(0, .ref A_th), (1, .int n1)]) (by decide) rfl (Nat.le_of_ble_eq_true rfl) rfl rfl ?_
  intro x C
  unfold m_X5_countOf at hm
  refine b_iconst (v := 0) C dX5_countOf_0 (by decide) ?_
  refine b_istore_n (lv' := [(2, .int 0), (0, .ref A_th), (1, .int n1)]) C dX5_countOf_1 rfl (by decide) rfl ?_
  refine b_iconst (v := 0) C dX5_countOf_2 (by decide) ?_
  refine b_istore_n (lv' := [(3, .int 0), (2, .int 0), (0, .ref A_th), (1, .int n1)]) C dX5_countOf_3 rfl (by decide) rfl ?_
  refine Wb.lv (lv' := [(0, .ref A_th), (1, .int n1), (2, .int 0), (3, .int 0)]) ?_ [2, 3, 1, 0] rfl
  refine wl2_W (Wg := fun (x2 : Int32) (x3 : Int32) => Wb x [(A_th, oO 4 [.ref A_th_index, .ref A_th_levels, V_th_good, V_th_bad, V_th_digits]), (A_th_index, oO 2 [V_th_index_numbers, V_th_index_codes, V_th_index_fits, .int th_index_known, V_th_index_starts, V_th_index_signs, V_th_index_size]), (A_th_levels, iA g 270 th_levels)] [(0, .ref A_th), (1, .int n1), (2, .int x2), (3, .int x3)] 4 []) ?_ F 0 0 hm
  intro x2 x3 c1 hc1 hm
  refine b_iload_n C dX5_countOf_4 rfl 3 rfl ?_
  refine b_aload_n C dX5_countOf_5 rfl 0 rfl ?_
  refine gfX5_24 C 0 rfl rfl dX5_countOf_6 ?_
  refine gfX5_28 C 1 rfl rfl dX5_countOf_9 ?_
  refine b_icmp_ge (tgt := 34) C dX5_countOf_12 (by decide) hm (fun hm => ?_) (fun hm => ?_)
  · refine b_iload_n C dX5_countOf_34 rfl 2 rfl ?_
    cases hm
    exact b_iret C dX5_countOf_35
  · refine b_aload_n C dX5_countOf_15 rfl 0 rfl ?_
    refine gfX5_9 C 0 rfl rfl dX5_countOf_16 ?_
    refine b_iload_n C dX5_countOf_19 rfl 3 rfl ?_
    refine b_iald C 2 rfl dX5_countOf_20 hm (fun v4 hm => ?_)
    refine b_iload_n C dX5_countOf_21 rfl 1 rfl ?_
    refine b_icmp_ne (tgt := 28) C dX5_countOf_22 (by decide) hm (fun hm => ?_) (fun hm => ?_)
    · refine b_iinc (v2 := x3 + 1) (lv' := [(3, .int (x3 + 1)), (0, .ref A_th), (1, .int n1), (2, .int x2)]) C dX5_countOf_28 3 rfl rfl (by decide) rfl ?_
      refine b_goto (tgt := 4) C dX5_countOf_31 (by decide) ?_
      exact Wb.lv (hc1 x2 (x3 + 1) hm) [1, 2, 3, 0] rfl
    · refine b_iinc (v2 := x2 + 1) (lv' := [(2, .int (x2 + 1)), (0, .ref A_th), (1, .int n1), (3, .int x3)]) C dX5_countOf_25 2 rfl rfl (by decide) rfl ?_
      refine b_iinc (v2 := x3 + 1) (lv' := [(3, .int (x3 + 1)), (2, .int (x2 + 1)), (0, .ref A_th), (1, .int n1)]) C dX5_countOf_28 3 rfl rfl (by decide) rfl ?_
      refine b_goto (tgt := 4) C dX5_countOf_31 (by decide) ?_
      exact Wb.lv (hc1 (x2 + 1) (x3 + 1) hm) [2, 3, 1, 0] rfl
/-- BreakLearner$Learning.countAll()I -/
def m_X5_countAll (F : Nat)   (th_index_known : Int32) (th_levels : (Nat → Int32)) : Option (Int32) :=
  bK1 (m_X5_countOf F 0 th_index_known th_levels) (fun r1 =>
  some (th_index_known - r1)
  )
abbrev rmX5_countAll : Room := { frames := 1, cells := 0, slots := 0, locals := 23 }
set_option maxHeartbeats 4000000 in
set_option maxRecDepth 100000 in
theorem c_X5_countAll (l : Launch) (g : Gl) (A_th A_th_index A_th_levels : Nat) (V_th_good V_th_bad V_th_digits V_th_index_numbers V_th_index_codes V_th_index_fits V_th_index_starts V_th_index_signs V_th_index_size : Value)   (th_index_known : Int32) (th_levels : (Nat → Int32)) (F : Nat) (u : Int32) (hm : m_X5_countAll F th_index_known th_levels = some u) : Ct l g yX5_countAll cX5_countAll 1 (some .int) rmX5_countAll [.ref A_th] [(A_th, oO 4 [.ref A_th_index, .ref A_th_levels, V_th_good, V_th_bad, V_th_digits]), (A_th_index, oO 2 [V_th_index_numbers, V_th_index_codes, V_th_index_fits, .int th_index_known, V_th_index_starts, V_th_index_signs, V_th_index_size]), (A_th_levels, iA g 270 th_levels)] (some (.int u)) [(A_th, oO 4 [.ref A_th_index, .ref A_th_levels, V_th_good, V_th_bad, V_th_digits]), (A_th_index, oO 2 [V_th_index_numbers, V_th_index_codes, V_th_index_fits, .int th_index_known, V_th_index_starts, V_th_index_signs, V_th_index_size]), (A_th_levels, iA g 270 th_levels)] := by
  refine ent (own := RX5) (lv := [(0, .ref A_th)]) (by decide) rfl (Nat.le_of_ble_eq_true rfl) rfl rfl ?_
  intro x C
  unfold m_X5_countAll at hm
  refine b_aload_n C dX5_countAll_0 rfl 0 rfl ?_
  refine gfX5_24 C 0 rfl rfl dX5_countAll_1 ?_
  refine gfX5_28 C 1 rfl rfl dX5_countAll_4 ?_
  refine b_aload_n C dX5_countAll_7 rfl 0 rfl ?_
  refine b_iconst (v := 0) C dX5_countAll_8 (by decide) ?_
  obtain ⟨r1, hM, hm⟩ := bK1_some hm
  refine b_kV (w' := [(A_th, oO 4 [.ref A_th_index, .ref A_th_levels, V_th_good, V_th_bad, V_th_digits]), (A_th_index, oO 2 [V_th_index_numbers, V_th_index_codes, V_th_index_fits, .int th_index_known, V_th_index_starts, V_th_index_signs, V_th_index_size]), (A_th_levels, iA g 270 th_levels)]) (st := [.int th_index_known]) (st2 := [.int r1, .int th_index_known]) C cv_X5_countOf tb500 (c_X5_countOf l g A_th A_th_index A_th_levels V_th_good V_th_bad V_th_digits V_th_index_numbers V_th_index_codes V_th_index_fits V_th_index_starts V_th_index_signs V_th_index_size 0 th_index_known th_levels F r1 hM) rfl 0 rfl rfl ⟨rfl, rfl, by decide, by decide⟩ (Nat.le_of_ble_eq_true rfl) [0, 1, 2] rfl (by decide) rfl rfl dX5_countAll_9 [some 0, some 1, some 2] (by decide) ⟨⟨rfl, rfl⟩, ⟨⟨rfl, rfl⟩, ⟨⟨rfl, rfl⟩, trivial⟩⟩⟩ rfl ?_
  refine b_isub C dX5_countAll_12 ?_
  cases hm
  exact b_iret C dX5_countAll_13
/-- BreakLearner$Learning.wrongWords(LBreakLearner$Stock;)I -/
def m_X5_wrongWords (F : Nat)   (p1_words : Int32) (th_digits : (Nat → Int32)) (p1_sizes : (Nat → Int32)) (p1_breaks : (Nat → Int32)) : Option (Int32) :=
  wl2 (fun (x2 : Int32) (x3 : Int32) c1 =>
    if p1_words ≤ x3 then
      some x2
    else
      bK1 (m_X5_wrongPlaces F x3 th_digits p1_sizes p1_breaks) (fun r4 =>
      if r4 = 0 then
        c1 x2 (x3 + 1)
      else
        letK (x2 ||| (1 <<< (x3 &&& 31))) (fun x5 =>
        c1 x5 (x3 + 1)
        )
      )
    ) F 0 0
abbrev rmX5_wrongWords : Room := { frames := 3, cells := 0, slots := 0, locals := 68 }
set_option maxHeartbeats 4000000 in
set_option maxRecDepth 100000 in
theorem c_X5_wrongWords (l : Launch) (g : Gl) (A_th A_p1 A_th_digits A_p1_sizes A_p1_breaks : Nat) (V_th_index V_th_levels V_th_good V_th_bad V_p1_letters V_p1_rules V_p1_hs V_p1_learnt : Value)   (p1_words : Int32) (th_digits : (Nat → Int32)) (p1_sizes : (Nat → Int32)) (p1_breaks : (Nat → Int32)) (F : Nat) (u : Int32) (hm : m_X5_wrongWords F p1_words th_digits p1_sizes p1_breaks = some u) : Ct l g yX5_wrongWords cX5_wrongWords 4 (some .int) rmX5_wrongWords [.ref A_th, .ref A_p1] [(A_th, oO 4 [V_th_index, V_th_levels, V_th_good, V_th_bad, .ref A_th_digits]), (A_p1, oO 6 [V_p1_letters, .ref A_p1_breaks, .ref A_p1_sizes, V_p1_rules, V_p1_hs, .int p1_words, V_p1_learnt]), (A_th_digits, iA g 30 th_digits), (A_p1_sizes, iA g 6 p1_sizes), (A_p1_breaks, iA g 6 p1_breaks)] (some (.int u)) [(A_th, oO 4 [V_th_index, V_th_levels, V_th_good, V_th_bad, .ref A_th_digits]), (A_p1, oO 6 [V_p1_letters, .ref A_p1_breaks, .ref A_p1_sizes, V_p1_rules, V_p1_hs, .int p1_words, V_p1_learnt]), (A_th_digits, iA g 30 th_digits), (A_p1_sizes, iA g 6 p1_sizes), (A_p1_breaks, iA g 6 p1_breaks)] := by
  refine ent (own := RX5) (lv := [(0, .ref A_th), (1, .ref A_p1)]) (by decide) rfl (Nat.le_of_ble_eq_true rfl) rfl rfl ?_
  intro x C
  unfold m_X5_wrongWords at hm
  refine b_iconst (v := 0) C dX5_wrongWords_0 (by decide) ?_
  refine b_istore_n (lv' := [(2, .int 0), (0, .ref A_th), (1, .ref A_p1)]) C dX5_wrongWords_1 rfl (by decide) rfl ?_
  refine b_iconst (v := 0) C dX5_wrongWords_2 (by decide) ?_
  refine b_istore_n (lv' := [(3, .int 0), (2, .int 0), (0, .ref A_th), (1, .ref A_p1)]) C dX5_wrongWords_3 rfl (by decide) rfl ?_
  refine Wb.lv (lv' := [(0, .ref A_th), (1, .ref A_p1), (2, .int 0), (3, .int 0)]) ?_ [2, 3, 1, 0] rfl
  refine wl2_W (Wg := fun (x2 : Int32) (x3 : Int32) => Wb x [(A_th, oO 4 [V_th_index, V_th_levels, V_th_good, V_th_bad, .ref A_th_digits]), (A_p1, oO 6 [V_p1_letters, .ref A_p1_breaks, .ref A_p1_sizes, V_p1_rules, V_p1_hs, .int p1_words, V_p1_learnt]), (A_th_digits, iA g 30 th_digits), (A_p1_sizes, iA g 6 p1_sizes), (A_p1_breaks, iA g 6 p1_breaks)] [(0, .ref A_th), (1, .ref A_p1), (2, .int x2), (3, .int x3)] 4 []) ?_ F 0 0 hm
  intro x2 x3 c1 hc1 hm
  refine b_iload_n C dX5_wrongWords_4 rfl 3 rfl ?_
  refine b_aload_n C dX5_wrongWords_5 rfl 1 rfl ?_
  refine gfX5_59 C 1 rfl rfl dX5_wrongWords_6 ?_
  refine b_icmp_ge (tgt := 33) C dX5_wrongWords_9 (by decide) hm (fun hm => ?_) (fun hm => ?_)
  · refine b_iload_n C dX5_wrongWords_33 rfl 2 rfl ?_
    cases hm
    exact b_iret C dX5_wrongWords_34
  · refine b_aload_n C dX5_wrongWords_12 rfl 0 rfl ?_
    refine b_aload_n C dX5_wrongWords_13 rfl 1 rfl ?_
    refine b_iload_n C dX5_wrongWords_14 rfl 3 rfl ?_
    obtain ⟨r4, hM, hm⟩ := bK1_some hm
    refine b_kV (w' := [(A_th, oO 4 [V_th_index, V_th_levels, V_th_good, V_th_bad, .ref A_th_digits]), (A_p1, oO 6 [V_p1_letters, .ref A_p1_breaks, .ref A_p1_sizes, V_p1_rules, V_p1_hs, .int p1_words, V_p1_learnt]), (A_th_digits, iA g 30 th_digits), (A_p1_sizes, iA g 6 p1_sizes), (A_p1_breaks, iA g 6 p1_breaks)]) (st := []) (st2 := [.int r4]) C cv_X5_wrongPlaces tb482 (c_X5_wrongPlaces l g A_th A_p1 A_th_digits A_p1_sizes A_p1_breaks V_th_index V_th_levels V_th_good V_th_bad V_p1_letters V_p1_rules V_p1_hs (.int p1_words) V_p1_learnt x3 th_digits p1_sizes p1_breaks F r4 hM) rfl 0 rfl rfl ⟨rfl, rfl, by decide, by decide⟩ (Nat.le_of_ble_eq_true rfl) [0, 1, 2, 3, 4] rfl (by decide) rfl rfl dX5_wrongWords_15 [some 0, some 1, some 2, some 3, some 4] (by decide) ⟨⟨rfl, rfl⟩, ⟨⟨rfl, rfl⟩, ⟨⟨rfl, rfl⟩, ⟨⟨rfl, rfl⟩, ⟨⟨rfl, rfl⟩, trivial⟩⟩⟩⟩⟩ rfl ?_
    refine b_if_eq (tgt := 27) C dX5_wrongWords_18 (by decide) hm (fun hm => ?_) (fun hm => ?_)
    · refine b_iinc (v2 := x3 + 1) (lv' := [(3, .int (x3 + 1)), (0, .ref A_th), (1, .ref A_p1), (2, .int x2)]) C dX5_wrongWords_27 3 rfl rfl (by decide) rfl ?_
      refine b_goto (tgt := 4) C dX5_wrongWords_30 (by decide) ?_
      exact Wb.lv (hc1 x2 (x3 + 1) hm) [1, 2, 3, 0] rfl
    · refine b_iload_n C dX5_wrongWords_21 rfl 2 rfl ?_
      refine b_iconst (v := 1) C dX5_wrongWords_22 (by decide) ?_
      refine b_iload_n C dX5_wrongWords_23 rfl 3 rfl ?_
      refine b_ishl C dX5_wrongWords_24 ?_
      refine b_ior C dX5_wrongWords_25 ?_
      refine b_topi hm (fun x5 hm => ?_)
      refine b_istore_n (lv' := [(2, .int x5), (0, .ref A_th), (1, .ref A_p1), (3, .int x3)]) C dX5_wrongWords_26 rfl (by decide) rfl ?_
      refine b_iinc (v2 := x3 + 1) (lv' := [(3, .int (x3 + 1)), (2, .int x5), (0, .ref A_th), (1, .ref A_p1)]) C dX5_wrongWords_27 3 rfl rfl (by decide) rfl ?_
      refine b_goto (tgt := 4) C dX5_wrongWords_30 (by decide) ?_
      exact Wb.lv (hc1 x5 (x3 + 1) hm) [2, 3, 1, 0] rfl
/-- BreakLearner$Tree.takeNode(I)V -/
def m_X9_takeNode (F : Nat)  (n1 : Int32) (th_count : Int32) (th_isNode : (Nat → Int32)) : Option (Int32 × (Nat → Int32)) :=
  rdK 343 th_isNode n1 (fun v1 =>
  if v1 = 0 then
    stK 343 th_isNode n1 (vp_nar .boolean 1) (fun f2 =>
    letK (th_count + 1) (fun z3 =>
    some (z3, f2)
    )
    )
  else
    some (th_count, th_isNode)
  )
abbrev rmX9_takeNode : Room := { frames := 0, cells := 0, slots := 0, locals := 0 }
set_option maxHeartbeats 4000000 in
set_option maxRecDepth 100000 in
theorem c_X9_takeNode (l : Launch) (g : Gl) (A_th A_th_isNode : Nat) (V_th_bases V_th_slots V_th_end V_th_packed : Value)  (n1 : Int32) (th_count : Int32) (th_isNode : (Nat → Int32)) (F : Nat) (u : Int32 × (Nat → Int32)) (hm : m_X9_takeNode F n1 th_count th_isNode = some u) : Ct l g yX9_takeNode cX9_takeNode 2 none rmX9_takeNode [.ref A_th, .int n1] [(A_th, oO 8 [.ref A_th_isNode, V_th_bases, V_th_slots, .int th_count, V_th_end, V_th_packed]), (A_th_isNode, zA g 343 th_isNode)] none [(A_th, oO 8 [.ref A_th_isNode, V_th_bases, V_th_slots, .int u.1, V_th_end, V_th_packed]), (A_th_isNode, zA g 343 u.2)] := by
  refine ent (own := RX9) (lv := [(0, .ref A_th), (1, .int n1)]) (by decide) rfl (Nat.le_of_ble_eq_true rfl) rfl rfl ?_
  intro x C
  unfold m_X9_takeNode at hm
  refine b_aload_n C dX9_takeNode_0 rfl 0 rfl ?_
  refine gfX9_9 C 0 rfl rfl dX9_takeNode_1 ?_
  refine b_iload_n C dX9_takeNode_4 rfl 1 rfl ?_
  refine b_zald C 1 rfl dX9_takeNode_5 hm (fun v1 hm => ?_)
  refine b_if_ne (tgt := 26) C dX9_takeNode_6 (by decide) hm (fun hm => ?_) (fun hm => ?_)
  · cases hm
    exact b_vret C dX9_takeNode_26
  · refine b_aload_n C dX9_takeNode_9 rfl 0 rfl ?_
    refine gfX9_9 C 0 rfl rfl dX9_takeNode_10 ?_
    refine b_iload_n C dX9_takeNode_13 rfl 1 rfl ?_
    refine b_iconst (v := 1) C dX9_takeNode_14 (by decide) ?_
    refine b_zast C 1 rfl dX9_takeNode_15 hm (fun f2 hm => Wb.to (w' := [(A_th, oO 8 [.ref A_th_isNode, V_th_bases, V_th_slots, .int th_count, V_th_end, V_th_packed]), (A_th_isNode, zA g 343 f2)]) rfl ?_)
    refine b_aload_n C dX9_takeNode_16 rfl 0 rfl ?_
    refine b_dup C dX9_takeNode_17 rfl ?_
    refine gfX9_52 C 0 rfl rfl dX9_takeNode_18 ?_
    refine b_iconst (v := 1) C dX9_takeNode_21 (by decide) ?_
    refine b_iadd C dX9_takeNode_22 ?_
    refine b_topi hm (fun z3 hm => ?_)
    refine pfX9_52 (w' := [(A_th, oO 8 [.ref A_th_isNode, V_th_bases, V_th_slots, .int z3, V_th_end, V_th_packed]), (A_th_isNode, zA g 343 f2)]) C rfl rfl 0 rfl (Nat.le_of_ble_eq_true rfl) dX9_takeNode_23 rfl ?_
    cases hm
    exact b_vret C dX9_takeNode_26
/-- BreakLearner$Tree.takeNodes(LBreakLearner$Learning;)V -/
def m_X9_takeNodes (F : Nat)   (th_count : Int32) (th_isNode : (Nat → Int32)) (p1_index_known : Int32) (p1_levels : (Nat → Int32)) (p1_index_codes : (Nat → Int32)) : Option (Int32 × (Nat → Int32)) :=
  wl2 (fun (x2 : Int32) (f3 : (Nat → Int32)) c1 =>
    if 343 ≤ x2 then
      wl3 (fun (x5 : Int32) (z6 : Int32) (f7 : (Nat → Int32)) c4 =>
        if p1_index_known ≤ x5 then
          some (z6, f7)
        else
          rdK 270 p1_levels x5 (fun v8 =>
          if v8 ≤ 0 then
            c4 (x5 + 1) z6 f7
          else
            rdK 270 p1_index_codes x5 (fun v9 =>
            letK (v9 / 4) (fun x10 =>
            bK2 (m_X9_takeNode F x10 z6 f7) (fun z11 f12 =>
            bK2 (m_X9_takeNode F (x10 / 7) z11 f12) (fun z13 f14 =>
            bK2 (m_X9_takeNode F (x10 / 49) z13 f14) (fun z15 f16 =>
            bK2 (m_X9_takeNode F 0 z15 f16) (fun z17 f18 =>
            c4 (x5 + 1) z17 f18
            )
            )
            )
            )
            )
            )
          )
        ) F 0 0 f3
    else
      stK 343 f3 x2 (vp_nar .boolean 0) (fun f19 =>
      c1 (x2 + 1) f19
      )
    ) F 0 th_isNode
abbrev rmX9_takeNodes : Room := { frames := 1, cells := 0, slots := 0, locals := 21 }
set_option maxHeartbeats 4000000 in
set_option maxRecDepth 100000 in
theorem c_X9_takeNodes (l : Launch) (g : Gl) (A_th A_p1 A_th_isNode A_p1_index A_p1_levels A_p1_index_codes : Nat) (V_th_bases V_th_slots V_th_end V_th_packed V_p1_good V_p1_bad V_p1_digits V_p1_index_numbers V_p1_index_fits V_p1_index_starts V_p1_index_signs V_p1_index_size : Value)   (th_count : Int32) (th_isNode : (Nat → Int32)) (p1_index_known : Int32) (p1_levels : (Nat → Int32)) (p1_index_codes : (Nat → Int32)) (F : Nat) (u : Int32 × (Nat → Int32)) (hm : m_X9_takeNodes F th_count th_isNode p1_index_known p1_levels p1_index_codes = some u) : Ct l g yX9_takeNodes cX9_takeNodes 4 none rmX9_takeNodes [.ref A_th, .ref A_p1] [(A_th, oO 8 [.ref A_th_isNode, V_th_bases, V_th_slots, .int th_count, V_th_end, V_th_packed]), (A_p1, oO 4 [.ref A_p1_index, .ref A_p1_levels, V_p1_good, V_p1_bad, V_p1_digits]), (A_th_isNode, zA g 343 th_isNode), (A_p1_index, oO 2 [V_p1_index_numbers, .ref A_p1_index_codes, V_p1_index_fits, .int p1_index_known, V_p1_index_starts, V_p1_index_signs, V_p1_index_size]), (A_p1_levels, iA g 270 p1_levels), (A_p1_index_codes, iA g 270 p1_index_codes)] none [(A_th, oO 8 [.ref A_th_isNode, V_th_bases, V_th_slots, .int u.1, V_th_end, V_th_packed]), (A_p1, oO 4 [.ref A_p1_index, .ref A_p1_levels, V_p1_good, V_p1_bad, V_p1_digits]), (A_th_isNode, zA g 343 u.2), (A_p1_index, oO 2 [V_p1_index_numbers, .ref A_p1_index_codes, V_p1_index_fits, .int p1_index_known, V_p1_index_starts, V_p1_index_signs, V_p1_index_size]), (A_p1_levels, iA g 270 p1_levels), (A_p1_index_codes, iA g 270 p1_index_codes)] := by
  refine ent (own := RX9) (lv := [(0, .ref A_th), (1, .ref A_p1)]) (by decide) rfl (Nat.le_of_ble_eq_true rfl) rfl rfl ?_
  intro x C
  unfold m_X9_takeNodes at hm
  refine b_iconst (v := 0) C dX9_takeNodes_0 (by decide) ?_
  refine b_istore_n (lv' := [(2, .int 0), (0, .ref A_th), (1, .ref A_p1)]) C dX9_takeNodes_1 rfl (by decide) rfl ?_
  refine Wb.lv (lv' := [(0, .ref A_th), (1, .ref A_p1), (2, .int 0)]) ?_ [1, 2, 0] rfl
  refine wl2_W (Wg := fun (x2 : Int32) (f3 : (Nat → Int32)) => Wb x [(A_th, oO 8 [.ref A_th_isNode, V_th_bases, V_th_slots, .int th_count, V_th_end, V_th_packed]), (A_p1, oO 4 [.ref A_p1_index, .ref A_p1_levels, V_p1_good, V_p1_bad, V_p1_digits]), (A_th_isNode, zA g 343 f3), (A_p1_index, oO 2 [V_p1_index_numbers, .ref A_p1_index_codes, V_p1_index_fits, .int p1_index_known, V_p1_index_starts, V_p1_index_signs, V_p1_index_size]), (A_p1_levels, iA g 270 p1_levels), (A_p1_index_codes, iA g 270 p1_index_codes)] [(0, .ref A_th), (1, .ref A_p1), (2, .int x2)] 2 []) ?_ F 0 th_isNode hm
  intro x2 f3 c1 hc1 hm
  refine b_iload_n C dX9_takeNodes_2 rfl 2 rfl ?_
  refine b_sipush (v := 343) C dX9_takeNodes_3 (by decide) ?_
  refine b_icmp_ge (tgt := 22) C dX9_takeNodes_6 (by decide) hm (fun hm => ?_) (fun hm => ?_)
  · refine b_aload_n C dX9_takeNodes_22 rfl 0 rfl ?_
    refine b_iconst (v := 0) C dX9_takeNodes_23 (by decide) ?_
    refine pfX9_52 (w' := [(A_th, oO 8 [.ref A_th_isNode, V_th_bases, V_th_slots, .int 0, V_th_end, V_th_packed]), (A_p1, oO 4 [.ref A_p1_index, .ref A_p1_levels, V_p1_good, V_p1_bad, V_p1_digits]), (A_th_isNode, zA g 343 f3), (A_p1_index, oO 2 [V_p1_index_numbers, .ref A_p1_index_codes, V_p1_index_fits, .int p1_index_known, V_p1_index_starts, V_p1_index_signs, V_p1_index_size]), (A_p1_levels, iA g 270 p1_levels), (A_p1_index_codes, iA g 270 p1_index_codes)]) C rfl rfl 0 rfl (Nat.le_of_ble_eq_true rfl) dX9_takeNodes_24 rfl ?_
    refine b_iconst (v := 0) C dX9_takeNodes_27 (by decide) ?_
    refine b_istore_n (lv' := [(2, .int 0), (0, .ref A_th), (1, .ref A_p1)]) C dX9_takeNodes_28 rfl (by decide) rfl ?_
    refine Wb.lv (lv' := [(0, .ref A_th), (1, .ref A_p1), (2, .int 0)]) ?_ [1, 2, 0] rfl
    refine wl3_W (Wg := fun (x5 : Int32) (z6 : Int32) (f7 : (Nat → Int32)) => Wb x [(A_th, oO 8 [.ref A_th_isNode, V_th_bases, V_th_slots, .int z6, V_th_end, V_th_packed]), (A_p1, oO 4 [.ref A_p1_index, .ref A_p1_levels, V_p1_good, V_p1_bad, V_p1_digits]), (A_th_isNode, zA g 343 f7), (A_p1_index, oO 2 [V_p1_index_numbers, .ref A_p1_index_codes, V_p1_index_fits, .int p1_index_known, V_p1_index_starts, V_p1_index_signs, V_p1_index_size]), (A_p1_levels, iA g 270 p1_levels), (A_p1_index_codes, iA g 270 p1_index_codes)] [(0, .ref A_th), (1, .ref A_p1), (2, .int x5)] 29 []) ?_ F 0 0 f3 hm
    intro x5 z6 f7 c4 hc4 hm
    refine b_iload_n C dX9_takeNodes_29 rfl 2 rfl ?_
    refine b_aload_n C dX9_takeNodes_30 rfl 1 rfl ?_
    refine gfX9_55 C 1 rfl rfl dX9_takeNodes_31 ?_
    refine gfX9_61 C 3 rfl rfl dX9_takeNodes_34 ?_
    refine b_icmp_ge (tgt := 93) C dX9_takeNodes_37 (by decide) hm (fun hm => ?_) (fun hm => ?_)
    · cases hm
      exact b_vret C dX9_takeNodes_93
    · refine b_aload_n C dX9_takeNodes_40 rfl 1 rfl ?_
      refine gfX9_66 C 1 rfl rfl dX9_takeNodes_41 ?_
      refine b_iload_n C dX9_takeNodes_44 rfl 2 rfl ?_
      refine b_iald C 4 rfl dX9_takeNodes_45 hm (fun v8 hm => ?_)
      refine b_if_le (tgt := 87) C dX9_takeNodes_46 (by decide) hm (fun hm => ?_) (fun hm => ?_)
      · refine b_iinc (v2 := x5 + 1) (lv' := [(2, .int (x5 + 1)), (0, .ref A_th), (1, .ref A_p1)]) C dX9_takeNodes_87 2 rfl rfl (by decide) rfl ?_
        refine b_goto (tgt := 29) C dX9_takeNodes_90 (by decide) ?_
        exact Wb.lv (hc4 (x5 + 1) z6 f7 hm) [1, 2, 0] rfl
      · refine b_aload_n C dX9_takeNodes_49 rfl 1 rfl ?_
        refine gfX9_55 C 1 rfl rfl dX9_takeNodes_50 ?_
        refine gfX9_69 C 3 rfl rfl dX9_takeNodes_53 ?_
        refine b_iload_n C dX9_takeNodes_56 rfl 2 rfl ?_
        refine b_iald C 5 rfl dX9_takeNodes_57 hm (fun v9 hm => ?_)
        refine b_iconst (v := 4) C dX9_takeNodes_58 (by decide) ?_
        refine b_idiv C dX9_takeNodes_59 (by decide) ?_
        refine b_topi hm (fun x10 hm => ?_)
        refine b_istore_n (lv' := [(3, .int x10), (0, .ref A_th), (1, .ref A_p1), (2, .int x5)]) C dX9_takeNodes_60 rfl (by decide) rfl ?_
        refine b_aload_n C dX9_takeNodes_61 rfl 1 rfl ?_
        refine b_iload_n C dX9_takeNodes_62 rfl 0 rfl ?_
        obtain ⟨z11, f12, hM, hm⟩ := bK2_some hm
        refine b_kV (w' := [(A_th, oO 8 [.ref A_th_isNode, V_th_bases, V_th_slots, .int z11, V_th_end, V_th_packed]), (A_p1, oO 4 [.ref A_p1_index, .ref A_p1_levels, V_p1_good, V_p1_bad, V_p1_digits]), (A_th_isNode, zA g 343 f12), (A_p1_index, oO 2 [V_p1_index_numbers, .ref A_p1_index_codes, V_p1_index_fits, .int p1_index_known, V_p1_index_starts, V_p1_index_signs, V_p1_index_size]), (A_p1_levels, iA g 270 p1_levels), (A_p1_index_codes, iA g 270 p1_index_codes)]) (st := []) (st2 := []) C cv_X9_takeNode tb520 (c_X9_takeNode l g A_th A_th_isNode V_th_bases V_th_slots V_th_end V_th_packed x10 z6 f7 F (z11, f12) hM) rfl 0 rfl rfl ⟨rfl, rfl, by decide, by decide⟩ (Nat.le_of_ble_eq_true rfl) [0, 2] rfl (by decide) rfl rfl dX9_takeNodes_63 [some 0, none, some 1, none, none, none] (by decide) ⟨⟨rfl, rfl⟩, ⟨rfl, ⟨⟨rfl, rfl⟩, ⟨rfl, ⟨rfl, ⟨rfl, trivial⟩⟩⟩⟩⟩⟩ rfl ?_
        refine b_aload_n C dX9_takeNodes_66 rfl 1 rfl ?_
        refine b_iload_n C dX9_takeNodes_67 rfl 0 rfl ?_
        refine b_bipush (v := 7) C dX9_takeNodes_68 (by decide) ?_
        refine b_idiv C dX9_takeNodes_70 (by decide) ?_
        obtain ⟨z13, f14, hM, hm⟩ := bK2_some hm
        refine b_kV (w' := [(A_th, oO 8 [.ref A_th_isNode, V_th_bases, V_th_slots, .int z13, V_th_end, V_th_packed]), (A_p1, oO 4 [.ref A_p1_index, .ref A_p1_levels, V_p1_good, V_p1_bad, V_p1_digits]), (A_th_isNode, zA g 343 f14), (A_p1_index, oO 2 [V_p1_index_numbers, .ref A_p1_index_codes, V_p1_index_fits, .int p1_index_known, V_p1_index_starts, V_p1_index_signs, V_p1_index_size]), (A_p1_levels, iA g 270 p1_levels), (A_p1_index_codes, iA g 270 p1_index_codes)]) (st := []) (st2 := []) C cv_X9_takeNode tb520 (c_X9_takeNode l g A_th A_th_isNode V_th_bases V_th_slots V_th_end V_th_packed (x10 / 7) z11 f12 F (z13, f14) hM) rfl 0 rfl rfl ⟨rfl, rfl, by decide, by decide⟩ (Nat.le_of_ble_eq_true rfl) [0, 2] rfl (by decide) rfl rfl dX9_takeNodes_71 [some 0, none, some 1, none, none, none] (by decide) ⟨⟨rfl, rfl⟩, ⟨rfl, ⟨⟨rfl, rfl⟩, ⟨rfl, ⟨rfl, ⟨rfl, trivial⟩⟩⟩⟩⟩⟩ rfl ?_
        refine b_aload_n C dX9_takeNodes_74 rfl 1 rfl ?_
        refine b_iload_n C dX9_takeNodes_75 rfl 0 rfl ?_
        refine b_bipush (v := 49) C dX9_takeNodes_76 (by decide) ?_
        refine b_idiv C dX9_takeNodes_78 (by decide) ?_
        obtain ⟨z15, f16, hM, hm⟩ := bK2_some hm
        refine b_kV (w' := [(A_th, oO 8 [.ref A_th_isNode, V_th_bases, V_th_slots, .int z15, V_th_end, V_th_packed]), (A_p1, oO 4 [.ref A_p1_index, .ref A_p1_levels, V_p1_good, V_p1_bad, V_p1_digits]), (A_th_isNode, zA g 343 f16), (A_p1_index, oO 2 [V_p1_index_numbers, .ref A_p1_index_codes, V_p1_index_fits, .int p1_index_known, V_p1_index_starts, V_p1_index_signs, V_p1_index_size]), (A_p1_levels, iA g 270 p1_levels), (A_p1_index_codes, iA g 270 p1_index_codes)]) (st := []) (st2 := []) C cv_X9_takeNode tb520 (c_X9_takeNode l g A_th A_th_isNode V_th_bases V_th_slots V_th_end V_th_packed (x10 / 49) z13 f14 F (z15, f16) hM) rfl 0 rfl rfl ⟨rfl, rfl, by decide, by decide⟩ (Nat.le_of_ble_eq_true rfl) [0, 2] rfl (by decide) rfl rfl dX9_takeNodes_79 [some 0, none, some 1, none, none, none] (by decide) ⟨⟨rfl, rfl⟩, ⟨rfl, ⟨⟨rfl, rfl⟩, ⟨rfl, ⟨rfl, ⟨rfl, trivial⟩⟩⟩⟩⟩⟩ rfl ?_
        refine b_aload_n C dX9_takeNodes_82 rfl 1 rfl ?_
        refine b_iconst (v := 0) C dX9_takeNodes_83 (by decide) ?_
        obtain ⟨z17, f18, hM, hm⟩ := bK2_some hm
        refine b_kV (w' := [(A_th, oO 8 [.ref A_th_isNode, V_th_bases, V_th_slots, .int z17, V_th_end, V_th_packed]), (A_p1, oO 4 [.ref A_p1_index, .ref A_p1_levels, V_p1_good, V_p1_bad, V_p1_digits]), (A_th_isNode, zA g 343 f18), (A_p1_index, oO 2 [V_p1_index_numbers, .ref A_p1_index_codes, V_p1_index_fits, .int p1_index_known, V_p1_index_starts, V_p1_index_signs, V_p1_index_size]), (A_p1_levels, iA g 270 p1_levels), (A_p1_index_codes, iA g 270 p1_index_codes)]) (st := []) (st2 := []) C cv_X9_takeNode tb520 (c_X9_takeNode l g A_th A_th_isNode V_th_bases V_th_slots V_th_end V_th_packed 0 z15 f16 F (z17, f18) hM) rfl 0 rfl rfl ⟨rfl, rfl, by decide, by decide⟩ (Nat.le_of_ble_eq_true rfl) [0, 2] rfl (by decide) rfl rfl dX9_takeNodes_84 [some 0, none, some 1, none, none, none] (by decide) ⟨⟨rfl, rfl⟩, ⟨rfl, ⟨⟨rfl, rfl⟩, ⟨rfl, ⟨rfl, ⟨rfl, trivial⟩⟩⟩⟩⟩⟩ rfl ?_
        refine b_iinc (v2 := x5 + 1) (lv' := [(2, .int (x5 + 1)), (3, .int x10), (0, .ref A_th), (1, .ref A_p1)]) C dX9_takeNodes_87 3 rfl rfl (by decide) rfl ?_
        refine b_goto (tgt := 29) C dX9_takeNodes_90 (by decide) ?_
        exact Wb.lv (hc4 (x5 + 1) z17 f18 hm) [2, 3, 0] rfl
  · refine b_aload_n C dX9_takeNodes_9 rfl 0 rfl ?_
    refine gfX9_9 C 0 rfl rfl dX9_takeNodes_10 ?_
    refine b_iload_n C dX9_takeNodes_13 rfl 2 rfl ?_
    refine b_iconst (v := 0) C dX9_takeNodes_14 (by decide) ?_
    refine b_zast C 2 rfl dX9_takeNodes_15 hm (fun f19 hm => Wb.to (w' := [(A_th, oO 8 [.ref A_th_isNode, V_th_bases, V_th_slots, .int th_count, V_th_end, V_th_packed]), (A_p1, oO 4 [.ref A_p1_index, .ref A_p1_levels, V_p1_good, V_p1_bad, V_p1_digits]), (A_th_isNode, zA g 343 f19), (A_p1_index, oO 2 [V_p1_index_numbers, .ref A_p1_index_codes, V_p1_index_fits, .int p1_index_known, V_p1_index_starts, V_p1_index_signs, V_p1_index_size]), (A_p1_levels, iA g 270 p1_levels), (A_p1_index_codes, iA g 270 p1_index_codes)]) rfl ?_)
    refine b_iinc (v2 := x2 + 1) (lv' := [(2, .int (x2 + 1)), (0, .ref A_th), (1, .ref A_p1)]) C dX9_takeNodes_16 2 rfl rfl (by decide) rfl ?_
    refine b_goto (tgt := 2) C dX9_takeNodes_19 (by decide) ?_
    exact Wb.lv (hc1 (x2 + 1) f19 hm) [1, 2, 0] rfl
/-- BreakLearner$Tree.hasLonger(I)Z -/
def m_X9_hasLonger (F : Nat)  (n1 : Int32) (th_isNode : (Nat → Int32)) : Option (Int32) :=
  wl1 (fun (x2 : Int32) c1 =>
    if 6 < x2 then
      some 0
    else
      rdK 343 th_isNode ((n1 * 7) + x2) (fun v3 =>
      if v3 = 0 then
        c1 (x2 + 1)
      else
        some 1
      )
    ) F 1
abbrev rmX9_hasLonger : Room := { frames := 0, cells := 0, slots := 0, locals := 0 }
set_option maxHeartbeats 4000000 in
set_option maxRecDepth 100000 in
theorem c_X9_hasLonger (l : Launch) (g : Gl) (A_th A_th_isNode : Nat) (V_th_bases V_th_slots V_th_count V_th_end V_th_packed : Value)  (n1 : Int32) (th_isNode : (Nat → Int32)) (F : Nat) (u : Int32) (hm : m_X9_hasLonger F n1 th_isNode = some u) : Ct l g yX9_hasLonger cX9_hasLonger 3 (some .boolean) rmX9_hasLonger [.ref A_th, .int n1] [(A_th, oO 8 [.ref A_th_isNode, V_th_bases, V_th_slots, V_th_count, V_th_end, V_th_packed]), (A_th_isNode, zA g 343 th_isNode)] (some (.int u)) [(A_th, oO 8 [.ref A_th_isNode, V_th_bases, V_th_slots, V_th_count, V_th_end, V_th_packed]), (A_th_isNode, zA g 343 th_isNode)] := by
  refine ent (own := RX9) (lv := [(0, .ref A_th), (1, .int n1)]) (by decide) rfl (Nat.le_of_ble_eq_true rfl) rfl rfl ?_
  intro x C
  unfold m_X9_hasLonger at hm
  refine b_iconst (v := 1) C dX9_hasLonger_0 (by decide) ?_
  refine b_istore_n (lv' := [(2, .int 1), (0, .ref A_th), (1, .int n1)]) C dX9_hasLonger_1 rfl (by decide) rfl ?_
  refine Wb.lv (lv' := [(0, .ref A_th), (1, .int n1), (2, .int 1)]) ?_ [1, 2, 0] rfl
  refine wl1_W (Wg := fun (x2 : Int32) => Wb x [(A_th, oO 8 [.ref A_th_isNode, V_th_bases, V_th_slots, V_th_count, V_th_end, V_th_packed]), (A_th_isNode, zA g 343 th_isNode)] [(0, .ref A_th), (1, .int n1), (2, .int x2)] 2 []) ?_ F 1 hm
  intro x2 c1 hc1 hm
  refine b_iload_n C dX9_hasLonger_2 rfl 2 rfl ?_
  refine b_bipush (v := 6) C dX9_hasLonger_3 (by decide) ?_
  refine b_icmp_gt (tgt := 30) C dX9_hasLonger_5 (by decide) hm (fun hm => ?_) (fun hm => ?_)
  · refine b_iconst (v := 0) C dX9_hasLonger_30 (by decide) ?_
    cases hm
    exact b_zret (v := 0) C (by decide) dX9_hasLonger_31
  · refine b_aload_n C dX9_hasLonger_8 rfl 0 rfl ?_
    refine gfX9_9 C 0 rfl rfl dX9_hasLonger_9 ?_
    refine b_iload_n C dX9_hasLonger_12 rfl 1 rfl ?_
    refine b_bipush (v := 7) C dX9_hasLonger_13 (by decide) ?_
    refine b_imul C dX9_hasLonger_15 ?_
    refine b_iload_n C dX9_hasLonger_16 rfl 2 rfl ?_
    refine b_iadd C dX9_hasLonger_17 ?_
    refine b_zald C 1 rfl dX9_hasLonger_18 hm (fun v3 hm => ?_)
    refine b_if_eq (tgt := 24) C dX9_hasLonger_19 (by decide) hm (fun hm => ?_) (fun hm => ?_)
    · refine b_iinc (v2 := x2 + 1) (lv' := [(2, .int (x2 + 1)), (0, .ref A_th), (1, .int n1)]) C dX9_hasLonger_24 2 rfl rfl (by decide) rfl ?_
      refine b_goto (tgt := 2) C dX9_hasLonger_27 (by decide) ?_
      exact Wb.lv (hc1 (x2 + 1) hm) [1, 2, 0] rfl
    · refine b_iconst (v := 1) C dX9_hasLonger_22 (by decide) ?_
      cases hm
      exact b_zret (v := 1) C (by decide) dX9_hasLonger_23
/-- BreakLearner$Tree.isFree(II)Z -/
def m_X9_isFree (F : Nat)  (n1 : Int32) (n2 : Int32) (th_isNode : (Nat → Int32)) (th_slots : (Nat → Int32)) : Option (Int32) :=
  wl1 (fun (x2 : Int32) c1 =>
    if 6 < x2 then
      some 1
    else
      rdK 343 th_isNode ((n1 * 7) + x2) (fun v3 =>
      if v3 = 0 then
        c1 (x2 + 1)
      else
        rdK 301 th_slots (n2 + x2) (fun v4 =>
        if v4 = 0 then
          c1 (x2 + 1)
        else
          some 0
        )
      )
    ) F 1
abbrev rmX9_isFree : Room := { frames := 0, cells := 0, slots := 0, locals := 0 }
set_option maxHeartbeats 4000000 in
set_option maxRecDepth 100000 in
theorem c_X9_isFree (l : Launch) (g : Gl) (A_th A_th_isNode A_th_slots : Nat) (V_th_bases V_th_count V_th_end V_th_packed : Value)  (n1 : Int32) (n2 : Int32) (th_isNode : (Nat → Int32)) (th_slots : (Nat → Int32)) (F : Nat) (u : Int32) (hm : m_X9_isFree F n1 n2 th_isNode th_slots = some u) : Ct l g yX9_isFree cX9_isFree 4 (some .boolean) rmX9_isFree [.ref A_th, .int n1, .int n2] [(A_th, oO 8 [.ref A_th_isNode, V_th_bases, .ref A_th_slots, V_th_count, V_th_end, V_th_packed]), (A_th_isNode, zA g 343 th_isNode), (A_th_slots, iA g 301 th_slots)] (some (.int u)) [(A_th, oO 8 [.ref A_th_isNode, V_th_bases, .ref A_th_slots, V_th_count, V_th_end, V_th_packed]), (A_th_isNode, zA g 343 th_isNode), (A_th_slots, iA g 301 th_slots)] := by
  refine ent (own := RX9) (lv := [(0, .ref A_th), (1, .int n1), (2, .int n2)]) (by decide) rfl (Nat.le_of_ble_eq_true rfl) rfl rfl ?_
  intro x C
  unfold m_X9_isFree at hm
  refine b_iconst (v := 1) C dX9_isFree_0 (by decide) ?_
  refine b_istore_n (lv' := [(3, .int 1), (0, .ref A_th), (1, .int n1), (2, .int n2)]) C dX9_isFree_1 rfl (by decide) rfl ?_
  refine Wb.lv (lv' := [(0, .ref A_th), (1, .int n1), (2, .int n2), (3, .int 1)]) ?_ [1, 2, 3, 0] rfl
  refine wl1_W (Wg := fun (x2 : Int32) => Wb x [(A_th, oO 8 [.ref A_th_isNode, V_th_bases, .ref A_th_slots, V_th_count, V_th_end, V_th_packed]), (A_th_isNode, zA g 343 th_isNode), (A_th_slots, iA g 301 th_slots)] [(0, .ref A_th), (1, .int n1), (2, .int n2), (3, .int x2)] 2 []) ?_ F 1 hm
  intro x2 c1 hc1 hm
  refine b_iload_n C dX9_isFree_2 rfl 3 rfl ?_
  refine b_bipush (v := 6) C dX9_isFree_3 (by decide) ?_
  refine b_icmp_gt (tgt := 41) C dX9_isFree_5 (by decide) hm (fun hm => ?_) (fun hm => ?_)
  · refine b_iconst (v := 1) C dX9_isFree_41 (by decide) ?_
    cases hm
    exact b_zret (v := 1) C (by decide) dX9_isFree_42
  · refine b_aload_n C dX9_isFree_8 rfl 0 rfl ?_
    refine gfX9_9 C 0 rfl rfl dX9_isFree_9 ?_
    refine b_iload_n C dX9_isFree_12 rfl 1 rfl ?_
    refine b_bipush (v := 7) C dX9_isFree_13 (by decide) ?_
    refine b_imul C dX9_isFree_15 ?_
    refine b_iload_n C dX9_isFree_16 rfl 3 rfl ?_
    refine b_iadd C dX9_isFree_17 ?_
    refine b_zald C 1 rfl dX9_isFree_18 hm (fun v3 hm => ?_)
    refine b_if_eq (tgt := 35) C dX9_isFree_19 (by decide) hm (fun hm => ?_) (fun hm => ?_)
    · refine b_iinc (v2 := x2 + 1) (lv' := [(3, .int (x2 + 1)), (0, .ref A_th), (1, .int n1), (2, .int n2)]) C dX9_isFree_35 3 rfl rfl (by decide) rfl ?_
      refine b_goto (tgt := 2) C dX9_isFree_38 (by decide) ?_
      exact Wb.lv (hc1 (x2 + 1) hm) [1, 2, 3, 0] rfl
    · refine b_aload_n C dX9_isFree_22 rfl 0 rfl ?_
      refine gfX9_19 C 0 rfl rfl dX9_isFree_23 ?_
      refine b_iload_n C dX9_isFree_26 rfl 2 rfl ?_
      refine b_iload_n C dX9_isFree_27 rfl 3 rfl ?_
      refine b_iadd C dX9_isFree_28 ?_
      refine b_iald C 2 rfl dX9_isFree_29 hm (fun v4 hm => ?_)
      refine b_if_eq (tgt := 35) C dX9_isFree_30 (by decide) hm (fun hm => ?_) (fun hm => ?_)
      · refine b_iinc (v2 := x2 + 1) (lv' := [(3, .int (x2 + 1)), (0, .ref A_th), (1, .int n1), (2, .int n2)]) C dX9_isFree_35 3 rfl rfl (by decide) rfl ?_
        refine b_goto (tgt := 2) C dX9_isFree_38 (by decide) ?_
        exact Wb.lv (hc1 (x2 + 1) hm) [1, 2, 3, 0] rfl
      · refine b_iconst (v := 0) C dX9_isFree_33 (by decide) ?_
        cases hm
        exact b_zret (v := 0) C (by decide) dX9_isFree_34
/-- BreakLearner$Tree.leastBase(I)I -/
def m_X9_leastBase (F : Nat)  (n1 : Int32) (th_isNode : (Nat → Int32)) (th_slots : (Nat → Int32)) : Option (Int32) :=
  wl1 (fun (x2 : Int32) c1 =>
    if 301 ≤ (x2 + 6) then
      some 294
    else
      bK1 (m_X9_isFree F n1 x2 th_isNode th_slots) (fun r3 =>
      if r3 = 0 then
        c1 (x2 + 1)
      else
        some x2
      )
    ) F 0
abbrev rmX9_leastBase : Room := { frames := 1, cells := 0, slots := 0, locals := 23 }
set_option maxHeartbeats 4000000 in
set_option maxRecDepth 100000 in
theorem c_X9_leastBase (l : Launch) (g : Gl) (A_th A_th_isNode A_th_slots : Nat) (V_th_bases V_th_count V_th_end V_th_packed : Value)  (n1 : Int32) (th_isNode : (Nat → Int32)) (th_slots : (Nat → Int32)) (F : Nat) (u : Int32) (hm : m_X9_leastBase F n1 th_isNode th_slots = some u) : Ct l g yX9_leastBase cX9_leastBase 3 (some .int) rmX9_leastBase [.ref A_th, .int n1] [(A_th, oO 8 [.ref A_th_isNode, V_th_bases, .ref A_th_slots, V_th_count, V_th_end, V_th_packed]), (A_th_isNode, zA g 343 th_isNode), (A_th_slots, iA g 301 th_slots)] (some (.int u)) [(A_th, oO 8 [.ref A_th_isNode, V_th_bases, .ref A_th_slots, V_th_count, V_th_end, V_th_packed]), (A_th_isNode, zA g 343 th_isNode), (A_th_slots, iA g 301 th_slots)] := by
  refine ent (own := RX9) (lv := [(0, .ref A_th), (1, .int n1)]) (by decide) rfl (Nat.le_of_ble_eq_true rfl) rfl rfl ?_
  intro x C
  unfold m_X9_leastBase at hm
  refine b_iconst (v := 0) C dX9_leastBase_0 (by decide) ?_
  refine b_istore_n (lv' := [(2, .int 0), (0, .ref A_th), (1, .int n1)]) C dX9_leastBase_1 rfl (by decide) rfl ?_
  refine Wb.lv (lv' := [(0, .ref A_th), (1, .int n1), (2, .int 0)]) ?_ [1, 2, 0] rfl
  refine wl1_W (Wg := fun (x2 : Int32) => Wb x [(A_th, oO 8 [.ref A_th_isNode, V_th_bases, .ref A_th_slots, V_th_count, V_th_end, V_th_packed]), (A_th_isNode, zA g 343 th_isNode), (A_th_slots, iA g 301 th_slots)] [(0, .ref A_th), (1, .int n1), (2, .int x2)] 2 []) ?_ F 0 hm
  intro x2 c1 hc1 hm
  refine b_iload_n C dX9_leastBase_2 rfl 2 rfl ?_
  refine b_bipush (v := 6) C dX9_leastBase_3 (by decide) ?_
  refine b_iadd C dX9_leastBase_5 ?_
  refine b_sipush (v := 301) C dX9_leastBase_6 (by decide) ?_
  refine b_icmp_ge (tgt := 29) C dX9_leastBase_9 (by decide) hm (fun hm => ?_) (fun hm => ?_)
  · refine b_sipush (v := 294) C dX9_leastBase_29 (by decide) ?_
    cases hm
    exact b_iret C dX9_leastBase_32
  · refine b_aload_n C dX9_leastBase_12 rfl 0 rfl ?_
    refine b_iload_n C dX9_leastBase_13 rfl 1 rfl ?_
    refine b_iload_n C dX9_leastBase_14 rfl 2 rfl ?_
    obtain ⟨r3, hM, hm⟩ := bK1_some hm
    refine b_kV (w' := [(A_th, oO 8 [.ref A_th_isNode, V_th_bases, .ref A_th_slots, V_th_count, V_th_end, V_th_packed]), (A_th_isNode, zA g 343 th_isNode), (A_th_slots, iA g 301 th_slots)]) (st := []) (st2 := [.int r3]) C cv_X9_isFree tb533 (c_X9_isFree l g A_th A_th_isNode A_th_slots V_th_bases V_th_count V_th_end V_th_packed n1 x2 th_isNode th_slots F r3 hM) rfl 0 rfl rfl ⟨rfl, rfl, by decide, by decide⟩ (Nat.le_of_ble_eq_true rfl) [0, 1, 2] rfl (by decide) rfl rfl dX9_leastBase_15 [some 0, some 1, some 2] (by decide) ⟨⟨rfl, rfl⟩, ⟨⟨rfl, rfl⟩, ⟨⟨rfl, rfl⟩, trivial⟩⟩⟩ rfl ?_
    refine b_if_eq (tgt := 23) C dX9_leastBase_18 (by decide) hm (fun hm => ?_) (fun hm => ?_)
    · refine b_iinc (v2 := x2 + 1) (lv' := [(2, .int (x2 + 1)), (0, .ref A_th), (1, .int n1)]) C dX9_leastBase_23 2 rfl rfl (by decide) rfl ?_
      refine b_goto (tgt := 2) C dX9_leastBase_26 (by decide) ?_
      exact Wb.lv (hc1 (x2 + 1) hm) [1, 2, 0] rfl
    · refine b_iload_n C dX9_leastBase_21 rfl 2 rfl ?_
      cases hm
      exact b_iret C dX9_leastBase_22
/-- BreakLearner$Tree.placeLonger(II)V -/
def m_X9_placeLonger (F : Nat)  (n1 : Int32) (n2 : Int32) (th_end : Int32) (th_bases : (Nat → Int32)) (th_isNode : (Nat → Int32)) (th_slots : (Nat → Int32)) : Option (Int32 × (Nat → Int32) × (Nat → Int32)) :=
  stK 49 th_bases n1 n2 (fun f1 =>
  wl3 (fun (x3 : Int32) (z4 : Int32) (f5 : (Nat → Int32)) c2 =>
    if 6 < x3 then
      some (z4, f1, f5)
    else
      letK ((n1 * 7) + x3) (fun x6 =>
      rdK 343 th_isNode x6 (fun v7 =>
      if v7 = 0 then
        c2 (x3 + 1) z4 f5
      else
        stK 301 f5 (n2 + x3) x6 (fun f8 =>
        letK (imax z4 ((n2 + x3) + 1)) (fun z9 =>
        c2 (x3 + 1) z9 f8
        )
        )
      )
      )
    ) F 1 th_end th_slots
  )
abbrev rmX9_placeLonger : Room := { frames := 1, cells := 0, slots := 0, locals := 21 }
set_option maxHeartbeats 4000000 in
set_option maxRecDepth 100000 in
theorem c_X9_placeLonger (l : Launch) (g : Gl) (A_th A_th_bases A_th_isNode A_th_slots : Nat) (V_th_count V_th_packed : Value)  (n1 : Int32) (n2 : Int32) (th_end : Int32) (th_bases : (Nat → Int32)) (th_isNode : (Nat → Int32)) (th_slots : (Nat → Int32)) (F : Nat) (u : Int32 × (Nat → Int32) × (Nat → Int32)) (hm : m_X9_placeLonger F n1 n2 th_end th_bases th_isNode th_slots = some u) : Ct l g yX9_placeLonger cX9_placeLonger 5 none rmX9_placeLonger [.ref A_th, .int n1, .int n2] [(A_th, oO 8 [.ref A_th_isNode, .ref A_th_bases, .ref A_th_slots, V_th_count, .int th_end, V_th_packed]), (A_th_bases, iA g 49 th_bases), (A_th_isNode, zA g 343 th_isNode), (A_th_slots, iA g 301 th_slots)] none [(A_th, oO 8 [.ref A_th_isNode, .ref A_th_bases, .ref A_th_slots, V_th_count, .int u.1, V_th_packed]), (A_th_bases, iA g 49 u.2.1), (A_th_isNode, zA g 343 th_isNode), (A_th_slots, iA g 301 u.2.2)] := by
  refine ent (own := RX9) (lv := [(0, .ref A_th), (1, .int n1), (2, .int n2)]) (by decide) rfl (Nat.le_of_ble_eq_true rfl) rfl rfl ?_
  intro x C
  unfold m_X9_placeLonger at hm
  refine b_aload_n C dX9_placeLonger_0 rfl 0 rfl ?_
  refine gfX9_15 C 0 rfl rfl dX9_placeLonger_1 ?_
  refine b_iload_n C dX9_placeLonger_4 rfl 1 rfl ?_
  refine b_iload_n C dX9_placeLonger_5 rfl 2 rfl ?_
  refine b_iast C 1 rfl dX9_placeLonger_6 hm (fun f1 hm => Wb.to (w' := [(A_th, oO 8 [.ref A_th_isNode, .ref A_th_bases, .ref A_th_slots, V_th_count, .int th_end, V_th_packed]), (A_th_bases, iA g 49 f1), (A_th_isNode, zA g 343 th_isNode), (A_th_slots, iA g 301 th_slots)]) rfl ?_)
  refine b_iconst (v := 1) C dX9_placeLonger_7 (by decide) ?_
  refine b_istore_n (lv' := [(3, .int 1), (0, .ref A_th), (1, .int n1), (2, .int n2)]) C dX9_placeLonger_8 rfl (by decide) rfl ?_
  refine Wb.lv (lv' := [(0, .ref A_th), (1, .int n1), (2, .int n2), (3, .int 1)]) ?_ [1, 2, 3, 0] rfl
  refine wl3_W (Wg := fun (x3 : Int32) (z4 : Int32) (f5 : (Nat → Int32)) => Wb x [(A_th, oO 8 [.ref A_th_isNode, .ref A_th_bases, .ref A_th_slots, V_th_count, .int z4, V_th_packed]), (A_th_bases, iA g 49 f1), (A_th_isNode, zA g 343 th_isNode), (A_th_slots, iA g 301 f5)] [(0, .ref A_th), (1, .int n1), (2, .int n2), (3, .int x3)] 9 []) ?_ F 1 th_end th_slots hm
  intro x3 z4 f5 c2 hc2 hm
  refine b_iload_n C dX9_placeLonger_9 rfl 3 rfl ?_
  refine b_bipush (v := 6) C dX9_placeLonger_10 (by decide) ?_
  refine b_icmp_gt (tgt := 65) C dX9_placeLonger_12 (by decide) hm (fun hm => ?_) (fun hm => ?_)
  · cases hm
    exact b_vret C dX9_placeLonger_65
  · refine b_iload_n C dX9_placeLonger_15 rfl 1 rfl ?_
    refine b_bipush (v := 7) C dX9_placeLonger_16 (by decide) ?_
    refine b_imul C dX9_placeLonger_18 ?_
    refine b_iload_n C dX9_placeLonger_19 rfl 3 rfl ?_
    refine b_iadd C dX9_placeLonger_20 ?_
    refine b_topi hm (fun x6 hm => ?_)
    refine b_istore (lv' := [(4, .int x6), (0, .ref A_th), (1, .int n1), (2, .int n2), (3, .int x3)]) C dX9_placeLonger_21 (by decide) rfl ?_
    refine b_aload_n C dX9_placeLonger_23 rfl 1 rfl ?_
    refine gfX9_9 C 0 rfl rfl dX9_placeLonger_24 ?_
    refine b_iload C dX9_placeLonger_27 0 rfl ?_
    refine b_zald C 2 rfl dX9_placeLonger_29 hm (fun v7 hm => ?_)
    refine b_if_eq (tgt := 59) C dX9_placeLonger_30 (by decide) hm (fun hm => ?_) (fun hm => ?_)
    · refine b_iinc (v2 := x3 + 1) (lv' := [(3, .int (x3 + 1)), (4, .int x6), (0, .ref A_th), (1, .int n1), (2, .int n2)]) C dX9_placeLonger_59 4 rfl rfl (by decide) rfl ?_
      refine b_goto (tgt := 9) C dX9_placeLonger_62 (by decide) ?_
      exact Wb.lv (hc2 (x3 + 1) z4 f5 hm) [2, 3, 4, 0] rfl
    · refine b_aload_n C dX9_placeLonger_33 rfl 1 rfl ?_
      refine gfX9_19 C 0 rfl rfl dX9_placeLonger_34 ?_
      refine b_iload_n C dX9_placeLonger_37 rfl 3 rfl ?_
      refine b_iload_n C dX9_placeLonger_38 rfl 4 rfl ?_
      refine b_iadd C dX9_placeLonger_39 ?_
      refine b_iload C dX9_placeLonger_40 0 rfl ?_
      refine b_iast C 3 rfl dX9_placeLonger_42 hm (fun f8 hm => Wb.to (w' := [(A_th, oO 8 [.ref A_th_isNode, .ref A_th_bases, .ref A_th_slots, V_th_count, .int z4, V_th_packed]), (A_th_bases, iA g 49 f1), (A_th_isNode, zA g 343 th_isNode), (A_th_slots, iA g 301 f8)]) rfl ?_)
      refine b_aload_n C dX9_placeLonger_43 rfl 1 rfl ?_
      refine b_aload_n C dX9_placeLonger_44 rfl 1 rfl ?_
      refine gfX9_36 C 0 rfl rfl dX9_placeLonger_45 ?_
      refine b_iload_n C dX9_placeLonger_48 rfl 3 rfl ?_
      refine b_iload_n C dX9_placeLonger_49 rfl 4 rfl ?_
      refine b_iadd C dX9_placeLonger_50 ?_
      refine b_iconst (v := 1) C dX9_placeLonger_51 (by decide) ?_
      refine b_iadd C dX9_placeLonger_52 ?_
      refine b_mmax C tb541 tb415 tb73 tb416 (by decide) (Nat.le_of_ble_eq_true rfl) dX9_placeLonger_53 ?_
      refine b_topi hm (fun z9 hm => ?_)
      refine pfX9_36 (w' := [(A_th, oO 8 [.ref A_th_isNode, .ref A_th_bases, .ref A_th_slots, V_th_count, .int z9, V_th_packed]), (A_th_bases, iA g 49 f1), (A_th_isNode, zA g 343 th_isNode), (A_th_slots, iA g 301 f8)]) C rfl rfl 0 rfl (Nat.le_of_ble_eq_true rfl) dX9_placeLonger_56 rfl ?_
      refine b_iinc (v2 := x3 + 1) (lv' := [(3, .int (x3 + 1)), (4, .int x6), (0, .ref A_th), (1, .int n1), (2, .int n2)]) C dX9_placeLonger_59 4 rfl rfl (by decide) rfl ?_
      refine b_goto (tgt := 9) C dX9_placeLonger_62 (by decide) ?_
      exact Wb.lv (hc2 (x3 + 1) z9 f8 hm) [2, 3, 4, 0] rfl
