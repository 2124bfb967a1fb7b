/-- BreakLearner$Tree.packFrom(LBreakLearner$Learning;)V -/
def m_X9_packFrom (F : Nat)   (th_count : Int32) (th_end : Int32) (th_packed : Int32) (th_isNode : (Nat → Int32)) (p1_index_known : Int32) (p1_levels : (Nat → Int32)) (p1_index_codes : (Nat → Int32)) (th_slots : (Nat → Int32)) (th_bases : (Nat → Int32)) : Option (Int32 × Int32 × Int32 × (Nat → Int32) × (Nat → Int32) × (Nat → Int32)) :=
  if th_packed = 0 then
    bK2 (m_X9_takeNodes F th_count th_isNode p1_index_known p1_levels p1_index_codes) (fun z1 f2 =>
    bK1 (m_J7_fill_53178 F 301 0 th_slots) (fun f3 =>
    wl4 (fun (x5 : Int32) (z6 : Int32) (f7 : (Nat → Int32)) (f8 : (Nat → Int32)) c4 =>
      if 49 ≤ x5 then
        some (z1, z6, 1, f2, f7, f8)
      else
        stK 49 f8 x5 (-9) (fun f9 =>
        bK1 (m_X9_hasLonger F x5 f2) (fun r10 =>
        if r10 = 0 then
          c4 (x5 + 1) z6 f7 f9
        else
          bK1 (m_X9_leastBase F x5 f2 f7) (fun r11 =>
          bK3 (m_X9_placeLonger F x5 r11 z6 f9 f2 f7) (fun z12 f13 f14 =>
          c4 (x5 + 1) z12 f14 f13
          )
          )
        )
        )
      ) F 0 0 f3 th_bases
    )
    )
  else
    some (th_count, th_end, th_packed, th_isNode, th_slots, th_bases)
abbrev rmX9_packFrom : Room := { frames := 2, cells := 0, slots := 0, locals := 45 }
set_option maxHeartbeats 4000000 in
set_option maxRecDepth 100000 in
theorem c_X9_packFrom (l : Launch) (g : Gl) (A_th A_p1 A_th_isNode A_p1_index A_p1_levels A_p1_index_codes A_th_slots A_th_bases : Nat) (V_p1_good V_p1_bad V_p1_digits V_p1_index_numbers V_p1_index_fits V_p1_index_starts V_p1_index_signs V_p1_index_size : Value)   (th_count : Int32) (th_end : Int32) (th_packed : Int32) (th_isNode : (Nat → Int32)) (p1_index_known : Int32) (p1_levels : (Nat → Int32)) (p1_index_codes : (Nat → Int32)) (th_slots : (Nat → Int32)) (th_bases : (Nat → Int32)) (F : Nat) (u : Int32 × Int32 × Int32 × (Nat → Int32) × (Nat → Int32) × (Nat → Int32)) (hm : m_X9_packFrom F th_count th_end th_packed th_isNode p1_index_known p1_levels p1_index_codes th_slots th_bases = some u) : Ct l g yX9_packFrom cX9_packFrom 3 none rmX9_packFrom [.ref A_th, .ref A_p1] [(A_th, oO 8 [.ref A_th_isNode, .ref A_th_bases, .ref A_th_slots, .int th_count, .int th_end, .int th_packed]), (A_p1, oO 4 [.ref A_p1_index, .ref A_p1_levels, V_p1_good, V_p1_bad, V_p1_digits]), (A_th_isNode, zA g 343 th_isNode), (A_p1_index, oO 2 [V_p1_index_numbers, .ref A_p1_index_codes, V_p1_index_fits, .int p1_index_known, V_p1_index_starts, V_p1_index_signs, V_p1_index_size]), (A_p1_levels, iA g 270 p1_levels), (A_p1_index_codes, iA g 270 p1_index_codes), (A_th_slots, iA g 301 th_slots), (A_th_bases, iA g 49 th_bases)] none [(A_th, oO 8 [.ref A_th_isNode, .ref A_th_bases, .ref A_th_slots, .int u.1, .int u.2.1, .int u.2.2.1]), (A_p1, oO 4 [.ref A_p1_index, .ref A_p1_levels, V_p1_good, V_p1_bad, V_p1_digits]), (A_th_isNode, zA g 343 u.2.2.2.1), (A_p1_index, oO 2 [V_p1_index_numbers, .ref A_p1_index_codes, V_p1_index_fits, .int p1_index_known, V_p1_index_starts, V_p1_index_signs, V_p1_index_size]), (A_p1_levels, iA g 270 p1_levels), (A_p1_index_codes, iA g 270 p1_index_codes), (A_th_slots, iA g 301 u.2.2.2.2.1), (A_th_bases, iA g 49 u.2.2.2.2.2)] := by
  refine ent (own := RX9) (lv := [(0, .ref A_th), (1, .ref A_p1)]) (by decide) rfl (Nat.le_of_ble_eq_true rfl) rfl rfl ?_
  intro x C
  unfold m_X9_packFrom at hm
  refine b_aload_n C dX9_packFrom_0 rfl 0 rfl ?_
  refine gfX9_22 C 0 rfl rfl dX9_packFrom_1 ?_
  refine b_if_eq (tgt := 8) C dX9_packFrom_4 (by decide) hm (fun hm => ?_) (fun hm => ?_)
  · refine b_aload_n C dX9_packFrom_8 rfl 0 rfl ?_
    refine b_aload_n C dX9_packFrom_9 rfl 1 rfl ?_
    obtain ⟨z1, f2, hM, hm⟩ := bK2_some hm
    refine b_kV (w' := [(A_th, oO 8 [.ref A_th_isNode, .ref A_th_bases, .ref A_th_slots, .int z1, .int th_end, .int th_packed]), (A_p1, oO 4 [.ref A_p1_index, .ref A_p1_levels, V_p1_good, V_p1_bad, V_p1_digits]), (A_th_isNode, zA g 343 f2), (A_p1_index, oO 2 [V_p1_index_numbers, .ref A_p1_index_codes, V_p1_index_fits, .int p1_index_known, V_p1_index_starts, V_p1_index_signs, V_p1_index_size]), (A_p1_levels, iA g 270 p1_levels), (A_p1_index_codes, iA g 270 p1_index_codes), (A_th_slots, iA g 301 th_slots), (A_th_bases, iA g 49 th_bases)]) (st := []) (st2 := []) C cv_X9_takeNodes tb516 (c_X9_takeNodes l g A_th A_p1 A_th_isNode A_p1_index A_p1_levels A_p1_index_codes (.ref A_th_bases) (.ref A_th_slots) (.int th_end) (.int th_packed) V_p1_good V_p1_bad V_p1_digits V_p1_index_numbers V_p1_index_fits V_p1_index_starts V_p1_index_signs V_p1_index_size th_count th_isNode p1_index_known p1_levels p1_index_codes F (z1, f2) hM) rfl 0 rfl rfl ⟨rfl, rfl, by decide, by decide⟩ (Nat.le_of_ble_eq_true rfl) [0, 1, 2, 3, 4, 5] rfl (by decide) rfl rfl dX9_packFrom_10 [some 0, some 1, some 2, some 3, some 4, some 5, none, none] (by decide) ⟨⟨rfl, rfl⟩, ⟨⟨rfl, rfl⟩, ⟨⟨rfl, rfl⟩, ⟨⟨rfl, rfl⟩, ⟨⟨rfl, rfl⟩, ⟨⟨rfl, rfl⟩, ⟨rfl, ⟨rfl, trivial⟩⟩⟩⟩⟩⟩⟩⟩ rfl ?_
    refine b_aload_n C dX9_packFrom_13 rfl 0 rfl ?_
    refine gfX9_19 C 0 rfl rfl dX9_packFrom_14 ?_
    refine b_iconst (v := 0) C dX9_packFrom_17 (by decide) ?_
    obtain ⟨f3, hM, hm⟩ := bK1_some hm
    refine b_kS (w' := [(A_th, oO 8 [.ref A_th_isNode, .ref A_th_bases, .ref A_th_slots, .int z1, .int th_end, .int th_packed]), (A_p1, oO 4 [.ref A_p1_index, .ref A_p1_levels, V_p1_good, V_p1_bad, V_p1_digits]), (A_th_isNode, zA g 343 f2), (A_p1_index, oO 2 [V_p1_index_numbers, .ref A_p1_index_codes, V_p1_index_fits, .int p1_index_known, V_p1_index_starts, V_p1_index_signs, V_p1_index_size]), (A_p1_levels, iA g 270 p1_levels), (A_p1_index_codes, iA g 270 p1_index_codes), (A_th_slots, iA g 301 f3), (A_th_bases, iA g 49 th_bases)]) (st := []) (st2 := []) C cs_J7_fill_53178 tb524 (c_J7_fill_53178 l g A_th_slots 301 0 th_slots F f3 hM) rfl ⟨rfl, rfl, by decide, by decide⟩ (Nat.le_of_ble_eq_true rfl) [6] rfl (by decide) rfl rfl dX9_packFrom_18 [none, none, none, none, none, none, some 0, none] (by decide) ⟨rfl, ⟨rfl, ⟨rfl, ⟨rfl, ⟨rfl, ⟨rfl, ⟨⟨rfl, rfl⟩, ⟨rfl, trivial⟩⟩⟩⟩⟩⟩⟩⟩ rfl ?_
    refine b_aload_n C dX9_packFrom_21 rfl 0 rfl ?_
    refine b_iconst (v := 0) C dX9_packFrom_22 (by decide) ?_
    refine pfX9_36 (w' := [(A_th, oO 8 [.ref A_th_isNode, .ref A_th_bases, .ref A_th_slots, .int z1, .int 0, .int th_packed]), (A_p1, oO 4 [.ref A_p1_index, .ref A_p1_levels, V_p1_good, V_p1_bad, V_p1_digits]), (A_th_isNode, zA g 343 f2), (A_p1_index, oO 2 [V_p1_index_numbers, .ref A_p1_index_codes, V_p1_index_fits, .int p1_index_known, V_p1_index_starts, V_p1_index_signs, V_p1_index_size]), (A_p1_levels, iA g 270 p1_levels), (A_p1_index_codes, iA g 270 p1_index_codes), (A_th_slots, iA g 301 f3), (A_th_bases, iA g 49 th_bases)]) C rfl rfl 0 rfl (Nat.le_of_ble_eq_true rfl) dX9_packFrom_23 rfl ?_
    refine b_iconst (v := 0) C dX9_packFrom_26 (by decide) ?_
    refine b_istore_n (lv' := [(2, .int 0), (0, .ref A_th), (1, .ref A_p1)]) C dX9_packFrom_27 rfl (by decide) rfl ?_
    refine Wb.lv (lv' := [(0, .ref A_th), (2, .int 0)]) ?_ [1, 0] rfl
    refine wl4_W (Wg := fun (x5 : Int32) (z6 : Int32) (f7 : (Nat → Int32)) (f8 : (Nat → Int32)) => Wb x [(A_th, oO 8 [.ref A_th_isNode, .ref A_th_bases, .ref A_th_slots, .int z1, .int z6, .int th_packed]), (A_p1, oO 4 [.ref A_p1_index, .ref A_p1_levels, V_p1_good, V_p1_bad, V_p1_digits]), (A_th_isNode, zA g 343 f2), (A_p1_index, oO 2 [V_p1_index_numbers, .ref A_p1_index_codes, V_p1_index_fits, .int p1_index_known, V_p1_index_starts, V_p1_index_signs, V_p1_index_size]), (A_p1_levels, iA g 270 p1_levels), (A_p1_index_codes, iA g 270 p1_index_codes), (A_th_slots, iA g 301 f7), (A_th_bases, iA g 49 f8)] [(0, .ref A_th), (2, .int x5)] 28 []) ?_ F 0 0 f3 th_bases hm
    intro x5 z6 f7 f8 c4 hc4 hm
    refine b_iload_n C dX9_packFrom_28 rfl 1 rfl ?_
    refine b_bipush (v := 49) C dX9_packFrom_29 (by decide) ?_
    refine b_icmp_ge (tgt := 66) C dX9_packFrom_31 (by decide) hm (fun hm => ?_) (fun hm => ?_)
    · refine b_aload_n C dX9_packFrom_66 rfl 0 rfl ?_
      refine b_iconst (v := 1) C dX9_packFrom_67 (by decide) ?_
      refine pfX9_22 (w' := [(A_th, oO 8 [.ref A_th_isNode, .ref A_th_bases, .ref A_th_slots, .int z1, .int z6, .int 1]), (A_p1, oO 4 [.ref A_p1_index, .ref A_p1_levels, V_p1_good, V_p1_bad, V_p1_digits]), (A_th_isNode, zA g 343 f2), (A_p1_index, oO 2 [V_p1_index_numbers, .ref A_p1_index_codes, V_p1_index_fits, .int p1_index_known, V_p1_index_starts, V_p1_index_signs, V_p1_index_size]), (A_p1_levels, iA g 270 p1_levels), (A_p1_index_codes, iA g 270 p1_index_codes), (A_th_slots, iA g 301 f7), (A_th_bases, iA g 49 f8)]) C (by decide) rfl 0 rfl (Nat.le_of_ble_eq_true rfl) dX9_packFrom_68 rfl ?_
      cases hm
      exact b_vret C dX9_packFrom_71
    · refine b_aload_n C dX9_packFrom_34 rfl 0 rfl ?_
      refine gfX9_15 C 0 rfl rfl dX9_packFrom_35 ?_
      refine b_iload_n C dX9_packFrom_38 rfl 1 rfl ?_
      refine b_bipush (v := (-9)) C dX9_packFrom_39 (by decide) ?_
      refine b_iast C 7 rfl dX9_packFrom_41 hm (fun f9 hm => Wb.to (w' := [(A_th, oO 8 [.ref A_th_isNode, .ref A_th_bases, .ref A_th_slots, .int z1, .int z6, .int th_packed]), (A_p1, oO 4 [.ref A_p1_index, .ref A_p1_levels, V_p1_good, V_p1_bad, V_p1_digits]), (A_th_isNode, zA g 343 f2), (A_p1_index, oO 2 [V_p1_index_numbers, .ref A_p1_index_codes, V_p1_index_fits, .int p1_index_known, V_p1_index_starts, V_p1_index_signs, V_p1_index_size]), (A_p1_levels, iA g 270 p1_levels), (A_p1_index_codes, iA g 270 p1_index_codes), (A_th_slots, iA g 301 f7), (A_th_bases, iA g 49 f9)]) rfl ?_)
      refine b_aload_n C dX9_packFrom_42 rfl 0 rfl ?_
      refine b_iload_n C dX9_packFrom_43 rfl 1 rfl ?_
      obtain ⟨r10, hM, hm⟩ := bK1_some hm
      refine b_kV (w' := [(A_th, oO 8 [.ref A_th_isNode, .ref A_th_bases, .ref A_th_slots, .int z1, .int z6, .int th_packed]), (A_p1, oO 4 [.ref A_p1_index, .ref A_p1_levels, V_p1_good, V_p1_bad, V_p1_digits]), (A_th_isNode, zA g 343 f2), (A_p1_index, oO 2 [V_p1_index_numbers, .ref A_p1_index_codes, V_p1_index_fits, .int p1_index_known, V_p1_index_starts, V_p1_index_signs, V_p1_index_size]), (A_p1_levels, iA g 270 p1_levels), (A_p1_index_codes, iA g 270 p1_index_codes), (A_th_slots, iA g 301 f7), (A_th_bases, iA g 49 f9)]) (st := []) (st2 := [.int r10]) C cv_X9_hasLonger tb525 (c_X9_hasLonger l g A_th A_th_isNode (.ref A_th_bases) (.ref A_th_slots) (.int z1) (.int z6) (.int th_packed) x5 f2 F r10 hM) rfl 0 rfl rfl ⟨rfl, rfl, by decide, by decide⟩ (Nat.le_of_ble_eq_true rfl) [0, 2] rfl (by decide) rfl rfl dX9_packFrom_44 [some 0, none, some 1, none, none, none, none, none] (by decide) ⟨⟨rfl, rfl⟩, ⟨rfl, ⟨⟨rfl, rfl⟩, ⟨rfl, ⟨rfl, ⟨rfl, ⟨rfl, ⟨rfl, trivial⟩⟩⟩⟩⟩⟩⟩⟩ rfl ?_
      refine b_if_eq (tgt := 60) C dX9_packFrom_47 (by decide) hm (fun hm => ?_) (fun hm => ?_)
      · refine b_iinc (v2 := x5 + 1) (lv' := [(2, .int (x5 + 1)), (0, .ref A_th)]) C dX9_packFrom_60 1 rfl rfl (by decide) rfl ?_
        refine b_goto (tgt := 28) C dX9_packFrom_63 (by decide) ?_
        exact Wb.lv (hc4 (x5 + 1) z6 f7 f9 hm) [1, 0] rfl
      · refine b_aload_n C dX9_packFrom_50 rfl 0 rfl ?_
        refine b_iload_n C dX9_packFrom_51 rfl 1 rfl ?_
        refine b_aload_n C dX9_packFrom_52 rfl 0 rfl ?_
        refine b_iload_n C dX9_packFrom_53 rfl 1 rfl ?_
        obtain ⟨r11, hM, hm⟩ := bK1_some hm
        refine b_kV (w' := [(A_th, oO 8 [.ref A_th_isNode, .ref A_th_bases, .ref A_th_slots, .int z1, .int z6, .int th_packed]), (A_p1, oO 4 [.ref A_p1_index, .ref A_p1_levels, V_p1_good, V_p1_bad, V_p1_digits]), (A_th_isNode, zA g 343 f2), (A_p1_index, oO 2 [V_p1_index_numbers, .ref A_p1_index_codes, V_p1_index_fits, .int p1_index_known, V_p1_index_starts, V_p1_index_signs, V_p1_index_size]), (A_p1_levels, iA g 270 p1_levels), (A_p1_index_codes, iA g 270 p1_index_codes), (A_th_slots, iA g 301 f7), (A_th_bases, iA g 49 f9)]) (st := [.int x5, .ref A_th]) (st2 := [.int r11, .int x5, .ref A_th]) C cv_X9_leastBase tb529 (c_X9_leastBase l g A_th A_th_isNode A_th_slots (.ref A_th_bases) (.int z1) (.int z6) (.int th_packed) x5 f2 f7 F r11 hM) rfl 0 rfl rfl ⟨rfl, rfl, by decide, by decide⟩ (Nat.le_of_ble_eq_true rfl) [0, 2, 6] rfl (by decide) rfl rfl dX9_packFrom_54 [some 0, none, some 1, none, none, none, some 2, none] (by decide) ⟨⟨rfl, rfl⟩, ⟨rfl, ⟨⟨rfl, rfl⟩, ⟨rfl, ⟨rfl, ⟨rfl, ⟨⟨rfl, rfl⟩, ⟨rfl, trivial⟩⟩⟩⟩⟩⟩⟩⟩ rfl ?_
        obtain ⟨z12, f13, f14, hM, hm⟩ := bK3_some hm
        refine b_kV (w' := [(A_th, oO 8 [.ref A_th_isNode, .ref A_th_bases, .ref A_th_slots, .int z1, .int z12, .int th_packed]), (A_p1, oO 4 [.ref A_p1_index, .ref A_p1_levels, V_p1_good, V_p1_bad, V_p1_digits]), (A_th_isNode, zA g 343 f2), (A_p1_index, oO 2 [V_p1_index_numbers, .ref A_p1_index_codes, V_p1_index_fits, .int p1_index_known, V_p1_index_starts, V_p1_index_signs, V_p1_index_size]), (A_p1_levels, iA g 270 p1_levels), (A_p1_index_codes, iA g 270 p1_index_codes), (A_th_slots, iA g 301 f14), (A_th_bases, iA g 49 f13)]) (st := []) (st2 := []) C cv_X9_placeLonger tb537 (c_X9_placeLonger l g A_th A_th_bases A_th_isNode A_th_slots (.int z1) (.int th_packed) x5 r11 z6 f9 f2 f7 F (z12, f13, f14) hM) rfl 0 rfl rfl ⟨rfl, rfl, by decide, by decide⟩ (Nat.le_of_ble_eq_true rfl) [0, 7, 2, 6] rfl (by decide) rfl rfl dX9_packFrom_57 [some 0, none, some 2, none, none, none, some 3, some 1] (by decide) ⟨⟨rfl, rfl⟩, ⟨rfl, ⟨⟨rfl, rfl⟩, ⟨rfl, ⟨rfl, ⟨rfl, ⟨⟨rfl, rfl⟩, ⟨⟨rfl, rfl⟩, trivial⟩⟩⟩⟩⟩⟩⟩⟩ rfl ?_
        refine b_iinc (v2 := x5 + 1) (lv' := [(2, .int (x5 + 1)), (0, .ref A_th)]) C dX9_packFrom_60 1 rfl rfl (by decide) rfl ?_
        refine b_goto (tgt := 28) C dX9_packFrom_63 (by decide) ?_
        exact Wb.lv (hc4 (x5 + 1) z12 f14 f13 hm) [1, 0] rfl
  · cases hm
    exact b_vret C dX9_packFrom_7
/-- BreakLearner.packedTree()LBreakLearner$Tree; -/
def m_X10_packedTree (F : Nat)   (th_tree_count : Int32) (th_tree_end : Int32) (th_tree_packed : Int32) (th_tree_isNode : (Nat → Int32)) (th_tree_slots : (Nat → Int32)) (th_tree_bases : (Nat → Int32)) (th_index_known : Int32) (th_learning_levels : (Nat → Int32)) (th_index_codes : (Nat → Int32)) : Option (Int32 × Int32 × Int32 × (Nat → Int32) × (Nat → Int32) × (Nat → Int32)) :=
  bK6 (m_X9_packFrom F th_tree_count th_tree_end th_tree_packed th_tree_isNode th_index_known th_learning_levels th_index_codes th_tree_slots th_tree_bases) (fun z1 z2 z3 f4 f5 f6 =>
  some (z1, z2, z3, f4, f5, f6)
  )
abbrev rmX10_packedTree : Room := { frames := 3, cells := 0, slots := 0, locals := 67 }
set_option maxHeartbeats 4000000 in
set_option maxRecDepth 100000 in
theorem c_X10_packedTree (l : Launch) (g : Gl) (A_th A_th_tree A_th_learning A_th_tree_isNode A_th_tree_slots A_th_tree_bases A_th_index A_th_learning_levels A_th_index_codes : Nat) (V_th_text V_th_stock V_th_index V_th_doings V_th_seen V_th_judging V_th_chances V_th_shelves V_th_onShelf V_th_theSeed V_th_learning_good V_th_learning_bad V_th_learning_digits V_th_index_numbers V_th_index_fits V_th_index_starts V_th_index_signs V_th_index_size : Value)   (th_tree_count : Int32) (th_tree_end : Int32) (th_tree_packed : Int32) (th_tree_isNode : (Nat → Int32)) (th_tree_slots : (Nat → Int32)) (th_tree_bases : (Nat → Int32)) (th_index_known : Int32) (th_learning_levels : (Nat → Int32)) (th_index_codes : (Nat → Int32)) (F : Nat) (u : Int32 × Int32 × Int32 × (Nat → Int32) × (Nat → Int32) × (Nat → Int32)) (hm : m_X10_packedTree F th_tree_count th_tree_end th_tree_packed th_tree_isNode th_tree_slots th_tree_bases th_index_known th_learning_levels th_index_codes = some u) : Ct l g yX10_packedTree cX10_packedTree 1 (some (.object "BreakLearner$Tree")) rmX10_packedTree [.ref A_th] [(A_th, oO 9 [V_th_text, V_th_stock, V_th_index, .ref A_th_learning, V_th_doings, .ref A_th_tree, V_th_seen, V_th_judging, V_th_chances, V_th_shelves, V_th_onShelf, V_th_theSeed]), (A_th_tree, oO 8 [.ref A_th_tree_isNode, .ref A_th_tree_bases, .ref A_th_tree_slots, .int th_tree_count, .int th_tree_end, .int th_tree_packed]), (A_th_learning, oO 4 [.ref A_th_index, .ref A_th_learning_levels, V_th_learning_good, V_th_learning_bad, V_th_learning_digits]), (A_th_tree_isNode, zA g 343 th_tree_isNode), (A_th_tree_slots, iA g 301 th_tree_slots), (A_th_tree_bases, iA g 49 th_tree_bases), (A_th_index, oO 2 [V_th_index_numbers, .ref A_th_index_codes, V_th_index_fits, .int th_index_known, V_th_index_starts, V_th_index_signs, V_th_index_size]), (A_th_learning_levels, iA g 270 th_learning_levels), (A_th_index_codes, iA g 270 th_index_codes)] (some (.ref A_th_tree)) [(A_th, oO 9 [V_th_text, V_th_stock, V_th_index, .ref A_th_learning, V_th_doings, .ref A_th_tree, V_th_seen, V_th_judging, V_th_chances, V_th_shelves, V_th_onShelf, V_th_theSeed]), (A_th_tree, oO 8 [.ref A_th_tree_isNode, .ref A_th_tree_bases, .ref A_th_tree_slots, .int u.1, .int u.2.1, .int u.2.2.1]), (A_th_learning, oO 4 [.ref A_th_index, .ref A_th_learning_levels, V_th_learning_good, V_th_learning_bad, V_th_learning_digits]), (A_th_tree_isNode, zA g 343 u.2.2.2.1), (A_th_tree_slots, iA g 301 u.2.2.2.2.1), (A_th_tree_bases, iA g 49 u.2.2.2.2.2), (A_th_index, oO 2 [V_th_index_numbers, .ref A_th_index_codes, V_th_index_fits, .int th_index_known, V_th_index_starts, V_th_index_signs, V_th_index_size]), (A_th_learning_levels, iA g 270 th_learning_levels), (A_th_index_codes, iA g 270 th_index_codes)] := by
  refine ent (own := RX10) (lv := [(0, .ref A_th)]) (by decide) rfl (Nat.le_of_ble_eq_true rfl) rfl rfl ?_
  intro x C
  unfold m_X10_packedTree at hm
  refine b_aload_n C dX10_packedTree_0 rfl 0 rfl ?_
  refine gfX10_49 C 0 rfl rfl dX10_packedTree_1 ?_
  refine b_aload_n C dX10_packedTree_4 rfl 0 rfl ?_
  refine gfX10_35 C 0 rfl rfl dX10_packedTree_5 ?_
  obtain ⟨z1, z2, z3, f4, f5, f6, hM, hm⟩ := bK6_some hm
  refine b_kV (w' := [(A_th, oO 9 [V_th_text, V_th_stock, V_th_index, .ref A_th_learning, V_th_doings, .ref A_th_tree, V_th_seen, V_th_judging, V_th_chances, V_th_shelves, V_th_onShelf, V_th_theSeed]), (A_th_tree, oO 8 [.ref A_th_tree_isNode, .ref A_th_tree_bases, .ref A_th_tree_slots, .int z1, .int z2, .int z3]), (A_th_learning, oO 4 [.ref A_th_index, .ref A_th_learning_levels, V_th_learning_good, V_th_learning_bad, V_th_learning_digits]), (A_th_tree_isNode, zA g 343 f4), (A_th_tree_slots, iA g 301 f5), (A_th_tree_bases, iA g 49 f6), (A_th_index, oO 2 [V_th_index_numbers, .ref A_th_index_codes, V_th_index_fits, .int th_index_known, V_th_index_starts, V_th_index_signs, V_th_index_size]), (A_th_learning_levels, iA g 270 th_learning_levels), (A_th_index_codes, iA g 270 th_index_codes)]) (st := []) (st2 := []) C cv_X9_packFrom tb512 (c_X9_packFrom l g A_th_tree A_th_learning A_th_tree_isNode A_th_index A_th_learning_levels A_th_index_codes A_th_tree_slots A_th_tree_bases V_th_learning_good V_th_learning_bad V_th_learning_digits V_th_index_numbers V_th_index_fits V_th_index_starts V_th_index_signs V_th_index_size th_tree_count th_tree_end th_tree_packed th_tree_isNode th_index_known th_learning_levels th_index_codes th_tree_slots th_tree_bases F (z1, z2, z3, f4, f5, f6) hM) rfl 1 rfl rfl ⟨rfl, rfl, by decide, by decide⟩ (Nat.le_of_ble_eq_true rfl) [1, 2, 3, 6, 7, 8, 4, 5] rfl (by decide) rfl rfl dX10_packedTree_8 [none, some 0, some 1, some 2, some 6, some 7, some 3, some 4, some 5] (by decide) ⟨rfl, ⟨⟨rfl, rfl⟩, ⟨⟨rfl, rfl⟩, ⟨⟨rfl, rfl⟩, ⟨⟨rfl, rfl⟩, ⟨⟨rfl, rfl⟩, ⟨⟨rfl, rfl⟩, ⟨⟨rfl, rfl⟩, ⟨⟨rfl, rfl⟩, trivial⟩⟩⟩⟩⟩⟩⟩⟩⟩ rfl ?_
  refine b_aload_n C dX10_packedTree_11 rfl 0 rfl ?_
  refine gfX10_49 C 0 rfl rfl dX10_packedTree_12 ?_
  cases hm
  exact b_aret C dX10_packedTree_15
/-- BreakLearner.about(I)I -/
def m_X10_about (F : Nat)  (n1 : Int32) (th_text_length : Int32) (th_seen_count : Int32) (th_doings_count : Int32) (th_tree_count : Int32) (th_tree_end : Int32) (th_tree_packed : Int32) (th_tree_isNode : (Nat → Int32)) (th_tree_slots : (Nat → Int32)) (th_tree_bases : (Nat → Int32)) (th_index_known : Int32) (th_learning_levels : (Nat → Int32)) (th_index_codes : (Nat → Int32)) (th_stock_words : Int32) (th_stock_learnt : Int32) (th_learning_digits : (Nat → Int32)) (th_stock_sizes : (Nat → Int32)) (th_stock_breaks : (Nat → Int32)) : Option (Int32 × Int32 × Int32 × Int32 × (Nat → Int32) × (Nat → Int32) × (Nat → Int32)) :=
  if n1 = 0 then
    some (th_stock_words, th_tree_count, th_tree_end, th_tree_packed, th_tree_isNode, th_tree_slots, th_tree_bases)
  else
    if n1 = 1 then
      bK1 (m_X7_allPlaces F th_stock_words th_stock_sizes) (fun r2 =>
      some (r2, th_tree_count, th_tree_end, th_tree_packed, th_tree_isNode, th_tree_slots, th_tree_bases)
      )
    else
      if n1 = 2 then
        bK1 (m_X5_rightPlaces F th_stock_words th_stock_sizes th_learning_digits th_stock_breaks) (fun r4 =>
        some (r4, th_tree_count, th_tree_end, th_tree_packed, th_tree_isNode, th_tree_slots, th_tree_bases)
        )
      else
        if n1 = 3 then
          some (th_stock_learnt, th_tree_count, th_tree_end, th_tree_packed, th_tree_isNode, th_tree_slots, th_tree_bases)
        else
          if n1 = 4 then
            bK1 (m_X5_countAll F th_index_known th_learning_levels) (fun r7 =>
            some (r7, th_tree_count, th_tree_end, th_tree_packed, th_tree_isNode, th_tree_slots, th_tree_bases)
            )
          else
            if n1 = 5 then
              bK1 (m_X5_wrongWords F th_stock_words th_learning_digits th_stock_sizes th_stock_breaks) (fun r9 =>
              some (r9, th_tree_count, th_tree_end, th_tree_packed, th_tree_isNode, th_tree_slots, th_tree_bases)
              )
            else
              if n1 = 6 then
                bK6 (m_X10_packedTree F th_tree_count th_tree_end th_tree_packed th_tree_isNode th_tree_slots th_tree_bases th_index_known th_learning_levels th_index_codes) (fun z11 z12 z13 f14 f15 f16 =>
                some (z11, z11, z12, z13, f14, f15, f16)
                )
              else
                if n1 = 7 then
                  bK6 (m_X10_packedTree F th_tree_count th_tree_end th_tree_packed th_tree_isNode th_tree_slots th_tree_bases th_index_known th_learning_levels th_index_codes) (fun z18 z19 z20 f21 f22 f23 =>
                  some (z19, z18, z19, z20, f21, f22, f23)
                  )
                else
                  if n1 = 8 then
                    some (th_doings_count, th_tree_count, th_tree_end, th_tree_packed, th_tree_isNode, th_tree_slots, th_tree_bases)
                  else
                    if n1 = 9 then
                      some (th_seen_count, th_tree_count, th_tree_end, th_tree_packed, th_tree_isNode, th_tree_slots, th_tree_bases)
                    else
                      if n1 = 10 then
                        some (th_text_length, th_tree_count, th_tree_end, th_tree_packed, th_tree_isNode, th_tree_slots, th_tree_bases)
                      else
                        some ((-2), th_tree_count, th_tree_end, th_tree_packed, th_tree_isNode, th_tree_slots, th_tree_bases)
abbrev rmX10_about : Room := { frames := 4, cells := 0, slots := 0, locals := 91 }
set_option maxHeartbeats 4000000 in
set_option maxRecDepth 100000 in
theorem c_X10_about (l : Launch) (g : Gl) (A_th A_th_text A_th_seen A_th_doings A_th_tree A_th_learning A_th_tree_isNode A_th_tree_slots A_th_tree_bases A_th_index A_th_learning_levels A_th_index_codes A_th_stock A_th_learning_digits A_th_stock_sizes A_th_stock_breaks : Nat) (V_th_index V_th_judging V_th_chances V_th_shelves V_th_onShelf V_th_theSeed V_th_text_signs V_th_seen_places V_th_seen_digits V_th_seen_hads V_th_doings_kinds V_th_doings_wheres V_th_doings_firsts V_th_doings_seconds V_th_learning_good V_th_learning_bad V_th_index_numbers V_th_index_fits V_th_index_starts V_th_index_signs V_th_index_size V_th_stock_letters V_th_stock_rules V_th_stock_hs : Value)  (n1 : Int32) (th_text_length : Int32) (th_seen_count : Int32) (th_doings_count : Int32) (th_tree_count : Int32) (th_tree_end : Int32) (th_tree_packed : Int32) (th_tree_isNode : (Nat → Int32)) (th_tree_slots : (Nat → Int32)) (th_tree_bases : (Nat → Int32)) (th_index_known : Int32) (th_learning_levels : (Nat → Int32)) (th_index_codes : (Nat → Int32)) (th_stock_words : Int32) (th_stock_learnt : Int32) (th_learning_digits : (Nat → Int32)) (th_stock_sizes : (Nat → Int32)) (th_stock_breaks : (Nat → Int32)) (F : Nat) (u : Int32 × Int32 × Int32 × Int32 × (Nat → Int32) × (Nat → Int32) × (Nat → Int32)) (hm : m_X10_about F n1 th_text_length th_seen_count th_doings_count th_tree_count th_tree_end th_tree_packed th_tree_isNode th_tree_slots th_tree_bases th_index_known th_learning_levels th_index_codes th_stock_words th_stock_learnt th_learning_digits th_stock_sizes th_stock_breaks = some u) : Ct l g yX10_about cX10_about 2 (some .int) rmX10_about [.ref A_th, .int n1] [(A_th, oO 9 [.ref A_th_text, .ref A_th_stock, V_th_index, .ref A_th_learning, .ref A_th_doings, .ref A_th_tree, .ref A_th_seen, V_th_judging, V_th_chances, V_th_shelves, V_th_onShelf, V_th_theSeed]), (A_th_text, oO 7 [V_th_text_signs, .int th_text_length]), (A_th_seen, oO 5 [V_th_seen_places, V_th_seen_digits, V_th_seen_hads, .int th_seen_count]), (A_th_doings, oO 1 [V_th_doings_kinds, V_th_doings_wheres, V_th_doings_firsts, V_th_doings_seconds, .int th_doings_count]), (A_th_tree, oO 8 [.ref A_th_tree_isNode, .ref A_th_tree_bases, .ref A_th_tree_slots, .int th_tree_count, .int th_tree_end, .int th_tree_packed]), (A_th_learning, oO 4 [.ref A_th_index, .ref A_th_learning_levels, V_th_learning_good, V_th_learning_bad, .ref A_th_learning_digits]), (A_th_tree_isNode, zA g 343 th_tree_isNode), (A_th_tree_slots, iA g 301 th_tree_slots), (A_th_tree_bases, iA g 49 th_tree_bases), (A_th_index, oO 2 [V_th_index_numbers, .ref A_th_index_codes, V_th_index_fits, .int th_index_known, V_th_index_starts, V_th_index_signs, V_th_index_size]), (A_th_learning_levels, iA g 270 th_learning_levels), (A_th_index_codes, iA g 270 th_index_codes), (A_th_stock, oO 6 [V_th_stock_letters, .ref A_th_stock_breaks, .ref A_th_stock_sizes, V_th_stock_rules, V_th_stock_hs, .int th_stock_words, .int th_stock_learnt]), (A_th_learning_digits, iA g 30 th_learning_digits), (A_th_stock_sizes, iA g 6 th_stock_sizes), (A_th_stock_breaks, iA g 6 th_stock_breaks)] (some (.int u.1)) [(A_th, oO 9 [.ref A_th_text, .ref A_th_stock, V_th_index, .ref A_th_learning, .ref A_th_doings, .ref A_th_tree, .ref A_th_seen, V_th_judging, V_th_chances, V_th_shelves, V_th_onShelf, V_th_theSeed]), (A_th_text, oO 7 [V_th_text_signs, .int th_text_length]), (A_th_seen, oO 5 [V_th_seen_places, V_th_seen_digits, V_th_seen_hads, .int th_seen_count]), (A_th_doings, oO 1 [V_th_doings_kinds, V_th_doings_wheres, V_th_doings_firsts, V_th_doings_seconds, .int th_doings_count]), (A_th_tree, oO 8 [.ref A_th_tree_isNode, .ref A_th_tree_bases, .ref A_th_tree_slots, .int u.2.1, .int u.2.2.1, .int u.2.2.2.1]), (A_th_learning, oO 4 [.ref A_th_index, .ref A_th_learning_levels, V_th_learning_good, V_th_learning_bad, .ref A_th_learning_digits]), (A_th_tree_isNode, zA g 343 u.2.2.2.2.1), (A_th_tree_slots, iA g 301 u.2.2.2.2.2.1), (A_th_tree_bases, iA g 49 u.2.2.2.2.2.2), (A_th_index, oO 2 [V_th_index_numbers, .ref A_th_index_codes, V_th_index_fits, .int th_index_known, V_th_index_starts, V_th_index_signs, V_th_index_size]), (A_th_learning_levels, iA g 270 th_learning_levels), (A_th_index_codes, iA g 270 th_index_codes), (A_th_stock, oO 6 [V_th_stock_letters, .ref A_th_stock_breaks, .ref A_th_stock_sizes, V_th_stock_rules, V_th_stock_hs, .int th_stock_words, .int th_stock_learnt]), (A_th_learning_digits, iA g 30 th_learning_digits), (A_th_stock_sizes, iA g 6 th_stock_sizes), (A_th_stock_breaks, iA g 6 th_stock_breaks)] := by
  refine ent (own := RX10) (lv := [(0, .ref A_th), (1, .int n1)]) (by decide) rfl (Nat.le_of_ble_eq_true rfl) rfl rfl ?_
  intro x C
  unfold m_X10_about at hm
  refine b_iload_n C dX10_about_0 rfl 1 rfl ?_
  rcases sw_some hm with ⟨h1, hm⟩ | ⟨h1, hm⟩
  · refine b_tin (tgt := 60) C h1 dX10_about_1 (by decide) (by decide) rfl (by decide) ?_
    refine b_aload_n C dX10_about_60 rfl 0 rfl ?_
    refine gfX10_19 C 0 rfl rfl dX10_about_61 ?_
    refine gfX10_113 C 12 rfl rfl dX10_about_64 ?_
    cases hm
    exact b_iret C dX10_about_67
  · rcases sw_some hm with ⟨h3, hm⟩ | ⟨h3, hm⟩
    · refine b_tin (tgt := 68) C h3 dX10_about_1 (by decide) (by decide) rfl (by decide) ?_
      refine b_aload_n C dX10_about_68 rfl 0 rfl ?_
      refine gfX10_19 C 0 rfl rfl dX10_about_69 ?_
      obtain ⟨r2, hM, hm⟩ := bK1_some hm
      refine b_kV (w' := [(A_th, oO 9 [.ref A_th_text, .ref A_th_stock, V_th_index, .ref A_th_learning, .ref A_th_doings, .ref A_th_tree, .ref A_th_seen, V_th_judging, V_th_chances, V_th_shelves, V_th_onShelf, V_th_theSeed]), (A_th_text, oO 7 [V_th_text_signs, .int th_text_length]), (A_th_seen, oO 5 [V_th_seen_places, V_th_seen_digits, V_th_seen_hads, .int th_seen_count]), (A_th_doings, oO 1 [V_th_doings_kinds, V_th_doings_wheres, V_th_doings_firsts, V_th_doings_seconds, .int th_doings_count]), (A_th_tree, oO 8 [.ref A_th_tree_isNode, .ref A_th_tree_bases, .ref A_th_tree_slots, .int th_tree_count, .int th_tree_end, .int th_tree_packed]), (A_th_learning, oO 4 [.ref A_th_index, .ref A_th_learning_levels, V_th_learning_good, V_th_learning_bad, .ref A_th_learning_digits]), (A_th_tree_isNode, zA g 343 th_tree_isNode), (A_th_tree_slots, iA g 301 th_tree_slots), (A_th_tree_bases, iA g 49 th_tree_bases), (A_th_index, oO 2 [V_th_index_numbers, .ref A_th_index_codes, V_th_index_fits, .int th_index_known, V_th_index_starts, V_th_index_signs, V_th_index_size]), (A_th_learning_levels, iA g 270 th_learning_levels), (A_th_index_codes, iA g 270 th_index_codes), (A_th_stock, oO 6 [V_th_stock_letters, .ref A_th_stock_breaks, .ref A_th_stock_sizes, V_th_stock_rules, V_th_stock_hs, .int th_stock_words, .int th_stock_learnt]), (A_th_learning_digits, iA g 30 th_learning_digits), (A_th_stock_sizes, iA g 6 th_stock_sizes), (A_th_stock_breaks, iA g 6 th_stock_breaks)]) (st := []) (st2 := [.int r2]) C cv_X7_allPlaces tb474 (c_X7_allPlaces l g A_th_stock A_th_stock_sizes V_th_stock_letters (.ref A_th_stock_breaks) V_th_stock_rules V_th_stock_hs (.int th_stock_learnt) th_stock_words th_stock_sizes F r2 hM) rfl 12 rfl rfl ⟨rfl, rfl, by decide, by decide⟩ (Nat.le_of_ble_eq_true rfl) [12, 14] rfl (by decide) rfl rfl dX10_about_72 [none, none, none, none, none, none, none, none, none, none, none, none, some 0, none, some 1, none] (by decide) ⟨rfl, ⟨rfl, ⟨rfl, ⟨rfl, ⟨rfl, ⟨rfl, ⟨rfl, ⟨rfl, ⟨rfl, ⟨rfl, ⟨rfl, ⟨rfl, ⟨⟨rfl, rfl⟩, ⟨rfl, ⟨⟨rfl, rfl⟩, ⟨rfl, trivial⟩⟩⟩⟩⟩⟩⟩⟩⟩⟩⟩⟩⟩⟩⟩⟩ rfl ?_
      cases hm
      exact b_iret C dX10_about_75
    · rcases sw_some hm with ⟨h5, hm⟩ | ⟨h5, hm⟩
      · refine b_tin (tgt := 76) C h5 dX10_about_1 (by decide) (by decide) rfl (by decide) ?_
        refine b_aload_n C dX10_about_76 rfl 0 rfl ?_
        refine gfX10_35 C 0 rfl rfl dX10_about_77 ?_
        refine b_aload_n C dX10_about_80 rfl 0 rfl ?_
        refine gfX10_19 C 0 rfl rfl dX10_about_81 ?_
        obtain ⟨r4, hM, hm⟩ := bK1_some hm
        refine b_kV (w' := [(A_th, oO 9 [.ref A_th_text, .ref A_th_stock, V_th_index, .ref A_th_learning, .ref A_th_doings, .ref A_th_tree, .ref A_th_seen, V_th_judging, V_th_chances, V_th_shelves, V_th_onShelf, V_th_theSeed]), (A_th_text, oO 7 [V_th_text_signs, .int th_text_length]), (A_th_seen, oO 5 [V_th_seen_places, V_th_seen_digits, V_th_seen_hads, .int th_seen_count]), (A_th_doings, oO 1 [V_th_doings_kinds, V_th_doings_wheres, V_th_doings_firsts, V_th_doings_seconds, .int th_doings_count]), (A_th_tree, oO 8 [.ref A_th_tree_isNode, .ref A_th_tree_bases, .ref A_th_tree_slots, .int th_tree_count, .int th_tree_end, .int th_tree_packed]), (A_th_learning, oO 4 [.ref A_th_index, .ref A_th_learning_levels, V_th_learning_good, V_th_learning_bad, .ref A_th_learning_digits]), (A_th_tree_isNode, zA g 343 th_tree_isNode), (A_th_tree_slots, iA g 301 th_tree_slots), (A_th_tree_bases, iA g 49 th_tree_bases), (A_th_index, oO 2 [V_th_index_numbers, .ref A_th_index_codes, V_th_index_fits, .int th_index_known, V_th_index_starts, V_th_index_signs, V_th_index_size]), (A_th_learning_levels, iA g 270 th_learning_levels), (A_th_index_codes, iA g 270 th_index_codes), (A_th_stock, oO 6 [V_th_stock_letters, .ref A_th_stock_breaks, .ref A_th_stock_sizes, V_th_stock_rules, V_th_stock_hs, .int th_stock_words, .int th_stock_learnt]), (A_th_learning_digits, iA g 30 th_learning_digits), (A_th_stock_sizes, iA g 6 th_stock_sizes), (A_th_stock_breaks, iA g 6 th_stock_breaks)]) (st := []) (st2 := [.int r4]) C cv_X5_rightPlaces tb478 (c_X5_rightPlaces l g A_th_learning A_th_stock A_th_stock_sizes A_th_learning_digits A_th_stock_breaks (.ref A_th_index) (.ref A_th_learning_levels) V_th_learning_good V_th_learning_bad V_th_stock_letters V_th_stock_rules V_th_stock_hs (.int th_stock_learnt) th_stock_words th_stock_sizes th_learning_digits th_stock_breaks F r4 hM) rfl 5 rfl rfl ⟨rfl, rfl, by decide, by decide⟩ (Nat.le_of_ble_eq_true rfl) [5, 12, 14, 13, 15] rfl (by decide) rfl rfl dX10_about_84 [none, none, none, none, none, some 0, none, none, none, none, none, none, some 1, some 3, some 2, some 4] (by decide) ⟨rfl, ⟨rfl, ⟨rfl, ⟨rfl, ⟨rfl, ⟨⟨rfl, rfl⟩, ⟨rfl, ⟨rfl, ⟨rfl, ⟨rfl, ⟨rfl, ⟨rfl, ⟨⟨rfl, rfl⟩, ⟨⟨rfl, rfl⟩, ⟨⟨rfl, rfl⟩, ⟨⟨rfl, rfl⟩, trivial⟩⟩⟩⟩⟩⟩⟩⟩⟩⟩⟩⟩⟩⟩⟩⟩ rfl ?_
        cases hm
        exact b_iret C dX10_about_87
      · rcases sw_some hm with ⟨h6, hm⟩ | ⟨h6, hm⟩
        · refine b_tin (tgt := 88) C h6 dX10_about_1 (by decide) (by decide) rfl (by decide) ?_
          refine b_aload_n C dX10_about_88 rfl 0 rfl ?_
          refine gfX10_19 C 0 rfl rfl dX10_about_89 ?_
          refine gfX10_104 C 12 rfl rfl dX10_about_92 ?_
          cases hm
          exact b_iret C dX10_about_95
        · rcases sw_some hm with ⟨h8, hm⟩ | ⟨h8, hm⟩
          · refine b_tin (tgt := 96) C h8 dX10_about_1 (by decide) (by decide) rfl (by decide) ?_
            refine b_aload_n C dX10_about_96 rfl 0 rfl ?_
            refine gfX10_35 C 0 rfl rfl dX10_about_97 ?_
            obtain ⟨r7, hM, hm⟩ := bK1_some hm
            refine b_kV (w' := [(A_th, oO 9 [.ref A_th_text, .ref A_th_stock, V_th_index, .ref A_th_learning, .ref A_th_doings, .ref A_th_tree, .ref A_th_seen, V_th_judging, V_th_chances, V_th_shelves, V_th_onShelf, V_th_theSeed]), (A_th_text, oO 7 [V_th_text_signs, .int th_text_length]), (A_th_seen, oO 5 [V_th_seen_places, V_th_seen_digits, V_th_seen_hads, .int th_seen_count]), (A_th_doings, oO 1 [V_th_doings_kinds, V_th_doings_wheres, V_th_doings_firsts, V_th_doings_seconds, .int th_doings_count]), (A_th_tree, oO 8 [.ref A_th_tree_isNode, .ref A_th_tree_bases, .ref A_th_tree_slots, .int th_tree_count, .int th_tree_end, .int th_tree_packed]), (A_th_learning, oO 4 [.ref A_th_index, .ref A_th_learning_levels, V_th_learning_good, V_th_learning_bad, .ref A_th_learning_digits]), (A_th_tree_isNode, zA g 343 th_tree_isNode), (A_th_tree_slots, iA g 301 th_tree_slots), (A_th_tree_bases, iA g 49 th_tree_bases), (A_th_index, oO 2 [V_th_index_numbers, .ref A_th_index_codes, V_th_index_fits, .int th_index_known, V_th_index_starts, V_th_index_signs, V_th_index_size]), (A_th_learning_levels, iA g 270 th_learning_levels), (A_th_index_codes, iA g 270 th_index_codes), (A_th_stock, oO 6 [V_th_stock_letters, .ref A_th_stock_breaks, .ref A_th_stock_sizes, V_th_stock_rules, V_th_stock_hs, .int th_stock_words, .int th_stock_learnt]), (A_th_learning_digits, iA g 30 th_learning_digits), (A_th_stock_sizes, iA g 6 th_stock_sizes), (A_th_stock_breaks, iA g 6 th_stock_breaks)]) (st := []) (st2 := [.int r7]) C cv_X5_countAll tb496 (c_X5_countAll l g A_th_learning A_th_index A_th_learning_levels V_th_learning_good V_th_learning_bad (.ref A_th_learning_digits) V_th_index_numbers (.ref A_th_index_codes) V_th_index_fits V_th_index_starts V_th_index_signs V_th_index_size th_index_known th_learning_levels F r7 hM) rfl 5 rfl rfl ⟨rfl, rfl, by decide, by decide⟩ (Nat.le_of_ble_eq_true rfl) [5, 9, 10] rfl (by decide) rfl rfl dX10_about_100 [none, none, none, none, none, some 0, none, none, none, some 1, some 2, none, none, none, none, none] (by decide) ⟨rfl, ⟨rfl, ⟨rfl, ⟨rfl, ⟨rfl, ⟨⟨rfl, rfl⟩, ⟨rfl, ⟨rfl, ⟨rfl, ⟨⟨rfl, rfl⟩, ⟨⟨rfl, rfl⟩, ⟨rfl, ⟨rfl, ⟨rfl, ⟨rfl, ⟨rfl, trivial⟩⟩⟩⟩⟩⟩⟩⟩⟩⟩⟩⟩⟩⟩⟩⟩ rfl ?_
            cases hm
            exact b_iret C dX10_about_103
          · rcases sw_some hm with ⟨h10, hm⟩ | ⟨h10, hm⟩
            · refine b_tin (tgt := 104) C h10 dX10_about_1 (by decide) (by decide) rfl (by decide) ?_
              refine b_aload_n C dX10_about_104 rfl 0 rfl ?_
              refine gfX10_35 C 0 rfl rfl dX10_about_105 ?_
              refine b_aload_n C dX10_about_108 rfl 0 rfl ?_
              refine gfX10_19 C 0 rfl rfl dX10_about_109 ?_
              obtain ⟨r9, hM, hm⟩ := bK1_some hm
              refine b_kV (w' := [(A_th, oO 9 [.ref A_th_text, .ref A_th_stock, V_th_index, .ref A_th_learning, .ref A_th_doings, .ref A_th_tree, .ref A_th_seen, V_th_judging, V_th_chances, V_th_shelves, V_th_onShelf, V_th_theSeed]), (A_th_text, oO 7 [V_th_text_signs, .int th_text_length]), (A_th_seen, oO 5 [V_th_seen_places, V_th_seen_digits, V_th_seen_hads, .int th_seen_count]), (A_th_doings, oO 1 [V_th_doings_kinds, V_th_doings_wheres, V_th_doings_firsts, V_th_doings_seconds, .int th_doings_count]), (A_th_tree, oO 8 [.ref A_th_tree_isNode, .ref A_th_tree_bases, .ref A_th_tree_slots, .int th_tree_count, .int th_tree_end, .int th_tree_packed]), (A_th_learning, oO 4 [.ref A_th_index, .ref A_th_learning_levels, V_th_learning_good, V_th_learning_bad, .ref A_th_learning_digits]), (A_th_tree_isNode, zA g 343 th_tree_isNode), (A_th_tree_slots, iA g 301 th_tree_slots), (A_th_tree_bases, iA g 49 th_tree_bases), (A_th_index, oO 2 [V_th_index_numbers, .ref A_th_index_codes, V_th_index_fits, .int th_index_known, V_th_index_starts, V_th_index_signs, V_th_index_size]), (A_th_learning_levels, iA g 270 th_learning_levels), (A_th_index_codes, iA g 270 th_index_codes), (A_th_stock, oO 6 [V_th_stock_letters, .ref A_th_stock_breaks, .ref A_th_stock_sizes, V_th_stock_rules, V_th_stock_hs, .int th_stock_words, .int th_stock_learnt]), (A_th_learning_digits, iA g 30 th_learning_digits), (A_th_stock_sizes, iA g 6 th_stock_sizes), (A_th_stock_breaks, iA g 6 th_stock_breaks)]) (st := []) (st2 := [.int r9]) C cv_X5_wrongWords tb504 (c_X5_wrongWords l g A_th_learning A_th_stock A_th_learning_digits A_th_stock_sizes A_th_stock_breaks (.ref A_th_index) (.ref A_th_learning_levels) V_th_learning_good V_th_learning_bad V_th_stock_letters V_th_stock_rules V_th_stock_hs (.int th_stock_learnt) th_stock_words th_learning_digits th_stock_sizes th_stock_breaks F r9 hM) rfl 5 rfl rfl ⟨rfl, rfl, by decide, by decide⟩ (Nat.le_of_ble_eq_true rfl) [5, 12, 13, 14, 15] rfl (by decide) rfl rfl dX10_about_112 [none, none, none, none, none, some 0, none, none, none, none, none, none, some 1, some 2, some 3, some 4] (by decide) ⟨rfl, ⟨rfl, ⟨rfl, ⟨rfl, ⟨rfl, ⟨⟨rfl, rfl⟩, ⟨rfl, ⟨rfl, ⟨rfl, ⟨rfl, ⟨rfl, ⟨rfl, ⟨⟨rfl, rfl⟩, ⟨⟨rfl, rfl⟩, ⟨⟨rfl, rfl⟩, ⟨⟨rfl, rfl⟩, trivial⟩⟩⟩⟩⟩⟩⟩⟩⟩⟩⟩⟩⟩⟩⟩⟩ rfl ?_
              cases hm
              exact b_iret C dX10_about_115
            · rcases sw_some hm with ⟨h17, hm⟩ | ⟨h17, hm⟩
              · refine b_tin (tgt := 116) C h17 dX10_about_1 (by decide) (by decide) rfl (by decide) ?_
                refine b_aload_n C dX10_about_116 rfl 0 rfl ?_
                obtain ⟨z11, z12, z13, f14, f15, f16, hM, hm⟩ := bK6_some hm
                refine b_kV (w' := [(A_th, oO 9 [.ref A_th_text, .ref A_th_stock, V_th_index, .ref A_th_learning, .ref A_th_doings, .ref A_th_tree, .ref A_th_seen, V_th_judging, V_th_chances, V_th_shelves, V_th_onShelf, V_th_theSeed]), (A_th_text, oO 7 [V_th_text_signs, .int th_text_length]), (A_th_seen, oO 5 [V_th_seen_places, V_th_seen_digits, V_th_seen_hads, .int th_seen_count]), (A_th_doings, oO 1 [V_th_doings_kinds, V_th_doings_wheres, V_th_doings_firsts, V_th_doings_seconds, .int th_doings_count]), (A_th_tree, oO 8 [.ref A_th_tree_isNode, .ref A_th_tree_bases, .ref A_th_tree_slots, .int z11, .int z12, .int z13]), (A_th_learning, oO 4 [.ref A_th_index, .ref A_th_learning_levels, V_th_learning_good, V_th_learning_bad, .ref A_th_learning_digits]), (A_th_tree_isNode, zA g 343 f14), (A_th_tree_slots, iA g 301 f15), (A_th_tree_bases, iA g 49 f16), (A_th_index, oO 2 [V_th_index_numbers, .ref A_th_index_codes, V_th_index_fits, .int th_index_known, V_th_index_starts, V_th_index_signs, V_th_index_size]), (A_th_learning_levels, iA g 270 th_learning_levels), (A_th_index_codes, iA g 270 th_index_codes), (A_th_stock, oO 6 [V_th_stock_letters, .ref A_th_stock_breaks, .ref A_th_stock_sizes, V_th_stock_rules, V_th_stock_hs, .int th_stock_words, .int th_stock_learnt]), (A_th_learning_digits, iA g 30 th_learning_digits), (A_th_stock_sizes, iA g 6 th_stock_sizes), (A_th_stock_breaks, iA g 6 th_stock_breaks)]) (st := []) (st2 := [.ref A_th_tree]) C cv_X10_packedTree tb508 (c_X10_packedTree l g A_th A_th_tree A_th_learning A_th_tree_isNode A_th_tree_slots A_th_tree_bases A_th_index A_th_learning_levels A_th_index_codes (.ref A_th_text) (.ref A_th_stock) V_th_index (.ref A_th_doings) (.ref A_th_seen) V_th_judging V_th_chances V_th_shelves V_th_onShelf V_th_theSeed V_th_learning_good V_th_learning_bad (.ref A_th_learning_digits) V_th_index_numbers V_th_index_fits V_th_index_starts V_th_index_signs V_th_index_size th_tree_count th_tree_end th_tree_packed th_tree_isNode th_tree_slots th_tree_bases th_index_known th_learning_levels th_index_codes F (z11, z12, z13, f14, f15, f16) hM) rfl 0 rfl rfl ⟨rfl, rfl, by decide, by decide⟩ (Nat.le_of_ble_eq_true rfl) [0, 4, 5, 6, 7, 8, 9, 10, 11] rfl (by decide) rfl rfl dX10_about_117 [some 0, none, none, none, some 1, some 2, some 3, some 4, some 5, some 6, some 7, some 8, none, none, none, none] (by decide) ⟨⟨rfl, rfl⟩, ⟨rfl, ⟨rfl, ⟨rfl, ⟨⟨rfl, rfl⟩, ⟨⟨rfl, rfl⟩, ⟨⟨rfl, rfl⟩, ⟨⟨rfl, rfl⟩, ⟨⟨rfl, rfl⟩, ⟨⟨rfl, rfl⟩, ⟨⟨rfl, rfl⟩, ⟨⟨rfl, rfl⟩, ⟨rfl, ⟨rfl, ⟨rfl, ⟨rfl, trivial⟩⟩⟩⟩⟩⟩⟩⟩⟩⟩⟩⟩⟩⟩⟩⟩ rfl ?_
                refine gfX10_133 C 4 rfl rfl dX10_about_120 ?_
                cases hm
                exact b_iret C dX10_about_123
              · rcases sw_some hm with ⟨h24, hm⟩ | ⟨h24, hm⟩
                · refine b_tin (tgt := 124) C h24 dX10_about_1 (by decide) (by decide) rfl (by decide) ?_
                  refine b_aload_n C dX10_about_124 rfl 0 rfl ?_
                  obtain ⟨z18, z19, z20, f21, f22, f23, hM, hm⟩ := bK6_some hm
                  refine b_kV (w' := [(A_th, oO 9 [.ref A_th_text, .ref A_th_stock, V_th_index, .ref A_th_learning, .ref A_th_doings, .ref A_th_tree, .ref A_th_seen, V_th_judging, V_th_chances, V_th_shelves, V_th_onShelf, V_th_theSeed]), (A_th_text, oO 7 [V_th_text_signs, .int th_text_length]), (A_th_seen, oO 5 [V_th_seen_places, V_th_seen_digits, V_th_seen_hads, .int th_seen_count]), (A_th_doings, oO 1 [V_th_doings_kinds, V_th_doings_wheres, V_th_doings_firsts, V_th_doings_seconds, .int th_doings_count]), (A_th_tree, oO 8 [.ref A_th_tree_isNode, .ref A_th_tree_bases, .ref A_th_tree_slots, .int z18, .int z19, .int z20]), (A_th_learning, oO 4 [.ref A_th_index, .ref A_th_learning_levels, V_th_learning_good, V_th_learning_bad, .ref A_th_learning_digits]), (A_th_tree_isNode, zA g 343 f21), (A_th_tree_slots, iA g 301 f22), (A_th_tree_bases, iA g 49 f23), (A_th_index, oO 2 [V_th_index_numbers, .ref A_th_index_codes, V_th_index_fits, .int th_index_known, V_th_index_starts, V_th_index_signs, V_th_index_size]), (A_th_learning_levels, iA g 270 th_learning_levels), (A_th_index_codes, iA g 270 th_index_codes), (A_th_stock, oO 6 [V_th_stock_letters, .ref A_th_stock_breaks, .ref A_th_stock_sizes, V_th_stock_rules, V_th_stock_hs, .int th_stock_words, .int th_stock_learnt]), (A_th_learning_digits, iA g 30 th_learning_digits), (A_th_stock_sizes, iA g 6 th_stock_sizes), (A_th_stock_breaks, iA g 6 th_stock_breaks)]) (st := []) (st2 := [.ref A_th_tree]) C cv_X10_packedTree tb508 (c_X10_packedTree l g A_th A_th_tree A_th_learning A_th_tree_isNode A_th_tree_slots A_th_tree_bases A_th_index A_th_learning_levels A_th_index_codes (.ref A_th_text) (.ref A_th_stock) V_th_index (.ref A_th_doings) (.ref A_th_seen) V_th_judging V_th_chances V_th_shelves V_th_onShelf V_th_theSeed V_th_learning_good V_th_learning_bad (.ref A_th_learning_digits) V_th_index_numbers V_th_index_fits V_th_index_starts V_th_index_signs V_th_index_size th_tree_count th_tree_end th_tree_packed th_tree_isNode th_tree_slots th_tree_bases th_index_known th_learning_levels th_index_codes F (z18, z19, z20, f21, f22, f23) hM) rfl 0 rfl rfl ⟨rfl, rfl, by decide, by decide⟩ (Nat.le_of_ble_eq_true rfl) [0, 4, 5, 6, 7, 8, 9, 10, 11] rfl (by decide) rfl rfl dX10_about_125 [some 0, none, none, none, some 1, some 2, some 3, some 4, some 5, some 6, some 7, some 8, none, none, none, none] (by decide) ⟨⟨rfl, rfl⟩, ⟨rfl, ⟨rfl, ⟨rfl, ⟨⟨rfl, rfl⟩, ⟨⟨rfl, rfl⟩, ⟨⟨rfl, rfl⟩, ⟨⟨rfl, rfl⟩, ⟨⟨rfl, rfl⟩, ⟨⟨rfl, rfl⟩, ⟨⟨rfl, rfl⟩, ⟨⟨rfl, rfl⟩, ⟨rfl, ⟨rfl, ⟨rfl, ⟨rfl, trivial⟩⟩⟩⟩⟩⟩⟩⟩⟩⟩⟩⟩⟩⟩⟩⟩ rfl ?_
                  refine gfX10_134 C 4 rfl rfl dX10_about_128 ?_
                  cases hm
                  exact b_iret C dX10_about_131
                · rcases sw_some hm with ⟨h25, hm⟩ | ⟨h25, hm⟩
                  · refine b_tin (tgt := 132) C h25 dX10_about_1 (by decide) (by decide) rfl (by decide) ?_
                    refine b_aload_n C dX10_about_132 rfl 0 rfl ?_
                    refine gfX10_42 C 0 rfl rfl dX10_about_133 ?_
                    refine gfX10_107 C 3 rfl rfl dX10_about_136 ?_
                    cases hm
                    exact b_iret C dX10_about_139
                  · rcases sw_some hm with ⟨h26, hm⟩ | ⟨h26, hm⟩
                    · refine b_tin (tgt := 140) C h26 dX10_about_1 (by decide) (by decide) rfl (by decide) ?_
                      refine b_aload_n C dX10_about_140 rfl 0 rfl ?_
                      refine gfX10_56 C 0 rfl rfl dX10_about_141 ?_
                      refine gfX10_137 C 2 rfl rfl dX10_about_144 ?_
                      cases hm
                      exact b_iret C dX10_about_147
                    · rcases sw_some hm with ⟨h27, hm⟩ | ⟨h27, hm⟩
                      · refine b_tin (tgt := 148) C h27 dX10_about_1 (by decide) (by decide) rfl (by decide) ?_
                        refine b_aload_n C dX10_about_148 rfl 0 rfl ?_
                        refine gfX10_12 C 0 rfl rfl dX10_about_149 ?_
                        refine gfX10_92 C 1 rfl rfl dX10_about_152 ?_
                        cases hm
                        exact b_iret C dX10_about_155
                      · refine b_tout (tgt := 156) C dX10_about_1 (by have := lv_neT h1 (a := 0) (by decide); have := lv_neT h3 (a := 1) (by decide); have := lv_neT h5 (a := 2) (by decide); have := lv_neT h6 (a := 3) (by decide); have := lv_neT h8 (a := 4) (by decide); have := lv_neT h10 (a := 5) (by decide); have := lv_neT h17 (a := 6) (by decide); have := lv_neT h24 (a := 7) (by decide); have := lv_neT h25 (a := 8) (by decide); have := lv_neT h26 (a := 9) (by decide); have := lv_neT h27 (a := 10) (by decide); omega) (by decide) ?_
                        refine b_bipush (v := (-2)) C dX10_about_156 (by decide) ?_
                        cases hm
                        exact b_iret C dX10_about_158
/-- BreakLearner$Stock.hasWord(I)Z -/
def m_X7_hasWord (F : Nat)  (n1 : Int32) (th_words : Int32) : Option (Int32) :=
  if n1 < 0 then
    some 0
  else
    if th_words ≤ n1 then
      some 0
    else
      some 1
abbrev rmX7_hasWord : Room := { frames := 0, cells := 0, slots := 0, locals := 0 }
set_option maxHeartbeats 4000000 in
set_option maxRecDepth 100000 in
theorem c_X7_hasWord (l : Launch) (g : Gl) (A_th : Nat) (V_th_letters V_th_breaks V_th_sizes V_th_rules V_th_hs V_th_learnt : Value)  (n1 : Int32) (th_words : Int32) (F : Nat) (u : Int32) (hm : m_X7_hasWord F n1 th_words = some u) : Ct l g yX7_hasWord cX7_hasWord 2 (some .boolean) rmX7_hasWord [.ref A_th, .int n1] [(A_th, oO 6 [V_th_letters, V_th_breaks, V_th_sizes, V_th_rules, V_th_hs, .int th_words, V_th_learnt])] (some (.int u)) [(A_th, oO 6 [V_th_letters, V_th_breaks, V_th_sizes, V_th_rules, V_th_hs, .int th_words, V_th_learnt])] := by
  refine ent (own := RX7) (lv := [(0, .ref A_th), (1, .int n1)]) (by decide) rfl (Nat.le_of_ble_eq_true rfl) rfl rfl ?_
  intro x C
  unfold m_X7_hasWord at hm
  refine b_iload_n C dX7_hasWord_0 rfl 1 rfl ?_
  refine b_if_lt (tgt := 16) C dX7_hasWord_1 (by decide) hm (fun hm => ?_) (fun hm => ?_)
  · refine b_iconst (v := 0) C dX7_hasWord_16 (by decide) ?_
    cases hm
    exact b_zret (v := 0) C (by decide) dX7_hasWord_17
  · refine b_iload_n C dX7_hasWord_4 rfl 1 rfl ?_
    refine b_aload_n C dX7_hasWord_5 rfl 0 rfl ?_
    refine gfX7_39 C 0 rfl rfl dX7_hasWord_6 ?_
    refine b_icmp_ge (tgt := 16) C dX7_hasWord_9 (by decide) hm (fun hm => ?_) (fun hm => ?_)
    · refine b_iconst (v := 0) C dX7_hasWord_16 (by decide) ?_
      cases hm
      exact b_zret (v := 0) C (by decide) dX7_hasWord_17
    · refine b_iconst (v := 1) C dX7_hasWord_12 (by decide) ?_
      refine b_goto (tgt := 17) C dX7_hasWord_13 (by decide) ?_
      cases hm
      exact b_zret (v := 1) C (by decide) dX7_hasWord_17
/-- BreakLearner.word(II)I -/
def m_X10_word (F : Nat)  (n1 : Int32) (n2 : Int32) (th_stock_words : Int32) (th_learning_digits : (Nat → Int32)) (th_stock_sizes : (Nat → Int32)) (th_stock_breaks : (Nat → Int32)) (th_stock_letters : (Nat → Int32)) : Option (Int32) :=
  bK1 (m_X7_hasWord F n1 th_stock_words) (fun r1 =>
  if r1 = 0 then
    some (-1)
  else
    if n2 = 0 then
      rdK 6 th_stock_letters n1 (fun v2 =>
      some v2
      )
    else
      if n2 = 1 then
        rdK 6 th_stock_breaks n1 (fun v4 =>
        some v4
        )
      else
        if n2 = 2 then
          bK1 (m_X5_brokenPlaces F n1 th_stock_sizes th_learning_digits) (fun r6 =>
          some r6
          )
        else
          some (-2)
  )
abbrev rmX10_word : Room := { frames := 2, cells := 0, slots := 0, locals := 46 }
set_option maxHeartbeats 4000000 in
set_option maxRecDepth 100000 in
theorem c_X10_word (l : Launch) (g : Gl) (A_th A_th_stock A_th_learning A_th_learning_digits A_th_stock_sizes A_th_stock_breaks A_th_stock_letters : Nat) (V_th_text V_th_index V_th_doings V_th_tree V_th_seen V_th_judging V_th_chances V_th_shelves V_th_onShelf V_th_theSeed V_th_stock_rules V_th_stock_hs V_th_stock_learnt V_th_learning_index V_th_learning_levels V_th_learning_good V_th_learning_bad : Value)  (n1 : Int32) (n2 : Int32) (th_stock_words : Int32) (th_learning_digits : (Nat → Int32)) (th_stock_sizes : (Nat → Int32)) (th_stock_breaks : (Nat → Int32)) (th_stock_letters : (Nat → Int32)) (F : Nat) (u : Int32) (hm : m_X10_word F n1 n2 th_stock_words th_learning_digits th_stock_sizes th_stock_breaks th_stock_letters = some u) : Ct l g yX10_word cX10_word 3 (some .int) rmX10_word [.ref A_th, .int n1, .int n2] [(A_th, oO 9 [V_th_text, .ref A_th_stock, V_th_index, .ref A_th_learning, V_th_doings, V_th_tree, V_th_seen, V_th_judging, V_th_chances, V_th_shelves, V_th_onShelf, V_th_theSeed]), (A_th_stock, oO 6 [.ref A_th_stock_letters, .ref A_th_stock_breaks, .ref A_th_stock_sizes, V_th_stock_rules, V_th_stock_hs, .int th_stock_words, V_th_stock_learnt]), (A_th_learning, oO 4 [V_th_learning_index, V_th_learning_levels, V_th_learning_good, V_th_learning_bad, .ref A_th_learning_digits]), (A_th_learning_digits, iA g 30 th_learning_digits), (A_th_stock_sizes, iA g 6 th_stock_sizes), (A_th_stock_breaks, iA g 6 th_stock_breaks), (A_th_stock_letters, iA g 6 th_stock_letters)] (some (.int u)) [(A_th, oO 9 [V_th_text, .ref A_th_stock, V_th_index, .ref A_th_learning, V_th_doings, V_th_tree, V_th_seen, V_th_judging, V_th_chances, V_th_shelves, V_th_onShelf, V_th_theSeed]), (A_th_stock, oO 6 [.ref A_th_stock_letters, .ref A_th_stock_breaks, .ref A_th_stock_sizes, V_th_stock_rules, V_th_stock_hs, .int th_stock_words, V_th_stock_learnt]), (A_th_learning, oO 4 [V_th_learning_index, V_th_learning_levels, V_th_learning_good, V_th_learning_bad, .ref A_th_learning_digits]), (A_th_learning_digits, iA g 30 th_learning_digits), (A_th_stock_sizes, iA g 6 th_stock_sizes), (A_th_stock_breaks, iA g 6 th_stock_breaks), (A_th_stock_letters, iA g 6 th_stock_letters)] := by
  refine ent (own := RX10) (lv := [(0, .ref A_th), (1, .int n1), (2, .int n2)]) (by decide) rfl (Nat.le_of_ble_eq_true rfl) rfl rfl ?_
  intro x C
  unfold m_X10_word at hm
  refine b_aload_n C dX10_word_0 rfl 0 rfl ?_
  refine gfX10_19 C 0 rfl rfl dX10_word_1 ?_
  refine b_iload_n C dX10_word_4 rfl 1 rfl ?_
  obtain ⟨r1, hM, hm⟩ := bK1_some hm
  refine b_kV (w' := [(A_th, oO 9 [V_th_text, .ref A_th_stock, V_th_index, .ref A_th_learning, V_th_doings, V_th_tree, V_th_seen, V_th_judging, V_th_chances, V_th_shelves, V_th_onShelf, V_th_theSeed]), (A_th_stock, oO 6 [.ref A_th_stock_letters, .ref A_th_stock_breaks, .ref A_th_stock_sizes, V_th_stock_rules, V_th_stock_hs, .int th_stock_words, V_th_stock_learnt]), (A_th_learning, oO 4 [V_th_learning_index, V_th_learning_levels, V_th_learning_good, V_th_learning_bad, .ref A_th_learning_digits]), (A_th_learning_digits, iA g 30 th_learning_digits), (A_th_stock_sizes, iA g 6 th_stock_sizes), (A_th_stock_breaks, iA g 6 th_stock_breaks), (A_th_stock_letters, iA g 6 th_stock_letters)]) (st := []) (st2 := [.int r1]) C cv_X7_hasWord tb546 (c_X7_hasWord l g A_th_stock (.ref A_th_stock_letters) (.ref A_th_stock_breaks) (.ref A_th_stock_sizes) V_th_stock_rules V_th_stock_hs V_th_stock_learnt n1 th_stock_words F r1 hM) rfl 1 rfl rfl ⟨rfl, rfl, by decide, by decide⟩ (Nat.le_of_ble_eq_true rfl) [1] rfl (by decide) rfl rfl dX10_word_5 [none, some 0, none, none, none, none, none] (by decide) ⟨rfl, ⟨⟨rfl, rfl⟩, ⟨rfl, ⟨rfl, ⟨rfl, ⟨rfl, ⟨rfl, trivial⟩⟩⟩⟩⟩⟩⟩ rfl ?_
  refine b_if_ne (tgt := 13) C dX10_word_8 (by decide) hm (fun hm => ?_) (fun hm => ?_)
  · refine b_iload_n C dX10_word_13 rfl 2 rfl ?_
    rcases sw_some hm with ⟨h3, hm⟩ | ⟨h3, hm⟩
    · refine b_tin (tgt := 40) C h3 dX10_word_14 (by decide) (by decide) rfl (by decide) ?_
      refine b_aload_n C dX10_word_40 rfl 0 rfl ?_
      refine gfX10_19 C 0 rfl rfl dX10_word_41 ?_
      refine gfX10_141 C 1 rfl rfl dX10_word_44 ?_
      refine b_iload_n C dX10_word_47 rfl 1 rfl ?_
      refine b_iald C 6 rfl dX10_word_48 hm (fun v2 hm => ?_)
      cases hm
      exact b_iret C dX10_word_49
    · rcases sw_some hm with ⟨h5, hm⟩ | ⟨h5, hm⟩
      · refine b_tin (tgt := 50) C h5 dX10_word_14 (by decide) (by decide) rfl (by decide) ?_
        refine b_aload_n C dX10_word_50 rfl 0 rfl ?_
        refine gfX10_19 C 0 rfl rfl dX10_word_51 ?_
        refine gfX10_145 C 1 rfl rfl dX10_word_54 ?_
        refine b_iload_n C dX10_word_57 rfl 1 rfl ?_
        refine b_iald C 5 rfl dX10_word_58 hm (fun v4 hm => ?_)
        cases hm
        exact b_iret C dX10_word_59
      · rcases sw_some hm with ⟨h7, hm⟩ | ⟨h7, hm⟩
        · refine b_tin (tgt := 60) C h7 dX10_word_14 (by decide) (by decide) rfl (by decide) ?_
          refine b_aload_n C dX10_word_60 rfl 0 rfl ?_
          refine gfX10_35 C 0 rfl rfl dX10_word_61 ?_
          refine b_aload_n C dX10_word_64 rfl 0 rfl ?_
          refine gfX10_19 C 0 rfl rfl dX10_word_65 ?_
          refine b_iload_n C dX10_word_68 rfl 1 rfl ?_
          obtain ⟨r6, hM, hm⟩ := bK1_some hm
          refine b_kV (w' := [(A_th, oO 9 [V_th_text, .ref A_th_stock, V_th_index, .ref A_th_learning, V_th_doings, V_th_tree, V_th_seen, V_th_judging, V_th_chances, V_th_shelves, V_th_onShelf, V_th_theSeed]), (A_th_stock, oO 6 [.ref A_th_stock_letters, .ref A_th_stock_breaks, .ref A_th_stock_sizes, V_th_stock_rules, V_th_stock_hs, .int th_stock_words, V_th_stock_learnt]), (A_th_learning, oO 4 [V_th_learning_index, V_th_learning_levels, V_th_learning_good, V_th_learning_bad, .ref A_th_learning_digits]), (A_th_learning_digits, iA g 30 th_learning_digits), (A_th_stock_sizes, iA g 6 th_stock_sizes), (A_th_stock_breaks, iA g 6 th_stock_breaks), (A_th_stock_letters, iA g 6 th_stock_letters)]) (st := []) (st2 := [.int r6]) C cv_X5_brokenPlaces tb550 (c_X5_brokenPlaces l g A_th_learning A_th_stock A_th_stock_sizes A_th_learning_digits V_th_learning_index V_th_learning_levels V_th_learning_good V_th_learning_bad (.ref A_th_stock_letters) (.ref A_th_stock_breaks) V_th_stock_rules V_th_stock_hs (.int th_stock_words) V_th_stock_learnt n1 th_stock_sizes th_learning_digits F r6 hM) rfl 2 rfl rfl ⟨rfl, rfl, by decide, by decide⟩ (Nat.le_of_ble_eq_true rfl) [2, 1, 4, 3] rfl (by decide) rfl rfl dX10_word_69 [none, some 1, some 0, some 3, some 2, none, none] (by decide) ⟨rfl, ⟨⟨rfl, rfl⟩, ⟨⟨rfl, rfl⟩, ⟨⟨rfl, rfl⟩, ⟨⟨rfl, rfl⟩, ⟨rfl, ⟨rfl, trivial⟩⟩⟩⟩⟩⟩⟩ rfl ?_
          cases hm
          exact b_iret C dX10_word_72
        · refine b_tout (tgt := 73) C dX10_word_14 (by have := lv_neT h3 (a := 0) (by decide); have := lv_neT h5 (a := 1) (by decide); have := lv_neT h7 (a := 2) (by decide); omega) (by decide) ?_
          refine b_bipush (v := (-2)) C dX10_word_73 (by decide) ?_
          cases hm
          exact b_iret C dX10_word_75
  · refine b_iconst (v := (-1)) C dX10_word_11 (by decide) ?_
    cases hm
    exact b_iret C dX10_word_12
/-- BreakLearner$Stock.hasPlace(II)Z -/
def m_X7_hasPlace (F : Nat)  (n1 : Int32) (n2 : Int32) (th_words : Int32) (th_sizes : (Nat → Int32)) : Option (Int32) :=
  bK1 (m_X7_hasWord F n1 th_words) (fun r1 =>
  if r1 = 0 then
    some 0
  else
    if n2 < 0 then
      some 0
    else
      rdK 6 th_sizes n1 (fun v2 =>
      if (v2 - 1) ≤ n2 then
        some 0
      else
        some 1
      )
  )
abbrev rmX7_hasPlace : Room := { frames := 1, cells := 0, slots := 0, locals := 21 }
set_option maxHeartbeats 4000000 in
set_option maxRecDepth 100000 in
theorem c_X7_hasPlace (l : Launch) (g : Gl) (A_th A_th_sizes : Nat) (V_th_letters V_th_breaks V_th_rules V_th_hs V_th_learnt : Value)  (n1 : Int32) (n2 : Int32) (th_words : Int32) (th_sizes : (Nat → Int32)) (F : Nat) (u : Int32) (hm : m_X7_hasPlace F n1 n2 th_words th_sizes = some u) : Ct l g yX7_hasPlace cX7_hasPlace 3 (some .boolean) rmX7_hasPlace [.ref A_th, .int n1, .int n2] [(A_th, oO 6 [V_th_letters, V_th_breaks, .ref A_th_sizes, V_th_rules, V_th_hs, .int th_words, V_th_learnt]), (A_th_sizes, iA g 6 th_sizes)] (some (.int u)) [(A_th, oO 6 [V_th_letters, V_th_breaks, .ref A_th_sizes, V_th_rules, V_th_hs, .int th_words, V_th_learnt]), (A_th_sizes, iA g 6 th_sizes)] := by
  refine ent (own := RX7) (lv := [(0, .ref A_th), (1, .int n1), (2, .int n2)]) (by decide) rfl (Nat.le_of_ble_eq_true rfl) rfl rfl ?_
  intro x C
  unfold m_X7_hasPlace at hm
  refine b_aload_n C dX7_hasPlace_0 rfl 0 rfl ?_
  refine b_iload_n C dX7_hasPlace_1 rfl 1 rfl ?_
  obtain ⟨r1, hM, hm⟩ := bK1_some hm
  refine b_kV (w' := [(A_th, oO 6 [V_th_letters, V_th_breaks, .ref A_th_sizes, V_th_rules, V_th_hs, .int th_words, V_th_learnt]), (A_th_sizes, iA g 6 th_sizes)]) (st := []) (st2 := [.int r1]) C cv_X7_hasWord tb559 (c_X7_hasWord l g A_th V_th_letters V_th_breaks (.ref A_th_sizes) V_th_rules V_th_hs V_th_learnt n1 th_words F r1 hM) rfl 0 rfl rfl ⟨rfl, rfl, by decide, by decide⟩ (Nat.le_of_ble_eq_true rfl) [0] rfl (by decide) rfl rfl dX7_hasPlace_2 [some 0, none] (by decide) ⟨⟨rfl, rfl⟩, ⟨rfl, trivial⟩⟩ rfl ?_
  refine b_if_eq (tgt := 28) C dX7_hasPlace_5 (by decide) hm (fun hm => ?_) (fun hm => ?_)
  · refine b_iconst (v := 0) C dX7_hasPlace_28 (by decide) ?_
    cases hm
    exact b_zret (v := 0) C (by decide) dX7_hasPlace_29
  · refine b_iload_n C dX7_hasPlace_8 rfl 2 rfl ?_
    refine b_if_lt (tgt := 28) C dX7_hasPlace_9 (by decide) hm (fun hm => ?_) (fun hm => ?_)
    · refine b_iconst (v := 0) C dX7_hasPlace_28 (by decide) ?_
      cases hm
      exact b_zret (v := 0) C (by decide) dX7_hasPlace_29
    · refine b_iload_n C dX7_hasPlace_12 rfl 2 rfl ?_
      refine b_aload_n C dX7_hasPlace_13 rfl 0 rfl ?_
      refine gfX7_18 C 0 rfl rfl dX7_hasPlace_14 ?_
      refine b_iload_n C dX7_hasPlace_17 rfl 1 rfl ?_
      refine b_iald C 1 rfl dX7_hasPlace_18 hm (fun v2 hm => ?_)
      refine b_iconst (v := 1) C dX7_hasPlace_19 (by decide) ?_
      refine b_isub C dX7_hasPlace_20 ?_
      refine b_icmp_ge (tgt := 28) C dX7_hasPlace_21 (by decide) hm (fun hm => ?_) (fun hm => ?_)
      · refine b_iconst (v := 0) C dX7_hasPlace_28 (by decide) ?_
        cases hm
        exact b_zret (v := 0) C (by decide) dX7_hasPlace_29
      · refine b_iconst (v := 1) C dX7_hasPlace_24 (by decide) ?_
        refine b_goto (tgt := 29) C dX7_hasPlace_25 (by decide) ?_
        cases hm
        exact b_zret (v := 1) C (by decide) dX7_hasPlace_29
/-- BreakLearner.digit(II)I -/
def m_X10_digit (F : Nat)  (n1 : Int32) (n2 : Int32) (th_stock_words : Int32) (th_stock_sizes : (Nat → Int32)) (th_learning_digits : (Nat → Int32)) : Option (Int32) :=
  bK1 (m_X7_hasPlace F n1 n2 th_stock_words th_stock_sizes) (fun r1 =>
  if r1 = 0 then
    some (-1)
  else
    bK1 (m_X5_digitOf F n1 n2 th_learning_digits) (fun r2 =>
    some r2
    )
  )
abbrev rmX10_digit : Room := { frames := 2, cells := 0, slots := 0, locals := 43 }
set_option maxHeartbeats 4000000 in
set_option maxRecDepth 100000 in
theorem c_X10_digit (l : Launch) (g : Gl) (A_th A_th_stock A_th_stock_sizes A_th_learning A_th_learning_digits : Nat) (V_th_text V_th_index V_th_doings V_th_tree V_th_seen V_th_judging V_th_chances V_th_shelves V_th_onShelf V_th_theSeed V_th_stock_letters V_th_stock_breaks V_th_stock_rules V_th_stock_hs V_th_stock_learnt V_th_learning_index V_th_learning_levels V_th_learning_good V_th_learning_bad : Value)  (n1 : Int32) (n2 : Int32) (th_stock_words : Int32) (th_stock_sizes : (Nat → Int32)) (th_learning_digits : (Nat → Int32)) (F : Nat) (u : Int32) (hm : m_X10_digit F n1 n2 th_stock_words th_stock_sizes th_learning_digits = some u) : Ct l g yX10_digit cX10_digit 3 (some .int) rmX10_digit [.ref A_th, .int n1, .int n2] [(A_th, oO 9 [V_th_text, .ref A_th_stock, V_th_index, .ref A_th_learning, V_th_doings, V_th_tree, V_th_seen, V_th_judging, V_th_chances, V_th_shelves, V_th_onShelf, V_th_theSeed]), (A_th_stock, oO 6 [V_th_stock_letters, V_th_stock_breaks, .ref A_th_stock_sizes, V_th_stock_rules, V_th_stock_hs, .int th_stock_words, V_th_stock_learnt]), (A_th_stock_sizes, iA g 6 th_stock_sizes), (A_th_learning, oO 4 [V_th_learning_index, V_th_learning_levels, V_th_learning_good, V_th_learning_bad, .ref A_th_learning_digits]), (A_th_learning_digits, iA g 30 th_learning_digits)] (some (.int u)) [(A_th, oO 9 [V_th_text, .ref A_th_stock, V_th_index, .ref A_th_learning, V_th_doings, V_th_tree, V_th_seen, V_th_judging, V_th_chances, V_th_shelves, V_th_onShelf, V_th_theSeed]), (A_th_stock, oO 6 [V_th_stock_letters, V_th_stock_breaks, .ref A_th_stock_sizes, V_th_stock_rules, V_th_stock_hs, .int th_stock_words, V_th_stock_learnt]), (A_th_stock_sizes, iA g 6 th_stock_sizes), (A_th_learning, oO 4 [V_th_learning_index, V_th_learning_levels, V_th_learning_good, V_th_learning_bad, .ref A_th_learning_digits]), (A_th_learning_digits, iA g 30 th_learning_digits)] := by
  refine ent (own := RX10) (lv := [(0, .ref A_th), (1, .int n1), (2, .int n2)]) (by decide) rfl (Nat.le_of_ble_eq_true rfl) rfl rfl ?_
  intro x C
  unfold m_X10_digit at hm
  refine b_aload_n C dX10_digit_0 rfl 0 rfl ?_
  refine gfX10_19 C 0 rfl rfl dX10_digit_1 ?_
  refine b_iload_n C dX10_digit_4 rfl 1 rfl ?_
  refine b_iload_n C dX10_digit_5 rfl 2 rfl ?_
  obtain ⟨r1, hM, hm⟩ := bK1_some hm
  refine b_kV (w' := [(A_th, oO 9 [V_th_text, .ref A_th_stock, V_th_index, .ref A_th_learning, V_th_doings, V_th_tree, V_th_seen, V_th_judging, V_th_chances, V_th_shelves, V_th_onShelf, V_th_theSeed]), (A_th_stock, oO 6 [V_th_stock_letters, V_th_stock_breaks, .ref A_th_stock_sizes, V_th_stock_rules, V_th_stock_hs, .int th_stock_words, V_th_stock_learnt]), (A_th_stock_sizes, iA g 6 th_stock_sizes), (A_th_learning, oO 4 [V_th_learning_index, V_th_learning_levels, V_th_learning_good, V_th_learning_bad, .ref A_th_learning_digits]), (A_th_learning_digits, iA g 30 th_learning_digits)]) (st := []) (st2 := [.int r1]) C cv_X7_hasPlace tb555 (c_X7_hasPlace l g A_th_stock A_th_stock_sizes V_th_stock_letters V_th_stock_breaks V_th_stock_rules V_th_stock_hs V_th_stock_learnt n1 n2 th_stock_words th_stock_sizes F r1 hM) rfl 1 rfl rfl ⟨rfl, rfl, by decide, by decide⟩ (Nat.le_of_ble_eq_true rfl) [1, 2] rfl (by decide) rfl rfl dX10_digit_6 [none, some 0, some 1, none, none] (by decide) ⟨rfl, ⟨⟨rfl, rfl⟩, ⟨⟨rfl, rfl⟩, ⟨rfl, ⟨rfl, trivial⟩⟩⟩⟩⟩ rfl ?_
  refine b_if_eq (tgt := 24) C dX10_digit_9 (by decide) hm (fun hm => ?_) (fun hm => ?_)
  · refine b_iconst (v := (-1)) C dX10_digit_24 (by decide) ?_
    cases hm
    exact b_iret C dX10_digit_25
  · refine b_aload_n C dX10_digit_12 rfl 0 rfl ?_
    refine gfX10_35 C 0 rfl rfl dX10_digit_13 ?_
    refine b_iload_n C dX10_digit_16 rfl 1 rfl ?_
    refine b_iload_n C dX10_digit_17 rfl 2 rfl ?_
    obtain ⟨r2, hM, hm⟩ := bK1_some hm
    refine b_kV (w' := [(A_th, oO 9 [V_th_text, .ref A_th_stock, V_th_index, .ref A_th_learning, V_th_doings, V_th_tree, V_th_seen, V_th_judging, V_th_chances, V_th_shelves, V_th_onShelf, V_th_theSeed]), (A_th_stock, oO 6 [V_th_stock_letters, V_th_stock_breaks, .ref A_th_stock_sizes, V_th_stock_rules, V_th_stock_hs, .int th_stock_words, V_th_stock_learnt]), (A_th_stock_sizes, iA g 6 th_stock_sizes), (A_th_learning, oO 4 [V_th_learning_index, V_th_learning_levels, V_th_learning_good, V_th_learning_bad, .ref A_th_learning_digits]), (A_th_learning_digits, iA g 30 th_learning_digits)]) (st := []) (st2 := [.int r2]) C cv_X5_digitOf tb560 (c_X5_digitOf l g A_th_learning A_th_learning_digits V_th_learning_index V_th_learning_levels V_th_learning_good V_th_learning_bad n1 n2 th_learning_digits F r2 hM) rfl 3 rfl rfl ⟨rfl, rfl, by decide, by decide⟩ (Nat.le_of_ble_eq_true rfl) [3, 4] rfl (by decide) rfl rfl dX10_digit_18 [none, none, none, some 0, some 1] (by decide) ⟨rfl, ⟨rfl, ⟨rfl, ⟨⟨rfl, rfl⟩, ⟨⟨rfl, rfl⟩, trivial⟩⟩⟩⟩⟩ rfl ?_
    refine b_goto (tgt := 25) C dX10_digit_21 (by decide) ?_
    cases hm
    exact b_iret C dX10_digit_25
/-- BreakLearner.isLevel(I)Z -/
def m_X10_isLevel (F : Nat)  (n1 : Int32)  : Option (Int32) :=
  if n1 < 1 then
    some 0
  else
    if 4 < n1 then
      some 0
    else
      some 1
abbrev rmX10_isLevel : Room := { frames := 0, cells := 0, slots := 0, locals := 0 }
set_option maxHeartbeats 4000000 in
set_option maxRecDepth 100000 in
theorem c_X10_isLevel (l : Launch) (g : Gl)  (n1 : Int32)  (F : Nat) (u : Int32) (hm : m_X10_isLevel F n1 = some u) : Ct l g yX10_isLevel cX10_isLevel 1 (some .boolean) rmX10_isLevel [.int n1] [] (some (.int u)) [] := by
  refine ent (own := RX10) (lv := [(0, .int n1)]) (by decide) rfl (Nat.le_of_ble_eq_true rfl) rfl rfl ?_
  intro x C
  unfold m_X10_isLevel at hm
  refine b_iload_n C dX10_isLevel_0 rfl 0 rfl ?_
  refine b_iconst (v := 1) C dX10_isLevel_1 (by decide) ?_
  refine b_icmp_lt (tgt := 14) C dX10_isLevel_2 (by decide) hm (fun hm => ?_) (fun hm => ?_)
  · refine b_iconst (v := 0) C dX10_isLevel_14 (by decide) ?_
    cases hm
    exact b_zret (v := 0) C (by decide) dX10_isLevel_15
  · refine b_iload_n C dX10_isLevel_5 rfl 0 rfl ?_
    refine b_iconst (v := 4) C dX10_isLevel_6 (by decide) ?_
    refine b_icmp_gt (tgt := 14) C dX10_isLevel_7 (by decide) hm (fun hm => ?_) (fun hm => ?_)
    · refine b_iconst (v := 0) C dX10_isLevel_14 (by decide) ?_
      cases hm
      exact b_zret (v := 0) C (by decide) dX10_isLevel_15
    · refine b_iconst (v := 1) C dX10_isLevel_10 (by decide) ?_
      refine b_goto (tgt := 15) C dX10_isLevel_11 (by decide) ?_
      cases hm
      exact b_zret (v := 1) C (by decide) dX10_isLevel_15
/-- BreakLearner.level(II)I -/
def m_X10_level (F : Nat)  (n1 : Int32) (n2 : Int32) (th_index_known : Int32) (th_learning_levels : (Nat → Int32)) (th_stock_hs : (Nat → Int32)) (th_stock_rules : (Nat → Int32)) : Option (Int32) :=
  bK1 (m_X10_isLevel F n1) (fun r1 =>
  if r1 = 0 then
    some (-1)
  else
    if n2 = 0 then
      rdK 5 th_stock_rules n1 (fun v2 =>
      some v2
      )
    else
      if n2 = 1 then
        rdK 5 th_stock_hs n1 (fun v4 =>
        some v4
        )
      else
        if n2 = 2 then
          bK1 (m_X5_countOf F n1 th_index_known th_learning_levels) (fun r6 =>
          some r6
          )
        else
          some (-2)
  )
abbrev rmX10_level : Room := { frames := 1, cells := 0, slots := 0, locals := 23 }
set_option maxHeartbeats 4000000 in
set_option maxRecDepth 100000 in
theorem c_X10_level (l : Launch) (g : Gl) (A_th A_th_learning A_th_index A_th_learning_levels A_th_stock A_th_stock_hs A_th_stock_rules : Nat) (V_th_text V_th_index V_th_doings V_th_tree V_th_seen V_th_judging V_th_chances V_th_shelves V_th_onShelf V_th_theSeed V_th_learning_good V_th_learning_bad V_th_learning_digits V_th_index_numbers V_th_index_codes V_th_index_fits V_th_index_starts V_th_index_signs V_th_index_size V_th_stock_letters V_th_stock_breaks V_th_stock_sizes V_th_stock_words V_th_stock_learnt : Value)  (n1 : Int32) (n2 : Int32) (th_index_known : Int32) (th_learning_levels : (Nat → Int32)) (th_stock_hs : (Nat → Int32)) (th_stock_rules : (Nat → Int32)) (F : Nat) (u : Int32) (hm : m_X10_level F n1 n2 th_index_known th_learning_levels th_stock_hs th_stock_rules = some u) : Ct l g yX10_level cX10_level 3 (some .int) rmX10_level [.ref A_th, .int n1, .int n2] [(A_th, oO 9 [V_th_text, .ref A_th_stock, V_th_index, .ref A_th_learning, V_th_doings, V_th_tree, V_th_seen, V_th_judging, V_th_chances, V_th_shelves, V_th_onShelf, V_th_theSeed]), (A_th_learning, oO 4 [.ref A_th_index, .ref A_th_learning_levels, V_th_learning_good, V_th_learning_bad, V_th_learning_digits]), (A_th_index, oO 2 [V_th_index_numbers, V_th_index_codes, V_th_index_fits, .int th_index_known, V_th_index_starts, V_th_index_signs, V_th_index_size]), (A_th_learning_levels, iA g 270 th_learning_levels), (A_th_stock, oO 6 [V_th_stock_letters, V_th_stock_breaks, V_th_stock_sizes, .ref A_th_stock_rules, .ref A_th_stock_hs, V_th_stock_words, V_th_stock_learnt]), (A_th_stock_hs, iA g 5 th_stock_hs), (A_th_stock_rules, iA g 5 th_stock_rules)] (some (.int u)) [(A_th, oO 9 [V_th_text, .ref A_th_stock, V_th_index, .ref A_th_learning, V_th_doings, V_th_tree, V_th_seen, V_th_judging, V_th_chances, V_th_shelves, V_th_onShelf, V_th_theSeed]), (A_th_learning, oO 4 [.ref A_th_index, .ref A_th_learning_levels, V_th_learning_good, V_th_learning_bad, V_th_learning_digits]), (A_th_index, oO 2 [V_th_index_numbers, V_th_index_codes, V_th_index_fits, .int th_index_known, V_th_index_starts, V_th_index_signs, V_th_index_size]), (A_th_learning_levels, iA g 270 th_learning_levels), (A_th_stock, oO 6 [V_th_stock_letters, V_th_stock_breaks, V_th_stock_sizes, .ref A_th_stock_rules, .ref A_th_stock_hs, V_th_stock_words, V_th_stock_learnt]), (A_th_stock_hs, iA g 5 th_stock_hs), (A_th_stock_rules, iA g 5 th_stock_rules)] := by
  refine ent (own := RX10) (lv := [(0, .ref A_th), (1, .int n1), (2, .int n2)]) (by decide) rfl (Nat.le_of_ble_eq_true rfl) rfl rfl ?_
  intro x C
  unfold m_X10_level at hm
  refine b_iload_n C dX10_level_0 rfl 1 rfl ?_
  obtain ⟨r1, hM, hm⟩ := bK1_some hm
  refine b_kS (w' := [(A_th, oO 9 [V_th_text, .ref A_th_stock, V_th_index, .ref A_th_learning, V_th_doings, V_th_tree, V_th_seen, V_th_judging, V_th_chances, V_th_shelves, V_th_onShelf, V_th_theSeed]), (A_th_learning, oO 4 [.ref A_th_index, .ref A_th_learning_levels, V_th_learning_good, V_th_learning_bad, V_th_learning_digits]), (A_th_index, oO 2 [V_th_index_numbers, V_th_index_codes, V_th_index_fits, .int th_index_known, V_th_index_starts, V_th_index_signs, V_th_index_size]), (A_th_learning_levels, iA g 270 th_learning_levels), (A_th_stock, oO 6 [V_th_stock_letters, V_th_stock_breaks, V_th_stock_sizes, .ref A_th_stock_rules, .ref A_th_stock_hs, V_th_stock_words, V_th_stock_learnt]), (A_th_stock_hs, iA g 5 th_stock_hs), (A_th_stock_rules, iA g 5 th_stock_rules)]) (st := []) (st2 := [.int r1]) C cs_X10_isLevel tb565 (c_X10_isLevel l g n1 F r1 hM) rfl ⟨rfl, rfl, by decide, by decide⟩ (Nat.le_of_ble_eq_true rfl) [] rfl (by decide) rfl rfl dX10_level_1 [none, none, none, none, none, none, none] (by decide) ⟨rfl, ⟨rfl, ⟨rfl, ⟨rfl, ⟨rfl, ⟨rfl, ⟨rfl, trivial⟩⟩⟩⟩⟩⟩⟩ rfl ?_
  refine b_if_ne (tgt := 9) C dX10_level_4 (by decide) hm (fun hm => ?_) (fun hm => ?_)
  · refine b_iload_n C dX10_level_9 rfl 2 rfl ?_
    rcases sw_some hm with ⟨h3, hm⟩ | ⟨h3, hm⟩
    · refine b_tin (tgt := 36) C h3 dX10_level_10 (by decide) (by decide) rfl (by decide) ?_
      refine b_aload_n C dX10_level_36 rfl 0 rfl ?_
      refine gfX10_19 C 0 rfl rfl dX10_level_37 ?_
      refine gfX10_163 C 4 rfl rfl dX10_level_40 ?_
      refine b_iload_n C dX10_level_43 rfl 1 rfl ?_
      refine b_iald C 6 rfl dX10_level_44 hm (fun v2 hm => ?_)
      cases hm
      exact b_iret C dX10_level_45
    · rcases sw_some hm with ⟨h5, hm⟩ | ⟨h5, hm⟩
      · refine b_tin (tgt := 46) C h5 dX10_level_10 (by decide) (by decide) rfl (by decide) ?_
        refine b_aload_n C dX10_level_46 rfl 0 rfl ?_
        refine gfX10_19 C 0 rfl rfl dX10_level_47 ?_
        refine gfX10_166 C 4 rfl rfl dX10_level_50 ?_
        refine b_iload_n C dX10_level_53 rfl 1 rfl ?_
        refine b_iald C 5 rfl dX10_level_54 hm (fun v4 hm => ?_)
        cases hm
        exact b_iret C dX10_level_55
      · rcases sw_some hm with ⟨h7, hm⟩ | ⟨h7, hm⟩
        · refine b_tin (tgt := 56) C h7 dX10_level_10 (by decide) (by decide) rfl (by decide) ?_
          refine b_aload_n C dX10_level_56 rfl 0 rfl ?_
          refine gfX10_35 C 0 rfl rfl dX10_level_57 ?_
          refine b_iload_n C dX10_level_60 rfl 1 rfl ?_
          obtain ⟨r6, hM, hm⟩ := bK1_some hm
          refine b_kV (w' := [(A_th, oO 9 [V_th_text, .ref A_th_stock, V_th_index, .ref A_th_learning, V_th_doings, V_th_tree, V_th_seen, V_th_judging, V_th_chances, V_th_shelves, V_th_onShelf, V_th_theSeed]), (A_th_learning, oO 4 [.ref A_th_index, .ref A_th_learning_levels, V_th_learning_good, V_th_learning_bad, V_th_learning_digits]), (A_th_index, oO 2 [V_th_index_numbers, V_th_index_codes, V_th_index_fits, .int th_index_known, V_th_index_starts, V_th_index_signs, V_th_index_size]), (A_th_learning_levels, iA g 270 th_learning_levels), (A_th_stock, oO 6 [V_th_stock_letters, V_th_stock_breaks, V_th_stock_sizes, .ref A_th_stock_rules, .ref A_th_stock_hs, V_th_stock_words, V_th_stock_learnt]), (A_th_stock_hs, iA g 5 th_stock_hs), (A_th_stock_rules, iA g 5 th_stock_rules)]) (st := []) (st2 := [.int r6]) C cv_X5_countOf tb568 (c_X5_countOf l g A_th_learning A_th_index A_th_learning_levels V_th_learning_good V_th_learning_bad V_th_learning_digits V_th_index_numbers V_th_index_codes V_th_index_fits V_th_index_starts V_th_index_signs V_th_index_size n1 th_index_known th_learning_levels F r6 hM) rfl 1 rfl rfl ⟨rfl, rfl, by decide, by decide⟩ (Nat.le_of_ble_eq_true rfl) [1, 2, 3] rfl (by decide) rfl rfl dX10_level_61 [none, some 0, some 1, some 2, none, none, none] (by decide) ⟨rfl, ⟨⟨rfl, rfl⟩, ⟨⟨rfl, rfl⟩, ⟨⟨rfl, rfl⟩, ⟨rfl, ⟨rfl, ⟨rfl, trivial⟩⟩⟩⟩⟩⟩⟩ rfl ?_
          cases hm
          exact b_iret C dX10_level_64
        · refine b_tout (tgt := 65) C dX10_level_10 (by have := lv_neT h3 (a := 0) (by decide); have := lv_neT h5 (a := 1) (by decide); have := lv_neT h7 (a := 2) (by decide); omega) (by decide) ?_
          refine b_bipush (v := (-2)) C dX10_level_65 (by decide) ?_
          cases hm
          exact b_iret C dX10_level_67
  · refine b_iconst (v := (-1)) C dX10_level_7 (by decide) ?_
    cases hm
    exact b_iret C dX10_level_8
/-- BreakLearner$Figures.nodeOf(I)I -/
def m_X2_nodeOf (F : Nat)  (n1 : Int32)  : Option (Int32) :=
  if n1 < 1 then
    some (-1)
  else
    if n1 ≤ 666 then
      wl4 (fun (x2 : Int32) (x3 : Int32) (x4 : Int32) (x5 : Int32) c1 =>
        if 3 ≤ x5 then
          some x2
        else
          if x3 ≤ 0 then
            some x2
          else
            letK (irm x3 10) (fun x6 =>
            if x6 < 1 then
              some (-1)
            else
              if x6 ≤ 6 then
                letK (x2 + (x6 * x4)) (fun x7 =>
                letK (x4 * 7) (fun x8 =>
                letK (x3 / 10) (fun x9 =>
                c1 x7 x9 x8 (x5 + 1)
                )
                )
                )
              else
                some (-1)
            )
        ) F 0 n1 1 0
    else
      some (-1)
abbrev rmX2_nodeOf : Room := { frames := 0, cells := 0, slots := 0, locals := 0 }
set_option maxHeartbeats 4000000 in
set_option maxRecDepth 100000 in
theorem c_X2_nodeOf (l : Launch) (g : Gl)  (n1 : Int32)  (F : Nat) (u : Int32) (hm : m_X2_nodeOf F n1 = some u) : Ct l g yX2_nodeOf cX2_nodeOf 6 (some .int) rmX2_nodeOf [.int n1] [] (some (.int u)) [] := by
  refine ent (own := RX2) (lv := [(0, .int n1)]) (by decide) rfl (Nat.le_of_ble_eq_true rfl) rfl rfl ?_
  intro x C
  unfold m_X2_nodeOf at hm
  refine b_iload_n C dX2_nodeOf_0 rfl 0 rfl ?_
  refine b_iconst (v := 1) C dX2_nodeOf_1 (by decide) ?_
  refine b_icmp_lt (tgt := 12) C dX2_nodeOf_2 (by decide) hm (fun hm => ?_) (fun hm => ?_)
  · refine b_iconst (v := (-1)) C dX2_nodeOf_12 (by decide) ?_
    cases hm
    exact b_iret C dX2_nodeOf_13
  · refine b_iload_n C dX2_nodeOf_5 rfl 0 rfl ?_
    refine b_sipush (v := 666) C dX2_nodeOf_6 (by decide) ?_
    refine b_icmp_le (tgt := 14) C dX2_nodeOf_9 (by decide) hm (fun hm => ?_) (fun hm => ?_)
    · refine b_iconst (v := 0) C dX2_nodeOf_14 (by decide) ?_
      refine b_istore_n (lv' := [(1, .int 0), (0, .int n1)]) C dX2_nodeOf_15 rfl (by decide) rfl ?_
      refine b_iload_n C dX2_nodeOf_16 rfl 1 rfl ?_
      refine b_istore_n (lv' := [(2, .int n1), (1, .int 0), (0, .int n1)]) C dX2_nodeOf_17 rfl (by decide) rfl ?_
      refine b_iconst (v := 1) C dX2_nodeOf_18 (by decide) ?_
      refine b_istore_n (lv' := [(3, .int 1), (2, .int n1), (1, .int 0), (0, .int n1)]) C dX2_nodeOf_19 rfl (by decide) rfl ?_
      refine b_iconst (v := 0) C dX2_nodeOf_20 (by decide) ?_
      refine b_istore (lv' := [(4, .int 0), (3, .int 1), (2, .int n1), (1, .int 0), (0, .int n1)]) C dX2_nodeOf_21 (by decide) rfl ?_
      refine Wb.lv (lv' := [(1, .int 0), (2, .int n1), (3, .int 1), (4, .int 0)]) ?_ [3, 2, 1, 0] rfl
      refine wl4_W (Wg := fun (x2 : Int32) (x3 : Int32) (x4 : Int32) (x5 : Int32) => Wb x [] [(1, .int x2), (2, .int x3), (3, .int x4), (4, .int x5)] 23 []) ?_ F 0 n1 1 0 hm
      intro x2 x3 x4 x5 c1 hc1 hm
      refine b_iload C dX2_nodeOf_23 3 rfl ?_
      refine b_iconst (v := 3) C dX2_nodeOf_25 (by decide) ?_
      refine b_icmp_ge (tgt := 77) C dX2_nodeOf_26 (by decide) hm (fun hm => ?_) (fun hm => ?_)
      · refine b_iload_n C dX2_nodeOf_77 rfl 0 rfl ?_
        cases hm
        exact b_iret C dX2_nodeOf_78
      · refine b_iload_n C dX2_nodeOf_29 rfl 1 rfl ?_
        refine b_if_le (tgt := 77) C dX2_nodeOf_30 (by decide) hm (fun hm => ?_) (fun hm => ?_)
        · refine b_iload_n C dX2_nodeOf_77 rfl 0 rfl ?_
          cases hm
          exact b_iret C dX2_nodeOf_78
        · refine b_iload_n C dX2_nodeOf_33 rfl 1 rfl ?_
          refine b_bipush (v := 10) C dX2_nodeOf_34 (by decide) ?_
          refine b_irem C dX2_nodeOf_36 (by decide) ?_
          refine b_topi hm (fun x6 hm => ?_)
          refine b_istore (lv' := [(5, .int x6), (1, .int x2), (2, .int x3), (3, .int x4), (4, .int x5)]) C dX2_nodeOf_37 (by decide) rfl ?_
          refine b_iload C dX2_nodeOf_39 0 rfl ?_
          refine b_iconst (v := 1) C dX2_nodeOf_41 (by decide) ?_
          refine b_icmp_lt (tgt := 52) C dX2_nodeOf_42 (by decide) hm (fun hm => ?_) (fun hm => ?_)
          · refine b_iconst (v := (-1)) C dX2_nodeOf_52 (by decide) ?_
            cases hm
            exact b_iret C dX2_nodeOf_53
          · refine b_iload C dX2_nodeOf_45 0 rfl ?_
            refine b_bipush (v := 6) C dX2_nodeOf_47 (by decide) ?_
            refine b_icmp_le (tgt := 54) C dX2_nodeOf_49 (by decide) hm (fun hm => ?_) (fun hm => ?_)
            · refine b_iload_n C dX2_nodeOf_54 rfl 1 rfl ?_
              refine b_iload C dX2_nodeOf_55 0 rfl ?_
              refine b_iload_n C dX2_nodeOf_57 rfl 3 rfl ?_
              refine b_imul C dX2_nodeOf_58 ?_
              refine b_iadd C dX2_nodeOf_59 ?_
              refine b_topi hm (fun x7 hm => ?_)
              refine b_istore_n (lv' := [(1, .int x7), (5, .int x6), (2, .int x3), (3, .int x4), (4, .int x5)]) C dX2_nodeOf_60 rfl (by decide) rfl ?_
              refine b_iload_n C dX2_nodeOf_61 rfl 3 rfl ?_
              refine b_bipush (v := 7) C dX2_nodeOf_62 (by decide) ?_
              refine b_imul C dX2_nodeOf_64 ?_
              refine b_topi hm (fun x8 hm => ?_)
              refine b_istore_n (lv' := [(3, .int x8), (1, .int x7), (5, .int x6), (2, .int x3), (4, .int x5)]) C dX2_nodeOf_65 rfl (by decide) rfl ?_
              refine b_iload_n C dX2_nodeOf_66 rfl 3 rfl ?_
              refine b_bipush (v := 10) C dX2_nodeOf_67 (by decide) ?_
              refine b_idiv C dX2_nodeOf_69 (by decide) ?_
              refine b_topi hm (fun x9 hm => ?_)
              refine b_istore_n (lv' := [(2, .int x9), (3, .int x8), (1, .int x7), (5, .int x6), (4, .int x5)]) C dX2_nodeOf_70 rfl (by decide) rfl ?_
              refine b_iinc (v2 := x5 + 1) (lv' := [(4, .int (x5 + 1)), (2, .int x9), (3, .int x8), (1, .int x7), (5, .int x6)]) C dX2_nodeOf_71 4 rfl rfl (by decide) rfl ?_
              refine b_goto (tgt := 23) C dX2_nodeOf_74 (by decide) ?_
              exact Wb.lv (hc1 x7 x9 x8 (x5 + 1) hm) [3, 1, 2, 0] rfl
            · refine b_iconst (v := (-1)) C dX2_nodeOf_52 (by decide) ?_
              cases hm
              exact b_iret C dX2_nodeOf_53
    · refine b_iconst (v := (-1)) C dX2_nodeOf_12 (by decide) ?_
      cases hm
      exact b_iret C dX2_nodeOf_13
/-- BreakLearner$Figures.isString(I)Z -/
def m_X2_isString (F : Nat)  (n1 : Int32)  : Option (Int32) :=
  if n1 < 1 then
    some 0
  else
    if n1 = 6 then
      some 0
    else
      if n1 = 48 then
        some 0
      else
        jn0 (
          some 1
          ) (fun k1 =>
          if n1 < 49 then
            k1
          else
            if (irm (n1 / 7) 7) = 6 then
              some 0
            else
              k1
          )
abbrev rmX2_isString : Room := { frames := 0, cells := 0, slots := 0, locals := 0 }
set_option maxHeartbeats 4000000 in
set_option maxRecDepth 100000 in
theorem c_X2_isString (l : Launch) (g : Gl)  (n1 : Int32)  (F : Nat) (u : Int32) (hm : m_X2_isString F n1 = some u) : Ct l g yX2_isString cX2_isString 1 (some .boolean) rmX2_isString [.int n1] [] (some (.int u)) [] := by
  refine ent (own := RX2) (lv := [(0, .int n1)]) (by decide) rfl (Nat.le_of_ble_eq_true rfl) rfl rfl ?_
  intro x C
  unfold m_X2_isString at hm
  refine b_iload_n C dX2_isString_0 rfl 0 rfl ?_
  refine b_iconst (v := 1) C dX2_isString_1 (by decide) ?_
  refine b_icmp_lt (tgt := 17) C dX2_isString_2 (by decide) hm (fun hm => ?_) (fun hm => ?_)
  · refine b_iconst (v := 0) C dX2_isString_17 (by decide) ?_
    cases hm
    exact b_zret (v := 0) C (by decide) dX2_isString_18
  · refine b_iload_n C dX2_isString_5 rfl 0 rfl ?_
    refine b_bipush (v := 6) C dX2_isString_6 (by decide) ?_
    refine b_icmp_eq (tgt := 17) C dX2_isString_8 (by decide) hm (fun hm => ?_) (fun hm => ?_)
    · refine b_iconst (v := 0) C dX2_isString_17 (by decide) ?_
      cases hm
      exact b_zret (v := 0) C (by decide) dX2_isString_18
    · refine b_iload_n C dX2_isString_11 rfl 0 rfl ?_
      refine b_bipush (v := 48) C dX2_isString_12 (by decide) ?_
      refine b_icmp_ne (tgt := 19) C dX2_isString_14 (by decide) hm (fun hm => ?_) (fun hm => ?_)
      · refine b_iload_n C dX2_isString_19 rfl 0 rfl ?_
        refine b_bipush (v := 49) C dX2_isString_20 (by decide) ?_
        obtain ⟨k1, hk1, hm⟩ := jn0_some hm
        have jk1 : k1  = some u → Wb x [] [] 37 [] := by
          intro  hm
          have hm := hk1 hm
          refine b_iconst (v := 1) C dX2_isString_37 (by decide) ?_
          refine b_goto (tgt := 42) C dX2_isString_38 (by decide) ?_
          cases hm
          exact b_zret (v := 1) C (by decide) dX2_isString_42
        refine b_icmp_lt (tgt := 37) C dX2_isString_22 (by decide) hm (fun hm => ?_) (fun hm => ?_)
        · exact Wb.lv (jk1  hm) [] rfl
        · refine b_iload_n C dX2_isString_25 rfl 0 rfl ?_
          refine b_bipush (v := 7) C dX2_isString_26 (by decide) ?_
          refine b_idiv C dX2_isString_28 (by decide) ?_
          refine b_bipush (v := 7) C dX2_isString_29 (by decide) ?_
          refine b_irem C dX2_isString_31 (by decide) ?_
          refine b_bipush (v := 6) C dX2_isString_32 (by decide) ?_
          refine b_icmp_eq (tgt := 41) C dX2_isString_34 (by decide) hm (fun hm => ?_) (fun hm => ?_)
          · refine b_iconst (v := 0) C dX2_isString_41 (by decide) ?_
            cases hm
            exact b_zret (v := 0) C (by decide) dX2_isString_42
          · exact Wb.lv (jk1  hm) [] rfl
      · refine b_iconst (v := 0) C dX2_isString_17 (by decide) ?_
        cases hm
        exact b_zret (v := 0) C (by decide) dX2_isString_18
/-- BreakLearner$Figures.signsOf(I)I -/
def m_X2_signsOf (F : Nat)  (n1 : Int32)  : Option (Int32) :=
  if n1 < 49 then
    if n1 < 7 then
      some 1
    else
      some 2
  else
    some 3
abbrev rmX2_signsOf : Room := { frames := 0, cells := 0, slots := 0, locals := 0 }
set_option maxHeartbeats 4000000 in
set_option maxRecDepth 100000 in
theorem c_X2_signsOf (l : Launch) (g : Gl)  (n1 : Int32)  (F : Nat) (u : Int32) (hm : m_X2_signsOf F n1 = some u) : Ct l g yX2_signsOf cX2_signsOf 1 (some .int) rmX2_signsOf [.int n1] [] (some (.int u)) [] := by
  refine ent (own := RX2) (lv := [(0, .int n1)]) (by decide) rfl (Nat.le_of_ble_eq_true rfl) rfl rfl ?_
  intro x C
  unfold m_X2_signsOf at hm
  refine b_iload_n C dX2_signsOf_0 rfl 0 rfl ?_
  refine b_bipush (v := 49) C dX2_signsOf_1 (by decide) ?_
  refine b_icmp_lt (tgt := 8) C dX2_signsOf_3 (by decide) hm (fun hm => ?_) (fun hm => ?_)
  · refine b_iload_n C dX2_signsOf_8 rfl 0 rfl ?_
    refine b_bipush (v := 7) C dX2_signsOf_9 (by decide) ?_
    refine b_icmp_lt (tgt := 18) C dX2_signsOf_11 (by decide) hm (fun hm => ?_) (fun hm => ?_)
    · refine b_iconst (v := 1) C dX2_signsOf_18 (by decide) ?_
      cases hm
      exact b_iret C dX2_signsOf_19
    · refine b_iconst (v := 2) C dX2_signsOf_14 (by decide) ?_
      refine b_goto (tgt := 19) C dX2_signsOf_15 (by decide) ?_
      cases hm
      exact b_iret C dX2_signsOf_19
  · refine b_iconst (v := 3) C dX2_signsOf_6 (by decide) ?_
    cases hm
    exact b_iret C dX2_signsOf_7
/-- BreakLearner$Figures.isPattern(II)Z -/
def m_X2_isPattern (F : Nat)  (n1 : Int32) (n2 : Int32)  : Option (Int32) :=
  bK1 (m_X2_isString F n1) (fun r1 =>
  if r1 = 0 then
    some 0
  else
    if n2 < 0 then
      some 0
    else
      bK1 (m_X2_signsOf F n1) (fun r2 =>
      if r2 < n2 then
        some 0
      else
        some 1
      )
  )
abbrev rmX2_isPattern : Room := { frames := 1, cells := 0, slots := 0, locals := 20 }
set_option maxHeartbeats 4000000 in
set_option maxRecDepth 100000 in
theorem c_X2_isPattern (l : Launch) (g : Gl)  (n1 : Int32) (n2 : Int32)  (F : Nat) (u : Int32) (hm : m_X2_isPattern F n1 n2 = some u) : Ct l g yX2_isPattern cX2_isPattern 2 (some .boolean) rmX2_isPattern [.int n1, .int n2] [] (some (.int u)) [] := by
  refine ent (own := RX2) (lv := [(0, .int n1), (1, .int n2)]) (by decide) rfl (Nat.le_of_ble_eq_true rfl) rfl rfl ?_
  intro x C
  unfold m_X2_isPattern at hm
  refine b_iload_n C dX2_isPattern_0 rfl 0 rfl ?_
  obtain ⟨r1, hM, hm⟩ := bK1_some hm
  refine b_kS (w' := []) (st := []) (st2 := [.int r1]) C cs_X2_isString tb579 (c_X2_isString l g n1 F r1 hM) rfl ⟨rfl, rfl, by decide, by decide⟩ (Nat.le_of_ble_eq_true rfl) [] rfl (by decide) rfl rfl dX2_isPattern_1 [] (by decide) trivial rfl ?_
  refine b_if_eq (tgt := 23) C dX2_isPattern_4 (by decide) hm (fun hm => ?_) (fun hm => ?_)
  · refine b_iconst (v := 0) C dX2_isPattern_23 (by decide) ?_
    cases hm
    exact b_zret (v := 0) C (by decide) dX2_isPattern_24
  · refine b_iload_n C dX2_isPattern_7 rfl 1 rfl ?_
    refine b_if_lt (tgt := 23) C dX2_isPattern_8 (by decide) hm (fun hm => ?_) (fun hm => ?_)
    · refine b_iconst (v := 0) C dX2_isPattern_23 (by decide) ?_
      cases hm
      exact b_zret (v := 0) C (by decide) dX2_isPattern_24
    · refine b_iload_n C dX2_isPattern_11 rfl 1 rfl ?_
      refine b_iload_n C dX2_isPattern_12 rfl 0 rfl ?_
      obtain ⟨r2, hM, hm⟩ := bK1_some hm
      refine b_kS (w' := []) (st := [.int n2]) (st2 := [.int r2, .int n2]) C cs_X2_signsOf tb582 (c_X2_signsOf l g n1 F r2 hM) rfl ⟨rfl, rfl, by decide, by decide⟩ (Nat.le_of_ble_eq_true rfl) [] rfl (by decide) rfl rfl dX2_isPattern_13 [] (by decide) trivial rfl ?_
      refine b_icmp_gt (tgt := 23) C dX2_isPattern_16 (by decide) hm (fun hm => ?_) (fun hm => ?_)
      · refine b_iconst (v := 0) C dX2_isPattern_23 (by decide) ?_
        cases hm
        exact b_zret (v := 0) C (by decide) dX2_isPattern_24
      · refine b_iconst (v := 1) C dX2_isPattern_19 (by decide) ?_
        refine b_goto (tgt := 24) C dX2_isPattern_20 (by decide) ?_
        cases hm
        exact b_zret (v := 1) C (by decide) dX2_isPattern_24
/-- BreakLearner$Learning.levelByCode(I)I -/
def m_X5_levelByCode (F : Nat)  (n1 : Int32) (th_index_numbers : (Nat → Int32)) (th_levels : (Nat → Int32)) : Option (Int32) :=
  rdK 1372 th_index_numbers n1 (fun v1 =>
  letK (v1 - 1) (fun x2 =>
  if x2 < 0 then
    some 0
  else
    rdK 270 th_levels x2 (fun v3 =>
    some v3
    )
  )
  )
abbrev rmX5_levelByCode : Room := { frames := 0, cells := 0, slots := 0, locals := 0 }
set_option maxHeartbeats 4000000 in
set_option maxRecDepth 100000 in
theorem c_X5_levelByCode (l : Launch) (g : Gl) (A_th A_th_index A_th_index_numbers A_th_levels : Nat) (V_th_good V_th_bad V_th_digits V_th_index_codes V_th_index_fits V_th_index_known V_th_index_starts V_th_index_signs V_th_index_size : Value)  (n1 : Int32) (th_index_numbers : (Nat → Int32)) (th_levels : (Nat → Int32)) (F : Nat) (u : Int32) (hm : m_X5_levelByCode F n1 th_index_numbers th_levels = some u) : Ct l g yX5_levelByCode cX5_levelByCode 3 (some .int) rmX5_levelByCode [.ref A_th, .int n1] [(A_th, oO 4 [.ref A_th_index, .ref A_th_levels, V_th_good, V_th_bad, V_th_digits]), (A_th_index, oO 2 [.ref A_th_index_numbers, V_th_index_codes, V_th_index_fits, V_th_index_known, V_th_index_starts, V_th_index_signs, V_th_index_size]), (A_th_index_numbers, iA g 1372 th_index_numbers), (A_th_levels, iA g 270 th_levels)] (some (.int u)) [(A_th, oO 4 [.ref A_th_index, .ref A_th_levels, V_th_good, V_th_bad, V_th_digits]), (A_th_index, oO 2 [.ref A_th_index_numbers, V_th_index_codes, V_th_index_fits, V_th_index_known, V_th_index_starts, V_th_index_signs, V_th_index_size]), (A_th_index_numbers, iA g 1372 th_index_numbers), (A_th_levels, iA g 270 th_levels)] := by
  refine ent (own := RX5) (lv := [(0, .ref A_th), (1, .int n1)]) (by decide) rfl (Nat.le_of_ble_eq_true rfl) rfl rfl ?_
  intro x C
  unfold m_X5_levelByCode at hm
  refine b_aload_n C dX5_levelByCode_0 rfl 0 rfl ?_
  refine gfX5_24 C 0 rfl rfl dX5_levelByCode_1 ?_
  refine gfX5_125 C 1 rfl rfl dX5_levelByCode_4 ?_
  refine b_iload_n C dX5_levelByCode_7 rfl 1 rfl ?_
  refine b_iald C 2 rfl dX5_levelByCode_8 hm (fun v1 hm => ?_)
  refine b_iconst (v := 1) C dX5_levelByCode_9 (by decide) ?_
  refine b_isub C dX5_levelByCode_10 ?_
  refine b_topi hm (fun x2 hm => ?_)
  refine b_istore_n (lv' := [(2, .int x2), (0, .ref A_th), (1, .int n1)]) C dX5_levelByCode_11 rfl (by decide) rfl ?_
  refine b_iload_n C dX5_levelByCode_12 rfl 0 rfl ?_
  refine b_if_lt (tgt := 25) C dX5_levelByCode_13 (by decide) hm (fun hm => ?_) (fun hm => ?_)
  · refine b_iconst (v := 0) C dX5_levelByCode_25 (by decide) ?_
    cases hm
    exact b_iret C dX5_levelByCode_26
  · refine b_aload_n C dX5_levelByCode_16 rfl 1 rfl ?_
    refine gfX5_9 C 0 rfl rfl dX5_levelByCode_17 ?_
    refine b_iload_n C dX5_levelByCode_20 rfl 0 rfl ?_
    refine b_iald C 3 rfl dX5_levelByCode_21 hm (fun v3 hm => ?_)
    refine b_goto (tgt := 26) C dX5_levelByCode_22 (by decide) ?_
    cases hm
    exact b_iret C dX5_levelByCode_26
/-- BreakLearner$Learning.levelOf(II)I -/
def m_X5_levelOf (F : Nat)  (n1 : Int32) (n2 : Int32) (th_levels : (Nat → Int32)) (th_index_numbers : (Nat → Int32)) : Option (Int32) :=
  bK1 (m_X5_levelByCode F ((n1 * 4) + n2) th_index_numbers th_levels) (fun r1 =>
  some r1
  )
abbrev rmX5_levelOf : Room := { frames := 1, cells := 0, slots := 0, locals := 22 }
set_option maxHeartbeats 4000000 in
set_option maxRecDepth 100000 in
theorem c_X5_levelOf (l : Launch) (g : Gl) (A_th A_th_index A_th_levels A_th_index_numbers : Nat) (V_th_good V_th_bad V_th_digits V_th_index_codes V_th_index_fits V_th_index_known V_th_index_starts V_th_index_signs V_th_index_size : Value)  (n1 : Int32) (n2 : Int32) (th_levels : (Nat → Int32)) (th_index_numbers : (Nat → Int32)) (F : Nat) (u : Int32) (hm : m_X5_levelOf F n1 n2 th_levels th_index_numbers = some u) : Ct l g yX5_levelOf cX5_levelOf 3 (some .int) rmX5_levelOf [.ref A_th, .int n1, .int n2] [(A_th, oO 4 [.ref A_th_index, .ref A_th_levels, V_th_good, V_th_bad, V_th_digits]), (A_th_index, oO 2 [.ref A_th_index_numbers, V_th_index_codes, V_th_index_fits, V_th_index_known, V_th_index_starts, V_th_index_signs, V_th_index_size]), (A_th_levels, iA g 270 th_levels), (A_th_index_numbers, iA g 1372 th_index_numbers)] (some (.int u)) [(A_th, oO 4 [.ref A_th_index, .ref A_th_levels, V_th_good, V_th_bad, V_th_digits]), (A_th_index, oO 2 [.ref A_th_index_numbers, V_th_index_codes, V_th_index_fits, V_th_index_known, V_th_index_starts, V_th_index_signs, V_th_index_size]), (A_th_levels, iA g 270 th_levels), (A_th_index_numbers, iA g 1372 th_index_numbers)] := by
  refine ent (own := RX5) (lv := [(0, .ref A_th), (1, .int n1), (2, .int n2)]) (by decide) rfl (Nat.le_of_ble_eq_true rfl) rfl rfl ?_
  intro x C
  unfold m_X5_levelOf at hm
  refine b_aload_n C dX5_levelOf_0 rfl 0 rfl ?_
  refine b_iload_n C dX5_levelOf_1 rfl 1 rfl ?_
  refine b_iconst (v := 4) C dX5_levelOf_2 (by decide) ?_
  refine b_imul C dX5_levelOf_3 ?_
  refine b_iload_n C dX5_levelOf_4 rfl 2 rfl ?_
  refine b_iadd C dX5_levelOf_5 ?_
  obtain ⟨r1, hM, hm⟩ := bK1_some hm
  refine b_kV (w' := [(A_th, oO 4 [.ref A_th_index, .ref A_th_levels, V_th_good, V_th_bad, V_th_digits]), (A_th_index, oO 2 [.ref A_th_index_numbers, V_th_index_codes, V_th_index_fits, V_th_index_known, V_th_index_starts, V_th_index_signs, V_th_index_size]), (A_th_levels, iA g 270 th_levels), (A_th_index_numbers, iA g 1372 th_index_numbers)]) (st := []) (st2 := [.int r1]) C cv_X5_levelByCode tb589 (c_X5_levelByCode l g A_th A_th_index A_th_index_numbers A_th_levels V_th_good V_th_bad V_th_digits V_th_index_codes V_th_index_fits V_th_index_known V_th_index_starts V_th_index_signs V_th_index_size ((n1 * 4) + n2) th_index_numbers th_levels F r1 hM) rfl 0 rfl rfl ⟨rfl, rfl, by decide, by decide⟩ (Nat.le_of_ble_eq_true rfl) [0, 1, 3, 2] rfl (by decide) rfl rfl dX5_levelOf_6 [some 0, some 1, some 3, some 2] (by decide) ⟨⟨rfl, rfl⟩, ⟨⟨rfl, rfl⟩, ⟨⟨rfl, rfl⟩, ⟨⟨rfl, rfl⟩, trivial⟩⟩⟩⟩ rfl ?_
  cases hm
  exact b_iret C dX5_levelOf_9
