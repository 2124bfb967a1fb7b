/-- BreakLearner$Chances.shareOf(LBreakLearner$Stock;IZ)I -/
def m_X0_shareOf (F : Nat)  (n2 : Int32) (n3 : Int32) (th_valued : Int32) (p1_words : Int32) (p1_learnt : Int32) (th_rights : (Nat → Int32)) (p1_sizes : (Nat → Int32)) (p1_breaks : (Nat → Int32)) (p1_rules : (Nat → Int32)) (p1_hs : (Nat → Int32)) (th_learning_levels : (Nat → Int32)) (th_learning_index_known : Int32) (th_learning_digits : (Nat → Int32)) (th_learning_good : (Nat → Int32)) (th_learning_bad : (Nat → Int32)) (th_learning_index_fits : (Nat → Int32)) (th_learning_index_starts : (Nat → Int32)) : Option (Int32 × Int32 × (Nat → Int32) × (Nat → Int32) × (Nat → Int32) × (Nat → Int32) × (Nat → Int32)) :=
  bK6 (m_X0_value F th_valued p1_words p1_learnt th_learning_levels th_learning_index_known th_learning_digits th_learning_good th_learning_bad p1_sizes p1_breaks p1_rules p1_hs th_learning_index_fits th_learning_index_starts th_rights) (fun z1 f2 f3 f4 f5 f6 =>
  wl2 (fun (x8 : Int32) (x9 : Int32) c7 =>
    if (1 <<< (p1_words &&& 31)) ≤ x9 then
      rdK 7 kFact p1_words (fun v10 =>
      bK1 (m_X0_leastTerms F x8 v10 n3) (fun r11 =>
      some (r11, z1, f6, f2, f3, f4, f5)
      )
      )
    else
      if ((x9 >>> (n2 &&& 31)) &&& 1) = 0 then
        bK1 (m_J6_bitCount_0f7a4 F x9) (fun r12 =>
        rdK 7 kFact r12 (fun v13 =>
        rdK 7 kFact ((p1_words - 1) - r12) (fun v14 =>
        letK (v13 * v14) (fun x15 =>
        rdK 64 f6 (x9 ||| (1 <<< (n2 &&& 31))) (fun v16 =>
        rdK 64 f6 x9 (fun v17 =>
        letK (x8 + (x15 * (v16 - v17))) (fun x18 =>
        c7 x18 (x9 + 1)
        )
        )
        )
        )
        )
        )
        )
      else
        c7 x8 (x9 + 1)
    ) F 0 0
  )
abbrev rmX0_shareOf : Room := { frames := 5, cells := 0, slots := 0, locals := 113 }
set_option maxHeartbeats 4000000 in
set_option maxRecDepth 100000 in
theorem c_X0_shareOf (l : Launch) (g : Gl) (A_th A_p1 A_th_learning A_th_rights A_p1_sizes A_p1_breaks A_p1_rules A_p1_hs A_th_learning_levels A_th_learning_index A_th_learning_digits A_th_learning_good A_th_learning_bad A_th_learning_index_fits A_th_learning_index_starts : Nat) (V_p1_letters V_th_learning_index_numbers V_th_learning_index_codes V_th_learning_index_signs V_th_learning_index_size : Value)  (n2 : Int32) (n3 : Int32) (th_valued : Int32) (p1_words : Int32) (p1_learnt : Int32) (th_rights : (Nat → Int32)) (p1_sizes : (Nat → Int32)) (p1_breaks : (Nat → Int32)) (p1_rules : (Nat → Int32)) (p1_hs : (Nat → Int32)) (th_learning_levels : (Nat → Int32)) (th_learning_index_known : Int32) (th_learning_digits : (Nat → Int32)) (th_learning_good : (Nat → Int32)) (th_learning_bad : (Nat → Int32)) (th_learning_index_fits : (Nat → Int32)) (th_learning_index_starts : (Nat → Int32)) (F : Nat) (u : Int32 × Int32 × (Nat → Int32) × (Nat → Int32) × (Nat → Int32) × (Nat → Int32) × (Nat → Int32)) (hm : m_X0_shareOf F n2 n3 th_valued p1_words p1_learnt th_rights p1_sizes p1_breaks p1_rules p1_hs th_learning_levels th_learning_index_known th_learning_digits th_learning_good th_learning_bad th_learning_index_fits th_learning_index_starts = some u) : Ct l g yX0_shareOf cX0_shareOf 8 (some .int) rmX0_shareOf [.ref A_th, .ref A_p1, .int n2, .int n3] [(A_th, oO 0 [.ref A_th_learning, .ref A_th_rights, .int th_valued]), (A_p1, oO 6 [V_p1_letters, .ref A_p1_breaks, .ref A_p1_sizes, .ref A_p1_rules, .ref A_p1_hs, .int p1_words, .int p1_learnt]), (A_th_learning, oO 4 [.ref A_th_learning_index, .ref A_th_learning_levels, .ref A_th_learning_good, .ref A_th_learning_bad, .ref A_th_learning_digits]), (A_th_rights, iA g 64 th_rights), (A_p1_sizes, iA g 6 p1_sizes), (A_p1_breaks, iA g 6 p1_breaks), (A_p1_rules, iA g 5 p1_rules), (A_p1_hs, iA g 5 p1_hs), (A_th_learning_levels, iA g 270 th_learning_levels), (A_th_learning_index, oO 2 [V_th_learning_index_numbers, V_th_learning_index_codes, .ref A_th_learning_index_fits, .int th_learning_index_known, .ref A_th_learning_index_starts, V_th_learning_index_signs, V_th_learning_index_size]), (A_th_learning_digits, iA g 30 th_learning_digits), (A_th_learning_good, iA g 270 th_learning_good), (A_th_learning_bad, iA g 270 th_learning_bad), (A_th_learning_index_fits, iA g 270 th_learning_index_fits), (A_th_learning_index_starts, iA g 5 th_learning_index_starts)] (some (.int u.1)) [(A_th, oO 0 [.ref A_th_learning, .ref A_th_rights, .int u.2.1]), (A_p1, oO 6 [V_p1_letters, .ref A_p1_breaks, .ref A_p1_sizes, .ref A_p1_rules, .ref A_p1_hs, .int p1_words, .int p1_learnt]), (A_th_learning, oO 4 [.ref A_th_learning_index, .ref A_th_learning_levels, .ref A_th_learning_good, .ref A_th_learning_bad, .ref A_th_learning_digits]), (A_th_rights, iA g 64 u.2.2.1), (A_p1_sizes, iA g 6 p1_sizes), (A_p1_breaks, iA g 6 p1_breaks), (A_p1_rules, iA g 5 p1_rules), (A_p1_hs, iA g 5 p1_hs), (A_th_learning_levels, iA g 270 u.2.2.2.1), (A_th_learning_index, oO 2 [V_th_learning_index_numbers, V_th_learning_index_codes, .ref A_th_learning_index_fits, .int th_learning_index_known, .ref A_th_learning_index_starts, V_th_learning_index_signs, V_th_learning_index_size]), (A_th_learning_digits, iA g 30 u.2.2.2.2.1), (A_th_learning_good, iA g 270 u.2.2.2.2.2.1), (A_th_learning_bad, iA g 270 u.2.2.2.2.2.2), (A_th_learning_index_fits, iA g 270 th_learning_index_fits), (A_th_learning_index_starts, iA g 5 th_learning_index_starts)] := by
  refine ent (own := RX0) (lv := [(0, .ref A_th), (1, .ref A_p1), (2, .int n2), (3, .int n3)]) (by decide) rfl (Nat.le_of_ble_eq_true rfl) rfl rfl ?_
  intro x C
  unfold m_X0_shareOf at hm
  refine b_aload_n C dX0_shareOf_0 rfl 0 rfl ?_
  refine b_aload_n C dX0_shareOf_1 rfl 1 rfl ?_
  obtain ⟨z1, f2, f3, f4, f5, f6, hM, hm⟩ := bK6_some hm
  refine b_kV (w' := [(A_th, oO 0 [.ref A_th_learning, .ref A_th_rights, .int z1]), (A_p1, oO 6 [V_p1_letters, .ref A_p1_breaks, .ref A_p1_sizes, .ref A_p1_rules, .ref A_p1_hs, .int p1_words, .int p1_learnt]), (A_th_learning, oO 4 [.ref A_th_learning_index, .ref A_th_learning_levels, .ref A_th_learning_good, .ref A_th_learning_bad, .ref A_th_learning_digits]), (A_th_rights, iA g 64 f6), (A_p1_sizes, iA g 6 p1_sizes), (A_p1_breaks, iA g 6 p1_breaks), (A_p1_rules, iA g 5 p1_rules), (A_p1_hs, iA g 5 p1_hs), (A_th_learning_levels, iA g 270 f2), (A_th_learning_index, oO 2 [V_th_learning_index_numbers, V_th_learning_index_codes, .ref A_th_learning_index_fits, .int th_learning_index_known, .ref A_th_learning_index_starts, V_th_learning_index_signs, V_th_learning_index_size]), (A_th_learning_digits, iA g 30 f3), (A_th_learning_good, iA g 270 f4), (A_th_learning_bad, iA g 270 f5), (A_th_learning_index_fits, iA g 270 th_learning_index_fits), (A_th_learning_index_starts, iA g 5 th_learning_index_starts)]) (st := []) (st2 := []) C cv_X0_value tb756 (c_X0_value l g A_th A_p1 A_th_learning A_th_learning_levels A_th_learning_index A_th_learning_digits A_th_learning_good A_th_learning_bad A_p1_sizes A_p1_breaks A_p1_rules A_p1_hs A_th_learning_index_fits A_th_learning_index_starts A_th_rights V_p1_letters V_th_learning_index_numbers V_th_learning_index_codes V_th_learning_index_signs V_th_learning_index_size th_valued p1_words p1_learnt th_learning_levels th_learning_index_known th_learning_digits th_learning_good th_learning_bad p1_sizes p1_breaks p1_rules p1_hs th_learning_index_fits th_learning_index_starts th_rights F (z1, f2, f3, f4, f5, f6) hM) rfl 0 rfl rfl ⟨rfl, rfl, by decide, by decide⟩ (Nat.le_of_ble_eq_true rfl) [0, 1, 2, 8, 9, 10, 11, 12, 4, 5, 6, 7, 13, 14, 3] rfl (by decide) rfl rfl dX0_shareOf_2 [some 0, some 1, some 2, some 14, some 8, some 9, some 10, some 11, some 3, some 4, some 5, some 6, some 7, some 12, some 13] (by decide) ⟨⟨rfl, rfl⟩, ⟨⟨rfl, rfl⟩, ⟨⟨rfl, rfl⟩, ⟨⟨rfl, rfl⟩, ⟨⟨rfl, rfl⟩, ⟨⟨rfl, rfl⟩, ⟨⟨rfl, rfl⟩, ⟨⟨rfl, rfl⟩, ⟨⟨rfl, rfl⟩, ⟨⟨rfl, rfl⟩, ⟨⟨rfl, rfl⟩, ⟨⟨rfl, rfl⟩, ⟨⟨rfl, rfl⟩, ⟨⟨rfl, rfl⟩, ⟨⟨rfl, rfl⟩, trivial⟩⟩⟩⟩⟩⟩⟩⟩⟩⟩⟩⟩⟩⟩⟩ rfl ?_
  refine b_iconst (v := 0) C dX0_shareOf_5 (by decide) ?_
  refine b_istore (lv' := [(4, .int 0), (0, .ref A_th), (1, .ref A_p1), (2, .int n2), (3, .int n3)]) C dX0_shareOf_6 (by decide) rfl ?_
  refine b_iconst (v := 0) C dX0_shareOf_8 (by decide) ?_
  refine b_istore (lv' := [(5, .int 0), (4, .int 0), (0, .ref A_th), (1, .ref A_p1), (2, .int n2), (3, .int n3)]) C dX0_shareOf_9 (by decide) rfl ?_
  refine Wb.lv (lv' := [(0, .ref A_th), (1, .ref A_p1), (2, .int n2), (3, .int n3), (4, .int 0), (5, .int 0)]) ?_ [2, 3, 4, 5, 1, 0] rfl
  refine wl2_W (Wg := fun (x8 : Int32) (x9 : Int32) => Wb x [(A_th, oO 0 [.ref A_th_learning, .ref A_th_rights, .int z1]), (A_p1, oO 6 [V_p1_letters, .ref A_p1_breaks, .ref A_p1_sizes, .ref A_p1_rules, .ref A_p1_hs, .int p1_words, .int p1_learnt]), (A_th_learning, oO 4 [.ref A_th_learning_index, .ref A_th_learning_levels, .ref A_th_learning_good, .ref A_th_learning_bad, .ref A_th_learning_digits]), (A_th_rights, iA g 64 f6), (A_p1_sizes, iA g 6 p1_sizes), (A_p1_breaks, iA g 6 p1_breaks), (A_p1_rules, iA g 5 p1_rules), (A_p1_hs, iA g 5 p1_hs), (A_th_learning_levels, iA g 270 f2), (A_th_learning_index, oO 2 [V_th_learning_index_numbers, V_th_learning_index_codes, .ref A_th_learning_index_fits, .int th_learning_index_known, .ref A_th_learning_index_starts, V_th_learning_index_signs, V_th_learning_index_size]), (A_th_learning_digits, iA g 30 f3), (A_th_learning_good, iA g 270 f4), (A_th_learning_bad, iA g 270 f5), (A_th_learning_index_fits, iA g 270 th_learning_index_fits), (A_th_learning_index_starts, iA g 5 th_learning_index_starts)] [(0, .ref A_th), (1, .ref A_p1), (2, .int n2), (3, .int n3), (4, .int x8), (5, .int x9)] 11 []) ?_ F 0 0 hm
  intro x8 x9 c7 hc7 hm
  refine b_iload C dX0_shareOf_11 5 rfl ?_
  refine b_iconst (v := 1) C dX0_shareOf_13 (by decide) ?_
  refine b_aload_n C dX0_shareOf_14 rfl 1 rfl ?_
  refine gfX0_23 C 1 rfl rfl dX0_shareOf_15 ?_
  refine b_ishl C dX0_shareOf_18 ?_
  refine b_icmp_ge (tgt := 93) C dX0_shareOf_19 (by decide) hm (fun hm => ?_) (fun hm => ?_)
  · refine b_iload C dX0_shareOf_93 4 rfl ?_
    refine b_getsN3 C (by decide +kernel) dX0_shareOf_95 ?_
    refine b_aload_n C dX0_shareOf_98 rfl 1 rfl ?_
    refine gfX0_23 C 1 rfl rfl dX0_shareOf_99 ?_
    refine b_tab3 C dX0_shareOf_102 hm (fun v10 hm => ?_)
    refine b_iload_n C dX0_shareOf_103 rfl 3 rfl ?_
    obtain ⟨r11, hM, hm⟩ := bK1_some hm
    refine b_kS (w' := [(A_th, oO 0 [.ref A_th_learning, .ref A_th_rights, .int z1]), (A_p1, oO 6 [V_p1_letters, .ref A_p1_breaks, .ref A_p1_sizes, .ref A_p1_rules, .ref A_p1_hs, .int p1_words, .int p1_learnt]), (A_th_learning, oO 4 [.ref A_th_learning_index, .ref A_th_learning_levels, .ref A_th_learning_good, .ref A_th_learning_bad, .ref A_th_learning_digits]), (A_th_rights, iA g 64 f6), (A_p1_sizes, iA g 6 p1_sizes), (A_p1_breaks, iA g 6 p1_breaks), (A_p1_rules, iA g 5 p1_rules), (A_p1_hs, iA g 5 p1_hs), (A_th_learning_levels, iA g 270 f2), (A_th_learning_index, oO 2 [V_th_learning_index_numbers, V_th_learning_index_codes, .ref A_th_learning_index_fits, .int th_learning_index_known, .ref A_th_learning_index_starts, V_th_learning_index_signs, V_th_learning_index_size]), (A_th_learning_digits, iA g 30 f3), (A_th_learning_good, iA g 270 f4), (A_th_learning_bad, iA g 270 f5), (A_th_learning_index_fits, iA g 270 th_learning_index_fits), (A_th_learning_index_starts, iA g 5 th_learning_index_starts)]) (st := []) (st2 := [.int r11]) C cs_X0_leastTerms tb765 (c_X0_leastTerms l g x8 v10 n3 F r11 hM) rfl ⟨rfl, rfl, by decide, by decide⟩ (Nat.le_of_ble_eq_true rfl) [] rfl (by decide) rfl rfl dX0_shareOf_104 [none, none, none, none, none, none, none, none, none, none, none, none, none, none, none] (by decide) ⟨rfl, ⟨rfl, ⟨rfl, ⟨rfl, ⟨rfl, ⟨rfl, ⟨rfl, ⟨rfl, ⟨rfl, ⟨rfl, ⟨rfl, ⟨rfl, ⟨rfl, ⟨rfl, ⟨rfl, trivial⟩⟩⟩⟩⟩⟩⟩⟩⟩⟩⟩⟩⟩⟩⟩ rfl ?_
    cases hm
    exact b_iret C dX0_shareOf_107
  · refine b_iload C dX0_shareOf_22 5 rfl ?_
    refine b_iload_n C dX0_shareOf_24 rfl 2 rfl ?_
    refine b_ishr C dX0_shareOf_25 ?_
    refine b_iconst (v := 1) C dX0_shareOf_26 (by decide) ?_
    refine b_iand C dX0_shareOf_27 ?_
    refine b_if_ne (tgt := 87) C dX0_shareOf_28 (by decide) hm (fun hm => ?_) (fun hm => ?_)
    · refine b_iinc (v2 := x9 + 1) (lv' := [(5, .int (x9 + 1)), (0, .ref A_th), (1, .ref A_p1), (2, .int n2), (3, .int n3), (4, .int x8)]) C dX0_shareOf_87 5 rfl rfl (by decide) rfl ?_
      refine b_goto (tgt := 11) C dX0_shareOf_90 (by decide) ?_
      exact Wb.lv (hc7 x8 (x9 + 1) hm) [1, 2, 3, 4, 5, 0] rfl
    · refine b_iload C dX0_shareOf_31 5 rfl ?_
      obtain ⟨r12, hM, hm⟩ := bK1_some hm
      refine b_kS (w' := [(A_th, oO 0 [.ref A_th_learning, .ref A_th_rights, .int z1]), (A_p1, oO 6 [V_p1_letters, .ref A_p1_breaks, .ref A_p1_sizes, .ref A_p1_rules, .ref A_p1_hs, .int p1_words, .int p1_learnt]), (A_th_learning, oO 4 [.ref A_th_learning_index, .ref A_th_learning_levels, .ref A_th_learning_good, .ref A_th_learning_bad, .ref A_th_learning_digits]), (A_th_rights, iA g 64 f6), (A_p1_sizes, iA g 6 p1_sizes), (A_p1_breaks, iA g 6 p1_breaks), (A_p1_rules, iA g 5 p1_rules), (A_p1_hs, iA g 5 p1_hs), (A_th_learning_levels, iA g 270 f2), (A_th_learning_index, oO 2 [V_th_learning_index_numbers, V_th_learning_index_codes, .ref A_th_learning_index_fits, .int th_learning_index_known, .ref A_th_learning_index_starts, V_th_learning_index_signs, V_th_learning_index_size]), (A_th_learning_digits, iA g 30 f3), (A_th_learning_good, iA g 270 f4), (A_th_learning_bad, iA g 270 f5), (A_th_learning_index_fits, iA g 270 th_learning_index_fits), (A_th_learning_index_starts, iA g 5 th_learning_index_starts)]) (st := []) (st2 := [.int r12]) C cs_J6_bitCount_0f7a4 tb762 (c_J6_bitCount_0f7a4 l g x9 F r12 hM) rfl ⟨rfl, rfl, by decide, by decide⟩ (Nat.le_of_ble_eq_true rfl) [] rfl (by decide) rfl rfl dX0_shareOf_33 [none, none, none, none, none, none, none, none, none, none, none, none, none, none, none] (by decide) ⟨rfl, ⟨rfl, ⟨rfl, ⟨rfl, ⟨rfl, ⟨rfl, ⟨rfl, ⟨rfl, ⟨rfl, ⟨rfl, ⟨rfl, ⟨rfl, ⟨rfl, ⟨rfl, ⟨rfl, trivial⟩⟩⟩⟩⟩⟩⟩⟩⟩⟩⟩⟩⟩⟩⟩ rfl ?_
      refine b_istore (lv' := [(6, .int r12), (0, .ref A_th), (1, .ref A_p1), (2, .int n2), (3, .int n3), (4, .int x8), (5, .int x9)]) C dX0_shareOf_36 (by decide) rfl ?_
      refine b_getsN3 C (by decide +kernel) dX0_shareOf_38 ?_
      refine b_iload C dX0_shareOf_41 0 rfl ?_
      refine b_tab3 C dX0_shareOf_43 hm (fun v13 hm => ?_)
      refine b_getsN3 C (by decide +kernel) dX0_shareOf_44 ?_
      refine b_aload_n C dX0_shareOf_47 rfl 2 rfl ?_
      refine gfX0_23 C 1 rfl rfl dX0_shareOf_48 ?_
      refine b_iconst (v := 1) C dX0_shareOf_51 (by decide) ?_
      refine b_isub C dX0_shareOf_52 ?_
      refine b_iload C dX0_shareOf_53 0 rfl ?_
      refine b_isub C dX0_shareOf_55 ?_
      refine b_tab3 C dX0_shareOf_56 hm (fun v14 hm => ?_)
      refine b_imul C dX0_shareOf_57 ?_
      refine b_topi hm (fun x15 hm => ?_)
      refine b_istore (lv' := [(7, .int x15), (6, .int r12), (0, .ref A_th), (1, .ref A_p1), (2, .int n2), (3, .int n3), (4, .int x8), (5, .int x9)]) C dX0_shareOf_58 (by decide) rfl ?_
      refine b_iload C dX0_shareOf_60 6 rfl ?_
      refine b_iload C dX0_shareOf_62 0 rfl ?_
      refine b_aload_n C dX0_shareOf_64 rfl 2 rfl ?_
      refine gfX0_9 C 0 rfl rfl dX0_shareOf_65 ?_
      refine b_iload C dX0_shareOf_68 7 rfl ?_
      refine b_iconst (v := 1) C dX0_shareOf_70 (by decide) ?_
      refine b_iload_n C dX0_shareOf_71 rfl 4 rfl ?_
      refine b_ishl C dX0_shareOf_72 ?_
      refine b_ior C dX0_shareOf_73 ?_
      refine b_iald C 3 rfl dX0_shareOf_74 hm (fun v16 hm => ?_)
      refine b_aload_n C dX0_shareOf_75 rfl 2 rfl ?_
      refine gfX0_9 C 0 rfl rfl dX0_shareOf_76 ?_
      refine b_iload C dX0_shareOf_79 7 rfl ?_
      refine b_iald C 3 rfl dX0_shareOf_81 hm (fun v17 hm => ?_)
      refine b_isub C dX0_shareOf_82 ?_
      refine b_imul C dX0_shareOf_83 ?_
      refine b_iadd C dX0_shareOf_84 ?_
      refine b_topi hm (fun x18 hm => ?_)
      refine b_istore (lv' := [(4, .int x18), (7, .int x15), (6, .int r12), (0, .ref A_th), (1, .ref A_p1), (2, .int n2), (3, .int n3), (5, .int x9)]) C dX0_shareOf_85 (by decide) rfl ?_
      refine b_iinc (v2 := x9 + 1) (lv' := [(5, .int (x9 + 1)), (4, .int x18), (7, .int x15), (6, .int r12), (0, .ref A_th), (1, .ref A_p1), (2, .int n2), (3, .int n3)]) C dX0_shareOf_87 7 rfl rfl (by decide) rfl ?_
      refine b_goto (tgt := 11) C dX0_shareOf_90 (by decide) ?_
      exact Wb.lv (hc7 x18 (x9 + 1) hm) [4, 5, 6, 7, 1, 0] rfl
/-- BreakLearner.share(IZ)I -/
def m_X10_share (F : Nat)  (n1 : Int32) (n2 : Int32) (th_stock_words : Int32) (th_stock_learnt : Int32) (th_chances_valued : Int32) (th_chances_rights : (Nat → Int32)) (th_stock_sizes : (Nat → Int32)) (th_stock_breaks : (Nat → Int32)) (th_stock_rules : (Nat → Int32)) (th_stock_hs : (Nat → Int32)) (th_judging_learning_levels : (Nat → Int32)) (th_index_known : Int32) (th_judging_learning_digits : (Nat → Int32)) (th_judging_learning_good : (Nat → Int32)) (th_judging_learning_bad : (Nat → Int32)) (th_index_fits : (Nat → Int32)) (th_index_starts : (Nat → Int32)) : Option (Int32 × Int32 × (Nat → Int32) × (Nat → Int32) × (Nat → Int32) × (Nat → Int32) × (Nat → Int32)) :=
  bK1 (m_X7_hasWord F n1 th_stock_words) (fun r1 =>
  if r1 = 0 then
    some ((-1), th_chances_valued, th_chances_rights, th_judging_learning_levels, th_judging_learning_digits, th_judging_learning_good, th_judging_learning_bad)
  else
    bK7 (m_X0_shareOf F n1 n2 th_chances_valued th_stock_words th_stock_learnt th_chances_rights th_stock_sizes th_stock_breaks th_stock_rules th_stock_hs th_judging_learning_levels th_index_known th_judging_learning_digits th_judging_learning_good th_judging_learning_bad th_index_fits th_index_starts) (fun r2 z3 f4 f5 f6 f7 f8 =>
    some (r2, z3, f4, f5, f6, f7, f8)
    )
  )
abbrev rmX10_share : Room := { frames := 6, cells := 0, slots := 0, locals := 140 }
set_option maxHeartbeats 4000000 in
set_option maxRecDepth 100000 in
theorem c_X10_share (l : Launch) (g : Gl) (A_th A_th_stock A_th_chances A_th_judging_learning A_th_chances_rights A_th_stock_sizes A_th_stock_breaks A_th_stock_rules A_th_stock_hs A_th_judging_learning_levels A_th_index A_th_judging_learning_digits A_th_judging_learning_good A_th_judging_learning_bad A_th_index_fits A_th_index_starts : Nat) (V_th_text V_th_index V_th_learning V_th_doings V_th_tree V_th_seen V_th_judging V_th_shelves V_th_onShelf V_th_theSeed V_th_stock_letters V_th_index_numbers V_th_index_codes V_th_index_signs V_th_index_size : Value)  (n1 : Int32) (n2 : Int32) (th_stock_words : Int32) (th_stock_learnt : Int32) (th_chances_valued : Int32) (th_chances_rights : (Nat → Int32)) (th_stock_sizes : (Nat → Int32)) (th_stock_breaks : (Nat → Int32)) (th_stock_rules : (Nat → Int32)) (th_stock_hs : (Nat → Int32)) (th_judging_learning_levels : (Nat → Int32)) (th_index_known : Int32) (th_judging_learning_digits : (Nat → Int32)) (th_judging_learning_good : (Nat → Int32)) (th_judging_learning_bad : (Nat → Int32)) (th_index_fits : (Nat → Int32)) (th_index_starts : (Nat → Int32)) (F : Nat) (u : Int32 × Int32 × (Nat → Int32) × (Nat → Int32) × (Nat → Int32) × (Nat → Int32) × (Nat → Int32)) (hm : m_X10_share F n1 n2 th_stock_words th_stock_learnt th_chances_valued th_chances_rights th_stock_sizes th_stock_breaks th_stock_rules th_stock_hs th_judging_learning_levels th_index_known th_judging_learning_digits th_judging_learning_good th_judging_learning_bad th_index_fits th_index_starts = some u) : Ct l g yX10_share cX10_share 3 (some .int) rmX10_share [.ref A_th, .int n1, .int n2] [(A_th, oO 9 [V_th_text, .ref A_th_stock, V_th_index, V_th_learning, V_th_doings, V_th_tree, V_th_seen, V_th_judging, .ref A_th_chances, V_th_shelves, V_th_onShelf, V_th_theSeed]), (A_th_stock, oO 6 [V_th_stock_letters, .ref A_th_stock_breaks, .ref A_th_stock_sizes, .ref A_th_stock_rules, .ref A_th_stock_hs, .int th_stock_words, .int th_stock_learnt]), (A_th_chances, oO 0 [.ref A_th_judging_learning, .ref A_th_chances_rights, .int th_chances_valued]), (A_th_judging_learning, oO 4 [.ref A_th_index, .ref A_th_judging_learning_levels, .ref A_th_judging_learning_good, .ref A_th_judging_learning_bad, .ref A_th_judging_learning_digits]), (A_th_chances_rights, iA g 64 th_chances_rights), (A_th_stock_sizes, iA g 6 th_stock_sizes), (A_th_stock_breaks, iA g 6 th_stock_breaks), (A_th_stock_rules, iA g 5 th_stock_rules), (A_th_stock_hs, iA g 5 th_stock_hs), (A_th_judging_learning_levels, iA g 270 th_judging_learning_levels), (A_th_index, oO 2 [V_th_index_numbers, V_th_index_codes, .ref A_th_index_fits, .int th_index_known, .ref A_th_index_starts, V_th_index_signs, V_th_index_size]), (A_th_judging_learning_digits, iA g 30 th_judging_learning_digits), (A_th_judging_learning_good, iA g 270 th_judging_learning_good), (A_th_judging_learning_bad, iA g 270 th_judging_learning_bad), (A_th_index_fits, iA g 270 th_index_fits), (A_th_index_starts, iA g 5 th_index_starts)] (some (.int u.1)) [(A_th, oO 9 [V_th_text, .ref A_th_stock, V_th_index, V_th_learning, V_th_doings, V_th_tree, V_th_seen, V_th_judging, .ref A_th_chances, V_th_shelves, V_th_onShelf, V_th_theSeed]), (A_th_stock, oO 6 [V_th_stock_letters, .ref A_th_stock_breaks, .ref A_th_stock_sizes, .ref A_th_stock_rules, .ref A_th_stock_hs, .int th_stock_words, .int th_stock_learnt]), (A_th_chances, oO 0 [.ref A_th_judging_learning, .ref A_th_chances_rights, .int u.2.1]), (A_th_judging_learning, oO 4 [.ref A_th_index, .ref A_th_judging_learning_levels, .ref A_th_judging_learning_good, .ref A_th_judging_learning_bad, .ref A_th_judging_learning_digits]), (A_th_chances_rights, iA g 64 u.2.2.1), (A_th_stock_sizes, iA g 6 th_stock_sizes), (A_th_stock_breaks, iA g 6 th_stock_breaks), (A_th_stock_rules, iA g 5 th_stock_rules), (A_th_stock_hs, iA g 5 th_stock_hs), (A_th_judging_learning_levels, iA g 270 u.2.2.2.1), (A_th_index, oO 2 [V_th_index_numbers, V_th_index_codes, .ref A_th_index_fits, .int th_index_known, .ref A_th_index_starts, V_th_index_signs, V_th_index_size]), (A_th_judging_learning_digits, iA g 30 u.2.2.2.2.1), (A_th_judging_learning_good, iA g 270 u.2.2.2.2.2.1), (A_th_judging_learning_bad, iA g 270 u.2.2.2.2.2.2), (A_th_index_fits, iA g 270 th_index_fits), (A_th_index_starts, iA g 5 th_index_starts)] := by
  refine ent (own := RX10) (lv := [(0, .ref A_th), (1, .int n1), (2, .int n2)]) (by decide) rfl (Nat.le_of_ble_eq_true rfl) rfl rfl ?_
  intro x C
  unfold m_X10_share at hm
  refine b_aload_n C dX10_share_0 rfl 0 rfl ?_
  refine gfX10_19 C 0 rfl rfl dX10_share_1 ?_
  refine b_iload_n C dX10_share_4 rfl 1 rfl ?_
  obtain ⟨r1, hM, hm⟩ := bK1_some hm
  refine b_kV (w' := [(A_th, oO 9 [V_th_text, .ref A_th_stock, V_th_index, V_th_learning, V_th_doings, V_th_tree, V_th_seen, V_th_judging, .ref A_th_chances, V_th_shelves, V_th_onShelf, V_th_theSeed]), (A_th_stock, oO 6 [V_th_stock_letters, .ref A_th_stock_breaks, .ref A_th_stock_sizes, .ref A_th_stock_rules, .ref A_th_stock_hs, .int th_stock_words, .int th_stock_learnt]), (A_th_chances, oO 0 [.ref A_th_judging_learning, .ref A_th_chances_rights, .int th_chances_valued]), (A_th_judging_learning, oO 4 [.ref A_th_index, .ref A_th_judging_learning_levels, .ref A_th_judging_learning_good, .ref A_th_judging_learning_bad, .ref A_th_judging_learning_digits]), (A_th_chances_rights, iA g 64 th_chances_rights), (A_th_stock_sizes, iA g 6 th_stock_sizes), (A_th_stock_breaks, iA g 6 th_stock_breaks), (A_th_stock_rules, iA g 5 th_stock_rules), (A_th_stock_hs, iA g 5 th_stock_hs), (A_th_judging_learning_levels, iA g 270 th_judging_learning_levels), (A_th_index, oO 2 [V_th_index_numbers, V_th_index_codes, .ref A_th_index_fits, .int th_index_known, .ref A_th_index_starts, V_th_index_signs, V_th_index_size]), (A_th_judging_learning_digits, iA g 30 th_judging_learning_digits), (A_th_judging_learning_good, iA g 270 th_judging_learning_good), (A_th_judging_learning_bad, iA g 270 th_judging_learning_bad), (A_th_index_fits, iA g 270 th_index_fits), (A_th_index_starts, iA g 5 th_index_starts)]) (st := []) (st2 := [.int r1]) C cv_X7_hasWord tb546 (c_X7_hasWord l g A_th_stock V_th_stock_letters (.ref A_th_stock_breaks) (.ref A_th_stock_sizes) (.ref A_th_stock_rules) (.ref A_th_stock_hs) (.int th_stock_learnt) n1 th_stock_words F r1 hM) rfl 1 rfl rfl ⟨rfl, rfl, by decide, by decide⟩ (Nat.le_of_ble_eq_true rfl) [1] rfl (by decide) rfl rfl dX10_share_5 [none, some 0, none, none, none, none, none, none, none, none, none, none, none, none, none, none] (by decide) ⟨rfl, ⟨⟨rfl, rfl⟩, ⟨rfl, ⟨rfl, ⟨rfl, ⟨rfl, ⟨rfl, ⟨rfl, ⟨rfl, ⟨rfl, ⟨rfl, ⟨rfl, ⟨rfl, ⟨rfl, ⟨rfl, ⟨rfl, trivial⟩⟩⟩⟩⟩⟩⟩⟩⟩⟩⟩⟩⟩⟩⟩⟩ rfl ?_
  refine b_if_ne (tgt := 13) C dX10_share_8 (by decide) hm (fun hm => ?_) (fun hm => ?_)
  · refine b_aload_n C dX10_share_13 rfl 0 rfl ?_
    refine gfX10_72 C 0 rfl rfl dX10_share_14 ?_
    refine b_aload_n C dX10_share_17 rfl 0 rfl ?_
    refine gfX10_19 C 0 rfl rfl dX10_share_18 ?_
    refine b_iload_n C dX10_share_21 rfl 1 rfl ?_
    refine b_iload_n C dX10_share_22 rfl 2 rfl ?_
    obtain ⟨r2, z3, f4, f5, f6, f7, f8, hM, hm⟩ := bK7_some hm
    refine b_kV (w' := [(A_th, oO 9 [V_th_text, .ref A_th_stock, V_th_index, V_th_learning, V_th_doings, V_th_tree, V_th_seen, V_th_judging, .ref A_th_chances, V_th_shelves, V_th_onShelf, V_th_theSeed]), (A_th_stock, oO 6 [V_th_stock_letters, .ref A_th_stock_breaks, .ref A_th_stock_sizes, .ref A_th_stock_rules, .ref A_th_stock_hs, .int th_stock_words, .int th_stock_learnt]), (A_th_chances, oO 0 [.ref A_th_judging_learning, .ref A_th_chances_rights, .int z3]), (A_th_judging_learning, oO 4 [.ref A_th_index, .ref A_th_judging_learning_levels, .ref A_th_judging_learning_good, .ref A_th_judging_learning_bad, .ref A_th_judging_learning_digits]), (A_th_chances_rights, iA g 64 f4), (A_th_stock_sizes, iA g 6 th_stock_sizes), (A_th_stock_breaks, iA g 6 th_stock_breaks), (A_th_stock_rules, iA g 5 th_stock_rules), (A_th_stock_hs, iA g 5 th_stock_hs), (A_th_judging_learning_levels, iA g 270 f5), (A_th_index, oO 2 [V_th_index_numbers, V_th_index_codes, .ref A_th_index_fits, .int th_index_known, .ref A_th_index_starts, V_th_index_signs, V_th_index_size]), (A_th_judging_learning_digits, iA g 30 f6), (A_th_judging_learning_good, iA g 270 f7), (A_th_judging_learning_bad, iA g 270 f8), (A_th_index_fits, iA g 270 th_index_fits), (A_th_index_starts, iA g 5 th_index_starts)]) (st := []) (st2 := [.int r2]) C cv_X0_shareOf tb752 (c_X0_shareOf l g A_th_chances A_th_stock A_th_judging_learning A_th_chances_rights A_th_stock_sizes A_th_stock_breaks A_th_stock_rules A_th_stock_hs A_th_judging_learning_levels A_th_index A_th_judging_learning_digits A_th_judging_learning_good A_th_judging_learning_bad A_th_index_fits A_th_index_starts V_th_stock_letters V_th_index_numbers V_th_index_codes V_th_index_signs V_th_index_size n1 n2 th_chances_valued th_stock_words th_stock_learnt th_chances_rights th_stock_sizes th_stock_breaks th_stock_rules th_stock_hs th_judging_learning_levels th_index_known th_judging_learning_digits th_judging_learning_good th_judging_learning_bad th_index_fits th_index_starts F (r2, z3, f4, f5, f6, f7, f8) hM) rfl 2 rfl rfl ⟨rfl, rfl, by decide, by decide⟩ (Nat.le_of_ble_eq_true rfl) [2, 1, 3, 4, 5, 6, 7, 8, 9, 10, 11, 12, 13, 14, 15] rfl (by decide) rfl rfl dX10_share_23 [none, some 1, some 0, some 2, some 3, some 4, some 5, some 6, some 7, some 8, some 9, some 10, some 11, some 12, some 13, some 14] (by decide) ⟨rfl, ⟨⟨rfl, rfl⟩, ⟨⟨rfl, rfl⟩, ⟨⟨rfl, rfl⟩, ⟨⟨rfl, rfl⟩, ⟨⟨rfl, rfl⟩, ⟨⟨rfl, rfl⟩, ⟨⟨rfl, rfl⟩, ⟨⟨rfl, rfl⟩, ⟨⟨rfl, rfl⟩, ⟨⟨rfl, rfl⟩, ⟨⟨rfl, rfl⟩, ⟨⟨rfl, rfl⟩, ⟨⟨rfl, rfl⟩, ⟨⟨rfl, rfl⟩, ⟨⟨rfl, rfl⟩, trivial⟩⟩⟩⟩⟩⟩⟩⟩⟩⟩⟩⟩⟩⟩⟩⟩ rfl ?_
    cases hm
    exact b_iret C dX10_share_26
  · refine b_iconst (v := (-1)) C dX10_share_11 (by decide) ?_
    cases hm
    exact b_iret C dX10_share_12
/-- BreakLearner$Seen.append(IIZ)Z -/
def m_X6_append (F : Nat)  (n1 : Int32) (n2 : Int32) (n3 : Int32) (th_count : Int32) (th_places : (Nat → Int32)) (th_digits : (Nat → Int32)) (th_hads : (Nat → Int32)) : Option (Int32 × Int32 × (Nat → Int32) × (Nat → Int32) × (Nat → Int32)) :=
  if th_count < 6 then
    stK 6 th_places th_count n1 (fun f1 =>
    stK 6 th_digits th_count n2 (fun f2 =>
    stK 6 th_hads th_count (vp_nar .boolean n3) (fun f3 =>
    letK (th_count + 1) (fun z4 =>
    some (1, z4, f1, f2, f3)
    )
    )
    )
    )
  else
    some (0, th_count, th_places, th_digits, th_hads)
abbrev rmX6_append : Room := { frames := 0, cells := 0, slots := 0, locals := 0 }
set_option maxHeartbeats 4000000 in
set_option maxRecDepth 100000 in
theorem c_X6_append (l : Launch) (g : Gl) (A_th A_th_places A_th_digits A_th_hads : Nat)  (n1 : Int32) (n2 : Int32) (n3 : Int32) (th_count : Int32) (th_places : (Nat → Int32)) (th_digits : (Nat → Int32)) (th_hads : (Nat → Int32)) (F : Nat) (u : Int32 × Int32 × (Nat → Int32) × (Nat → Int32) × (Nat → Int32)) (hm : m_X6_append F n1 n2 n3 th_count th_places th_digits th_hads = some u) : Ct l g yX6_append cX6_append 4 (some .boolean) rmX6_append [.ref A_th, .int n1, .int n2, .int n3] [(A_th, oO 5 [.ref A_th_places, .ref A_th_digits, .ref A_th_hads, .int th_count]), (A_th_places, iA g 6 th_places), (A_th_digits, iA g 6 th_digits), (A_th_hads, zA g 6 th_hads)] (some (.int u.1)) [(A_th, oO 5 [.ref A_th_places, .ref A_th_digits, .ref A_th_hads, .int u.2.1]), (A_th_places, iA g 6 u.2.2.1), (A_th_digits, iA g 6 u.2.2.2.1), (A_th_hads, zA g 6 u.2.2.2.2)] := by
  refine ent (own := RX6) (lv := [(0, .ref A_th), (1, .int n1), (2, .int n2), (3, .int n3)]) (by decide) rfl (Nat.le_of_ble_eq_true rfl) rfl rfl ?_
  intro x C
  unfold m_X6_append at hm
  refine b_aload_n C dX6_append_0 rfl 0 rfl ?_
  refine gfX6_22 C 0 rfl rfl dX6_append_1 ?_
  refine b_bipush (v := 6) C dX6_append_4 (by decide) ?_
  refine b_icmp_lt (tgt := 11) C dX6_append_6 (by decide) hm (fun hm => ?_) (fun hm => ?_)
  · refine b_aload_n C dX6_append_11 rfl 0 rfl ?_
    refine gfX6_9 C 0 rfl rfl dX6_append_12 ?_
    refine b_aload_n C dX6_append_15 rfl 0 rfl ?_
    refine gfX6_22 C 0 rfl rfl dX6_append_16 ?_
    refine b_iload_n C dX6_append_19 rfl 1 rfl ?_
    refine b_iast C 1 rfl dX6_append_20 hm (fun f1 hm => Wb.to (w' := [(A_th, oO 5 [.ref A_th_places, .ref A_th_digits, .ref A_th_hads, .int th_count]), (A_th_places, iA g 6 f1), (A_th_digits, iA g 6 th_digits), (A_th_hads, zA g 6 th_hads)]) rfl ?_)
    refine b_aload_n C dX6_append_21 rfl 0 rfl ?_
    refine gfX6_15 C 0 rfl rfl dX6_append_22 ?_
    refine b_aload_n C dX6_append_25 rfl 0 rfl ?_
    refine gfX6_22 C 0 rfl rfl dX6_append_26 ?_
    refine b_iload_n C dX6_append_29 rfl 2 rfl ?_
    refine b_iast C 2 rfl dX6_append_30 hm (fun f2 hm => Wb.to (w' := [(A_th, oO 5 [.ref A_th_places, .ref A_th_digits, .ref A_th_hads, .int th_count]), (A_th_places, iA g 6 f1), (A_th_digits, iA g 6 f2), (A_th_hads, zA g 6 th_hads)]) rfl ?_)
    refine b_aload_n C dX6_append_31 rfl 0 rfl ?_
    refine gfX6_18 C 0 rfl rfl dX6_append_32 ?_
    refine b_aload_n C dX6_append_35 rfl 0 rfl ?_
    refine gfX6_22 C 0 rfl rfl dX6_append_36 ?_
    refine b_iload_n C dX6_append_39 rfl 3 rfl ?_
    refine b_zast C 3 rfl dX6_append_40 hm (fun f3 hm => Wb.to (w' := [(A_th, oO 5 [.ref A_th_places, .ref A_th_digits, .ref A_th_hads, .int th_count]), (A_th_places, iA g 6 f1), (A_th_digits, iA g 6 f2), (A_th_hads, zA g 6 f3)]) rfl ?_)
    refine b_aload_n C dX6_append_41 rfl 0 rfl ?_
    refine b_dup C dX6_append_42 rfl ?_
    refine gfX6_22 C 0 rfl rfl dX6_append_43 ?_
    refine b_iconst (v := 1) C dX6_append_46 (by decide) ?_
    refine b_iadd C dX6_append_47 ?_
    refine b_topi hm (fun z4 hm => ?_)
    refine pfX6_22 (w' := [(A_th, oO 5 [.ref A_th_places, .ref A_th_digits, .ref A_th_hads, .int z4]), (A_th_places, iA g 6 f1), (A_th_digits, iA g 6 f2), (A_th_hads, zA g 6 f3)]) C rfl rfl 0 rfl (Nat.le_of_ble_eq_true rfl) dX6_append_48 rfl ?_
    refine b_iconst (v := 1) C dX6_append_51 (by decide) ?_
    cases hm
    exact b_zret (v := 1) C (by decide) dX6_append_52
  · refine b_iconst (v := 0) C dX6_append_9 (by decide) ?_
    cases hm
    exact b_zret (v := 0) C (by decide) dX6_append_10
/-- BreakLearner.see(III)I -/
def m_X10_see (F : Nat)  (n1 : Int32) (n2 : Int32) (n3 : Int32) (th_seen_count : Int32) (th_seen_places : (Nat → Int32)) (th_seen_digits : (Nat → Int32)) (th_seen_hads : (Nat → Int32)) : Option (Int32 × Int32 × (Nat → Int32) × (Nat → Int32) × (Nat → Int32)) :=
  if n1 < 0 then
    some ((-2), th_seen_count, th_seen_places, th_seen_digits, th_seen_hads)
  else
    if 1 < n1 then
      some ((-2), th_seen_count, th_seen_places, th_seen_digits, th_seen_hads)
    else
      if n2 < 0 then
        some ((-2), th_seen_count, th_seen_places, th_seen_digits, th_seen_hads)
      else
        if 4 < n2 then
          some ((-2), th_seen_count, th_seen_places, th_seen_digits, th_seen_hads)
        else
          if n3 < 0 then
            some ((-2), th_seen_count, th_seen_places, th_seen_digits, th_seen_hads)
          else
            if n3 ≤ 1 then
              jn1 (fun (y1 : Int32) =>
                bK5 (m_X6_append F n1 n2 y1 th_seen_count th_seen_places th_seen_digits th_seen_hads) (fun r3 z4 f5 f6 f7 =>
                if r3 = 0 then
                  some ((-4), z4, f5, f6, f7)
                else
                  some (z4, z4, f5, f6, f7)
                )
                ) (fun k2 =>
                if n3 = 1 then
                  k2 1
                else
                  k2 0
                )
            else
              some ((-2), th_seen_count, th_seen_places, th_seen_digits, th_seen_hads)
abbrev rmX10_see : Room := { frames := 1, cells := 0, slots := 0, locals := 23 }
set_option maxHeartbeats 4000000 in
set_option maxRecDepth 100000 in
theorem c_X10_see (l : Launch) (g : Gl) (A_th A_th_seen A_th_seen_places A_th_seen_digits A_th_seen_hads : Nat) (V_th_text V_th_stock V_th_index V_th_learning V_th_doings V_th_tree V_th_judging V_th_chances V_th_shelves V_th_onShelf V_th_theSeed : Value)  (n1 : Int32) (n2 : Int32) (n3 : Int32) (th_seen_count : Int32) (th_seen_places : (Nat → Int32)) (th_seen_digits : (Nat → Int32)) (th_seen_hads : (Nat → Int32)) (F : Nat) (u : Int32 × Int32 × (Nat → Int32) × (Nat → Int32) × (Nat → Int32)) (hm : m_X10_see F n1 n2 n3 th_seen_count th_seen_places th_seen_digits th_seen_hads = some u) : Ct l g yX10_see cX10_see 4 (some .int) rmX10_see [.ref A_th, .int n1, .int n2, .int n3] [(A_th, oO 9 [V_th_text, V_th_stock, V_th_index, V_th_learning, V_th_doings, V_th_tree, .ref A_th_seen, V_th_judging, V_th_chances, V_th_shelves, V_th_onShelf, V_th_theSeed]), (A_th_seen, oO 5 [.ref A_th_seen_places, .ref A_th_seen_digits, .ref A_th_seen_hads, .int th_seen_count]), (A_th_seen_places, iA g 6 th_seen_places), (A_th_seen_digits, iA g 6 th_seen_digits), (A_th_seen_hads, zA g 6 th_seen_hads)] (some (.int u.1)) [(A_th, oO 9 [V_th_text, V_th_stock, V_th_index, V_th_learning, V_th_doings, V_th_tree, .ref A_th_seen, V_th_judging, V_th_chances, V_th_shelves, V_th_onShelf, V_th_theSeed]), (A_th_seen, oO 5 [.ref A_th_seen_places, .ref A_th_seen_digits, .ref A_th_seen_hads, .int u.2.1]), (A_th_seen_places, iA g 6 u.2.2.1), (A_th_seen_digits, iA g 6 u.2.2.2.1), (A_th_seen_hads, zA g 6 u.2.2.2.2)] := by
  refine ent (own := RX10) (lv := [(0, .ref A_th), (1, .int n1), (2, .int n2), (3, .int n3)]) (by decide) rfl (Nat.le_of_ble_eq_true rfl) rfl rfl ?_
  intro x C
  unfold m_X10_see at hm
  refine b_iload_n C dX10_see_0 rfl 1 rfl ?_
  refine b_if_lt (tgt := 27) C dX10_see_1 (by decide) hm (fun hm => ?_) (fun hm => ?_)
  · refine b_bipush (v := (-2)) C dX10_see_27 (by decide) ?_
    cases hm
    exact b_iret C dX10_see_29
  · refine b_iload_n C dX10_see_4 rfl 1 rfl ?_
    refine b_iconst (v := 1) C dX10_see_5 (by decide) ?_
    refine b_icmp_gt (tgt := 27) C dX10_see_6 (by decide) hm (fun hm => ?_) (fun hm => ?_)
    · refine b_bipush (v := (-2)) C dX10_see_27 (by decide) ?_
      cases hm
      exact b_iret C dX10_see_29
    · refine b_iload_n C dX10_see_9 rfl 2 rfl ?_
      refine b_if_lt (tgt := 27) C dX10_see_10 (by decide) hm (fun hm => ?_) (fun hm => ?_)
      · refine b_bipush (v := (-2)) C dX10_see_27 (by decide) ?_
        cases hm
        exact b_iret C dX10_see_29
      · refine b_iload_n C dX10_see_13 rfl 2 rfl ?_
        refine b_iconst (v := 4) C dX10_see_14 (by decide) ?_
        refine b_icmp_gt (tgt := 27) C dX10_see_15 (by decide) hm (fun hm => ?_) (fun hm => ?_)
        · refine b_bipush (v := (-2)) C dX10_see_27 (by decide) ?_
          cases hm
          exact b_iret C dX10_see_29
        · refine b_iload_n C dX10_see_18 rfl 3 rfl ?_
          refine b_if_lt (tgt := 27) C dX10_see_19 (by decide) hm (fun hm => ?_) (fun hm => ?_)
          · refine b_bipush (v := (-2)) C dX10_see_27 (by decide) ?_
            cases hm
            exact b_iret C dX10_see_29
          · refine b_iload_n C dX10_see_22 rfl 3 rfl ?_
            refine b_iconst (v := 1) C dX10_see_23 (by decide) ?_
            refine b_icmp_le (tgt := 30) C dX10_see_24 (by decide) hm (fun hm => ?_) (fun hm => ?_)
            · refine b_aload_n C dX10_see_30 rfl 0 rfl ?_
              refine gfX10_56 C 0 rfl rfl dX10_see_31 ?_
              refine b_iload_n C dX10_see_34 rfl 1 rfl ?_
              refine b_iload_n C dX10_see_35 rfl 2 rfl ?_
              refine b_iload_n C dX10_see_36 rfl 3 rfl ?_
              refine b_iconst (v := 1) C dX10_see_37 (by decide) ?_
              obtain ⟨k2, hk2, hm⟩ := jn1_some hm
              have jk2 : ∀ (y1 : Int32), k2 y1 = some u → Wb x [(A_th, oO 9 [V_th_text, V_th_stock, V_th_index, V_th_learning, V_th_doings, V_th_tree, .ref A_th_seen, V_th_judging, V_th_chances, V_th_shelves, V_th_onShelf, V_th_theSeed]), (A_th_seen, oO 5 [.ref A_th_seen_places, .ref A_th_seen_digits, .ref A_th_seen_hads, .int th_seen_count]), (A_th_seen_places, iA g 6 th_seen_places), (A_th_seen_digits, iA g 6 th_seen_digits), (A_th_seen_hads, zA g 6 th_seen_hads)] [(0, .ref A_th)] 46 [.int y1, .int n2, .int n1, .ref A_th_seen] := by
                intro y1 hm
                have hm := hk2 _ hm
                obtain ⟨r3, z4, f5, f6, f7, hM, hm⟩ := bK5_some hm
                refine b_kV (w' := [(A_th, oO 9 [V_th_text, V_th_stock, V_th_index, V_th_learning, V_th_doings, V_th_tree, .ref A_th_seen, V_th_judging, V_th_chances, V_th_shelves, V_th_onShelf, V_th_theSeed]), (A_th_seen, oO 5 [.ref A_th_seen_places, .ref A_th_seen_digits, .ref A_th_seen_hads, .int z4]), (A_th_seen_places, iA g 6 f5), (A_th_seen_digits, iA g 6 f6), (A_th_seen_hads, zA g 6 f7)]) (st := []) (st2 := [.int r3]) C cv_X6_append tb778 (c_X6_append l g A_th_seen A_th_seen_places A_th_seen_digits A_th_seen_hads n1 n2 y1 th_seen_count th_seen_places th_seen_digits th_seen_hads F (r3, z4, f5, f6, f7) hM) rfl 1 rfl rfl ⟨rfl, rfl, by decide, by decide⟩ (Nat.le_of_ble_eq_true rfl) [1, 2, 3, 4] rfl (by decide) rfl rfl dX10_see_46 [none, some 0, some 1, some 2, some 3] (by decide) ⟨rfl, ⟨⟨rfl, rfl⟩, ⟨⟨rfl, rfl⟩, ⟨⟨rfl, rfl⟩, ⟨⟨rfl, rfl⟩, trivial⟩⟩⟩⟩⟩ rfl ?_
                refine b_if_eq (tgt := 62) C dX10_see_49 (by decide) hm (fun hm => ?_) (fun hm => ?_)
                · refine b_bipush (v := (-4)) C dX10_see_62 (by decide) ?_
                  cases hm
                  exact b_iret C dX10_see_64
                · refine b_aload_n C dX10_see_52 rfl 0 rfl ?_
                  refine gfX10_56 C 0 rfl rfl dX10_see_53 ?_
                  refine gfX10_137 C 1 rfl rfl dX10_see_56 ?_
                  refine b_goto (tgt := 64) C dX10_see_59 (by decide) ?_
                  cases hm
                  exact b_iret C dX10_see_64
              refine b_icmp_ne (tgt := 45) C dX10_see_38 (by decide) hm (fun hm => ?_) (fun hm => ?_)
              · refine b_iconst (v := 0) C dX10_see_45 (by decide) ?_
                exact Wb.lv (jk2 0 hm) [0] rfl
              · refine b_iconst (v := 1) C dX10_see_41 (by decide) ?_
                refine b_goto (tgt := 46) C dX10_see_42 (by decide) ?_
                exact Wb.lv (jk2 1 hm) [0] rfl
            · refine b_bipush (v := (-2)) C dX10_see_27 (by decide) ?_
              cases hm
              exact b_iret C dX10_see_29
/-- BreakLearner.unsee()I -/
def m_X10_unsee (F : Nat)   (th_seen_count : Int32) : Option (Int32 × Int32) :=
  some (th_seen_count, 0)
abbrev rmX10_unsee : Room := { frames := 0, cells := 0, slots := 0, locals := 0 }
set_option maxHeartbeats 4000000 in
set_option maxRecDepth 100000 in
theorem c_X10_unsee (l : Launch) (g : Gl) (A_th A_th_seen : Nat) (V_th_text V_th_stock V_th_index V_th_learning V_th_doings V_th_tree V_th_judging V_th_chances V_th_shelves V_th_onShelf V_th_theSeed V_th_seen_places V_th_seen_digits V_th_seen_hads : Value)   (th_seen_count : Int32) (F : Nat) (u : Int32 × Int32) (hm : m_X10_unsee F th_seen_count = some u) : Ct l g yX10_unsee cX10_unsee 2 (some .int) rmX10_unsee [.ref A_th] [(A_th, oO 9 [V_th_text, V_th_stock, V_th_index, V_th_learning, V_th_doings, V_th_tree, .ref A_th_seen, V_th_judging, V_th_chances, V_th_shelves, V_th_onShelf, V_th_theSeed]), (A_th_seen, oO 5 [V_th_seen_places, V_th_seen_digits, V_th_seen_hads, .int th_seen_count])] (some (.int u.1)) [(A_th, oO 9 [V_th_text, V_th_stock, V_th_index, V_th_learning, V_th_doings, V_th_tree, .ref A_th_seen, V_th_judging, V_th_chances, V_th_shelves, V_th_onShelf, V_th_theSeed]), (A_th_seen, oO 5 [V_th_seen_places, V_th_seen_digits, V_th_seen_hads, .int u.2])] := by
  refine ent (own := RX10) (lv := [(0, .ref A_th)]) (by decide) rfl (Nat.le_of_ble_eq_true rfl) rfl rfl ?_
  intro x C
  unfold m_X10_unsee at hm
  refine b_aload_n C dX10_unsee_0 rfl 0 rfl ?_
  refine gfX10_56 C 0 rfl rfl dX10_unsee_1 ?_
  refine gfX10_137 C 1 rfl rfl dX10_unsee_4 ?_
  refine b_istore_n (lv' := [(1, .int th_seen_count), (0, .ref A_th)]) C dX10_unsee_7 rfl (by decide) rfl ?_
  refine b_aload_n C dX10_unsee_8 rfl 1 rfl ?_
  refine gfX10_56 C 0 rfl rfl dX10_unsee_9 ?_
  refine b_iconst (v := 0) C dX10_unsee_12 (by decide) ?_
  refine pfX10_137 (w' := [(A_th, oO 9 [V_th_text, V_th_stock, V_th_index, V_th_learning, V_th_doings, V_th_tree, .ref A_th_seen, V_th_judging, V_th_chances, V_th_shelves, V_th_onShelf, V_th_theSeed]), (A_th_seen, oO 5 [V_th_seen_places, V_th_seen_digits, V_th_seen_hads, .int 0])]) C rfl rfl 1 rfl (Nat.le_of_ble_eq_true rfl) dX10_unsee_13 rfl ?_
  refine b_iload_n C dX10_unsee_16 rfl 0 rfl ?_
  cases hm
  exact b_iret C dX10_unsee_17
/-- BreakLearner$Seen.lettersOf(I)I -/
def m_X6_lettersOf (F : Nat)  (n1 : Int32)  : Option (Int32) :=
  some ((((((n1 / 25) + 1) * 100) + (((irm (n1 / 5) 5) + 1) * 10)) + (irm n1 5)) + 1)
abbrev rmX6_lettersOf : Room := { frames := 0, cells := 0, slots := 0, locals := 0 }
set_option maxHeartbeats 4000000 in
set_option maxRecDepth 100000 in
theorem c_X6_lettersOf (l : Launch) (g : Gl)  (n1 : Int32)  (F : Nat) (u : Int32) (hm : m_X6_lettersOf F n1 = some u) : Ct l g yX6_lettersOf cX6_lettersOf 1 (some .int) rmX6_lettersOf [.int n1] [] (some (.int u)) [] := by
  refine ent (own := RX6) (lv := [(0, .int n1)]) (by decide) rfl (Nat.le_of_ble_eq_true rfl) rfl rfl ?_
  intro x C
  unfold m_X6_lettersOf at hm
  refine b_iload_n C dX6_lettersOf_0 rfl 0 rfl ?_
  refine b_bipush (v := 25) C dX6_lettersOf_1 (by decide) ?_
  refine b_idiv C dX6_lettersOf_3 (by decide) ?_
  refine b_iconst (v := 1) C dX6_lettersOf_4 (by decide) ?_
  refine b_iadd C dX6_lettersOf_5 ?_
  refine b_bipush (v := 100) C dX6_lettersOf_6 (by decide) ?_
  refine b_imul C dX6_lettersOf_8 ?_
  refine b_iload_n C dX6_lettersOf_9 rfl 0 rfl ?_
  refine b_iconst (v := 5) C dX6_lettersOf_10 (by decide) ?_
  refine b_idiv C dX6_lettersOf_11 (by decide) ?_
  refine b_iconst (v := 5) C dX6_lettersOf_12 (by decide) ?_
  refine b_irem C dX6_lettersOf_13 (by decide) ?_
  refine b_iconst (v := 1) C dX6_lettersOf_14 (by decide) ?_
  refine b_iadd C dX6_lettersOf_15 ?_
  refine b_bipush (v := 10) C dX6_lettersOf_16 (by decide) ?_
  refine b_imul C dX6_lettersOf_18 ?_
  refine b_iadd C dX6_lettersOf_19 ?_
  refine b_iload_n C dX6_lettersOf_20 rfl 0 rfl ?_
  refine b_iconst (v := 5) C dX6_lettersOf_21 (by decide) ?_
  refine b_irem C dX6_lettersOf_22 (by decide) ?_
  refine b_iadd C dX6_lettersOf_23 ?_
  refine b_iconst (v := 1) C dX6_lettersOf_24 (by decide) ?_
  refine b_iadd C dX6_lettersOf_25 ?_
  cases hm
  exact b_iret C dX6_lettersOf_26
/-- BreakLearner$Seen.agrees(LBreakLearner$Learning;I)Z -/
def m_X6_agrees (F : Nat)  (n2 : Int32) (th_count : Int32) (p1_index_size : Int32) (p1_index_signs : (Nat → Int32)) (th_places : (Nat → Int32)) (p1_levels : (Nat → Int32)) (p1_index_numbers : (Nat → Int32)) (th_digits : (Nat → Int32)) (th_hads : (Nat → Int32)) : Option (Int32 × Int32 × (Nat → Int32)) :=
  bK2 (m_X3_spell F n2 3 p1_index_size p1_index_signs) (fun z1 f2 =>
  wl1 (fun (x4 : Int32) c3 =>
    if th_count ≤ x4 then
      some (1, z1, f2)
    else
      rdK 6 th_places x4 (fun v5 =>
      bK1 (m_X5_digitOfSpelt F v5 z1 f2 p1_levels p1_index_numbers) (fun r6 =>
      rdK 6 th_digits x4 (fun v7 =>
      jn1 (fun (y8 : Int32) =>
        rdK 6 th_hads x4 (fun v10 =>
        if y8 = v10 then
          c3 (x4 + 1)
        else
          some (0, z1, f2)
        )
        ) (fun k9 =>
        if r6 = v7 then
          k9 1
        else
          k9 0
        )
      )
      )
      )
    ) F 0
  )
abbrev rmX6_agrees : Room := { frames := 2, cells := 0, slots := 0, locals := 51 }
set_option maxHeartbeats 4000000 in
set_option maxRecDepth 100000 in
theorem c_X6_agrees (l : Launch) (g : Gl) (A_th A_p1 A_p1_index A_p1_index_signs A_th_places A_p1_levels A_p1_index_numbers A_th_digits A_th_hads : Nat) (V_p1_good V_p1_bad V_p1_digits V_p1_index_codes V_p1_index_fits V_p1_index_known V_p1_index_starts : Value)  (n2 : Int32) (th_count : Int32) (p1_index_size : Int32) (p1_index_signs : (Nat → Int32)) (th_places : (Nat → Int32)) (p1_levels : (Nat → Int32)) (p1_index_numbers : (Nat → Int32)) (th_digits : (Nat → Int32)) (th_hads : (Nat → Int32)) (F : Nat) (u : Int32 × Int32 × (Nat → Int32)) (hm : m_X6_agrees F n2 th_count p1_index_size p1_index_signs th_places p1_levels p1_index_numbers th_digits th_hads = some u) : Ct l g yX6_agrees cX6_agrees 4 (some .boolean) rmX6_agrees [.ref A_th, .ref A_p1, .int n2] [(A_th, oO 5 [.ref A_th_places, .ref A_th_digits, .ref A_th_hads, .int th_count]), (A_p1, oO 4 [.ref A_p1_index, .ref A_p1_levels, V_p1_good, V_p1_bad, V_p1_digits]), (A_p1_index, oO 2 [.ref A_p1_index_numbers, V_p1_index_codes, V_p1_index_fits, V_p1_index_known, V_p1_index_starts, .ref A_p1_index_signs, .int p1_index_size]), (A_p1_index_signs, iA g 8 p1_index_signs), (A_th_places, iA g 6 th_places), (A_p1_levels, iA g 270 p1_levels), (A_p1_index_numbers, iA g 1372 p1_index_numbers), (A_th_digits, iA g 6 th_digits), (A_th_hads, zA g 6 th_hads)] (some (.int u.1)) [(A_th, oO 5 [.ref A_th_places, .ref A_th_digits, .ref A_th_hads, .int th_count]), (A_p1, oO 4 [.ref A_p1_index, .ref A_p1_levels, V_p1_good, V_p1_bad, V_p1_digits]), (A_p1_index, oO 2 [.ref A_p1_index_numbers, V_p1_index_codes, V_p1_index_fits, V_p1_index_known, V_p1_index_starts, .ref A_p1_index_signs, .int u.2.1]), (A_p1_index_signs, iA g 8 u.2.2), (A_th_places, iA g 6 th_places), (A_p1_levels, iA g 270 p1_levels), (A_p1_index_numbers, iA g 1372 p1_index_numbers), (A_th_digits, iA g 6 th_digits), (A_th_hads, zA g 6 th_hads)] := by
  refine ent (own := RX6) (lv := [(0, .ref A_th), (1, .ref A_p1), (2, .int n2)]) (by decide) rfl (Nat.le_of_ble_eq_true rfl) rfl rfl ?_
  intro x C
  unfold m_X6_agrees at hm
  refine b_aload_n C dX6_agrees_0 rfl 1 rfl ?_
  refine gfX6_34 C 1 rfl rfl dX6_agrees_1 ?_
  refine b_iload_n C dX6_agrees_4 rfl 2 rfl ?_
  refine b_iconst (v := 3) C dX6_agrees_5 (by decide) ?_
  obtain ⟨z1, f2, hM, hm⟩ := bK2_some hm
  refine b_kV (w' := [(A_th, oO 5 [.ref A_th_places, .ref A_th_digits, .ref A_th_hads, .int th_count]), (A_p1, oO 4 [.ref A_p1_index, .ref A_p1_levels, V_p1_good, V_p1_bad, V_p1_digits]), (A_p1_index, oO 2 [.ref A_p1_index_numbers, V_p1_index_codes, V_p1_index_fits, V_p1_index_known, V_p1_index_starts, .ref A_p1_index_signs, .int z1]), (A_p1_index_signs, iA g 8 f2), (A_th_places, iA g 6 th_places), (A_p1_levels, iA g 270 p1_levels), (A_p1_index_numbers, iA g 1372 p1_index_numbers), (A_th_digits, iA g 6 th_digits), (A_th_hads, zA g 6 th_hads)]) (st := []) (st2 := []) C cv_X3_spell tb801 (c_X3_spell l g A_p1_index A_p1_index_signs (.ref A_p1_index_numbers) V_p1_index_codes V_p1_index_fits V_p1_index_known V_p1_index_starts n2 3 p1_index_size p1_index_signs F (z1, f2) hM) rfl 2 rfl rfl ⟨rfl, rfl, by decide, by decide⟩ (Nat.le_of_ble_eq_true rfl) [2, 3] rfl (by decide) rfl rfl dX6_agrees_6 [none, none, some 0, some 1, none, none, none, none, none] (by decide) ⟨rfl, ⟨rfl, ⟨⟨rfl, rfl⟩, ⟨⟨rfl, rfl⟩, ⟨rfl, ⟨rfl, ⟨rfl, ⟨rfl, ⟨rfl, trivial⟩⟩⟩⟩⟩⟩⟩⟩⟩ rfl ?_
  refine b_iconst (v := 0) C dX6_agrees_9 (by decide) ?_
  refine b_istore_n (lv' := [(3, .int 0), (0, .ref A_th), (1, .ref A_p1), (2, .int n2)]) C dX6_agrees_10 rfl (by decide) rfl ?_
  refine Wb.lv (lv' := [(0, .ref A_th), (1, .ref A_p1), (3, .int 0)]) ?_ [1, 2, 0] rfl
  refine wl1_W (Wg := fun (x4 : Int32) => Wb x [(A_th, oO 5 [.ref A_th_places, .ref A_th_digits, .ref A_th_hads, .int th_count]), (A_p1, oO 4 [.ref A_p1_index, .ref A_p1_levels, V_p1_good, V_p1_bad, V_p1_digits]), (A_p1_index, oO 2 [.ref A_p1_index_numbers, V_p1_index_codes, V_p1_index_fits, V_p1_index_known, V_p1_index_starts, .ref A_p1_index_signs, .int z1]), (A_p1_index_signs, iA g 8 f2), (A_th_places, iA g 6 th_places), (A_p1_levels, iA g 270 p1_levels), (A_p1_index_numbers, iA g 1372 p1_index_numbers), (A_th_digits, iA g 6 th_digits), (A_th_hads, zA g 6 th_hads)] [(0, .ref A_th), (1, .ref A_p1), (3, .int x4)] 11 []) ?_ F 0 hm
  intro x4 c3 hc3 hm
  refine b_iload_n C dX6_agrees_11 rfl 2 rfl ?_
  refine b_aload_n C dX6_agrees_12 rfl 0 rfl ?_
  refine gfX6_22 C 0 rfl rfl dX6_agrees_13 ?_
  refine b_icmp_ge (tgt := 60) C dX6_agrees_16 (by decide) hm (fun hm => ?_) (fun hm => ?_)
  · refine b_iconst (v := 1) C dX6_agrees_60 (by decide) ?_
    cases hm
    exact b_zret (v := 1) C (by decide) dX6_agrees_61
  · refine b_aload_n C dX6_agrees_19 rfl 1 rfl ?_
    refine b_aload_n C dX6_agrees_20 rfl 0 rfl ?_
    refine gfX6_9 C 0 rfl rfl dX6_agrees_21 ?_
    refine b_iload_n C dX6_agrees_24 rfl 2 rfl ?_
    refine b_iald C 4 rfl dX6_agrees_25 hm (fun v5 hm => ?_)
    obtain ⟨r6, hM, hm⟩ := bK1_some hm
    refine b_kV (w' := [(A_th, oO 5 [.ref A_th_places, .ref A_th_digits, .ref A_th_hads, .int th_count]), (A_p1, oO 4 [.ref A_p1_index, .ref A_p1_levels, V_p1_good, V_p1_bad, V_p1_digits]), (A_p1_index, oO 2 [.ref A_p1_index_numbers, V_p1_index_codes, V_p1_index_fits, V_p1_index_known, V_p1_index_starts, .ref A_p1_index_signs, .int z1]), (A_p1_index_signs, iA g 8 f2), (A_th_places, iA g 6 th_places), (A_p1_levels, iA g 270 p1_levels), (A_p1_index_numbers, iA g 1372 p1_index_numbers), (A_th_digits, iA g 6 th_digits), (A_th_hads, zA g 6 th_hads)]) (st := []) (st2 := [.int r6]) C cv_X5_digitOfSpelt tb802 (c_X5_digitOfSpelt l g A_p1 A_p1_index A_p1_index_signs A_p1_levels A_p1_index_numbers V_p1_good V_p1_bad V_p1_digits V_p1_index_codes V_p1_index_fits V_p1_index_known V_p1_index_starts v5 z1 f2 p1_levels p1_index_numbers F r6 hM) rfl 1 rfl rfl ⟨rfl, rfl, by decide, by decide⟩ (Nat.le_of_ble_eq_true rfl) [1, 2, 3, 5, 6] rfl (by decide) rfl rfl dX6_agrees_26 [none, some 0, some 1, some 2, none, some 3, some 4, none, none] (by decide) ⟨rfl, ⟨⟨rfl, rfl⟩, ⟨⟨rfl, rfl⟩, ⟨⟨rfl, rfl⟩, ⟨rfl, ⟨⟨rfl, rfl⟩, ⟨⟨rfl, rfl⟩, ⟨rfl, ⟨rfl, trivial⟩⟩⟩⟩⟩⟩⟩⟩⟩ rfl ?_
    refine b_aload_n C dX6_agrees_29 rfl 0 rfl ?_
    refine gfX6_15 C 0 rfl rfl dX6_agrees_30 ?_
    refine b_iload_n C dX6_agrees_33 rfl 2 rfl ?_
    refine b_iald C 7 rfl dX6_agrees_34 hm (fun v7 hm => ?_)
    obtain ⟨k9, hk9, hm⟩ := jn1_some hm
    have jk9 : ∀ (y8 : Int32), k9 y8 = some u → Wb x [(A_th, oO 5 [.ref A_th_places, .ref A_th_digits, .ref A_th_hads, .int th_count]), (A_p1, oO 4 [.ref A_p1_index, .ref A_p1_levels, V_p1_good, V_p1_bad, V_p1_digits]), (A_p1_index, oO 2 [.ref A_p1_index_numbers, V_p1_index_codes, V_p1_index_fits, V_p1_index_known, V_p1_index_starts, .ref A_p1_index_signs, .int z1]), (A_p1_index_signs, iA g 8 f2), (A_th_places, iA g 6 th_places), (A_p1_levels, iA g 270 p1_levels), (A_p1_index_numbers, iA g 1372 p1_index_numbers), (A_th_digits, iA g 6 th_digits), (A_th_hads, zA g 6 th_hads)] [(0, .ref A_th), (1, .ref A_p1), (3, .int x4)] 43 [.int y8] := by
      intro y8 hm
      have hm := hk9 _ hm
      refine b_aload_n C dX6_agrees_43 rfl 0 rfl ?_
      refine gfX6_18 C 0 rfl rfl dX6_agrees_44 ?_
      refine b_iload_n C dX6_agrees_47 rfl 2 rfl ?_
      refine b_zald C 8 rfl dX6_agrees_48 hm (fun v10 hm => ?_)
      refine b_icmp_eq (tgt := 54) C dX6_agrees_49 (by decide) hm (fun hm => ?_) (fun hm => ?_)
      · refine b_iinc (v2 := x4 + 1) (lv' := [(3, .int (x4 + 1)), (0, .ref A_th), (1, .ref A_p1)]) C dX6_agrees_54 2 rfl rfl (by decide) rfl ?_
        refine b_goto (tgt := 11) C dX6_agrees_57 (by decide) ?_
        exact Wb.lv (hc3 (x4 + 1) hm) [1, 2, 0] rfl
      · refine b_iconst (v := 0) C dX6_agrees_52 (by decide) ?_
        cases hm
        exact b_zret (v := 0) C (by decide) dX6_agrees_53
    refine b_icmp_ne (tgt := 42) C dX6_agrees_35 (by decide) hm (fun hm => ?_) (fun hm => ?_)
    · refine b_iconst (v := 0) C dX6_agrees_42 (by decide) ?_
      exact Wb.lv (jk9 0 hm) [0, 1, 2] rfl
    · refine b_iconst (v := 1) C dX6_agrees_38 (by decide) ?_
      refine b_goto (tgt := 43) C dX6_agrees_39 (by decide) ?_
      exact Wb.lv (jk9 1 hm) [0, 1, 2] rfl
/-- BreakLearner$Seen.countWords(LBreakLearner$Learning;)I -/
def m_X6_countWords (F : Nat)   (th_count : Int32) (th_places : (Nat → Int32)) (th_digits : (Nat → Int32)) (th_hads : (Nat → Int32)) (p1_index_size : Int32) (p1_levels : (Nat → Int32)) (p1_index_signs : (Nat → Int32)) (p1_index_numbers : (Nat → Int32)) : Option (Int32 × Int32 × (Nat → Int32)) :=
  wl4 (fun (x2 : Int32) (x3 : Int32) (z4 : Int32) (f5 : (Nat → Int32)) c1 =>
    if 125 ≤ x3 then
      some (x2, z4, f5)
    else
      bK1 (m_X6_lettersOf F x3) (fun r6 =>
      bK3 (m_X6_agrees F r6 th_count z4 f5 th_places p1_levels p1_index_numbers th_digits th_hads) (fun r7 z8 f9 =>
      if r7 = 0 then
        c1 x2 (x3 + 1) z8 f9
      else
        c1 (x2 + 1) (x3 + 1) z8 f9
      )
      )
    ) F 0 0 p1_index_size p1_index_signs
abbrev rmX6_countWords : Room := { frames := 3, cells := 0, slots := 0, locals := 74 }
set_option maxHeartbeats 4000000 in
set_option maxRecDepth 100000 in
theorem c_X6_countWords (l : Launch) (g : Gl) (A_th A_p1 A_th_places A_th_digits A_th_hads A_p1_index A_p1_levels A_p1_index_signs A_p1_index_numbers : Nat) (V_p1_good V_p1_bad V_p1_digits V_p1_index_codes V_p1_index_fits V_p1_index_known V_p1_index_starts : Value)   (th_count : Int32) (th_places : (Nat → Int32)) (th_digits : (Nat → Int32)) (th_hads : (Nat → Int32)) (p1_index_size : Int32) (p1_levels : (Nat → Int32)) (p1_index_signs : (Nat → Int32)) (p1_index_numbers : (Nat → Int32)) (F : Nat) (u : Int32 × Int32 × (Nat → Int32)) (hm : m_X6_countWords F th_count th_places th_digits th_hads p1_index_size p1_levels p1_index_signs p1_index_numbers = some u) : Ct l g yX6_countWords cX6_countWords 4 (some .int) rmX6_countWords [.ref A_th, .ref A_p1] [(A_th, oO 5 [.ref A_th_places, .ref A_th_digits, .ref A_th_hads, .int th_count]), (A_p1, oO 4 [.ref A_p1_index, .ref A_p1_levels, V_p1_good, V_p1_bad, V_p1_digits]), (A_th_places, iA g 6 th_places), (A_th_digits, iA g 6 th_digits), (A_th_hads, zA g 6 th_hads), (A_p1_index, oO 2 [.ref A_p1_index_numbers, V_p1_index_codes, V_p1_index_fits, V_p1_index_known, V_p1_index_starts, .ref A_p1_index_signs, .int p1_index_size]), (A_p1_levels, iA g 270 p1_levels), (A_p1_index_signs, iA g 8 p1_index_signs), (A_p1_index_numbers, iA g 1372 p1_index_numbers)] (some (.int u.1)) [(A_th, oO 5 [.ref A_th_places, .ref A_th_digits, .ref A_th_hads, .int th_count]), (A_p1, oO 4 [.ref A_p1_index, .ref A_p1_levels, V_p1_good, V_p1_bad, V_p1_digits]), (A_th_places, iA g 6 th_places), (A_th_digits, iA g 6 th_digits), (A_th_hads, zA g 6 th_hads), (A_p1_index, oO 2 [.ref A_p1_index_numbers, V_p1_index_codes, V_p1_index_fits, V_p1_index_known, V_p1_index_starts, .ref A_p1_index_signs, .int u.2.1]), (A_p1_levels, iA g 270 p1_levels), (A_p1_index_signs, iA g 8 u.2.2), (A_p1_index_numbers, iA g 1372 p1_index_numbers)] := by
  refine ent (own := RX6) (lv := [(0, .ref A_th), (1, .ref A_p1)]) (by decide) rfl (Nat.le_of_ble_eq_true rfl) rfl rfl ?_
  intro x C
  unfold m_X6_countWords at hm
  refine b_iconst (v := 0) C dX6_countWords_0 (by decide) ?_
  refine b_istore_n (lv' := [(2, .int 0), (0, .ref A_th), (1, .ref A_p1)]) C dX6_countWords_1 rfl (by decide) rfl ?_
  refine b_iconst (v := 0) C dX6_countWords_2 (by decide) ?_
  refine b_istore_n (lv' := [(3, .int 0), (2, .int 0), (0, .ref A_th), (1, .ref A_p1)]) C dX6_countWords_3 rfl (by decide) rfl ?_
  refine Wb.lv (lv' := [(0, .ref A_th), (1, .ref A_p1), (2, .int 0), (3, .int 0)]) ?_ [2, 3, 1, 0] rfl
  refine wl4_W (Wg := fun (x2 : Int32) (x3 : Int32) (z4 : Int32) (f5 : (Nat → Int32)) => Wb x [(A_th, oO 5 [.ref A_th_places, .ref A_th_digits, .ref A_th_hads, .int th_count]), (A_p1, oO 4 [.ref A_p1_index, .ref A_p1_levels, V_p1_good, V_p1_bad, V_p1_digits]), (A_th_places, iA g 6 th_places), (A_th_digits, iA g 6 th_digits), (A_th_hads, zA g 6 th_hads), (A_p1_index, oO 2 [.ref A_p1_index_numbers, V_p1_index_codes, V_p1_index_fits, V_p1_index_known, V_p1_index_starts, .ref A_p1_index_signs, .int z4]), (A_p1_levels, iA g 270 p1_levels), (A_p1_index_signs, iA g 8 f5), (A_p1_index_numbers, iA g 1372 p1_index_numbers)] [(0, .ref A_th), (1, .ref A_p1), (2, .int x2), (3, .int x3)] 4 []) ?_ F 0 0 p1_index_size p1_index_signs hm
  intro x2 x3 z4 f5 c1 hc1 hm
  refine b_iload_n C dX6_countWords_4 rfl 3 rfl ?_
  refine b_bipush (v := 125) C dX6_countWords_5 (by decide) ?_
  refine b_icmp_ge (tgt := 31) C dX6_countWords_7 (by decide) hm (fun hm => ?_) (fun hm => ?_)
  · refine b_iload_n C dX6_countWords_31 rfl 2 rfl ?_
    cases hm
    exact b_iret C dX6_countWords_32
  · refine b_aload_n C dX6_countWords_10 rfl 0 rfl ?_
    refine b_aload_n C dX6_countWords_11 rfl 1 rfl ?_
    refine b_iload_n C dX6_countWords_12 rfl 3 rfl ?_
    obtain ⟨r6, hM, hm⟩ := bK1_some hm
    refine b_kS (w' := [(A_th, oO 5 [.ref A_th_places, .ref A_th_digits, .ref A_th_hads, .int th_count]), (A_p1, oO 4 [.ref A_p1_index, .ref A_p1_levels, V_p1_good, V_p1_bad, V_p1_digits]), (A_th_places, iA g 6 th_places), (A_th_digits, iA g 6 th_digits), (A_th_hads, zA g 6 th_hads), (A_p1_index, oO 2 [.ref A_p1_index_numbers, V_p1_index_codes, V_p1_index_fits, V_p1_index_known, V_p1_index_starts, .ref A_p1_index_signs, .int z4]), (A_p1_levels, iA g 270 p1_levels), (A_p1_index_signs, iA g 8 f5), (A_p1_index_numbers, iA g 1372 p1_index_numbers)]) (st := [.ref A_p1, .ref A_th]) (st2 := [.int r6, .ref A_p1, .ref A_th]) C cs_X6_lettersOf tb794 (c_X6_lettersOf l g x3 F r6 hM) rfl ⟨rfl, rfl, by decide, by decide⟩ (Nat.le_of_ble_eq_true rfl) [] rfl (by decide) rfl rfl dX6_countWords_13 [none, none, none, none, none, none, none, none, none] (by decide) ⟨rfl, ⟨rfl, ⟨rfl, ⟨rfl, ⟨rfl, ⟨rfl, ⟨rfl, ⟨rfl, ⟨rfl, trivial⟩⟩⟩⟩⟩⟩⟩⟩⟩ rfl ?_
    obtain ⟨r7, z8, f9, hM, hm⟩ := bK3_some hm
    refine b_kV (w' := [(A_th, oO 5 [.ref A_th_places, .ref A_th_digits, .ref A_th_hads, .int th_count]), (A_p1, oO 4 [.ref A_p1_index, .ref A_p1_levels, V_p1_good, V_p1_bad, V_p1_digits]), (A_th_places, iA g 6 th_places), (A_th_digits, iA g 6 th_digits), (A_th_hads, zA g 6 th_hads), (A_p1_index, oO 2 [.ref A_p1_index_numbers, V_p1_index_codes, V_p1_index_fits, V_p1_index_known, V_p1_index_starts, .ref A_p1_index_signs, .int z8]), (A_p1_levels, iA g 270 p1_levels), (A_p1_index_signs, iA g 8 f9), (A_p1_index_numbers, iA g 1372 p1_index_numbers)]) (st := []) (st2 := [.int r7]) C cv_X6_agrees tb797 (c_X6_agrees l g A_th A_p1 A_p1_index A_p1_index_signs A_th_places A_p1_levels A_p1_index_numbers A_th_digits A_th_hads V_p1_good V_p1_bad V_p1_digits V_p1_index_codes V_p1_index_fits V_p1_index_known V_p1_index_starts r6 th_count z4 f5 th_places p1_levels p1_index_numbers th_digits th_hads F (r7, z8, f9) hM) rfl 0 rfl rfl ⟨rfl, rfl, by decide, by decide⟩ (Nat.le_of_ble_eq_true rfl) [0, 1, 5, 7, 2, 6, 8, 3, 4] rfl (by decide) rfl rfl dX6_countWords_16 [some 0, some 1, some 4, some 7, some 8, some 2, some 5, some 3, some 6] (by decide) ⟨⟨rfl, rfl⟩, ⟨⟨rfl, rfl⟩, ⟨⟨rfl, rfl⟩, ⟨⟨rfl, rfl⟩, ⟨⟨rfl, rfl⟩, ⟨⟨rfl, rfl⟩, ⟨⟨rfl, rfl⟩, ⟨⟨rfl, rfl⟩, ⟨⟨rfl, rfl⟩, trivial⟩⟩⟩⟩⟩⟩⟩⟩⟩ rfl ?_
    refine b_if_eq (tgt := 25) C dX6_countWords_19 (by decide) hm (fun hm => ?_) (fun hm => ?_)
    · refine b_iinc (v2 := x3 + 1) (lv' := [(3, .int (x3 + 1)), (0, .ref A_th), (1, .ref A_p1), (2, .int x2)]) C dX6_countWords_25 3 rfl rfl (by decide) rfl ?_
      refine b_goto (tgt := 4) C dX6_countWords_28 (by decide) ?_
      exact Wb.lv (hc1 x2 (x3 + 1) z8 f9 hm) [1, 2, 3, 0] rfl
    · refine b_iinc (v2 := x2 + 1) (lv' := [(2, .int (x2 + 1)), (0, .ref A_th), (1, .ref A_p1), (3, .int x3)]) C dX6_countWords_22 2 rfl rfl (by decide) rfl ?_
      refine b_iinc (v2 := x3 + 1) (lv' := [(3, .int (x3 + 1)), (2, .int (x2 + 1)), (0, .ref A_th), (1, .ref A_p1)]) C dX6_countWords_25 3 rfl rfl (by decide) rfl ?_
      refine b_goto (tgt := 4) C dX6_countWords_28 (by decide) ?_
      exact Wb.lv (hc1 (x2 + 1) (x3 + 1) z8 f9 hm) [2, 3, 1, 0] rfl
/-- BreakLearner$Seen.firstWord(LBreakLearner$Learning;)I -/
def m_X6_firstWord (F : Nat)   (th_count : Int32) (th_places : (Nat → Int32)) (th_digits : (Nat → Int32)) (th_hads : (Nat → Int32)) (p1_index_size : Int32) (p1_levels : (Nat → Int32)) (p1_index_signs : (Nat → Int32)) (p1_index_numbers : (Nat → Int32)) : Option (Int32 × Int32 × (Nat → Int32)) :=
  wl3 (fun (x2 : Int32) (z3 : Int32) (f4 : (Nat → Int32)) c1 =>
    if 125 ≤ x2 then
      some ((-9), z3, f4)
    else
      bK1 (m_X6_lettersOf F x2) (fun r5 =>
      bK3 (m_X6_agrees F r5 th_count z3 f4 th_places p1_levels p1_index_numbers th_digits th_hads) (fun r6 z7 f8 =>
      if r6 = 0 then
        c1 (x2 + 1) z7 f8
      else
        bK1 (m_X6_lettersOf F x2) (fun r9 =>
        some (r9, z7, f8)
        )
      )
      )
    ) F 0 p1_index_size p1_index_signs
abbrev rmX6_firstWord : Room := { frames := 3, cells := 0, slots := 0, locals := 74 }
set_option maxHeartbeats 4000000 in
set_option maxRecDepth 100000 in
theorem c_X6_firstWord (l : Launch) (g : Gl) (A_th A_p1 A_th_places A_th_digits A_th_hads A_p1_index A_p1_levels A_p1_index_signs A_p1_index_numbers : Nat) (V_p1_good V_p1_bad V_p1_digits V_p1_index_codes V_p1_index_fits V_p1_index_known V_p1_index_starts : Value)   (th_count : Int32) (th_places : (Nat → Int32)) (th_digits : (Nat → Int32)) (th_hads : (Nat → Int32)) (p1_index_size : Int32) (p1_levels : (Nat → Int32)) (p1_index_signs : (Nat → Int32)) (p1_index_numbers : (Nat → Int32)) (F : Nat) (u : Int32 × Int32 × (Nat → Int32)) (hm : m_X6_firstWord F th_count th_places th_digits th_hads p1_index_size p1_levels p1_index_signs p1_index_numbers = some u) : Ct l g yX6_firstWord cX6_firstWord 3 (some .int) rmX6_firstWord [.ref A_th, .ref A_p1] [(A_th, oO 5 [.ref A_th_places, .ref A_th_digits, .ref A_th_hads, .int th_count]), (A_p1, oO 4 [.ref A_p1_index, .ref A_p1_levels, V_p1_good, V_p1_bad, V_p1_digits]), (A_th_places, iA g 6 th_places), (A_th_digits, iA g 6 th_digits), (A_th_hads, zA g 6 th_hads), (A_p1_index, oO 2 [.ref A_p1_index_numbers, V_p1_index_codes, V_p1_index_fits, V_p1_index_known, V_p1_index_starts, .ref A_p1_index_signs, .int p1_index_size]), (A_p1_levels, iA g 270 p1_levels), (A_p1_index_signs, iA g 8 p1_index_signs), (A_p1_index_numbers, iA g 1372 p1_index_numbers)] (some (.int u.1)) [(A_th, oO 5 [.ref A_th_places, .ref A_th_digits, .ref A_th_hads, .int th_count]), (A_p1, oO 4 [.ref A_p1_index, .ref A_p1_levels, V_p1_good, V_p1_bad, V_p1_digits]), (A_th_places, iA g 6 th_places), (A_th_digits, iA g 6 th_digits), (A_th_hads, zA g 6 th_hads), (A_p1_index, oO 2 [.ref A_p1_index_numbers, V_p1_index_codes, V_p1_index_fits, V_p1_index_known, V_p1_index_starts, .ref A_p1_index_signs, .int u.2.1]), (A_p1_levels, iA g 270 p1_levels), (A_p1_index_signs, iA g 8 u.2.2), (A_p1_index_numbers, iA g 1372 p1_index_numbers)] := by
  refine ent (own := RX6) (lv := [(0, .ref A_th), (1, .ref A_p1)]) (by decide) rfl (Nat.le_of_ble_eq_true rfl) rfl rfl ?_
  intro x C
  unfold m_X6_firstWord at hm
  refine b_iconst (v := 0) C dX6_firstWord_0 (by decide) ?_
  refine b_istore_n (lv' := [(2, .int 0), (0, .ref A_th), (1, .ref A_p1)]) C dX6_firstWord_1 rfl (by decide) rfl ?_
  refine Wb.lv (lv' := [(0, .ref A_th), (1, .ref A_p1), (2, .int 0)]) ?_ [1, 2, 0] rfl
  refine wl3_W (Wg := fun (x2 : Int32) (z3 : Int32) (f4 : (Nat → Int32)) => Wb x [(A_th, oO 5 [.ref A_th_places, .ref A_th_digits, .ref A_th_hads, .int th_count]), (A_p1, oO 4 [.ref A_p1_index, .ref A_p1_levels, V_p1_good, V_p1_bad, V_p1_digits]), (A_th_places, iA g 6 th_places), (A_th_digits, iA g 6 th_digits), (A_th_hads, zA g 6 th_hads), (A_p1_index, oO 2 [.ref A_p1_index_numbers, V_p1_index_codes, V_p1_index_fits, V_p1_index_known, V_p1_index_starts, .ref A_p1_index_signs, .int z3]), (A_p1_levels, iA g 270 p1_levels), (A_p1_index_signs, iA g 8 f4), (A_p1_index_numbers, iA g 1372 p1_index_numbers)] [(0, .ref A_th), (1, .ref A_p1), (2, .int x2)] 2 []) ?_ F 0 p1_index_size p1_index_signs hm
  intro x2 z3 f4 c1 hc1 hm
  refine b_iload_n C dX6_firstWord_2 rfl 2 rfl ?_
  refine b_bipush (v := 125) C dX6_firstWord_3 (by decide) ?_
  refine b_icmp_ge (tgt := 31) C dX6_firstWord_5 (by decide) hm (fun hm => ?_) (fun hm => ?_)
  · refine b_bipush (v := (-9)) C dX6_firstWord_31 (by decide) ?_
    cases hm
    exact b_iret C dX6_firstWord_33
  · refine b_aload_n C dX6_firstWord_8 rfl 0 rfl ?_
    refine b_aload_n C dX6_firstWord_9 rfl 1 rfl ?_
    refine b_iload_n C dX6_firstWord_10 rfl 2 rfl ?_
    obtain ⟨r5, hM, hm⟩ := bK1_some hm
    refine b_kS (w' := [(A_th, oO 5 [.ref A_th_places, .ref A_th_digits, .ref A_th_hads, .int th_count]), (A_p1, oO 4 [.ref A_p1_index, .ref A_p1_levels, V_p1_good, V_p1_bad, V_p1_digits]), (A_th_places, iA g 6 th_places), (A_th_digits, iA g 6 th_digits), (A_th_hads, zA g 6 th_hads), (A_p1_index, oO 2 [.ref A_p1_index_numbers, V_p1_index_codes, V_p1_index_fits, V_p1_index_known, V_p1_index_starts, .ref A_p1_index_signs, .int z3]), (A_p1_levels, iA g 270 p1_levels), (A_p1_index_signs, iA g 8 f4), (A_p1_index_numbers, iA g 1372 p1_index_numbers)]) (st := [.ref A_p1, .ref A_th]) (st2 := [.int r5, .ref A_p1, .ref A_th]) C cs_X6_lettersOf tb794 (c_X6_lettersOf l g x2 F r5 hM) rfl ⟨rfl, rfl, by decide, by decide⟩ (Nat.le_of_ble_eq_true rfl) [] rfl (by decide) rfl rfl dX6_firstWord_11 [none, none, none, none, none, none, none, none, none] (by decide) ⟨rfl, ⟨rfl, ⟨rfl, ⟨rfl, ⟨rfl, ⟨rfl, ⟨rfl, ⟨rfl, ⟨rfl, trivial⟩⟩⟩⟩⟩⟩⟩⟩⟩ rfl ?_
    obtain ⟨r6, z7, f8, hM, hm⟩ := bK3_some hm
    refine b_kV (w' := [(A_th, oO 5 [.ref A_th_places, .ref A_th_digits, .ref A_th_hads, .int th_count]), (A_p1, oO 4 [.ref A_p1_index, .ref A_p1_levels, V_p1_good, V_p1_bad, V_p1_digits]), (A_th_places, iA g 6 th_places), (A_th_digits, iA g 6 th_digits), (A_th_hads, zA g 6 th_hads), (A_p1_index, oO 2 [.ref A_p1_index_numbers, V_p1_index_codes, V_p1_index_fits, V_p1_index_known, V_p1_index_starts, .ref A_p1_index_signs, .int z7]), (A_p1_levels, iA g 270 p1_levels), (A_p1_index_signs, iA g 8 f8), (A_p1_index_numbers, iA g 1372 p1_index_numbers)]) (st := []) (st2 := [.int r6]) C cv_X6_agrees tb797 (c_X6_agrees l g A_th A_p1 A_p1_index A_p1_index_signs A_th_places A_p1_levels A_p1_index_numbers A_th_digits A_th_hads V_p1_good V_p1_bad V_p1_digits V_p1_index_codes V_p1_index_fits V_p1_index_known V_p1_index_starts r5 th_count z3 f4 th_places p1_levels p1_index_numbers th_digits th_hads F (r6, z7, f8) hM) rfl 0 rfl rfl ⟨rfl, rfl, by decide, by decide⟩ (Nat.le_of_ble_eq_true rfl) [0, 1, 5, 7, 2, 6, 8, 3, 4] rfl (by decide) rfl rfl dX6_firstWord_14 [some 0, some 1, some 4, some 7, some 8, some 2, some 5, some 3, some 6] (by decide) ⟨⟨rfl, rfl⟩, ⟨⟨rfl, rfl⟩, ⟨⟨rfl, rfl⟩, ⟨⟨rfl, rfl⟩, ⟨⟨rfl, rfl⟩, ⟨⟨rfl, rfl⟩, ⟨⟨rfl, rfl⟩, ⟨⟨rfl, rfl⟩, ⟨⟨rfl, rfl⟩, trivial⟩⟩⟩⟩⟩⟩⟩⟩⟩ rfl ?_
    refine b_if_eq (tgt := 25) C dX6_firstWord_17 (by decide) hm (fun hm => ?_) (fun hm => ?_)
    · refine b_iinc (v2 := x2 + 1) (lv' := [(2, .int (x2 + 1)), (0, .ref A_th), (1, .ref A_p1)]) C dX6_firstWord_25 2 rfl rfl (by decide) rfl ?_
      refine b_goto (tgt := 2) C dX6_firstWord_28 (by decide) ?_
      exact Wb.lv (hc1 (x2 + 1) z7 f8 hm) [1, 2, 0] rfl
    · refine b_iload_n C dX6_firstWord_20 rfl 2 rfl ?_
      obtain ⟨r9, hM, hm⟩ := bK1_some hm
      refine b_kS (w' := [(A_th, oO 5 [.ref A_th_places, .ref A_th_digits, .ref A_th_hads, .int th_count]), (A_p1, oO 4 [.ref A_p1_index, .ref A_p1_levels, V_p1_good, V_p1_bad, V_p1_digits]), (A_th_places, iA g 6 th_places), (A_th_digits, iA g 6 th_digits), (A_th_hads, zA g 6 th_hads), (A_p1_index, oO 2 [.ref A_p1_index_numbers, V_p1_index_codes, V_p1_index_fits, V_p1_index_known, V_p1_index_starts, .ref A_p1_index_signs, .int z7]), (A_p1_levels, iA g 270 p1_levels), (A_p1_index_signs, iA g 8 f8), (A_p1_index_numbers, iA g 1372 p1_index_numbers)]) (st := []) (st2 := [.int r9]) C cs_X6_lettersOf tb794 (c_X6_lettersOf l g x2 F r9 hM) rfl ⟨rfl, rfl, by decide, by decide⟩ (Nat.le_of_ble_eq_true rfl) [] rfl (by decide) rfl rfl dX6_firstWord_21 [none, none, none, none, none, none, none, none, none] (by decide) ⟨rfl, ⟨rfl, ⟨rfl, ⟨rfl, ⟨rfl, ⟨rfl, ⟨rfl, ⟨rfl, ⟨rfl, trivial⟩⟩⟩⟩⟩⟩⟩⟩⟩ rfl ?_
      cases hm
      exact b_iret C dX6_firstWord_24
/-- BreakLearner.which(I)I -/
def m_X10_which (F : Nat)  (n1 : Int32) (th_seen_count : Int32) (th_seen_places : (Nat → Int32)) (th_seen_digits : (Nat → Int32)) (th_seen_hads : (Nat → Int32)) (th_index_size : Int32) (th_learning_levels : (Nat → Int32)) (th_index_signs : (Nat → Int32)) (th_index_numbers : (Nat → Int32)) : Option (Int32 × Int32 × (Nat → Int32)) :=
  if n1 < 0 then
    some ((-2), th_index_size, th_index_signs)
  else
    if n1 ≤ 1 then
      if n1 = 0 then
        bK3 (m_X6_countWords F th_seen_count th_seen_places th_seen_digits th_seen_hads th_index_size th_learning_levels th_index_signs th_index_numbers) (fun r4 z5 f6 =>
        some (r4, z5, f6)
        )
      else
        bK3 (m_X6_firstWord F th_seen_count th_seen_places th_seen_digits th_seen_hads th_index_size th_learning_levels th_index_signs th_index_numbers) (fun r1 z2 f3 =>
        some (r1, z2, f3)
        )
    else
      some ((-2), th_index_size, th_index_signs)
abbrev rmX10_which : Room := { frames := 4, cells := 0, slots := 0, locals := 97 }
set_option maxHeartbeats 4000000 in
set_option maxRecDepth 100000 in
theorem c_X10_which (l : Launch) (g : Gl) (A_th A_th_seen A_th_learning A_th_seen_places A_th_seen_digits A_th_seen_hads A_th_index A_th_learning_levels A_th_index_signs A_th_index_numbers : Nat) (V_th_text V_th_stock V_th_index V_th_doings V_th_tree V_th_judging V_th_chances V_th_shelves V_th_onShelf V_th_theSeed V_th_learning_good V_th_learning_bad V_th_learning_digits V_th_index_codes V_th_index_fits V_th_index_known V_th_index_starts : Value)  (n1 : Int32) (th_seen_count : Int32) (th_seen_places : (Nat → Int32)) (th_seen_digits : (Nat → Int32)) (th_seen_hads : (Nat → Int32)) (th_index_size : Int32) (th_learning_levels : (Nat → Int32)) (th_index_signs : (Nat → Int32)) (th_index_numbers : (Nat → Int32)) (F : Nat) (u : Int32 × Int32 × (Nat → Int32)) (hm : m_X10_which F n1 th_seen_count th_seen_places th_seen_digits th_seen_hads th_index_size th_learning_levels th_index_signs th_index_numbers = some u) : Ct l g yX10_which cX10_which 2 (some .int) rmX10_which [.ref A_th, .int n1] [(A_th, oO 9 [V_th_text, V_th_stock, V_th_index, .ref A_th_learning, V_th_doings, V_th_tree, .ref A_th_seen, V_th_judging, V_th_chances, V_th_shelves, V_th_onShelf, V_th_theSeed]), (A_th_seen, oO 5 [.ref A_th_seen_places, .ref A_th_seen_digits, .ref A_th_seen_hads, .int th_seen_count]), (A_th_learning, oO 4 [.ref A_th_index, .ref A_th_learning_levels, V_th_learning_good, V_th_learning_bad, V_th_learning_digits]), (A_th_seen_places, iA g 6 th_seen_places), (A_th_seen_digits, iA g 6 th_seen_digits), (A_th_seen_hads, zA g 6 th_seen_hads), (A_th_index, oO 2 [.ref A_th_index_numbers, V_th_index_codes, V_th_index_fits, V_th_index_known, V_th_index_starts, .ref A_th_index_signs, .int th_index_size]), (A_th_learning_levels, iA g 270 th_learning_levels), (A_th_index_signs, iA g 8 th_index_signs), (A_th_index_numbers, iA g 1372 th_index_numbers)] (some (.int u.1)) [(A_th, oO 9 [V_th_text, V_th_stock, V_th_index, .ref A_th_learning, V_th_doings, V_th_tree, .ref A_th_seen, V_th_judging, V_th_chances, V_th_shelves, V_th_onShelf, V_th_theSeed]), (A_th_seen, oO 5 [.ref A_th_seen_places, .ref A_th_seen_digits, .ref A_th_seen_hads, .int th_seen_count]), (A_th_learning, oO 4 [.ref A_th_index, .ref A_th_learning_levels, V_th_learning_good, V_th_learning_bad, V_th_learning_digits]), (A_th_seen_places, iA g 6 th_seen_places), (A_th_seen_digits, iA g 6 th_seen_digits), (A_th_seen_hads, zA g 6 th_seen_hads), (A_th_index, oO 2 [.ref A_th_index_numbers, V_th_index_codes, V_th_index_fits, V_th_index_known, V_th_index_starts, .ref A_th_index_signs, .int u.2.1]), (A_th_learning_levels, iA g 270 th_learning_levels), (A_th_index_signs, iA g 8 u.2.2), (A_th_index_numbers, iA g 1372 th_index_numbers)] := by
  refine ent (own := RX10) (lv := [(0, .ref A_th), (1, .int n1)]) (by decide) rfl (Nat.le_of_ble_eq_true rfl) rfl rfl ?_
  intro x C
  unfold m_X10_which at hm
  refine b_iload_n C dX10_which_0 rfl 1 rfl ?_
  refine b_if_lt (tgt := 9) C dX10_which_1 (by decide) hm (fun hm => ?_) (fun hm => ?_)
  · refine b_bipush (v := (-2)) C dX10_which_9 (by decide) ?_
    cases hm
    exact b_iret C dX10_which_11
  · refine b_iload_n C dX10_which_4 rfl 1 rfl ?_
    refine b_iconst (v := 1) C dX10_which_5 (by decide) ?_
    refine b_icmp_le (tgt := 12) C dX10_which_6 (by decide) hm (fun hm => ?_) (fun hm => ?_)
    · refine b_iload_n C dX10_which_12 rfl 1 rfl ?_
      refine b_if_ne (tgt := 30) C dX10_which_13 (by decide) hm (fun hm => ?_) (fun hm => ?_)
      · refine b_aload_n C dX10_which_30 rfl 0 rfl ?_
        refine gfX10_56 C 0 rfl rfl dX10_which_31 ?_
        refine b_aload_n C dX10_which_34 rfl 0 rfl ?_
        refine gfX10_35 C 0 rfl rfl dX10_which_35 ?_
        obtain ⟨r1, z2, f3, hM, hm⟩ := bK3_some hm
        refine b_kV (w' := [(A_th, oO 9 [V_th_text, V_th_stock, V_th_index, .ref A_th_learning, V_th_doings, V_th_tree, .ref A_th_seen, V_th_judging, V_th_chances, V_th_shelves, V_th_onShelf, V_th_theSeed]), (A_th_seen, oO 5 [.ref A_th_seen_places, .ref A_th_seen_digits, .ref A_th_seen_hads, .int th_seen_count]), (A_th_learning, oO 4 [.ref A_th_index, .ref A_th_learning_levels, V_th_learning_good, V_th_learning_bad, V_th_learning_digits]), (A_th_seen_places, iA g 6 th_seen_places), (A_th_seen_digits, iA g 6 th_seen_digits), (A_th_seen_hads, zA g 6 th_seen_hads), (A_th_index, oO 2 [.ref A_th_index_numbers, V_th_index_codes, V_th_index_fits, V_th_index_known, V_th_index_starts, .ref A_th_index_signs, .int z2]), (A_th_learning_levels, iA g 270 th_learning_levels), (A_th_index_signs, iA g 8 f3), (A_th_index_numbers, iA g 1372 th_index_numbers)]) (st := []) (st2 := [.int r1]) C cv_X6_firstWord tb803 (c_X6_firstWord l g A_th_seen A_th_learning A_th_seen_places A_th_seen_digits A_th_seen_hads A_th_index A_th_learning_levels A_th_index_signs A_th_index_numbers V_th_learning_good V_th_learning_bad V_th_learning_digits V_th_index_codes V_th_index_fits V_th_index_known V_th_index_starts th_seen_count th_seen_places th_seen_digits th_seen_hads th_index_size th_learning_levels th_index_signs th_index_numbers F (r1, z2, f3) hM) rfl 1 rfl rfl ⟨rfl, rfl, by decide, by decide⟩ (Nat.le_of_ble_eq_true rfl) [1, 2, 3, 4, 5, 6, 7, 8, 9] rfl (by decide) rfl rfl dX10_which_38 [none, some 0, some 1, some 2, some 3, some 4, some 5, some 6, some 7, some 8] (by decide) ⟨rfl, ⟨⟨rfl, rfl⟩, ⟨⟨rfl, rfl⟩, ⟨⟨rfl, rfl⟩, ⟨⟨rfl, rfl⟩, ⟨⟨rfl, rfl⟩, ⟨⟨rfl, rfl⟩, ⟨⟨rfl, rfl⟩, ⟨⟨rfl, rfl⟩, ⟨⟨rfl, rfl⟩, trivial⟩⟩⟩⟩⟩⟩⟩⟩⟩⟩ rfl ?_
        cases hm
        exact b_iret C dX10_which_41
      · refine b_aload_n C dX10_which_16 rfl 0 rfl ?_
        refine gfX10_56 C 0 rfl rfl dX10_which_17 ?_
        refine b_aload_n C dX10_which_20 rfl 0 rfl ?_
        refine gfX10_35 C 0 rfl rfl dX10_which_21 ?_
        obtain ⟨r4, z5, f6, hM, hm⟩ := bK3_some hm
        refine b_kV (w' := [(A_th, oO 9 [V_th_text, V_th_stock, V_th_index, .ref A_th_learning, V_th_doings, V_th_tree, .ref A_th_seen, V_th_judging, V_th_chances, V_th_shelves, V_th_onShelf, V_th_theSeed]), (A_th_seen, oO 5 [.ref A_th_seen_places, .ref A_th_seen_digits, .ref A_th_seen_hads, .int th_seen_count]), (A_th_learning, oO 4 [.ref A_th_index, .ref A_th_learning_levels, V_th_learning_good, V_th_learning_bad, V_th_learning_digits]), (A_th_seen_places, iA g 6 th_seen_places), (A_th_seen_digits, iA g 6 th_seen_digits), (A_th_seen_hads, zA g 6 th_seen_hads), (A_th_index, oO 2 [.ref A_th_index_numbers, V_th_index_codes, V_th_index_fits, V_th_index_known, V_th_index_starts, .ref A_th_index_signs, .int z5]), (A_th_learning_levels, iA g 270 th_learning_levels), (A_th_index_signs, iA g 8 f6), (A_th_index_numbers, iA g 1372 th_index_numbers)]) (st := []) (st2 := [.int r4]) C cv_X6_countWords tb790 (c_X6_countWords l g A_th_seen A_th_learning A_th_seen_places A_th_seen_digits A_th_seen_hads A_th_index A_th_learning_levels A_th_index_signs A_th_index_numbers V_th_learning_good V_th_learning_bad V_th_learning_digits V_th_index_codes V_th_index_fits V_th_index_known V_th_index_starts th_seen_count th_seen_places th_seen_digits th_seen_hads th_index_size th_learning_levels th_index_signs th_index_numbers F (r4, z5, f6) hM) rfl 1 rfl rfl ⟨rfl, rfl, by decide, by decide⟩ (Nat.le_of_ble_eq_true rfl) [1, 2, 3, 4, 5, 6, 7, 8, 9] rfl (by decide) rfl rfl dX10_which_24 [none, some 0, some 1, some 2, some 3, some 4, some 5, some 6, some 7, some 8] (by decide) ⟨rfl, ⟨⟨rfl, rfl⟩, ⟨⟨rfl, rfl⟩, ⟨⟨rfl, rfl⟩, ⟨⟨rfl, rfl⟩, ⟨⟨rfl, rfl⟩, ⟨⟨rfl, rfl⟩, ⟨⟨rfl, rfl⟩, ⟨⟨rfl, rfl⟩, ⟨⟨rfl, rfl⟩, trivial⟩⟩⟩⟩⟩⟩⟩⟩⟩⟩ rfl ?_
        refine b_goto (tgt := 41) C dX10_which_27 (by decide) ?_
        cases hm
        exact b_iret C dX10_which_41
    · refine b_bipush (v := (-2)) C dX10_which_9 (by decide) ?_
      cases hm
      exact b_iret C dX10_which_11
/-- BreakLearner$Chances.power(II)I -/
def m_X0_power (F : Nat)  (n1 : Int32) (n2 : Int32)  : Option (Int32) :=
  wl2 (fun (x2 : Int32) (x3 : Int32) c1 =>
    if n2 ≤ x3 then
      some x2
    else
      letK (x2 * n1) (fun x4 =>
      c1 x4 (x3 + 1)
      )
    ) F 1 0
abbrev rmX0_power : Room := { frames := 0, cells := 0, slots := 0, locals := 0 }
set_option maxHeartbeats 4000000 in
set_option maxRecDepth 100000 in
theorem c_X0_power (l : Launch) (g : Gl)  (n1 : Int32) (n2 : Int32)  (F : Nat) (u : Int32) (hm : m_X0_power F n1 n2 = some u) : Ct l g yX0_power cX0_power 4 (some .int) rmX0_power [.int n1, .int n2] [] (some (.int u)) [] := by
  refine ent (own := RX0) (lv := [(0, .int n1), (1, .int n2)]) (by decide) rfl (Nat.le_of_ble_eq_true rfl) rfl rfl ?_
  intro x C
  unfold m_X0_power at hm
  refine b_iconst (v := 1) C dX0_power_0 (by decide) ?_
  refine b_istore_n (lv' := [(2, .int 1), (0, .int n1), (1, .int n2)]) C dX0_power_1 rfl (by decide) rfl ?_
  refine b_iconst (v := 0) C dX0_power_2 (by decide) ?_
  refine b_istore_n (lv' := [(3, .int 0), (2, .int 1), (0, .int n1), (1, .int n2)]) C dX0_power_3 rfl (by decide) rfl ?_
  refine Wb.lv (lv' := [(0, .int n1), (1, .int n2), (2, .int 1), (3, .int 0)]) ?_ [2, 3, 1, 0] rfl
  refine wl2_W (Wg := fun (x2 : Int32) (x3 : Int32) => Wb x [] [(0, .int n1), (1, .int n2), (2, .int x2), (3, .int x3)] 4 []) ?_ F 1 0 hm
  intro x2 x3 c1 hc1 hm
  refine b_iload_n C dX0_power_4 rfl 3 rfl ?_
  refine b_iload_n C dX0_power_5 rfl 1 rfl ?_
  refine b_icmp_ge (tgt := 19) C dX0_power_6 (by decide) hm (fun hm => ?_) (fun hm => ?_)
  · refine b_iload_n C dX0_power_19 rfl 2 rfl ?_
    cases hm
    exact b_iret C dX0_power_20
  · refine b_iload_n C dX0_power_9 rfl 2 rfl ?_
    refine b_iload_n C dX0_power_10 rfl 0 rfl ?_
    refine b_imul C dX0_power_11 ?_
    refine b_topi hm (fun x4 hm => ?_)
    refine b_istore_n (lv' := [(2, .int x4), (0, .int n1), (1, .int n2), (3, .int x3)]) C dX0_power_12 rfl (by decide) rfl ?_
    refine b_iinc (v2 := x3 + 1) (lv' := [(3, .int (x3 + 1)), (2, .int x4), (0, .int n1), (1, .int n2)]) C dX0_power_13 3 rfl rfl (by decide) rfl ?_
    refine b_goto (tgt := 4) C dX0_power_16 (by decide) ?_
    exact Wb.lv (hc1 x4 (x3 + 1) hm) [2, 3, 1, 0] rfl
/-- BreakLearner$Chances.chanceOf(LBreakLearner$Stock;IIZ)I -/
def m_X0_chanceOf (F : Nat)  (n2 : Int32) (n3 : Int32) (n4 : Int32) (th_valued : Int32) (p1_words : Int32) (p1_learnt : Int32) (th_rights : (Nat → Int32)) (p1_sizes : (Nat → Int32)) (p1_breaks : (Nat → Int32)) (p1_rules : (Nat → Int32)) (p1_hs : (Nat → Int32)) (th_learning_levels : (Nat → Int32)) (th_learning_index_known : Int32) (th_learning_digits : (Nat → Int32)) (th_learning_good : (Nat → Int32)) (th_learning_bad : (Nat → Int32)) (th_learning_index_fits : (Nat → Int32)) (th_learning_index_starts : (Nat → Int32)) : Option (Int32 × Int32 × (Nat → Int32) × (Nat → Int32) × (Nat → Int32) × (Nat → Int32) × (Nat → Int32)) :=
  bK6 (m_X0_value F th_valued p1_words p1_learnt th_learning_levels th_learning_index_known th_learning_digits th_learning_good th_learning_bad p1_sizes p1_breaks p1_rules p1_hs th_learning_index_fits th_learning_index_starts th_rights) (fun z1 f2 f3 f4 f5 f6 =>
  wl2 (fun (x8 : Int32) (x9 : Int32) c7 =>
    if (1 <<< (p1_words &&& 31)) ≤ x9 then
      bK1 (m_X0_power F 10 p1_words) (fun r10 =>
      bK1 (m_X0_leastTerms F x8 r10 n4) (fun r11 =>
      some (r11, z1, f6, f2, f3, f4, f5)
      )
      )
    else
      rdK 64 f6 x9 (fun v12 =>
      if v12 < n2 then
        c7 x8 (x9 + 1)
      else
        bK1 (m_J6_bitCount_0f7a4 F x9) (fun r13 =>
        bK1 (m_X0_power F (10 - n3) r13) (fun r14 =>
        bK1 (m_X0_power F n3 (p1_words - r13)) (fun r15 =>
        letK (x8 + (r14 * r15)) (fun x16 =>
        c7 x16 (x9 + 1)
        )
        )
        )
        )
      )
    ) F 0 0
  )
abbrev rmX0_chanceOf : Room := { frames := 5, cells := 0, slots := 0, locals := 113 }
set_option maxHeartbeats 4000000 in
set_option maxRecDepth 100000 in
theorem c_X0_chanceOf (l : Launch) (g : Gl) (A_th A_p1 A_th_learning A_th_rights A_p1_sizes A_p1_breaks A_p1_rules A_p1_hs A_th_learning_levels A_th_learning_index A_th_learning_digits A_th_learning_good A_th_learning_bad A_th_learning_index_fits A_th_learning_index_starts : Nat) (V_p1_letters V_th_learning_index_numbers V_th_learning_index_codes V_th_learning_index_signs V_th_learning_index_size : Value)  (n2 : Int32) (n3 : Int32) (n4 : Int32) (th_valued : Int32) (p1_words : Int32) (p1_learnt : Int32) (th_rights : (Nat → Int32)) (p1_sizes : (Nat → Int32)) (p1_breaks : (Nat → Int32)) (p1_rules : (Nat → Int32)) (p1_hs : (Nat → Int32)) (th_learning_levels : (Nat → Int32)) (th_learning_index_known : Int32) (th_learning_digits : (Nat → Int32)) (th_learning_good : (Nat → Int32)) (th_learning_bad : (Nat → Int32)) (th_learning_index_fits : (Nat → Int32)) (th_learning_index_starts : (Nat → Int32)) (F : Nat) (u : Int32 × Int32 × (Nat → Int32) × (Nat → Int32) × (Nat → Int32) × (Nat → Int32) × (Nat → Int32)) (hm : m_X0_chanceOf F n2 n3 n4 th_valued p1_words p1_learnt th_rights p1_sizes p1_breaks p1_rules p1_hs th_learning_levels th_learning_index_known th_learning_digits th_learning_good th_learning_bad th_learning_index_fits th_learning_index_starts = some u) : Ct l g yX0_chanceOf cX0_chanceOf 8 (some .int) rmX0_chanceOf [.ref A_th, .ref A_p1, .int n2, .int n3, .int n4] [(A_th, oO 0 [.ref A_th_learning, .ref A_th_rights, .int th_valued]), (A_p1, oO 6 [V_p1_letters, .ref A_p1_breaks, .ref A_p1_sizes, .ref A_p1_rules, .ref A_p1_hs, .int p1_words, .int p1_learnt]), (A_th_learning, oO 4 [.ref A_th_learning_index, .ref A_th_learning_levels, .ref A_th_learning_good, .ref A_th_learning_bad, .ref A_th_learning_digits]), (A_th_rights, iA g 64 th_rights), (A_p1_sizes, iA g 6 p1_sizes), (A_p1_breaks, iA g 6 p1_breaks), (A_p1_rules, iA g 5 p1_rules), (A_p1_hs, iA g 5 p1_hs), (A_th_learning_levels, iA g 270 th_learning_levels), (A_th_learning_index, oO 2 [V_th_learning_index_numbers, V_th_learning_index_codes, .ref A_th_learning_index_fits, .int th_learning_index_known, .ref A_th_learning_index_starts, V_th_learning_index_signs, V_th_learning_index_size]), (A_th_learning_digits, iA g 30 th_learning_digits), (A_th_learning_good, iA g 270 th_learning_good), (A_th_learning_bad, iA g 270 th_learning_bad), (A_th_learning_index_fits, iA g 270 th_learning_index_fits), (A_th_learning_index_starts, iA g 5 th_learning_index_starts)] (some (.int u.1)) [(A_th, oO 0 [.ref A_th_learning, .ref A_th_rights, .int u.2.1]), (A_p1, oO 6 [V_p1_letters, .ref A_p1_breaks, .ref A_p1_sizes, .ref A_p1_rules, .ref A_p1_hs, .int p1_words, .int p1_learnt]), (A_th_learning, oO 4 [.ref A_th_learning_index, .ref A_th_learning_levels, .ref A_th_learning_good, .ref A_th_learning_bad, .ref A_th_learning_digits]), (A_th_rights, iA g 64 u.2.2.1), (A_p1_sizes, iA g 6 p1_sizes), (A_p1_breaks, iA g 6 p1_breaks), (A_p1_rules, iA g 5 p1_rules), (A_p1_hs, iA g 5 p1_hs), (A_th_learning_levels, iA g 270 u.2.2.2.1), (A_th_learning_index, oO 2 [V_th_learning_index_numbers, V_th_learning_index_codes, .ref A_th_learning_index_fits, .int th_learning_index_known, .ref A_th_learning_index_starts, V_th_learning_index_signs, V_th_learning_index_size]), (A_th_learning_digits, iA g 30 u.2.2.2.2.1), (A_th_learning_good, iA g 270 u.2.2.2.2.2.1), (A_th_learning_bad, iA g 270 u.2.2.2.2.2.2), (A_th_learning_index_fits, iA g 270 th_learning_index_fits), (A_th_learning_index_starts, iA g 5 th_learning_index_starts)] := by
  refine ent (own := RX0) (lv := [(0, .ref A_th), (1, .ref A_p1), (2, .int n2), (3, .int n3), (4, .int n4)]) (by decide) rfl (Nat.le_of_ble_eq_true rfl) rfl rfl ?_
  intro x C
  unfold m_X0_chanceOf at hm
  refine b_aload_n C dX0_chanceOf_0 rfl 0 rfl ?_
  refine b_aload_n C dX0_chanceOf_1 rfl 1 rfl ?_
  obtain ⟨z1, f2, f3, f4, f5, f6, hM, hm⟩ := bK6_some hm
  refine b_kV (w' := [(A_th, oO 0 [.ref A_th_learning, .ref A_th_rights, .int z1]), (A_p1, oO 6 [V_p1_letters, .ref A_p1_breaks, .ref A_p1_sizes, .ref A_p1_rules, .ref A_p1_hs, .int p1_words, .int p1_learnt]), (A_th_learning, oO 4 [.ref A_th_learning_index, .ref A_th_learning_levels, .ref A_th_learning_good, .ref A_th_learning_bad, .ref A_th_learning_digits]), (A_th_rights, iA g 64 f6), (A_p1_sizes, iA g 6 p1_sizes), (A_p1_breaks, iA g 6 p1_breaks), (A_p1_rules, iA g 5 p1_rules), (A_p1_hs, iA g 5 p1_hs), (A_th_learning_levels, iA g 270 f2), (A_th_learning_index, oO 2 [V_th_learning_index_numbers, V_th_learning_index_codes, .ref A_th_learning_index_fits, .int th_learning_index_known, .ref A_th_learning_index_starts, V_th_learning_index_signs, V_th_learning_index_size]), (A_th_learning_digits, iA g 30 f3), (A_th_learning_good, iA g 270 f4), (A_th_learning_bad, iA g 270 f5), (A_th_learning_index_fits, iA g 270 th_learning_index_fits), (A_th_learning_index_starts, iA g 5 th_learning_index_starts)]) (st := []) (st2 := []) C cv_X0_value tb756 (c_X0_value l g A_th A_p1 A_th_learning A_th_learning_levels A_th_learning_index A_th_learning_digits A_th_learning_good A_th_learning_bad A_p1_sizes A_p1_breaks A_p1_rules A_p1_hs A_th_learning_index_fits A_th_learning_index_starts A_th_rights V_p1_letters V_th_learning_index_numbers V_th_learning_index_codes V_th_learning_index_signs V_th_learning_index_size th_valued p1_words p1_learnt th_learning_levels th_learning_index_known th_learning_digits th_learning_good th_learning_bad p1_sizes p1_breaks p1_rules p1_hs th_learning_index_fits th_learning_index_starts th_rights F (z1, f2, f3, f4, f5, f6) hM) rfl 0 rfl rfl ⟨rfl, rfl, by decide, by decide⟩ (Nat.le_of_ble_eq_true rfl) [0, 1, 2, 8, 9, 10, 11, 12, 4, 5, 6, 7, 13, 14, 3] rfl (by decide) rfl rfl dX0_chanceOf_2 [some 0, some 1, some 2, some 14, some 8, some 9, some 10, some 11, some 3, some 4, some 5, some 6, some 7, some 12, some 13] (by decide) ⟨⟨rfl, rfl⟩, ⟨⟨rfl, rfl⟩, ⟨⟨rfl, rfl⟩, ⟨⟨rfl, rfl⟩, ⟨⟨rfl, rfl⟩, ⟨⟨rfl, rfl⟩, ⟨⟨rfl, rfl⟩, ⟨⟨rfl, rfl⟩, ⟨⟨rfl, rfl⟩, ⟨⟨rfl, rfl⟩, ⟨⟨rfl, rfl⟩, ⟨⟨rfl, rfl⟩, ⟨⟨rfl, rfl⟩, ⟨⟨rfl, rfl⟩, ⟨⟨rfl, rfl⟩, trivial⟩⟩⟩⟩⟩⟩⟩⟩⟩⟩⟩⟩⟩⟩⟩ rfl ?_
  refine b_iconst (v := 0) C dX0_chanceOf_5 (by decide) ?_
  refine b_istore (lv' := [(5, .int 0), (0, .ref A_th), (1, .ref A_p1), (2, .int n2), (3, .int n3), (4, .int n4)]) C dX0_chanceOf_6 (by decide) rfl ?_
  refine b_iconst (v := 0) C dX0_chanceOf_8 (by decide) ?_
  refine b_istore (lv' := [(6, .int 0), (5, .int 0), (0, .ref A_th), (1, .ref A_p1), (2, .int n2), (3, .int n3), (4, .int n4)]) C dX0_chanceOf_9 (by decide) rfl ?_
  refine Wb.lv (lv' := [(0, .ref A_th), (1, .ref A_p1), (2, .int n2), (3, .int n3), (4, .int n4), (5, .int 0), (6, .int 0)]) ?_ [2, 3, 4, 5, 6, 1, 0] rfl
  refine wl2_W (Wg := fun (x8 : Int32) (x9 : Int32) => Wb x [(A_th, oO 0 [.ref A_th_learning, .ref A_th_rights, .int z1]), (A_p1, oO 6 [V_p1_letters, .ref A_p1_breaks, .ref A_p1_sizes, .ref A_p1_rules, .ref A_p1_hs, .int p1_words, .int p1_learnt]), (A_th_learning, oO 4 [.ref A_th_learning_index, .ref A_th_learning_levels, .ref A_th_learning_good, .ref A_th_learning_bad, .ref A_th_learning_digits]), (A_th_rights, iA g 64 f6), (A_p1_sizes, iA g 6 p1_sizes), (A_p1_breaks, iA g 6 p1_breaks), (A_p1_rules, iA g 5 p1_rules), (A_p1_hs, iA g 5 p1_hs), (A_th_learning_levels, iA g 270 f2), (A_th_learning_index, oO 2 [V_th_learning_index_numbers, V_th_learning_index_codes, .ref A_th_learning_index_fits, .int th_learning_index_known, .ref A_th_learning_index_starts, V_th_learning_index_signs, V_th_learning_index_size]), (A_th_learning_digits, iA g 30 f3), (A_th_learning_good, iA g 270 f4), (A_th_learning_bad, iA g 270 f5), (A_th_learning_index_fits, iA g 270 th_learning_index_fits), (A_th_learning_index_starts, iA g 5 th_learning_index_starts)] [(0, .ref A_th), (1, .ref A_p1), (2, .int n2), (3, .int n3), (4, .int n4), (5, .int x8), (6, .int x9)] 11 []) ?_ F 0 0 hm
  intro x8 x9 c7 hc7 hm
  refine b_iload C dX0_chanceOf_11 6 rfl ?_
  refine b_iconst (v := 1) C dX0_chanceOf_13 (by decide) ?_
  refine b_aload_n C dX0_chanceOf_14 rfl 1 rfl ?_
  refine gfX0_23 C 1 rfl rfl dX0_chanceOf_15 ?_
  refine b_ishl C dX0_chanceOf_18 ?_
  refine b_icmp_ge (tgt := 72) C dX0_chanceOf_19 (by decide) hm (fun hm => ?_) (fun hm => ?_)
  · refine b_iload C dX0_chanceOf_72 5 rfl ?_
    refine b_bipush (v := 10) C dX0_chanceOf_74 (by decide) ?_
    refine b_aload_n C dX0_chanceOf_76 rfl 1 rfl ?_
    refine gfX0_23 C 1 rfl rfl dX0_chanceOf_77 ?_
    obtain ⟨r10, hM, hm⟩ := bK1_some hm
    refine b_kS (w' := [(A_th, oO 0 [.ref A_th_learning, .ref A_th_rights, .int z1]), (A_p1, oO 6 [V_p1_letters, .ref A_p1_breaks, .ref A_p1_sizes, .ref A_p1_rules, .ref A_p1_hs, .int p1_words, .int p1_learnt]), (A_th_learning, oO 4 [.ref A_th_learning_index, .ref A_th_learning_levels, .ref A_th_learning_good, .ref A_th_learning_bad, .ref A_th_learning_digits]), (A_th_rights, iA g 64 f6), (A_p1_sizes, iA g 6 p1_sizes), (A_p1_breaks, iA g 6 p1_breaks), (A_p1_rules, iA g 5 p1_rules), (A_p1_hs, iA g 5 p1_hs), (A_th_learning_levels, iA g 270 f2), (A_th_learning_index, oO 2 [V_th_learning_index_numbers, V_th_learning_index_codes, .ref A_th_learning_index_fits, .int th_learning_index_known, .ref A_th_learning_index_starts, V_th_learning_index_signs, V_th_learning_index_size]), (A_th_learning_digits, iA g 30 f3), (A_th_learning_good, iA g 270 f4), (A_th_learning_bad, iA g 270 f5), (A_th_learning_index_fits, iA g 270 th_learning_index_fits), (A_th_learning_index_starts, iA g 5 th_learning_index_starts)]) (st := [.int x8]) (st2 := [.int r10, .int x8]) C cs_X0_power tb815 (c_X0_power l g 10 p1_words F r10 hM) rfl ⟨rfl, rfl, by decide, by decide⟩ (Nat.le_of_ble_eq_true rfl) [] rfl (by decide) rfl rfl dX0_chanceOf_80 [none, none, none, none, none, none, none, none, none, none, none, none, none, none, none] (by decide) ⟨rfl, ⟨rfl, ⟨rfl, ⟨rfl, ⟨rfl, ⟨rfl, ⟨rfl, ⟨rfl, ⟨rfl, ⟨rfl, ⟨rfl, ⟨rfl, ⟨rfl, ⟨rfl, ⟨rfl, trivial⟩⟩⟩⟩⟩⟩⟩⟩⟩⟩⟩⟩⟩⟩⟩ rfl ?_
    refine b_iload C dX0_chanceOf_83 4 rfl ?_
    obtain ⟨r11, hM, hm⟩ := bK1_some hm
    refine b_kS (w' := [(A_th, oO 0 [.ref A_th_learning, .ref A_th_rights, .int z1]), (A_p1, oO 6 [V_p1_letters, .ref A_p1_breaks, .ref A_p1_sizes, .ref A_p1_rules, .ref A_p1_hs, .int p1_words, .int p1_learnt]), (A_th_learning, oO 4 [.ref A_th_learning_index, .ref A_th_learning_levels, .ref A_th_learning_good, .ref A_th_learning_bad, .ref A_th_learning_digits]), (A_th_rights, iA g 64 f6), (A_p1_sizes, iA g 6 p1_sizes), (A_p1_breaks, iA g 6 p1_breaks), (A_p1_rules, iA g 5 p1_rules), (A_p1_hs, iA g 5 p1_hs), (A_th_learning_levels, iA g 270 f2), (A_th_learning_index, oO 2 [V_th_learning_index_numbers, V_th_learning_index_codes, .ref A_th_learning_index_fits, .int th_learning_index_known, .ref A_th_learning_index_starts, V_th_learning_index_signs, V_th_learning_index_size]), (A_th_learning_digits, iA g 30 f3), (A_th_learning_good, iA g 270 f4), (A_th_learning_bad, iA g 270 f5), (A_th_learning_index_fits, iA g 270 th_learning_index_fits), (A_th_learning_index_starts, iA g 5 th_learning_index_starts)]) (st := []) (st2 := [.int r11]) C cs_X0_leastTerms tb765 (c_X0_leastTerms l g x8 r10 n4 F r11 hM) rfl ⟨rfl, rfl, by decide, by decide⟩ (Nat.le_of_ble_eq_true rfl) [] rfl (by decide) rfl rfl dX0_chanceOf_85 [none, none, none, none, none, none, none, none, none, none, none, none, none, none, none] (by decide) ⟨rfl, ⟨rfl, ⟨rfl, ⟨rfl, ⟨rfl, ⟨rfl, ⟨rfl, ⟨rfl, ⟨rfl, ⟨rfl, ⟨rfl, ⟨rfl, ⟨rfl, ⟨rfl, ⟨rfl, trivial⟩⟩⟩⟩⟩⟩⟩⟩⟩⟩⟩⟩⟩⟩⟩ rfl ?_
    cases hm
    exact b_iret C dX0_chanceOf_88
  · refine b_aload_n C dX0_chanceOf_22 rfl 0 rfl ?_
    refine gfX0_9 C 0 rfl rfl dX0_chanceOf_23 ?_
    refine b_iload C dX0_chanceOf_26 6 rfl ?_
    refine b_iald C 3 rfl dX0_chanceOf_28 hm (fun v12 hm => ?_)
    refine b_iload_n C dX0_chanceOf_29 rfl 2 rfl ?_
    refine b_icmp_lt (tgt := 66) C dX0_chanceOf_30 (by decide) hm (fun hm => ?_) (fun hm => ?_)
    · refine b_iinc (v2 := x9 + 1) (lv' := [(6, .int (x9 + 1)), (0, .ref A_th), (1, .ref A_p1), (2, .int n2), (3, .int n3), (4, .int n4), (5, .int x8)]) C dX0_chanceOf_66 6 rfl rfl (by decide) rfl ?_
      refine b_goto (tgt := 11) C dX0_chanceOf_69 (by decide) ?_
      exact Wb.lv (hc7 x8 (x9 + 1) hm) [1, 2, 3, 4, 5, 6, 0] rfl
    · refine b_iload C dX0_chanceOf_33 6 rfl ?_
      obtain ⟨r13, hM, hm⟩ := bK1_some hm
      refine b_kS (w' := [(A_th, oO 0 [.ref A_th_learning, .ref A_th_rights, .int z1]), (A_p1, oO 6 [V_p1_letters, .ref A_p1_breaks, .ref A_p1_sizes, .ref A_p1_rules, .ref A_p1_hs, .int p1_words, .int p1_learnt]), (A_th_learning, oO 4 [.ref A_th_learning_index, .ref A_th_learning_levels, .ref A_th_learning_good, .ref A_th_learning_bad, .ref A_th_learning_digits]), (A_th_rights, iA g 64 f6), (A_p1_sizes, iA g 6 p1_sizes), (A_p1_breaks, iA g 6 p1_breaks), (A_p1_rules, iA g 5 p1_rules), (A_p1_hs, iA g 5 p1_hs), (A_th_learning_levels, iA g 270 f2), (A_th_learning_index, oO 2 [V_th_learning_index_numbers, V_th_learning_index_codes, .ref A_th_learning_index_fits, .int th_learning_index_known, .ref A_th_learning_index_starts, V_th_learning_index_signs, V_th_learning_index_size]), (A_th_learning_digits, iA g 30 f3), (A_th_learning_good, iA g 270 f4), (A_th_learning_bad, iA g 270 f5), (A_th_learning_index_fits, iA g 270 th_learning_index_fits), (A_th_learning_index_starts, iA g 5 th_learning_index_starts)]) (st := []) (st2 := [.int r13]) C cs_J6_bitCount_0f7a4 tb762 (c_J6_bitCount_0f7a4 l g x9 F r13 hM) rfl ⟨rfl, rfl, by decide, by decide⟩ (Nat.le_of_ble_eq_true rfl) [] rfl (by decide) rfl rfl dX0_chanceOf_35 [none, none, none, none, none, none, none, none, none, none, none, none, none, none, none] (by decide) ⟨rfl, ⟨rfl, ⟨rfl, ⟨rfl, ⟨rfl, ⟨rfl, ⟨rfl, ⟨rfl, ⟨rfl, ⟨rfl, ⟨rfl, ⟨rfl, ⟨rfl, ⟨rfl, ⟨rfl, trivial⟩⟩⟩⟩⟩⟩⟩⟩⟩⟩⟩⟩⟩⟩⟩ rfl ?_
      refine b_istore (lv' := [(7, .int r13), (0, .ref A_th), (1, .ref A_p1), (2, .int n2), (3, .int n3), (4, .int n4), (5, .int x8), (6, .int x9)]) C dX0_chanceOf_38 (by decide) rfl ?_
      refine b_iload C dX0_chanceOf_40 6 rfl ?_
      refine b_bipush (v := 10) C dX0_chanceOf_42 (by decide) ?_
      refine b_iload_n C dX0_chanceOf_44 rfl 4 rfl ?_
      refine b_isub C dX0_chanceOf_45 ?_
      refine b_iload C dX0_chanceOf_46 0 rfl ?_
      obtain ⟨r14, hM, hm⟩ := bK1_some hm
      refine b_kS (w' := [(A_th, oO 0 [.ref A_th_learning, .ref A_th_rights, .int z1]), (A_p1, oO 6 [V_p1_letters, .ref A_p1_breaks, .ref A_p1_sizes, .ref A_p1_rules, .ref A_p1_hs, .int p1_words, .int p1_learnt]), (A_th_learning, oO 4 [.ref A_th_learning_index, .ref A_th_learning_levels, .ref A_th_learning_good, .ref A_th_learning_bad, .ref A_th_learning_digits]), (A_th_rights, iA g 64 f6), (A_p1_sizes, iA g 6 p1_sizes), (A_p1_breaks, iA g 6 p1_breaks), (A_p1_rules, iA g 5 p1_rules), (A_p1_hs, iA g 5 p1_hs), (A_th_learning_levels, iA g 270 f2), (A_th_learning_index, oO 2 [V_th_learning_index_numbers, V_th_learning_index_codes, .ref A_th_learning_index_fits, .int th_learning_index_known, .ref A_th_learning_index_starts, V_th_learning_index_signs, V_th_learning_index_size]), (A_th_learning_digits, iA g 30 f3), (A_th_learning_good, iA g 270 f4), (A_th_learning_bad, iA g 270 f5), (A_th_learning_index_fits, iA g 270 th_learning_index_fits), (A_th_learning_index_starts, iA g 5 th_learning_index_starts)]) (st := [.int x8]) (st2 := [.int r14, .int x8]) C cs_X0_power tb815 (c_X0_power l g (10 - n3) r13 F r14 hM) rfl ⟨rfl, rfl, by decide, by decide⟩ (Nat.le_of_ble_eq_true rfl) [] rfl (by decide) rfl rfl dX0_chanceOf_48 [none, none, none, none, none, none, none, none, none, none, none, none, none, none, none] (by decide) ⟨rfl, ⟨rfl, ⟨rfl, ⟨rfl, ⟨rfl, ⟨rfl, ⟨rfl, ⟨rfl, ⟨rfl, ⟨rfl, ⟨rfl, ⟨rfl, ⟨rfl, ⟨rfl, ⟨rfl, trivial⟩⟩⟩⟩⟩⟩⟩⟩⟩⟩⟩⟩⟩⟩⟩ rfl ?_
      refine b_iload_n C dX0_chanceOf_51 rfl 4 rfl ?_
      refine b_aload_n C dX0_chanceOf_52 rfl 2 rfl ?_
      refine gfX0_23 C 1 rfl rfl dX0_chanceOf_53 ?_
      refine b_iload C dX0_chanceOf_56 0 rfl ?_
      refine b_isub C dX0_chanceOf_58 ?_
      obtain ⟨r15, hM, hm⟩ := bK1_some hm
      refine b_kS (w' := [(A_th, oO 0 [.ref A_th_learning, .ref A_th_rights, .int z1]), (A_p1, oO 6 [V_p1_letters, .ref A_p1_breaks, .ref A_p1_sizes, .ref A_p1_rules, .ref A_p1_hs, .int p1_words, .int p1_learnt]), (A_th_learning, oO 4 [.ref A_th_learning_index, .ref A_th_learning_levels, .ref A_th_learning_good, .ref A_th_learning_bad, .ref A_th_learning_digits]), (A_th_rights, iA g 64 f6), (A_p1_sizes, iA g 6 p1_sizes), (A_p1_breaks, iA g 6 p1_breaks), (A_p1_rules, iA g 5 p1_rules), (A_p1_hs, iA g 5 p1_hs), (A_th_learning_levels, iA g 270 f2), (A_th_learning_index, oO 2 [V_th_learning_index_numbers, V_th_learning_index_codes, .ref A_th_learning_index_fits, .int th_learning_index_known, .ref A_th_learning_index_starts, V_th_learning_index_signs, V_th_learning_index_size]), (A_th_learning_digits, iA g 30 f3), (A_th_learning_good, iA g 270 f4), (A_th_learning_bad, iA g 270 f5), (A_th_learning_index_fits, iA g 270 th_learning_index_fits), (A_th_learning_index_starts, iA g 5 th_learning_index_starts)]) (st := [.int r14, .int x8]) (st2 := [.int r15, .int r14, .int x8]) C cs_X0_power tb815 (c_X0_power l g n3 (p1_words - r13) F r15 hM) rfl ⟨rfl, rfl, by decide, by decide⟩ (Nat.le_of_ble_eq_true rfl) [] rfl (by decide) rfl rfl dX0_chanceOf_59 [none, none, none, none, none, none, none, none, none, none, none, none, none, none, none] (by decide) ⟨rfl, ⟨rfl, ⟨rfl, ⟨rfl, ⟨rfl, ⟨rfl, ⟨rfl, ⟨rfl, ⟨rfl, ⟨rfl, ⟨rfl, ⟨rfl, ⟨rfl, ⟨rfl, ⟨rfl, trivial⟩⟩⟩⟩⟩⟩⟩⟩⟩⟩⟩⟩⟩⟩⟩ rfl ?_
      refine b_imul C dX0_chanceOf_62 ?_
      refine b_iadd C dX0_chanceOf_63 ?_
      refine b_topi hm (fun x16 hm => ?_)
      refine b_istore (lv' := [(5, .int x16), (7, .int r13), (0, .ref A_th), (1, .ref A_p1), (2, .int n2), (3, .int n3), (4, .int n4), (6, .int x9)]) C dX0_chanceOf_64 (by decide) rfl ?_
      refine b_iinc (v2 := x9 + 1) (lv' := [(6, .int (x9 + 1)), (5, .int x16), (7, .int r13), (0, .ref A_th), (1, .ref A_p1), (2, .int n2), (3, .int n3), (4, .int n4)]) C dX0_chanceOf_66 7 rfl rfl (by decide) rfl ?_
      refine b_goto (tgt := 11) C dX0_chanceOf_69 (by decide) ?_
      exact Wb.lv (hc7 x16 (x9 + 1) hm) [3, 4, 5, 6, 7, 1, 0] rfl
