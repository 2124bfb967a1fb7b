/-- BreakLearner$Doings.takeBack(LBreakLearner$Stock;)V -/
def m_X1_takeBack (F : Nat)   (th_count : Int32) (p1_words : Int32) (p1_learnt : Int32) (th_wheres : (Nat → Int32)) (th_kinds : (Nat → Int32)) (th_firsts : (Nat → Int32)) (th_seconds : (Nat → Int32)) (p1_rules : (Nat → Int32)) (p1_hs : (Nat → Int32)) (p1_sizes : (Nat → Int32)) (p1_breaks : (Nat → Int32)) (p1_letters : (Nat → Int32)) : Option (Int32 × Int32 × Int32 × (Nat → Int32) × (Nat → Int32) × (Nat → Int32) × (Nat → Int32) × (Nat → Int32)) :=
  if 1 ≤ th_count then
    letK (th_count - 1) (fun z1 =>
    rdK 14 th_wheres z1 (fun v2 =>
    rdK 14 th_kinds z1 (fun v3 =>
    if v3 = 1 then
      bK4 (m_X7_takeAt F (p1_words - 1) p1_words p1_letters p1_breaks p1_sizes) (fun z4 f5 f6 f7 =>
      some (z1, z4, p1_learnt, p1_rules, p1_hs, f7, f6, f5)
      )
    else
      if v3 = 2 then
        rdK 14 th_firsts z1 (fun v9 =>
        rdK 14 th_seconds z1 (fun v10 =>
        bK4 (m_X7_putAt F v2 v9 v10 p1_words p1_letters p1_breaks p1_sizes) (fun z11 f12 f13 f14 =>
        some (z1, z11, p1_learnt, p1_rules, p1_hs, f14, f13, f12)
        )
        )
        )
      else
        if v3 = 3 then
          rdK 14 th_firsts z1 (fun v16 =>
          bK1 (m_X7_flip F v2 v16 p1_words p1_sizes p1_breaks) (fun f17 =>
          some (z1, p1_words, p1_learnt, p1_rules, p1_hs, p1_sizes, f17, p1_letters)
          )
          )
        else
          if v3 = 4 then
            rdK 14 th_firsts z1 (fun v19 =>
            rdK 14 th_seconds z1 (fun v20 =>
            bK2 (m_X7_setRule F v2 v19 v20 p1_rules p1_hs) (fun f21 f22 =>
            some (z1, p1_words, p1_learnt, f21, f22, p1_sizes, p1_breaks, p1_letters)
            )
            )
            )
          else
            letK (imax 0 (p1_learnt - 1)) (fun z24 =>
            some (z1, p1_words, z24, p1_rules, p1_hs, p1_sizes, p1_breaks, p1_letters)
            )
    )
    )
    )
  else
    some (th_count, p1_words, p1_learnt, p1_rules, p1_hs, p1_sizes, p1_breaks, p1_letters)
abbrev rmX1_takeBack : Room := { frames := 3, cells := 0, slots := 0, locals := 65 }
set_option maxHeartbeats 4000000 in
set_option maxRecDepth 100000 in
theorem c_X1_takeBack (l : Launch) (g : Gl) (A_th A_p1 A_th_wheres A_th_kinds A_th_firsts A_th_seconds A_p1_rules A_p1_hs A_p1_sizes A_p1_breaks A_p1_letters : Nat)   (th_count : Int32) (p1_words : Int32) (p1_learnt : Int32) (th_wheres : (Nat → Int32)) (th_kinds : (Nat → Int32)) (th_firsts : (Nat → Int32)) (th_seconds : (Nat → Int32)) (p1_rules : (Nat → Int32)) (p1_hs : (Nat → Int32)) (p1_sizes : (Nat → Int32)) (p1_breaks : (Nat → Int32)) (p1_letters : (Nat → Int32)) (F : Nat) (u : Int32 × Int32 × Int32 × (Nat → Int32) × (Nat → Int32) × (Nat → Int32) × (Nat → Int32) × (Nat → Int32)) (hm : m_X1_takeBack F th_count p1_words p1_learnt th_wheres th_kinds th_firsts th_seconds p1_rules p1_hs p1_sizes p1_breaks p1_letters = some u) : Ct l g yX1_takeBack cX1_takeBack 3 none rmX1_takeBack [.ref A_th, .ref A_p1] [(A_th, oO 1 [.ref A_th_kinds, .ref A_th_wheres, .ref A_th_firsts, .ref A_th_seconds, .int th_count]), (A_p1, oO 6 [.ref A_p1_letters, .ref A_p1_breaks, .ref A_p1_sizes, .ref A_p1_rules, .ref A_p1_hs, .int p1_words, .int p1_learnt]), (A_th_wheres, iA g 14 th_wheres), (A_th_kinds, iA g 14 th_kinds), (A_th_firsts, iA g 14 th_firsts), (A_th_seconds, iA g 14 th_seconds), (A_p1_rules, iA g 5 p1_rules), (A_p1_hs, iA g 5 p1_hs), (A_p1_sizes, iA g 6 p1_sizes), (A_p1_breaks, iA g 6 p1_breaks), (A_p1_letters, iA g 6 p1_letters)] none [(A_th, oO 1 [.ref A_th_kinds, .ref A_th_wheres, .ref A_th_firsts, .ref A_th_seconds, .int u.1]), (A_p1, oO 6 [.ref A_p1_letters, .ref A_p1_breaks, .ref A_p1_sizes, .ref A_p1_rules, .ref A_p1_hs, .int u.2.1, .int u.2.2.1]), (A_th_wheres, iA g 14 th_wheres), (A_th_kinds, iA g 14 th_kinds), (A_th_firsts, iA g 14 th_firsts), (A_th_seconds, iA g 14 th_seconds), (A_p1_rules, iA g 5 u.2.2.2.1), (A_p1_hs, iA g 5 u.2.2.2.2.1), (A_p1_sizes, iA g 6 u.2.2.2.2.2.1), (A_p1_breaks, iA g 6 u.2.2.2.2.2.2.1), (A_p1_letters, iA g 6 u.2.2.2.2.2.2.2)] := by
  refine ent (own := RX1) (lv := [(0, .ref A_th), (1, .ref A_p1)]) (by decide) rfl (Nat.le_of_ble_eq_true rfl) rfl rfl ?_
  intro x C
  unfold m_X1_takeBack at hm
  refine b_aload_n C dX1_takeBack_0 rfl 0 rfl ?_
  refine gfX1_24 C 0 rfl rfl dX1_takeBack_1 ?_
  refine b_iconst (v := 1) C dX1_takeBack_4 (by decide) ?_
  refine b_icmp_ge (tgt := 9) C dX1_takeBack_5 (by decide) hm (fun hm => ?_) (fun hm => ?_)
  · refine b_aload_n C dX1_takeBack_9 rfl 0 rfl ?_
    refine b_dup C dX1_takeBack_10 rfl ?_
    refine gfX1_24 C 0 rfl rfl dX1_takeBack_11 ?_
    refine b_iconst (v := 1) C dX1_takeBack_14 (by decide) ?_
    refine b_isub C dX1_takeBack_15 ?_
    refine b_topi hm (fun z1 hm => ?_)
    refine pfX1_24 (w' := [(A_th, oO 1 [.ref A_th_kinds, .ref A_th_wheres, .ref A_th_firsts, .ref A_th_seconds, .int z1]), (A_p1, oO 6 [.ref A_p1_letters, .ref A_p1_breaks, .ref A_p1_sizes, .ref A_p1_rules, .ref A_p1_hs, .int p1_words, .int p1_learnt]), (A_th_wheres, iA g 14 th_wheres), (A_th_kinds, iA g 14 th_kinds), (A_th_firsts, iA g 14 th_firsts), (A_th_seconds, iA g 14 th_seconds), (A_p1_rules, iA g 5 p1_rules), (A_p1_hs, iA g 5 p1_hs), (A_p1_sizes, iA g 6 p1_sizes), (A_p1_breaks, iA g 6 p1_breaks), (A_p1_letters, iA g 6 p1_letters)]) C rfl rfl 0 rfl (Nat.le_of_ble_eq_true rfl) dX1_takeBack_16 rfl ?_
    refine b_aload_n C dX1_takeBack_19 rfl 0 rfl ?_
    refine gfX1_15 C 0 rfl rfl dX1_takeBack_20 ?_
    refine b_aload_n C dX1_takeBack_23 rfl 0 rfl ?_
    refine gfX1_24 C 0 rfl rfl dX1_takeBack_24 ?_
    refine b_iald C 2 rfl dX1_takeBack_27 hm (fun v2 hm => ?_)
    refine b_istore_n (lv' := [(2, .int v2), (0, .ref A_th), (1, .ref A_p1)]) C dX1_takeBack_28 rfl (by decide) rfl ?_
    refine b_aload_n C dX1_takeBack_29 rfl 1 rfl ?_
    refine gfX1_9 C 0 rfl rfl dX1_takeBack_30 ?_
    refine b_aload_n C dX1_takeBack_33 rfl 1 rfl ?_
    refine gfX1_24 C 0 rfl rfl dX1_takeBack_34 ?_
    refine b_iald C 3 rfl dX1_takeBack_37 hm (fun v3 hm => ?_)
    rcases sw_some hm with ⟨h8, hm⟩ | ⟨h8, hm⟩
    · refine b_tin (tgt := 68) C h8 dX1_takeBack_38 (by decide) (by decide) rfl (by decide) ?_
      refine b_aload_n C dX1_takeBack_68 rfl 2 rfl ?_
      refine b_aload_n C dX1_takeBack_69 rfl 2 rfl ?_
      refine gfX1_31 C 1 rfl rfl dX1_takeBack_70 ?_
      refine b_iconst (v := 1) C dX1_takeBack_73 (by decide) ?_
      refine b_isub C dX1_takeBack_74 ?_
      obtain ⟨z4, f5, f6, f7, hM, hm⟩ := bK4_some hm
      refine b_kV (w' := [(A_th, oO 1 [.ref A_th_kinds, .ref A_th_wheres, .ref A_th_firsts, .ref A_th_seconds, .int z1]), (A_p1, oO 6 [.ref A_p1_letters, .ref A_p1_breaks, .ref A_p1_sizes, .ref A_p1_rules, .ref A_p1_hs, .int z4, .int p1_learnt]), (A_th_wheres, iA g 14 th_wheres), (A_th_kinds, iA g 14 th_kinds), (A_th_firsts, iA g 14 th_firsts), (A_th_seconds, iA g 14 th_seconds), (A_p1_rules, iA g 5 p1_rules), (A_p1_hs, iA g 5 p1_hs), (A_p1_sizes, iA g 6 f7), (A_p1_breaks, iA g 6 f6), (A_p1_letters, iA g 6 f5)]) (st := []) (st2 := []) C cv_X7_takeAt tb648 (c_X7_takeAt l g A_p1 A_p1_letters A_p1_breaks A_p1_sizes (.ref A_p1_rules) (.ref A_p1_hs) (.int p1_learnt) (p1_words - 1) p1_words p1_letters p1_breaks p1_sizes F (z4, f5, f6, f7) hM) rfl 1 rfl rfl ⟨rfl, rfl, by decide, by decide⟩ (Nat.le_of_ble_eq_true rfl) [1, 10, 9, 8] rfl (by decide) rfl rfl dX1_takeBack_75 [none, some 0, none, none, none, none, none, none, some 3, some 2, some 1] (by decide) ⟨rfl, ⟨⟨rfl, rfl⟩, ⟨rfl, ⟨rfl, ⟨rfl, ⟨rfl, ⟨rfl, ⟨rfl, ⟨⟨rfl, rfl⟩, ⟨⟨rfl, rfl⟩, ⟨⟨rfl, rfl⟩, trivial⟩⟩⟩⟩⟩⟩⟩⟩⟩⟩⟩ rfl ?_
      refine b_goto (tgt := 164) C dX1_takeBack_78 (by decide) ?_
      cases hm
      exact b_vret C dX1_takeBack_164
    · rcases sw_some hm with ⟨h15, hm⟩ | ⟨h15, hm⟩
      · refine b_tin (tgt := 81) C h15 dX1_takeBack_38 (by decide) (by decide) rfl (by decide) ?_
        refine b_aload_n C dX1_takeBack_81 rfl 2 rfl ?_
        refine b_iload_n C dX1_takeBack_82 rfl 0 rfl ?_
        refine b_aload_n C dX1_takeBack_83 rfl 1 rfl ?_
        refine gfX1_18 C 0 rfl rfl dX1_takeBack_84 ?_
        refine b_aload_n C dX1_takeBack_87 rfl 1 rfl ?_
        refine gfX1_24 C 0 rfl rfl dX1_takeBack_88 ?_
        refine b_iald C 4 rfl dX1_takeBack_91 hm (fun v9 hm => ?_)
        refine b_aload_n C dX1_takeBack_92 rfl 1 rfl ?_
        refine gfX1_21 C 0 rfl rfl dX1_takeBack_93 ?_
        refine b_aload_n C dX1_takeBack_96 rfl 1 rfl ?_
        refine gfX1_24 C 0 rfl rfl dX1_takeBack_97 ?_
        refine b_iald C 5 rfl dX1_takeBack_100 hm (fun v10 hm => ?_)
        obtain ⟨z11, f12, f13, f14, hM, hm⟩ := bK4_some hm
        refine b_kV (w' := [(A_th, oO 1 [.ref A_th_kinds, .ref A_th_wheres, .ref A_th_firsts, .ref A_th_seconds, .int z1]), (A_p1, oO 6 [.ref A_p1_letters, .ref A_p1_breaks, .ref A_p1_sizes, .ref A_p1_rules, .ref A_p1_hs, .int z11, .int p1_learnt]), (A_th_wheres, iA g 14 th_wheres), (A_th_kinds, iA g 14 th_kinds), (A_th_firsts, iA g 14 th_firsts), (A_th_seconds, iA g 14 th_seconds), (A_p1_rules, iA g 5 p1_rules), (A_p1_hs, iA g 5 p1_hs), (A_p1_sizes, iA g 6 f14), (A_p1_breaks, iA g 6 f13), (A_p1_letters, iA g 6 f12)]) (st := []) (st2 := []) C cv_X7_putAt tb649 (c_X7_putAt l g A_p1 A_p1_letters A_p1_breaks A_p1_sizes (.ref A_p1_rules) (.ref A_p1_hs) (.int p1_learnt) v2 v9 v10 p1_words p1_letters p1_breaks p1_sizes F (z11, f12, f13, f14) hM) rfl 1 rfl rfl ⟨rfl, rfl, by decide, by decide⟩ (Nat.le_of_ble_eq_true rfl) [1, 10, 9, 8] rfl (by decide) rfl rfl dX1_takeBack_101 [none, some 0, none, none, none, none, none, none, some 3, some 2, some 1] (by decide) ⟨rfl, ⟨⟨rfl, rfl⟩, ⟨rfl, ⟨rfl, ⟨rfl, ⟨rfl, ⟨rfl, ⟨rfl, ⟨⟨rfl, rfl⟩, ⟨⟨rfl, rfl⟩, ⟨⟨rfl, rfl⟩, trivial⟩⟩⟩⟩⟩⟩⟩⟩⟩⟩⟩ rfl ?_
        refine b_goto (tgt := 164) C dX1_takeBack_104 (by decide) ?_
        cases hm
        exact b_vret C dX1_takeBack_164
      · rcases sw_some hm with ⟨h18, hm⟩ | ⟨h18, hm⟩
        · refine b_tin (tgt := 107) C h18 dX1_takeBack_38 (by decide) (by decide) rfl (by decide) ?_
          refine b_aload_n C dX1_takeBack_107 rfl 2 rfl ?_
          refine b_iload_n C dX1_takeBack_108 rfl 0 rfl ?_
          refine b_aload_n C dX1_takeBack_109 rfl 1 rfl ?_
          refine gfX1_18 C 0 rfl rfl dX1_takeBack_110 ?_
          refine b_aload_n C dX1_takeBack_113 rfl 1 rfl ?_
          refine gfX1_24 C 0 rfl rfl dX1_takeBack_114 ?_
          refine b_iald C 4 rfl dX1_takeBack_117 hm (fun v16 hm => ?_)
          obtain ⟨f17, hM, hm⟩ := bK1_some hm
          refine b_kV (w' := [(A_th, oO 1 [.ref A_th_kinds, .ref A_th_wheres, .ref A_th_firsts, .ref A_th_seconds, .int z1]), (A_p1, oO 6 [.ref A_p1_letters, .ref A_p1_breaks, .ref A_p1_sizes, .ref A_p1_rules, .ref A_p1_hs, .int p1_words, .int p1_learnt]), (A_th_wheres, iA g 14 th_wheres), (A_th_kinds, iA g 14 th_kinds), (A_th_firsts, iA g 14 th_firsts), (A_th_seconds, iA g 14 th_seconds), (A_p1_rules, iA g 5 p1_rules), (A_p1_hs, iA g 5 p1_hs), (A_p1_sizes, iA g 6 p1_sizes), (A_p1_breaks, iA g 6 f17), (A_p1_letters, iA g 6 p1_letters)]) (st := []) (st2 := []) C cv_X7_flip tb650 (c_X7_flip l g A_p1 A_p1_sizes A_p1_breaks (.ref A_p1_letters) (.ref A_p1_rules) (.ref A_p1_hs) (.int p1_learnt) v2 v16 p1_words p1_sizes p1_breaks F f17 hM) rfl 1 rfl rfl ⟨rfl, rfl, by decide, by decide⟩ (Nat.le_of_ble_eq_true rfl) [1, 8, 9] rfl (by decide) rfl rfl dX1_takeBack_118 [none, some 0, none, none, none, none, none, none, some 1, some 2, none] (by decide) ⟨rfl, ⟨⟨rfl, rfl⟩, ⟨rfl, ⟨rfl, ⟨rfl, ⟨rfl, ⟨rfl, ⟨rfl, ⟨⟨rfl, rfl⟩, ⟨⟨rfl, rfl⟩, ⟨rfl, trivial⟩⟩⟩⟩⟩⟩⟩⟩⟩⟩⟩ rfl ?_
          refine b_goto (tgt := 164) C dX1_takeBack_121 (by decide) ?_
          cases hm
          exact b_vret C dX1_takeBack_164
        · rcases sw_some hm with ⟨h23, hm⟩ | ⟨h23, hm⟩
          · refine b_tin (tgt := 124) C h23 dX1_takeBack_38 (by decide) (by decide) rfl (by decide) ?_
            refine b_aload_n C dX1_takeBack_124 rfl 2 rfl ?_
            refine b_iload_n C dX1_takeBack_125 rfl 0 rfl ?_
            refine b_aload_n C dX1_takeBack_126 rfl 1 rfl ?_
            refine gfX1_18 C 0 rfl rfl dX1_takeBack_127 ?_
            refine b_aload_n C dX1_takeBack_130 rfl 1 rfl ?_
            refine gfX1_24 C 0 rfl rfl dX1_takeBack_131 ?_
            refine b_iald C 4 rfl dX1_takeBack_134 hm (fun v19 hm => ?_)
            refine b_aload_n C dX1_takeBack_135 rfl 1 rfl ?_
            refine gfX1_21 C 0 rfl rfl dX1_takeBack_136 ?_
            refine b_aload_n C dX1_takeBack_139 rfl 1 rfl ?_
            refine gfX1_24 C 0 rfl rfl dX1_takeBack_140 ?_
            refine b_iald C 5 rfl dX1_takeBack_143 hm (fun v20 hm => ?_)
            obtain ⟨f21, f22, hM, hm⟩ := bK2_some hm
            refine b_kV (w' := [(A_th, oO 1 [.ref A_th_kinds, .ref A_th_wheres, .ref A_th_firsts, .ref A_th_seconds, .int z1]), (A_p1, oO 6 [.ref A_p1_letters, .ref A_p1_breaks, .ref A_p1_sizes, .ref A_p1_rules, .ref A_p1_hs, .int p1_words, .int p1_learnt]), (A_th_wheres, iA g 14 th_wheres), (A_th_kinds, iA g 14 th_kinds), (A_th_firsts, iA g 14 th_firsts), (A_th_seconds, iA g 14 th_seconds), (A_p1_rules, iA g 5 f21), (A_p1_hs, iA g 5 f22), (A_p1_sizes, iA g 6 p1_sizes), (A_p1_breaks, iA g 6 p1_breaks), (A_p1_letters, iA g 6 p1_letters)]) (st := []) (st2 := []) C cv_X7_setRule tb651 (c_X7_setRule l g A_p1 A_p1_rules A_p1_hs (.ref A_p1_letters) (.ref A_p1_breaks) (.ref A_p1_sizes) (.int p1_words) (.int p1_learnt) v2 v19 v20 p1_rules p1_hs F (f21, f22) hM) rfl 1 rfl rfl ⟨rfl, rfl, by decide, by decide⟩ (Nat.le_of_ble_eq_true rfl) [1, 6, 7] rfl (by decide) rfl rfl dX1_takeBack_144 [none, some 0, none, none, none, none, some 1, some 2, none, none, none] (by decide) ⟨rfl, ⟨⟨rfl, rfl⟩, ⟨rfl, ⟨rfl, ⟨rfl, ⟨rfl, ⟨⟨rfl, rfl⟩, ⟨⟨rfl, rfl⟩, ⟨rfl, ⟨rfl, ⟨rfl, trivial⟩⟩⟩⟩⟩⟩⟩⟩⟩⟩⟩ rfl ?_
            refine b_goto (tgt := 164) C dX1_takeBack_147 (by decide) ?_
            cases hm
            exact b_vret C dX1_takeBack_164
          · refine b_tout (tgt := 150) C dX1_takeBack_38 (by have := lv_neT h8 (a := 1) (by decide); have := lv_neT h15 (a := 2) (by decide); have := lv_neT h18 (a := 3) (by decide); have := lv_neT h23 (a := 4) (by decide); omega) (by decide) ?_
            refine b_aload_n C dX1_takeBack_150 rfl 2 rfl ?_
            refine b_iconst (v := 0) C dX1_takeBack_151 (by decide) ?_
            refine b_aload_n C dX1_takeBack_152 rfl 2 rfl ?_
            refine gfX1_51 C 1 rfl rfl dX1_takeBack_153 ?_
            refine b_iconst (v := 1) C dX1_takeBack_156 (by decide) ?_
            refine b_isub C dX1_takeBack_157 ?_
            refine b_mmax C tb652 tb415 tb73 tb416 (by decide) (Nat.le_of_ble_eq_true rfl) dX1_takeBack_158 ?_
            refine b_topi hm (fun z24 hm => ?_)
            refine pfX1_51 (w' := [(A_th, oO 1 [.ref A_th_kinds, .ref A_th_wheres, .ref A_th_firsts, .ref A_th_seconds, .int z1]), (A_p1, oO 6 [.ref A_p1_letters, .ref A_p1_breaks, .ref A_p1_sizes, .ref A_p1_rules, .ref A_p1_hs, .int p1_words, .int z24]), (A_th_wheres, iA g 14 th_wheres), (A_th_kinds, iA g 14 th_kinds), (A_th_firsts, iA g 14 th_firsts), (A_th_seconds, iA g 14 th_seconds), (A_p1_rules, iA g 5 p1_rules), (A_p1_hs, iA g 5 p1_hs), (A_p1_sizes, iA g 6 p1_sizes), (A_p1_breaks, iA g 6 p1_breaks), (A_p1_letters, iA g 6 p1_letters)]) C rfl rfl 1 rfl (Nat.le_of_ble_eq_true rfl) dX1_takeBack_161 rfl ?_
            cases hm
            exact b_vret C dX1_takeBack_164
  · cases hm
    exact b_vret C dX1_takeBack_8
/-- BreakLearner.undo()I -/
def m_X10_undo (F : Nat)   (th_doings_count : Int32) (th_stock_words : Int32) (th_stock_learnt : Int32) (th_doings_wheres : (Nat → Int32)) (th_doings_kinds : (Nat → Int32)) (th_doings_firsts : (Nat → Int32)) (th_doings_seconds : (Nat → Int32)) (th_stock_rules : (Nat → Int32)) (th_stock_hs : (Nat → Int32)) (th_stock_sizes : (Nat → Int32)) (th_stock_breaks : (Nat → Int32)) (th_stock_letters : (Nat → Int32)) (th_index_known : Int32) (th_index_size : Int32) (th_tree_packed : Int32) (th_chances_valued : Int32) (th_index_numbers : (Nat → Int32)) (th_index_codes : (Nat → Int32)) (th_index_starts : (Nat → Int32)) (th_index_signs : (Nat → Int32)) (th_index_fits : (Nat → Int32)) (th_learning_levels : (Nat → Int32)) (th_learning_digits : (Nat → Int32)) (th_learning_good : (Nat → Int32)) (th_learning_bad : (Nat → Int32)) : Option (Int32 × Int32 × Int32 × Int32 × (Nat → Int32) × (Nat → Int32) × (Nat → Int32) × (Nat → Int32) × (Nat → Int32) × Int32 × Int32 × Int32 × Int32 × (Nat → Int32) × (Nat → Int32) × (Nat → Int32) × (Nat → Int32) × (Nat → Int32) × (Nat → Int32) × (Nat → Int32) × (Nat → Int32) × (Nat → Int32)) :=
  if th_doings_count = 0 then
    some ((-3), th_doings_count, th_stock_words, th_stock_learnt, th_stock_rules, th_stock_hs, th_stock_sizes, th_stock_breaks, th_stock_letters, th_index_known, th_index_size, th_tree_packed, th_chances_valued, th_index_numbers, th_index_codes, th_index_starts, th_index_signs, th_index_fits, th_learning_levels, th_learning_digits, th_learning_good, th_learning_bad)
  else
    bK8 (m_X1_takeBack F th_doings_count th_stock_words th_stock_learnt th_doings_wheres th_doings_kinds th_doings_firsts th_doings_seconds th_stock_rules th_stock_hs th_stock_sizes th_stock_breaks th_stock_letters) (fun z1 z2 z3 f4 f5 f6 f7 f8 =>
    bK13 (m_X10_learnAnew F th_index_known th_index_size z2 z3 th_index_numbers th_index_codes th_index_starts th_index_signs th_index_fits f8 f6 th_learning_levels th_learning_digits th_learning_good th_learning_bad f7 f4 f5 th_tree_packed th_chances_valued) (fun z9 z10 f11 f12 f13 f14 f15 f16 f17 f18 f19 z20 z21 =>
    some (z1, z1, z2, z3, f4, f5, f6, f7, f8, z9, z10, z20, z21, f11, f12, f13, f14, f15, f16, f17, f18, f19)
    )
    )
abbrev rmX10_undo : Room := { frames := 4, cells := 0, slots := 0, locals := 100 }
set_option maxHeartbeats 4000000 in
set_option maxRecDepth 100000 in
theorem c_X10_undo (l : Launch) (g : Gl) (A_th A_th_doings A_th_stock A_th_doings_wheres A_th_doings_kinds A_th_doings_firsts A_th_doings_seconds A_th_stock_rules A_th_stock_hs A_th_stock_sizes A_th_stock_breaks A_th_stock_letters A_th_index A_th_learning A_th_tree A_th_chances A_th_index_numbers A_th_index_codes A_th_index_starts A_th_index_signs A_th_index_fits A_th_learning_levels A_th_learning_digits A_th_learning_good A_th_learning_bad : Nat) (V_th_text V_th_seen V_th_judging V_th_shelves V_th_onShelf V_th_theSeed V_th_tree_isNode V_th_tree_bases V_th_tree_slots V_th_tree_count V_th_tree_end V_th_chances_learning V_th_chances_rights : Value)   (th_doings_count : Int32) (th_stock_words : Int32) (th_stock_learnt : Int32) (th_doings_wheres : (Nat → Int32)) (th_doings_kinds : (Nat → Int32)) (th_doings_firsts : (Nat → Int32)) (th_doings_seconds : (Nat → Int32)) (th_stock_rules : (Nat → Int32)) (th_stock_hs : (Nat → Int32)) (th_stock_sizes : (Nat → Int32)) (th_stock_breaks : (Nat → Int32)) (th_stock_letters : (Nat → Int32)) (th_index_known : Int32) (th_index_size : Int32) (th_tree_packed : Int32) (th_chances_valued : Int32) (th_index_numbers : (Nat → Int32)) (th_index_codes : (Nat → Int32)) (th_index_starts : (Nat → Int32)) (th_index_signs : (Nat → Int32)) (th_index_fits : (Nat → Int32)) (th_learning_levels : (Nat → Int32)) (th_learning_digits : (Nat → Int32)) (th_learning_good : (Nat → Int32)) (th_learning_bad : (Nat → Int32)) (F : Nat) (u : Int32 × Int32 × Int32 × Int32 × (Nat → Int32) × (Nat → Int32) × (Nat → Int32) × (Nat → Int32) × (Nat → Int32) × Int32 × Int32 × Int32 × Int32 × (Nat → Int32) × (Nat → Int32) × (Nat → Int32) × (Nat → Int32) × (Nat → Int32) × (Nat → Int32) × (Nat → Int32) × (Nat → Int32) × (Nat → Int32)) (hm : m_X10_undo F th_doings_count th_stock_words th_stock_learnt th_doings_wheres th_doings_kinds th_doings_firsts th_doings_seconds th_stock_rules th_stock_hs th_stock_sizes th_stock_breaks th_stock_letters th_index_known th_index_size th_tree_packed th_chances_valued th_index_numbers th_index_codes th_index_starts th_index_signs th_index_fits th_learning_levels th_learning_digits th_learning_good th_learning_bad = some u) : Ct l g yX10_undo cX10_undo 1 (some .int) rmX10_undo [.ref A_th] [(A_th, oO 9 [V_th_text, .ref A_th_stock, .ref A_th_index, .ref A_th_learning, .ref A_th_doings, .ref A_th_tree, V_th_seen, V_th_judging, .ref A_th_chances, V_th_shelves, V_th_onShelf, V_th_theSeed]), (A_th_doings, oO 1 [.ref A_th_doings_kinds, .ref A_th_doings_wheres, .ref A_th_doings_firsts, .ref A_th_doings_seconds, .int th_doings_count]), (A_th_stock, oO 6 [.ref A_th_stock_letters, .ref A_th_stock_breaks, .ref A_th_stock_sizes, .ref A_th_stock_rules, .ref A_th_stock_hs, .int th_stock_words, .int th_stock_learnt]), (A_th_doings_wheres, iA g 14 th_doings_wheres), (A_th_doings_kinds, iA g 14 th_doings_kinds), (A_th_doings_firsts, iA g 14 th_doings_firsts), (A_th_doings_seconds, iA g 14 th_doings_seconds), (A_th_stock_rules, iA g 5 th_stock_rules), (A_th_stock_hs, iA g 5 th_stock_hs), (A_th_stock_sizes, iA g 6 th_stock_sizes), (A_th_stock_breaks, iA g 6 th_stock_breaks), (A_th_stock_letters, iA g 6 th_stock_letters), (A_th_index, oO 2 [.ref A_th_index_numbers, .ref A_th_index_codes, .ref A_th_index_fits, .int th_index_known, .ref A_th_index_starts, .ref A_th_index_signs, .int th_index_size]), (A_th_learning, oO 4 [.ref A_th_index, .ref A_th_learning_levels, .ref A_th_learning_good, .ref A_th_learning_bad, .ref A_th_learning_digits]), (A_th_tree, oO 8 [V_th_tree_isNode, V_th_tree_bases, V_th_tree_slots, V_th_tree_count, V_th_tree_end, .int th_tree_packed]), (A_th_chances, oO 0 [V_th_chances_learning, V_th_chances_rights, .int th_chances_valued]), (A_th_index_numbers, iA g 1372 th_index_numbers), (A_th_index_codes, iA g 270 th_index_codes), (A_th_index_starts, iA g 5 th_index_starts), (A_th_index_signs, iA g 8 th_index_signs), (A_th_index_fits, iA g 270 th_index_fits), (A_th_learning_levels, iA g 270 th_learning_levels), (A_th_learning_digits, iA g 30 th_learning_digits), (A_th_learning_good, iA g 270 th_learning_good), (A_th_learning_bad, iA g 270 th_learning_bad)] (some (.int u.1)) [(A_th, oO 9 [V_th_text, .ref A_th_stock, .ref A_th_index, .ref A_th_learning, .ref A_th_doings, .ref A_th_tree, V_th_seen, V_th_judging, .ref A_th_chances, V_th_shelves, V_th_onShelf, V_th_theSeed]), (A_th_doings, oO 1 [.ref A_th_doings_kinds, .ref A_th_doings_wheres, .ref A_th_doings_firsts, .ref A_th_doings_seconds, .int u.2.1]), (A_th_stock, oO 6 [.ref A_th_stock_letters, .ref A_th_stock_breaks, .ref A_th_stock_sizes, .ref A_th_stock_rules, .ref A_th_stock_hs, .int u.2.2.1, .int u.2.2.2.1]), (A_th_doings_wheres, iA g 14 th_doings_wheres), (A_th_doings_kinds, iA g 14 th_doings_kinds), (A_th_doings_firsts, iA g 14 th_doings_firsts), (A_th_doings_seconds, iA g 14 th_doings_seconds), (A_th_stock_rules, iA g 5 u.2.2.2.2.1), (A_th_stock_hs, iA g 5 u.2.2.2.2.2.1), (A_th_stock_sizes, iA g 6 u.2.2.2.2.2.2.1), (A_th_stock_breaks, iA g 6 u.2.2.2.2.2.2.2.1), (A_th_stock_letters, iA g 6 u.2.2.2.2.2.2.2.2.1), (A_th_index, oO 2 [.ref A_th_index_numbers, .ref A_th_index_codes, .ref A_th_index_fits, .int u.2.2.2.2.2.2.2.2.2.1, .ref A_th_index_starts, .ref A_th_index_signs, .int u.2.2.2.2.2.2.2.2.2.2.1]), (A_th_learning, oO 4 [.ref A_th_index, .ref A_th_learning_levels, .ref A_th_learning_good, .ref A_th_learning_bad, .ref A_th_learning_digits]), (A_th_tree, oO 8 [V_th_tree_isNode, V_th_tree_bases, V_th_tree_slots, V_th_tree_count, V_th_tree_end, .int u.2.2.2.2.2.2.2.2.2.2.2.1]), (A_th_chances, oO 0 [V_th_chances_learning, V_th_chances_rights, .int u.2.2.2.2.2.2.2.2.2.2.2.2.1]), (A_th_index_numbers, iA g 1372 u.2.2.2.2.2.2.2.2.2.2.2.2.2.1), (A_th_index_codes, iA g 270 u.2.2.2.2.2.2.2.2.2.2.2.2.2.2.1), (A_th_index_starts, iA g 5 u.2.2.2.2.2.2.2.2.2.2.2.2.2.2.2.1), (A_th_index_signs, iA g 8 u.2.2.2.2.2.2.2.2.2.2.2.2.2.2.2.2.1), (A_th_index_fits, iA g 270 u.2.2.2.2.2.2.2.2.2.2.2.2.2.2.2.2.2.1), (A_th_learning_levels, iA g 270 u.2.2.2.2.2.2.2.2.2.2.2.2.2.2.2.2.2.2.1), (A_th_learning_digits, iA g 30 u.2.2.2.2.2.2.2.2.2.2.2.2.2.2.2.2.2.2.2.1), (A_th_learning_good, iA g 270 u.2.2.2.2.2.2.2.2.2.2.2.2.2.2.2.2.2.2.2.2.1), (A_th_learning_bad, iA g 270 u.2.2.2.2.2.2.2.2.2.2.2.2.2.2.2.2.2.2.2.2.2)] := by
  refine ent (own := RX10) (lv := [(0, .ref A_th)]) (by decide) rfl (Nat.le_of_ble_eq_true rfl) rfl rfl ?_
  intro x C
  unfold m_X10_undo at hm
  refine b_aload_n C dX10_undo_0 rfl 0 rfl ?_
  refine gfX10_42 C 0 rfl rfl dX10_undo_1 ?_
  refine gfX10_107 C 1 rfl rfl dX10_undo_4 ?_
  refine b_if_ne (tgt := 13) C dX10_undo_7 (by decide) hm (fun hm => ?_) (fun hm => ?_)
  · refine b_aload_n C dX10_undo_13 rfl 0 rfl ?_
    refine gfX10_42 C 0 rfl rfl dX10_undo_14 ?_
    refine b_aload_n C dX10_undo_17 rfl 0 rfl ?_
    refine gfX10_19 C 0 rfl rfl dX10_undo_18 ?_
    obtain ⟨z1, z2, z3, f4, f5, f6, f7, f8, hM, hm⟩ := bK8_some hm
    refine b_kV (w' := [(A_th, oO 9 [V_th_text, .ref A_th_stock, .ref A_th_index, .ref A_th_learning, .ref A_th_doings, .ref A_th_tree, V_th_seen, V_th_judging, .ref A_th_chances, V_th_shelves, V_th_onShelf, V_th_theSeed]), (A_th_doings, oO 1 [.ref A_th_doings_kinds, .ref A_th_doings_wheres, .ref A_th_doings_firsts, .ref A_th_doings_seconds, .int z1]), (A_th_stock, oO 6 [.ref A_th_stock_letters, .ref A_th_stock_breaks, .ref A_th_stock_sizes, .ref A_th_stock_rules, .ref A_th_stock_hs, .int z2, .int z3]), (A_th_doings_wheres, iA g 14 th_doings_wheres), (A_th_doings_kinds, iA g 14 th_doings_kinds), (A_th_doings_firsts, iA g 14 th_doings_firsts), (A_th_doings_seconds, iA g 14 th_doings_seconds), (A_th_stock_rules, iA g 5 f4), (A_th_stock_hs, iA g 5 f5), (A_th_stock_sizes, iA g 6 f6), (A_th_stock_breaks, iA g 6 f7), (A_th_stock_letters, iA g 6 f8), (A_th_index, oO 2 [.ref A_th_index_numbers, .ref A_th_index_codes, .ref A_th_index_fits, .int th_index_known, .ref A_th_index_starts, .ref A_th_index_signs, .int th_index_size]), (A_th_learning, oO 4 [.ref A_th_index, .ref A_th_learning_levels, .ref A_th_learning_good, .ref A_th_learning_bad, .ref A_th_learning_digits]), (A_th_tree, oO 8 [V_th_tree_isNode, V_th_tree_bases, V_th_tree_slots, V_th_tree_count, V_th_tree_end, .int th_tree_packed]), (A_th_chances, oO 0 [V_th_chances_learning, V_th_chances_rights, .int th_chances_valued]), (A_th_index_numbers, iA g 1372 th_index_numbers), (A_th_index_codes, iA g 270 th_index_codes), (A_th_index_starts, iA g 5 th_index_starts), (A_th_index_signs, iA g 8 th_index_signs), (A_th_index_fits, iA g 270 th_index_fits), (A_th_learning_levels, iA g 270 th_learning_levels), (A_th_learning_digits, iA g 30 th_learning_digits), (A_th_learning_good, iA g 270 th_learning_good), (A_th_learning_bad, iA g 270 th_learning_bad)]) (st := []) (st2 := []) C cv_X1_takeBack tb644 (c_X1_takeBack l g A_th_doings A_th_stock A_th_doings_wheres A_th_doings_kinds A_th_doings_firsts A_th_doings_seconds A_th_stock_rules A_th_stock_hs A_th_stock_sizes A_th_stock_breaks A_th_stock_letters th_doings_count th_stock_words th_stock_learnt th_doings_wheres th_doings_kinds th_doings_firsts th_doings_seconds th_stock_rules th_stock_hs th_stock_sizes th_stock_breaks th_stock_letters F (z1, z2, z3, f4, f5, f6, f7, f8) hM) rfl 1 rfl rfl ⟨rfl, rfl, by decide, by decide⟩ (Nat.le_of_ble_eq_true rfl) [1, 2, 3, 4, 5, 6, 7, 8, 9, 10, 11] rfl (by decide) rfl rfl dX10_undo_21 [none, some 0, some 1, some 2, some 3, some 4, some 5, some 6, some 7, some 8, some 9, some 10, none, none, none, none, none, none, none, none, none, none, none, none, none] (by decide) ⟨rfl, ⟨⟨rfl, rfl⟩, ⟨⟨rfl, rfl⟩, ⟨⟨rfl, rfl⟩, ⟨⟨rfl, rfl⟩, ⟨⟨rfl, rfl⟩, ⟨⟨rfl, rfl⟩, ⟨⟨rfl, rfl⟩, ⟨⟨rfl, rfl⟩, ⟨⟨rfl, rfl⟩, ⟨⟨rfl, rfl⟩, ⟨⟨rfl, rfl⟩, ⟨rfl, ⟨rfl, ⟨rfl, ⟨rfl, ⟨rfl, ⟨rfl, ⟨rfl, ⟨rfl, ⟨rfl, ⟨rfl, ⟨rfl, ⟨rfl, ⟨rfl, trivial⟩⟩⟩⟩⟩⟩⟩⟩⟩⟩⟩⟩⟩⟩⟩⟩⟩⟩⟩⟩⟩⟩⟩⟩⟩ rfl ?_
    refine b_aload_n C dX10_undo_24 rfl 0 rfl ?_
    obtain ⟨z9, z10, f11, f12, f13, f14, f15, f16, f17, f18, f19, z20, z21, hM, hm⟩ := bK13_some hm
    refine b_kV (w' := [(A_th, oO 9 [V_th_text, .ref A_th_stock, .ref A_th_index, .ref A_th_learning, .ref A_th_doings, .ref A_th_tree, V_th_seen, V_th_judging, .ref A_th_chances, V_th_shelves, V_th_onShelf, V_th_theSeed]), (A_th_doings, oO 1 [.ref A_th_doings_kinds, .ref A_th_doings_wheres, .ref A_th_doings_firsts, .ref A_th_doings_seconds, .int z1]), (A_th_stock, oO 6 [.ref A_th_stock_letters, .ref A_th_stock_breaks, .ref A_th_stock_sizes, .ref A_th_stock_rules, .ref A_th_stock_hs, .int z2, .int z3]), (A_th_doings_wheres, iA g 14 th_doings_wheres), (A_th_doings_kinds, iA g 14 th_doings_kinds), (A_th_doings_firsts, iA g 14 th_doings_firsts), (A_th_doings_seconds, iA g 14 th_doings_seconds), (A_th_stock_rules, iA g 5 f4), (A_th_stock_hs, iA g 5 f5), (A_th_stock_sizes, iA g 6 f6), (A_th_stock_breaks, iA g 6 f7), (A_th_stock_letters, iA g 6 f8), (A_th_index, oO 2 [.ref A_th_index_numbers, .ref A_th_index_codes, .ref A_th_index_fits, .int z9, .ref A_th_index_starts, .ref A_th_index_signs, .int z10]), (A_th_learning, oO 4 [.ref A_th_index, .ref A_th_learning_levels, .ref A_th_learning_good, .ref A_th_learning_bad, .ref A_th_learning_digits]), (A_th_tree, oO 8 [V_th_tree_isNode, V_th_tree_bases, V_th_tree_slots, V_th_tree_count, V_th_tree_end, .int z20]), (A_th_chances, oO 0 [V_th_chances_learning, V_th_chances_rights, .int z21]), (A_th_index_numbers, iA g 1372 f11), (A_th_index_codes, iA g 270 f12), (A_th_index_starts, iA g 5 f13), (A_th_index_signs, iA g 8 f14), (A_th_index_fits, iA g 270 f15), (A_th_learning_levels, iA g 270 f16), (A_th_learning_digits, iA g 30 f17), (A_th_learning_good, iA g 270 f18), (A_th_learning_bad, iA g 270 f19)]) (st := []) (st2 := []) C cv_X10_learnAnew tb395 (c_X10_learnAnew l g A_th A_th_index A_th_stock A_th_index_numbers A_th_index_codes A_th_index_starts A_th_index_signs A_th_index_fits A_th_stock_letters A_th_stock_sizes A_th_learning A_th_learning_levels A_th_learning_digits A_th_learning_good A_th_learning_bad A_th_stock_breaks A_th_stock_rules A_th_stock_hs A_th_tree A_th_chances V_th_text (.ref A_th_doings) V_th_seen V_th_judging V_th_shelves V_th_onShelf V_th_theSeed V_th_tree_isNode V_th_tree_bases V_th_tree_slots V_th_tree_count V_th_tree_end V_th_chances_learning V_th_chances_rights th_index_known th_index_size z2 z3 th_index_numbers th_index_codes th_index_starts th_index_signs th_index_fits f8 f6 th_learning_levels th_learning_digits th_learning_good th_learning_bad f7 f4 f5 th_tree_packed th_chances_valued F (z9, z10, f11, f12, f13, f14, f15, f16, f17, f18, f19, z20, z21) hM) rfl 0 rfl rfl ⟨rfl, rfl, by decide, by decide⟩ (Nat.le_of_ble_eq_true rfl) [0, 12, 2, 16, 17, 18, 19, 20, 11, 9, 13, 21, 22, 23, 24, 10, 7, 8, 14, 15] rfl (by decide) rfl rfl dX10_undo_25 [some 0, none, some 2, none, none, none, none, some 16, some 17, some 9, some 15, some 8, some 1, some 10, some 18, some 19, some 3, some 4, some 5, some 6, some 7, some 11, some 12, some 13, some 14] (by decide) ⟨⟨rfl, rfl⟩, ⟨rfl, ⟨⟨rfl, rfl⟩, ⟨rfl, ⟨rfl, ⟨rfl, ⟨rfl, ⟨⟨rfl, rfl⟩, ⟨⟨rfl, rfl⟩, ⟨⟨rfl, rfl⟩, ⟨⟨rfl, rfl⟩, ⟨⟨rfl, rfl⟩, ⟨⟨rfl, rfl⟩, ⟨⟨rfl, rfl⟩, ⟨⟨rfl, rfl⟩, ⟨⟨rfl, rfl⟩, ⟨⟨rfl, rfl⟩, ⟨⟨rfl, rfl⟩, ⟨⟨rfl, rfl⟩, ⟨⟨rfl, rfl⟩, ⟨⟨rfl, rfl⟩, ⟨⟨rfl, rfl⟩, ⟨⟨rfl, rfl⟩, ⟨⟨rfl, rfl⟩, ⟨⟨rfl, rfl⟩, trivial⟩⟩⟩⟩⟩⟩⟩⟩⟩⟩⟩⟩⟩⟩⟩⟩⟩⟩⟩⟩⟩⟩⟩⟩⟩ rfl ?_
    refine b_aload_n C dX10_undo_28 rfl 0 rfl ?_
    refine gfX10_42 C 0 rfl rfl dX10_undo_29 ?_
    refine gfX10_107 C 1 rfl rfl dX10_undo_32 ?_
    cases hm
    exact b_iret C dX10_undo_35
  · refine b_bipush (v := (-3)) C dX10_undo_10 (by decide) ?_
    cases hm
    exact b_iret C dX10_undo_12
/-- BreakLearner$Tree.baseOf(I)I -/
def m_X9_baseOf (F : Nat)  (n1 : Int32) (th_bases : (Nat → Int32)) : Option (Int32) :=
  if n1 < 0 then
    some (-9)
  else
    if 49 ≤ n1 then
      some (-9)
    else
      rdK 49 th_bases n1 (fun v1 =>
      some v1
      )
abbrev rmX9_baseOf : Room := { frames := 0, cells := 0, slots := 0, locals := 0 }
set_option maxHeartbeats 4000000 in
set_option maxRecDepth 100000 in
theorem c_X9_baseOf (l : Launch) (g : Gl) (A_th A_th_bases : Nat) (V_th_isNode V_th_slots V_th_count V_th_end V_th_packed : Value)  (n1 : Int32) (th_bases : (Nat → Int32)) (F : Nat) (u : Int32) (hm : m_X9_baseOf F n1 th_bases = some u) : Ct l g yX9_baseOf cX9_baseOf 2 (some .int) rmX9_baseOf [.ref A_th, .int n1] [(A_th, oO 8 [V_th_isNode, .ref A_th_bases, V_th_slots, V_th_count, V_th_end, V_th_packed]), (A_th_bases, iA g 49 th_bases)] (some (.int u)) [(A_th, oO 8 [V_th_isNode, .ref A_th_bases, V_th_slots, V_th_count, V_th_end, V_th_packed]), (A_th_bases, iA g 49 th_bases)] := by
  refine ent (own := RX9) (lv := [(0, .ref A_th), (1, .int n1)]) (by decide) rfl (Nat.le_of_ble_eq_true rfl) rfl rfl ?_
  intro x C
  unfold m_X9_baseOf at hm
  refine b_iload_n C dX9_baseOf_0 rfl 1 rfl ?_
  refine b_if_lt (tgt := 19) C dX9_baseOf_1 (by decide) hm (fun hm => ?_) (fun hm => ?_)
  · refine b_bipush (v := (-9)) C dX9_baseOf_19 (by decide) ?_
    cases hm
    exact b_iret C dX9_baseOf_21
  · refine b_iload_n C dX9_baseOf_4 rfl 1 rfl ?_
    refine b_bipush (v := 49) C dX9_baseOf_5 (by decide) ?_
    refine b_icmp_ge (tgt := 19) C dX9_baseOf_7 (by decide) hm (fun hm => ?_) (fun hm => ?_)
    · refine b_bipush (v := (-9)) C dX9_baseOf_19 (by decide) ?_
      cases hm
      exact b_iret C dX9_baseOf_21
    · refine b_aload_n C dX9_baseOf_10 rfl 0 rfl ?_
      refine gfX9_15 C 0 rfl rfl dX9_baseOf_11 ?_
      refine b_iload_n C dX9_baseOf_14 rfl 1 rfl ?_
      refine b_iald C 1 rfl dX9_baseOf_15 hm (fun v1 hm => ?_)
      refine b_goto (tgt := 21) C dX9_baseOf_16 (by decide) ?_
      cases hm
      exact b_iret C dX9_baseOf_21
/-- BreakLearner.base(I)I -/
def m_X10_base (F : Nat)  (n1 : Int32) (th_tree_count : Int32) (th_tree_end : Int32) (th_tree_packed : Int32) (th_tree_isNode : (Nat → Int32)) (th_tree_slots : (Nat → Int32)) (th_tree_bases : (Nat → Int32)) (th_index_known : Int32) (th_learning_levels : (Nat → Int32)) (th_index_codes : (Nat → Int32)) : Option (Int32 × Int32 × Int32 × Int32 × (Nat → Int32) × (Nat → Int32) × (Nat → Int32)) :=
  jn1 (fun (y1 : Int32) =>
    if 0 ≤ y1 then
      bK6 (m_X10_packedTree F th_tree_count th_tree_end th_tree_packed th_tree_isNode th_tree_slots th_tree_bases th_index_known th_learning_levels th_index_codes) (fun z3 z4 z5 f6 f7 f8 =>
      bK1 (m_X9_baseOf F y1 f8) (fun r9 =>
      some (r9, z3, z4, z5, f6, f7, f8)
      )
      )
    else
      some ((-2), th_tree_count, th_tree_end, th_tree_packed, th_tree_isNode, th_tree_slots, th_tree_bases)
    ) (fun k2 =>
    if n1 = 0 then
      k2 0
    else
      bK1 (m_X2_nodeOf F n1) (fun r10 =>
      k2 r10
      )
    )
abbrev rmX10_base : Room := { frames := 4, cells := 0, slots := 0, locals := 87 }
set_option maxHeartbeats 4000000 in
set_option maxRecDepth 100000 in
theorem c_X10_base (l : Launch) (g : Gl) (A_th A_th_tree A_th_learning A_th_tree_isNode A_th_tree_slots A_th_tree_bases A_th_index A_th_learning_levels A_th_index_codes : Nat) (V_th_text V_th_stock V_th_index V_th_doings V_th_seen V_th_judging V_th_chances V_th_shelves V_th_onShelf V_th_theSeed V_th_learning_good V_th_learning_bad V_th_learning_digits V_th_index_numbers V_th_index_fits V_th_index_starts V_th_index_signs V_th_index_size : Value)  (n1 : Int32) (th_tree_count : Int32) (th_tree_end : Int32) (th_tree_packed : Int32) (th_tree_isNode : (Nat → Int32)) (th_tree_slots : (Nat → Int32)) (th_tree_bases : (Nat → Int32)) (th_index_known : Int32) (th_learning_levels : (Nat → Int32)) (th_index_codes : (Nat → Int32)) (F : Nat) (u : Int32 × Int32 × Int32 × Int32 × (Nat → Int32) × (Nat → Int32) × (Nat → Int32)) (hm : m_X10_base F n1 th_tree_count th_tree_end th_tree_packed th_tree_isNode th_tree_slots th_tree_bases th_index_known th_learning_levels th_index_codes = some u) : Ct l g yX10_base cX10_base 3 (some .int) rmX10_base [.ref A_th, .int n1] [(A_th, oO 9 [V_th_text, V_th_stock, V_th_index, .ref A_th_learning, V_th_doings, .ref A_th_tree, V_th_seen, V_th_judging, V_th_chances, V_th_shelves, V_th_onShelf, V_th_theSeed]), (A_th_tree, oO 8 [.ref A_th_tree_isNode, .ref A_th_tree_bases, .ref A_th_tree_slots, .int th_tree_count, .int th_tree_end, .int th_tree_packed]), (A_th_learning, oO 4 [.ref A_th_index, .ref A_th_learning_levels, V_th_learning_good, V_th_learning_bad, V_th_learning_digits]), (A_th_tree_isNode, zA g 343 th_tree_isNode), (A_th_tree_slots, iA g 301 th_tree_slots), (A_th_tree_bases, iA g 49 th_tree_bases), (A_th_index, oO 2 [V_th_index_numbers, .ref A_th_index_codes, V_th_index_fits, .int th_index_known, V_th_index_starts, V_th_index_signs, V_th_index_size]), (A_th_learning_levels, iA g 270 th_learning_levels), (A_th_index_codes, iA g 270 th_index_codes)] (some (.int u.1)) [(A_th, oO 9 [V_th_text, V_th_stock, V_th_index, .ref A_th_learning, V_th_doings, .ref A_th_tree, V_th_seen, V_th_judging, V_th_chances, V_th_shelves, V_th_onShelf, V_th_theSeed]), (A_th_tree, oO 8 [.ref A_th_tree_isNode, .ref A_th_tree_bases, .ref A_th_tree_slots, .int u.2.1, .int u.2.2.1, .int u.2.2.2.1]), (A_th_learning, oO 4 [.ref A_th_index, .ref A_th_learning_levels, V_th_learning_good, V_th_learning_bad, V_th_learning_digits]), (A_th_tree_isNode, zA g 343 u.2.2.2.2.1), (A_th_tree_slots, iA g 301 u.2.2.2.2.2.1), (A_th_tree_bases, iA g 49 u.2.2.2.2.2.2), (A_th_index, oO 2 [V_th_index_numbers, .ref A_th_index_codes, V_th_index_fits, .int th_index_known, V_th_index_starts, V_th_index_signs, V_th_index_size]), (A_th_learning_levels, iA g 270 th_learning_levels), (A_th_index_codes, iA g 270 th_index_codes)] := by
  refine ent (own := RX10) (lv := [(0, .ref A_th), (1, .int n1)]) (by decide) rfl (Nat.le_of_ble_eq_true rfl) rfl rfl ?_
  intro x C
  unfold m_X10_base at hm
  refine b_iload_n C dX10_base_0 rfl 1 rfl ?_
  obtain ⟨k2, hk2, hm⟩ := jn1_some hm
  have jk2 : ∀ (y1 : Int32), k2 y1 = some u → Wb x [(A_th, oO 9 [V_th_text, V_th_stock, V_th_index, .ref A_th_learning, V_th_doings, .ref A_th_tree, V_th_seen, V_th_judging, V_th_chances, V_th_shelves, V_th_onShelf, V_th_theSeed]), (A_th_tree, oO 8 [.ref A_th_tree_isNode, .ref A_th_tree_bases, .ref A_th_tree_slots, .int th_tree_count, .int th_tree_end, .int th_tree_packed]), (A_th_learning, oO 4 [.ref A_th_index, .ref A_th_learning_levels, V_th_learning_good, V_th_learning_bad, V_th_learning_digits]), (A_th_tree_isNode, zA g 343 th_tree_isNode), (A_th_tree_slots, iA g 301 th_tree_slots), (A_th_tree_bases, iA g 49 th_tree_bases), (A_th_index, oO 2 [V_th_index_numbers, .ref A_th_index_codes, V_th_index_fits, .int th_index_known, V_th_index_starts, V_th_index_signs, V_th_index_size]), (A_th_learning_levels, iA g 270 th_learning_levels), (A_th_index_codes, iA g 270 th_index_codes)] [(0, .ref A_th)] 12 [.int y1] := by
    intro y1 hm
    have hm := hk2 _ hm
    refine b_istore_n (lv' := [(2, .int y1), (0, .ref A_th)]) C dX10_base_12 rfl (by decide) rfl ?_
    refine b_iload_n C dX10_base_13 rfl 0 rfl ?_
    refine b_if_ge (tgt := 20) C dX10_base_14 (by decide) hm (fun hm => ?_) (fun hm => ?_)
    · refine b_aload_n C dX10_base_20 rfl 1 rfl ?_
      obtain ⟨z3, z4, z5, f6, f7, f8, hM, hm⟩ := bK6_some hm
      refine b_kV (w' := [(A_th, oO 9 [V_th_text, V_th_stock, V_th_index, .ref A_th_learning, V_th_doings, .ref A_th_tree, V_th_seen, V_th_judging, V_th_chances, V_th_shelves, V_th_onShelf, V_th_theSeed]), (A_th_tree, oO 8 [.ref A_th_tree_isNode, .ref A_th_tree_bases, .ref A_th_tree_slots, .int z3, .int z4, .int z5]), (A_th_learning, oO 4 [.ref A_th_index, .ref A_th_learning_levels, V_th_learning_good, V_th_learning_bad, V_th_learning_digits]), (A_th_tree_isNode, zA g 343 f6), (A_th_tree_slots, iA g 301 f7), (A_th_tree_bases, iA g 49 f8), (A_th_index, oO 2 [V_th_index_numbers, .ref A_th_index_codes, V_th_index_fits, .int th_index_known, V_th_index_starts, V_th_index_signs, V_th_index_size]), (A_th_learning_levels, iA g 270 th_learning_levels), (A_th_index_codes, iA g 270 th_index_codes)]) (st := []) (st2 := [.ref A_th_tree]) C cv_X10_packedTree tb508 (c_X10_packedTree l g A_th A_th_tree A_th_learning A_th_tree_isNode A_th_tree_slots A_th_tree_bases A_th_index A_th_learning_levels A_th_index_codes V_th_text V_th_stock V_th_index V_th_doings V_th_seen V_th_judging V_th_chances V_th_shelves V_th_onShelf V_th_theSeed V_th_learning_good V_th_learning_bad V_th_learning_digits V_th_index_numbers V_th_index_fits V_th_index_starts V_th_index_signs V_th_index_size th_tree_count th_tree_end th_tree_packed th_tree_isNode th_tree_slots th_tree_bases th_index_known th_learning_levels th_index_codes F (z3, z4, z5, f6, f7, f8) hM) rfl 0 rfl rfl ⟨rfl, rfl, by decide, by decide⟩ (Nat.le_of_ble_eq_true rfl) [0, 1, 2, 3, 4, 5, 6, 7, 8] rfl (by decide) rfl rfl dX10_base_21 [some 0, some 1, some 2, some 3, some 4, some 5, some 6, some 7, some 8] (by decide) ⟨⟨rfl, rfl⟩, ⟨⟨rfl, rfl⟩, ⟨⟨rfl, rfl⟩, ⟨⟨rfl, rfl⟩, ⟨⟨rfl, rfl⟩, ⟨⟨rfl, rfl⟩, ⟨⟨rfl, rfl⟩, ⟨⟨rfl, rfl⟩, ⟨⟨rfl, rfl⟩, trivial⟩⟩⟩⟩⟩⟩⟩⟩⟩ rfl ?_
      refine b_iload_n C dX10_base_24 rfl 0 rfl ?_
      obtain ⟨r9, hM, hm⟩ := bK1_some hm
      refine b_kV (w' := [(A_th, oO 9 [V_th_text, V_th_stock, V_th_index, .ref A_th_learning, V_th_doings, .ref A_th_tree, V_th_seen, V_th_judging, V_th_chances, V_th_shelves, V_th_onShelf, V_th_theSeed]), (A_th_tree, oO 8 [.ref A_th_tree_isNode, .ref A_th_tree_bases, .ref A_th_tree_slots, .int z3, .int z4, .int z5]), (A_th_learning, oO 4 [.ref A_th_index, .ref A_th_learning_levels, V_th_learning_good, V_th_learning_bad, V_th_learning_digits]), (A_th_tree_isNode, zA g 343 f6), (A_th_tree_slots, iA g 301 f7), (A_th_tree_bases, iA g 49 f8), (A_th_index, oO 2 [V_th_index_numbers, .ref A_th_index_codes, V_th_index_fits, .int th_index_known, V_th_index_starts, V_th_index_signs, V_th_index_size]), (A_th_learning_levels, iA g 270 th_learning_levels), (A_th_index_codes, iA g 270 th_index_codes)]) (st := []) (st2 := [.int r9]) C cv_X9_baseOf tb657 (c_X9_baseOf l g A_th_tree A_th_tree_bases (.ref A_th_tree_isNode) (.ref A_th_tree_slots) (.int z3) (.int z4) (.int z5) y1 f8 F r9 hM) rfl 1 rfl rfl ⟨rfl, rfl, by decide, by decide⟩ (Nat.le_of_ble_eq_true rfl) [1, 5] rfl (by decide) rfl rfl dX10_base_25 [none, some 0, none, none, none, some 1, none, none, none] (by decide) ⟨rfl, ⟨⟨rfl, rfl⟩, ⟨rfl, ⟨rfl, ⟨rfl, ⟨⟨rfl, rfl⟩, ⟨rfl, ⟨rfl, ⟨rfl, trivial⟩⟩⟩⟩⟩⟩⟩⟩⟩ rfl ?_
      cases hm
      exact b_iret C dX10_base_28
    · refine b_bipush (v := (-2)) C dX10_base_17 (by decide) ?_
      cases hm
      exact b_iret C dX10_base_19
  refine b_if_ne (tgt := 8) C dX10_base_1 (by decide) hm (fun hm => ?_) (fun hm => ?_)
  · refine b_iload_n C dX10_base_8 rfl 1 rfl ?_
    obtain ⟨r10, hM, hm⟩ := bK1_some hm
    refine b_kS (w' := [(A_th, oO 9 [V_th_text, V_th_stock, V_th_index, .ref A_th_learning, V_th_doings, .ref A_th_tree, V_th_seen, V_th_judging, V_th_chances, V_th_shelves, V_th_onShelf, V_th_theSeed]), (A_th_tree, oO 8 [.ref A_th_tree_isNode, .ref A_th_tree_bases, .ref A_th_tree_slots, .int th_tree_count, .int th_tree_end, .int th_tree_packed]), (A_th_learning, oO 4 [.ref A_th_index, .ref A_th_learning_levels, V_th_learning_good, V_th_learning_bad, V_th_learning_digits]), (A_th_tree_isNode, zA g 343 th_tree_isNode), (A_th_tree_slots, iA g 301 th_tree_slots), (A_th_tree_bases, iA g 49 th_tree_bases), (A_th_index, oO 2 [V_th_index_numbers, .ref A_th_index_codes, V_th_index_fits, .int th_index_known, V_th_index_starts, V_th_index_signs, V_th_index_size]), (A_th_learning_levels, iA g 270 th_learning_levels), (A_th_index_codes, iA g 270 th_index_codes)]) (st := []) (st2 := [.int r10]) C cs_X2_nodeOf tb573 (c_X2_nodeOf l g n1 F r10 hM) rfl ⟨rfl, rfl, by decide, by decide⟩ (Nat.le_of_ble_eq_true rfl) [] rfl (by decide) rfl rfl dX10_base_9 [none, none, none, none, none, none, none, none, none] (by decide) ⟨rfl, ⟨rfl, ⟨rfl, ⟨rfl, ⟨rfl, ⟨rfl, ⟨rfl, ⟨rfl, ⟨rfl, trivial⟩⟩⟩⟩⟩⟩⟩⟩⟩ rfl ?_
    exact Wb.lv (jk2 r10 hm) [0] rfl
  · refine b_iconst (v := 0) C dX10_base_4 (by decide) ?_
    refine b_goto (tgt := 12) C dX10_base_5 (by decide) ?_
    exact Wb.lv (jk2 0 hm) [0] rfl
/-- BreakLearner$Figures.figuresOf(I)I -/
def m_X2_figuresOf (F : Nat)  (n1 : Int32)  : Option (Int32) :=
  some ((((n1 / 49) * 100) + ((irm (n1 / 7) 7) * 10)) + (irm n1 7))
abbrev rmX2_figuresOf : Room := { frames := 0, cells := 0, slots := 0, locals := 0 }
set_option maxHeartbeats 4000000 in
set_option maxRecDepth 100000 in
theorem c_X2_figuresOf (l : Launch) (g : Gl)  (n1 : Int32)  (F : Nat) (u : Int32) (hm : m_X2_figuresOf F n1 = some u) : Ct l g yX2_figuresOf cX2_figuresOf 1 (some .int) rmX2_figuresOf [.int n1] [] (some (.int u)) [] := by
  refine ent (own := RX2) (lv := [(0, .int n1)]) (by decide) rfl (Nat.le_of_ble_eq_true rfl) rfl rfl ?_
  intro x C
  unfold m_X2_figuresOf at hm
  refine b_iload_n C dX2_figuresOf_0 rfl 0 rfl ?_
  refine b_bipush (v := 49) C dX2_figuresOf_1 (by decide) ?_
  refine b_idiv C dX2_figuresOf_3 (by decide) ?_
  refine b_bipush (v := 100) C dX2_figuresOf_4 (by decide) ?_
  refine b_imul C dX2_figuresOf_6 ?_
  refine b_iload_n C dX2_figuresOf_7 rfl 0 rfl ?_
  refine b_bipush (v := 7) C dX2_figuresOf_8 (by decide) ?_
  refine b_idiv C dX2_figuresOf_10 (by decide) ?_
  refine b_bipush (v := 7) C dX2_figuresOf_11 (by decide) ?_
  refine b_irem C dX2_figuresOf_13 (by decide) ?_
  refine b_bipush (v := 10) C dX2_figuresOf_14 (by decide) ?_
  refine b_imul C dX2_figuresOf_16 ?_
  refine b_iadd C dX2_figuresOf_17 ?_
  refine b_iload_n C dX2_figuresOf_18 rfl 0 rfl ?_
  refine b_bipush (v := 7) C dX2_figuresOf_19 (by decide) ?_
  refine b_irem C dX2_figuresOf_21 (by decide) ?_
  refine b_iadd C dX2_figuresOf_22 ?_
  cases hm
  exact b_iret C dX2_figuresOf_23
/-- BreakLearner$Tree.nodeIn(I)I -/
def m_X9_nodeIn (F : Nat)  (n1 : Int32) (th_slots : (Nat → Int32)) : Option (Int32) :=
  jn1 (fun (y1 : Int32) =>
    if y1 = 0 then
      rdK 301 th_slots n1 (fun v3 =>
      bK1 (m_X2_figuresOf F v3) (fun r4 =>
      some r4
      )
      )
    else
      some (-9)
    ) (fun k2 =>
    jn0 (
      k2 1
      ) (fun k5 =>
      if n1 < 0 then
        k5
      else
        if 301 ≤ n1 then
          k5
        else
          rdK 301 th_slots n1 (fun v6 =>
          if v6 = 0 then
            k5
          else
            k2 0
          )
      )
    )
abbrev rmX9_nodeIn : Room := { frames := 1, cells := 0, slots := 0, locals := 20 }
set_option maxHeartbeats 4000000 in
set_option maxRecDepth 100000 in
theorem c_X9_nodeIn (l : Launch) (g : Gl) (A_th A_th_slots : Nat) (V_th_isNode V_th_bases V_th_count V_th_end V_th_packed : Value)  (n1 : Int32) (th_slots : (Nat → Int32)) (F : Nat) (u : Int32) (hm : m_X9_nodeIn F n1 th_slots = some u) : Ct l g yX9_nodeIn cX9_nodeIn 3 (some .int) rmX9_nodeIn [.ref A_th, .int n1] [(A_th, oO 8 [V_th_isNode, V_th_bases, .ref A_th_slots, V_th_count, V_th_end, V_th_packed]), (A_th_slots, iA g 301 th_slots)] (some (.int u)) [(A_th, oO 8 [V_th_isNode, V_th_bases, .ref A_th_slots, V_th_count, V_th_end, V_th_packed]), (A_th_slots, iA g 301 th_slots)] := by
  refine ent (own := RX9) (lv := [(0, .ref A_th), (1, .int n1)]) (by decide) rfl (Nat.le_of_ble_eq_true rfl) rfl rfl ?_
  intro x C
  unfold m_X9_nodeIn at hm
  refine b_iload_n C dX9_nodeIn_0 rfl 1 rfl ?_
  obtain ⟨k2, hk2, hm⟩ := jn1_some hm
  have jk2 : ∀ (y1 : Int32), k2 y1 = some u → Wb x [(A_th, oO 8 [V_th_isNode, V_th_bases, .ref A_th_slots, V_th_count, V_th_end, V_th_packed]), (A_th_slots, iA g 301 th_slots)] [(0, .ref A_th), (1, .int n1)] 25 [.int y1] := by
    intro y1 hm
    have hm := hk2 _ hm
    refine b_istore_n (lv' := [(2, .int y1), (0, .ref A_th), (1, .int n1)]) C dX9_nodeIn_25 rfl (by decide) rfl ?_
    refine b_iload_n C dX9_nodeIn_26 rfl 0 rfl ?_
    refine b_if_eq (tgt := 35) C dX9_nodeIn_27 (by decide) hm (fun hm => ?_) (fun hm => ?_)
    · refine b_aload_n C dX9_nodeIn_35 rfl 1 rfl ?_
      refine gfX9_19 C 0 rfl rfl dX9_nodeIn_36 ?_
      refine b_iload_n C dX9_nodeIn_39 rfl 2 rfl ?_
      refine b_iald C 1 rfl dX9_nodeIn_40 hm (fun v3 hm => ?_)
      obtain ⟨r4, hM, hm⟩ := bK1_some hm
      refine b_kS (w' := [(A_th, oO 8 [V_th_isNode, V_th_bases, .ref A_th_slots, V_th_count, V_th_end, V_th_packed]), (A_th_slots, iA g 301 th_slots)]) (st := []) (st2 := [.int r4]) C cs_X2_figuresOf tb669 (c_X2_figuresOf l g v3 F r4 hM) rfl ⟨rfl, rfl, by decide, by decide⟩ (Nat.le_of_ble_eq_true rfl) [] rfl (by decide) rfl rfl dX9_nodeIn_41 [none, none] (by decide) ⟨rfl, ⟨rfl, trivial⟩⟩ rfl ?_
      cases hm
      exact b_iret C dX9_nodeIn_44
    · refine b_bipush (v := (-9)) C dX9_nodeIn_30 (by decide) ?_
      refine b_goto (tgt := 44) C dX9_nodeIn_32 (by decide) ?_
      cases hm
      exact b_iret C dX9_nodeIn_44
  obtain ⟨k5, hk5, hm⟩ := jn0_some hm
  have jk5 : k5  = some u → Wb x [(A_th, oO 8 [V_th_isNode, V_th_bases, .ref A_th_slots, V_th_count, V_th_end, V_th_packed]), (A_th_slots, iA g 301 th_slots)] [(0, .ref A_th), (1, .int n1)] 20 [] := by
    intro  hm
    have hm := hk5 hm
    refine b_iconst (v := 1) C dX9_nodeIn_20 (by decide) ?_
    refine b_goto (tgt := 25) C dX9_nodeIn_21 (by decide) ?_
    exact Wb.lv (jk2 1 hm) [0, 1] rfl
  refine b_if_lt (tgt := 20) C dX9_nodeIn_1 (by decide) hm (fun hm => ?_) (fun hm => ?_)
  · exact Wb.lv (jk5  hm) [0, 1] rfl
  · refine b_iload_n C dX9_nodeIn_4 rfl 1 rfl ?_
    refine b_sipush (v := 301) C dX9_nodeIn_5 (by decide) ?_
    refine b_icmp_ge (tgt := 20) C dX9_nodeIn_8 (by decide) hm (fun hm => ?_) (fun hm => ?_)
    · exact Wb.lv (jk5  hm) [0, 1] rfl
    · refine b_aload_n C dX9_nodeIn_11 rfl 0 rfl ?_
      refine gfX9_19 C 0 rfl rfl dX9_nodeIn_12 ?_
      refine b_iload_n C dX9_nodeIn_15 rfl 1 rfl ?_
      refine b_iald C 1 rfl dX9_nodeIn_16 hm (fun v6 hm => ?_)
      refine b_if_ne (tgt := 24) C dX9_nodeIn_17 (by decide) hm (fun hm => ?_) (fun hm => ?_)
      · refine b_iconst (v := 0) C dX9_nodeIn_24 (by decide) ?_
        exact Wb.lv (jk2 0 hm) [0, 1] rfl
      · exact Wb.lv (jk5  hm) [0, 1] rfl
/-- BreakLearner.slot(I)I -/
def m_X10_slot (F : Nat)  (n1 : Int32) (th_tree_count : Int32) (th_tree_end : Int32) (th_tree_packed : Int32) (th_tree_isNode : (Nat → Int32)) (th_tree_slots : (Nat → Int32)) (th_tree_bases : (Nat → Int32)) (th_index_known : Int32) (th_learning_levels : (Nat → Int32)) (th_index_codes : (Nat → Int32)) : Option (Int32 × Int32 × Int32 × Int32 × (Nat → Int32) × (Nat → Int32) × (Nat → Int32)) :=
  if 0 ≤ n1 then
    bK6 (m_X10_packedTree F th_tree_count th_tree_end th_tree_packed th_tree_isNode th_tree_slots th_tree_bases th_index_known th_learning_levels th_index_codes) (fun z1 z2 z3 f4 f5 f6 =>
    bK1 (m_X9_nodeIn F n1 f5) (fun r7 =>
    some (r7, z1, z2, z3, f4, f5, f6)
    )
    )
  else
    some ((-2), th_tree_count, th_tree_end, th_tree_packed, th_tree_isNode, th_tree_slots, th_tree_bases)
abbrev rmX10_slot : Room := { frames := 4, cells := 0, slots := 0, locals := 87 }
set_option maxHeartbeats 4000000 in
set_option maxRecDepth 100000 in
theorem c_X10_slot (l : Launch) (g : Gl) (A_th A_th_tree A_th_learning A_th_tree_isNode A_th_tree_slots A_th_tree_bases A_th_index A_th_learning_levels A_th_index_codes : Nat) (V_th_text V_th_stock V_th_index V_th_doings V_th_seen V_th_judging V_th_chances V_th_shelves V_th_onShelf V_th_theSeed V_th_learning_good V_th_learning_bad V_th_learning_digits V_th_index_numbers V_th_index_fits V_th_index_starts V_th_index_signs V_th_index_size : Value)  (n1 : Int32) (th_tree_count : Int32) (th_tree_end : Int32) (th_tree_packed : Int32) (th_tree_isNode : (Nat → Int32)) (th_tree_slots : (Nat → Int32)) (th_tree_bases : (Nat → Int32)) (th_index_known : Int32) (th_learning_levels : (Nat → Int32)) (th_index_codes : (Nat → Int32)) (F : Nat) (u : Int32 × Int32 × Int32 × Int32 × (Nat → Int32) × (Nat → Int32) × (Nat → Int32)) (hm : m_X10_slot F n1 th_tree_count th_tree_end th_tree_packed th_tree_isNode th_tree_slots th_tree_bases th_index_known th_learning_levels th_index_codes = some u) : Ct l g yX10_slot cX10_slot 2 (some .int) rmX10_slot [.ref A_th, .int n1] [(A_th, oO 9 [V_th_text, V_th_stock, V_th_index, .ref A_th_learning, V_th_doings, .ref A_th_tree, V_th_seen, V_th_judging, V_th_chances, V_th_shelves, V_th_onShelf, V_th_theSeed]), (A_th_tree, oO 8 [.ref A_th_tree_isNode, .ref A_th_tree_bases, .ref A_th_tree_slots, .int th_tree_count, .int th_tree_end, .int th_tree_packed]), (A_th_learning, oO 4 [.ref A_th_index, .ref A_th_learning_levels, V_th_learning_good, V_th_learning_bad, V_th_learning_digits]), (A_th_tree_isNode, zA g 343 th_tree_isNode), (A_th_tree_slots, iA g 301 th_tree_slots), (A_th_tree_bases, iA g 49 th_tree_bases), (A_th_index, oO 2 [V_th_index_numbers, .ref A_th_index_codes, V_th_index_fits, .int th_index_known, V_th_index_starts, V_th_index_signs, V_th_index_size]), (A_th_learning_levels, iA g 270 th_learning_levels), (A_th_index_codes, iA g 270 th_index_codes)] (some (.int u.1)) [(A_th, oO 9 [V_th_text, V_th_stock, V_th_index, .ref A_th_learning, V_th_doings, .ref A_th_tree, V_th_seen, V_th_judging, V_th_chances, V_th_shelves, V_th_onShelf, V_th_theSeed]), (A_th_tree, oO 8 [.ref A_th_tree_isNode, .ref A_th_tree_bases, .ref A_th_tree_slots, .int u.2.1, .int u.2.2.1, .int u.2.2.2.1]), (A_th_learning, oO 4 [.ref A_th_index, .ref A_th_learning_levels, V_th_learning_good, V_th_learning_bad, V_th_learning_digits]), (A_th_tree_isNode, zA g 343 u.2.2.2.2.1), (A_th_tree_slots, iA g 301 u.2.2.2.2.2.1), (A_th_tree_bases, iA g 49 u.2.2.2.2.2.2), (A_th_index, oO 2 [V_th_index_numbers, .ref A_th_index_codes, V_th_index_fits, .int th_index_known, V_th_index_starts, V_th_index_signs, V_th_index_size]), (A_th_learning_levels, iA g 270 th_learning_levels), (A_th_index_codes, iA g 270 th_index_codes)] := by
  refine ent (own := RX10) (lv := [(0, .ref A_th), (1, .int n1)]) (by decide) rfl (Nat.le_of_ble_eq_true rfl) rfl rfl ?_
  intro x C
  unfold m_X10_slot at hm
  refine b_iload_n C dX10_slot_0 rfl 1 rfl ?_
  refine b_if_ge (tgt := 7) C dX10_slot_1 (by decide) hm (fun hm => ?_) (fun hm => ?_)
  · refine b_aload_n C dX10_slot_7 rfl 0 rfl ?_
    obtain ⟨z1, z2, z3, f4, f5, f6, hM, hm⟩ := bK6_some hm
    refine b_kV (w' := [(A_th, oO 9 [V_th_text, V_th_stock, V_th_index, .ref A_th_learning, V_th_doings, .ref A_th_tree, V_th_seen, V_th_judging, V_th_chances, V_th_shelves, V_th_onShelf, V_th_theSeed]), (A_th_tree, oO 8 [.ref A_th_tree_isNode, .ref A_th_tree_bases, .ref A_th_tree_slots, .int z1, .int z2, .int z3]), (A_th_learning, oO 4 [.ref A_th_index, .ref A_th_learning_levels, V_th_learning_good, V_th_learning_bad, V_th_learning_digits]), (A_th_tree_isNode, zA g 343 f4), (A_th_tree_slots, iA g 301 f5), (A_th_tree_bases, iA g 49 f6), (A_th_index, oO 2 [V_th_index_numbers, .ref A_th_index_codes, V_th_index_fits, .int th_index_known, V_th_index_starts, V_th_index_signs, V_th_index_size]), (A_th_learning_levels, iA g 270 th_learning_levels), (A_th_index_codes, iA g 270 th_index_codes)]) (st := []) (st2 := [.ref A_th_tree]) C cv_X10_packedTree tb508 (c_X10_packedTree l g A_th A_th_tree A_th_learning A_th_tree_isNode A_th_tree_slots A_th_tree_bases A_th_index A_th_learning_levels A_th_index_codes V_th_text V_th_stock V_th_index V_th_doings V_th_seen V_th_judging V_th_chances V_th_shelves V_th_onShelf V_th_theSeed V_th_learning_good V_th_learning_bad V_th_learning_digits V_th_index_numbers V_th_index_fits V_th_index_starts V_th_index_signs V_th_index_size th_tree_count th_tree_end th_tree_packed th_tree_isNode th_tree_slots th_tree_bases th_index_known th_learning_levels th_index_codes F (z1, z2, z3, f4, f5, f6) hM) rfl 0 rfl rfl ⟨rfl, rfl, by decide, by decide⟩ (Nat.le_of_ble_eq_true rfl) [0, 1, 2, 3, 4, 5, 6, 7, 8] rfl (by decide) rfl rfl dX10_slot_8 [some 0, some 1, some 2, some 3, some 4, some 5, some 6, some 7, some 8] (by decide) ⟨⟨rfl, rfl⟩, ⟨⟨rfl, rfl⟩, ⟨⟨rfl, rfl⟩, ⟨⟨rfl, rfl⟩, ⟨⟨rfl, rfl⟩, ⟨⟨rfl, rfl⟩, ⟨⟨rfl, rfl⟩, ⟨⟨rfl, rfl⟩, ⟨⟨rfl, rfl⟩, trivial⟩⟩⟩⟩⟩⟩⟩⟩⟩ rfl ?_
    refine b_iload_n C dX10_slot_11 rfl 1 rfl ?_
    obtain ⟨r7, hM, hm⟩ := bK1_some hm
    refine b_kV (w' := [(A_th, oO 9 [V_th_text, V_th_stock, V_th_index, .ref A_th_learning, V_th_doings, .ref A_th_tree, V_th_seen, V_th_judging, V_th_chances, V_th_shelves, V_th_onShelf, V_th_theSeed]), (A_th_tree, oO 8 [.ref A_th_tree_isNode, .ref A_th_tree_bases, .ref A_th_tree_slots, .int z1, .int z2, .int z3]), (A_th_learning, oO 4 [.ref A_th_index, .ref A_th_learning_levels, V_th_learning_good, V_th_learning_bad, V_th_learning_digits]), (A_th_tree_isNode, zA g 343 f4), (A_th_tree_slots, iA g 301 f5), (A_th_tree_bases, iA g 49 f6), (A_th_index, oO 2 [V_th_index_numbers, .ref A_th_index_codes, V_th_index_fits, .int th_index_known, V_th_index_starts, V_th_index_signs, V_th_index_size]), (A_th_learning_levels, iA g 270 th_learning_levels), (A_th_index_codes, iA g 270 th_index_codes)]) (st := []) (st2 := [.int r7]) C cv_X9_nodeIn tb665 (c_X9_nodeIn l g A_th_tree A_th_tree_slots (.ref A_th_tree_isNode) (.ref A_th_tree_bases) (.int z1) (.int z2) (.int z3) n1 f5 F r7 hM) rfl 1 rfl rfl ⟨rfl, rfl, by decide, by decide⟩ (Nat.le_of_ble_eq_true rfl) [1, 4] rfl (by decide) rfl rfl dX10_slot_12 [none, some 0, none, none, some 1, none, none, none, none] (by decide) ⟨rfl, ⟨⟨rfl, rfl⟩, ⟨rfl, ⟨rfl, ⟨⟨rfl, rfl⟩, ⟨rfl, ⟨rfl, ⟨rfl, ⟨rfl, trivial⟩⟩⟩⟩⟩⟩⟩⟩⟩ rfl ?_
    cases hm
    exact b_iret C dX10_slot_15
  · refine b_bipush (v := (-2)) C dX10_slot_4 (by decide) ?_
    cases hm
    exact b_iret C dX10_slot_6
/-- BreakLearner$Learning.digitOfSpelt(I)I -/
def m_X5_digitOfSpelt (F : Nat)  (n1 : Int32) (th_index_size : Int32) (th_index_signs : (Nat → Int32)) (th_levels : (Nat → Int32)) (th_index_numbers : (Nat → Int32)) : Option (Int32) :=
  wl2 (fun (x2 : Int32) (x3 : Int32) c1 =>
    if 9 ≤ x3 then
      some x2
    else
      bK1 (m_X3_codeAt F n1 x3 th_index_size th_index_signs) (fun r4 =>
      if r4 < 0 then
        c1 x2 (x3 + 1)
      else
        bK1 (m_X5_levelByCode F r4 th_index_numbers th_levels) (fun r5 =>
        letK (imax x2 r5) (fun x6 =>
        c1 x6 (x3 + 1)
        )
        )
      )
    ) F 0 0
abbrev rmX5_digitOfSpelt : Room := { frames := 1, cells := 0, slots := 0, locals := 27 }
set_option maxHeartbeats 4000000 in
set_option maxRecDepth 100000 in
theorem c_X5_digitOfSpelt (l : Launch) (g : Gl) (A_th A_th_index A_th_index_signs A_th_levels A_th_index_numbers : Nat) (V_th_good V_th_bad V_th_digits V_th_index_codes V_th_index_fits V_th_index_known V_th_index_starts : Value)  (n1 : Int32) (th_index_size : Int32) (th_index_signs : (Nat → Int32)) (th_levels : (Nat → Int32)) (th_index_numbers : (Nat → Int32)) (F : Nat) (u : Int32) (hm : m_X5_digitOfSpelt F n1 th_index_size th_index_signs th_levels th_index_numbers = some u) : Ct l g yX5_digitOfSpelt cX5_digitOfSpelt 5 (some .int) rmX5_digitOfSpelt [.ref A_th, .int n1] [(A_th, oO 4 [.ref A_th_index, .ref A_th_levels, V_th_good, V_th_bad, V_th_digits]), (A_th_index, oO 2 [.ref A_th_index_numbers, V_th_index_codes, V_th_index_fits, V_th_index_known, V_th_index_starts, .ref A_th_index_signs, .int th_index_size]), (A_th_index_signs, iA g 8 th_index_signs), (A_th_levels, iA g 270 th_levels), (A_th_index_numbers, iA g 1372 th_index_numbers)] (some (.int u)) [(A_th, oO 4 [.ref A_th_index, .ref A_th_levels, V_th_good, V_th_bad, V_th_digits]), (A_th_index, oO 2 [.ref A_th_index_numbers, V_th_index_codes, V_th_index_fits, V_th_index_known, V_th_index_starts, .ref A_th_index_signs, .int th_index_size]), (A_th_index_signs, iA g 8 th_index_signs), (A_th_levels, iA g 270 th_levels), (A_th_index_numbers, iA g 1372 th_index_numbers)] := by
  refine ent (own := RX5) (lv := [(0, .ref A_th), (1, .int n1)]) (by decide) rfl (Nat.le_of_ble_eq_true rfl) rfl rfl ?_
  intro x C
  unfold m_X5_digitOfSpelt at hm
  refine b_iconst (v := 0) C dX5_digitOfSpelt_0 (by decide) ?_
  refine b_istore_n (lv' := [(2, .int 0), (0, .ref A_th), (1, .int n1)]) C dX5_digitOfSpelt_1 rfl (by decide) rfl ?_
  refine b_iconst (v := 0) C dX5_digitOfSpelt_2 (by decide) ?_
  refine b_istore_n (lv' := [(3, .int 0), (2, .int 0), (0, .ref A_th), (1, .int n1)]) C dX5_digitOfSpelt_3 rfl (by decide) rfl ?_
  refine Wb.lv (lv' := [(0, .ref A_th), (1, .int n1), (2, .int 0), (3, .int 0)]) ?_ [2, 3, 1, 0] rfl
  refine wl2_W (Wg := fun (x2 : Int32) (x3 : Int32) => Wb x [(A_th, oO 4 [.ref A_th_index, .ref A_th_levels, V_th_good, V_th_bad, V_th_digits]), (A_th_index, oO 2 [.ref A_th_index_numbers, V_th_index_codes, V_th_index_fits, V_th_index_known, V_th_index_starts, .ref A_th_index_signs, .int th_index_size]), (A_th_index_signs, iA g 8 th_index_signs), (A_th_levels, iA g 270 th_levels), (A_th_index_numbers, iA g 1372 th_index_numbers)] [(0, .ref A_th), (1, .int n1), (2, .int x2), (3, .int x3)] 4 []) ?_ F 0 0 hm
  intro x2 x3 c1 hc1 hm
  refine b_iload_n C dX5_digitOfSpelt_4 rfl 3 rfl ?_
  refine b_bipush (v := 9) C dX5_digitOfSpelt_5 (by decide) ?_
  refine b_icmp_ge (tgt := 43) C dX5_digitOfSpelt_7 (by decide) hm (fun hm => ?_) (fun hm => ?_)
  · refine b_iload_n C dX5_digitOfSpelt_43 rfl 2 rfl ?_
    cases hm
    exact b_iret C dX5_digitOfSpelt_44
  · refine b_aload_n C dX5_digitOfSpelt_10 rfl 0 rfl ?_
    refine gfX5_24 C 0 rfl rfl dX5_digitOfSpelt_11 ?_
    refine b_iload_n C dX5_digitOfSpelt_14 rfl 1 rfl ?_
    refine b_iload_n C dX5_digitOfSpelt_15 rfl 3 rfl ?_
    obtain ⟨r4, hM, hm⟩ := bK1_some hm
    refine b_kV (w' := [(A_th, oO 4 [.ref A_th_index, .ref A_th_levels, V_th_good, V_th_bad, V_th_digits]), (A_th_index, oO 2 [.ref A_th_index_numbers, V_th_index_codes, V_th_index_fits, V_th_index_known, V_th_index_starts, .ref A_th_index_signs, .int th_index_size]), (A_th_index_signs, iA g 8 th_index_signs), (A_th_levels, iA g 270 th_levels), (A_th_index_numbers, iA g 1372 th_index_numbers)]) (st := []) (st2 := [.int r4]) C cv_X3_codeAt tb681 (c_X3_codeAt l g A_th_index A_th_index_signs (.ref A_th_index_numbers) V_th_index_codes V_th_index_fits V_th_index_known V_th_index_starts n1 x3 th_index_size th_index_signs F r4 hM) rfl 1 rfl rfl ⟨rfl, rfl, by decide, by decide⟩ (Nat.le_of_ble_eq_true rfl) [1, 2] rfl (by decide) rfl rfl dX5_digitOfSpelt_16 [none, some 0, some 1, none, none] (by decide) ⟨rfl, ⟨⟨rfl, rfl⟩, ⟨⟨rfl, rfl⟩, ⟨rfl, ⟨rfl, trivial⟩⟩⟩⟩⟩ rfl ?_
    refine b_istore (lv' := [(4, .int r4), (0, .ref A_th), (1, .int n1), (2, .int x2), (3, .int x3)]) C dX5_digitOfSpelt_19 (by decide) rfl ?_
    refine b_iload C dX5_digitOfSpelt_21 0 rfl ?_
    refine b_if_lt (tgt := 37) C dX5_digitOfSpelt_23 (by decide) hm (fun hm => ?_) (fun hm => ?_)
    · refine b_iinc (v2 := x3 + 1) (lv' := [(3, .int (x3 + 1)), (4, .int r4), (0, .ref A_th), (1, .int n1), (2, .int x2)]) C dX5_digitOfSpelt_37 4 rfl rfl (by decide) rfl ?_
      refine b_goto (tgt := 4) C dX5_digitOfSpelt_40 (by decide) ?_
      exact Wb.lv (hc1 x2 (x3 + 1) hm) [2, 3, 4, 0] rfl
    · refine b_iload_n C dX5_digitOfSpelt_26 rfl 3 rfl ?_
      refine b_aload_n C dX5_digitOfSpelt_27 rfl 1 rfl ?_
      refine b_iload C dX5_digitOfSpelt_28 0 rfl ?_
      obtain ⟨r5, hM, hm⟩ := bK1_some hm
      refine b_kV (w' := [(A_th, oO 4 [.ref A_th_index, .ref A_th_levels, V_th_good, V_th_bad, V_th_digits]), (A_th_index, oO 2 [.ref A_th_index_numbers, V_th_index_codes, V_th_index_fits, V_th_index_known, V_th_index_starts, .ref A_th_index_signs, .int th_index_size]), (A_th_index_signs, iA g 8 th_index_signs), (A_th_levels, iA g 270 th_levels), (A_th_index_numbers, iA g 1372 th_index_numbers)]) (st := [.int x2]) (st2 := [.int r5, .int x2]) C cv_X5_levelByCode tb589 (c_X5_levelByCode l g A_th A_th_index A_th_index_numbers A_th_levels V_th_good V_th_bad V_th_digits V_th_index_codes V_th_index_fits V_th_index_known V_th_index_starts (.ref A_th_index_signs) (.int th_index_size) r4 th_index_numbers th_levels F r5 hM) rfl 0 rfl rfl ⟨rfl, rfl, by decide, by decide⟩ (Nat.le_of_ble_eq_true rfl) [0, 1, 4, 3] rfl (by decide) rfl rfl dX5_digitOfSpelt_30 [some 0, some 1, none, some 3, some 2] (by decide) ⟨⟨rfl, rfl⟩, ⟨⟨rfl, rfl⟩, ⟨rfl, ⟨⟨rfl, rfl⟩, ⟨⟨rfl, rfl⟩, trivial⟩⟩⟩⟩⟩ rfl ?_
      refine b_mmax C tb682 tb415 tb73 tb416 (by decide) (Nat.le_of_ble_eq_true rfl) dX5_digitOfSpelt_33 ?_
      refine b_topi hm (fun x6 hm => ?_)
      refine b_istore_n (lv' := [(2, .int x6), (4, .int r4), (0, .ref A_th), (1, .int n1), (3, .int x3)]) C dX5_digitOfSpelt_36 rfl (by decide) rfl ?_
      refine b_iinc (v2 := x3 + 1) (lv' := [(3, .int (x3 + 1)), (2, .int x6), (4, .int r4), (0, .ref A_th), (1, .int n1)]) C dX5_digitOfSpelt_37 4 rfl rfl (by decide) rfl ?_
      refine b_goto (tgt := 4) C dX5_digitOfSpelt_40 (by decide) ?_
      exact Wb.lv (hc1 x6 (x3 + 1) hm) [3, 4, 1, 0] rfl
/-- BreakLearner.ask(II)I -/
def m_X10_ask (F : Nat)  (n1 : Int32) (n2 : Int32) (th_index_size : Int32) (th_index_signs : (Nat → Int32)) (th_learning_levels : (Nat → Int32)) (th_index_numbers : (Nat → Int32)) : Option (Int32 × Int32 × (Nat → Int32)) :=
  bK1 (m_X2_wordSize F n1) (fun r1 =>
  if r1 = 0 then
    some ((-2), th_index_size, th_index_signs)
  else
    if n2 < 0 then
      some ((-1), th_index_size, th_index_signs)
    else
      if n2 < (r1 - 1) then
        bK2 (m_X3_spell F n1 r1 th_index_size th_index_signs) (fun z2 f3 =>
        bK1 (m_X5_digitOfSpelt F n2 z2 f3 th_learning_levels th_index_numbers) (fun r4 =>
        some (r4, z2, f3)
        )
        )
      else
        some ((-1), th_index_size, th_index_signs)
  )
abbrev rmX10_ask : Room := { frames := 2, cells := 0, slots := 0, locals := 51 }
set_option maxHeartbeats 4000000 in
set_option maxRecDepth 100000 in
theorem c_X10_ask (l : Launch) (g : Gl) (A_th A_th_index A_th_index_signs A_th_learning A_th_learning_levels A_th_index_numbers : Nat) (V_th_text V_th_stock V_th_doings V_th_tree V_th_seen V_th_judging V_th_chances V_th_shelves V_th_onShelf V_th_theSeed V_th_index_codes V_th_index_fits V_th_index_known V_th_index_starts V_th_learning_good V_th_learning_bad V_th_learning_digits : Value)  (n1 : Int32) (n2 : Int32) (th_index_size : Int32) (th_index_signs : (Nat → Int32)) (th_learning_levels : (Nat → Int32)) (th_index_numbers : (Nat → Int32)) (F : Nat) (u : Int32 × Int32 × (Nat → Int32)) (hm : m_X10_ask F n1 n2 th_index_size th_index_signs th_learning_levels th_index_numbers = some u) : Ct l g yX10_ask cX10_ask 4 (some .int) rmX10_ask [.ref A_th, .int n1, .int n2] [(A_th, oO 9 [V_th_text, V_th_stock, .ref A_th_index, .ref A_th_learning, V_th_doings, V_th_tree, V_th_seen, V_th_judging, V_th_chances, V_th_shelves, V_th_onShelf, V_th_theSeed]), (A_th_index, oO 2 [.ref A_th_index_numbers, V_th_index_codes, V_th_index_fits, V_th_index_known, V_th_index_starts, .ref A_th_index_signs, .int th_index_size]), (A_th_index_signs, iA g 8 th_index_signs), (A_th_learning, oO 4 [.ref A_th_index, .ref A_th_learning_levels, V_th_learning_good, V_th_learning_bad, V_th_learning_digits]), (A_th_learning_levels, iA g 270 th_learning_levels), (A_th_index_numbers, iA g 1372 th_index_numbers)] (some (.int u.1)) [(A_th, oO 9 [V_th_text, V_th_stock, .ref A_th_index, .ref A_th_learning, V_th_doings, V_th_tree, V_th_seen, V_th_judging, V_th_chances, V_th_shelves, V_th_onShelf, V_th_theSeed]), (A_th_index, oO 2 [.ref A_th_index_numbers, V_th_index_codes, V_th_index_fits, V_th_index_known, V_th_index_starts, .ref A_th_index_signs, .int u.2.1]), (A_th_index_signs, iA g 8 u.2.2), (A_th_learning, oO 4 [.ref A_th_index, .ref A_th_learning_levels, V_th_learning_good, V_th_learning_bad, V_th_learning_digits]), (A_th_learning_levels, iA g 270 th_learning_levels), (A_th_index_numbers, iA g 1372 th_index_numbers)] := by
  refine ent (own := RX10) (lv := [(0, .ref A_th), (1, .int n1), (2, .int n2)]) (by decide) rfl (Nat.le_of_ble_eq_true rfl) rfl rfl ?_
  intro x C
  unfold m_X10_ask at hm
  refine b_iload_n C dX10_ask_0 rfl 1 rfl ?_
  obtain ⟨r1, hM, hm⟩ := bK1_some hm
  refine b_kS (w' := [(A_th, oO 9 [V_th_text, V_th_stock, .ref A_th_index, .ref A_th_learning, V_th_doings, V_th_tree, V_th_seen, V_th_judging, V_th_chances, V_th_shelves, V_th_onShelf, V_th_theSeed]), (A_th_index, oO 2 [.ref A_th_index_numbers, V_th_index_codes, V_th_index_fits, V_th_index_known, V_th_index_starts, .ref A_th_index_signs, .int th_index_size]), (A_th_index_signs, iA g 8 th_index_signs), (A_th_learning, oO 4 [.ref A_th_index, .ref A_th_learning_levels, V_th_learning_good, V_th_learning_bad, V_th_learning_digits]), (A_th_learning_levels, iA g 270 th_learning_levels), (A_th_index_numbers, iA g 1372 th_index_numbers)]) (st := []) (st2 := [.int r1]) C cs_X2_wordSize tb597 (c_X2_wordSize l g n1 F r1 hM) rfl ⟨rfl, rfl, by decide, by decide⟩ (Nat.le_of_ble_eq_true rfl) [] rfl (by decide) rfl rfl dX10_ask_1 [none, none, none, none, none, none] (by decide) ⟨rfl, ⟨rfl, ⟨rfl, ⟨rfl, ⟨rfl, ⟨rfl, trivial⟩⟩⟩⟩⟩⟩ rfl ?_
  refine b_istore_n (lv' := [(3, .int r1), (0, .ref A_th), (1, .int n1), (2, .int n2)]) C dX10_ask_4 rfl (by decide) rfl ?_
  refine b_iload_n C dX10_ask_5 rfl 0 rfl ?_
  refine b_if_ne (tgt := 12) C dX10_ask_6 (by decide) hm (fun hm => ?_) (fun hm => ?_)
  · refine b_iload_n C dX10_ask_12 rfl 3 rfl ?_
    refine b_if_lt (tgt := 23) C dX10_ask_13 (by decide) hm (fun hm => ?_) (fun hm => ?_)
    · refine b_iconst (v := (-1)) C dX10_ask_23 (by decide) ?_
      cases hm
      exact b_iret C dX10_ask_24
    · refine b_iload_n C dX10_ask_16 rfl 3 rfl ?_
      refine b_iload_n C dX10_ask_17 rfl 0 rfl ?_
      refine b_iconst (v := 1) C dX10_ask_18 (by decide) ?_
      refine b_isub C dX10_ask_19 ?_
      refine b_icmp_lt (tgt := 25) C dX10_ask_20 (by decide) hm (fun hm => ?_) (fun hm => ?_)
      · refine b_aload_n C dX10_ask_25 rfl 1 rfl ?_
        refine gfX10_26 C 0 rfl rfl dX10_ask_26 ?_
        refine b_iload_n C dX10_ask_29 rfl 2 rfl ?_
        refine b_iload_n C dX10_ask_30 rfl 0 rfl ?_
        obtain ⟨z2, f3, hM, hm⟩ := bK2_some hm
        refine b_kV (w' := [(A_th, oO 9 [V_th_text, V_th_stock, .ref A_th_index, .ref A_th_learning, V_th_doings, V_th_tree, V_th_seen, V_th_judging, V_th_chances, V_th_shelves, V_th_onShelf, V_th_theSeed]), (A_th_index, oO 2 [.ref A_th_index_numbers, V_th_index_codes, V_th_index_fits, V_th_index_known, V_th_index_starts, .ref A_th_index_signs, .int z2]), (A_th_index_signs, iA g 8 f3), (A_th_learning, oO 4 [.ref A_th_index, .ref A_th_learning_levels, V_th_learning_good, V_th_learning_bad, V_th_learning_digits]), (A_th_learning_levels, iA g 270 th_learning_levels), (A_th_index_numbers, iA g 1372 th_index_numbers)]) (st := []) (st2 := []) C cv_X3_spell tb676 (c_X3_spell l g A_th_index A_th_index_signs (.ref A_th_index_numbers) V_th_index_codes V_th_index_fits V_th_index_known V_th_index_starts n1 r1 th_index_size th_index_signs F (z2, f3) hM) rfl 1 rfl rfl ⟨rfl, rfl, by decide, by decide⟩ (Nat.le_of_ble_eq_true rfl) [1, 2] rfl (by decide) rfl rfl dX10_ask_31 [none, some 0, some 1, none, none, none] (by decide) ⟨rfl, ⟨⟨rfl, rfl⟩, ⟨⟨rfl, rfl⟩, ⟨rfl, ⟨rfl, ⟨rfl, trivial⟩⟩⟩⟩⟩⟩ rfl ?_
        refine b_aload_n C dX10_ask_34 rfl 1 rfl ?_
        refine gfX10_35 C 0 rfl rfl dX10_ask_35 ?_
        refine b_iload_n C dX10_ask_38 rfl 3 rfl ?_
        obtain ⟨r4, hM, hm⟩ := bK1_some hm
        refine b_kV (w' := [(A_th, oO 9 [V_th_text, V_th_stock, .ref A_th_index, .ref A_th_learning, V_th_doings, V_th_tree, V_th_seen, V_th_judging, V_th_chances, V_th_shelves, V_th_onShelf, V_th_theSeed]), (A_th_index, oO 2 [.ref A_th_index_numbers, V_th_index_codes, V_th_index_fits, V_th_index_known, V_th_index_starts, .ref A_th_index_signs, .int z2]), (A_th_index_signs, iA g 8 f3), (A_th_learning, oO 4 [.ref A_th_index, .ref A_th_learning_levels, V_th_learning_good, V_th_learning_bad, V_th_learning_digits]), (A_th_learning_levels, iA g 270 th_learning_levels), (A_th_index_numbers, iA g 1372 th_index_numbers)]) (st := []) (st2 := [.int r4]) C cv_X5_digitOfSpelt tb677 (c_X5_digitOfSpelt l g A_th_learning A_th_index A_th_index_signs A_th_learning_levels A_th_index_numbers V_th_learning_good V_th_learning_bad V_th_learning_digits V_th_index_codes V_th_index_fits V_th_index_known V_th_index_starts n2 z2 f3 th_learning_levels th_index_numbers F r4 hM) rfl 3 rfl rfl ⟨rfl, rfl, by decide, by decide⟩ (Nat.le_of_ble_eq_true rfl) [3, 1, 2, 4, 5] rfl (by decide) rfl rfl dX10_ask_39 [none, some 1, some 2, some 0, some 3, some 4] (by decide) ⟨rfl, ⟨⟨rfl, rfl⟩, ⟨⟨rfl, rfl⟩, ⟨⟨rfl, rfl⟩, ⟨⟨rfl, rfl⟩, ⟨⟨rfl, rfl⟩, trivial⟩⟩⟩⟩⟩⟩ rfl ?_
        cases hm
        exact b_iret C dX10_ask_42
      · refine b_iconst (v := (-1)) C dX10_ask_23 (by decide) ?_
        cases hm
        exact b_iret C dX10_ask_24
  · refine b_bipush (v := (-2)) C dX10_ask_9 (by decide) ?_
    cases hm
    exact b_iret C dX10_ask_11
/-- BreakLearner$Learning.digitWithout(II)I -/
def m_X5_digitWithout (F : Nat)  (n1 : Int32) (n2 : Int32) (th_index_fits : (Nat → Int32)) (th_index_codes : (Nat → Int32)) (th_levels : (Nat → Int32)) : Option (Int32) :=
  wl2 (fun (x2 : Int32) (x3 : Int32) c1 =>
    if 9 ≤ x3 then
      some x2
    else
      rdK 270 th_index_fits ((n1 * 9) + x3) (fun v4 =>
      if v4 < 0 then
        c1 x2 (x3 + 1)
      else
        rdK 270 th_index_codes v4 (fun v5 =>
        if (v5 / 4) = n2 then
          c1 x2 (x3 + 1)
        else
          rdK 270 th_levels v4 (fun v6 =>
          letK (imax x2 v6) (fun x7 =>
          c1 x7 (x3 + 1)
          )
          )
        )
      )
    ) F 0 0
abbrev rmX5_digitWithout : Room := { frames := 1, cells := 0, slots := 0, locals := 21 }
set_option maxHeartbeats 4000000 in
set_option maxRecDepth 100000 in
theorem c_X5_digitWithout (l : Launch) (g : Gl) (A_th A_th_index A_th_index_fits A_th_index_codes A_th_levels : Nat) (V_th_good V_th_bad V_th_digits V_th_index_numbers V_th_index_known V_th_index_starts V_th_index_signs V_th_index_size : Value)  (n1 : Int32) (n2 : Int32) (th_index_fits : (Nat → Int32)) (th_index_codes : (Nat → Int32)) (th_levels : (Nat → Int32)) (F : Nat) (u : Int32) (hm : m_X5_digitWithout F n1 n2 th_index_fits th_index_codes th_levels = some u) : Ct l g yX5_digitWithout cX5_digitWithout 6 (some .int) rmX5_digitWithout [.ref A_th, .int n1, .int n2] [(A_th, oO 4 [.ref A_th_index, .ref A_th_levels, V_th_good, V_th_bad, V_th_digits]), (A_th_index, oO 2 [V_th_index_numbers, .ref A_th_index_codes, .ref A_th_index_fits, V_th_index_known, V_th_index_starts, V_th_index_signs, V_th_index_size]), (A_th_index_fits, iA g 270 th_index_fits), (A_th_index_codes, iA g 270 th_index_codes), (A_th_levels, iA g 270 th_levels)] (some (.int u)) [(A_th, oO 4 [.ref A_th_index, .ref A_th_levels, V_th_good, V_th_bad, V_th_digits]), (A_th_index, oO 2 [V_th_index_numbers, .ref A_th_index_codes, .ref A_th_index_fits, V_th_index_known, V_th_index_starts, V_th_index_signs, V_th_index_size]), (A_th_index_fits, iA g 270 th_index_fits), (A_th_index_codes, iA g 270 th_index_codes), (A_th_levels, iA g 270 th_levels)] := by
  refine ent (own := RX5) (lv := [(0, .ref A_th), (1, .int n1), (2, .int n2)]) (by decide) rfl (Nat.le_of_ble_eq_true rfl) rfl rfl ?_
  intro x C
  unfold m_X5_digitWithout at hm
  refine b_iconst (v := 0) C dX5_digitWithout_0 (by decide) ?_
  refine b_istore_n (lv' := [(3, .int 0), (0, .ref A_th), (1, .int n1), (2, .int n2)]) C dX5_digitWithout_1 rfl (by decide) rfl ?_
  refine b_iconst (v := 0) C dX5_digitWithout_2 (by decide) ?_
  refine b_istore (lv' := [(4, .int 0), (3, .int 0), (0, .ref A_th), (1, .int n1), (2, .int n2)]) C dX5_digitWithout_3 (by decide) rfl ?_
  refine Wb.lv (lv' := [(0, .ref A_th), (1, .int n1), (2, .int n2), (3, .int 0), (4, .int 0)]) ?_ [2, 3, 4, 1, 0] rfl
  refine wl2_W (Wg := fun (x2 : Int32) (x3 : Int32) => Wb x [(A_th, oO 4 [.ref A_th_index, .ref A_th_levels, V_th_good, V_th_bad, V_th_digits]), (A_th_index, oO 2 [V_th_index_numbers, .ref A_th_index_codes, .ref A_th_index_fits, V_th_index_known, V_th_index_starts, V_th_index_signs, V_th_index_size]), (A_th_index_fits, iA g 270 th_index_fits), (A_th_index_codes, iA g 270 th_index_codes), (A_th_levels, iA g 270 th_levels)] [(0, .ref A_th), (1, .int n1), (2, .int n2), (3, .int x2), (4, .int x3)] 5 []) ?_ F 0 0 hm
  intro x2 x3 c1 hc1 hm
  refine b_iload C dX5_digitWithout_5 4 rfl ?_
  refine b_bipush (v := 9) C dX5_digitWithout_7 (by decide) ?_
  refine b_icmp_ge (tgt := 68) C dX5_digitWithout_9 (by decide) hm (fun hm => ?_) (fun hm => ?_)
  · refine b_iload_n C dX5_digitWithout_68 rfl 3 rfl ?_
    cases hm
    exact b_iret C dX5_digitWithout_69
  · refine b_aload_n C dX5_digitWithout_12 rfl 0 rfl ?_
    refine gfX5_24 C 0 rfl rfl dX5_digitWithout_13 ?_
    refine gfX5_79 C 1 rfl rfl dX5_digitWithout_16 ?_
    refine b_iload_n C dX5_digitWithout_19 rfl 1 rfl ?_
    refine b_bipush (v := 9) C dX5_digitWithout_20 (by decide) ?_
    refine b_imul C dX5_digitWithout_22 ?_
    refine b_iload C dX5_digitWithout_23 4 rfl ?_
    refine b_iadd C dX5_digitWithout_25 ?_
    refine b_iald C 2 rfl dX5_digitWithout_26 hm (fun v4 hm => ?_)
    refine b_istore (lv' := [(5, .int v4), (0, .ref A_th), (1, .int n1), (2, .int n2), (3, .int x2), (4, .int x3)]) C dX5_digitWithout_27 (by decide) rfl ?_
    refine b_iload C dX5_digitWithout_29 0 rfl ?_
    refine b_if_lt (tgt := 62) C dX5_digitWithout_31 (by decide) hm (fun hm => ?_) (fun hm => ?_)
    · refine b_iinc (v2 := x3 + 1) (lv' := [(4, .int (x3 + 1)), (5, .int v4), (0, .ref A_th), (1, .int n1), (2, .int n2), (3, .int x2)]) C dX5_digitWithout_62 5 rfl rfl (by decide) rfl ?_
      refine b_goto (tgt := 5) C dX5_digitWithout_65 (by decide) ?_
      exact Wb.lv (hc1 x2 (x3 + 1) hm) [2, 3, 4, 5, 0] rfl
    · refine b_aload_n C dX5_digitWithout_34 rfl 1 rfl ?_
      refine gfX5_24 C 0 rfl rfl dX5_digitWithout_35 ?_
      refine gfX5_111 C 1 rfl rfl dX5_digitWithout_38 ?_
      refine b_iload C dX5_digitWithout_41 0 rfl ?_
      refine b_iald C 3 rfl dX5_digitWithout_43 hm (fun v5 hm => ?_)
      refine b_iconst (v := 4) C dX5_digitWithout_44 (by decide) ?_
      refine b_idiv C dX5_digitWithout_45 (by decide) ?_
      refine b_iload_n C dX5_digitWithout_46 rfl 3 rfl ?_
      refine b_icmp_eq (tgt := 62) C dX5_digitWithout_47 (by decide) hm (fun hm => ?_) (fun hm => ?_)
      · refine b_iinc (v2 := x3 + 1) (lv' := [(4, .int (x3 + 1)), (5, .int v4), (0, .ref A_th), (1, .int n1), (2, .int n2), (3, .int x2)]) C dX5_digitWithout_62 5 rfl rfl (by decide) rfl ?_
        refine b_goto (tgt := 5) C dX5_digitWithout_65 (by decide) ?_
        exact Wb.lv (hc1 x2 (x3 + 1) hm) [2, 3, 4, 5, 0] rfl
      · refine b_iload_n C dX5_digitWithout_50 rfl 4 rfl ?_
        refine b_aload_n C dX5_digitWithout_51 rfl 1 rfl ?_
        refine gfX5_9 C 0 rfl rfl dX5_digitWithout_52 ?_
        refine b_iload C dX5_digitWithout_55 0 rfl ?_
        refine b_iald C 4 rfl dX5_digitWithout_57 hm (fun v6 hm => ?_)
        refine b_mmax C tb682 tb415 tb73 tb416 (by decide) (Nat.le_of_ble_eq_true rfl) dX5_digitWithout_58 ?_
        refine b_topi hm (fun x7 hm => ?_)
        refine b_istore_n (lv' := [(3, .int x7), (5, .int v4), (0, .ref A_th), (1, .int n1), (2, .int n2), (4, .int x3)]) C dX5_digitWithout_61 rfl (by decide) rfl ?_
        refine b_iinc (v2 := x3 + 1) (lv' := [(4, .int (x3 + 1)), (3, .int x7), (5, .int v4), (0, .ref A_th), (1, .int n1), (2, .int n2)]) C dX5_digitWithout_62 5 rfl rfl (by decide) rfl ?_
        refine b_goto (tgt := 5) C dX5_digitWithout_65 (by decide) ?_
        exact Wb.lv (hc1 x7 (x3 + 1) hm) [3, 4, 5, 1, 0] rfl
/-- BreakLearner$Learning.rightWithout(LBreakLearner$Stock;I)I -/
def m_X5_rightWithout (F : Nat)  (n2 : Int32) (p1_words : Int32) (p1_sizes : (Nat → Int32)) (th_levels : (Nat → Int32)) (th_index_fits : (Nat → Int32)) (th_index_codes : (Nat → Int32)) (p1_breaks : (Nat → Int32)) : Option (Int32) :=
  wl2 (fun (x2 : Int32) (x3 : Int32) c1 =>
    if p1_words ≤ x3 then
      some x2
    else
      wl2 (fun (x5 : Int32) (x6 : Int32) c4 =>
        rdK 6 p1_sizes x3 (fun v7 =>
        if (v7 - 1) ≤ x6 then
          c1 x5 (x3 + 1)
        else
          bK1 (m_X5_digitWithout F ((x3 * 5) + x6) n2 th_index_fits th_index_codes th_levels) (fun r8 =>
          letK (r8 &&& 1) (fun x9 =>
          rdK 6 p1_breaks x3 (fun v10 =>
          if x9 = ((v10 >>> (x6 &&& 31)) &&& 1) then
            c4 (x5 + 1) (x6 + 1)
          else
            c4 x5 (x6 + 1)
          )
          )
          )
        )
        ) F x2 0
    ) F 0 0
abbrev rmX5_rightWithout : Room := { frames := 2, cells := 0, slots := 0, locals := 46 }
set_option maxHeartbeats 4000000 in
set_option maxRecDepth 100000 in
theorem c_X5_rightWithout (l : Launch) (g : Gl) (A_th A_p1 A_p1_sizes A_th_index A_th_levels A_th_index_fits A_th_index_codes A_p1_breaks : Nat) (V_th_good V_th_bad V_th_digits V_p1_letters V_p1_rules V_p1_hs V_p1_learnt V_th_index_numbers V_th_index_known V_th_index_starts V_th_index_signs V_th_index_size : Value)  (n2 : Int32) (p1_words : Int32) (p1_sizes : (Nat → Int32)) (th_levels : (Nat → Int32)) (th_index_fits : (Nat → Int32)) (th_index_codes : (Nat → Int32)) (p1_breaks : (Nat → Int32)) (F : Nat) (u : Int32) (hm : m_X5_rightWithout F n2 p1_words p1_sizes th_levels th_index_fits th_index_codes p1_breaks = some u) : Ct l g yX5_rightWithout cX5_rightWithout 7 (some .int) rmX5_rightWithout [.ref A_th, .ref A_p1, .int n2] [(A_th, oO 4 [.ref A_th_index, .ref A_th_levels, V_th_good, V_th_bad, V_th_digits]), (A_p1, oO 6 [V_p1_letters, .ref A_p1_breaks, .ref A_p1_sizes, V_p1_rules, V_p1_hs, .int p1_words, V_p1_learnt]), (A_p1_sizes, iA g 6 p1_sizes), (A_th_index, oO 2 [V_th_index_numbers, .ref A_th_index_codes, .ref A_th_index_fits, V_th_index_known, V_th_index_starts, V_th_index_signs, V_th_index_size]), (A_th_levels, iA g 270 th_levels), (A_th_index_fits, iA g 270 th_index_fits), (A_th_index_codes, iA g 270 th_index_codes), (A_p1_breaks, iA g 6 p1_breaks)] (some (.int u)) [(A_th, oO 4 [.ref A_th_index, .ref A_th_levels, V_th_good, V_th_bad, V_th_digits]), (A_p1, oO 6 [V_p1_letters, .ref A_p1_breaks, .ref A_p1_sizes, V_p1_rules, V_p1_hs, .int p1_words, V_p1_learnt]), (A_p1_sizes, iA g 6 p1_sizes), (A_th_index, oO 2 [V_th_index_numbers, .ref A_th_index_codes, .ref A_th_index_fits, V_th_index_known, V_th_index_starts, V_th_index_signs, V_th_index_size]), (A_th_levels, iA g 270 th_levels), (A_th_index_fits, iA g 270 th_index_fits), (A_th_index_codes, iA g 270 th_index_codes), (A_p1_breaks, iA g 6 p1_breaks)] := by
  refine ent (own := RX5) (lv := [(0, .ref A_th), (1, .ref A_p1), (2, .int n2)]) (by decide) rfl (Nat.le_of_ble_eq_true rfl) rfl rfl ?_
  intro x C
  unfold m_X5_rightWithout at hm
  refine b_iconst (v := 0) C dX5_rightWithout_0 (by decide) ?_
  refine b_istore_n (lv' := [(3, .int 0), (0, .ref A_th), (1, .ref A_p1), (2, .int n2)]) C dX5_rightWithout_1 rfl (by decide) rfl ?_
  refine b_iconst (v := 0) C dX5_rightWithout_2 (by decide) ?_
  refine b_istore (lv' := [(4, .int 0), (3, .int 0), (0, .ref A_th), (1, .ref A_p1), (2, .int n2)]) C dX5_rightWithout_3 (by decide) rfl ?_
  refine Wb.lv (lv' := [(0, .ref A_th), (1, .ref A_p1), (2, .int n2), (3, .int 0), (4, .int 0)]) ?_ [2, 3, 4, 1, 0] rfl
  refine wl2_W (Wg := fun (x2 : Int32) (x3 : Int32) => Wb x [(A_th, oO 4 [.ref A_th_index, .ref A_th_levels, V_th_good, V_th_bad, V_th_digits]), (A_p1, oO 6 [V_p1_letters, .ref A_p1_breaks, .ref A_p1_sizes, V_p1_rules, V_p1_hs, .int p1_words, V_p1_learnt]), (A_p1_sizes, iA g 6 p1_sizes), (A_th_index, oO 2 [V_th_index_numbers, .ref A_th_index_codes, .ref A_th_index_fits, V_th_index_known, V_th_index_starts, V_th_index_signs, V_th_index_size]), (A_th_levels, iA g 270 th_levels), (A_th_index_fits, iA g 270 th_index_fits), (A_th_index_codes, iA g 270 th_index_codes), (A_p1_breaks, iA g 6 p1_breaks)] [(0, .ref A_th), (1, .ref A_p1), (2, .int n2), (3, .int x2), (4, .int x3)] 5 []) ?_ F 0 0 hm
  intro x2 x3 c1 hc1 hm
  refine b_iload C dX5_rightWithout_5 4 rfl ?_
  refine b_aload_n C dX5_rightWithout_7 rfl 1 rfl ?_
  refine gfX5_59 C 1 rfl rfl dX5_rightWithout_8 ?_
  refine b_icmp_ge (tgt := 79) C dX5_rightWithout_11 (by decide) hm (fun hm => ?_) (fun hm => ?_)
  · refine b_iload_n C dX5_rightWithout_79 rfl 3 rfl ?_
    cases hm
    exact b_iret C dX5_rightWithout_80
  · refine b_iconst (v := 0) C dX5_rightWithout_14 (by decide) ?_
    refine b_istore (lv' := [(5, .int 0), (0, .ref A_th), (1, .ref A_p1), (2, .int n2), (3, .int x2), (4, .int x3)]) C dX5_rightWithout_15 (by decide) rfl ?_
    refine Wb.lv (lv' := [(0, .ref A_th), (1, .ref A_p1), (2, .int n2), (3, .int x2), (4, .int x3), (5, .int 0)]) ?_ [1, 2, 3, 4, 5, 0] rfl
    refine wl2_W (Wg := fun (x5 : Int32) (x6 : Int32) => Wb x [(A_th, oO 4 [.ref A_th_index, .ref A_th_levels, V_th_good, V_th_bad, V_th_digits]), (A_p1, oO 6 [V_p1_letters, .ref A_p1_breaks, .ref A_p1_sizes, V_p1_rules, V_p1_hs, .int p1_words, V_p1_learnt]), (A_p1_sizes, iA g 6 p1_sizes), (A_th_index, oO 2 [V_th_index_numbers, .ref A_th_index_codes, .ref A_th_index_fits, V_th_index_known, V_th_index_starts, V_th_index_signs, V_th_index_size]), (A_th_levels, iA g 270 th_levels), (A_th_index_fits, iA g 270 th_index_fits), (A_th_index_codes, iA g 270 th_index_codes), (A_p1_breaks, iA g 6 p1_breaks)] [(0, .ref A_th), (1, .ref A_p1), (2, .int n2), (3, .int x5), (4, .int x3), (5, .int x6)] 17 []) ?_ F x2 0 hm
    intro x5 x6 c4 hc4 hm
    refine b_iload C dX5_rightWithout_17 5 rfl ?_
    refine b_aload_n C dX5_rightWithout_19 rfl 1 rfl ?_
    refine gfX5_62 C 1 rfl rfl dX5_rightWithout_20 ?_
    refine b_iload C dX5_rightWithout_23 4 rfl ?_
    refine b_iald C 2 rfl dX5_rightWithout_25 hm (fun v7 hm => ?_)
    refine b_iconst (v := 1) C dX5_rightWithout_26 (by decide) ?_
    refine b_isub C dX5_rightWithout_27 ?_
    refine b_icmp_ge (tgt := 73) C dX5_rightWithout_28 (by decide) hm (fun hm => ?_) (fun hm => ?_)
    · refine b_iinc (v2 := x3 + 1) (lv' := [(4, .int (x3 + 1)), (0, .ref A_th), (1, .ref A_p1), (2, .int n2), (3, .int x5), (5, .int x6)]) C dX5_rightWithout_73 4 rfl rfl (by decide) rfl ?_
      refine b_goto (tgt := 5) C dX5_rightWithout_76 (by decide) ?_
      exact Wb.lv (hc1 x5 (x3 + 1) hm) [1, 2, 3, 4, 0] rfl
    · refine b_aload_n C dX5_rightWithout_31 rfl 0 rfl ?_
      refine b_iload C dX5_rightWithout_32 4 rfl ?_
      refine b_iconst (v := 5) C dX5_rightWithout_34 (by decide) ?_
      refine b_imul C dX5_rightWithout_35 ?_
      refine b_iload C dX5_rightWithout_36 5 rfl ?_
      refine b_iadd C dX5_rightWithout_38 ?_
      refine b_iload_n C dX5_rightWithout_39 rfl 2 rfl ?_
      obtain ⟨r8, hM, hm⟩ := bK1_some hm
      refine b_kV (w' := [(A_th, oO 4 [.ref A_th_index, .ref A_th_levels, V_th_good, V_th_bad, V_th_digits]), (A_p1, oO 6 [V_p1_letters, .ref A_p1_breaks, .ref A_p1_sizes, V_p1_rules, V_p1_hs, .int p1_words, V_p1_learnt]), (A_p1_sizes, iA g 6 p1_sizes), (A_th_index, oO 2 [V_th_index_numbers, .ref A_th_index_codes, .ref A_th_index_fits, V_th_index_known, V_th_index_starts, V_th_index_signs, V_th_index_size]), (A_th_levels, iA g 270 th_levels), (A_th_index_fits, iA g 270 th_index_fits), (A_th_index_codes, iA g 270 th_index_codes), (A_p1_breaks, iA g 6 p1_breaks)]) (st := []) (st2 := [.int r8]) C cv_X5_digitWithout tb692 (c_X5_digitWithout l g A_th A_th_index A_th_index_fits A_th_index_codes A_th_levels V_th_good V_th_bad V_th_digits V_th_index_numbers V_th_index_known V_th_index_starts V_th_index_signs V_th_index_size ((x3 * 5) + x6) n2 th_index_fits th_index_codes th_levels F r8 hM) rfl 0 rfl rfl ⟨rfl, rfl, by decide, by decide⟩ (Nat.le_of_ble_eq_true rfl) [0, 3, 5, 6, 4] rfl (by decide) rfl rfl dX5_rightWithout_40 [some 0, none, none, some 1, some 4, some 2, some 3, none] (by decide) ⟨⟨rfl, rfl⟩, ⟨rfl, ⟨rfl, ⟨⟨rfl, rfl⟩, ⟨⟨rfl, rfl⟩, ⟨⟨rfl, rfl⟩, ⟨⟨rfl, rfl⟩, ⟨rfl, trivial⟩⟩⟩⟩⟩⟩⟩⟩ rfl ?_
      refine b_iconst (v := 1) C dX5_rightWithout_43 (by decide) ?_
      refine b_iand C dX5_rightWithout_44 ?_
      refine b_topi hm (fun x9 hm => ?_)
      refine b_istore (lv' := [(6, .int x9), (0, .ref A_th), (1, .ref A_p1), (2, .int n2), (3, .int x5), (4, .int x3), (5, .int x6)]) C dX5_rightWithout_45 (by decide) rfl ?_
      refine b_iload C dX5_rightWithout_47 0 rfl ?_
      refine b_aload_n C dX5_rightWithout_49 rfl 2 rfl ?_
      refine gfX5_69 C 1 rfl rfl dX5_rightWithout_50 ?_
      refine b_iload C dX5_rightWithout_53 5 rfl ?_
      refine b_iald C 7 rfl dX5_rightWithout_55 hm (fun v10 hm => ?_)
      refine b_iload C dX5_rightWithout_56 6 rfl ?_
      refine b_ishr C dX5_rightWithout_58 ?_
      refine b_iconst (v := 1) C dX5_rightWithout_59 (by decide) ?_
      refine b_iand C dX5_rightWithout_60 ?_
      refine b_icmp_ne (tgt := 67) C dX5_rightWithout_61 (by decide) hm (fun hm => ?_) (fun hm => ?_)
      · refine b_iinc (v2 := x6 + 1) (lv' := [(5, .int (x6 + 1)), (6, .int x9), (0, .ref A_th), (1, .ref A_p1), (2, .int n2), (3, .int x5), (4, .int x3)]) C dX5_rightWithout_67 6 rfl rfl (by decide) rfl ?_
        refine b_goto (tgt := 17) C dX5_rightWithout_70 (by decide) ?_
        exact Wb.lv (hc4 x5 (x6 + 1) hm) [2, 3, 4, 5, 6, 0] rfl
      · refine b_iinc (v2 := x5 + 1) (lv' := [(3, .int (x5 + 1)), (6, .int x9), (0, .ref A_th), (1, .ref A_p1), (2, .int n2), (4, .int x3), (5, .int x6)]) C dX5_rightWithout_64 4 rfl rfl (by decide) rfl ?_
        refine b_iinc (v2 := x6 + 1) (lv' := [(5, .int (x6 + 1)), (3, .int (x5 + 1)), (6, .int x9), (0, .ref A_th), (1, .ref A_p1), (2, .int n2), (4, .int x3)]) C dX5_rightWithout_67 6 rfl rfl (by decide) rfl ?_
        refine b_goto (tgt := 17) C dX5_rightWithout_70 (by decide) ?_
        exact Wb.lv (hc4 (x5 + 1) (x6 + 1) hm) [3, 4, 5, 1, 6, 0] rfl
/-- BreakLearner.earns(I)I -/
def m_X10_earns (F : Nat)  (n1 : Int32) (th_stock_words : Int32) (th_learning_digits : (Nat → Int32)) (th_stock_sizes : (Nat → Int32)) (th_stock_breaks : (Nat → Int32)) (th_learning_levels : (Nat → Int32)) (th_index_fits : (Nat → Int32)) (th_index_codes : (Nat → Int32)) : Option (Int32) :=
  bK1 (m_X2_nodeOf F n1) (fun r1 =>
  bK1 (m_X2_isString F r1) (fun r2 =>
  if r2 = 0 then
    some (-2)
  else
    bK1 (m_X5_rightPlaces F th_stock_words th_stock_sizes th_learning_digits th_stock_breaks) (fun r3 =>
    bK1 (m_X5_rightWithout F r1 th_stock_words th_stock_sizes th_learning_levels th_index_fits th_index_codes th_stock_breaks) (fun r4 =>
    some (r3 - r4)
    )
    )
  )
  )
abbrev rmX10_earns : Room := { frames := 4, cells := 0, slots := 0, locals := 91 }
set_option maxHeartbeats 4000000 in
set_option maxRecDepth 100000 in
theorem c_X10_earns (l : Launch) (g : Gl) (A_th A_th_learning A_th_stock A_th_learning_digits A_th_stock_sizes A_th_stock_breaks A_th_index A_th_learning_levels A_th_index_fits A_th_index_codes : Nat) (V_th_text V_th_index V_th_doings V_th_tree V_th_seen V_th_judging V_th_chances V_th_shelves V_th_onShelf V_th_theSeed V_th_learning_good V_th_learning_bad V_th_stock_letters V_th_stock_rules V_th_stock_hs V_th_stock_learnt V_th_index_numbers V_th_index_known V_th_index_starts V_th_index_signs V_th_index_size : Value)  (n1 : Int32) (th_stock_words : Int32) (th_learning_digits : (Nat → Int32)) (th_stock_sizes : (Nat → Int32)) (th_stock_breaks : (Nat → Int32)) (th_learning_levels : (Nat → Int32)) (th_index_fits : (Nat → Int32)) (th_index_codes : (Nat → Int32)) (F : Nat) (u : Int32) (hm : m_X10_earns F n1 th_stock_words th_learning_digits th_stock_sizes th_stock_breaks th_learning_levels th_index_fits th_index_codes = some u) : Ct l g yX10_earns cX10_earns 3 (some .int) rmX10_earns [.ref A_th, .int n1] [(A_th, oO 9 [V_th_text, .ref A_th_stock, V_th_index, .ref A_th_learning, V_th_doings, V_th_tree, V_th_seen, V_th_judging, V_th_chances, V_th_shelves, V_th_onShelf, V_th_theSeed]), (A_th_learning, oO 4 [.ref A_th_index, .ref A_th_learning_levels, V_th_learning_good, V_th_learning_bad, .ref A_th_learning_digits]), (A_th_stock, oO 6 [V_th_stock_letters, .ref A_th_stock_breaks, .ref A_th_stock_sizes, V_th_stock_rules, V_th_stock_hs, .int th_stock_words, V_th_stock_learnt]), (A_th_learning_digits, iA g 30 th_learning_digits), (A_th_stock_sizes, iA g 6 th_stock_sizes), (A_th_stock_breaks, iA g 6 th_stock_breaks), (A_th_index, oO 2 [V_th_index_numbers, .ref A_th_index_codes, .ref A_th_index_fits, V_th_index_known, V_th_index_starts, V_th_index_signs, V_th_index_size]), (A_th_learning_levels, iA g 270 th_learning_levels), (A_th_index_fits, iA g 270 th_index_fits), (A_th_index_codes, iA g 270 th_index_codes)] (some (.int u)) [(A_th, oO 9 [V_th_text, .ref A_th_stock, V_th_index, .ref A_th_learning, V_th_doings, V_th_tree, V_th_seen, V_th_judging, V_th_chances, V_th_shelves, V_th_onShelf, V_th_theSeed]), (A_th_learning, oO 4 [.ref A_th_index, .ref A_th_learning_levels, V_th_learning_good, V_th_learning_bad, .ref A_th_learning_digits]), (A_th_stock, oO 6 [V_th_stock_letters, .ref A_th_stock_breaks, .ref A_th_stock_sizes, V_th_stock_rules, V_th_stock_hs, .int th_stock_words, V_th_stock_learnt]), (A_th_learning_digits, iA g 30 th_learning_digits), (A_th_stock_sizes, iA g 6 th_stock_sizes), (A_th_stock_breaks, iA g 6 th_stock_breaks), (A_th_index, oO 2 [V_th_index_numbers, .ref A_th_index_codes, .ref A_th_index_fits, V_th_index_known, V_th_index_starts, V_th_index_signs, V_th_index_size]), (A_th_learning_levels, iA g 270 th_learning_levels), (A_th_index_fits, iA g 270 th_index_fits), (A_th_index_codes, iA g 270 th_index_codes)] := by
  refine ent (own := RX10) (lv := [(0, .ref A_th), (1, .int n1)]) (by decide) rfl (Nat.le_of_ble_eq_true rfl) rfl rfl ?_
  intro x C
  unfold m_X10_earns at hm
  refine b_iload_n C dX10_earns_0 rfl 1 rfl ?_
  obtain ⟨r1, hM, hm⟩ := bK1_some hm
  refine b_kS (w' := [(A_th, oO 9 [V_th_text, .ref A_th_stock, V_th_index, .ref A_th_learning, V_th_doings, V_th_tree, V_th_seen, V_th_judging, V_th_chances, V_th_shelves, V_th_onShelf, V_th_theSeed]), (A_th_learning, oO 4 [.ref A_th_index, .ref A_th_learning_levels, V_th_learning_good, V_th_learning_bad, .ref A_th_learning_digits]), (A_th_stock, oO 6 [V_th_stock_letters, .ref A_th_stock_breaks, .ref A_th_stock_sizes, V_th_stock_rules, V_th_stock_hs, .int th_stock_words, V_th_stock_learnt]), (A_th_learning_digits, iA g 30 th_learning_digits), (A_th_stock_sizes, iA g 6 th_stock_sizes), (A_th_stock_breaks, iA g 6 th_stock_breaks), (A_th_index, oO 2 [V_th_index_numbers, .ref A_th_index_codes, .ref A_th_index_fits, V_th_index_known, V_th_index_starts, V_th_index_signs, V_th_index_size]), (A_th_learning_levels, iA g 270 th_learning_levels), (A_th_index_fits, iA g 270 th_index_fits), (A_th_index_codes, iA g 270 th_index_codes)]) (st := []) (st2 := [.int r1]) C cs_X2_nodeOf tb573 (c_X2_nodeOf l g n1 F r1 hM) rfl ⟨rfl, rfl, by decide, by decide⟩ (Nat.le_of_ble_eq_true rfl) [] rfl (by decide) rfl rfl dX10_earns_1 [none, none, none, none, none, none, none, none, none, none] (by decide) ⟨rfl, ⟨rfl, ⟨rfl, ⟨rfl, ⟨rfl, ⟨rfl, ⟨rfl, ⟨rfl, ⟨rfl, ⟨rfl, trivial⟩⟩⟩⟩⟩⟩⟩⟩⟩⟩ rfl ?_
  refine b_istore_n (lv' := [(2, .int r1), (0, .ref A_th), (1, .int n1)]) C dX10_earns_4 rfl (by decide) rfl ?_
  refine b_iload_n C dX10_earns_5 rfl 0 rfl ?_
  obtain ⟨r2, hM, hm⟩ := bK1_some hm
  refine b_kS (w' := [(A_th, oO 9 [V_th_text, .ref A_th_stock, V_th_index, .ref A_th_learning, V_th_doings, V_th_tree, V_th_seen, V_th_judging, V_th_chances, V_th_shelves, V_th_onShelf, V_th_theSeed]), (A_th_learning, oO 4 [.ref A_th_index, .ref A_th_learning_levels, V_th_learning_good, V_th_learning_bad, .ref A_th_learning_digits]), (A_th_stock, oO 6 [V_th_stock_letters, .ref A_th_stock_breaks, .ref A_th_stock_sizes, V_th_stock_rules, V_th_stock_hs, .int th_stock_words, V_th_stock_learnt]), (A_th_learning_digits, iA g 30 th_learning_digits), (A_th_stock_sizes, iA g 6 th_stock_sizes), (A_th_stock_breaks, iA g 6 th_stock_breaks), (A_th_index, oO 2 [V_th_index_numbers, .ref A_th_index_codes, .ref A_th_index_fits, V_th_index_known, V_th_index_starts, V_th_index_signs, V_th_index_size]), (A_th_learning_levels, iA g 270 th_learning_levels), (A_th_index_fits, iA g 270 th_index_fits), (A_th_index_codes, iA g 270 th_index_codes)]) (st := []) (st2 := [.int r2]) C cs_X2_isString tb687 (c_X2_isString l g r1 F r2 hM) rfl ⟨rfl, rfl, by decide, by decide⟩ (Nat.le_of_ble_eq_true rfl) [] rfl (by decide) rfl rfl dX10_earns_6 [none, none, none, none, none, none, none, none, none, none] (by decide) ⟨rfl, ⟨rfl, ⟨rfl, ⟨rfl, ⟨rfl, ⟨rfl, ⟨rfl, ⟨rfl, ⟨rfl, ⟨rfl, trivial⟩⟩⟩⟩⟩⟩⟩⟩⟩⟩ rfl ?_
  refine b_if_ne (tgt := 15) C dX10_earns_9 (by decide) hm (fun hm => ?_) (fun hm => ?_)
  · refine b_aload_n C dX10_earns_15 rfl 1 rfl ?_
    refine gfX10_35 C 0 rfl rfl dX10_earns_16 ?_
    refine b_aload_n C dX10_earns_19 rfl 1 rfl ?_
    refine gfX10_19 C 0 rfl rfl dX10_earns_20 ?_
    obtain ⟨r3, hM, hm⟩ := bK1_some hm
    refine b_kV (w' := [(A_th, oO 9 [V_th_text, .ref A_th_stock, V_th_index, .ref A_th_learning, V_th_doings, V_th_tree, V_th_seen, V_th_judging, V_th_chances, V_th_shelves, V_th_onShelf, V_th_theSeed]), (A_th_learning, oO 4 [.ref A_th_index, .ref A_th_learning_levels, V_th_learning_good, V_th_learning_bad, .ref A_th_learning_digits]), (A_th_stock, oO 6 [V_th_stock_letters, .ref A_th_stock_breaks, .ref A_th_stock_sizes, V_th_stock_rules, V_th_stock_hs, .int th_stock_words, V_th_stock_learnt]), (A_th_learning_digits, iA g 30 th_learning_digits), (A_th_stock_sizes, iA g 6 th_stock_sizes), (A_th_stock_breaks, iA g 6 th_stock_breaks), (A_th_index, oO 2 [V_th_index_numbers, .ref A_th_index_codes, .ref A_th_index_fits, V_th_index_known, V_th_index_starts, V_th_index_signs, V_th_index_size]), (A_th_learning_levels, iA g 270 th_learning_levels), (A_th_index_fits, iA g 270 th_index_fits), (A_th_index_codes, iA g 270 th_index_codes)]) (st := []) (st2 := [.int r3]) C cv_X5_rightPlaces tb478 (c_X5_rightPlaces l g A_th_learning A_th_stock A_th_stock_sizes A_th_learning_digits A_th_stock_breaks (.ref A_th_index) (.ref A_th_learning_levels) V_th_learning_good V_th_learning_bad V_th_stock_letters V_th_stock_rules V_th_stock_hs V_th_stock_learnt th_stock_words th_stock_sizes th_learning_digits th_stock_breaks F r3 hM) rfl 1 rfl rfl ⟨rfl, rfl, by decide, by decide⟩ (Nat.le_of_ble_eq_true rfl) [1, 2, 4, 3, 5] rfl (by decide) rfl rfl dX10_earns_23 [none, some 0, some 1, some 3, some 2, some 4, none, none, none, none] (by decide) ⟨rfl, ⟨⟨rfl, rfl⟩, ⟨⟨rfl, rfl⟩, ⟨⟨rfl, rfl⟩, ⟨⟨rfl, rfl⟩, ⟨⟨rfl, rfl⟩, ⟨rfl, ⟨rfl, ⟨rfl, ⟨rfl, trivial⟩⟩⟩⟩⟩⟩⟩⟩⟩⟩ rfl ?_
    refine b_aload_n C dX10_earns_26 rfl 1 rfl ?_
    refine gfX10_35 C 0 rfl rfl dX10_earns_27 ?_
    refine b_aload_n C dX10_earns_30 rfl 1 rfl ?_
    refine gfX10_19 C 0 rfl rfl dX10_earns_31 ?_
    refine b_iload_n C dX10_earns_34 rfl 0 rfl ?_
    obtain ⟨r4, hM, hm⟩ := bK1_some hm
    refine b_kV (w' := [(A_th, oO 9 [V_th_text, .ref A_th_stock, V_th_index, .ref A_th_learning, V_th_doings, V_th_tree, V_th_seen, V_th_judging, V_th_chances, V_th_shelves, V_th_onShelf, V_th_theSeed]), (A_th_learning, oO 4 [.ref A_th_index, .ref A_th_learning_levels, V_th_learning_good, V_th_learning_bad, .ref A_th_learning_digits]), (A_th_stock, oO 6 [V_th_stock_letters, .ref A_th_stock_breaks, .ref A_th_stock_sizes, V_th_stock_rules, V_th_stock_hs, .int th_stock_words, V_th_stock_learnt]), (A_th_learning_digits, iA g 30 th_learning_digits), (A_th_stock_sizes, iA g 6 th_stock_sizes), (A_th_stock_breaks, iA g 6 th_stock_breaks), (A_th_index, oO 2 [V_th_index_numbers, .ref A_th_index_codes, .ref A_th_index_fits, V_th_index_known, V_th_index_starts, V_th_index_signs, V_th_index_size]), (A_th_learning_levels, iA g 270 th_learning_levels), (A_th_index_fits, iA g 270 th_index_fits), (A_th_index_codes, iA g 270 th_index_codes)]) (st := [.int r3]) (st2 := [.int r4, .int r3]) C cv_X5_rightWithout tb688 (c_X5_rightWithout l g A_th_learning A_th_stock A_th_stock_sizes A_th_index A_th_learning_levels A_th_index_fits A_th_index_codes A_th_stock_breaks V_th_learning_good V_th_learning_bad (.ref A_th_learning_digits) V_th_stock_letters V_th_stock_rules V_th_stock_hs V_th_stock_learnt V_th_index_numbers V_th_index_known V_th_index_starts V_th_index_signs V_th_index_size r1 th_stock_words th_stock_sizes th_learning_levels th_index_fits th_index_codes th_stock_breaks F r4 hM) rfl 1 rfl rfl ⟨rfl, rfl, by decide, by decide⟩ (Nat.le_of_ble_eq_true rfl) [1, 2, 4, 6, 7, 8, 9, 5] rfl (by decide) rfl rfl dX10_earns_35 [none, some 0, some 1, none, some 2, some 7, some 3, some 4, some 5, some 6] (by decide) ⟨rfl, ⟨⟨rfl, rfl⟩, ⟨⟨rfl, rfl⟩, ⟨rfl, ⟨⟨rfl, rfl⟩, ⟨⟨rfl, rfl⟩, ⟨⟨rfl, rfl⟩, ⟨⟨rfl, rfl⟩, ⟨⟨rfl, rfl⟩, ⟨⟨rfl, rfl⟩, trivial⟩⟩⟩⟩⟩⟩⟩⟩⟩⟩ rfl ?_
    refine b_isub C dX10_earns_38 ?_
    cases hm
    exact b_iret C dX10_earns_39
  · refine b_bipush (v := (-2)) C dX10_earns_12 (by decide) ?_
    cases hm
    exact b_iret C dX10_earns_14
/-- BreakLearner$Stock.copyFrom(LBreakLearner$Stock;)V -/
def m_X7_copyFrom (F : Nat)   (th_words : Int32) (th_learnt : Int32) (p1_words : Int32) (p1_learnt : Int32) (p1_letters : (Nat → Int32)) (th_letters : (Nat → Int32)) (p1_breaks : (Nat → Int32)) (th_breaks : (Nat → Int32)) (p1_sizes : (Nat → Int32)) (th_sizes : (Nat → Int32)) (p1_rules : (Nat → Int32)) (th_rules : (Nat → Int32)) (p1_hs : (Nat → Int32)) (th_hs : (Nat → Int32)) : Option (Int32 × Int32 × (Nat → Int32) × (Nat → Int32) × (Nat → Int32) × (Nat → Int32) × (Nat → Int32)) :=
  some (p1_words, p1_learnt, va_cpy p1_letters th_letters 0 0 6, va_cpy p1_breaks th_breaks 0 0 6, va_cpy p1_sizes th_sizes 0 0 6, va_cpy p1_rules th_rules 0 0 5, va_cpy p1_hs th_hs 0 0 5)
abbrev rmX7_copyFrom : Room := { frames := 1, cells := 0, slots := 0, locals := 40 }
set_option maxHeartbeats 4000000 in
set_option maxRecDepth 100000 in
theorem c_X7_copyFrom (l : Launch) (g : Gl) (A_th A_p1 A_p1_letters A_th_letters A_p1_breaks A_th_breaks A_p1_sizes A_th_sizes A_p1_rules A_th_rules A_p1_hs A_th_hs : Nat)   (th_words : Int32) (th_learnt : Int32) (p1_words : Int32) (p1_learnt : Int32) (p1_letters : (Nat → Int32)) (th_letters : (Nat → Int32)) (p1_breaks : (Nat → Int32)) (th_breaks : (Nat → Int32)) (p1_sizes : (Nat → Int32)) (th_sizes : (Nat → Int32)) (p1_rules : (Nat → Int32)) (th_rules : (Nat → Int32)) (p1_hs : (Nat → Int32)) (th_hs : (Nat → Int32)) (F : Nat) (u : Int32 × Int32 × (Nat → Int32) × (Nat → Int32) × (Nat → Int32) × (Nat → Int32) × (Nat → Int32)) (hm : m_X7_copyFrom F th_words th_learnt p1_words p1_learnt p1_letters th_letters p1_breaks th_breaks p1_sizes th_sizes p1_rules th_rules p1_hs th_hs = some u) : Ct l g yX7_copyFrom cX7_copyFrom 2 none rmX7_copyFrom [.ref A_th, .ref A_p1] [(A_th, oO 6 [.ref A_th_letters, .ref A_th_breaks, .ref A_th_sizes, .ref A_th_rules, .ref A_th_hs, .int th_words, .int th_learnt]), (A_p1, oO 6 [.ref A_p1_letters, .ref A_p1_breaks, .ref A_p1_sizes, .ref A_p1_rules, .ref A_p1_hs, .int p1_words, .int p1_learnt]), (A_p1_letters, iA g 6 p1_letters), (A_th_letters, iA g 6 th_letters), (A_p1_breaks, iA g 6 p1_breaks), (A_th_breaks, iA g 6 th_breaks), (A_p1_sizes, iA g 6 p1_sizes), (A_th_sizes, iA g 6 th_sizes), (A_p1_rules, iA g 5 p1_rules), (A_th_rules, iA g 5 th_rules), (A_p1_hs, iA g 5 p1_hs), (A_th_hs, iA g 5 th_hs)] none [(A_th, oO 6 [.ref A_th_letters, .ref A_th_breaks, .ref A_th_sizes, .ref A_th_rules, .ref A_th_hs, .int u.1, .int u.2.1]), (A_p1, oO 6 [.ref A_p1_letters, .ref A_p1_breaks, .ref A_p1_sizes, .ref A_p1_rules, .ref A_p1_hs, .int p1_words, .int p1_learnt]), (A_p1_letters, iA g 6 p1_letters), (A_th_letters, iA g 6 u.2.2.1), (A_p1_breaks, iA g 6 p1_breaks), (A_th_breaks, iA g 6 u.2.2.2.1), (A_p1_sizes, iA g 6 p1_sizes), (A_th_sizes, iA g 6 u.2.2.2.2.1), (A_p1_rules, iA g 5 p1_rules), (A_th_rules, iA g 5 u.2.2.2.2.2.1), (A_p1_hs, iA g 5 p1_hs), (A_th_hs, iA g 5 u.2.2.2.2.2.2)] := by
  refine ent (own := RX7) (lv := [(0, .ref A_th), (1, .ref A_p1)]) (by decide) rfl (Nat.le_of_ble_eq_true rfl) rfl rfl ?_
  intro x C
  unfold m_X7_copyFrom at hm
  refine b_aload_n C dX7_copyFrom_0 rfl 1 rfl ?_
  refine gfX7_9 C 1 rfl rfl dX7_copyFrom_1 ?_
  refine b_iconst (v := 0) C dX7_copyFrom_4 (by decide) ?_
  refine b_aload_n C dX7_copyFrom_5 rfl 0 rfl ?_
  refine gfX7_9 C 0 rfl rfl dX7_copyFrom_6 ?_
  refine b_iconst (v := 0) C dX7_copyFrom_9 (by decide) ?_
  refine b_bipush (v := 6) C dX7_copyFrom_10 (by decide) ?_
  refine b_copy (N := 6) (w' := [(A_th, oO 6 [.ref A_th_letters, .ref A_th_breaks, .ref A_th_sizes, .ref A_th_rules, .ref A_th_hs, .int th_words, .int th_learnt]), (A_p1, oO 6 [.ref A_p1_letters, .ref A_p1_breaks, .ref A_p1_sizes, .ref A_p1_rules, .ref A_p1_hs, .int p1_words, .int p1_learnt]), (A_p1_letters, iA g 6 p1_letters), (A_th_letters, iA g 6 (va_cpy p1_letters th_letters 0 0 6)), (A_p1_breaks, iA g 6 p1_breaks), (A_th_breaks, iA g 6 th_breaks), (A_p1_sizes, iA g 6 p1_sizes), (A_th_sizes, iA g 6 th_sizes), (A_p1_rules, iA g 5 p1_rules), (A_th_rules, iA g 5 th_rules), (A_p1_hs, iA g 5 p1_hs), (A_th_hs, iA g 5 th_hs)]) C tb710 tb712 tb711 tb75 2 3 rfl rfl (by decide) (by decide) (by decide) (by decide) (by decide) (Nat.le_of_ble_eq_true (by decide +kernel)) dX7_copyFrom_12 rfl ?_
  refine b_aload_n C dX7_copyFrom_15 rfl 1 rfl ?_
  refine gfX7_15 C 1 rfl rfl dX7_copyFrom_16 ?_
  refine b_iconst (v := 0) C dX7_copyFrom_19 (by decide) ?_
  refine b_aload_n C dX7_copyFrom_20 rfl 0 rfl ?_
  refine gfX7_15 C 0 rfl rfl dX7_copyFrom_21 ?_
  refine b_iconst (v := 0) C dX7_copyFrom_24 (by decide) ?_
  refine b_bipush (v := 6) C dX7_copyFrom_25 (by decide) ?_
  refine b_copy (N := 6) (w' := [(A_th, oO 6 [.ref A_th_letters, .ref A_th_breaks, .ref A_th_sizes, .ref A_th_rules, .ref A_th_hs, .int th_words, .int th_learnt]), (A_p1, oO 6 [.ref A_p1_letters, .ref A_p1_breaks, .ref A_p1_sizes, .ref A_p1_rules, .ref A_p1_hs, .int p1_words, .int p1_learnt]), (A_p1_letters, iA g 6 p1_letters), (A_th_letters, iA g 6 (va_cpy p1_letters th_letters 0 0 6)), (A_p1_breaks, iA g 6 p1_breaks), (A_th_breaks, iA g 6 (va_cpy p1_breaks th_breaks 0 0 6)), (A_p1_sizes, iA g 6 p1_sizes), (A_th_sizes, iA g 6 th_sizes), (A_p1_rules, iA g 5 p1_rules), (A_th_rules, iA g 5 th_rules), (A_p1_hs, iA g 5 p1_hs), (A_th_hs, iA g 5 th_hs)]) C tb710 tb712 tb711 tb75 4 5 rfl rfl (by decide) (by decide) (by decide) (by decide) (by decide) (Nat.le_of_ble_eq_true (by decide +kernel)) dX7_copyFrom_27 rfl ?_
  refine b_aload_n C dX7_copyFrom_30 rfl 1 rfl ?_
  refine gfX7_18 C 1 rfl rfl dX7_copyFrom_31 ?_
  refine b_iconst (v := 0) C dX7_copyFrom_34 (by decide) ?_
  refine b_aload_n C dX7_copyFrom_35 rfl 0 rfl ?_
  refine gfX7_18 C 0 rfl rfl dX7_copyFrom_36 ?_
  refine b_iconst (v := 0) C dX7_copyFrom_39 (by decide) ?_
  refine b_bipush (v := 6) C dX7_copyFrom_40 (by decide) ?_
  refine b_copy (N := 6) (w' := [(A_th, oO 6 [.ref A_th_letters, .ref A_th_breaks, .ref A_th_sizes, .ref A_th_rules, .ref A_th_hs, .int th_words, .int th_learnt]), (A_p1, oO 6 [.ref A_p1_letters, .ref A_p1_breaks, .ref A_p1_sizes, .ref A_p1_rules, .ref A_p1_hs, .int p1_words, .int p1_learnt]), (A_p1_letters, iA g 6 p1_letters), (A_th_letters, iA g 6 (va_cpy p1_letters th_letters 0 0 6)), (A_p1_breaks, iA g 6 p1_breaks), (A_th_breaks, iA g 6 (va_cpy p1_breaks th_breaks 0 0 6)), (A_p1_sizes, iA g 6 p1_sizes), (A_th_sizes, iA g 6 (va_cpy p1_sizes th_sizes 0 0 6)), (A_p1_rules, iA g 5 p1_rules), (A_th_rules, iA g 5 th_rules), (A_p1_hs, iA g 5 p1_hs), (A_th_hs, iA g 5 th_hs)]) C tb710 tb712 tb711 tb75 6 7 rfl rfl (by decide) (by decide) (by decide) (by decide) (by decide) (Nat.le_of_ble_eq_true (by decide +kernel)) dX7_copyFrom_42 rfl ?_
  refine b_aload_n C dX7_copyFrom_45 rfl 1 rfl ?_
  refine gfX7_21 C 1 rfl rfl dX7_copyFrom_46 ?_
  refine b_iconst (v := 0) C dX7_copyFrom_49 (by decide) ?_
  refine b_aload_n C dX7_copyFrom_50 rfl 0 rfl ?_
  refine gfX7_21 C 0 rfl rfl dX7_copyFrom_51 ?_
  refine b_iconst (v := 0) C dX7_copyFrom_54 (by decide) ?_
  refine b_iconst (v := 5) C dX7_copyFrom_55 (by decide) ?_
  refine b_copy (N := 5) (w' := [(A_th, oO 6 [.ref A_th_letters, .ref A_th_breaks, .ref A_th_sizes, .ref A_th_rules, .ref A_th_hs, .int th_words, .int th_learnt]), (A_p1, oO 6 [.ref A_p1_letters, .ref A_p1_breaks, .ref A_p1_sizes, .ref A_p1_rules, .ref A_p1_hs, .int p1_words, .int p1_learnt]), (A_p1_letters, iA g 6 p1_letters), (A_th_letters, iA g 6 (va_cpy p1_letters th_letters 0 0 6)), (A_p1_breaks, iA g 6 p1_breaks), (A_th_breaks, iA g 6 (va_cpy p1_breaks th_breaks 0 0 6)), (A_p1_sizes, iA g 6 p1_sizes), (A_th_sizes, iA g 6 (va_cpy p1_sizes th_sizes 0 0 6)), (A_p1_rules, iA g 5 p1_rules), (A_th_rules, iA g 5 (va_cpy p1_rules th_rules 0 0 5)), (A_p1_hs, iA g 5 p1_hs), (A_th_hs, iA g 5 th_hs)]) C tb710 tb712 tb711 tb75 8 9 rfl rfl (by decide) (by decide) (by decide) (by decide) (by decide) (Nat.le_of_ble_eq_true (by decide +kernel)) dX7_copyFrom_56 rfl ?_
  refine b_aload_n C dX7_copyFrom_59 rfl 1 rfl ?_
  refine gfX7_24 C 1 rfl rfl dX7_copyFrom_60 ?_
  refine b_iconst (v := 0) C dX7_copyFrom_63 (by decide) ?_
  refine b_aload_n C dX7_copyFrom_64 rfl 0 rfl ?_
  refine gfX7_24 C 0 rfl rfl dX7_copyFrom_65 ?_
  refine b_iconst (v := 0) C dX7_copyFrom_68 (by decide) ?_
  refine b_iconst (v := 5) C dX7_copyFrom_69 (by decide) ?_
  refine b_copy (N := 5) (w' := [(A_th, oO 6 [.ref A_th_letters, .ref A_th_breaks, .ref A_th_sizes, .ref A_th_rules, .ref A_th_hs, .int th_words, .int th_learnt]), (A_p1, oO 6 [.ref A_p1_letters, .ref A_p1_breaks, .ref A_p1_sizes, .ref A_p1_rules, .ref A_p1_hs, .int p1_words, .int p1_learnt]), (A_p1_letters, iA g 6 p1_letters), (A_th_letters, iA g 6 (va_cpy p1_letters th_letters 0 0 6)), (A_p1_breaks, iA g 6 p1_breaks), (A_th_breaks, iA g 6 (va_cpy p1_breaks th_breaks 0 0 6)), (A_p1_sizes, iA g 6 p1_sizes), (A_th_sizes, iA g 6 (va_cpy p1_sizes th_sizes 0 0 6)), (A_p1_rules, iA g 5 p1_rules), (A_th_rules, iA g 5 (va_cpy p1_rules th_rules 0 0 5)), (A_p1_hs, iA g 5 p1_hs), (A_th_hs, iA g 5 (va_cpy p1_hs th_hs 0 0 5))]) C tb710 tb712 tb711 tb75 10 11 rfl rfl (by decide) (by decide) (by decide) (by decide) (by decide) (Nat.le_of_ble_eq_true (by decide +kernel)) dX7_copyFrom_70 rfl ?_
  refine b_aload_n C dX7_copyFrom_73 rfl 0 rfl ?_
  refine b_aload_n C dX7_copyFrom_74 rfl 1 rfl ?_
  refine gfX7_39 C 1 rfl rfl dX7_copyFrom_75 ?_
  refine pfX7_39 (w' := [(A_th, oO 6 [.ref A_th_letters, .ref A_th_breaks, .ref A_th_sizes, .ref A_th_rules, .ref A_th_hs, .int p1_words, .int th_learnt]), (A_p1, oO 6 [.ref A_p1_letters, .ref A_p1_breaks, .ref A_p1_sizes, .ref A_p1_rules, .ref A_p1_hs, .int p1_words, .int p1_learnt]), (A_p1_letters, iA g 6 p1_letters), (A_th_letters, iA g 6 (va_cpy p1_letters th_letters 0 0 6)), (A_p1_breaks, iA g 6 p1_breaks), (A_th_breaks, iA g 6 (va_cpy p1_breaks th_breaks 0 0 6)), (A_p1_sizes, iA g 6 p1_sizes), (A_th_sizes, iA g 6 (va_cpy p1_sizes th_sizes 0 0 6)), (A_p1_rules, iA g 5 p1_rules), (A_th_rules, iA g 5 (va_cpy p1_rules th_rules 0 0 5)), (A_p1_hs, iA g 5 p1_hs), (A_th_hs, iA g 5 (va_cpy p1_hs th_hs 0 0 5))]) C rfl rfl 0 rfl (Nat.le_of_ble_eq_true rfl) dX7_copyFrom_78 rfl ?_
  refine b_aload_n C dX7_copyFrom_81 rfl 0 rfl ?_
  refine b_aload_n C dX7_copyFrom_82 rfl 1 rfl ?_
  refine gfX7_43 C 1 rfl rfl dX7_copyFrom_83 ?_
  refine pfX7_43 (w' := [(A_th, oO 6 [.ref A_th_letters, .ref A_th_breaks, .ref A_th_sizes, .ref A_th_rules, .ref A_th_hs, .int p1_words, .int p1_learnt]), (A_p1, oO 6 [.ref A_p1_letters, .ref A_p1_breaks, .ref A_p1_sizes, .ref A_p1_rules, .ref A_p1_hs, .int p1_words, .int p1_learnt]), (A_p1_letters, iA g 6 p1_letters), (A_th_letters, iA g 6 (va_cpy p1_letters th_letters 0 0 6)), (A_p1_breaks, iA g 6 p1_breaks), (A_th_breaks, iA g 6 (va_cpy p1_breaks th_breaks 0 0 6)), (A_p1_sizes, iA g 6 p1_sizes), (A_th_sizes, iA g 6 (va_cpy p1_sizes th_sizes 0 0 6)), (A_p1_rules, iA g 5 p1_rules), (A_th_rules, iA g 5 (va_cpy p1_rules th_rules 0 0 5)), (A_p1_hs, iA g 5 p1_hs), (A_th_hs, iA g 5 (va_cpy p1_hs th_hs 0 0 5))]) C rfl rfl 0 rfl (Nat.le_of_ble_eq_true rfl) dX7_copyFrom_86 rfl ?_
  cases hm
  exact b_vret C dX7_copyFrom_89
