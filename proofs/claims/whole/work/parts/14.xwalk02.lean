/-- BreakLearner$Learning.countWords(LBreakLearner$Stock;III)Z -/
def m_X5_countWords (F : Nat)  (n2 : Int32) (n3 : Int32) (n4 : Int32) (p1_words : Int32) (p1_sizes : (Nat → Int32)) (th_digits : (Nat → Int32)) (p1_breaks : (Nat → Int32)) (th_good : (Nat → Int32)) (th_index_fits : (Nat → Int32)) (th_bad : (Nat → Int32)) : Option (Int32 × (Nat → Int32) × (Nat → Int32)) :=
  jn1 (fun (y1 : Int32) =>
    wl4 (fun (x4 : Int32) (x5 : Int32) (f6 : (Nat → Int32)) (f7 : (Nat → Int32)) c3 =>
      if p1_words ≤ x5 then
        zK x4 (some (x4, f6, f7))
      else
        if ((n2 >>> (x5 &&& 31)) &&& 1) = 0 then
          c3 x4 (x5 + 1) f6 f7
        else
          wl4 (fun (x9 : Int32) (x10 : Int32) (f11 : (Nat → Int32)) (f12 : (Nat → Int32)) c8 =>
            rdK 6 p1_sizes x5 (fun v13 =>
            if (v13 - 1) ≤ x10 then
              c3 x9 (x5 + 1) f11 f12
            else
              bK1 (m_X5_digitOf F x5 x10 th_digits) (fun r14 =>
              jn1 (fun (y15 : Int32) =>
                rdK 6 p1_breaks x5 (fun v17 =>
                jn1 (fun (y18 : Int32) =>
                  letK ((x5 * 5) + x10) (fun x20 =>
                  jn0 (
                    jn0 (
                      bK1 (m_X5_countPlace F x20 n4 f12 th_index_fits) (fun f23 =>
                      c8 x9 (x10 + 1) f11 f23
                      )
                      ) (fun k22 =>
                      if y1 = 0 then
                        if y15 = 0 then
                          c8 x9 (x10 + 1) f11 f12
                        else
                          k22
                      else
                        if y18 = 0 then
                          k22
                        else
                          c8 x9 (x10 + 1) f11 f12
                      )
                    ) (fun k21 =>
                    jn0 (
                      bK1 (m_X5_countPlace F x20 n4 f11 th_index_fits) (fun f25 =>
                      c8 1 (x10 + 1) f25 f12
                      )
                      ) (fun k24 =>
                      if y1 = 0 then
                        if y15 = 0 then
                          k21
                        else
                          if y18 = 0 then
                            k24
                          else
                            k21
                      else
                        if y18 = 0 then
                          k21
                        else
                          if y15 = 0 then
                            k24
                          else
                            k21
                      )
                    )
                  )
                  ) (fun k19 =>
                  if ((v17 >>> (x10 &&& 31)) &&& 1) = 1 then
                    k19 1
                  else
                    k19 0
                  )
                )
                ) (fun k16 =>
                if (irm r14 2) = 1 then
                  k16 1
                else
                  k16 0
                )
              )
            )
            ) F x4 0 f6 f7
      ) F 0 0 th_good th_bad
    ) (fun k2 =>
    if (irm n3 2) = 1 then
      k2 1
    else
      k2 0
    )
abbrev rmX5_countWords : Room := { frames := 1, cells := 0, slots := 0, locals := 25 }
set_option maxHeartbeats 4000000 in
set_option maxRecDepth 100000 in
theorem c_X5_countWords (l : Launch) (g : Gl) (A_th A_p1 A_p1_sizes A_th_digits A_p1_breaks A_th_good A_th_index A_th_index_fits A_th_bad : Nat) (V_th_levels V_p1_letters V_p1_rules V_p1_hs V_p1_learnt V_th_index_numbers V_th_index_codes V_th_index_known V_th_index_starts V_th_index_signs V_th_index_size : Value)  (n2 : Int32) (n3 : Int32) (n4 : Int32) (p1_words : Int32) (p1_sizes : (Nat → Int32)) (th_digits : (Nat → Int32)) (p1_breaks : (Nat → Int32)) (th_good : (Nat → Int32)) (th_index_fits : (Nat → Int32)) (th_bad : (Nat → Int32)) (F : Nat) (u : Int32 × (Nat → Int32) × (Nat → Int32)) (hm : m_X5_countWords F n2 n3 n4 p1_words p1_sizes th_digits p1_breaks th_good th_index_fits th_bad = some u) : Ct l g yX5_countWords cX5_countWords 12 (some .boolean) rmX5_countWords [.ref A_th, .ref A_p1, .int n2, .int n3, .int n4] [(A_th, oO 4 [.ref A_th_index, V_th_levels, .ref A_th_good, .ref A_th_bad, .ref A_th_digits]), (A_p1, oO 6 [V_p1_letters, .ref A_p1_breaks, .ref A_p1_sizes, V_p1_rules, V_p1_hs, .int p1_words, V_p1_learnt]), (A_p1_sizes, iA g 6 p1_sizes), (A_th_digits, iA g 30 th_digits), (A_p1_breaks, iA g 6 p1_breaks), (A_th_good, iA g 270 th_good), (A_th_index, oO 2 [V_th_index_numbers, V_th_index_codes, .ref A_th_index_fits, V_th_index_known, V_th_index_starts, V_th_index_signs, V_th_index_size]), (A_th_index_fits, iA g 270 th_index_fits), (A_th_bad, iA g 270 th_bad)] (some (.int u.1)) [(A_th, oO 4 [.ref A_th_index, V_th_levels, .ref A_th_good, .ref A_th_bad, .ref A_th_digits]), (A_p1, oO 6 [V_p1_letters, .ref A_p1_breaks, .ref A_p1_sizes, V_p1_rules, V_p1_hs, .int p1_words, V_p1_learnt]), (A_p1_sizes, iA g 6 p1_sizes), (A_th_digits, iA g 30 th_digits), (A_p1_breaks, iA g 6 p1_breaks), (A_th_good, iA g 270 u.2.1), (A_th_index, oO 2 [V_th_index_numbers, V_th_index_codes, .ref A_th_index_fits, V_th_index_known, V_th_index_starts, V_th_index_signs, V_th_index_size]), (A_th_index_fits, iA g 270 th_index_fits), (A_th_bad, iA g 270 u.2.2)] := by
  refine ent (own := RX5) (lv := [(0, .ref A_th), (1, .ref A_p1), (2, .int n2), (3, .int n3), (4, .int n4)]) (by decide) rfl (Nat.le_of_ble_eq_true rfl) rfl rfl ?_
  intro x C
  unfold m_X5_countWords at hm
  refine b_iload_n C dX5_countWords_0 rfl 3 rfl ?_
  refine b_iconst (v := 2) C dX5_countWords_1 (by decide) ?_
  refine b_irem C dX5_countWords_2 (by decide) ?_
  refine b_iconst (v := 1) C dX5_countWords_3 (by decide) ?_
  obtain ⟨k2, hk2, hm⟩ := jn1_some hm
  have jk2 : ∀ (y1 : Int32), k2 y1 = some u → Wb x [(A_th, oO 4 [.ref A_th_index, V_th_levels, .ref A_th_good, .ref A_th_bad, .ref A_th_digits]), (A_p1, oO 6 [V_p1_letters, .ref A_p1_breaks, .ref A_p1_sizes, V_p1_rules, V_p1_hs, .int p1_words, V_p1_learnt]), (A_p1_sizes, iA g 6 p1_sizes), (A_th_digits, iA g 30 th_digits), (A_p1_breaks, iA g 6 p1_breaks), (A_th_good, iA g 270 th_good), (A_th_index, oO 2 [V_th_index_numbers, V_th_index_codes, .ref A_th_index_fits, V_th_index_known, V_th_index_starts, V_th_index_signs, V_th_index_size]), (A_th_index_fits, iA g 270 th_index_fits), (A_th_bad, iA g 270 th_bad)] [(0, .ref A_th), (1, .ref A_p1), (2, .int n2), (4, .int n4)] 12 [.int y1] := by
    intro y1 hm
    have hm := hk2 _ hm
    refine b_istore (lv' := [(5, .int y1), (0, .ref A_th), (1, .ref A_p1), (2, .int n2), (4, .int n4)]) C dX5_countWords_12 (by decide) rfl ?_
    refine b_iconst (v := 0) C dX5_countWords_14 (by decide) ?_
    refine b_istore (lv' := [(6, .int 0), (5, .int y1), (0, .ref A_th), (1, .ref A_p1), (2, .int n2), (4, .int n4)]) C dX5_countWords_15 (by decide) rfl ?_
    refine b_iconst (v := 0) C dX5_countWords_17 (by decide) ?_
    refine b_istore (lv' := [(7, .int 0), (6, .int 0), (5, .int y1), (0, .ref A_th), (1, .ref A_p1), (2, .int n2), (4, .int n4)]) C dX5_countWords_18 (by decide) rfl ?_
    refine Wb.lv (lv' := [(0, .ref A_th), (1, .ref A_p1), (2, .int n2), (4, .int n4), (5, .int y1), (6, .int 0), (7, .int 0)]) ?_ [3, 4, 5, 6, 2, 1, 0] rfl
    refine wl4_W (Wg := fun (x4 : Int32) (x5 : Int32) (f6 : (Nat → Int32)) (f7 : (Nat → Int32)) => Wb x [(A_th, oO 4 [.ref A_th_index, V_th_levels, .ref A_th_good, .ref A_th_bad, .ref A_th_digits]), (A_p1, oO 6 [V_p1_letters, .ref A_p1_breaks, .ref A_p1_sizes, V_p1_rules, V_p1_hs, .int p1_words, V_p1_learnt]), (A_p1_sizes, iA g 6 p1_sizes), (A_th_digits, iA g 30 th_digits), (A_p1_breaks, iA g 6 p1_breaks), (A_th_good, iA g 270 f6), (A_th_index, oO 2 [V_th_index_numbers, V_th_index_codes, .ref A_th_index_fits, V_th_index_known, V_th_index_starts, V_th_index_signs, V_th_index_size]), (A_th_index_fits, iA g 270 th_index_fits), (A_th_bad, iA g 270 f7)] [(0, .ref A_th), (1, .ref A_p1), (2, .int n2), (4, .int n4), (5, .int y1), (6, .int x4), (7, .int x5)] 20 []) ?_ F 0 0 th_good th_bad hm
    intro x4 x5 f6 f7 c3 hc3 hm
    refine b_iload C dX5_countWords_20 6 rfl ?_
    refine b_aload_n C dX5_countWords_22 rfl 1 rfl ?_
    refine gfX5_59 C 1 rfl rfl dX5_countWords_23 ?_
    refine b_icmp_ge (tgt := 199) C dX5_countWords_26 (by decide) hm (fun hm => ?_) (fun hm => ?_)
    · refine b_iload C dX5_countWords_199 5 rfl ?_
      obtain ⟨hn, hm⟩ := zK_some hm
      cases hm
      exact b_zret C hn dX5_countWords_201
    · refine b_iload_n C dX5_countWords_29 rfl 2 rfl ?_
      refine b_iload C dX5_countWords_30 6 rfl ?_
      refine b_ishr C dX5_countWords_32 ?_
      refine b_iconst (v := 1) C dX5_countWords_33 (by decide) ?_
      refine b_iand C dX5_countWords_34 ?_
      refine b_if_ne (tgt := 41) C dX5_countWords_35 (by decide) hm (fun hm => ?_) (fun hm => ?_)
      · refine b_iconst (v := 0) C dX5_countWords_41 (by decide) ?_
        refine b_istore (lv' := [(8, .int 0), (0, .ref A_th), (1, .ref A_p1), (2, .int n2), (4, .int n4), (5, .int y1), (6, .int x4), (7, .int x5)]) C dX5_countWords_42 (by decide) rfl ?_
        refine Wb.lv (lv' := [(0, .ref A_th), (1, .ref A_p1), (2, .int n2), (4, .int n4), (5, .int y1), (6, .int x4), (7, .int x5), (8, .int 0)]) ?_ [1, 2, 3, 4, 5, 6, 7, 0] rfl
        refine wl4_W (Wg := fun (x9 : Int32) (x10 : Int32) (f11 : (Nat → Int32)) (f12 : (Nat → Int32)) => Wb x [(A_th, oO 4 [.ref A_th_index, V_th_levels, .ref A_th_good, .ref A_th_bad, .ref A_th_digits]), (A_p1, oO 6 [V_p1_letters, .ref A_p1_breaks, .ref A_p1_sizes, V_p1_rules, V_p1_hs, .int p1_words, V_p1_learnt]), (A_p1_sizes, iA g 6 p1_sizes), (A_th_digits, iA g 30 th_digits), (A_p1_breaks, iA g 6 p1_breaks), (A_th_good, iA g 270 f11), (A_th_index, oO 2 [V_th_index_numbers, V_th_index_codes, .ref A_th_index_fits, V_th_index_known, V_th_index_starts, V_th_index_signs, V_th_index_size]), (A_th_index_fits, iA g 270 th_index_fits), (A_th_bad, iA g 270 f12)] [(0, .ref A_th), (1, .ref A_p1), (2, .int n2), (4, .int n4), (5, .int y1), (6, .int x9), (7, .int x5), (8, .int x10)] 44 []) ?_ F x4 0 f6 f7 hm
        intro x9 x10 f11 f12 c8 hc8 hm
        refine b_iload C dX5_countWords_44 7 rfl ?_
        refine b_aload_n C dX5_countWords_46 rfl 1 rfl ?_
        refine gfX5_62 C 1 rfl rfl dX5_countWords_47 ?_
        refine b_iload C dX5_countWords_50 6 rfl ?_
        refine b_iald C 2 rfl dX5_countWords_52 hm (fun v13 hm => ?_)
        refine b_iconst (v := 1) C dX5_countWords_53 (by decide) ?_
        refine b_isub C dX5_countWords_54 ?_
        refine b_icmp_ge (tgt := 193) C dX5_countWords_55 (by decide) hm (fun hm => ?_) (fun hm => ?_)
        · refine b_iinc (v2 := x5 + 1) (lv' := [(7, .int (x5 + 1)), (0, .ref A_th), (1, .ref A_p1), (2, .int n2), (4, .int n4), (5, .int y1), (6, .int x9), (8, .int x10)]) C dX5_countWords_193 6 rfl rfl (by decide) rfl ?_
          refine b_goto (tgt := 20) C dX5_countWords_196 (by decide) ?_
          exact Wb.lv (hc3 x9 (x5 + 1) f11 f12 hm) [1, 2, 3, 4, 5, 6, 0] rfl
        · refine b_aload_n C dX5_countWords_58 rfl 0 rfl ?_
          refine b_iload C dX5_countWords_59 6 rfl ?_
          refine b_iload C dX5_countWords_61 7 rfl ?_
          obtain ⟨r14, hM, hm⟩ := bK1_some hm
          refine b_kV (w' := [(A_th, oO 4 [.ref A_th_index, V_th_levels, .ref A_th_good, .ref A_th_bad, .ref A_th_digits]), (A_p1, oO 6 [V_p1_letters, .ref A_p1_breaks, .ref A_p1_sizes, V_p1_rules, V_p1_hs, .int p1_words, V_p1_learnt]), (A_p1_sizes, iA g 6 p1_sizes), (A_th_digits, iA g 30 th_digits), (A_p1_breaks, iA g 6 p1_breaks), (A_th_good, iA g 270 f11), (A_th_index, oO 2 [V_th_index_numbers, V_th_index_codes, .ref A_th_index_fits, V_th_index_known, V_th_index_starts, V_th_index_signs, V_th_index_size]), (A_th_index_fits, iA g 270 th_index_fits), (A_th_bad, iA g 270 f12)]) (st := []) (st2 := [.int r14]) C cv_X5_digitOf tb450 (c_X5_digitOf l g A_th A_th_digits (.ref A_th_index) V_th_levels (.ref A_th_good) (.ref A_th_bad) x5 x10 th_digits F r14 hM) rfl 0 rfl rfl ⟨rfl, rfl, by decide, by decide⟩ (Nat.le_of_ble_eq_true rfl) [0, 3] rfl (by decide) rfl rfl dX5_countWords_63 [some 0, none, none, some 1, none, none, none, none, none] (by decide) ⟨⟨rfl, rfl⟩, ⟨rfl, ⟨rfl, ⟨⟨rfl, rfl⟩, ⟨rfl, ⟨rfl, ⟨rfl, ⟨rfl, ⟨rfl, trivial⟩⟩⟩⟩⟩⟩⟩⟩⟩ rfl ?_
          refine b_iconst (v := 2) C dX5_countWords_66 (by decide) ?_
          refine b_irem C dX5_countWords_67 (by decide) ?_
          refine b_iconst (v := 1) C dX5_countWords_68 (by decide) ?_
          obtain ⟨k16, hk16, hm⟩ := jn1_some hm
          have jk16 : ∀ (y15 : Int32), k16 y15 = some u → Wb x [(A_th, oO 4 [.ref A_th_index, V_th_levels, .ref A_th_good, .ref A_th_bad, .ref A_th_digits]), (A_p1, oO 6 [V_p1_letters, .ref A_p1_breaks, .ref A_p1_sizes, V_p1_rules, V_p1_hs, .int p1_words, V_p1_learnt]), (A_p1_sizes, iA g 6 p1_sizes), (A_th_digits, iA g 30 th_digits), (A_p1_breaks, iA g 6 p1_breaks), (A_th_good, iA g 270 f11), (A_th_index, oO 2 [V_th_index_numbers, V_th_index_codes, .ref A_th_index_fits, V_th_index_known, V_th_index_starts, V_th_index_signs, V_th_index_size]), (A_th_index_fits, iA g 270 th_index_fits), (A_th_bad, iA g 270 f12)] [(0, .ref A_th), (1, .ref A_p1), (2, .int n2), (4, .int n4), (5, .int y1), (6, .int x9), (7, .int x5), (8, .int x10)] 77 [.int y15] := by
            intro y15 hm
            have hm := hk16 _ hm
            refine b_istore (lv' := [(9, .int y15), (0, .ref A_th), (1, .ref A_p1), (2, .int n2), (4, .int n4), (5, .int y1), (6, .int x9), (7, .int x5), (8, .int x10)]) C dX5_countWords_77 (by decide) rfl ?_
            refine b_aload_n C dX5_countWords_79 rfl 2 rfl ?_
            refine gfX5_69 C 1 rfl rfl dX5_countWords_80 ?_
            refine b_iload C dX5_countWords_83 7 rfl ?_
            refine b_iald C 4 rfl dX5_countWords_85 hm (fun v17 hm => ?_)
            refine b_iload C dX5_countWords_86 8 rfl ?_
            refine b_ishr C dX5_countWords_88 ?_
            refine b_iconst (v := 1) C dX5_countWords_89 (by decide) ?_
            refine b_iand C dX5_countWords_90 ?_
            refine b_iconst (v := 1) C dX5_countWords_91 (by decide) ?_
            obtain ⟨k19, hk19, hm⟩ := jn1_some hm
            have jk19 : ∀ (y18 : Int32), k19 y18 = some u → Wb x [(A_th, oO 4 [.ref A_th_index, V_th_levels, .ref A_th_good, .ref A_th_bad, .ref A_th_digits]), (A_p1, oO 6 [V_p1_letters, .ref A_p1_breaks, .ref A_p1_sizes, V_p1_rules, V_p1_hs, .int p1_words, V_p1_learnt]), (A_p1_sizes, iA g 6 p1_sizes), (A_th_digits, iA g 30 th_digits), (A_p1_breaks, iA g 6 p1_breaks), (A_th_good, iA g 270 f11), (A_th_index, oO 2 [V_th_index_numbers, V_th_index_codes, .ref A_th_index_fits, V_th_index_known, V_th_index_starts, V_th_index_signs, V_th_index_size]), (A_th_index_fits, iA g 270 th_index_fits), (A_th_bad, iA g 270 f12)] [(0, .ref A_th), (1, .ref A_p1), (2, .int n2), (4, .int n4), (5, .int y1), (6, .int x9), (7, .int x5), (8, .int x10), (9, .int y15)] 100 [.int y18] := by
              intro y18 hm
              have hm := hk19 _ hm
              refine b_istore (lv' := [(10, .int y18), (0, .ref A_th), (1, .ref A_p1), (2, .int n2), (4, .int n4), (5, .int y1), (6, .int x9), (7, .int x5), (8, .int x10), (9, .int y15)]) C dX5_countWords_100 (by decide) rfl ?_
              refine b_iload C dX5_countWords_102 7 rfl ?_
              refine b_iconst (v := 5) C dX5_countWords_104 (by decide) ?_
              refine b_imul C dX5_countWords_105 ?_
              refine b_iload C dX5_countWords_106 8 rfl ?_
              refine b_iadd C dX5_countWords_108 ?_
              refine b_topi hm (fun x20 hm => ?_)
              refine b_istore (lv' := [(11, .int x20), (10, .int y18), (0, .ref A_th), (1, .ref A_p1), (2, .int n2), (4, .int n4), (5, .int y1), (6, .int x9), (7, .int x5), (8, .int x10), (9, .int y15)]) C dX5_countWords_109 (by decide) rfl ?_
              refine b_iload C dX5_countWords_111 6 rfl ?_
              obtain ⟨k21, hk21, hm⟩ := jn0_some hm
              have jk21 : k21  = some u → Wb x [(A_th, oO 4 [.ref A_th_index, V_th_levels, .ref A_th_good, .ref A_th_bad, .ref A_th_digits]), (A_p1, oO 6 [V_p1_letters, .ref A_p1_breaks, .ref A_p1_sizes, V_p1_rules, V_p1_hs, .int p1_words, V_p1_learnt]), (A_p1_sizes, iA g 6 p1_sizes), (A_th_digits, iA g 30 th_digits), (A_p1_breaks, iA g 6 p1_breaks), (A_th_good, iA g 270 f11), (A_th_index, oO 2 [V_th_index_numbers, V_th_index_codes, .ref A_th_index_fits, V_th_index_known, V_th_index_starts, V_th_index_signs, V_th_index_size]), (A_th_index_fits, iA g 270 th_index_fits), (A_th_bad, iA g 270 f12)] [(0, .ref A_th), (1, .ref A_p1), (2, .int n2), (4, .int n4), (5, .int y1), (6, .int x9), (7, .int x5), (8, .int x10), (9, .int y15), (10, .int y18), (11, .int x20)] 157 [] := by
                intro  hm
                have hm := hk21 hm
                refine b_iload C dX5_countWords_157 4 rfl ?_
                obtain ⟨k22, hk22, hm⟩ := jn0_some hm
                have jk22 : k22  = some u → Wb x [(A_th, oO 4 [.ref A_th_index, V_th_levels, .ref A_th_good, .ref A_th_bad, .ref A_th_digits]), (A_p1, oO 6 [V_p1_letters, .ref A_p1_breaks, .ref A_p1_sizes, V_p1_rules, V_p1_hs, .int p1_words, V_p1_learnt]), (A_p1_sizes, iA g 6 p1_sizes), (A_th_digits, iA g 30 th_digits), (A_p1_breaks, iA g 6 p1_breaks), (A_th_good, iA g 270 f11), (A_th_index, oO 2 [V_th_index_numbers, V_th_index_codes, .ref A_th_index_fits, V_th_index_known, V_th_index_starts, V_th_index_signs, V_th_index_size]), (A_th_index_fits, iA g 270 th_index_fits), (A_th_bad, iA g 270 f12)] [(0, .ref A_th), (1, .ref A_p1), (2, .int n2), (4, .int n4), (5, .int y1), (6, .int x9), (7, .int x5), (8, .int x10), (11, .int x20)] 175 [] := by
                  intro  hm
                  have hm := hk22 hm
                  refine b_aload_n C dX5_countWords_175 rfl 0 rfl ?_
                  refine b_aload_n C dX5_countWords_176 rfl 0 rfl ?_
                  refine gfX5_18 C 0 rfl rfl dX5_countWords_177 ?_
                  refine b_iload C dX5_countWords_180 8 rfl ?_
                  refine b_iload C dX5_countWords_182 3 rfl ?_
                  obtain ⟨f23, hM, hm⟩ := bK1_some hm
                  refine b_kV (w' := [(A_th, oO 4 [.ref A_th_index, V_th_levels, .ref A_th_good, .ref A_th_bad, .ref A_th_digits]), (A_p1, oO 6 [V_p1_letters, .ref A_p1_breaks, .ref A_p1_sizes, V_p1_rules, V_p1_hs, .int p1_words, V_p1_learnt]), (A_p1_sizes, iA g 6 p1_sizes), (A_th_digits, iA g 30 th_digits), (A_p1_breaks, iA g 6 p1_breaks), (A_th_good, iA g 270 f11), (A_th_index, oO 2 [V_th_index_numbers, V_th_index_codes, .ref A_th_index_fits, V_th_index_known, V_th_index_starts, V_th_index_signs, V_th_index_size]), (A_th_index_fits, iA g 270 th_index_fits), (A_th_bad, iA g 270 f23)]) (st := []) (st2 := []) C cv_X5_countPlace tb454 (c_X5_countPlace l g A_th A_th_bad A_th_index A_th_index_fits V_th_levels (.ref A_th_good) (.ref A_th_bad) (.ref A_th_digits) V_th_index_numbers V_th_index_codes V_th_index_known V_th_index_starts V_th_index_signs V_th_index_size x20 n4 f12 th_index_fits F f23 hM) rfl 0 rfl rfl ⟨rfl, rfl, by decide, by decide⟩ (Nat.le_of_ble_eq_true rfl) [0, 8, 6, 7] rfl (by decide) rfl rfl dX5_countWords_184 [some 0, none, none, none, none, none, some 2, some 3, some 1] (by decide) ⟨⟨rfl, rfl⟩, ⟨rfl, ⟨rfl, ⟨rfl, ⟨rfl, ⟨rfl, ⟨⟨rfl, rfl⟩, ⟨⟨rfl, rfl⟩, ⟨⟨rfl, rfl⟩, trivial⟩⟩⟩⟩⟩⟩⟩⟩⟩ rfl ?_
                  refine b_iinc (v2 := x10 + 1) (lv' := [(8, .int (x10 + 1)), (0, .ref A_th), (1, .ref A_p1), (2, .int n2), (4, .int n4), (5, .int y1), (6, .int x9), (7, .int x5), (11, .int x20)]) C dX5_countWords_187 7 rfl rfl (by decide) rfl ?_
                  refine b_goto (tgt := 44) C dX5_countWords_190 (by decide) ?_
                  exact Wb.lv (hc8 x9 (x10 + 1) f11 f23 hm) [1, 2, 3, 4, 5, 6, 7, 0] rfl
                refine b_if_eq (tgt := 170) C dX5_countWords_159 (by decide) hm (fun hm => ?_) (fun hm => ?_)
                · refine b_iload C dX5_countWords_170 8 rfl ?_
                  refine b_if_eq (tgt := 187) C dX5_countWords_172 (by decide) hm (fun hm => ?_) (fun hm => ?_)
                  · refine b_iinc (v2 := x10 + 1) (lv' := [(8, .int (x10 + 1)), (0, .ref A_th), (1, .ref A_p1), (2, .int n2), (4, .int n4), (5, .int y1), (6, .int x9), (7, .int x5), (9, .int y15), (10, .int y18), (11, .int x20)]) C dX5_countWords_187 7 rfl rfl (by decide) rfl ?_
                    refine b_goto (tgt := 44) C dX5_countWords_190 (by decide) ?_
                    exact Wb.lv (hc8 x9 (x10 + 1) f11 f12 hm) [1, 2, 3, 4, 5, 6, 7, 0] rfl
                  · exact Wb.lv (jk22  hm) [0, 1, 2, 3, 4, 5, 6, 7, 10] rfl
                · refine b_iload C dX5_countWords_162 9 rfl ?_
                  refine b_if_ne (tgt := 187) C dX5_countWords_164 (by decide) hm (fun hm => ?_) (fun hm => ?_)
                  · refine b_iinc (v2 := x10 + 1) (lv' := [(8, .int (x10 + 1)), (0, .ref A_th), (1, .ref A_p1), (2, .int n2), (4, .int n4), (5, .int y1), (6, .int x9), (7, .int x5), (9, .int y15), (10, .int y18), (11, .int x20)]) C dX5_countWords_187 7 rfl rfl (by decide) rfl ?_
                    refine b_goto (tgt := 44) C dX5_countWords_190 (by decide) ?_
                    exact Wb.lv (hc8 x9 (x10 + 1) f11 f12 hm) [1, 2, 3, 4, 5, 6, 7, 0] rfl
                  · refine b_goto (tgt := 175) C dX5_countWords_167 (by decide) ?_
                    exact Wb.lv (jk22  hm) [0, 1, 2, 3, 4, 5, 6, 7, 10] rfl
              obtain ⟨k24, hk24, hm⟩ := jn0_some hm
              have jk24 : k24  = some u → Wb x [(A_th, oO 4 [.ref A_th_index, V_th_levels, .ref A_th_good, .ref A_th_bad, .ref A_th_digits]), (A_p1, oO 6 [V_p1_letters, .ref A_p1_breaks, .ref A_p1_sizes, V_p1_rules, V_p1_hs, .int p1_words, V_p1_learnt]), (A_p1_sizes, iA g 6 p1_sizes), (A_th_digits, iA g 30 th_digits), (A_p1_breaks, iA g 6 p1_breaks), (A_th_good, iA g 270 f11), (A_th_index, oO 2 [V_th_index_numbers, V_th_index_codes, .ref A_th_index_fits, V_th_index_known, V_th_index_starts, V_th_index_signs, V_th_index_size]), (A_th_index_fits, iA g 270 th_index_fits), (A_th_bad, iA g 270 f12)] [(0, .ref A_th), (1, .ref A_p1), (2, .int n2), (4, .int n4), (5, .int y1), (7, .int x5), (8, .int x10), (11, .int x20)] 139 [] := by
                intro  hm
                have hm := hk24 hm
                refine b_aload_n C dX5_countWords_139 rfl 0 rfl ?_
                refine b_aload_n C dX5_countWords_140 rfl 0 rfl ?_
                refine gfX5_15 C 0 rfl rfl dX5_countWords_141 ?_
                refine b_iload C dX5_countWords_144 7 rfl ?_
                refine b_iload C dX5_countWords_146 3 rfl ?_
                obtain ⟨f25, hM, hm⟩ := bK1_some hm
                refine b_kV (w' := [(A_th, oO 4 [.ref A_th_index, V_th_levels, .ref A_th_good, .ref A_th_bad, .ref A_th_digits]), (A_p1, oO 6 [V_p1_letters, .ref A_p1_breaks, .ref A_p1_sizes, V_p1_rules, V_p1_hs, .int p1_words, V_p1_learnt]), (A_p1_sizes, iA g 6 p1_sizes), (A_th_digits, iA g 30 th_digits), (A_p1_breaks, iA g 6 p1_breaks), (A_th_good, iA g 270 f25), (A_th_index, oO 2 [V_th_index_numbers, V_th_index_codes, .ref A_th_index_fits, V_th_index_known, V_th_index_starts, V_th_index_signs, V_th_index_size]), (A_th_index_fits, iA g 270 th_index_fits), (A_th_bad, iA g 270 f12)]) (st := []) (st2 := []) C cv_X5_countPlace tb454 (c_X5_countPlace l g A_th A_th_good A_th_index A_th_index_fits V_th_levels (.ref A_th_good) (.ref A_th_bad) (.ref A_th_digits) V_th_index_numbers V_th_index_codes V_th_index_known V_th_index_starts V_th_index_signs V_th_index_size x20 n4 f11 th_index_fits F f25 hM) rfl 0 rfl rfl ⟨rfl, rfl, by decide, by decide⟩ (Nat.le_of_ble_eq_true rfl) [0, 5, 6, 7] rfl (by decide) rfl rfl dX5_countWords_148 [some 0, none, none, none, none, some 1, some 2, some 3, none] (by decide) ⟨⟨rfl, rfl⟩, ⟨rfl, ⟨rfl, ⟨rfl, ⟨rfl, ⟨⟨rfl, rfl⟩, ⟨⟨rfl, rfl⟩, ⟨⟨rfl, rfl⟩, ⟨rfl, trivial⟩⟩⟩⟩⟩⟩⟩⟩⟩ rfl ?_
                refine b_iconst (v := 1) C dX5_countWords_151 (by decide) ?_
                refine b_istore (lv' := [(6, .int 1), (0, .ref A_th), (1, .ref A_p1), (2, .int n2), (4, .int n4), (5, .int y1), (7, .int x5), (8, .int x10), (11, .int x20)]) C dX5_countWords_152 (by decide) rfl ?_
                refine b_goto (tgt := 187) C dX5_countWords_154 (by decide) ?_
                refine b_iinc (v2 := x10 + 1) (lv' := [(8, .int (x10 + 1)), (6, .int 1), (0, .ref A_th), (1, .ref A_p1), (2, .int n2), (4, .int n4), (5, .int y1), (7, .int x5), (11, .int x20)]) C dX5_countWords_187 7 rfl rfl (by decide) rfl ?_
                refine b_goto (tgt := 44) C dX5_countWords_190 (by decide) ?_
                exact Wb.lv (hc8 1 (x10 + 1) f25 f12 hm) [2, 3, 4, 5, 6, 1, 7, 0] rfl
              refine b_if_eq (tgt := 129) C dX5_countWords_113 (by decide) hm (fun hm => ?_) (fun hm => ?_)
              · refine b_iload C dX5_countWords_129 10 rfl ?_
                refine b_if_eq (tgt := 157) C dX5_countWords_131 (by decide) hm (fun hm => ?_) (fun hm => ?_)
                · exact Wb.lv (jk21  hm) [2, 3, 4, 5, 6, 7, 8, 9, 10, 1, 0] rfl
                · refine b_iload C dX5_countWords_134 1 rfl ?_
                  refine b_if_ne (tgt := 157) C dX5_countWords_136 (by decide) hm (fun hm => ?_) (fun hm => ?_)
                  · exact Wb.lv (jk21  hm) [2, 3, 4, 5, 6, 7, 8, 9, 10, 1, 0] rfl
                  · exact Wb.lv (jk24  hm) [2, 3, 4, 5, 6, 8, 9, 0] rfl
              · refine b_iload C dX5_countWords_116 1 rfl ?_
                refine b_if_eq (tgt := 157) C dX5_countWords_118 (by decide) hm (fun hm => ?_) (fun hm => ?_)
                · exact Wb.lv (jk21  hm) [2, 3, 4, 5, 6, 7, 8, 9, 10, 1, 0] rfl
                · refine b_iload C dX5_countWords_121 10 rfl ?_
                  refine b_if_ne (tgt := 157) C dX5_countWords_123 (by decide) hm (fun hm => ?_) (fun hm => ?_)
                  · exact Wb.lv (jk21  hm) [2, 3, 4, 5, 6, 7, 8, 9, 10, 1, 0] rfl
                  · refine b_goto (tgt := 139) C dX5_countWords_126 (by decide) ?_
                    exact Wb.lv (jk24  hm) [2, 3, 4, 5, 6, 8, 9, 0] rfl
            refine b_icmp_ne (tgt := 99) C dX5_countWords_92 (by decide) hm (fun hm => ?_) (fun hm => ?_)
            · refine b_iconst (v := 0) C dX5_countWords_99 (by decide) ?_
              exact Wb.lv (jk19 0 hm) [1, 2, 3, 4, 5, 6, 7, 8, 0] rfl
            · refine b_iconst (v := 1) C dX5_countWords_95 (by decide) ?_
              refine b_goto (tgt := 100) C dX5_countWords_96 (by decide) ?_
              exact Wb.lv (jk19 1 hm) [1, 2, 3, 4, 5, 6, 7, 8, 0] rfl
          refine b_icmp_ne (tgt := 76) C dX5_countWords_69 (by decide) hm (fun hm => ?_) (fun hm => ?_)
          · refine b_iconst (v := 0) C dX5_countWords_76 (by decide) ?_
            exact Wb.lv (jk16 0 hm) [0, 1, 2, 3, 4, 5, 6, 7] rfl
          · refine b_iconst (v := 1) C dX5_countWords_72 (by decide) ?_
            refine b_goto (tgt := 77) C dX5_countWords_73 (by decide) ?_
            exact Wb.lv (jk16 1 hm) [0, 1, 2, 3, 4, 5, 6, 7] rfl
      · refine b_goto (tgt := 193) C dX5_countWords_38 (by decide) ?_
        refine b_iinc (v2 := x5 + 1) (lv' := [(7, .int (x5 + 1)), (0, .ref A_th), (1, .ref A_p1), (2, .int n2), (4, .int n4), (5, .int y1), (6, .int x4)]) C dX5_countWords_193 6 rfl rfl (by decide) rfl ?_
        refine b_goto (tgt := 20) C dX5_countWords_196 (by decide) ?_
        exact Wb.lv (hc3 x4 (x5 + 1) f6 f7 hm) [1, 2, 3, 4, 5, 6, 0] rfl
  refine b_icmp_ne (tgt := 11) C dX5_countWords_4 (by decide) hm (fun hm => ?_) (fun hm => ?_)
  · refine b_iconst (v := 0) C dX5_countWords_11 (by decide) ?_
    exact Wb.lv (jk2 0 hm) [0, 1, 2, 4] rfl
  · refine b_iconst (v := 1) C dX5_countWords_7 (by decide) ?_
    refine b_goto (tgt := 12) C dX5_countWords_8 (by decide) ?_
    exact Wb.lv (jk2 1 hm) [0, 1, 2, 4] rfl
/-- BreakLearner$Learning.isKept(IIII)Z -/
def m_X5_isKept (F : Nat)  (n1 : Int32) (n2 : Int32) (n3 : Int32) (n4 : Int32)  : Option (Int32) :=
  if 1 ≤ n3 then
    if n1 = 0 then
      if (n3 - n4) < n2 then
        some 0
      else
        some 1
    else
      if n1 = 1 then
        if n4 = 0 then
          if n3 < n2 then
            some 0
          else
            some 1
        else
          some 0
      else
        if n3 < ((n2 * n4) + n2) then
          some 0
        else
          some 1
  else
    some 0
abbrev rmX5_isKept : Room := { frames := 0, cells := 0, slots := 0, locals := 0 }
set_option maxHeartbeats 4000000 in
set_option maxRecDepth 100000 in
theorem c_X5_isKept (l : Launch) (g : Gl)  (n1 : Int32) (n2 : Int32) (n3 : Int32) (n4 : Int32)  (F : Nat) (u : Int32) (hm : m_X5_isKept F n1 n2 n3 n4 = some u) : Ct l g yX5_isKept cX5_isKept 4 (some .boolean) rmX5_isKept [.int n1, .int n2, .int n3, .int n4] [] (some (.int u)) [] := by
  refine ent (own := RX5) (lv := [(0, .int n1), (1, .int n2), (2, .int n3), (3, .int n4)]) (by decide) rfl (Nat.le_of_ble_eq_true rfl) rfl rfl ?_
  intro x C
  unfold m_X5_isKept at hm
  refine b_iload_n C dX5_isKept_0 rfl 2 rfl ?_
  refine b_iconst (v := 1) C dX5_isKept_1 (by decide) ?_
  refine b_icmp_ge (tgt := 7) C dX5_isKept_2 (by decide) hm (fun hm => ?_) (fun hm => ?_)
  · refine b_iload_n C dX5_isKept_7 rfl 0 rfl ?_
    rcases sw_some hm with ⟨h1, hm⟩ | ⟨h1, hm⟩
    · refine b_look (off := 28) (tgt := 36) C dX5_isKept_8 (by decide) (by rw [h1]; decide) (by decide) ?_
      refine b_iload_n C dX5_isKept_36 rfl 2 rfl ?_
      refine b_iload_n C dX5_isKept_37 rfl 3 rfl ?_
      refine b_isub C dX5_isKept_38 ?_
      refine b_iload_n C dX5_isKept_39 rfl 1 rfl ?_
      refine b_icmp_lt (tgt := 47) C dX5_isKept_40 (by decide) hm (fun hm => ?_) (fun hm => ?_)
      · refine b_iconst (v := 0) C dX5_isKept_47 (by decide) ?_
        cases hm
        exact b_zret (v := 0) C (by decide) dX5_isKept_48
      · refine b_iconst (v := 1) C dX5_isKept_43 (by decide) ?_
        refine b_goto (tgt := 48) C dX5_isKept_44 (by decide) ?_
        cases hm
        exact b_zret (v := 1) C (by decide) dX5_isKept_48
    · rcases sw_some hm with ⟨h2, hm⟩ | ⟨h2, hm⟩
      · refine b_look (off := 41) (tgt := 49) C dX5_isKept_8 (by decide) (by rw [h2]; decide) (by decide) ?_
        refine b_iload_n C dX5_isKept_49 rfl 3 rfl ?_
        refine b_if_ne (tgt := 62) C dX5_isKept_50 (by decide) hm (fun hm => ?_) (fun hm => ?_)
        · refine b_iconst (v := 0) C dX5_isKept_62 (by decide) ?_
          cases hm
          exact b_zret (v := 0) C (by decide) dX5_isKept_63
        · refine b_iload_n C dX5_isKept_53 rfl 2 rfl ?_
          refine b_iload_n C dX5_isKept_54 rfl 1 rfl ?_
          refine b_icmp_lt (tgt := 62) C dX5_isKept_55 (by decide) hm (fun hm => ?_) (fun hm => ?_)
          · refine b_iconst (v := 0) C dX5_isKept_62 (by decide) ?_
            cases hm
            exact b_zret (v := 0) C (by decide) dX5_isKept_63
          · refine b_iconst (v := 1) C dX5_isKept_58 (by decide) ?_
            refine b_goto (tgt := 63) C dX5_isKept_59 (by decide) ?_
            cases hm
            exact b_zret (v := 1) C (by decide) dX5_isKept_63
      · refine b_look (off := 56) (tgt := 64) C dX5_isKept_8 (by decide) (by refine (lv_osw h1 (by decide)).trans ?_; refine (lv_osw h2 (by decide)).trans ?_; rfl) (by decide) ?_
        refine b_iload_n C dX5_isKept_64 rfl 2 rfl ?_
        refine b_iload_n C dX5_isKept_65 rfl 1 rfl ?_
        refine b_iload_n C dX5_isKept_66 rfl 3 rfl ?_
        refine b_imul C dX5_isKept_67 ?_
        refine b_iload_n C dX5_isKept_68 rfl 1 rfl ?_
        refine b_iadd C dX5_isKept_69 ?_
        refine b_icmp_lt (tgt := 77) C dX5_isKept_70 (by decide) hm (fun hm => ?_) (fun hm => ?_)
        · refine b_iconst (v := 0) C dX5_isKept_77 (by decide) ?_
          cases hm
          exact b_zret (v := 0) C (by decide) dX5_isKept_78
        · refine b_iconst (v := 1) C dX5_isKept_73 (by decide) ?_
          refine b_goto (tgt := 78) C dX5_isKept_74 (by decide) ?_
          cases hm
          exact b_zret (v := 1) C (by decide) dX5_isKept_78
  · refine b_iconst (v := 0) C dX5_isKept_5 (by decide) ?_
    cases hm
    exact b_zret (v := 0) C (by decide) dX5_isKept_6
/-- BreakLearner$Learning.keepPatterns(LBreakLearner$Stock;II)V -/
def m_X5_keepPatterns (F : Nat)  (n2 : Int32) (n3 : Int32) (th_index_starts : (Nat → Int32)) (p1_rules : (Nat → Int32)) (p1_hs : (Nat → Int32)) (th_good : (Nat → Int32)) (th_bad : (Nat → Int32)) (th_levels : (Nat → Int32)) : Option ((Nat → Int32)) :=
  rdK 5 th_index_starts n3 (fun v1 =>
  wl2 (fun (x3 : Int32) (f4 : (Nat → Int32)) c2 =>
    rdK 5 th_index_starts (n3 + 1) (fun v5 =>
    if v5 ≤ x3 then
      some f4
    else
      rdK 5 p1_rules n2 (fun v6 =>
      rdK 5 p1_hs n2 (fun v7 =>
      rdK 270 th_good x3 (fun v8 =>
      rdK 270 th_bad x3 (fun v9 =>
      bK1 (m_X5_isKept F v6 v7 v8 v9) (fun r10 =>
      if r10 = 0 then
        c2 (x3 + 1) f4
      else
        stK 270 f4 x3 n2 (fun f11 =>
        c2 (x3 + 1) f11
        )
      )
      )
      )
      )
      )
    )
    ) F v1 th_levels
  )
abbrev rmX5_keepPatterns : Room := { frames := 1, cells := 0, slots := 0, locals := 23 }
set_option maxHeartbeats 4000000 in
set_option maxRecDepth 100000 in
theorem c_X5_keepPatterns (l : Launch) (g : Gl) (A_th A_p1 A_th_index A_th_index_starts A_p1_rules A_p1_hs A_th_good A_th_bad A_th_levels : Nat) (V_th_digits V_p1_letters V_p1_breaks V_p1_sizes V_p1_words V_p1_learnt V_th_index_numbers V_th_index_codes V_th_index_fits V_th_index_known V_th_index_signs V_th_index_size : Value)  (n2 : Int32) (n3 : Int32) (th_index_starts : (Nat → Int32)) (p1_rules : (Nat → Int32)) (p1_hs : (Nat → Int32)) (th_good : (Nat → Int32)) (th_bad : (Nat → Int32)) (th_levels : (Nat → Int32)) (F : Nat) (u : (Nat → Int32)) (hm : m_X5_keepPatterns F n2 n3 th_index_starts p1_rules p1_hs th_good th_bad th_levels = some u) : Ct l g yX5_keepPatterns cX5_keepPatterns 5 none rmX5_keepPatterns [.ref A_th, .ref A_p1, .int n2, .int n3] [(A_th, oO 4 [.ref A_th_index, .ref A_th_levels, .ref A_th_good, .ref A_th_bad, V_th_digits]), (A_p1, oO 6 [V_p1_letters, V_p1_breaks, V_p1_sizes, .ref A_p1_rules, .ref A_p1_hs, V_p1_words, V_p1_learnt]), (A_th_index, oO 2 [V_th_index_numbers, V_th_index_codes, V_th_index_fits, V_th_index_known, .ref A_th_index_starts, V_th_index_signs, V_th_index_size]), (A_th_index_starts, iA g 5 th_index_starts), (A_p1_rules, iA g 5 p1_rules), (A_p1_hs, iA g 5 p1_hs), (A_th_good, iA g 270 th_good), (A_th_bad, iA g 270 th_bad), (A_th_levels, iA g 270 th_levels)] none [(A_th, oO 4 [.ref A_th_index, .ref A_th_levels, .ref A_th_good, .ref A_th_bad, V_th_digits]), (A_p1, oO 6 [V_p1_letters, V_p1_breaks, V_p1_sizes, .ref A_p1_rules, .ref A_p1_hs, V_p1_words, V_p1_learnt]), (A_th_index, oO 2 [V_th_index_numbers, V_th_index_codes, V_th_index_fits, V_th_index_known, .ref A_th_index_starts, V_th_index_signs, V_th_index_size]), (A_th_index_starts, iA g 5 th_index_starts), (A_p1_rules, iA g 5 p1_rules), (A_p1_hs, iA g 5 p1_hs), (A_th_good, iA g 270 th_good), (A_th_bad, iA g 270 th_bad), (A_th_levels, iA g 270 u)] := by
  refine ent (own := RX5) (lv := [(0, .ref A_th), (1, .ref A_p1), (2, .int n2), (3, .int n3)]) (by decide) rfl (Nat.le_of_ble_eq_true rfl) rfl rfl ?_
  intro x C
  unfold m_X5_keepPatterns at hm
  refine b_aload_n C dX5_keepPatterns_0 rfl 0 rfl ?_
  refine gfX5_24 C 0 rfl rfl dX5_keepPatterns_1 ?_
  refine gfX5_82 C 2 rfl rfl dX5_keepPatterns_4 ?_
  refine b_iload_n C dX5_keepPatterns_7 rfl 3 rfl ?_
  refine b_iald C 3 rfl dX5_keepPatterns_8 hm (fun v1 hm => ?_)
  refine b_istore (lv' := [(4, .int v1), (0, .ref A_th), (1, .ref A_p1), (2, .int n2), (3, .int n3)]) C dX5_keepPatterns_9 (by decide) rfl ?_
  refine Wb.lv (lv' := [(0, .ref A_th), (1, .ref A_p1), (2, .int n2), (3, .int n3), (4, .int v1)]) ?_ [1, 2, 3, 4, 0] rfl
  refine wl2_W (Wg := fun (x3 : Int32) (f4 : (Nat → Int32)) => Wb x [(A_th, oO 4 [.ref A_th_index, .ref A_th_levels, .ref A_th_good, .ref A_th_bad, V_th_digits]), (A_p1, oO 6 [V_p1_letters, V_p1_breaks, V_p1_sizes, .ref A_p1_rules, .ref A_p1_hs, V_p1_words, V_p1_learnt]), (A_th_index, oO 2 [V_th_index_numbers, V_th_index_codes, V_th_index_fits, V_th_index_known, .ref A_th_index_starts, V_th_index_signs, V_th_index_size]), (A_th_index_starts, iA g 5 th_index_starts), (A_p1_rules, iA g 5 p1_rules), (A_p1_hs, iA g 5 p1_hs), (A_th_good, iA g 270 th_good), (A_th_bad, iA g 270 th_bad), (A_th_levels, iA g 270 f4)] [(0, .ref A_th), (1, .ref A_p1), (2, .int n2), (3, .int n3), (4, .int x3)] 11 []) ?_ F v1 th_levels hm
  intro x3 f4 c2 hc2 hm
  refine b_iload C dX5_keepPatterns_11 4 rfl ?_
  refine b_aload_n C dX5_keepPatterns_13 rfl 0 rfl ?_
  refine gfX5_24 C 0 rfl rfl dX5_keepPatterns_14 ?_
  refine gfX5_82 C 2 rfl rfl dX5_keepPatterns_17 ?_
  refine b_iload_n C dX5_keepPatterns_20 rfl 3 rfl ?_
  refine b_iconst (v := 1) C dX5_keepPatterns_21 (by decide) ?_
  refine b_iadd C dX5_keepPatterns_22 ?_
  refine b_iald C 3 rfl dX5_keepPatterns_23 hm (fun v5 hm => ?_)
  refine b_icmp_ge (tgt := 73) C dX5_keepPatterns_24 (by decide) hm (fun hm => ?_) (fun hm => ?_)
  · cases hm
    exact b_vret C dX5_keepPatterns_73
  · refine b_aload_n C dX5_keepPatterns_27 rfl 1 rfl ?_
    refine gfX5_85 C 1 rfl rfl dX5_keepPatterns_28 ?_
    refine b_iload_n C dX5_keepPatterns_31 rfl 2 rfl ?_
    refine b_iald C 4 rfl dX5_keepPatterns_32 hm (fun v6 hm => ?_)
    refine b_aload_n C dX5_keepPatterns_33 rfl 1 rfl ?_
    refine gfX5_88 C 1 rfl rfl dX5_keepPatterns_34 ?_
    refine b_iload_n C dX5_keepPatterns_37 rfl 2 rfl ?_
    refine b_iald C 5 rfl dX5_keepPatterns_38 hm (fun v7 hm => ?_)
    refine b_aload_n C dX5_keepPatterns_39 rfl 0 rfl ?_
    refine gfX5_15 C 0 rfl rfl dX5_keepPatterns_40 ?_
    refine b_iload C dX5_keepPatterns_43 4 rfl ?_
    refine b_iald C 6 rfl dX5_keepPatterns_45 hm (fun v8 hm => ?_)
    refine b_aload_n C dX5_keepPatterns_46 rfl 0 rfl ?_
    refine gfX5_18 C 0 rfl rfl dX5_keepPatterns_47 ?_
    refine b_iload C dX5_keepPatterns_50 4 rfl ?_
    refine b_iald C 7 rfl dX5_keepPatterns_52 hm (fun v9 hm => ?_)
    obtain ⟨r10, hM, hm⟩ := bK1_some hm
    refine b_kS (w' := [(A_th, oO 4 [.ref A_th_index, .ref A_th_levels, .ref A_th_good, .ref A_th_bad, V_th_digits]), (A_p1, oO 6 [V_p1_letters, V_p1_breaks, V_p1_sizes, .ref A_p1_rules, .ref A_p1_hs, V_p1_words, V_p1_learnt]), (A_th_index, oO 2 [V_th_index_numbers, V_th_index_codes, V_th_index_fits, V_th_index_known, .ref A_th_index_starts, V_th_index_signs, V_th_index_size]), (A_th_index_starts, iA g 5 th_index_starts), (A_p1_rules, iA g 5 p1_rules), (A_p1_hs, iA g 5 p1_hs), (A_th_good, iA g 270 th_good), (A_th_bad, iA g 270 th_bad), (A_th_levels, iA g 270 f4)]) (st := []) (st2 := [.int r10]) C cs_X5_isKept tb463 (c_X5_isKept l g v6 v7 v8 v9 F r10 hM) rfl ⟨rfl, rfl, by decide, by decide⟩ (Nat.le_of_ble_eq_true rfl) [] rfl (by decide) rfl rfl dX5_keepPatterns_53 [none, none, none, none, none, none, none, none, none] (by decide) ⟨rfl, ⟨rfl, ⟨rfl, ⟨rfl, ⟨rfl, ⟨rfl, ⟨rfl, ⟨rfl, ⟨rfl, trivial⟩⟩⟩⟩⟩⟩⟩⟩⟩ rfl ?_
    refine b_if_eq (tgt := 67) C dX5_keepPatterns_56 (by decide) hm (fun hm => ?_) (fun hm => ?_)
    · refine b_iinc (v2 := x3 + 1) (lv' := [(4, .int (x3 + 1)), (0, .ref A_th), (1, .ref A_p1), (2, .int n2), (3, .int n3)]) C dX5_keepPatterns_67 4 rfl rfl (by decide) rfl ?_
      refine b_goto (tgt := 11) C dX5_keepPatterns_70 (by decide) ?_
      exact Wb.lv (hc2 (x3 + 1) f4 hm) [1, 2, 3, 4, 0] rfl
    · refine b_aload_n C dX5_keepPatterns_59 rfl 0 rfl ?_
      refine gfX5_9 C 0 rfl rfl dX5_keepPatterns_60 ?_
      refine b_iload C dX5_keepPatterns_63 4 rfl ?_
      refine b_iload_n C dX5_keepPatterns_65 rfl 2 rfl ?_
      refine b_iast C 8 rfl dX5_keepPatterns_66 hm (fun f11 hm => Wb.to (w' := [(A_th, oO 4 [.ref A_th_index, .ref A_th_levels, .ref A_th_good, .ref A_th_bad, V_th_digits]), (A_p1, oO 6 [V_p1_letters, V_p1_breaks, V_p1_sizes, .ref A_p1_rules, .ref A_p1_hs, V_p1_words, V_p1_learnt]), (A_th_index, oO 2 [V_th_index_numbers, V_th_index_codes, V_th_index_fits, V_th_index_known, .ref A_th_index_starts, V_th_index_signs, V_th_index_size]), (A_th_index_starts, iA g 5 th_index_starts), (A_p1_rules, iA g 5 p1_rules), (A_p1_hs, iA g 5 p1_hs), (A_th_good, iA g 270 th_good), (A_th_bad, iA g 270 th_bad), (A_th_levels, iA g 270 f11)]) rfl ?_)
      refine b_iinc (v2 := x3 + 1) (lv' := [(4, .int (x3 + 1)), (0, .ref A_th), (1, .ref A_p1), (2, .int n2), (3, .int n3)]) C dX5_keepPatterns_67 4 rfl rfl (by decide) rfl ?_
      refine b_goto (tgt := 11) C dX5_keepPatterns_70 (by decide) ?_
      exact Wb.lv (hc2 (x3 + 1) f11 hm) [1, 2, 3, 4, 0] rfl
/-- BreakLearner$Learning.raiseDigits(LBreakLearner$Stock;II)V -/
def m_X5_raiseDigits (F : Nat)  (n2 : Int32) (n3 : Int32) (p1_words : Int32) (p1_sizes : (Nat → Int32)) (th_index_fits : (Nat → Int32)) (th_levels : (Nat → Int32)) (th_digits : (Nat → Int32)) : Option ((Nat → Int32)) :=
  wl2 (fun (x2 : Int32) (f3 : (Nat → Int32)) c1 =>
    if p1_words ≤ x2 then
      some f3
    else
      wl2 (fun (x5 : Int32) (f6 : (Nat → Int32)) c4 =>
        rdK 6 p1_sizes x2 (fun v7 =>
        if (v7 - 1) ≤ x5 then
          c1 (x2 + 1) f6
        else
          letK ((x2 * 5) + x5) (fun x8 =>
          rdK 5 kFirst n3 (fun v9 =>
          wl2 (fun (x11 : Int32) (f12 : (Nat → Int32)) c10 =>
            rdK 5 kFirst (n3 + 1) (fun v13 =>
            if v13 ≤ x11 then
              c4 (x5 + 1) f12
            else
              rdK 270 th_index_fits ((x8 * 9) + x11) (fun v14 =>
              if v14 < 0 then
                c10 (x11 + 1) f12
              else
                rdK 270 th_levels v14 (fun v15 =>
                if v15 = n2 then
                  stK 30 f12 x8 n2 (fun f16 =>
                  c10 (x11 + 1) f16
                  )
                else
                  c10 (x11 + 1) f12
                )
              )
            )
            ) F v9 f6
          )
          )
        )
        ) F 0 f3
    ) F 0 th_digits
abbrev rmX5_raiseDigits : Room := { frames := 0, cells := 0, slots := 0, locals := 0 }
set_option maxHeartbeats 4000000 in
set_option maxRecDepth 100000 in
theorem c_X5_raiseDigits (l : Launch) (g : Gl) (A_th A_p1 A_p1_sizes A_th_index A_th_index_fits A_th_levels A_th_digits : Nat) (V_th_good V_th_bad V_p1_letters V_p1_breaks V_p1_rules V_p1_hs V_p1_learnt V_th_index_numbers V_th_index_codes V_th_index_known V_th_index_starts V_th_index_signs V_th_index_size : Value)  (n2 : Int32) (n3 : Int32) (p1_words : Int32) (p1_sizes : (Nat → Int32)) (th_index_fits : (Nat → Int32)) (th_levels : (Nat → Int32)) (th_digits : (Nat → Int32)) (F : Nat) (u : (Nat → Int32)) (hm : m_X5_raiseDigits F n2 n3 p1_words p1_sizes th_index_fits th_levels th_digits = some u) : Ct l g yX5_raiseDigits cX5_raiseDigits 9 none rmX5_raiseDigits [.ref A_th, .ref A_p1, .int n2, .int n3] [(A_th, oO 4 [.ref A_th_index, .ref A_th_levels, V_th_good, V_th_bad, .ref A_th_digits]), (A_p1, oO 6 [V_p1_letters, V_p1_breaks, .ref A_p1_sizes, V_p1_rules, V_p1_hs, .int p1_words, V_p1_learnt]), (A_p1_sizes, iA g 6 p1_sizes), (A_th_index, oO 2 [V_th_index_numbers, V_th_index_codes, .ref A_th_index_fits, V_th_index_known, V_th_index_starts, V_th_index_signs, V_th_index_size]), (A_th_index_fits, iA g 270 th_index_fits), (A_th_levels, iA g 270 th_levels), (A_th_digits, iA g 30 th_digits)] none [(A_th, oO 4 [.ref A_th_index, .ref A_th_levels, V_th_good, V_th_bad, .ref A_th_digits]), (A_p1, oO 6 [V_p1_letters, V_p1_breaks, .ref A_p1_sizes, V_p1_rules, V_p1_hs, .int p1_words, V_p1_learnt]), (A_p1_sizes, iA g 6 p1_sizes), (A_th_index, oO 2 [V_th_index_numbers, V_th_index_codes, .ref A_th_index_fits, V_th_index_known, V_th_index_starts, V_th_index_signs, V_th_index_size]), (A_th_index_fits, iA g 270 th_index_fits), (A_th_levels, iA g 270 th_levels), (A_th_digits, iA g 30 u)] := by
  refine ent (own := RX5) (lv := [(0, .ref A_th), (1, .ref A_p1), (2, .int n2), (3, .int n3)]) (by decide) rfl (Nat.le_of_ble_eq_true rfl) rfl rfl ?_
  intro x C
  unfold m_X5_raiseDigits at hm
  refine b_iconst (v := 0) C dX5_raiseDigits_0 (by decide) ?_
  refine b_istore (lv' := [(4, .int 0), (0, .ref A_th), (1, .ref A_p1), (2, .int n2), (3, .int n3)]) C dX5_raiseDigits_1 (by decide) rfl ?_
  refine Wb.lv (lv' := [(0, .ref A_th), (1, .ref A_p1), (2, .int n2), (3, .int n3), (4, .int 0)]) ?_ [1, 2, 3, 4, 0] rfl
  refine wl2_W (Wg := fun (x2 : Int32) (f3 : (Nat → Int32)) => Wb x [(A_th, oO 4 [.ref A_th_index, .ref A_th_levels, V_th_good, V_th_bad, .ref A_th_digits]), (A_p1, oO 6 [V_p1_letters, V_p1_breaks, .ref A_p1_sizes, V_p1_rules, V_p1_hs, .int p1_words, V_p1_learnt]), (A_p1_sizes, iA g 6 p1_sizes), (A_th_index, oO 2 [V_th_index_numbers, V_th_index_codes, .ref A_th_index_fits, V_th_index_known, V_th_index_starts, V_th_index_signs, V_th_index_size]), (A_th_index_fits, iA g 270 th_index_fits), (A_th_levels, iA g 270 th_levels), (A_th_digits, iA g 30 f3)] [(0, .ref A_th), (1, .ref A_p1), (2, .int n2), (3, .int n3), (4, .int x2)] 3 []) ?_ F 0 th_digits hm
  intro x2 f3 c1 hc1 hm
  refine b_iload C dX5_raiseDigits_3 4 rfl ?_
  refine b_aload_n C dX5_raiseDigits_5 rfl 1 rfl ?_
  refine gfX5_59 C 1 rfl rfl dX5_raiseDigits_6 ?_
  refine b_icmp_ge (tgt := 117) C dX5_raiseDigits_9 (by decide) hm (fun hm => ?_) (fun hm => ?_)
  · cases hm
    exact b_vret C dX5_raiseDigits_117
  · refine b_iconst (v := 0) C dX5_raiseDigits_12 (by decide) ?_
    refine b_istore (lv' := [(5, .int 0), (0, .ref A_th), (1, .ref A_p1), (2, .int n2), (3, .int n3), (4, .int x2)]) C dX5_raiseDigits_13 (by decide) rfl ?_
    refine Wb.lv (lv' := [(0, .ref A_th), (1, .ref A_p1), (2, .int n2), (3, .int n3), (4, .int x2), (5, .int 0)]) ?_ [1, 2, 3, 4, 5, 0] rfl
    refine wl2_W (Wg := fun (x5 : Int32) (f6 : (Nat → Int32)) => Wb x [(A_th, oO 4 [.ref A_th_index, .ref A_th_levels, V_th_good, V_th_bad, .ref A_th_digits]), (A_p1, oO 6 [V_p1_letters, V_p1_breaks, .ref A_p1_sizes, V_p1_rules, V_p1_hs, .int p1_words, V_p1_learnt]), (A_p1_sizes, iA g 6 p1_sizes), (A_th_index, oO 2 [V_th_index_numbers, V_th_index_codes, .ref A_th_index_fits, V_th_index_known, V_th_index_starts, V_th_index_signs, V_th_index_size]), (A_th_index_fits, iA g 270 th_index_fits), (A_th_levels, iA g 270 th_levels), (A_th_digits, iA g 30 f6)] [(0, .ref A_th), (1, .ref A_p1), (2, .int n2), (3, .int n3), (4, .int x2), (5, .int x5)] 15 []) ?_ F 0 f3 hm
    intro x5 f6 c4 hc4 hm
    refine b_iload C dX5_raiseDigits_15 5 rfl ?_
    refine b_aload_n C dX5_raiseDigits_17 rfl 1 rfl ?_
    refine gfX5_62 C 1 rfl rfl dX5_raiseDigits_18 ?_
    refine b_iload C dX5_raiseDigits_21 4 rfl ?_
    refine b_iald C 2 rfl dX5_raiseDigits_23 hm (fun v7 hm => ?_)
    refine b_iconst (v := 1) C dX5_raiseDigits_24 (by decide) ?_
    refine b_isub C dX5_raiseDigits_25 ?_
    refine b_icmp_ge (tgt := 111) C dX5_raiseDigits_26 (by decide) hm (fun hm => ?_) (fun hm => ?_)
    · refine b_iinc (v2 := x2 + 1) (lv' := [(4, .int (x2 + 1)), (0, .ref A_th), (1, .ref A_p1), (2, .int n2), (3, .int n3), (5, .int x5)]) C dX5_raiseDigits_111 4 rfl rfl (by decide) rfl ?_
      refine b_goto (tgt := 3) C dX5_raiseDigits_114 (by decide) ?_
      exact Wb.lv (hc1 (x2 + 1) f6 hm) [1, 2, 3, 4, 0] rfl
    · refine b_iload C dX5_raiseDigits_29 4 rfl ?_
      refine b_iconst (v := 5) C dX5_raiseDigits_31 (by decide) ?_
      refine b_imul C dX5_raiseDigits_32 ?_
      refine b_iload C dX5_raiseDigits_33 5 rfl ?_
      refine b_iadd C dX5_raiseDigits_35 ?_
      refine b_topi hm (fun x8 hm => ?_)
      refine b_istore (lv' := [(6, .int x8), (0, .ref A_th), (1, .ref A_p1), (2, .int n2), (3, .int n3), (4, .int x2), (5, .int x5)]) C dX5_raiseDigits_36 (by decide) rfl ?_
      refine b_getsN0 C (by decide +kernel) dX5_raiseDigits_38 ?_
      refine b_iload_n C dX5_raiseDigits_41 rfl 4 rfl ?_
      refine b_tab0 C dX5_raiseDigits_42 hm (fun v9 hm => ?_)
      refine b_istore (lv' := [(7, .int v9), (6, .int x8), (0, .ref A_th), (1, .ref A_p1), (2, .int n2), (3, .int n3), (4, .int x2), (5, .int x5)]) C dX5_raiseDigits_43 (by decide) rfl ?_
      refine Wb.lv (lv' := [(0, .ref A_th), (1, .ref A_p1), (2, .int n2), (3, .int n3), (4, .int x2), (5, .int x5), (6, .int x8), (7, .int v9)]) ?_ [2, 3, 4, 5, 6, 7, 1, 0] rfl
      refine wl2_W (Wg := fun (x11 : Int32) (f12 : (Nat → Int32)) => Wb x [(A_th, oO 4 [.ref A_th_index, .ref A_th_levels, V_th_good, V_th_bad, .ref A_th_digits]), (A_p1, oO 6 [V_p1_letters, V_p1_breaks, .ref A_p1_sizes, V_p1_rules, V_p1_hs, .int p1_words, V_p1_learnt]), (A_p1_sizes, iA g 6 p1_sizes), (A_th_index, oO 2 [V_th_index_numbers, V_th_index_codes, .ref A_th_index_fits, V_th_index_known, V_th_index_starts, V_th_index_signs, V_th_index_size]), (A_th_index_fits, iA g 270 th_index_fits), (A_th_levels, iA g 270 th_levels), (A_th_digits, iA g 30 f12)] [(0, .ref A_th), (1, .ref A_p1), (2, .int n2), (3, .int n3), (4, .int x2), (5, .int x5), (6, .int x8), (7, .int x11)] 45 []) ?_ F v9 f6 hm
      intro x11 f12 c10 hc10 hm
      refine b_iload C dX5_raiseDigits_45 7 rfl ?_
      refine b_getsN0 C (by decide +kernel) dX5_raiseDigits_47 ?_
      refine b_iload_n C dX5_raiseDigits_50 rfl 3 rfl ?_
      refine b_iconst (v := 1) C dX5_raiseDigits_51 (by decide) ?_
      refine b_iadd C dX5_raiseDigits_52 ?_
      refine b_tab0 C dX5_raiseDigits_53 hm (fun v13 hm => ?_)
      refine b_icmp_ge (tgt := 105) C dX5_raiseDigits_54 (by decide) hm (fun hm => ?_) (fun hm => ?_)
      · refine b_iinc (v2 := x5 + 1) (lv' := [(5, .int (x5 + 1)), (0, .ref A_th), (1, .ref A_p1), (2, .int n2), (3, .int n3), (4, .int x2), (6, .int x8), (7, .int x11)]) C dX5_raiseDigits_105 5 rfl rfl (by decide) rfl ?_
        refine b_goto (tgt := 15) C dX5_raiseDigits_108 (by decide) ?_
        exact Wb.lv (hc4 (x5 + 1) f12 hm) [1, 2, 3, 4, 5, 0] rfl
      · refine b_aload_n C dX5_raiseDigits_57 rfl 0 rfl ?_
        refine gfX5_24 C 0 rfl rfl dX5_raiseDigits_58 ?_
        refine gfX5_79 C 3 rfl rfl dX5_raiseDigits_61 ?_
        refine b_iload C dX5_raiseDigits_64 6 rfl ?_
        refine b_bipush (v := 9) C dX5_raiseDigits_66 (by decide) ?_
        refine b_imul C dX5_raiseDigits_68 ?_
        refine b_iload C dX5_raiseDigits_69 7 rfl ?_
        refine b_iadd C dX5_raiseDigits_71 ?_
        refine b_iald C 4 rfl dX5_raiseDigits_72 hm (fun v14 hm => ?_)
        refine b_istore (lv' := [(8, .int v14), (0, .ref A_th), (1, .ref A_p1), (2, .int n2), (3, .int n3), (4, .int x2), (5, .int x5), (6, .int x8), (7, .int x11)]) C dX5_raiseDigits_73 (by decide) rfl ?_
        refine b_iload C dX5_raiseDigits_75 0 rfl ?_
        refine b_if_lt (tgt := 99) C dX5_raiseDigits_77 (by decide) hm (fun hm => ?_) (fun hm => ?_)
        · refine b_iinc (v2 := x11 + 1) (lv' := [(7, .int (x11 + 1)), (8, .int v14), (0, .ref A_th), (1, .ref A_p1), (2, .int n2), (3, .int n3), (4, .int x2), (5, .int x5), (6, .int x8)]) C dX5_raiseDigits_99 8 rfl rfl (by decide) rfl ?_
          refine b_goto (tgt := 45) C dX5_raiseDigits_102 (by decide) ?_
          exact Wb.lv (hc10 (x11 + 1) f12 hm) [2, 3, 4, 5, 6, 7, 8, 0] rfl
        · refine b_aload_n C dX5_raiseDigits_80 rfl 1 rfl ?_
          refine gfX5_9 C 0 rfl rfl dX5_raiseDigits_81 ?_
          refine b_iload C dX5_raiseDigits_84 0 rfl ?_
          refine b_iald C 5 rfl dX5_raiseDigits_86 hm (fun v15 hm => ?_)
          refine b_iload_n C dX5_raiseDigits_87 rfl 3 rfl ?_
          refine b_icmp_ne (tgt := 99) C dX5_raiseDigits_88 (by decide) hm (fun hm => ?_) (fun hm => ?_)
          · refine b_iinc (v2 := x11 + 1) (lv' := [(7, .int (x11 + 1)), (8, .int v14), (0, .ref A_th), (1, .ref A_p1), (2, .int n2), (3, .int n3), (4, .int x2), (5, .int x5), (6, .int x8)]) C dX5_raiseDigits_99 8 rfl rfl (by decide) rfl ?_
            refine b_goto (tgt := 45) C dX5_raiseDigits_102 (by decide) ?_
            exact Wb.lv (hc10 (x11 + 1) f12 hm) [2, 3, 4, 5, 6, 7, 8, 0] rfl
          · refine b_aload_n C dX5_raiseDigits_91 rfl 1 rfl ?_
            refine gfX5_21 C 0 rfl rfl dX5_raiseDigits_92 ?_
            refine b_iload C dX5_raiseDigits_95 7 rfl ?_
            refine b_iload_n C dX5_raiseDigits_97 rfl 3 rfl ?_
            refine b_iast C 6 rfl dX5_raiseDigits_98 hm (fun f16 hm => Wb.to (w' := [(A_th, oO 4 [.ref A_th_index, .ref A_th_levels, V_th_good, V_th_bad, .ref A_th_digits]), (A_p1, oO 6 [V_p1_letters, V_p1_breaks, .ref A_p1_sizes, V_p1_rules, V_p1_hs, .int p1_words, V_p1_learnt]), (A_p1_sizes, iA g 6 p1_sizes), (A_th_index, oO 2 [V_th_index_numbers, V_th_index_codes, .ref A_th_index_fits, V_th_index_known, V_th_index_starts, V_th_index_signs, V_th_index_size]), (A_th_index_fits, iA g 270 th_index_fits), (A_th_levels, iA g 270 th_levels), (A_th_digits, iA g 30 f16)]) rfl ?_)
            refine b_iinc (v2 := x11 + 1) (lv' := [(7, .int (x11 + 1)), (8, .int v14), (0, .ref A_th), (1, .ref A_p1), (2, .int n2), (3, .int n3), (4, .int x2), (5, .int x5), (6, .int x8)]) C dX5_raiseDigits_99 8 rfl rfl (by decide) rfl ?_
            refine b_goto (tgt := 45) C dX5_raiseDigits_102 (by decide) ?_
            exact Wb.lv (hc10 (x11 + 1) f16 hm) [2, 3, 4, 5, 6, 7, 8, 0] rfl
/-- BreakLearner$Learning.learnFrom(LBreakLearner$Stock;I)V -/
def m_X5_learnFrom (F : Nat)  (n2 : Int32) (p1_words : Int32) (p1_learnt : Int32) (th_levels : (Nat → Int32)) (th_index_known : Int32) (th_digits : (Nat → Int32)) (th_good : (Nat → Int32)) (th_bad : (Nat → Int32)) (p1_sizes : (Nat → Int32)) (p1_breaks : (Nat → Int32)) (th_index_fits : (Nat → Int32)) (p1_rules : (Nat → Int32)) (p1_hs : (Nat → Int32)) (th_index_starts : (Nat → Int32)) : Option ((Nat → Int32) × (Nat → Int32) × (Nat → Int32) × (Nat → Int32)) :=
  bK1 (m_J7_fill_fda19 F 270 0 th_index_known 0 th_levels) (fun f1 =>
  bK1 (m_J7_fill_53178 F 30 0 th_digits) (fun f2 =>
  wl5 (fun (x4 : Int32) (f5 : (Nat → Int32)) (f6 : (Nat → Int32)) (f7 : (Nat → Int32)) (f8 : (Nat → Int32)) c3 =>
    if p1_learnt < x4 then
      some (f5, f6, f7, f8)
    else
      bK1 (m_J7_fill_fda19 F 270 0 th_index_known 0 f7) (fun f9 =>
      bK1 (m_J7_fill_fda19 F 270 0 th_index_known 0 f8) (fun f10 =>
      wl5 (fun (x12 : Int32) (f13 : (Nat → Int32)) (f14 : (Nat → Int32)) (f15 : (Nat → Int32)) (f16 : (Nat → Int32)) c11 =>
        if 3 < x12 then
          c3 (x4 + 1) f13 f14 f15 f16
        else
          bK3 (m_X5_countWords F n2 x4 x12 p1_words p1_sizes f14 p1_breaks f15 th_index_fits f16) (fun r17 f18 f19 =>
          if r17 = 0 then
            c11 (x12 + 1) f13 f14 f18 f19
          else
            bK1 (m_X5_keepPatterns F x4 x12 th_index_starts p1_rules p1_hs f18 f19 f13) (fun f20 =>
            bK1 (m_X5_raiseDigits F x4 x12 p1_words p1_sizes th_index_fits f20 f14) (fun f21 =>
            c11 (x12 + 1) f20 f21 f18 f19
            )
            )
          )
        ) F 1 f5 f6 f9 f10
      )
      )
    ) F 1 f1 f2 th_good th_bad
  )
  )
abbrev rmX5_learnFrom : Room := { frames := 2, cells := 0, slots := 0, locals := 56 }
set_option maxHeartbeats 4000000 in
set_option maxRecDepth 100000 in
theorem c_X5_learnFrom (l : Launch) (g : Gl) (A_th A_p1 A_th_levels A_th_index A_th_digits A_th_good A_th_bad A_p1_sizes A_p1_breaks A_th_index_fits A_p1_rules A_p1_hs A_th_index_starts : Nat) (V_p1_letters V_th_index_numbers V_th_index_codes V_th_index_signs V_th_index_size : Value)  (n2 : Int32) (p1_words : Int32) (p1_learnt : Int32) (th_levels : (Nat → Int32)) (th_index_known : Int32) (th_digits : (Nat → Int32)) (th_good : (Nat → Int32)) (th_bad : (Nat → Int32)) (p1_sizes : (Nat → Int32)) (p1_breaks : (Nat → Int32)) (th_index_fits : (Nat → Int32)) (p1_rules : (Nat → Int32)) (p1_hs : (Nat → Int32)) (th_index_starts : (Nat → Int32)) (F : Nat) (u : (Nat → Int32) × (Nat → Int32) × (Nat → Int32) × (Nat → Int32)) (hm : m_X5_learnFrom F n2 p1_words p1_learnt th_levels th_index_known th_digits th_good th_bad p1_sizes p1_breaks th_index_fits p1_rules p1_hs th_index_starts = some u) : Ct l g yX5_learnFrom cX5_learnFrom 5 none rmX5_learnFrom [.ref A_th, .ref A_p1, .int n2] [(A_th, oO 4 [.ref A_th_index, .ref A_th_levels, .ref A_th_good, .ref A_th_bad, .ref A_th_digits]), (A_p1, oO 6 [V_p1_letters, .ref A_p1_breaks, .ref A_p1_sizes, .ref A_p1_rules, .ref A_p1_hs, .int p1_words, .int p1_learnt]), (A_th_levels, iA g 270 th_levels), (A_th_index, oO 2 [V_th_index_numbers, V_th_index_codes, .ref A_th_index_fits, .int th_index_known, .ref A_th_index_starts, V_th_index_signs, V_th_index_size]), (A_th_digits, iA g 30 th_digits), (A_th_good, iA g 270 th_good), (A_th_bad, iA g 270 th_bad), (A_p1_sizes, iA g 6 p1_sizes), (A_p1_breaks, iA g 6 p1_breaks), (A_th_index_fits, iA g 270 th_index_fits), (A_p1_rules, iA g 5 p1_rules), (A_p1_hs, iA g 5 p1_hs), (A_th_index_starts, iA g 5 th_index_starts)] none [(A_th, oO 4 [.ref A_th_index, .ref A_th_levels, .ref A_th_good, .ref A_th_bad, .ref A_th_digits]), (A_p1, oO 6 [V_p1_letters, .ref A_p1_breaks, .ref A_p1_sizes, .ref A_p1_rules, .ref A_p1_hs, .int p1_words, .int p1_learnt]), (A_th_levels, iA g 270 u.1), (A_th_index, oO 2 [V_th_index_numbers, V_th_index_codes, .ref A_th_index_fits, .int th_index_known, .ref A_th_index_starts, V_th_index_signs, V_th_index_size]), (A_th_digits, iA g 30 u.2.1), (A_th_good, iA g 270 u.2.2.1), (A_th_bad, iA g 270 u.2.2.2), (A_p1_sizes, iA g 6 p1_sizes), (A_p1_breaks, iA g 6 p1_breaks), (A_th_index_fits, iA g 270 th_index_fits), (A_p1_rules, iA g 5 p1_rules), (A_p1_hs, iA g 5 p1_hs), (A_th_index_starts, iA g 5 th_index_starts)] := by
  refine ent (own := RX5) (lv := [(0, .ref A_th), (1, .ref A_p1), (2, .int n2)]) (by decide) rfl (Nat.le_of_ble_eq_true rfl) rfl rfl ?_
  intro x C
  unfold m_X5_learnFrom at hm
  refine b_aload_n C dX5_learnFrom_0 rfl 0 rfl ?_
  refine gfX5_9 C 0 rfl rfl dX5_learnFrom_1 ?_
  refine b_iconst (v := 0) C dX5_learnFrom_4 (by decide) ?_
  refine b_aload_n C dX5_learnFrom_5 rfl 0 rfl ?_
  refine gfX5_24 C 0 rfl rfl dX5_learnFrom_6 ?_
  refine gfX5_28 C 3 rfl rfl dX5_learnFrom_9 ?_
  refine b_iconst (v := 0) C dX5_learnFrom_12 (by decide) ?_
  obtain ⟨f1, hM, hm⟩ := bK1_some hm
  refine b_kS (w' := [(A_th, oO 4 [.ref A_th_index, .ref A_th_levels, .ref A_th_good, .ref A_th_bad, .ref A_th_digits]), (A_p1, oO 6 [V_p1_letters, .ref A_p1_breaks, .ref A_p1_sizes, .ref A_p1_rules, .ref A_p1_hs, .int p1_words, .int p1_learnt]), (A_th_levels, iA g 270 f1), (A_th_index, oO 2 [V_th_index_numbers, V_th_index_codes, .ref A_th_index_fits, .int th_index_known, .ref A_th_index_starts, V_th_index_signs, V_th_index_size]), (A_th_digits, iA g 30 th_digits), (A_th_good, iA g 270 th_good), (A_th_bad, iA g 270 th_bad), (A_p1_sizes, iA g 6 p1_sizes), (A_p1_breaks, iA g 6 p1_breaks), (A_th_index_fits, iA g 270 th_index_fits), (A_p1_rules, iA g 5 p1_rules), (A_p1_hs, iA g 5 p1_hs), (A_th_index_starts, iA g 5 th_index_starts)]) (st := []) (st2 := []) C cs_J7_fill_fda19 tb439 (c_J7_fill_fda19 l g A_th_levels 270 0 th_index_known 0 th_levels F f1 hM) rfl ⟨rfl, rfl, by decide, by decide⟩ (Nat.le_of_ble_eq_true rfl) [2] rfl (by decide) rfl rfl dX5_learnFrom_13 [none, none, some 0, none, none, none, none, none, none, none, none, none, none] (by decide) ⟨rfl, ⟨rfl, ⟨⟨rfl, rfl⟩, ⟨rfl, ⟨rfl, ⟨rfl, ⟨rfl, ⟨rfl, ⟨rfl, ⟨rfl, ⟨rfl, ⟨rfl, ⟨rfl, trivial⟩⟩⟩⟩⟩⟩⟩⟩⟩⟩⟩⟩⟩ rfl ?_
  refine b_aload_n C dX5_learnFrom_16 rfl 0 rfl ?_
  refine gfX5_21 C 0 rfl rfl dX5_learnFrom_17 ?_
  refine b_iconst (v := 0) C dX5_learnFrom_20 (by decide) ?_
  obtain ⟨f2, hM, hm⟩ := bK1_some hm
  refine b_kS (w' := [(A_th, oO 4 [.ref A_th_index, .ref A_th_levels, .ref A_th_good, .ref A_th_bad, .ref A_th_digits]), (A_p1, oO 6 [V_p1_letters, .ref A_p1_breaks, .ref A_p1_sizes, .ref A_p1_rules, .ref A_p1_hs, .int p1_words, .int p1_learnt]), (A_th_levels, iA g 270 f1), (A_th_index, oO 2 [V_th_index_numbers, V_th_index_codes, .ref A_th_index_fits, .int th_index_known, .ref A_th_index_starts, V_th_index_signs, V_th_index_size]), (A_th_digits, iA g 30 f2), (A_th_good, iA g 270 th_good), (A_th_bad, iA g 270 th_bad), (A_p1_sizes, iA g 6 p1_sizes), (A_p1_breaks, iA g 6 p1_breaks), (A_th_index_fits, iA g 270 th_index_fits), (A_p1_rules, iA g 5 p1_rules), (A_p1_hs, iA g 5 p1_hs), (A_th_index_starts, iA g 5 th_index_starts)]) (st := []) (st2 := []) C cs_J7_fill_53178 tb445 (c_J7_fill_53178 l g A_th_digits 30 0 th_digits F f2 hM) rfl ⟨rfl, rfl, by decide, by decide⟩ (Nat.le_of_ble_eq_true rfl) [4] rfl (by decide) rfl rfl dX5_learnFrom_21 [none, none, none, none, some 0, none, none, none, none, none, none, none, none] (by decide) ⟨rfl, ⟨rfl, ⟨rfl, ⟨rfl, ⟨⟨rfl, rfl⟩, ⟨rfl, ⟨rfl, ⟨rfl, ⟨rfl, ⟨rfl, ⟨rfl, ⟨rfl, ⟨rfl, trivial⟩⟩⟩⟩⟩⟩⟩⟩⟩⟩⟩⟩⟩ rfl ?_
  refine b_iconst (v := 1) C dX5_learnFrom_24 (by decide) ?_
  refine b_istore_n (lv' := [(3, .int 1), (0, .ref A_th), (1, .ref A_p1), (2, .int n2)]) C dX5_learnFrom_25 rfl (by decide) rfl ?_
  refine Wb.lv (lv' := [(0, .ref A_th), (1, .ref A_p1), (2, .int n2), (3, .int 1)]) ?_ [1, 2, 3, 0] rfl
  refine wl5_W (Wg := fun (x4 : Int32) (f5 : (Nat → Int32)) (f6 : (Nat → Int32)) (f7 : (Nat → Int32)) (f8 : (Nat → Int32)) => Wb x [(A_th, oO 4 [.ref A_th_index, .ref A_th_levels, .ref A_th_good, .ref A_th_bad, .ref A_th_digits]), (A_p1, oO 6 [V_p1_letters, .ref A_p1_breaks, .ref A_p1_sizes, .ref A_p1_rules, .ref A_p1_hs, .int p1_words, .int p1_learnt]), (A_th_levels, iA g 270 f5), (A_th_index, oO 2 [V_th_index_numbers, V_th_index_codes, .ref A_th_index_fits, .int th_index_known, .ref A_th_index_starts, V_th_index_signs, V_th_index_size]), (A_th_digits, iA g 30 f6), (A_th_good, iA g 270 f7), (A_th_bad, iA g 270 f8), (A_p1_sizes, iA g 6 p1_sizes), (A_p1_breaks, iA g 6 p1_breaks), (A_th_index_fits, iA g 270 th_index_fits), (A_p1_rules, iA g 5 p1_rules), (A_p1_hs, iA g 5 p1_hs), (A_th_index_starts, iA g 5 th_index_starts)] [(0, .ref A_th), (1, .ref A_p1), (2, .int n2), (3, .int x4)] 26 []) ?_ F 1 f1 f2 th_good th_bad hm
  intro x4 f5 f6 f7 f8 c3 hc3 hm
  refine b_iload_n C dX5_learnFrom_26 rfl 3 rfl ?_
  refine b_aload_n C dX5_learnFrom_27 rfl 1 rfl ?_
  refine gfX5_43 C 1 rfl rfl dX5_learnFrom_28 ?_
  refine b_icmp_gt (tgt := 115) C dX5_learnFrom_31 (by decide) hm (fun hm => ?_) (fun hm => ?_)
  · cases hm
    exact b_vret C dX5_learnFrom_115
  · refine b_aload_n C dX5_learnFrom_34 rfl 0 rfl ?_
    refine gfX5_15 C 0 rfl rfl dX5_learnFrom_35 ?_
    refine b_iconst (v := 0) C dX5_learnFrom_38 (by decide) ?_
    refine b_aload_n C dX5_learnFrom_39 rfl 0 rfl ?_
    refine gfX5_24 C 0 rfl rfl dX5_learnFrom_40 ?_
    refine gfX5_28 C 3 rfl rfl dX5_learnFrom_43 ?_
    refine b_iconst (v := 0) C dX5_learnFrom_46 (by decide) ?_
    obtain ⟨f9, hM, hm⟩ := bK1_some hm
    refine b_kS (w' := [(A_th, oO 4 [.ref A_th_index, .ref A_th_levels, .ref A_th_good, .ref A_th_bad, .ref A_th_digits]), (A_p1, oO 6 [V_p1_letters, .ref A_p1_breaks, .ref A_p1_sizes, .ref A_p1_rules, .ref A_p1_hs, .int p1_words, .int p1_learnt]), (A_th_levels, iA g 270 f5), (A_th_index, oO 2 [V_th_index_numbers, V_th_index_codes, .ref A_th_index_fits, .int th_index_known, .ref A_th_index_starts, V_th_index_signs, V_th_index_size]), (A_th_digits, iA g 30 f6), (A_th_good, iA g 270 f9), (A_th_bad, iA g 270 f8), (A_p1_sizes, iA g 6 p1_sizes), (A_p1_breaks, iA g 6 p1_breaks), (A_th_index_fits, iA g 270 th_index_fits), (A_p1_rules, iA g 5 p1_rules), (A_p1_hs, iA g 5 p1_hs), (A_th_index_starts, iA g 5 th_index_starts)]) (st := []) (st2 := []) C cs_J7_fill_fda19 tb439 (c_J7_fill_fda19 l g A_th_good 270 0 th_index_known 0 f7 F f9 hM) rfl ⟨rfl, rfl, by decide, by decide⟩ (Nat.le_of_ble_eq_true rfl) [5] rfl (by decide) rfl rfl dX5_learnFrom_47 [none, none, none, none, none, some 0, none, none, none, none, none, none, none] (by decide) ⟨rfl, ⟨rfl, ⟨rfl, ⟨rfl, ⟨rfl, ⟨⟨rfl, rfl⟩, ⟨rfl, ⟨rfl, ⟨rfl, ⟨rfl, ⟨rfl, ⟨rfl, ⟨rfl, trivial⟩⟩⟩⟩⟩⟩⟩⟩⟩⟩⟩⟩⟩ rfl ?_
    refine b_aload_n C dX5_learnFrom_50 rfl 0 rfl ?_
    refine gfX5_18 C 0 rfl rfl dX5_learnFrom_51 ?_
    refine b_iconst (v := 0) C dX5_learnFrom_54 (by decide) ?_
    refine b_aload_n C dX5_learnFrom_55 rfl 0 rfl ?_
    refine gfX5_24 C 0 rfl rfl dX5_learnFrom_56 ?_
    refine gfX5_28 C 3 rfl rfl dX5_learnFrom_59 ?_
    refine b_iconst (v := 0) C dX5_learnFrom_62 (by decide) ?_
    obtain ⟨f10, hM, hm⟩ := bK1_some hm
    refine b_kS (w' := [(A_th, oO 4 [.ref A_th_index, .ref A_th_levels, .ref A_th_good, .ref A_th_bad, .ref A_th_digits]), (A_p1, oO 6 [V_p1_letters, .ref A_p1_breaks, .ref A_p1_sizes, .ref A_p1_rules, .ref A_p1_hs, .int p1_words, .int p1_learnt]), (A_th_levels, iA g 270 f5), (A_th_index, oO 2 [V_th_index_numbers, V_th_index_codes, .ref A_th_index_fits, .int th_index_known, .ref A_th_index_starts, V_th_index_signs, V_th_index_size]), (A_th_digits, iA g 30 f6), (A_th_good, iA g 270 f9), (A_th_bad, iA g 270 f10), (A_p1_sizes, iA g 6 p1_sizes), (A_p1_breaks, iA g 6 p1_breaks), (A_th_index_fits, iA g 270 th_index_fits), (A_p1_rules, iA g 5 p1_rules), (A_p1_hs, iA g 5 p1_hs), (A_th_index_starts, iA g 5 th_index_starts)]) (st := []) (st2 := []) C cs_J7_fill_fda19 tb439 (c_J7_fill_fda19 l g A_th_bad 270 0 th_index_known 0 f8 F f10 hM) rfl ⟨rfl, rfl, by decide, by decide⟩ (Nat.le_of_ble_eq_true rfl) [6] rfl (by decide) rfl rfl dX5_learnFrom_63 [none, none, none, none, none, none, some 0, none, none, none, none, none, none] (by decide) ⟨rfl, ⟨rfl, ⟨rfl, ⟨rfl, ⟨rfl, ⟨rfl, ⟨⟨rfl, rfl⟩, ⟨rfl, ⟨rfl, ⟨rfl, ⟨rfl, ⟨rfl, ⟨rfl, trivial⟩⟩⟩⟩⟩⟩⟩⟩⟩⟩⟩⟩⟩ rfl ?_
    refine b_iconst (v := 1) C dX5_learnFrom_66 (by decide) ?_
    refine b_istore (lv' := [(4, .int 1), (0, .ref A_th), (1, .ref A_p1), (2, .int n2), (3, .int x4)]) C dX5_learnFrom_67 (by decide) rfl ?_
    refine Wb.lv (lv' := [(0, .ref A_th), (1, .ref A_p1), (2, .int n2), (3, .int x4), (4, .int 1)]) ?_ [1, 2, 3, 4, 0] rfl
    refine wl5_W (Wg := fun (x12 : Int32) (f13 : (Nat → Int32)) (f14 : (Nat → Int32)) (f15 : (Nat → Int32)) (f16 : (Nat → Int32)) => Wb x [(A_th, oO 4 [.ref A_th_index, .ref A_th_levels, .ref A_th_good, .ref A_th_bad, .ref A_th_digits]), (A_p1, oO 6 [V_p1_letters, .ref A_p1_breaks, .ref A_p1_sizes, .ref A_p1_rules, .ref A_p1_hs, .int p1_words, .int p1_learnt]), (A_th_levels, iA g 270 f13), (A_th_index, oO 2 [V_th_index_numbers, V_th_index_codes, .ref A_th_index_fits, .int th_index_known, .ref A_th_index_starts, V_th_index_signs, V_th_index_size]), (A_th_digits, iA g 30 f14), (A_th_good, iA g 270 f15), (A_th_bad, iA g 270 f16), (A_p1_sizes, iA g 6 p1_sizes), (A_p1_breaks, iA g 6 p1_breaks), (A_th_index_fits, iA g 270 th_index_fits), (A_p1_rules, iA g 5 p1_rules), (A_p1_hs, iA g 5 p1_hs), (A_th_index_starts, iA g 5 th_index_starts)] [(0, .ref A_th), (1, .ref A_p1), (2, .int n2), (3, .int x4), (4, .int x12)] 69 []) ?_ F 1 f5 f6 f9 f10 hm
    intro x12 f13 f14 f15 f16 c11 hc11 hm
    refine b_iload C dX5_learnFrom_69 4 rfl ?_
    refine b_iconst (v := 3) C dX5_learnFrom_71 (by decide) ?_
    refine b_icmp_gt (tgt := 109) C dX5_learnFrom_72 (by decide) hm (fun hm => ?_) (fun hm => ?_)
    · refine b_iinc (v2 := x4 + 1) (lv' := [(3, .int (x4 + 1)), (0, .ref A_th), (1, .ref A_p1), (2, .int n2), (4, .int x12)]) C dX5_learnFrom_109 3 rfl rfl (by decide) rfl ?_
      refine b_goto (tgt := 26) C dX5_learnFrom_112 (by decide) ?_
      exact Wb.lv (hc3 (x4 + 1) f13 f14 f15 f16 hm) [1, 2, 3, 0] rfl
    · refine b_aload_n C dX5_learnFrom_75 rfl 0 rfl ?_
      refine b_aload_n C dX5_learnFrom_76 rfl 1 rfl ?_
      refine b_iload_n C dX5_learnFrom_77 rfl 2 rfl ?_
      refine b_iload_n C dX5_learnFrom_78 rfl 3 rfl ?_
      refine b_iload C dX5_learnFrom_79 4 rfl ?_
      obtain ⟨r17, f18, f19, hM, hm⟩ := bK3_some hm
      refine b_kV (w' := [(A_th, oO 4 [.ref A_th_index, .ref A_th_levels, .ref A_th_good, .ref A_th_bad, .ref A_th_digits]), (A_p1, oO 6 [V_p1_letters, .ref A_p1_breaks, .ref A_p1_sizes, .ref A_p1_rules, .ref A_p1_hs, .int p1_words, .int p1_learnt]), (A_th_levels, iA g 270 f13), (A_th_index, oO 2 [V_th_index_numbers, V_th_index_codes, .ref A_th_index_fits, .int th_index_known, .ref A_th_index_starts, V_th_index_signs, V_th_index_size]), (A_th_digits, iA g 30 f14), (A_th_good, iA g 270 f18), (A_th_bad, iA g 270 f19), (A_p1_sizes, iA g 6 p1_sizes), (A_p1_breaks, iA g 6 p1_breaks), (A_th_index_fits, iA g 270 th_index_fits), (A_p1_rules, iA g 5 p1_rules), (A_p1_hs, iA g 5 p1_hs), (A_th_index_starts, iA g 5 th_index_starts)]) (st := []) (st2 := [.int r17]) C cv_X5_countWords tb446 (c_X5_countWords l g A_th A_p1 A_p1_sizes A_th_digits A_p1_breaks A_th_good A_th_index A_th_index_fits A_th_bad (.ref A_th_levels) V_p1_letters (.ref A_p1_rules) (.ref A_p1_hs) (.int p1_learnt) V_th_index_numbers V_th_index_codes (.int th_index_known) (.ref A_th_index_starts) V_th_index_signs V_th_index_size n2 x4 x12 p1_words p1_sizes f14 p1_breaks f15 th_index_fits f16 F (r17, f18, f19) hM) rfl 0 rfl rfl ⟨rfl, rfl, by decide, by decide⟩ (Nat.le_of_ble_eq_true rfl) [0, 1, 7, 4, 8, 5, 3, 9, 6] rfl (by decide) rfl rfl dX5_learnFrom_81 [some 0, some 1, none, some 6, some 3, some 5, some 8, some 2, some 4, some 7, none, none, none] (by decide) ⟨⟨rfl, rfl⟩, ⟨⟨rfl, rfl⟩, ⟨rfl, ⟨⟨rfl, rfl⟩, ⟨⟨rfl, rfl⟩, ⟨⟨rfl, rfl⟩, ⟨⟨rfl, rfl⟩, ⟨⟨rfl, rfl⟩, ⟨⟨rfl, rfl⟩, ⟨⟨rfl, rfl⟩, ⟨rfl, ⟨rfl, ⟨rfl, trivial⟩⟩⟩⟩⟩⟩⟩⟩⟩⟩⟩⟩⟩ rfl ?_
      refine b_if_eq (tgt := 103) C dX5_learnFrom_84 (by decide) hm (fun hm => ?_) (fun hm => ?_)
      · refine b_iinc (v2 := x12 + 1) (lv' := [(4, .int (x12 + 1)), (0, .ref A_th), (1, .ref A_p1), (2, .int n2), (3, .int x4)]) C dX5_learnFrom_103 4 rfl rfl (by decide) rfl ?_
        refine b_goto (tgt := 69) C dX5_learnFrom_106 (by decide) ?_
        exact Wb.lv (hc11 (x12 + 1) f13 f14 f18 f19 hm) [1, 2, 3, 4, 0] rfl
      · refine b_aload_n C dX5_learnFrom_87 rfl 0 rfl ?_
        refine b_aload_n C dX5_learnFrom_88 rfl 1 rfl ?_
        refine b_iload_n C dX5_learnFrom_89 rfl 3 rfl ?_
        refine b_iload C dX5_learnFrom_90 4 rfl ?_
        obtain ⟨f20, hM, hm⟩ := bK1_some hm
        refine b_kV (w' := [(A_th, oO 4 [.ref A_th_index, .ref A_th_levels, .ref A_th_good, .ref A_th_bad, .ref A_th_digits]), (A_p1, oO 6 [V_p1_letters, .ref A_p1_breaks, .ref A_p1_sizes, .ref A_p1_rules, .ref A_p1_hs, .int p1_words, .int p1_learnt]), (A_th_levels, iA g 270 f20), (A_th_index, oO 2 [V_th_index_numbers, V_th_index_codes, .ref A_th_index_fits, .int th_index_known, .ref A_th_index_starts, V_th_index_signs, V_th_index_size]), (A_th_digits, iA g 30 f14), (A_th_good, iA g 270 f18), (A_th_bad, iA g 270 f19), (A_p1_sizes, iA g 6 p1_sizes), (A_p1_breaks, iA g 6 p1_breaks), (A_th_index_fits, iA g 270 th_index_fits), (A_p1_rules, iA g 5 p1_rules), (A_p1_hs, iA g 5 p1_hs), (A_th_index_starts, iA g 5 th_index_starts)]) (st := []) (st2 := []) C cv_X5_keepPatterns tb459 (c_X5_keepPatterns l g A_th A_p1 A_th_index A_th_index_starts A_p1_rules A_p1_hs A_th_good A_th_bad A_th_levels (.ref A_th_digits) V_p1_letters (.ref A_p1_breaks) (.ref A_p1_sizes) (.int p1_words) (.int p1_learnt) V_th_index_numbers V_th_index_codes (.ref A_th_index_fits) (.int th_index_known) V_th_index_signs V_th_index_size x4 x12 th_index_starts p1_rules p1_hs f18 f19 f13 F f20 hM) rfl 0 rfl rfl ⟨rfl, rfl, by decide, by decide⟩ (Nat.le_of_ble_eq_true rfl) [0, 1, 3, 12, 10, 11, 5, 6, 2] rfl (by decide) rfl rfl dX5_learnFrom_92 [some 0, some 1, some 8, some 2, none, some 6, some 7, none, none, none, some 4, some 5, some 3] (by decide) ⟨⟨rfl, rfl⟩, ⟨⟨rfl, rfl⟩, ⟨⟨rfl, rfl⟩, ⟨⟨rfl, rfl⟩, ⟨rfl, ⟨⟨rfl, rfl⟩, ⟨⟨rfl, rfl⟩, ⟨rfl, ⟨rfl, ⟨rfl, ⟨⟨rfl, rfl⟩, ⟨⟨rfl, rfl⟩, ⟨⟨rfl, rfl⟩, trivial⟩⟩⟩⟩⟩⟩⟩⟩⟩⟩⟩⟩⟩ rfl ?_
        refine b_aload_n C dX5_learnFrom_95 rfl 0 rfl ?_
        refine b_aload_n C dX5_learnFrom_96 rfl 1 rfl ?_
        refine b_iload_n C dX5_learnFrom_97 rfl 3 rfl ?_
        refine b_iload C dX5_learnFrom_98 4 rfl ?_
        obtain ⟨f21, hM, hm⟩ := bK1_some hm
        refine b_kV (w' := [(A_th, oO 4 [.ref A_th_index, .ref A_th_levels, .ref A_th_good, .ref A_th_bad, .ref A_th_digits]), (A_p1, oO 6 [V_p1_letters, .ref A_p1_breaks, .ref A_p1_sizes, .ref A_p1_rules, .ref A_p1_hs, .int p1_words, .int p1_learnt]), (A_th_levels, iA g 270 f20), (A_th_index, oO 2 [V_th_index_numbers, V_th_index_codes, .ref A_th_index_fits, .int th_index_known, .ref A_th_index_starts, V_th_index_signs, V_th_index_size]), (A_th_digits, iA g 30 f21), (A_th_good, iA g 270 f18), (A_th_bad, iA g 270 f19), (A_p1_sizes, iA g 6 p1_sizes), (A_p1_breaks, iA g 6 p1_breaks), (A_th_index_fits, iA g 270 th_index_fits), (A_p1_rules, iA g 5 p1_rules), (A_p1_hs, iA g 5 p1_hs), (A_th_index_starts, iA g 5 th_index_starts)]) (st := []) (st2 := []) C cv_X5_raiseDigits tb466 (c_X5_raiseDigits l g A_th A_p1 A_p1_sizes A_th_index A_th_index_fits A_th_levels A_th_digits (.ref A_th_good) (.ref A_th_bad) V_p1_letters (.ref A_p1_breaks) (.ref A_p1_rules) (.ref A_p1_hs) (.int p1_learnt) V_th_index_numbers V_th_index_codes (.int th_index_known) (.ref A_th_index_starts) V_th_index_signs V_th_index_size x4 x12 p1_words p1_sizes th_index_fits f20 f14 F f21 hM) rfl 0 rfl rfl ⟨rfl, rfl, by decide, by decide⟩ (Nat.le_of_ble_eq_true rfl) [0, 1, 7, 3, 9, 2, 4] rfl (by decide) rfl rfl dX5_learnFrom_100 [some 0, some 1, some 5, some 3, some 6, none, none, some 2, none, some 4, none, none, none] (by decide) ⟨⟨rfl, rfl⟩, ⟨⟨rfl, rfl⟩, ⟨⟨rfl, rfl⟩, ⟨⟨rfl, rfl⟩, ⟨⟨rfl, rfl⟩, ⟨rfl, ⟨rfl, ⟨⟨rfl, rfl⟩, ⟨rfl, ⟨⟨rfl, rfl⟩, ⟨rfl, ⟨rfl, ⟨rfl, trivial⟩⟩⟩⟩⟩⟩⟩⟩⟩⟩⟩⟩⟩ rfl ?_
        refine b_iinc (v2 := x12 + 1) (lv' := [(4, .int (x12 + 1)), (0, .ref A_th), (1, .ref A_p1), (2, .int n2), (3, .int x4)]) C dX5_learnFrom_103 4 rfl rfl (by decide) rfl ?_
        refine b_goto (tgt := 69) C dX5_learnFrom_106 (by decide) ?_
        exact Wb.lv (hc11 (x12 + 1) f20 f21 f18 f19 hm) [1, 2, 3, 4, 0] rfl
/-- BreakLearner.learnAnew()V -/
def m_X10_learnAnew (F : Nat)   (th_index_known : Int32) (th_index_size : Int32) (th_stock_words : Int32) (th_stock_learnt : Int32) (th_index_numbers : (Nat → Int32)) (th_index_codes : (Nat → Int32)) (th_index_starts : (Nat → Int32)) (th_index_signs : (Nat → Int32)) (th_index_fits : (Nat → Int32)) (th_stock_letters : (Nat → Int32)) (th_stock_sizes : (Nat → Int32)) (th_learning_levels : (Nat → Int32)) (th_learning_digits : (Nat → Int32)) (th_learning_good : (Nat → Int32)) (th_learning_bad : (Nat → Int32)) (th_stock_breaks : (Nat → Int32)) (th_stock_rules : (Nat → Int32)) (th_stock_hs : (Nat → Int32)) (th_tree_packed : Int32) (th_chances_valued : Int32) : Option (Int32 × Int32 × (Nat → Int32) × (Nat → Int32) × (Nat → Int32) × (Nat → Int32) × (Nat → Int32) × (Nat → Int32) × (Nat → Int32) × (Nat → Int32) × (Nat → Int32) × Int32 × Int32) :=
  bK7 (m_X3_takeFrom F th_index_known th_index_size th_stock_words th_index_numbers th_index_codes th_index_starts th_stock_letters th_stock_sizes th_index_signs th_index_fits) (fun z1 z2 f3 f4 f5 f6 f7 =>
  bK4 (m_X5_learnFrom F 63 th_stock_words th_stock_learnt th_learning_levels z1 th_learning_digits th_learning_good th_learning_bad th_stock_sizes th_stock_breaks f7 th_stock_rules th_stock_hs f5) (fun f8 f9 f10 f11 =>
  some (z1, z2, f3, f4, f5, f6, f7, f8, f9, f10, f11, 0, 0)
  )
  )
abbrev rmX10_learnAnew : Room := { frames := 3, cells := 0, slots := 0, locals := 80 }
set_option maxHeartbeats 4000000 in
set_option maxRecDepth 100000 in
theorem c_X10_learnAnew (l : Launch) (g : Gl) (A_th A_th_index A_th_stock A_th_index_numbers A_th_index_codes A_th_index_starts A_th_index_signs A_th_index_fits A_th_stock_letters A_th_stock_sizes A_th_learning A_th_learning_levels A_th_learning_digits A_th_learning_good A_th_learning_bad A_th_stock_breaks A_th_stock_rules A_th_stock_hs A_th_tree A_th_chances : Nat) (V_th_text V_th_doings V_th_seen V_th_judging V_th_shelves V_th_onShelf V_th_theSeed V_th_tree_isNode V_th_tree_bases V_th_tree_slots V_th_tree_count V_th_tree_end V_th_chances_learning V_th_chances_rights : Value)   (th_index_known : Int32) (th_index_size : Int32) (th_stock_words : Int32) (th_stock_learnt : Int32) (th_index_numbers : (Nat → Int32)) (th_index_codes : (Nat → Int32)) (th_index_starts : (Nat → Int32)) (th_index_signs : (Nat → Int32)) (th_index_fits : (Nat → Int32)) (th_stock_letters : (Nat → Int32)) (th_stock_sizes : (Nat → Int32)) (th_learning_levels : (Nat → Int32)) (th_learning_digits : (Nat → Int32)) (th_learning_good : (Nat → Int32)) (th_learning_bad : (Nat → Int32)) (th_stock_breaks : (Nat → Int32)) (th_stock_rules : (Nat → Int32)) (th_stock_hs : (Nat → Int32)) (th_tree_packed : Int32) (th_chances_valued : Int32) (F : Nat) (u : Int32 × Int32 × (Nat → Int32) × (Nat → Int32) × (Nat → Int32) × (Nat → Int32) × (Nat → Int32) × (Nat → Int32) × (Nat → Int32) × (Nat → Int32) × (Nat → Int32) × Int32 × Int32) (hm : m_X10_learnAnew F th_index_known th_index_size th_stock_words th_stock_learnt th_index_numbers th_index_codes th_index_starts th_index_signs th_index_fits th_stock_letters th_stock_sizes th_learning_levels th_learning_digits th_learning_good th_learning_bad th_stock_breaks th_stock_rules th_stock_hs th_tree_packed th_chances_valued = some u) : Ct l g yX10_learnAnew cX10_learnAnew 1 none rmX10_learnAnew [.ref A_th] [(A_th, oO 9 [V_th_text, .ref A_th_stock, .ref A_th_index, .ref A_th_learning, V_th_doings, .ref A_th_tree, V_th_seen, V_th_judging, .ref A_th_chances, V_th_shelves, V_th_onShelf, V_th_theSeed]), (A_th_index, oO 2 [.ref A_th_index_numbers, .ref A_th_index_codes, .ref A_th_index_fits, .int th_index_known, .ref A_th_index_starts, .ref A_th_index_signs, .int th_index_size]), (A_th_stock, oO 6 [.ref A_th_stock_letters, .ref A_th_stock_breaks, .ref A_th_stock_sizes, .ref A_th_stock_rules, .ref A_th_stock_hs, .int th_stock_words, .int th_stock_learnt]), (A_th_index_numbers, iA g 1372 th_index_numbers), (A_th_index_codes, iA g 270 th_index_codes), (A_th_index_starts, iA g 5 th_index_starts), (A_th_index_signs, iA g 8 th_index_signs), (A_th_index_fits, iA g 270 th_index_fits), (A_th_stock_letters, iA g 6 th_stock_letters), (A_th_stock_sizes, iA g 6 th_stock_sizes), (A_th_learning, oO 4 [.ref A_th_index, .ref A_th_learning_levels, .ref A_th_learning_good, .ref A_th_learning_bad, .ref A_th_learning_digits]), (A_th_learning_levels, iA g 270 th_learning_levels), (A_th_learning_digits, iA g 30 th_learning_digits), (A_th_learning_good, iA g 270 th_learning_good), (A_th_learning_bad, iA g 270 th_learning_bad), (A_th_stock_breaks, iA g 6 th_stock_breaks), (A_th_stock_rules, iA g 5 th_stock_rules), (A_th_stock_hs, iA g 5 th_stock_hs), (A_th_tree, oO 8 [V_th_tree_isNode, V_th_tree_bases, V_th_tree_slots, V_th_tree_count, V_th_tree_end, .int th_tree_packed]), (A_th_chances, oO 0 [V_th_chances_learning, V_th_chances_rights, .int th_chances_valued])] none [(A_th, oO 9 [V_th_text, .ref A_th_stock, .ref A_th_index, .ref A_th_learning, V_th_doings, .ref A_th_tree, V_th_seen, V_th_judging, .ref A_th_chances, V_th_shelves, V_th_onShelf, V_th_theSeed]), (A_th_index, oO 2 [.ref A_th_index_numbers, .ref A_th_index_codes, .ref A_th_index_fits, .int u.1, .ref A_th_index_starts, .ref A_th_index_signs, .int u.2.1]), (A_th_stock, oO 6 [.ref A_th_stock_letters, .ref A_th_stock_breaks, .ref A_th_stock_sizes, .ref A_th_stock_rules, .ref A_th_stock_hs, .int th_stock_words, .int th_stock_learnt]), (A_th_index_numbers, iA g 1372 u.2.2.1), (A_th_index_codes, iA g 270 u.2.2.2.1), (A_th_index_starts, iA g 5 u.2.2.2.2.1), (A_th_index_signs, iA g 8 u.2.2.2.2.2.1), (A_th_index_fits, iA g 270 u.2.2.2.2.2.2.1), (A_th_stock_letters, iA g 6 th_stock_letters), (A_th_stock_sizes, iA g 6 th_stock_sizes), (A_th_learning, oO 4 [.ref A_th_index, .ref A_th_learning_levels, .ref A_th_learning_good, .ref A_th_learning_bad, .ref A_th_learning_digits]), (A_th_learning_levels, iA g 270 u.2.2.2.2.2.2.2.1), (A_th_learning_digits, iA g 30 u.2.2.2.2.2.2.2.2.1), (A_th_learning_good, iA g 270 u.2.2.2.2.2.2.2.2.2.1), (A_th_learning_bad, iA g 270 u.2.2.2.2.2.2.2.2.2.2.1), (A_th_stock_breaks, iA g 6 th_stock_breaks), (A_th_stock_rules, iA g 5 th_stock_rules), (A_th_stock_hs, iA g 5 th_stock_hs), (A_th_tree, oO 8 [V_th_tree_isNode, V_th_tree_bases, V_th_tree_slots, V_th_tree_count, V_th_tree_end, .int u.2.2.2.2.2.2.2.2.2.2.2.1]), (A_th_chances, oO 0 [V_th_chances_learning, V_th_chances_rights, .int u.2.2.2.2.2.2.2.2.2.2.2.2])] := by
  refine ent (own := RX10) (lv := [(0, .ref A_th)]) (by decide) rfl (Nat.le_of_ble_eq_true rfl) rfl rfl ?_
  intro x C
  unfold m_X10_learnAnew at hm
  refine b_aload_n C dX10_learnAnew_0 rfl 0 rfl ?_
  refine gfX10_26 C 0 rfl rfl dX10_learnAnew_1 ?_
  refine b_aload_n C dX10_learnAnew_4 rfl 0 rfl ?_
  refine gfX10_19 C 0 rfl rfl dX10_learnAnew_5 ?_
  obtain ⟨z1, z2, f3, f4, f5, f6, f7, hM, hm⟩ := bK7_some hm
  refine b_kV (w' := [(A_th, oO 9 [V_th_text, .ref A_th_stock, .ref A_th_index, .ref A_th_learning, V_th_doings, .ref A_th_tree, V_th_seen, V_th_judging, .ref A_th_chances, V_th_shelves, V_th_onShelf, V_th_theSeed]), (A_th_index, oO 2 [.ref A_th_index_numbers, .ref A_th_index_codes, .ref A_th_index_fits, .int z1, .ref A_th_index_starts, .ref A_th_index_signs, .int z2]), (A_th_stock, oO 6 [.ref A_th_stock_letters, .ref A_th_stock_breaks, .ref A_th_stock_sizes, .ref A_th_stock_rules, .ref A_th_stock_hs, .int th_stock_words, .int th_stock_learnt]), (A_th_index_numbers, iA g 1372 f3), (A_th_index_codes, iA g 270 f4), (A_th_index_starts, iA g 5 f5), (A_th_index_signs, iA g 8 f6), (A_th_index_fits, iA g 270 f7), (A_th_stock_letters, iA g 6 th_stock_letters), (A_th_stock_sizes, iA g 6 th_stock_sizes), (A_th_learning, oO 4 [.ref A_th_index, .ref A_th_learning_levels, .ref A_th_learning_good, .ref A_th_learning_bad, .ref A_th_learning_digits]), (A_th_learning_levels, iA g 270 th_learning_levels), (A_th_learning_digits, iA g 30 th_learning_digits), (A_th_learning_good, iA g 270 th_learning_good), (A_th_learning_bad, iA g 270 th_learning_bad), (A_th_stock_breaks, iA g 6 th_stock_breaks), (A_th_stock_rules, iA g 5 th_stock_rules), (A_th_stock_hs, iA g 5 th_stock_hs), (A_th_tree, oO 8 [V_th_tree_isNode, V_th_tree_bases, V_th_tree_slots, V_th_tree_count, V_th_tree_end, .int th_tree_packed]), (A_th_chances, oO 0 [V_th_chances_learning, V_th_chances_rights, .int th_chances_valued])]) (st := []) (st2 := []) C cv_X3_takeFrom tb399 (c_X3_takeFrom l g A_th_index A_th_stock A_th_index_numbers A_th_index_codes A_th_index_starts A_th_stock_letters A_th_stock_sizes A_th_index_signs A_th_index_fits (.ref A_th_stock_breaks) (.ref A_th_stock_rules) (.ref A_th_stock_hs) (.int th_stock_learnt) th_index_known th_index_size th_stock_words th_index_numbers th_index_codes th_index_starts th_stock_letters th_stock_sizes th_index_signs th_index_fits F (z1, z2, f3, f4, f5, f6, f7) hM) rfl 1 rfl rfl ⟨rfl, rfl, by decide, by decide⟩ (Nat.le_of_ble_eq_true rfl) [1, 2, 3, 4, 5, 8, 9, 6, 7] rfl (by decide) rfl rfl dX10_learnAnew_8 [none, some 0, some 1, some 2, some 3, some 4, some 7, some 8, some 5, some 6, none, none, none, none, none, none, none, none, none, none] (by decide) ⟨rfl, ⟨⟨rfl, rfl⟩, ⟨⟨rfl, rfl⟩, ⟨⟨rfl, rfl⟩, ⟨⟨rfl, rfl⟩, ⟨⟨rfl, rfl⟩, ⟨⟨rfl, rfl⟩, ⟨⟨rfl, rfl⟩, ⟨⟨rfl, rfl⟩, ⟨⟨rfl, rfl⟩, ⟨rfl, ⟨rfl, ⟨rfl, ⟨rfl, ⟨rfl, ⟨rfl, ⟨rfl, ⟨rfl, ⟨rfl, ⟨rfl, trivial⟩⟩⟩⟩⟩⟩⟩⟩⟩⟩⟩⟩⟩⟩⟩⟩⟩⟩⟩⟩ rfl ?_
  refine b_aload_n C dX10_learnAnew_11 rfl 0 rfl ?_
  refine gfX10_35 C 0 rfl rfl dX10_learnAnew_12 ?_
  refine b_aload_n C dX10_learnAnew_15 rfl 0 rfl ?_
  refine gfX10_19 C 0 rfl rfl dX10_learnAnew_16 ?_
  refine b_bipush (v := 63) C dX10_learnAnew_19 (by decide) ?_
  obtain ⟨f8, f9, f10, f11, hM, hm⟩ := bK4_some hm
  refine b_kV (w' := [(A_th, oO 9 [V_th_text, .ref A_th_stock, .ref A_th_index, .ref A_th_learning, V_th_doings, .ref A_th_tree, V_th_seen, V_th_judging, .ref A_th_chances, V_th_shelves, V_th_onShelf, V_th_theSeed]), (A_th_index, oO 2 [.ref A_th_index_numbers, .ref A_th_index_codes, .ref A_th_index_fits, .int z1, .ref A_th_index_starts, .ref A_th_index_signs, .int z2]), (A_th_stock, oO 6 [.ref A_th_stock_letters, .ref A_th_stock_breaks, .ref A_th_stock_sizes, .ref A_th_stock_rules, .ref A_th_stock_hs, .int th_stock_words, .int th_stock_learnt]), (A_th_index_numbers, iA g 1372 f3), (A_th_index_codes, iA g 270 f4), (A_th_index_starts, iA g 5 f5), (A_th_index_signs, iA g 8 f6), (A_th_index_fits, iA g 270 f7), (A_th_stock_letters, iA g 6 th_stock_letters), (A_th_stock_sizes, iA g 6 th_stock_sizes), (A_th_learning, oO 4 [.ref A_th_index, .ref A_th_learning_levels, .ref A_th_learning_good, .ref A_th_learning_bad, .ref A_th_learning_digits]), (A_th_learning_levels, iA g 270 f8), (A_th_learning_digits, iA g 30 f9), (A_th_learning_good, iA g 270 f10), (A_th_learning_bad, iA g 270 f11), (A_th_stock_breaks, iA g 6 th_stock_breaks), (A_th_stock_rules, iA g 5 th_stock_rules), (A_th_stock_hs, iA g 5 th_stock_hs), (A_th_tree, oO 8 [V_th_tree_isNode, V_th_tree_bases, V_th_tree_slots, V_th_tree_count, V_th_tree_end, .int th_tree_packed]), (A_th_chances, oO 0 [V_th_chances_learning, V_th_chances_rights, .int th_chances_valued])]) (st := []) (st2 := []) C cv_X5_learnFrom tb435 (c_X5_learnFrom l g A_th_learning A_th_stock A_th_learning_levels A_th_index A_th_learning_digits A_th_learning_good A_th_learning_bad A_th_stock_sizes A_th_stock_breaks A_th_index_fits A_th_stock_rules A_th_stock_hs A_th_index_starts (.ref A_th_stock_letters) (.ref A_th_index_numbers) (.ref A_th_index_codes) (.ref A_th_index_signs) (.int z2) 63 th_stock_words th_stock_learnt th_learning_levels z1 th_learning_digits th_learning_good th_learning_bad th_stock_sizes th_stock_breaks f7 th_stock_rules th_stock_hs f5 F (f8, f9, f10, f11) hM) rfl 10 rfl rfl ⟨rfl, rfl, by decide, by decide⟩ (Nat.le_of_ble_eq_true rfl) [10, 2, 11, 1, 12, 13, 14, 9, 15, 7, 16, 17, 5] rfl (by decide) rfl rfl dX10_learnAnew_21 [none, some 3, some 1, none, none, some 12, none, some 9, none, some 7, some 0, some 2, some 4, some 5, some 6, some 8, some 10, some 11, none, none] (by decide) ⟨rfl, ⟨⟨rfl, rfl⟩, ⟨⟨rfl, rfl⟩, ⟨rfl, ⟨rfl, ⟨⟨rfl, rfl⟩, ⟨rfl, ⟨⟨rfl, rfl⟩, ⟨rfl, ⟨⟨rfl, rfl⟩, ⟨⟨rfl, rfl⟩, ⟨⟨rfl, rfl⟩, ⟨⟨rfl, rfl⟩, ⟨⟨rfl, rfl⟩, ⟨⟨rfl, rfl⟩, ⟨⟨rfl, rfl⟩, ⟨⟨rfl, rfl⟩, ⟨⟨rfl, rfl⟩, ⟨rfl, ⟨rfl, trivial⟩⟩⟩⟩⟩⟩⟩⟩⟩⟩⟩⟩⟩⟩⟩⟩⟩⟩⟩⟩ rfl ?_
  refine b_aload_n C dX10_learnAnew_24 rfl 0 rfl ?_
  refine gfX10_49 C 0 rfl rfl dX10_learnAnew_25 ?_
  refine b_iconst (v := 0) C dX10_learnAnew_28 (by decide) ?_
  refine pfX10_276 (w' := [(A_th, oO 9 [V_th_text, .ref A_th_stock, .ref A_th_index, .ref A_th_learning, V_th_doings, .ref A_th_tree, V_th_seen, V_th_judging, .ref A_th_chances, V_th_shelves, V_th_onShelf, V_th_theSeed]), (A_th_index, oO 2 [.ref A_th_index_numbers, .ref A_th_index_codes, .ref A_th_index_fits, .int z1, .ref A_th_index_starts, .ref A_th_index_signs, .int z2]), (A_th_stock, oO 6 [.ref A_th_stock_letters, .ref A_th_stock_breaks, .ref A_th_stock_sizes, .ref A_th_stock_rules, .ref A_th_stock_hs, .int th_stock_words, .int th_stock_learnt]), (A_th_index_numbers, iA g 1372 f3), (A_th_index_codes, iA g 270 f4), (A_th_index_starts, iA g 5 f5), (A_th_index_signs, iA g 8 f6), (A_th_index_fits, iA g 270 f7), (A_th_stock_letters, iA g 6 th_stock_letters), (A_th_stock_sizes, iA g 6 th_stock_sizes), (A_th_learning, oO 4 [.ref A_th_index, .ref A_th_learning_levels, .ref A_th_learning_good, .ref A_th_learning_bad, .ref A_th_learning_digits]), (A_th_learning_levels, iA g 270 f8), (A_th_learning_digits, iA g 30 f9), (A_th_learning_good, iA g 270 f10), (A_th_learning_bad, iA g 270 f11), (A_th_stock_breaks, iA g 6 th_stock_breaks), (A_th_stock_rules, iA g 5 th_stock_rules), (A_th_stock_hs, iA g 5 th_stock_hs), (A_th_tree, oO 8 [V_th_tree_isNode, V_th_tree_bases, V_th_tree_slots, V_th_tree_count, V_th_tree_end, .int 0]), (A_th_chances, oO 0 [V_th_chances_learning, V_th_chances_rights, .int th_chances_valued])]) C (by decide) rfl 18 rfl (Nat.le_of_ble_eq_true rfl) dX10_learnAnew_29 rfl ?_
  refine b_aload_n C dX10_learnAnew_32 rfl 0 rfl ?_
  refine gfX10_72 C 0 rfl rfl dX10_learnAnew_33 ?_
  refine b_iconst (v := 0) C dX10_learnAnew_36 (by decide) ?_
  refine pfX10_280 (w' := [(A_th, oO 9 [V_th_text, .ref A_th_stock, .ref A_th_index, .ref A_th_learning, V_th_doings, .ref A_th_tree, V_th_seen, V_th_judging, .ref A_th_chances, V_th_shelves, V_th_onShelf, V_th_theSeed]), (A_th_index, oO 2 [.ref A_th_index_numbers, .ref A_th_index_codes, .ref A_th_index_fits, .int z1, .ref A_th_index_starts, .ref A_th_index_signs, .int z2]), (A_th_stock, oO 6 [.ref A_th_stock_letters, .ref A_th_stock_breaks, .ref A_th_stock_sizes, .ref A_th_stock_rules, .ref A_th_stock_hs, .int th_stock_words, .int th_stock_learnt]), (A_th_index_numbers, iA g 1372 f3), (A_th_index_codes, iA g 270 f4), (A_th_index_starts, iA g 5 f5), (A_th_index_signs, iA g 8 f6), (A_th_index_fits, iA g 270 f7), (A_th_stock_letters, iA g 6 th_stock_letters), (A_th_stock_sizes, iA g 6 th_stock_sizes), (A_th_learning, oO 4 [.ref A_th_index, .ref A_th_learning_levels, .ref A_th_learning_good, .ref A_th_learning_bad, .ref A_th_learning_digits]), (A_th_learning_levels, iA g 270 f8), (A_th_learning_digits, iA g 30 f9), (A_th_learning_good, iA g 270 f10), (A_th_learning_bad, iA g 270 f11), (A_th_stock_breaks, iA g 6 th_stock_breaks), (A_th_stock_rules, iA g 5 th_stock_rules), (A_th_stock_hs, iA g 5 th_stock_hs), (A_th_tree, oO 8 [V_th_tree_isNode, V_th_tree_bases, V_th_tree_slots, V_th_tree_count, V_th_tree_end, .int 0]), (A_th_chances, oO 0 [V_th_chances_learning, V_th_chances_rights, .int 0])]) C (by decide) rfl 19 rfl (Nat.le_of_ble_eq_true rfl) dX10_learnAnew_37 rfl ?_
  cases hm
  exact b_vret C dX10_learnAnew_40
/-- BreakLearner.list()I -/
def m_X10_list (F : Nat)   (th_text_length : Int32) (th_text_signs : (Nat → Int32)) (th_stock_words : Int32) (th_stock_learnt : Int32) (th_stock_letters : (Nat → Int32)) (th_stock_breaks : (Nat → Int32)) (th_stock_sizes : (Nat → Int32)) (th_doings_count : Int32) (th_onShelf : (Nat → Int32)) (th_index_known : Int32) (th_index_size : Int32) (th_tree_packed : Int32) (th_chances_valued : Int32) (th_index_numbers : (Nat → Int32)) (th_index_codes : (Nat → Int32)) (th_index_starts : (Nat → Int32)) (th_index_signs : (Nat → Int32)) (th_index_fits : (Nat → Int32)) (th_stock_rules : (Nat → Int32)) (th_stock_hs : (Nat → Int32)) (th_learning_levels : (Nat → Int32)) (th_learning_digits : (Nat → Int32)) (th_learning_good : (Nat → Int32)) (th_learning_bad : (Nat → Int32)) : Option (Int32 × Int32 × Int32 × (Nat → Int32) × (Nat → Int32) × (Nat → Int32) × Int32 × (Nat → Int32) × Int32 × Int32 × Int32 × Int32 × (Nat → Int32) × (Nat → Int32) × (Nat → Int32) × (Nat → Int32) × (Nat → Int32) × (Nat → Int32) × (Nat → Int32) × (Nat → Int32) × (Nat → Int32)) :=
  bK1 (m_X8_firstFault F th_text_length th_text_signs) (fun r1 =>
  if r1 = (-9) then
    bK4 (m_X8_readInto F th_text_length th_stock_words th_text_signs th_stock_letters th_stock_breaks th_stock_sizes) (fun z2 f3 f4 f5 =>
    wl2 (fun (x7 : Int32) (f8 : (Nat → Int32)) c6 =>
      if 2 ≤ x7 then
        bK13 (m_X10_learnAnew F th_index_known th_index_size z2 0 th_index_numbers th_index_codes th_index_starts th_index_signs th_index_fits f3 f5 th_learning_levels th_learning_digits th_learning_good th_learning_bad f4 th_stock_rules th_stock_hs th_tree_packed th_chances_valued) (fun z9 z10 f11 f12 f13 f14 f15 f16 f17 f18 f19 z20 z21 =>
        some (z2, z2, 0, f3, f4, f5, 0, f8, z9, z10, z20, z21, f11, f12, f13, f14, f15, f16, f17, f18, f19)
        )
      else
        stK 2 f8 x7 (vp_nar .boolean 0) (fun f22 =>
        c6 (x7 + 1) f22
        )
      ) F 0 th_onShelf
    )
  else
    some ((-3), th_stock_words, th_stock_learnt, th_stock_letters, th_stock_breaks, th_stock_sizes, th_doings_count, th_onShelf, th_index_known, th_index_size, th_tree_packed, th_chances_valued, th_index_numbers, th_index_codes, th_index_starts, th_index_signs, th_index_fits, th_learning_levels, th_learning_digits, th_learning_good, th_learning_bad)
  )
abbrev rmX10_list : Room := { frames := 4, cells := 0, slots := 0, locals := 100 }
set_option maxHeartbeats 4000000 in
set_option maxRecDepth 100000 in
theorem c_X10_list (l : Launch) (g : Gl) (A_th A_th_text A_th_text_signs A_th_stock A_th_stock_letters A_th_stock_breaks A_th_stock_sizes A_th_doings A_th_onShelf A_th_index A_th_learning A_th_tree A_th_chances A_th_index_numbers A_th_index_codes A_th_index_starts A_th_index_signs A_th_index_fits A_th_stock_rules A_th_stock_hs A_th_learning_levels A_th_learning_digits A_th_learning_good A_th_learning_bad : Nat) (V_th_seen V_th_judging V_th_shelves V_th_theSeed V_th_doings_kinds V_th_doings_wheres V_th_doings_firsts V_th_doings_seconds V_th_tree_isNode V_th_tree_bases V_th_tree_slots V_th_tree_count V_th_tree_end V_th_chances_learning V_th_chances_rights : Value)   (th_text_length : Int32) (th_text_signs : (Nat → Int32)) (th_stock_words : Int32) (th_stock_learnt : Int32) (th_stock_letters : (Nat → Int32)) (th_stock_breaks : (Nat → Int32)) (th_stock_sizes : (Nat → Int32)) (th_doings_count : Int32) (th_onShelf : (Nat → Int32)) (th_index_known : Int32) (th_index_size : Int32) (th_tree_packed : Int32) (th_chances_valued : Int32) (th_index_numbers : (Nat → Int32)) (th_index_codes : (Nat → Int32)) (th_index_starts : (Nat → Int32)) (th_index_signs : (Nat → Int32)) (th_index_fits : (Nat → Int32)) (th_stock_rules : (Nat → Int32)) (th_stock_hs : (Nat → Int32)) (th_learning_levels : (Nat → Int32)) (th_learning_digits : (Nat → Int32)) (th_learning_good : (Nat → Int32)) (th_learning_bad : (Nat → Int32)) (F : Nat) (u : Int32 × Int32 × Int32 × (Nat → Int32) × (Nat → Int32) × (Nat → Int32) × Int32 × (Nat → Int32) × Int32 × Int32 × Int32 × Int32 × (Nat → Int32) × (Nat → Int32) × (Nat → Int32) × (Nat → Int32) × (Nat → Int32) × (Nat → Int32) × (Nat → Int32) × (Nat → Int32) × (Nat → Int32)) (hm : m_X10_list F th_text_length th_text_signs th_stock_words th_stock_learnt th_stock_letters th_stock_breaks th_stock_sizes th_doings_count th_onShelf th_index_known th_index_size th_tree_packed th_chances_valued th_index_numbers th_index_codes th_index_starts th_index_signs th_index_fits th_stock_rules th_stock_hs th_learning_levels th_learning_digits th_learning_good th_learning_bad = some u) : Ct l g yX10_list cX10_list 2 (some .int) rmX10_list [.ref A_th] [(A_th, oO 9 [.ref A_th_text, .ref A_th_stock, .ref A_th_index, .ref A_th_learning, .ref A_th_doings, .ref A_th_tree, V_th_seen, V_th_judging, .ref A_th_chances, V_th_shelves, .ref A_th_onShelf, V_th_theSeed]), (A_th_text, oO 7 [.ref A_th_text_signs, .int th_text_length]), (A_th_text_signs, iA g 64 th_text_signs), (A_th_stock, oO 6 [.ref A_th_stock_letters, .ref A_th_stock_breaks, .ref A_th_stock_sizes, .ref A_th_stock_rules, .ref A_th_stock_hs, .int th_stock_words, .int th_stock_learnt]), (A_th_stock_letters, iA g 6 th_stock_letters), (A_th_stock_breaks, iA g 6 th_stock_breaks), (A_th_stock_sizes, iA g 6 th_stock_sizes), (A_th_doings, oO 1 [V_th_doings_kinds, V_th_doings_wheres, V_th_doings_firsts, V_th_doings_seconds, .int th_doings_count]), (A_th_onShelf, zA g 2 th_onShelf), (A_th_index, oO 2 [.ref A_th_index_numbers, .ref A_th_index_codes, .ref A_th_index_fits, .int th_index_known, .ref A_th_index_starts, .ref A_th_index_signs, .int th_index_size]), (A_th_learning, oO 4 [.ref A_th_index, .ref A_th_learning_levels, .ref A_th_learning_good, .ref A_th_learning_bad, .ref A_th_learning_digits]), (A_th_tree, oO 8 [V_th_tree_isNode, V_th_tree_bases, V_th_tree_slots, V_th_tree_count, V_th_tree_end, .int th_tree_packed]), (A_th_chances, oO 0 [V_th_chances_learning, V_th_chances_rights, .int th_chances_valued]), (A_th_index_numbers, iA g 1372 th_index_numbers), (A_th_index_codes, iA g 270 th_index_codes), (A_th_index_starts, iA g 5 th_index_starts), (A_th_index_signs, iA g 8 th_index_signs), (A_th_index_fits, iA g 270 th_index_fits), (A_th_stock_rules, iA g 5 th_stock_rules), (A_th_stock_hs, iA g 5 th_stock_hs), (A_th_learning_levels, iA g 270 th_learning_levels), (A_th_learning_digits, iA g 30 th_learning_digits), (A_th_learning_good, iA g 270 th_learning_good), (A_th_learning_bad, iA g 270 th_learning_bad)] (some (.int u.1)) [(A_th, oO 9 [.ref A_th_text, .ref A_th_stock, .ref A_th_index, .ref A_th_learning, .ref A_th_doings, .ref A_th_tree, V_th_seen, V_th_judging, .ref A_th_chances, V_th_shelves, .ref A_th_onShelf, V_th_theSeed]), (A_th_text, oO 7 [.ref A_th_text_signs, .int th_text_length]), (A_th_text_signs, iA g 64 th_text_signs), (A_th_stock, oO 6 [.ref A_th_stock_letters, .ref A_th_stock_breaks, .ref A_th_stock_sizes, .ref A_th_stock_rules, .ref A_th_stock_hs, .int u.2.1, .int u.2.2.1]), (A_th_stock_letters, iA g 6 u.2.2.2.1), (A_th_stock_breaks, iA g 6 u.2.2.2.2.1), (A_th_stock_sizes, iA g 6 u.2.2.2.2.2.1), (A_th_doings, oO 1 [V_th_doings_kinds, V_th_doings_wheres, V_th_doings_firsts, V_th_doings_seconds, .int u.2.2.2.2.2.2.1]), (A_th_onShelf, zA g 2 u.2.2.2.2.2.2.2.1), (A_th_index, oO 2 [.ref A_th_index_numbers, .ref A_th_index_codes, .ref A_th_index_fits, .int u.2.2.2.2.2.2.2.2.1, .ref A_th_index_starts, .ref A_th_index_signs, .int u.2.2.2.2.2.2.2.2.2.1]), (A_th_learning, oO 4 [.ref A_th_index, .ref A_th_learning_levels, .ref A_th_learning_good, .ref A_th_learning_bad, .ref A_th_learning_digits]), (A_th_tree, oO 8 [V_th_tree_isNode, V_th_tree_bases, V_th_tree_slots, V_th_tree_count, V_th_tree_end, .int u.2.2.2.2.2.2.2.2.2.2.1]), (A_th_chances, oO 0 [V_th_chances_learning, V_th_chances_rights, .int u.2.2.2.2.2.2.2.2.2.2.2.1]), (A_th_index_numbers, iA g 1372 u.2.2.2.2.2.2.2.2.2.2.2.2.1), (A_th_index_codes, iA g 270 u.2.2.2.2.2.2.2.2.2.2.2.2.2.1), (A_th_index_starts, iA g 5 u.2.2.2.2.2.2.2.2.2.2.2.2.2.2.1), (A_th_index_signs, iA g 8 u.2.2.2.2.2.2.2.2.2.2.2.2.2.2.2.1), (A_th_index_fits, iA g 270 u.2.2.2.2.2.2.2.2.2.2.2.2.2.2.2.2.1), (A_th_stock_rules, iA g 5 th_stock_rules), (A_th_stock_hs, iA g 5 th_stock_hs), (A_th_learning_levels, iA g 270 u.2.2.2.2.2.2.2.2.2.2.2.2.2.2.2.2.2.1), (A_th_learning_digits, iA g 30 u.2.2.2.2.2.2.2.2.2.2.2.2.2.2.2.2.2.2.1), (A_th_learning_good, iA g 270 u.2.2.2.2.2.2.2.2.2.2.2.2.2.2.2.2.2.2.2.1), (A_th_learning_bad, iA g 270 u.2.2.2.2.2.2.2.2.2.2.2.2.2.2.2.2.2.2.2.2)] := by
  refine ent (own := RX10) (lv := [(0, .ref A_th)]) (by decide) rfl (Nat.le_of_ble_eq_true rfl) rfl rfl ?_
  intro x C
  unfold m_X10_list at hm
  refine b_aload_n C dX10_list_0 rfl 0 rfl ?_
  refine gfX10_12 C 0 rfl rfl dX10_list_1 ?_
  obtain ⟨r1, hM, hm⟩ := bK1_some hm
  refine b_kV (w' := [(A_th, oO 9 [.ref A_th_text, .ref A_th_stock, .ref A_th_index, .ref A_th_learning, .ref A_th_doings, .ref A_th_tree, V_th_seen, V_th_judging, .ref A_th_chances, V_th_shelves, .ref A_th_onShelf, V_th_theSeed]), (A_th_text, oO 7 [.ref A_th_text_signs, .int th_text_length]), (A_th_text_signs, iA g 64 th_text_signs), (A_th_stock, oO 6 [.ref A_th_stock_letters, .ref A_th_stock_breaks, .ref A_th_stock_sizes, .ref A_th_stock_rules, .ref A_th_stock_hs, .int th_stock_words, .int th_stock_learnt]), (A_th_stock_letters, iA g 6 th_stock_letters), (A_th_stock_breaks, iA g 6 th_stock_breaks), (A_th_stock_sizes, iA g 6 th_stock_sizes), (A_th_doings, oO 1 [V_th_doings_kinds, V_th_doings_wheres, V_th_doings_firsts, V_th_doings_seconds, .int th_doings_count]), (A_th_onShelf, zA g 2 th_onShelf), (A_th_index, oO 2 [.ref A_th_index_numbers, .ref A_th_index_codes, .ref A_th_index_fits, .int th_index_known, .ref A_th_index_starts, .ref A_th_index_signs, .int th_index_size]), (A_th_learning, oO 4 [.ref A_th_index, .ref A_th_learning_levels, .ref A_th_learning_good, .ref A_th_learning_bad, .ref A_th_learning_digits]), (A_th_tree, oO 8 [V_th_tree_isNode, V_th_tree_bases, V_th_tree_slots, V_th_tree_count, V_th_tree_end, .int th_tree_packed]), (A_th_chances, oO 0 [V_th_chances_learning, V_th_chances_rights, .int th_chances_valued]), (A_th_index_numbers, iA g 1372 th_index_numbers), (A_th_index_codes, iA g 270 th_index_codes), (A_th_index_starts, iA g 5 th_index_starts), (A_th_index_signs, iA g 8 th_index_signs), (A_th_index_fits, iA g 270 th_index_fits), (A_th_stock_rules, iA g 5 th_stock_rules), (A_th_stock_hs, iA g 5 th_stock_hs), (A_th_learning_levels, iA g 270 th_learning_levels), (A_th_learning_digits, iA g 30 th_learning_digits), (A_th_learning_good, iA g 270 th_learning_good), (A_th_learning_bad, iA g 270 th_learning_bad)]) (st := []) (st2 := [.int r1]) C cv_X8_firstFault tb368 (c_X8_firstFault l g A_th_text A_th_text_signs th_text_length th_text_signs F r1 hM) rfl 1 rfl rfl ⟨rfl, rfl, by decide, by decide⟩ (Nat.le_of_ble_eq_true rfl) [1, 2] rfl (by decide) rfl rfl dX10_list_4 [none, some 0, some 1, none, none, none, none, none, none, none, none, none, none, none, none, none, none, none, none, none, none, none, none, none] (by decide) ⟨rfl, ⟨⟨rfl, rfl⟩, ⟨⟨rfl, rfl⟩, ⟨rfl, ⟨rfl, ⟨rfl, ⟨rfl, ⟨rfl, ⟨rfl, ⟨rfl, ⟨rfl, ⟨rfl, ⟨rfl, ⟨rfl, ⟨rfl, ⟨rfl, ⟨rfl, ⟨rfl, ⟨rfl, ⟨rfl, ⟨rfl, ⟨rfl, ⟨rfl, ⟨rfl, trivial⟩⟩⟩⟩⟩⟩⟩⟩⟩⟩⟩⟩⟩⟩⟩⟩⟩⟩⟩⟩⟩⟩⟩⟩ rfl ?_
  refine b_bipush (v := (-9)) C dX10_list_7 (by decide) ?_
  refine b_icmp_eq (tgt := 15) C dX10_list_9 (by decide) hm (fun hm => ?_) (fun hm => ?_)
  · refine b_aload_n C dX10_list_15 rfl 0 rfl ?_
    refine gfX10_12 C 0 rfl rfl dX10_list_16 ?_
    refine b_aload_n C dX10_list_19 rfl 0 rfl ?_
    refine gfX10_19 C 0 rfl rfl dX10_list_20 ?_
    obtain ⟨z2, f3, f4, f5, hM, hm⟩ := bK4_some hm
    refine b_kV (w' := [(A_th, oO 9 [.ref A_th_text, .ref A_th_stock, .ref A_th_index, .ref A_th_learning, .ref A_th_doings, .ref A_th_tree, V_th_seen, V_th_judging, .ref A_th_chances, V_th_shelves, .ref A_th_onShelf, V_th_theSeed]), (A_th_text, oO 7 [.ref A_th_text_signs, .int th_text_length]), (A_th_text_signs, iA g 64 th_text_signs), (A_th_stock, oO 6 [.ref A_th_stock_letters, .ref A_th_stock_breaks, .ref A_th_stock_sizes, .ref A_th_stock_rules, .ref A_th_stock_hs, .int z2, .int th_stock_learnt]), (A_th_stock_letters, iA g 6 f3), (A_th_stock_breaks, iA g 6 f4), (A_th_stock_sizes, iA g 6 f5), (A_th_doings, oO 1 [V_th_doings_kinds, V_th_doings_wheres, V_th_doings_firsts, V_th_doings_seconds, .int th_doings_count]), (A_th_onShelf, zA g 2 th_onShelf), (A_th_index, oO 2 [.ref A_th_index_numbers, .ref A_th_index_codes, .ref A_th_index_fits, .int th_index_known, .ref A_th_index_starts, .ref A_th_index_signs, .int th_index_size]), (A_th_learning, oO 4 [.ref A_th_index, .ref A_th_learning_levels, .ref A_th_learning_good, .ref A_th_learning_bad, .ref A_th_learning_digits]), (A_th_tree, oO 8 [V_th_tree_isNode, V_th_tree_bases, V_th_tree_slots, V_th_tree_count, V_th_tree_end, .int th_tree_packed]), (A_th_chances, oO 0 [V_th_chances_learning, V_th_chances_rights, .int th_chances_valued]), (A_th_index_numbers, iA g 1372 th_index_numbers), (A_th_index_codes, iA g 270 th_index_codes), (A_th_index_starts, iA g 5 th_index_starts), (A_th_index_signs, iA g 8 th_index_signs), (A_th_index_fits, iA g 270 th_index_fits), (A_th_stock_rules, iA g 5 th_stock_rules), (A_th_stock_hs, iA g 5 th_stock_hs), (A_th_learning_levels, iA g 270 th_learning_levels), (A_th_learning_digits, iA g 30 th_learning_digits), (A_th_learning_good, iA g 270 th_learning_good), (A_th_learning_bad, iA g 270 th_learning_bad)]) (st := []) (st2 := []) C cv_X8_readInto tb379 (c_X8_readInto l g A_th_text A_th_stock A_th_text_signs A_th_stock_letters A_th_stock_breaks A_th_stock_sizes (.ref A_th_stock_rules) (.ref A_th_stock_hs) (.int th_stock_learnt) th_text_length th_stock_words th_text_signs th_stock_letters th_stock_breaks th_stock_sizes F (z2, f3, f4, f5) hM) rfl 1 rfl rfl ⟨rfl, rfl, by decide, by decide⟩ (Nat.le_of_ble_eq_true rfl) [1, 3, 2, 4, 5, 6] rfl (by decide) rfl rfl dX10_list_23 [none, some 0, some 2, some 1, some 3, some 4, some 5, none, none, none, none, none, none, none, none, none, none, none, none, none, none, none, none, none] (by decide) ⟨rfl, ⟨⟨rfl, rfl⟩, ⟨⟨rfl, rfl⟩, ⟨⟨rfl, rfl⟩, ⟨⟨rfl, rfl⟩, ⟨⟨rfl, rfl⟩, ⟨⟨rfl, rfl⟩, ⟨rfl, ⟨rfl, ⟨rfl, ⟨rfl, ⟨rfl, ⟨rfl, ⟨rfl, ⟨rfl, ⟨rfl, ⟨rfl, ⟨rfl, ⟨rfl, ⟨rfl, ⟨rfl, ⟨rfl, ⟨rfl, ⟨rfl, trivial⟩⟩⟩⟩⟩⟩⟩⟩⟩⟩⟩⟩⟩⟩⟩⟩⟩⟩⟩⟩⟩⟩⟩⟩ rfl ?_
    refine b_aload_n C dX10_list_26 rfl 0 rfl ?_
    refine gfX10_19 C 0 rfl rfl dX10_list_27 ?_
    refine b_iconst (v := 0) C dX10_list_30 (by decide) ?_
    refine pfX10_104 (w' := [(A_th, oO 9 [.ref A_th_text, .ref A_th_stock, .ref A_th_index, .ref A_th_learning, .ref A_th_doings, .ref A_th_tree, V_th_seen, V_th_judging, .ref A_th_chances, V_th_shelves, .ref A_th_onShelf, V_th_theSeed]), (A_th_text, oO 7 [.ref A_th_text_signs, .int th_text_length]), (A_th_text_signs, iA g 64 th_text_signs), (A_th_stock, oO 6 [.ref A_th_stock_letters, .ref A_th_stock_breaks, .ref A_th_stock_sizes, .ref A_th_stock_rules, .ref A_th_stock_hs, .int z2, .int 0]), (A_th_stock_letters, iA g 6 f3), (A_th_stock_breaks, iA g 6 f4), (A_th_stock_sizes, iA g 6 f5), (A_th_doings, oO 1 [V_th_doings_kinds, V_th_doings_wheres, V_th_doings_firsts, V_th_doings_seconds, .int th_doings_count]), (A_th_onShelf, zA g 2 th_onShelf), (A_th_index, oO 2 [.ref A_th_index_numbers, .ref A_th_index_codes, .ref A_th_index_fits, .int th_index_known, .ref A_th_index_starts, .ref A_th_index_signs, .int th_index_size]), (A_th_learning, oO 4 [.ref A_th_index, .ref A_th_learning_levels, .ref A_th_learning_good, .ref A_th_learning_bad, .ref A_th_learning_digits]), (A_th_tree, oO 8 [V_th_tree_isNode, V_th_tree_bases, V_th_tree_slots, V_th_tree_count, V_th_tree_end, .int th_tree_packed]), (A_th_chances, oO 0 [V_th_chances_learning, V_th_chances_rights, .int th_chances_valued]), (A_th_index_numbers, iA g 1372 th_index_numbers), (A_th_index_codes, iA g 270 th_index_codes), (A_th_index_starts, iA g 5 th_index_starts), (A_th_index_signs, iA g 8 th_index_signs), (A_th_index_fits, iA g 270 th_index_fits), (A_th_stock_rules, iA g 5 th_stock_rules), (A_th_stock_hs, iA g 5 th_stock_hs), (A_th_learning_levels, iA g 270 th_learning_levels), (A_th_learning_digits, iA g 30 th_learning_digits), (A_th_learning_good, iA g 270 th_learning_good), (A_th_learning_bad, iA g 270 th_learning_bad)]) C rfl rfl 3 rfl (Nat.le_of_ble_eq_true rfl) dX10_list_31 rfl ?_
    refine b_aload_n C dX10_list_34 rfl 0 rfl ?_
    refine gfX10_42 C 0 rfl rfl dX10_list_35 ?_
    refine b_iconst (v := 0) C dX10_list_38 (by decide) ?_
    refine pfX10_107 (w' := [(A_th, oO 9 [.ref A_th_text, .ref A_th_stock, .ref A_th_index, .ref A_th_learning, .ref A_th_doings, .ref A_th_tree, V_th_seen, V_th_judging, .ref A_th_chances, V_th_shelves, .ref A_th_onShelf, V_th_theSeed]), (A_th_text, oO 7 [.ref A_th_text_signs, .int th_text_length]), (A_th_text_signs, iA g 64 th_text_signs), (A_th_stock, oO 6 [.ref A_th_stock_letters, .ref A_th_stock_breaks, .ref A_th_stock_sizes, .ref A_th_stock_rules, .ref A_th_stock_hs, .int z2, .int 0]), (A_th_stock_letters, iA g 6 f3), (A_th_stock_breaks, iA g 6 f4), (A_th_stock_sizes, iA g 6 f5), (A_th_doings, oO 1 [V_th_doings_kinds, V_th_doings_wheres, V_th_doings_firsts, V_th_doings_seconds, .int 0]), (A_th_onShelf, zA g 2 th_onShelf), (A_th_index, oO 2 [.ref A_th_index_numbers, .ref A_th_index_codes, .ref A_th_index_fits, .int th_index_known, .ref A_th_index_starts, .ref A_th_index_signs, .int th_index_size]), (A_th_learning, oO 4 [.ref A_th_index, .ref A_th_learning_levels, .ref A_th_learning_good, .ref A_th_learning_bad, .ref A_th_learning_digits]), (A_th_tree, oO 8 [V_th_tree_isNode, V_th_tree_bases, V_th_tree_slots, V_th_tree_count, V_th_tree_end, .int th_tree_packed]), (A_th_chances, oO 0 [V_th_chances_learning, V_th_chances_rights, .int th_chances_valued]), (A_th_index_numbers, iA g 1372 th_index_numbers), (A_th_index_codes, iA g 270 th_index_codes), (A_th_index_starts, iA g 5 th_index_starts), (A_th_index_signs, iA g 8 th_index_signs), (A_th_index_fits, iA g 270 th_index_fits), (A_th_stock_rules, iA g 5 th_stock_rules), (A_th_stock_hs, iA g 5 th_stock_hs), (A_th_learning_levels, iA g 270 th_learning_levels), (A_th_learning_digits, iA g 30 th_learning_digits), (A_th_learning_good, iA g 270 th_learning_good), (A_th_learning_bad, iA g 270 th_learning_bad)]) C rfl rfl 7 rfl (Nat.le_of_ble_eq_true rfl) dX10_list_39 rfl ?_
    refine b_iconst (v := 0) C dX10_list_42 (by decide) ?_
    refine b_istore_n (lv' := [(1, .int 0), (0, .ref A_th)]) C dX10_list_43 rfl (by decide) rfl ?_
    refine Wb.lv (lv' := [(0, .ref A_th), (1, .int 0)]) ?_ [1, 0] rfl
    refine wl2_W (Wg := fun (x7 : Int32) (f8 : (Nat → Int32)) => Wb x [(A_th, oO 9 [.ref A_th_text, .ref A_th_stock, .ref A_th_index, .ref A_th_learning, .ref A_th_doings, .ref A_th_tree, V_th_seen, V_th_judging, .ref A_th_chances, V_th_shelves, .ref A_th_onShelf, V_th_theSeed]), (A_th_text, oO 7 [.ref A_th_text_signs, .int th_text_length]), (A_th_text_signs, iA g 64 th_text_signs), (A_th_stock, oO 6 [.ref A_th_stock_letters, .ref A_th_stock_breaks, .ref A_th_stock_sizes, .ref A_th_stock_rules, .ref A_th_stock_hs, .int z2, .int 0]), (A_th_stock_letters, iA g 6 f3), (A_th_stock_breaks, iA g 6 f4), (A_th_stock_sizes, iA g 6 f5), (A_th_doings, oO 1 [V_th_doings_kinds, V_th_doings_wheres, V_th_doings_firsts, V_th_doings_seconds, .int 0]), (A_th_onShelf, zA g 2 f8), (A_th_index, oO 2 [.ref A_th_index_numbers, .ref A_th_index_codes, .ref A_th_index_fits, .int th_index_known, .ref A_th_index_starts, .ref A_th_index_signs, .int th_index_size]), (A_th_learning, oO 4 [.ref A_th_index, .ref A_th_learning_levels, .ref A_th_learning_good, .ref A_th_learning_bad, .ref A_th_learning_digits]), (A_th_tree, oO 8 [V_th_tree_isNode, V_th_tree_bases, V_th_tree_slots, V_th_tree_count, V_th_tree_end, .int th_tree_packed]), (A_th_chances, oO 0 [V_th_chances_learning, V_th_chances_rights, .int th_chances_valued]), (A_th_index_numbers, iA g 1372 th_index_numbers), (A_th_index_codes, iA g 270 th_index_codes), (A_th_index_starts, iA g 5 th_index_starts), (A_th_index_signs, iA g 8 th_index_signs), (A_th_index_fits, iA g 270 th_index_fits), (A_th_stock_rules, iA g 5 th_stock_rules), (A_th_stock_hs, iA g 5 th_stock_hs), (A_th_learning_levels, iA g 270 th_learning_levels), (A_th_learning_digits, iA g 30 th_learning_digits), (A_th_learning_good, iA g 270 th_learning_good), (A_th_learning_bad, iA g 270 th_learning_bad)] [(0, .ref A_th), (1, .int x7)] 44 []) ?_ F 0 th_onShelf hm
    intro x7 f8 c6 hc6 hm
    refine b_iload_n C dX10_list_44 rfl 1 rfl ?_
    refine b_iconst (v := 2) C dX10_list_45 (by decide) ?_
    refine b_icmp_ge (tgt := 62) C dX10_list_46 (by decide) hm (fun hm => ?_) (fun hm => ?_)
    · refine b_aload_n C dX10_list_62 rfl 0 rfl ?_
      obtain ⟨z9, z10, f11, f12, f13, f14, f15, f16, f17, f18, f19, z20, z21, hM, hm⟩ := bK13_some hm
      refine b_kV (w' := [(A_th, oO 9 [.ref A_th_text, .ref A_th_stock, .ref A_th_index, .ref A_th_learning, .ref A_th_doings, .ref A_th_tree, V_th_seen, V_th_judging, .ref A_th_chances, V_th_shelves, .ref A_th_onShelf, V_th_theSeed]), (A_th_text, oO 7 [.ref A_th_text_signs, .int th_text_length]), (A_th_text_signs, iA g 64 th_text_signs), (A_th_stock, oO 6 [.ref A_th_stock_letters, .ref A_th_stock_breaks, .ref A_th_stock_sizes, .ref A_th_stock_rules, .ref A_th_stock_hs, .int z2, .int 0]), (A_th_stock_letters, iA g 6 f3), (A_th_stock_breaks, iA g 6 f4), (A_th_stock_sizes, iA g 6 f5), (A_th_doings, oO 1 [V_th_doings_kinds, V_th_doings_wheres, V_th_doings_firsts, V_th_doings_seconds, .int 0]), (A_th_onShelf, zA g 2 f8), (A_th_index, oO 2 [.ref A_th_index_numbers, .ref A_th_index_codes, .ref A_th_index_fits, .int z9, .ref A_th_index_starts, .ref A_th_index_signs, .int z10]), (A_th_learning, oO 4 [.ref A_th_index, .ref A_th_learning_levels, .ref A_th_learning_good, .ref A_th_learning_bad, .ref A_th_learning_digits]), (A_th_tree, oO 8 [V_th_tree_isNode, V_th_tree_bases, V_th_tree_slots, V_th_tree_count, V_th_tree_end, .int z20]), (A_th_chances, oO 0 [V_th_chances_learning, V_th_chances_rights, .int z21]), (A_th_index_numbers, iA g 1372 f11), (A_th_index_codes, iA g 270 f12), (A_th_index_starts, iA g 5 f13), (A_th_index_signs, iA g 8 f14), (A_th_index_fits, iA g 270 f15), (A_th_stock_rules, iA g 5 th_stock_rules), (A_th_stock_hs, iA g 5 th_stock_hs), (A_th_learning_levels, iA g 270 f16), (A_th_learning_digits, iA g 30 f17), (A_th_learning_good, iA g 270 f18), (A_th_learning_bad, iA g 270 f19)]) (st := []) (st2 := []) C cv_X10_learnAnew tb395 (c_X10_learnAnew l g A_th A_th_index A_th_stock A_th_index_numbers A_th_index_codes A_th_index_starts A_th_index_signs A_th_index_fits A_th_stock_letters A_th_stock_sizes A_th_learning A_th_learning_levels A_th_learning_digits A_th_learning_good A_th_learning_bad A_th_stock_breaks A_th_stock_rules A_th_stock_hs A_th_tree A_th_chances (.ref A_th_text) (.ref A_th_doings) V_th_seen V_th_judging V_th_shelves (.ref A_th_onShelf) V_th_theSeed V_th_tree_isNode V_th_tree_bases V_th_tree_slots V_th_tree_count V_th_tree_end V_th_chances_learning V_th_chances_rights th_index_known th_index_size z2 0 th_index_numbers th_index_codes th_index_starts th_index_signs th_index_fits f3 f5 th_learning_levels th_learning_digits th_learning_good th_learning_bad f4 th_stock_rules th_stock_hs th_tree_packed th_chances_valued F (z9, z10, f11, f12, f13, f14, f15, f16, f17, f18, f19, z20, z21) hM) rfl 0 rfl rfl ⟨rfl, rfl, by decide, by decide⟩ (Nat.le_of_ble_eq_true rfl) [0, 9, 3, 13, 14, 15, 16, 17, 4, 6, 10, 20, 21, 22, 23, 5, 18, 19, 11, 12] rfl (by decide) rfl rfl dX10_list_63 [some 0, none, none, some 2, some 8, some 15, some 9, none, none, some 1, some 10, some 18, some 19, some 3, some 4, some 5, some 6, some 7, some 16, some 17, some 11, some 12, some 13, some 14] (by decide) ⟨⟨rfl, rfl⟩, ⟨rfl, ⟨rfl, ⟨⟨rfl, rfl⟩, ⟨⟨rfl, rfl⟩, ⟨⟨rfl, rfl⟩, ⟨⟨rfl, rfl⟩, ⟨rfl, ⟨rfl, ⟨⟨rfl, rfl⟩, ⟨⟨rfl, rfl⟩, ⟨⟨rfl, rfl⟩, ⟨⟨rfl, rfl⟩, ⟨⟨rfl, rfl⟩, ⟨⟨rfl, rfl⟩, ⟨⟨rfl, rfl⟩, ⟨⟨rfl, rfl⟩, ⟨⟨rfl, rfl⟩, ⟨⟨rfl, rfl⟩, ⟨⟨rfl, rfl⟩, ⟨⟨rfl, rfl⟩, ⟨⟨rfl, rfl⟩, ⟨⟨rfl, rfl⟩, ⟨⟨rfl, rfl⟩, trivial⟩⟩⟩⟩⟩⟩⟩⟩⟩⟩⟩⟩⟩⟩⟩⟩⟩⟩⟩⟩⟩⟩⟩⟩ rfl ?_
      refine b_aload_n C dX10_list_66 rfl 0 rfl ?_
      refine gfX10_19 C 0 rfl rfl dX10_list_67 ?_
      refine gfX10_113 C 3 rfl rfl dX10_list_70 ?_
      cases hm
      exact b_iret C dX10_list_73
    · refine b_aload_n C dX10_list_49 rfl 0 rfl ?_
      refine gfX10_80 C 0 rfl rfl dX10_list_50 ?_
      refine b_iload_n C dX10_list_53 rfl 1 rfl ?_
      refine b_iconst (v := 0) C dX10_list_54 (by decide) ?_
      refine b_zast C 8 rfl dX10_list_55 hm (fun f22 hm => Wb.to (w' := [(A_th, oO 9 [.ref A_th_text, .ref A_th_stock, .ref A_th_index, .ref A_th_learning, .ref A_th_doings, .ref A_th_tree, V_th_seen, V_th_judging, .ref A_th_chances, V_th_shelves, .ref A_th_onShelf, V_th_theSeed]), (A_th_text, oO 7 [.ref A_th_text_signs, .int th_text_length]), (A_th_text_signs, iA g 64 th_text_signs), (A_th_stock, oO 6 [.ref A_th_stock_letters, .ref A_th_stock_breaks, .ref A_th_stock_sizes, .ref A_th_stock_rules, .ref A_th_stock_hs, .int z2, .int 0]), (A_th_stock_letters, iA g 6 f3), (A_th_stock_breaks, iA g 6 f4), (A_th_stock_sizes, iA g 6 f5), (A_th_doings, oO 1 [V_th_doings_kinds, V_th_doings_wheres, V_th_doings_firsts, V_th_doings_seconds, .int 0]), (A_th_onShelf, zA g 2 f22), (A_th_index, oO 2 [.ref A_th_index_numbers, .ref A_th_index_codes, .ref A_th_index_fits, .int th_index_known, .ref A_th_index_starts, .ref A_th_index_signs, .int th_index_size]), (A_th_learning, oO 4 [.ref A_th_index, .ref A_th_learning_levels, .ref A_th_learning_good, .ref A_th_learning_bad, .ref A_th_learning_digits]), (A_th_tree, oO 8 [V_th_tree_isNode, V_th_tree_bases, V_th_tree_slots, V_th_tree_count, V_th_tree_end, .int th_tree_packed]), (A_th_chances, oO 0 [V_th_chances_learning, V_th_chances_rights, .int th_chances_valued]), (A_th_index_numbers, iA g 1372 th_index_numbers), (A_th_index_codes, iA g 270 th_index_codes), (A_th_index_starts, iA g 5 th_index_starts), (A_th_index_signs, iA g 8 th_index_signs), (A_th_index_fits, iA g 270 th_index_fits), (A_th_stock_rules, iA g 5 th_stock_rules), (A_th_stock_hs, iA g 5 th_stock_hs), (A_th_learning_levels, iA g 270 th_learning_levels), (A_th_learning_digits, iA g 30 th_learning_digits), (A_th_learning_good, iA g 270 th_learning_good), (A_th_learning_bad, iA g 270 th_learning_bad)]) rfl ?_)
      refine b_iinc (v2 := x7 + 1) (lv' := [(1, .int (x7 + 1)), (0, .ref A_th)]) C dX10_list_56 1 rfl rfl (by decide) rfl ?_
      refine b_goto (tgt := 44) C dX10_list_59 (by decide) ?_
      exact Wb.lv (hc6 (x7 + 1) f22 hm) [1, 0] rfl
  · refine b_bipush (v := (-3)) C dX10_list_12 (by decide) ?_
    cases hm
    exact b_iret C dX10_list_14
