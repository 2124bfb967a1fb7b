/-- BreakLearnerModel.learn([II)V -/
def m_X11_learn (F : Nat)  (n2 : Int32) (th_signMany : Int32) (p1 : (Nat → Int32)) (th_plan : (Nat → Int32)) (th_signs : (Nat → Int32)) (th_digits : (Nat → Int32)) (th_good : (Nat → Int32)) (th_bad : (Nat → Int32)) : Option (Int32 × (Nat → Int32) × (Nat → Int32) × (Nat → Int32) × (Nat → Int32) × (Nat → Int32)) :=
  wl2 (fun (x2 : Int32) (f3 : (Nat → Int32)) c1 =>
    if 1372 ≤ x2 then
      wl7 (fun (x5 : Int32) (z6 : Int32) (f7 : (Nat → Int32)) (f8 : (Nat → Int32)) (f9 : (Nat → Int32)) (f10 : (Nat → Int32)) (f11 : (Nat → Int32)) c4 =>
        rdK 22 p1 21 (fun v12 =>
        if v12 < x5 then
          bK3 (m_X11_layDigits F z6 p1 f8 f9 f7) (fun z13 f14 f15 =>
          some (z13, f7, f14, f15, f10, f11)
          )
        else
          wl7 (fun (x17 : Int32) (z18 : Int32) (f19 : (Nat → Int32)) (f20 : (Nat → Int32)) (f21 : (Nat → Int32)) (f22 : (Nat → Int32)) (f23 : (Nat → Int32)) c16 =>
            if 4 ≤ x17 then
              c4 (x5 + 1) z18 f19 f20 f21 f22 f23
            else
              bK3 (m_X11_layDigits F z18 p1 f20 f21 f19) (fun z24 f25 f26 =>
              bK4 (m_X11_count F n2 x5 x17 z24 p1 f22 f23 f25 f26) (fun z27 f28 f29 f30 =>
              wl2 (fun (x32 : Int32) (f33 : (Nat → Int32)) c31 =>
                if 1372 ≤ x32 then
                  c16 (x17 + 1) z27 f33 f30 f26 f28 f29
                else
                  rdK 22 p1 ((13 + x5) - 1) (fun v34 =>
                  rdK 22 p1 ((17 + x5) - 1) (fun v35 =>
                  rdK 1372 f28 x32 (fun v36 =>
                  rdK 1372 f29 x32 (fun v37 =>
                  bK1 (m_X11_keeps F v34 v35 v36 v37) (fun r38 =>
                  jn1 (fun (y39 : Int32) =>
                    stK 1372 f33 x32 y39 (fun f41 =>
                    c31 (x32 + 1) f41
                    )
                    ) (fun k40 =>
                    if r38 = 0 then
                      rdK 1372 f33 x32 (fun v42 =>
                      k40 v42
                      )
                    else
                      k40 x5
                    )
                  )
                  )
                  )
                  )
                  )
                ) F 0 f19
              )
              )
            ) F 1 z6 f7 f8 f9 f10 f11
        )
        ) F 1 th_signMany f3 th_signs th_digits th_good th_bad
    else
      stK 1372 f3 x2 0 (fun f43 =>
      c1 (x2 + 1) f43
      )
    ) F 0 th_plan
abbrev rmX11_learn : Room := { frames := 4, cells := 0, slots := 0, locals := 103 }
set_option maxHeartbeats 4000000 in
set_option maxRecDepth 100000 in
theorem c_X11_learn (l : Launch) (g : Gl) (A_th A_p1 A_th_plan A_th_signs A_th_digits A_th_good A_th_bad : Nat) (V_th_thrown V_th_text V_th_textSize V_th_readPage V_th_page V_th_trial V_th_book V_th_doings V_th_kept V_th_isKept V_th_seen V_th_seenPlace V_th_seenDigit V_th_seenIs V_th_seed V_th_isNode V_th_base V_th_slot V_th_whichMany V_th_whichFirst V_th_value : Value)  (n2 : Int32) (th_signMany : Int32) (p1 : (Nat → Int32)) (th_plan : (Nat → Int32)) (th_signs : (Nat → Int32)) (th_digits : (Nat → Int32)) (th_good : (Nat → Int32)) (th_bad : (Nat → Int32)) (F : Nat) (u : Int32 × (Nat → Int32) × (Nat → Int32) × (Nat → Int32) × (Nat → Int32) × (Nat → Int32)) (hm : m_X11_learn F n2 th_signMany p1 th_plan th_signs th_digits th_good th_bad = some u) : Ct l g yX11_learn cX11_learn 6 none rmX11_learn [.ref A_th, .ref A_p1, .int n2] [(A_th, oO 10 [V_th_thrown, V_th_text, V_th_textSize, V_th_readPage, V_th_page, V_th_trial, V_th_book, V_th_doings, V_th_kept, V_th_isKept, V_th_seen, V_th_seenPlace, V_th_seenDigit, V_th_seenIs, V_th_seed, .ref A_th_plan, .ref A_th_good, .ref A_th_bad, .ref A_th_signs, .int th_signMany, .ref A_th_digits, V_th_isNode, V_th_base, V_th_slot, V_th_whichMany, V_th_whichFirst, V_th_value]), (A_p1, iA g 22 p1), (A_th_plan, iA g 1372 th_plan), (A_th_signs, iA g 8 th_signs), (A_th_digits, iA g 36 th_digits), (A_th_good, iA g 1372 th_good), (A_th_bad, iA g 1372 th_bad)] none [(A_th, oO 10 [V_th_thrown, V_th_text, V_th_textSize, V_th_readPage, V_th_page, V_th_trial, V_th_book, V_th_doings, V_th_kept, V_th_isKept, V_th_seen, V_th_seenPlace, V_th_seenDigit, V_th_seenIs, V_th_seed, .ref A_th_plan, .ref A_th_good, .ref A_th_bad, .ref A_th_signs, .int u.1, .ref A_th_digits, V_th_isNode, V_th_base, V_th_slot, V_th_whichMany, V_th_whichFirst, V_th_value]), (A_p1, iA g 22 p1), (A_th_plan, iA g 1372 u.2.1), (A_th_signs, iA g 8 u.2.2.1), (A_th_digits, iA g 36 u.2.2.2.1), (A_th_good, iA g 1372 u.2.2.2.2.1), (A_th_bad, iA g 1372 u.2.2.2.2.2)] := by
  refine ent (own := RX11) (lv := [(0, .ref A_th), (1, .ref A_p1), (2, .int n2)]) (by decide) rfl (Nat.le_of_ble_eq_true rfl) rfl rfl ?_
  intro x C
  unfold m_X11_learn at hm
  refine b_iconst (v := 0) C dX11_learn_0 (by decide) ?_
  refine b_istore_n (lv' := [(3, .int 0), (0, .ref A_th), (1, .ref A_p1), (2, .int n2)]) C dX11_learn_1 rfl (by decide) rfl ?_
  refine Wb.lv (lv' := [(0, .ref A_th), (1, .ref A_p1), (2, .int n2), (3, .int 0)]) ?_ [1, 2, 3, 0] rfl
  refine wl2_W (Wg := fun (x2 : Int32) (f3 : (Nat → Int32)) => Wb x [(A_th, oO 10 [V_th_thrown, V_th_text, V_th_textSize, V_th_readPage, V_th_page, V_th_trial, V_th_book, V_th_doings, V_th_kept, V_th_isKept, V_th_seen, V_th_seenPlace, V_th_seenDigit, V_th_seenIs, V_th_seed, .ref A_th_plan, .ref A_th_good, .ref A_th_bad, .ref A_th_signs, .int th_signMany, .ref A_th_digits, V_th_isNode, V_th_base, V_th_slot, V_th_whichMany, V_th_whichFirst, V_th_value]), (A_p1, iA g 22 p1), (A_th_plan, iA g 1372 f3), (A_th_signs, iA g 8 th_signs), (A_th_digits, iA g 36 th_digits), (A_th_good, iA g 1372 th_good), (A_th_bad, iA g 1372 th_bad)] [(0, .ref A_th), (1, .ref A_p1), (2, .int n2), (3, .int x2)] 2 []) ?_ F 0 th_plan hm
  intro x2 f3 c1 hc1 hm
  refine b_iload_n C dX11_learn_2 rfl 3 rfl ?_
  refine b_sipush (v := 1372) C dX11_learn_3 (by decide) ?_
  refine b_icmp_ge (tgt := 22) C dX11_learn_6 (by decide) hm (fun hm => ?_) (fun hm => ?_)
  · refine b_iconst (v := 1) C dX11_learn_22 (by decide) ?_
    refine b_istore_n (lv' := [(3, .int 1), (0, .ref A_th), (1, .ref A_p1), (2, .int n2)]) C dX11_learn_23 rfl (by decide) rfl ?_
    refine Wb.lv (lv' := [(0, .ref A_th), (1, .ref A_p1), (2, .int n2), (3, .int 1)]) ?_ [1, 2, 3, 0] rfl
    refine wl7_W (Wg := fun (x5 : Int32) (z6 : Int32) (f7 : (Nat → Int32)) (f8 : (Nat → Int32)) (f9 : (Nat → Int32)) (f10 : (Nat → Int32)) (f11 : (Nat → Int32)) => Wb x [(A_th, oO 10 [V_th_thrown, V_th_text, V_th_textSize, V_th_readPage, V_th_page, V_th_trial, V_th_book, V_th_doings, V_th_kept, V_th_isKept, V_th_seen, V_th_seenPlace, V_th_seenDigit, V_th_seenIs, V_th_seed, .ref A_th_plan, .ref A_th_good, .ref A_th_bad, .ref A_th_signs, .int z6, .ref A_th_digits, V_th_isNode, V_th_base, V_th_slot, V_th_whichMany, V_th_whichFirst, V_th_value]), (A_p1, iA g 22 p1), (A_th_plan, iA g 1372 f7), (A_th_signs, iA g 8 f8), (A_th_digits, iA g 36 f9), (A_th_good, iA g 1372 f10), (A_th_bad, iA g 1372 f11)] [(0, .ref A_th), (1, .ref A_p1), (2, .int n2), (3, .int x5)] 24 []) ?_ F 1 th_signMany f3 th_signs th_digits th_good th_bad hm
    intro x5 z6 f7 f8 f9 f10 f11 c4 hc4 hm
    refine b_iload_n C dX11_learn_24 rfl 3 rfl ?_
    refine b_aload_n C dX11_learn_25 rfl 1 rfl ?_
    refine b_bipush (v := 21) C dX11_learn_26 (by decide) ?_
    refine b_iald C 1 rfl dX11_learn_28 hm (fun v12 hm => ?_)
    refine b_icmp_gt (tgt := 138) C dX11_learn_29 (by decide) hm (fun hm => ?_) (fun hm => ?_)
    · refine b_aload_n C dX11_learn_138 rfl 0 rfl ?_
      refine b_aload_n C dX11_learn_139 rfl 1 rfl ?_
      obtain ⟨z13, f14, f15, hM, hm⟩ := bK3_some hm
      refine b_kV (w' := [(A_th, oO 10 [V_th_thrown, V_th_text, V_th_textSize, V_th_readPage, V_th_page, V_th_trial, V_th_book, V_th_doings, V_th_kept, V_th_isKept, V_th_seen, V_th_seenPlace, V_th_seenDigit, V_th_seenIs, V_th_seed, .ref A_th_plan, .ref A_th_good, .ref A_th_bad, .ref A_th_signs, .int z13, .ref A_th_digits, V_th_isNode, V_th_base, V_th_slot, V_th_whichMany, V_th_whichFirst, V_th_value]), (A_p1, iA g 22 p1), (A_th_plan, iA g 1372 f7), (A_th_signs, iA g 8 f14), (A_th_digits, iA g 36 f15), (A_th_good, iA g 1372 f10), (A_th_bad, iA g 1372 f11)]) (st := []) (st2 := []) C cv_X11_layDigits tb971 (c_X11_layDigits l g A_th A_p1 A_th_signs A_th_digits A_th_plan V_th_thrown V_th_text V_th_textSize V_th_readPage V_th_page V_th_trial V_th_book V_th_doings V_th_kept V_th_isKept V_th_seen V_th_seenPlace V_th_seenDigit V_th_seenIs V_th_seed (.ref A_th_good) (.ref A_th_bad) V_th_isNode V_th_base V_th_slot V_th_whichMany V_th_whichFirst V_th_value z6 p1 f8 f9 f7 F (z13, f14, f15) hM) rfl 0 rfl rfl ⟨rfl, rfl, by decide, by decide⟩ (Nat.le_of_ble_eq_true rfl) [0, 1, 3, 4, 2] rfl (by decide) rfl rfl dX11_learn_140 [some 0, some 1, some 4, some 2, some 3, none, none] (by decide) ⟨⟨rfl, rfl⟩, ⟨⟨rfl, rfl⟩, ⟨⟨rfl, rfl⟩, ⟨⟨rfl, rfl⟩, ⟨⟨rfl, rfl⟩, ⟨rfl, ⟨rfl, trivial⟩⟩⟩⟩⟩⟩⟩ rfl ?_
      cases hm
      exact b_vret C dX11_learn_143
    · refine b_iconst (v := 1) C dX11_learn_32 (by decide) ?_
      refine b_istore (lv' := [(4, .int 1), (0, .ref A_th), (1, .ref A_p1), (2, .int n2), (3, .int x5)]) C dX11_learn_33 (by decide) rfl ?_
      refine Wb.lv (lv' := [(0, .ref A_th), (1, .ref A_p1), (2, .int n2), (3, .int x5), (4, .int 1)]) ?_ [1, 2, 3, 4, 0] rfl
      refine wl7_W (Wg := fun (x17 : Int32) (z18 : Int32) (f19 : (Nat → Int32)) (f20 : (Nat → Int32)) (f21 : (Nat → Int32)) (f22 : (Nat → Int32)) (f23 : (Nat → Int32)) => Wb x [(A_th, oO 10 [V_th_thrown, V_th_text, V_th_textSize, V_th_readPage, V_th_page, V_th_trial, V_th_book, V_th_doings, V_th_kept, V_th_isKept, V_th_seen, V_th_seenPlace, V_th_seenDigit, V_th_seenIs, V_th_seed, .ref A_th_plan, .ref A_th_good, .ref A_th_bad, .ref A_th_signs, .int z18, .ref A_th_digits, V_th_isNode, V_th_base, V_th_slot, V_th_whichMany, V_th_whichFirst, V_th_value]), (A_p1, iA g 22 p1), (A_th_plan, iA g 1372 f19), (A_th_signs, iA g 8 f20), (A_th_digits, iA g 36 f21), (A_th_good, iA g 1372 f22), (A_th_bad, iA g 1372 f23)] [(0, .ref A_th), (1, .ref A_p1), (2, .int n2), (3, .int x5), (4, .int x17)] 35 []) ?_ F 1 z6 f7 f8 f9 f10 f11 hm
      intro x17 z18 f19 f20 f21 f22 f23 c16 hc16 hm
      refine b_iload C dX11_learn_35 4 rfl ?_
      refine b_iconst (v := 4) C dX11_learn_37 (by decide) ?_
      refine b_icmp_ge (tgt := 132) C dX11_learn_38 (by decide) hm (fun hm => ?_) (fun hm => ?_)
      · refine b_iinc (v2 := x5 + 1) (lv' := [(3, .int (x5 + 1)), (0, .ref A_th), (1, .ref A_p1), (2, .int n2), (4, .int x17)]) C dX11_learn_132 3 rfl rfl (by decide) rfl ?_
        refine b_goto (tgt := 24) C dX11_learn_135 (by decide) ?_
        exact Wb.lv (hc4 (x5 + 1) z18 f19 f20 f21 f22 f23 hm) [1, 2, 3, 0] rfl
      · refine b_aload_n C dX11_learn_41 rfl 0 rfl ?_
        refine b_aload_n C dX11_learn_42 rfl 1 rfl ?_
        obtain ⟨z24, f25, f26, hM, hm⟩ := bK3_some hm
        refine b_kV (w' := [(A_th, oO 10 [V_th_thrown, V_th_text, V_th_textSize, V_th_readPage, V_th_page, V_th_trial, V_th_book, V_th_doings, V_th_kept, V_th_isKept, V_th_seen, V_th_seenPlace, V_th_seenDigit, V_th_seenIs, V_th_seed, .ref A_th_plan, .ref A_th_good, .ref A_th_bad, .ref A_th_signs, .int z24, .ref A_th_digits, V_th_isNode, V_th_base, V_th_slot, V_th_whichMany, V_th_whichFirst, V_th_value]), (A_p1, iA g 22 p1), (A_th_plan, iA g 1372 f19), (A_th_signs, iA g 8 f25), (A_th_digits, iA g 36 f26), (A_th_good, iA g 1372 f22), (A_th_bad, iA g 1372 f23)]) (st := []) (st2 := []) C cv_X11_layDigits tb971 (c_X11_layDigits l g A_th A_p1 A_th_signs A_th_digits A_th_plan V_th_thrown V_th_text V_th_textSize V_th_readPage V_th_page V_th_trial V_th_book V_th_doings V_th_kept V_th_isKept V_th_seen V_th_seenPlace V_th_seenDigit V_th_seenIs V_th_seed (.ref A_th_good) (.ref A_th_bad) V_th_isNode V_th_base V_th_slot V_th_whichMany V_th_whichFirst V_th_value z18 p1 f20 f21 f19 F (z24, f25, f26) hM) rfl 0 rfl rfl ⟨rfl, rfl, by decide, by decide⟩ (Nat.le_of_ble_eq_true rfl) [0, 1, 3, 4, 2] rfl (by decide) rfl rfl dX11_learn_43 [some 0, some 1, some 4, some 2, some 3, none, none] (by decide) ⟨⟨rfl, rfl⟩, ⟨⟨rfl, rfl⟩, ⟨⟨rfl, rfl⟩, ⟨⟨rfl, rfl⟩, ⟨⟨rfl, rfl⟩, ⟨rfl, ⟨rfl, trivial⟩⟩⟩⟩⟩⟩⟩ rfl ?_
        refine b_aload_n C dX11_learn_46 rfl 0 rfl ?_
        refine b_aload_n C dX11_learn_47 rfl 1 rfl ?_
        refine b_iload_n C dX11_learn_48 rfl 2 rfl ?_
        refine b_iload_n C dX11_learn_49 rfl 3 rfl ?_
        refine b_iload C dX11_learn_50 4 rfl ?_
        obtain ⟨z27, f28, f29, f30, hM, hm⟩ := bK4_some hm
        refine b_kV (w' := [(A_th, oO 10 [V_th_thrown, V_th_text, V_th_textSize, V_th_readPage, V_th_page, V_th_trial, V_th_book, V_th_doings, V_th_kept, V_th_isKept, V_th_seen, V_th_seenPlace, V_th_seenDigit, V_th_seenIs, V_th_seed, .ref A_th_plan, .ref A_th_good, .ref A_th_bad, .ref A_th_signs, .int z27, .ref A_th_digits, V_th_isNode, V_th_base, V_th_slot, V_th_whichMany, V_th_whichFirst, V_th_value]), (A_p1, iA g 22 p1), (A_th_plan, iA g 1372 f19), (A_th_signs, iA g 8 f30), (A_th_digits, iA g 36 f26), (A_th_good, iA g 1372 f28), (A_th_bad, iA g 1372 f29)]) (st := []) (st2 := []) C cv_X11_count tb994 (c_X11_count l g A_th A_p1 A_th_good A_th_bad A_th_signs A_th_digits V_th_thrown V_th_text V_th_textSize V_th_readPage V_th_page V_th_trial V_th_book V_th_doings V_th_kept V_th_isKept V_th_seen V_th_seenPlace V_th_seenDigit V_th_seenIs V_th_seed (.ref A_th_plan) V_th_isNode V_th_base V_th_slot V_th_whichMany V_th_whichFirst V_th_value n2 x5 x17 z24 p1 f22 f23 f25 f26 F (z27, f28, f29, f30) hM) rfl 0 rfl rfl ⟨rfl, rfl, by decide, by decide⟩ (Nat.le_of_ble_eq_true rfl) [0, 1, 5, 6, 3, 4] rfl (by decide) rfl rfl dX11_learn_52 [some 0, some 1, none, some 4, some 5, some 2, some 3] (by decide) ⟨⟨rfl, rfl⟩, ⟨⟨rfl, rfl⟩, ⟨rfl, ⟨⟨rfl, rfl⟩, ⟨⟨rfl, rfl⟩, ⟨⟨rfl, rfl⟩, ⟨⟨rfl, rfl⟩, trivial⟩⟩⟩⟩⟩⟩⟩ rfl ?_
        refine b_iconst (v := 0) C dX11_learn_55 (by decide) ?_
        refine b_istore (lv' := [(5, .int 0), (0, .ref A_th), (1, .ref A_p1), (2, .int n2), (3, .int x5), (4, .int x17)]) C dX11_learn_56 (by decide) rfl ?_
        refine Wb.lv (lv' := [(0, .ref A_th), (1, .ref A_p1), (2, .int n2), (3, .int x5), (4, .int x17), (5, .int 0)]) ?_ [1, 2, 3, 4, 5, 0] rfl
        refine wl2_W (Wg := fun (x32 : Int32) (f33 : (Nat → Int32)) => Wb x [(A_th, oO 10 [V_th_thrown, V_th_text, V_th_textSize, V_th_readPage, V_th_page, V_th_trial, V_th_book, V_th_doings, V_th_kept, V_th_isKept, V_th_seen, V_th_seenPlace, V_th_seenDigit, V_th_seenIs, V_th_seed, .ref A_th_plan, .ref A_th_good, .ref A_th_bad, .ref A_th_signs, .int z27, .ref A_th_digits, V_th_isNode, V_th_base, V_th_slot, V_th_whichMany, V_th_whichFirst, V_th_value]), (A_p1, iA g 22 p1), (A_th_plan, iA g 1372 f33), (A_th_signs, iA g 8 f30), (A_th_digits, iA g 36 f26), (A_th_good, iA g 1372 f28), (A_th_bad, iA g 1372 f29)] [(0, .ref A_th), (1, .ref A_p1), (2, .int n2), (3, .int x5), (4, .int x17), (5, .int x32)] 58 []) ?_ F 0 f19 hm
        intro x32 f33 c31 hc31 hm
        refine b_iload C dX11_learn_58 5 rfl ?_
        refine b_sipush (v := 1372) C dX11_learn_60 (by decide) ?_
        refine b_icmp_ge (tgt := 126) C dX11_learn_63 (by decide) hm (fun hm => ?_) (fun hm => ?_)
        · refine b_iinc (v2 := x17 + 1) (lv' := [(4, .int (x17 + 1)), (0, .ref A_th), (1, .ref A_p1), (2, .int n2), (3, .int x5), (5, .int x32)]) C dX11_learn_126 4 rfl rfl (by decide) rfl ?_
          refine b_goto (tgt := 35) C dX11_learn_129 (by decide) ?_
          exact Wb.lv (hc16 (x17 + 1) z27 f33 f30 f26 f28 f29 hm) [1, 2, 3, 4, 0] rfl
        · refine b_aload_n C dX11_learn_66 rfl 0 rfl ?_
          refine gfX11_41 C 0 rfl rfl dX11_learn_67 ?_
          refine b_iload C dX11_learn_70 5 rfl ?_
          refine b_aload_n C dX11_learn_72 rfl 1 rfl ?_
          refine b_bipush (v := 13) C dX11_learn_73 (by decide) ?_
          refine b_iload_n C dX11_learn_75 rfl 3 rfl ?_
          refine b_iadd C dX11_learn_76 ?_
          refine b_iconst (v := 1) C dX11_learn_77 (by decide) ?_
          refine b_isub C dX11_learn_78 ?_
          refine b_iald C 1 rfl dX11_learn_79 hm (fun v34 hm => ?_)
          refine b_aload_n C dX11_learn_80 rfl 1 rfl ?_
          refine b_bipush (v := 17) C dX11_learn_81 (by decide) ?_
          refine b_iload_n C dX11_learn_83 rfl 3 rfl ?_
          refine b_iadd C dX11_learn_84 ?_
          refine b_iconst (v := 1) C dX11_learn_85 (by decide) ?_
          refine b_isub C dX11_learn_86 ?_
          refine b_iald C 1 rfl dX11_learn_87 hm (fun v35 hm => ?_)
          refine b_aload_n C dX11_learn_88 rfl 0 rfl ?_
          refine gfX11_44 C 0 rfl rfl dX11_learn_89 ?_
          refine b_iload C dX11_learn_92 5 rfl ?_
          refine b_iald C 5 rfl dX11_learn_94 hm (fun v36 hm => ?_)
          refine b_aload_n C dX11_learn_95 rfl 0 rfl ?_
          refine gfX11_47 C 0 rfl rfl dX11_learn_96 ?_
          refine b_iload C dX11_learn_99 5 rfl ?_
          refine b_iald C 6 rfl dX11_learn_101 hm (fun v37 hm => ?_)
          obtain ⟨r38, hM, hm⟩ := bK1_some hm
          refine b_kS (w' := [(A_th, oO 10 [V_th_thrown, V_th_text, V_th_textSize, V_th_readPage, V_th_page, V_th_trial, V_th_book, V_th_doings, V_th_kept, V_th_isKept, V_th_seen, V_th_seenPlace, V_th_seenDigit, V_th_seenIs, V_th_seed, .ref A_th_plan, .ref A_th_good, .ref A_th_bad, .ref A_th_signs, .int z27, .ref A_th_digits, V_th_isNode, V_th_base, V_th_slot, V_th_whichMany, V_th_whichFirst, V_th_value]), (A_p1, iA g 22 p1), (A_th_plan, iA g 1372 f33), (A_th_signs, iA g 8 f30), (A_th_digits, iA g 36 f26), (A_th_good, iA g 1372 f28), (A_th_bad, iA g 1372 f29)]) (st := [.int x32, .ref A_th_plan]) (st2 := [.int r38, .int x32, .ref A_th_plan]) C cs_X11_keeps tb1005 (c_X11_keeps l g v34 v35 v36 v37 F r38 hM) rfl ⟨rfl, rfl, by decide, by decide⟩ (Nat.le_of_ble_eq_true rfl) [] rfl (by decide) rfl rfl dX11_learn_102 [none, none, none, none, none, none, none] (by decide) ⟨rfl, ⟨rfl, ⟨rfl, ⟨rfl, ⟨rfl, ⟨rfl, ⟨rfl, trivial⟩⟩⟩⟩⟩⟩⟩ rfl ?_
          obtain ⟨k40, hk40, hm⟩ := jn1_some hm
          have jk40 : ∀ (y39 : Int32), k40 y39 = some u → Wb x [(A_th, oO 10 [V_th_thrown, V_th_text, V_th_textSize, V_th_readPage, V_th_page, V_th_trial, V_th_book, V_th_doings, V_th_kept, V_th_isKept, V_th_seen, V_th_seenPlace, V_th_seenDigit, V_th_seenIs, V_th_seed, .ref A_th_plan, .ref A_th_good, .ref A_th_bad, .ref A_th_signs, .int z27, .ref A_th_digits, V_th_isNode, V_th_base, V_th_slot, V_th_whichMany, V_th_whichFirst, V_th_value]), (A_p1, iA g 22 p1), (A_th_plan, iA g 1372 f33), (A_th_signs, iA g 8 f30), (A_th_digits, iA g 36 f26), (A_th_good, iA g 1372 f28), (A_th_bad, iA g 1372 f29)] [(0, .ref A_th), (1, .ref A_p1), (2, .int n2), (3, .int x5), (4, .int x17), (5, .int x32)] 119 [.int y39, .int x32, .ref A_th_plan] := by
            intro y39 hm
            have hm := hk40 _ hm
            refine b_iast C 2 rfl dX11_learn_119 hm (fun f41 hm => Wb.to (w' := [(A_th, oO 10 [V_th_thrown, V_th_text, V_th_textSize, V_th_readPage, V_th_page, V_th_trial, V_th_book, V_th_doings, V_th_kept, V_th_isKept, V_th_seen, V_th_seenPlace, V_th_seenDigit, V_th_seenIs, V_th_seed, .ref A_th_plan, .ref A_th_good, .ref A_th_bad, .ref A_th_signs, .int z27, .ref A_th_digits, V_th_isNode, V_th_base, V_th_slot, V_th_whichMany, V_th_whichFirst, V_th_value]), (A_p1, iA g 22 p1), (A_th_plan, iA g 1372 f41), (A_th_signs, iA g 8 f30), (A_th_digits, iA g 36 f26), (A_th_good, iA g 1372 f28), (A_th_bad, iA g 1372 f29)]) rfl ?_)
            refine b_iinc (v2 := x32 + 1) (lv' := [(5, .int (x32 + 1)), (0, .ref A_th), (1, .ref A_p1), (2, .int n2), (3, .int x5), (4, .int x17)]) C dX11_learn_120 5 rfl rfl (by decide) rfl ?_
            refine b_goto (tgt := 58) C dX11_learn_123 (by decide) ?_
            exact Wb.lv (hc31 (x32 + 1) f41 hm) [1, 2, 3, 4, 5, 0] rfl
          refine b_if_eq (tgt := 112) C dX11_learn_105 (by decide) hm (fun hm => ?_) (fun hm => ?_)
          · refine b_aload_n C dX11_learn_112 rfl 0 rfl ?_
            refine gfX11_41 C 0 rfl rfl dX11_learn_113 ?_
            refine b_iload C dX11_learn_116 5 rfl ?_
            refine b_iald C 2 rfl dX11_learn_118 hm (fun v42 hm => ?_)
            exact Wb.lv (jk40 v42 hm) [0, 1, 2, 3, 4, 5] rfl
          · refine b_iload_n C dX11_learn_108 rfl 3 rfl ?_
            refine b_goto (tgt := 119) C dX11_learn_109 (by decide) ?_
            exact Wb.lv (jk40 x5 hm) [0, 1, 2, 3, 4, 5] rfl
  · refine b_aload_n C dX11_learn_9 rfl 0 rfl ?_
    refine gfX11_41 C 0 rfl rfl dX11_learn_10 ?_
    refine b_iload_n C dX11_learn_13 rfl 3 rfl ?_
    refine b_iconst (v := 0) C dX11_learn_14 (by decide) ?_
    refine b_iast C 2 rfl dX11_learn_15 hm (fun f43 hm => Wb.to (w' := [(A_th, oO 10 [V_th_thrown, V_th_text, V_th_textSize, V_th_readPage, V_th_page, V_th_trial, V_th_book, V_th_doings, V_th_kept, V_th_isKept, V_th_seen, V_th_seenPlace, V_th_seenDigit, V_th_seenIs, V_th_seed, .ref A_th_plan, .ref A_th_good, .ref A_th_bad, .ref A_th_signs, .int th_signMany, .ref A_th_digits, V_th_isNode, V_th_base, V_th_slot, V_th_whichMany, V_th_whichFirst, V_th_value]), (A_p1, iA g 22 p1), (A_th_plan, iA g 1372 f43), (A_th_signs, iA g 8 th_signs), (A_th_digits, iA g 36 th_digits), (A_th_good, iA g 1372 th_good), (A_th_bad, iA g 1372 th_bad)]) rfl ?_)
    refine b_iinc (v2 := x2 + 1) (lv' := [(3, .int (x2 + 1)), (0, .ref A_th), (1, .ref A_p1), (2, .int n2)]) C dX11_learn_16 3 rfl rfl (by decide) rfl ?_
    refine b_goto (tgt := 2) C dX11_learn_19 (by decide) ?_
    exact Wb.lv (hc1 (x2 + 1) f43 hm) [1, 2, 3, 0] rfl
/-- BreakLearnerModel.learnAll([I)V -/
def m_X11_learnAll (F : Nat)   (th_signMany : Int32) (p1 : (Nat → Int32)) (th_plan : (Nat → Int32)) (th_signs : (Nat → Int32)) (th_digits : (Nat → Int32)) (th_good : (Nat → Int32)) (th_bad : (Nat → Int32)) : Option (Int32 × (Nat → Int32) × (Nat → Int32) × (Nat → Int32) × (Nat → Int32) × (Nat → Int32)) :=
  bK6 (m_X11_learn F 63 th_signMany p1 th_plan th_signs th_digits th_good th_bad) (fun z1 f2 f3 f4 f5 f6 =>
  some (z1, f2, f3, f4, f5, f6)
  )
abbrev rmX11_learnAll : Room := { frames := 5, cells := 0, slots := 0, locals := 128 }
set_option maxHeartbeats 4000000 in
set_option maxRecDepth 100000 in
theorem c_X11_learnAll (l : Launch) (g : Gl) (A_th A_p1 A_th_plan A_th_signs A_th_digits A_th_good A_th_bad : Nat) (V_th_thrown V_th_text V_th_textSize V_th_readPage V_th_page V_th_trial V_th_book V_th_doings V_th_kept V_th_isKept V_th_seen V_th_seenPlace V_th_seenDigit V_th_seenIs V_th_seed V_th_isNode V_th_base V_th_slot V_th_whichMany V_th_whichFirst V_th_value : Value)   (th_signMany : Int32) (p1 : (Nat → Int32)) (th_plan : (Nat → Int32)) (th_signs : (Nat → Int32)) (th_digits : (Nat → Int32)) (th_good : (Nat → Int32)) (th_bad : (Nat → Int32)) (F : Nat) (u : Int32 × (Nat → Int32) × (Nat → Int32) × (Nat → Int32) × (Nat → Int32) × (Nat → Int32)) (hm : m_X11_learnAll F th_signMany p1 th_plan th_signs th_digits th_good th_bad = some u) : Ct l g yX11_learnAll cX11_learnAll 2 none rmX11_learnAll [.ref A_th, .ref A_p1] [(A_th, oO 10 [V_th_thrown, V_th_text, V_th_textSize, V_th_readPage, V_th_page, V_th_trial, V_th_book, V_th_doings, V_th_kept, V_th_isKept, V_th_seen, V_th_seenPlace, V_th_seenDigit, V_th_seenIs, V_th_seed, .ref A_th_plan, .ref A_th_good, .ref A_th_bad, .ref A_th_signs, .int th_signMany, .ref A_th_digits, V_th_isNode, V_th_base, V_th_slot, V_th_whichMany, V_th_whichFirst, V_th_value]), (A_p1, iA g 22 p1), (A_th_plan, iA g 1372 th_plan), (A_th_signs, iA g 8 th_signs), (A_th_digits, iA g 36 th_digits), (A_th_good, iA g 1372 th_good), (A_th_bad, iA g 1372 th_bad)] none [(A_th, oO 10 [V_th_thrown, V_th_text, V_th_textSize, V_th_readPage, V_th_page, V_th_trial, V_th_book, V_th_doings, V_th_kept, V_th_isKept, V_th_seen, V_th_seenPlace, V_th_seenDigit, V_th_seenIs, V_th_seed, .ref A_th_plan, .ref A_th_good, .ref A_th_bad, .ref A_th_signs, .int u.1, .ref A_th_digits, V_th_isNode, V_th_base, V_th_slot, V_th_whichMany, V_th_whichFirst, V_th_value]), (A_p1, iA g 22 p1), (A_th_plan, iA g 1372 u.2.1), (A_th_signs, iA g 8 u.2.2.1), (A_th_digits, iA g 36 u.2.2.2.1), (A_th_good, iA g 1372 u.2.2.2.2.1), (A_th_bad, iA g 1372 u.2.2.2.2.2)] := by
  refine ent (own := RX11) (lv := [(0, .ref A_th), (1, .ref A_p1)]) (by decide) rfl (Nat.le_of_ble_eq_true rfl) rfl rfl ?_
  intro x C
  unfold m_X11_learnAll at hm
  refine b_aload_n C dX11_learnAll_0 rfl 0 rfl ?_
  refine b_aload_n C dX11_learnAll_1 rfl 1 rfl ?_
  refine b_bipush (v := 63) C dX11_learnAll_2 (by decide) ?_
  obtain ⟨z1, f2, f3, f4, f5, f6, hM, hm⟩ := bK6_some hm
  refine b_kV (w' := [(A_th, oO 10 [V_th_thrown, V_th_text, V_th_textSize, V_th_readPage, V_th_page, V_th_trial, V_th_book, V_th_doings, V_th_kept, V_th_isKept, V_th_seen, V_th_seenPlace, V_th_seenDigit, V_th_seenIs, V_th_seed, .ref A_th_plan, .ref A_th_good, .ref A_th_bad, .ref A_th_signs, .int z1, .ref A_th_digits, V_th_isNode, V_th_base, V_th_slot, V_th_whichMany, V_th_whichFirst, V_th_value]), (A_p1, iA g 22 p1), (A_th_plan, iA g 1372 f2), (A_th_signs, iA g 8 f3), (A_th_digits, iA g 36 f4), (A_th_good, iA g 1372 f5), (A_th_bad, iA g 1372 f6)]) (st := []) (st2 := []) C cv_X11_learn tb967 (c_X11_learn l g A_th A_p1 A_th_plan A_th_signs A_th_digits A_th_good A_th_bad V_th_thrown V_th_text V_th_textSize V_th_readPage V_th_page V_th_trial V_th_book V_th_doings V_th_kept V_th_isKept V_th_seen V_th_seenPlace V_th_seenDigit V_th_seenIs V_th_seed V_th_isNode V_th_base V_th_slot V_th_whichMany V_th_whichFirst V_th_value 63 th_signMany p1 th_plan th_signs th_digits th_good th_bad F (z1, f2, f3, f4, f5, f6) hM) rfl 0 rfl rfl ⟨rfl, rfl, by decide, by decide⟩ (Nat.le_of_ble_eq_true rfl) [0, 1, 2, 3, 4, 5, 6] rfl (by decide) rfl rfl dX11_learnAll_4 [some 0, some 1, some 2, some 3, some 4, some 5, some 6] (by decide) ⟨⟨rfl, rfl⟩, ⟨⟨rfl, rfl⟩, ⟨⟨rfl, rfl⟩, ⟨⟨rfl, rfl⟩, ⟨⟨rfl, rfl⟩, ⟨⟨rfl, rfl⟩, ⟨⟨rfl, rfl⟩, trivial⟩⟩⟩⟩⟩⟩⟩ rfl ?_
  cases hm
  exact b_vret C dX11_learnAll_7
/-- BreakLearnerModel.placesOf([I)I -/
def m_X11_placesOf (F : Nat)   (p1 : (Nat → Int32)) : Option (Int32) :=
  wl2 (fun (x2 : Int32) (x3 : Int32) c1 =>
    rdK 22 p1 0 (fun v4 =>
    if v4 ≤ x3 then
      some x2
    else
      rdK 22 p1 (1 + x3) (fun v5 =>
      bK1 (m_X11_length F v5) (fun r6 =>
      letK (x2 + (r6 - 1)) (fun x7 =>
      c1 x7 (x3 + 1)
      )
      )
      )
    )
    ) F 0 0
abbrev rmX11_placesOf : Room := { frames := 1, cells := 0, slots := 0, locals := 22 }
set_option maxHeartbeats 4000000 in
set_option maxRecDepth 100000 in
theorem c_X11_placesOf (l : Launch) (g : Gl) (A_p1 : Nat)   (p1 : (Nat → Int32)) (F : Nat) (u : Int32) (hm : m_X11_placesOf F p1 = some u) : Ct l g yX11_placesOf cX11_placesOf 3 (some .int) rmX11_placesOf [.ref A_p1] [(A_p1, iA g 22 p1)] (some (.int u)) [(A_p1, iA g 22 p1)] := by
  refine ent (own := RX11) (lv := [(0, .ref A_p1)]) (by decide) rfl (Nat.le_of_ble_eq_true rfl) rfl rfl ?_
  intro x C
  unfold m_X11_placesOf at hm
  refine b_iconst (v := 0) C dX11_placesOf_0 (by decide) ?_
  refine b_istore_n (lv' := [(1, .int 0), (0, .ref A_p1)]) C dX11_placesOf_1 rfl (by decide) rfl ?_
  refine b_iconst (v := 0) C dX11_placesOf_2 (by decide) ?_
  refine b_istore_n (lv' := [(2, .int 0), (1, .int 0), (0, .ref A_p1)]) C dX11_placesOf_3 rfl (by decide) rfl ?_
  refine Wb.lv (lv' := [(0, .ref A_p1), (1, .int 0), (2, .int 0)]) ?_ [2, 1, 0] rfl
  refine wl2_W (Wg := fun (x2 : Int32) (x3 : Int32) => Wb x [(A_p1, iA g 22 p1)] [(0, .ref A_p1), (1, .int x2), (2, .int x3)] 4 []) ?_ F 0 0 hm
  intro x2 x3 c1 hc1 hm
  refine b_iload_n C dX11_placesOf_4 rfl 2 rfl ?_
  refine b_aload_n C dX11_placesOf_5 rfl 0 rfl ?_
  refine b_iconst (v := 0) C dX11_placesOf_6 (by decide) ?_
  refine b_iald C 0 rfl dX11_placesOf_7 hm (fun v4 hm => ?_)
  refine b_icmp_ge (tgt := 30) C dX11_placesOf_8 (by decide) hm (fun hm => ?_) (fun hm => ?_)
  · refine b_iload_n C dX11_placesOf_30 rfl 1 rfl ?_
    cases hm
    exact b_iret C dX11_placesOf_31
  · refine b_iload_n C dX11_placesOf_11 rfl 1 rfl ?_
    refine b_aload_n C dX11_placesOf_12 rfl 0 rfl ?_
    refine b_iconst (v := 1) C dX11_placesOf_13 (by decide) ?_
    refine b_iload_n C dX11_placesOf_14 rfl 2 rfl ?_
    refine b_iadd C dX11_placesOf_15 ?_
    refine b_iald C 0 rfl dX11_placesOf_16 hm (fun v5 hm => ?_)
    obtain ⟨r6, hM, hm⟩ := bK1_some hm
    refine b_kS (w' := [(A_p1, iA g 22 p1)]) (st := [.int x2]) (st2 := [.int r6, .int x2]) C cs_X11_length tb979 (c_X11_length l g v5 F r6 hM) rfl ⟨rfl, rfl, by decide, by decide⟩ (Nat.le_of_ble_eq_true rfl) [] rfl (by decide) rfl rfl dX11_placesOf_17 [none] (by decide) ⟨rfl, trivial⟩ rfl ?_
    refine b_iconst (v := 1) C dX11_placesOf_20 (by decide) ?_
    refine b_isub C dX11_placesOf_21 ?_
    refine b_iadd C dX11_placesOf_22 ?_
    refine b_topi hm (fun x7 hm => ?_)
    refine b_istore_n (lv' := [(1, .int x7), (0, .ref A_p1), (2, .int x3)]) C dX11_placesOf_23 rfl (by decide) rfl ?_
    refine b_iinc (v2 := x3 + 1) (lv' := [(2, .int (x3 + 1)), (1, .int x7), (0, .ref A_p1)]) C dX11_placesOf_24 2 rfl rfl (by decide) rfl ?_
    refine b_goto (tgt := 4) C dX11_placesOf_27 (by decide) ?_
    exact Wb.lv (hc1 x7 (x3 + 1) hm) [2, 1, 0] rfl
/-- BreakLearnerModel.isRight([III)Z -/
def m_X11_isRight (F : Nat)  (n2 : Int32) (n3 : Int32) (p1 : (Nat → Int32)) (th_digits : (Nat → Int32)) : Option (Int32) :=
  rdK 36 th_digits ((6 * n2) + n3) (fun v1 =>
  jn1 (fun (y2 : Int32) =>
    rdK 22 p1 (7 + n2) (fun v4 =>
    bK1 (m_X11_has F v4 n3) (fun r5 =>
    if y2 = r5 then
      some 1
    else
      some 0
    )
    )
    ) (fun k3 =>
    if (irm v1 2) = 1 then
      k3 1
    else
      k3 0
    )
  )
abbrev rmX11_isRight : Room := { frames := 1, cells := 0, slots := 0, locals := 21 }
set_option maxHeartbeats 4000000 in
set_option maxRecDepth 100000 in
theorem c_X11_isRight (l : Launch) (g : Gl) (A_th A_p1 A_th_digits : Nat) (V_th_thrown V_th_text V_th_textSize V_th_readPage V_th_page V_th_trial V_th_book V_th_doings V_th_kept V_th_isKept V_th_seen V_th_seenPlace V_th_seenDigit V_th_seenIs V_th_seed V_th_plan V_th_good V_th_bad V_th_signs V_th_signMany V_th_isNode V_th_base V_th_slot V_th_whichMany V_th_whichFirst V_th_value : Value)  (n2 : Int32) (n3 : Int32) (p1 : (Nat → Int32)) (th_digits : (Nat → Int32)) (F : Nat) (u : Int32) (hm : m_X11_isRight F n2 n3 p1 th_digits = some u) : Ct l g yX11_isRight cX11_isRight 4 (some .boolean) rmX11_isRight [.ref A_th, .ref A_p1, .int n2, .int n3] [(A_th, oO 10 [V_th_thrown, V_th_text, V_th_textSize, V_th_readPage, V_th_page, V_th_trial, V_th_book, V_th_doings, V_th_kept, V_th_isKept, V_th_seen, V_th_seenPlace, V_th_seenDigit, V_th_seenIs, V_th_seed, V_th_plan, V_th_good, V_th_bad, V_th_signs, V_th_signMany, .ref A_th_digits, V_th_isNode, V_th_base, V_th_slot, V_th_whichMany, V_th_whichFirst, V_th_value]), (A_p1, iA g 22 p1), (A_th_digits, iA g 36 th_digits)] (some (.int u)) [(A_th, oO 10 [V_th_thrown, V_th_text, V_th_textSize, V_th_readPage, V_th_page, V_th_trial, V_th_book, V_th_doings, V_th_kept, V_th_isKept, V_th_seen, V_th_seenPlace, V_th_seenDigit, V_th_seenIs, V_th_seed, V_th_plan, V_th_good, V_th_bad, V_th_signs, V_th_signMany, .ref A_th_digits, V_th_isNode, V_th_base, V_th_slot, V_th_whichMany, V_th_whichFirst, V_th_value]), (A_p1, iA g 22 p1), (A_th_digits, iA g 36 th_digits)] := by
  refine ent (own := RX11) (lv := [(0, .ref A_th), (1, .ref A_p1), (2, .int n2), (3, .int n3)]) (by decide) rfl (Nat.le_of_ble_eq_true rfl) rfl rfl ?_
  intro x C
  unfold m_X11_isRight at hm
  refine b_aload_n C dX11_isRight_0 rfl 0 rfl ?_
  refine gfX11_53 C 0 rfl rfl dX11_isRight_1 ?_
  refine b_bipush (v := 6) C dX11_isRight_4 (by decide) ?_
  refine b_iload_n C dX11_isRight_6 rfl 2 rfl ?_
  refine b_imul C dX11_isRight_7 ?_
  refine b_iload_n C dX11_isRight_8 rfl 3 rfl ?_
  refine b_iadd C dX11_isRight_9 ?_
  refine b_iald C 2 rfl dX11_isRight_10 hm (fun v1 hm => ?_)
  refine b_iconst (v := 2) C dX11_isRight_11 (by decide) ?_
  refine b_irem C dX11_isRight_12 (by decide) ?_
  refine b_iconst (v := 1) C dX11_isRight_13 (by decide) ?_
  obtain ⟨k3, hk3, hm⟩ := jn1_some hm
  have jk3 : ∀ (y2 : Int32), k3 y2 = some u → Wb x [(A_th, oO 10 [V_th_thrown, V_th_text, V_th_textSize, V_th_readPage, V_th_page, V_th_trial, V_th_book, V_th_doings, V_th_kept, V_th_isKept, V_th_seen, V_th_seenPlace, V_th_seenDigit, V_th_seenIs, V_th_seed, V_th_plan, V_th_good, V_th_bad, V_th_signs, V_th_signMany, .ref A_th_digits, V_th_isNode, V_th_base, V_th_slot, V_th_whichMany, V_th_whichFirst, V_th_value]), (A_p1, iA g 22 p1), (A_th_digits, iA g 36 th_digits)] [(1, .ref A_p1), (2, .int n2), (3, .int n3)] 22 [.int y2] := by
    intro y2 hm
    have hm := hk3 _ hm
    refine b_aload_n C dX11_isRight_22 rfl 0 rfl ?_
    refine b_bipush (v := 7) C dX11_isRight_23 (by decide) ?_
    refine b_iload_n C dX11_isRight_25 rfl 1 rfl ?_
    refine b_iadd C dX11_isRight_26 ?_
    refine b_iald C 1 rfl dX11_isRight_27 hm (fun v4 hm => ?_)
    refine b_iload_n C dX11_isRight_28 rfl 2 rfl ?_
    obtain ⟨r5, hM, hm⟩ := bK1_some hm
    refine b_kS (w' := [(A_th, oO 10 [V_th_thrown, V_th_text, V_th_textSize, V_th_readPage, V_th_page, V_th_trial, V_th_book, V_th_doings, V_th_kept, V_th_isKept, V_th_seen, V_th_seenPlace, V_th_seenDigit, V_th_seenIs, V_th_seed, V_th_plan, V_th_good, V_th_bad, V_th_signs, V_th_signMany, .ref A_th_digits, V_th_isNode, V_th_base, V_th_slot, V_th_whichMany, V_th_whichFirst, V_th_value]), (A_p1, iA g 22 p1), (A_th_digits, iA g 36 th_digits)]) (st := [.int y2]) (st2 := [.int r5, .int y2]) C cs_X11_has tb998 (c_X11_has l g v4 n3 F r5 hM) rfl ⟨rfl, rfl, by decide, by decide⟩ (Nat.le_of_ble_eq_true rfl) [] rfl (by decide) rfl rfl dX11_isRight_29 [none, none, none] (by decide) ⟨rfl, ⟨rfl, ⟨rfl, trivial⟩⟩⟩ rfl ?_
    refine b_icmp_ne (tgt := 39) C dX11_isRight_32 (by decide) hm (fun hm => ?_) (fun hm => ?_)
    · refine b_iconst (v := 0) C dX11_isRight_39 (by decide) ?_
      cases hm
      exact b_zret (v := 0) C (by decide) dX11_isRight_40
    · refine b_iconst (v := 1) C dX11_isRight_35 (by decide) ?_
      refine b_goto (tgt := 40) C dX11_isRight_36 (by decide) ?_
      cases hm
      exact b_zret (v := 1) C (by decide) dX11_isRight_40
  refine b_icmp_ne (tgt := 21) C dX11_isRight_14 (by decide) hm (fun hm => ?_) (fun hm => ?_)
  · refine b_iconst (v := 0) C dX11_isRight_21 (by decide) ?_
    exact Wb.lv (jk3 0 hm) [1, 2, 3] rfl
  · refine b_iconst (v := 1) C dX11_isRight_17 (by decide) ?_
    refine b_goto (tgt := 22) C dX11_isRight_18 (by decide) ?_
    exact Wb.lv (jk3 1 hm) [1, 2, 3] rfl
/-- BreakLearnerModel.rightOf([II)I -/
def m_X11_rightOf (F : Nat)  (n2 : Int32) (p1 : (Nat → Int32)) (th_digits : (Nat → Int32)) : Option (Int32) :=
  wl2 (fun (x2 : Int32) (x3 : Int32) c1 =>
    rdK 22 p1 (1 + n2) (fun v4 =>
    bK1 (m_X11_length F v4) (fun r5 =>
    if (r5 - 1) ≤ x3 then
      some x2
    else
      bK1 (m_X11_isRight F n2 x3 p1 th_digits) (fun r6 =>
      jn1 (fun (y7 : Int32) =>
        letK (x2 + y7) (fun x9 =>
        c1 x9 (x3 + 1)
        )
        ) (fun k8 =>
        if r6 = 0 then
          k8 0
        else
          k8 1
        )
      )
    )
    )
    ) F 0 0
abbrev rmX11_rightOf : Room := { frames := 2, cells := 0, slots := 0, locals := 44 }
set_option maxHeartbeats 4000000 in
set_option maxRecDepth 100000 in
theorem c_X11_rightOf (l : Launch) (g : Gl) (A_th A_p1 A_th_digits : Nat) (V_th_thrown V_th_text V_th_textSize V_th_readPage V_th_page V_th_trial V_th_book V_th_doings V_th_kept V_th_isKept V_th_seen V_th_seenPlace V_th_seenDigit V_th_seenIs V_th_seed V_th_plan V_th_good V_th_bad V_th_signs V_th_signMany V_th_isNode V_th_base V_th_slot V_th_whichMany V_th_whichFirst V_th_value : Value)  (n2 : Int32) (p1 : (Nat → Int32)) (th_digits : (Nat → Int32)) (F : Nat) (u : Int32) (hm : m_X11_rightOf F n2 p1 th_digits = some u) : Ct l g yX11_rightOf cX11_rightOf 5 (some .int) rmX11_rightOf [.ref A_th, .ref A_p1, .int n2] [(A_th, oO 10 [V_th_thrown, V_th_text, V_th_textSize, V_th_readPage, V_th_page, V_th_trial, V_th_book, V_th_doings, V_th_kept, V_th_isKept, V_th_seen, V_th_seenPlace, V_th_seenDigit, V_th_seenIs, V_th_seed, V_th_plan, V_th_good, V_th_bad, V_th_signs, V_th_signMany, .ref A_th_digits, V_th_isNode, V_th_base, V_th_slot, V_th_whichMany, V_th_whichFirst, V_th_value]), (A_p1, iA g 22 p1), (A_th_digits, iA g 36 th_digits)] (some (.int u)) [(A_th, oO 10 [V_th_thrown, V_th_text, V_th_textSize, V_th_readPage, V_th_page, V_th_trial, V_th_book, V_th_doings, V_th_kept, V_th_isKept, V_th_seen, V_th_seenPlace, V_th_seenDigit, V_th_seenIs, V_th_seed, V_th_plan, V_th_good, V_th_bad, V_th_signs, V_th_signMany, .ref A_th_digits, V_th_isNode, V_th_base, V_th_slot, V_th_whichMany, V_th_whichFirst, V_th_value]), (A_p1, iA g 22 p1), (A_th_digits, iA g 36 th_digits)] := by
  refine ent (own := RX11) (lv := [(0, .ref A_th), (1, .ref A_p1), (2, .int n2)]) (by decide) rfl (Nat.le_of_ble_eq_true rfl) rfl rfl ?_
  intro x C
  unfold m_X11_rightOf at hm
  refine b_iconst (v := 0) C dX11_rightOf_0 (by decide) ?_
  refine b_istore_n (lv' := [(3, .int 0), (0, .ref A_th), (1, .ref A_p1), (2, .int n2)]) C dX11_rightOf_1 rfl (by decide) rfl ?_
  refine b_iconst (v := 0) C dX11_rightOf_2 (by decide) ?_
  refine b_istore (lv' := [(4, .int 0), (3, .int 0), (0, .ref A_th), (1, .ref A_p1), (2, .int n2)]) C dX11_rightOf_3 (by decide) rfl ?_
  refine Wb.lv (lv' := [(0, .ref A_th), (1, .ref A_p1), (2, .int n2), (3, .int 0), (4, .int 0)]) ?_ [2, 3, 4, 1, 0] rfl
  refine wl2_W (Wg := fun (x2 : Int32) (x3 : Int32) => Wb x [(A_th, oO 10 [V_th_thrown, V_th_text, V_th_textSize, V_th_readPage, V_th_page, V_th_trial, V_th_book, V_th_doings, V_th_kept, V_th_isKept, V_th_seen, V_th_seenPlace, V_th_seenDigit, V_th_seenIs, V_th_seed, V_th_plan, V_th_good, V_th_bad, V_th_signs, V_th_signMany, .ref A_th_digits, V_th_isNode, V_th_base, V_th_slot, V_th_whichMany, V_th_whichFirst, V_th_value]), (A_p1, iA g 22 p1), (A_th_digits, iA g 36 th_digits)] [(0, .ref A_th), (1, .ref A_p1), (2, .int n2), (3, .int x2), (4, .int x3)] 5 []) ?_ F 0 0 hm
  intro x2 x3 c1 hc1 hm
  refine b_iload C dX11_rightOf_5 4 rfl ?_
  refine b_aload_n C dX11_rightOf_7 rfl 1 rfl ?_
  refine b_iconst (v := 1) C dX11_rightOf_8 (by decide) ?_
  refine b_iload_n C dX11_rightOf_9 rfl 2 rfl ?_
  refine b_iadd C dX11_rightOf_10 ?_
  refine b_iald C 1 rfl dX11_rightOf_11 hm (fun v4 hm => ?_)
  obtain ⟨r5, hM, hm⟩ := bK1_some hm
  refine b_kS (w' := [(A_th, oO 10 [V_th_thrown, V_th_text, V_th_textSize, V_th_readPage, V_th_page, V_th_trial, V_th_book, V_th_doings, V_th_kept, V_th_isKept, V_th_seen, V_th_seenPlace, V_th_seenDigit, V_th_seenIs, V_th_seed, V_th_plan, V_th_good, V_th_bad, V_th_signs, V_th_signMany, .ref A_th_digits, V_th_isNode, V_th_base, V_th_slot, V_th_whichMany, V_th_whichFirst, V_th_value]), (A_p1, iA g 22 p1), (A_th_digits, iA g 36 th_digits)]) (st := [.int x3]) (st2 := [.int r5, .int x3]) C cs_X11_length tb979 (c_X11_length l g v4 F r5 hM) rfl ⟨rfl, rfl, by decide, by decide⟩ (Nat.le_of_ble_eq_true rfl) [] rfl (by decide) rfl rfl dX11_rightOf_12 [none, none, none] (by decide) ⟨rfl, ⟨rfl, ⟨rfl, trivial⟩⟩⟩ rfl ?_
  refine b_iconst (v := 1) C dX11_rightOf_15 (by decide) ?_
  refine b_isub C dX11_rightOf_16 ?_
  refine b_icmp_ge (tgt := 45) C dX11_rightOf_17 (by decide) hm (fun hm => ?_) (fun hm => ?_)
  · refine b_iload_n C dX11_rightOf_45 rfl 3 rfl ?_
    cases hm
    exact b_iret C dX11_rightOf_46
  · refine b_iload_n C dX11_rightOf_20 rfl 3 rfl ?_
    refine b_aload_n C dX11_rightOf_21 rfl 0 rfl ?_
    refine b_aload_n C dX11_rightOf_22 rfl 1 rfl ?_
    refine b_iload_n C dX11_rightOf_23 rfl 2 rfl ?_
    refine b_iload C dX11_rightOf_24 4 rfl ?_
    obtain ⟨r6, hM, hm⟩ := bK1_some hm
    refine b_kV (w' := [(A_th, oO 10 [V_th_thrown, V_th_text, V_th_textSize, V_th_readPage, V_th_page, V_th_trial, V_th_book, V_th_doings, V_th_kept, V_th_isKept, V_th_seen, V_th_seenPlace, V_th_seenDigit, V_th_seenIs, V_th_seed, V_th_plan, V_th_good, V_th_bad, V_th_signs, V_th_signMany, .ref A_th_digits, V_th_isNode, V_th_base, V_th_slot, V_th_whichMany, V_th_whichFirst, V_th_value]), (A_p1, iA g 22 p1), (A_th_digits, iA g 36 th_digits)]) (st := [.int x2]) (st2 := [.int r6, .int x2]) C cv_X11_isRight tb1035 (c_X11_isRight l g A_th A_p1 A_th_digits V_th_thrown V_th_text V_th_textSize V_th_readPage V_th_page V_th_trial V_th_book V_th_doings V_th_kept V_th_isKept V_th_seen V_th_seenPlace V_th_seenDigit V_th_seenIs V_th_seed V_th_plan V_th_good V_th_bad V_th_signs V_th_signMany V_th_isNode V_th_base V_th_slot V_th_whichMany V_th_whichFirst V_th_value n2 x3 p1 th_digits F r6 hM) rfl 0 rfl rfl ⟨rfl, rfl, by decide, by decide⟩ (Nat.le_of_ble_eq_true rfl) [0, 1, 2] rfl (by decide) rfl rfl dX11_rightOf_26 [some 0, some 1, some 2] (by decide) ⟨⟨rfl, rfl⟩, ⟨⟨rfl, rfl⟩, ⟨⟨rfl, rfl⟩, trivial⟩⟩⟩ rfl ?_
    obtain ⟨k8, hk8, hm⟩ := jn1_some hm
    have jk8 : ∀ (y7 : Int32), k8 y7 = some u → Wb x [(A_th, oO 10 [V_th_thrown, V_th_text, V_th_textSize, V_th_readPage, V_th_page, V_th_trial, V_th_book, V_th_doings, V_th_kept, V_th_isKept, V_th_seen, V_th_seenPlace, V_th_seenDigit, V_th_seenIs, V_th_seed, V_th_plan, V_th_good, V_th_bad, V_th_signs, V_th_signMany, .ref A_th_digits, V_th_isNode, V_th_base, V_th_slot, V_th_whichMany, V_th_whichFirst, V_th_value]), (A_p1, iA g 22 p1), (A_th_digits, iA g 36 th_digits)] [(0, .ref A_th), (1, .ref A_p1), (2, .int n2), (4, .int x3)] 37 [.int y7, .int x2] := by
      intro y7 hm
      have hm := hk8 _ hm
      refine b_iadd C dX11_rightOf_37 ?_
      refine b_topi hm (fun x9 hm => ?_)
      refine b_istore_n (lv' := [(3, .int x9), (0, .ref A_th), (1, .ref A_p1), (2, .int n2), (4, .int x3)]) C dX11_rightOf_38 rfl (by decide) rfl ?_
      refine b_iinc (v2 := x3 + 1) (lv' := [(4, .int (x3 + 1)), (3, .int x9), (0, .ref A_th), (1, .ref A_p1), (2, .int n2)]) C dX11_rightOf_39 4 rfl rfl (by decide) rfl ?_
      refine b_goto (tgt := 5) C dX11_rightOf_42 (by decide) ?_
      exact Wb.lv (hc1 x9 (x3 + 1) hm) [2, 3, 4, 1, 0] rfl
    refine b_if_eq (tgt := 36) C dX11_rightOf_29 (by decide) hm (fun hm => ?_) (fun hm => ?_)
    · refine b_iconst (v := 0) C dX11_rightOf_36 (by decide) ?_
      exact Wb.lv (jk8 0 hm) [0, 1, 2, 4] rfl
    · refine b_iconst (v := 1) C dX11_rightOf_32 (by decide) ?_
      refine b_goto (tgt := 37) C dX11_rightOf_33 (by decide) ?_
      exact Wb.lv (jk8 1 hm) [0, 1, 2, 4] rfl
/-- BreakLearnerModel.rightOfAll([I)I -/
def m_X11_rightOfAll (F : Nat)   (p1 : (Nat → Int32)) (th_digits : (Nat → Int32)) : Option (Int32) :=
  wl2 (fun (x2 : Int32) (x3 : Int32) c1 =>
    rdK 22 p1 0 (fun v4 =>
    if v4 ≤ x3 then
      some x2
    else
      bK1 (m_X11_rightOf F x3 p1 th_digits) (fun r5 =>
      letK (x2 + r5) (fun x6 =>
      c1 x6 (x3 + 1)
      )
      )
    )
    ) F 0 0
abbrev rmX11_rightOfAll : Room := { frames := 3, cells := 0, slots := 0, locals := 68 }
set_option maxHeartbeats 4000000 in
set_option maxRecDepth 100000 in
theorem c_X11_rightOfAll (l : Launch) (g : Gl) (A_th A_p1 A_th_digits : Nat) (V_th_thrown V_th_text V_th_textSize V_th_readPage V_th_page V_th_trial V_th_book V_th_doings V_th_kept V_th_isKept V_th_seen V_th_seenPlace V_th_seenDigit V_th_seenIs V_th_seed V_th_plan V_th_good V_th_bad V_th_signs V_th_signMany V_th_isNode V_th_base V_th_slot V_th_whichMany V_th_whichFirst V_th_value : Value)   (p1 : (Nat → Int32)) (th_digits : (Nat → Int32)) (F : Nat) (u : Int32) (hm : m_X11_rightOfAll F p1 th_digits = some u) : Ct l g yX11_rightOfAll cX11_rightOfAll 4 (some .int) rmX11_rightOfAll [.ref A_th, .ref A_p1] [(A_th, oO 10 [V_th_thrown, V_th_text, V_th_textSize, V_th_readPage, V_th_page, V_th_trial, V_th_book, V_th_doings, V_th_kept, V_th_isKept, V_th_seen, V_th_seenPlace, V_th_seenDigit, V_th_seenIs, V_th_seed, V_th_plan, V_th_good, V_th_bad, V_th_signs, V_th_signMany, .ref A_th_digits, V_th_isNode, V_th_base, V_th_slot, V_th_whichMany, V_th_whichFirst, V_th_value]), (A_p1, iA g 22 p1), (A_th_digits, iA g 36 th_digits)] (some (.int u)) [(A_th, oO 10 [V_th_thrown, V_th_text, V_th_textSize, V_th_readPage, V_th_page, V_th_trial, V_th_book, V_th_doings, V_th_kept, V_th_isKept, V_th_seen, V_th_seenPlace, V_th_seenDigit, V_th_seenIs, V_th_seed, V_th_plan, V_th_good, V_th_bad, V_th_signs, V_th_signMany, .ref A_th_digits, V_th_isNode, V_th_base, V_th_slot, V_th_whichMany, V_th_whichFirst, V_th_value]), (A_p1, iA g 22 p1), (A_th_digits, iA g 36 th_digits)] := by
  refine ent (own := RX11) (lv := [(0, .ref A_th), (1, .ref A_p1)]) (by decide) rfl (Nat.le_of_ble_eq_true rfl) rfl rfl ?_
  intro x C
  unfold m_X11_rightOfAll at hm
  refine b_iconst (v := 0) C dX11_rightOfAll_0 (by decide) ?_
  refine b_istore_n (lv' := [(2, .int 0), (0, .ref A_th), (1, .ref A_p1)]) C dX11_rightOfAll_1 rfl (by decide) rfl ?_
  refine b_iconst (v := 0) C dX11_rightOfAll_2 (by decide) ?_
  refine b_istore_n (lv' := [(3, .int 0), (2, .int 0), (0, .ref A_th), (1, .ref A_p1)]) C dX11_rightOfAll_3 rfl (by decide) rfl ?_
  refine Wb.lv (lv' := [(0, .ref A_th), (1, .ref A_p1), (2, .int 0), (3, .int 0)]) ?_ [2, 3, 1, 0] rfl
  refine wl2_W (Wg := fun (x2 : Int32) (x3 : Int32) => Wb x [(A_th, oO 10 [V_th_thrown, V_th_text, V_th_textSize, V_th_readPage, V_th_page, V_th_trial, V_th_book, V_th_doings, V_th_kept, V_th_isKept, V_th_seen, V_th_seenPlace, V_th_seenDigit, V_th_seenIs, V_th_seed, V_th_plan, V_th_good, V_th_bad, V_th_signs, V_th_signMany, .ref A_th_digits, V_th_isNode, V_th_base, V_th_slot, V_th_whichMany, V_th_whichFirst, V_th_value]), (A_p1, iA g 22 p1), (A_th_digits, iA g 36 th_digits)] [(0, .ref A_th), (1, .ref A_p1), (2, .int x2), (3, .int x3)] 4 []) ?_ F 0 0 hm
  intro x2 x3 c1 hc1 hm
  refine b_iload_n C dX11_rightOfAll_4 rfl 3 rfl ?_
  refine b_aload_n C dX11_rightOfAll_5 rfl 1 rfl ?_
  refine b_iconst (v := 0) C dX11_rightOfAll_6 (by decide) ?_
  refine b_iald C 1 rfl dX11_rightOfAll_7 hm (fun v4 hm => ?_)
  refine b_icmp_ge (tgt := 26) C dX11_rightOfAll_8 (by decide) hm (fun hm => ?_) (fun hm => ?_)
  · refine b_iload_n C dX11_rightOfAll_26 rfl 2 rfl ?_
    cases hm
    exact b_iret C dX11_rightOfAll_27
  · refine b_iload_n C dX11_rightOfAll_11 rfl 2 rfl ?_
    refine b_aload_n C dX11_rightOfAll_12 rfl 0 rfl ?_
    refine b_aload_n C dX11_rightOfAll_13 rfl 1 rfl ?_
    refine b_iload_n C dX11_rightOfAll_14 rfl 3 rfl ?_
    obtain ⟨r5, hM, hm⟩ := bK1_some hm
    refine b_kV (w' := [(A_th, oO 10 [V_th_thrown, V_th_text, V_th_textSize, V_th_readPage, V_th_page, V_th_trial, V_th_book, V_th_doings, V_th_kept, V_th_isKept, V_th_seen, V_th_seenPlace, V_th_seenDigit, V_th_seenIs, V_th_seed, V_th_plan, V_th_good, V_th_bad, V_th_signs, V_th_signMany, .ref A_th_digits, V_th_isNode, V_th_base, V_th_slot, V_th_whichMany, V_th_whichFirst, V_th_value]), (A_p1, iA g 22 p1), (A_th_digits, iA g 36 th_digits)]) (st := [.int x2]) (st2 := [.int r5, .int x2]) C cv_X11_rightOf tb1031 (c_X11_rightOf l g A_th A_p1 A_th_digits V_th_thrown V_th_text V_th_textSize V_th_readPage V_th_page V_th_trial V_th_book V_th_doings V_th_kept V_th_isKept V_th_seen V_th_seenPlace V_th_seenDigit V_th_seenIs V_th_seed V_th_plan V_th_good V_th_bad V_th_signs V_th_signMany V_th_isNode V_th_base V_th_slot V_th_whichMany V_th_whichFirst V_th_value x3 p1 th_digits F r5 hM) rfl 0 rfl rfl ⟨rfl, rfl, by decide, by decide⟩ (Nat.le_of_ble_eq_true rfl) [0, 1, 2] rfl (by decide) rfl rfl dX11_rightOfAll_15 [some 0, some 1, some 2] (by decide) ⟨⟨rfl, rfl⟩, ⟨⟨rfl, rfl⟩, ⟨⟨rfl, rfl⟩, trivial⟩⟩⟩ rfl ?_
    refine b_iadd C dX11_rightOfAll_18 ?_
    refine b_topi hm (fun x6 hm => ?_)
    refine b_istore_n (lv' := [(2, .int x6), (0, .ref A_th), (1, .ref A_p1), (3, .int x3)]) C dX11_rightOfAll_19 rfl (by decide) rfl ?_
    refine b_iinc (v2 := x3 + 1) (lv' := [(3, .int (x3 + 1)), (2, .int x6), (0, .ref A_th), (1, .ref A_p1)]) C dX11_rightOfAll_20 3 rfl rfl (by decide) rfl ?_
    refine b_goto (tgt := 4) C dX11_rightOfAll_23 (by decide) ?_
    exact Wb.lv (hc1 x6 (x3 + 1) hm) [2, 3, 1, 0] rfl
/-- BreakLearnerModel.patternsOf(I)I -/
def m_X11_patternsOf (F : Nat)  (n1 : Int32) (th_plan : (Nat → Int32)) : Option (Int32) :=
  wl2 (fun (x2 : Int32) (x3 : Int32) c1 =>
    if 1372 ≤ x3 then
      some x2
    else
      jn1 (fun (y4 : Int32) =>
        letK (x2 + y4) (fun x6 =>
        c1 x6 (x3 + 1)
        )
        ) (fun k5 =>
        if n1 = 0 then
          rdK 1372 th_plan x3 (fun v8 =>
          if v8 ≤ 0 then
            k5 0
          else
            k5 1
          )
        else
          rdK 1372 th_plan x3 (fun v7 =>
          if v7 = n1 then
            k5 1
          else
            k5 0
          )
        )
    ) F 0 0
abbrev rmX11_patternsOf : Room := { frames := 0, cells := 0, slots := 0, locals := 0 }
set_option maxHeartbeats 4000000 in
set_option maxRecDepth 100000 in
theorem c_X11_patternsOf (l : Launch) (g : Gl) (A_th A_th_plan : Nat) (V_th_thrown V_th_text V_th_textSize V_th_readPage V_th_page V_th_trial V_th_book V_th_doings V_th_kept V_th_isKept V_th_seen V_th_seenPlace V_th_seenDigit V_th_seenIs V_th_seed V_th_good V_th_bad V_th_signs V_th_signMany V_th_digits V_th_isNode V_th_base V_th_slot V_th_whichMany V_th_whichFirst V_th_value : Value)  (n1 : Int32) (th_plan : (Nat → Int32)) (F : Nat) (u : Int32) (hm : m_X11_patternsOf F n1 th_plan = some u) : Ct l g yX11_patternsOf cX11_patternsOf 4 (some .int) rmX11_patternsOf [.ref A_th, .int n1] [(A_th, oO 10 [V_th_thrown, V_th_text, V_th_textSize, V_th_readPage, V_th_page, V_th_trial, V_th_book, V_th_doings, V_th_kept, V_th_isKept, V_th_seen, V_th_seenPlace, V_th_seenDigit, V_th_seenIs, V_th_seed, .ref A_th_plan, V_th_good, V_th_bad, V_th_signs, V_th_signMany, V_th_digits, V_th_isNode, V_th_base, V_th_slot, V_th_whichMany, V_th_whichFirst, V_th_value]), (A_th_plan, iA g 1372 th_plan)] (some (.int u)) [(A_th, oO 10 [V_th_thrown, V_th_text, V_th_textSize, V_th_readPage, V_th_page, V_th_trial, V_th_book, V_th_doings, V_th_kept, V_th_isKept, V_th_seen, V_th_seenPlace, V_th_seenDigit, V_th_seenIs, V_th_seed, .ref A_th_plan, V_th_good, V_th_bad, V_th_signs, V_th_signMany, V_th_digits, V_th_isNode, V_th_base, V_th_slot, V_th_whichMany, V_th_whichFirst, V_th_value]), (A_th_plan, iA g 1372 th_plan)] := by
  refine ent (own := RX11) (lv := [(0, .ref A_th), (1, .int n1)]) (by decide) rfl (Nat.le_of_ble_eq_true rfl) rfl rfl ?_
  intro x C
  unfold m_X11_patternsOf at hm
  refine b_iconst (v := 0) C dX11_patternsOf_0 (by decide) ?_
  refine b_istore_n (lv' := [(2, .int 0), (0, .ref A_th), (1, .int n1)]) C dX11_patternsOf_1 rfl (by decide) rfl ?_
  refine b_iconst (v := 0) C dX11_patternsOf_2 (by decide) ?_
  refine b_istore_n (lv' := [(3, .int 0), (2, .int 0), (0, .ref A_th), (1, .int n1)]) C dX11_patternsOf_3 rfl (by decide) rfl ?_
  refine Wb.lv (lv' := [(0, .ref A_th), (1, .int n1), (2, .int 0), (3, .int 0)]) ?_ [2, 3, 1, 0] rfl
  refine wl2_W (Wg := fun (x2 : Int32) (x3 : Int32) => Wb x [(A_th, oO 10 [V_th_thrown, V_th_text, V_th_textSize, V_th_readPage, V_th_page, V_th_trial, V_th_book, V_th_doings, V_th_kept, V_th_isKept, V_th_seen, V_th_seenPlace, V_th_seenDigit, V_th_seenIs, V_th_seed, .ref A_th_plan, V_th_good, V_th_bad, V_th_signs, V_th_signMany, V_th_digits, V_th_isNode, V_th_base, V_th_slot, V_th_whichMany, V_th_whichFirst, V_th_value]), (A_th_plan, iA g 1372 th_plan)] [(0, .ref A_th), (1, .int n1), (2, .int x2), (3, .int x3)] 4 []) ?_ F 0 0 hm
  intro x2 x3 c1 hc1 hm
  refine b_iload_n C dX11_patternsOf_4 rfl 3 rfl ?_
  refine b_sipush (v := 1372) C dX11_patternsOf_5 (by decide) ?_
  refine b_icmp_ge (tgt := 56) C dX11_patternsOf_8 (by decide) hm (fun hm => ?_) (fun hm => ?_)
  · refine b_iload_n C dX11_patternsOf_56 rfl 2 rfl ?_
    cases hm
    exact b_iret C dX11_patternsOf_57
  · refine b_iload_n C dX11_patternsOf_11 rfl 2 rfl ?_
    refine b_iload_n C dX11_patternsOf_12 rfl 1 rfl ?_
    obtain ⟨k5, hk5, hm⟩ := jn1_some hm
    have jk5 : ∀ (y4 : Int32), k5 y4 = some u → Wb x [(A_th, oO 10 [V_th_thrown, V_th_text, V_th_textSize, V_th_readPage, V_th_page, V_th_trial, V_th_book, V_th_doings, V_th_kept, V_th_isKept, V_th_seen, V_th_seenPlace, V_th_seenDigit, V_th_seenIs, V_th_seed, .ref A_th_plan, V_th_good, V_th_bad, V_th_signs, V_th_signMany, V_th_digits, V_th_isNode, V_th_base, V_th_slot, V_th_whichMany, V_th_whichFirst, V_th_value]), (A_th_plan, iA g 1372 th_plan)] [(0, .ref A_th), (1, .int n1), (3, .int x3)] 48 [.int y4, .int x2] := by
      intro y4 hm
      have hm := hk5 _ hm
      refine b_iadd C dX11_patternsOf_48 ?_
      refine b_topi hm (fun x6 hm => ?_)
      refine b_istore_n (lv' := [(2, .int x6), (0, .ref A_th), (1, .int n1), (3, .int x3)]) C dX11_patternsOf_49 rfl (by decide) rfl ?_
      refine b_iinc (v2 := x3 + 1) (lv' := [(3, .int (x3 + 1)), (2, .int x6), (0, .ref A_th), (1, .int n1)]) C dX11_patternsOf_50 3 rfl rfl (by decide) rfl ?_
      refine b_goto (tgt := 4) C dX11_patternsOf_53 (by decide) ?_
      exact Wb.lv (hc1 x6 (x3 + 1) hm) [2, 3, 1, 0] rfl
    refine b_if_ne (tgt := 33) C dX11_patternsOf_13 (by decide) hm (fun hm => ?_) (fun hm => ?_)
    · refine b_aload_n C dX11_patternsOf_33 rfl 0 rfl ?_
      refine gfX11_41 C 0 rfl rfl dX11_patternsOf_34 ?_
      refine b_iload_n C dX11_patternsOf_37 rfl 3 rfl ?_
      refine b_iald C 1 rfl dX11_patternsOf_38 hm (fun v7 hm => ?_)
      refine b_iload_n C dX11_patternsOf_39 rfl 1 rfl ?_
      refine b_icmp_ne (tgt := 47) C dX11_patternsOf_40 (by decide) hm (fun hm => ?_) (fun hm => ?_)
      · refine b_iconst (v := 0) C dX11_patternsOf_47 (by decide) ?_
        exact Wb.lv (jk5 0 hm) [0, 1, 3] rfl
      · refine b_iconst (v := 1) C dX11_patternsOf_43 (by decide) ?_
        refine b_goto (tgt := 48) C dX11_patternsOf_44 (by decide) ?_
        exact Wb.lv (jk5 1 hm) [0, 1, 3] rfl
    · refine b_aload_n C dX11_patternsOf_16 rfl 0 rfl ?_
      refine gfX11_41 C 0 rfl rfl dX11_patternsOf_17 ?_
      refine b_iload_n C dX11_patternsOf_20 rfl 3 rfl ?_
      refine b_iald C 1 rfl dX11_patternsOf_21 hm (fun v8 hm => ?_)
      refine b_if_le (tgt := 29) C dX11_patternsOf_22 (by decide) hm (fun hm => ?_) (fun hm => ?_)
      · refine b_iconst (v := 0) C dX11_patternsOf_29 (by decide) ?_
        refine b_goto (tgt := 48) C dX11_patternsOf_30 (by decide) ?_
        exact Wb.lv (jk5 0 hm) [0, 1, 3] rfl
      · refine b_iconst (v := 1) C dX11_patternsOf_25 (by decide) ?_
        refine b_goto (tgt := 48) C dX11_patternsOf_26 (by decide) ?_
        exact Wb.lv (jk5 1 hm) [0, 1, 3] rfl
/-- BreakLearnerModel.wrongWords()I -/
def m_X11_wrongWords (F : Nat)   (th_page : (Nat → Int32)) (th_digits : (Nat → Int32)) : Option (Int32) :=
  wl2 (fun (x2 : Int32) (x3 : Int32) c1 =>
    rdK 22 th_page 0 (fun v4 =>
    if v4 ≤ x3 then
      some x2
    else
      bK1 (m_X11_rightOf F x3 th_page th_digits) (fun r5 =>
      rdK 22 th_page (1 + x3) (fun v6 =>
      bK1 (m_X11_length F v6) (fun r7 =>
      jn1 (fun (y8 : Int32) =>
        letK (x2 ||| y8) (fun x10 =>
        c1 x10 (x3 + 1)
        )
        ) (fun k9 =>
        if (r7 - 1) ≤ r5 then
          k9 0
        else
          k9 (1 <<< (x3 &&& 31))
        )
      )
      )
      )
    )
    ) F 0 0
abbrev rmX11_wrongWords : Room := { frames := 3, cells := 0, slots := 0, locals := 68 }
set_option maxHeartbeats 4000000 in
set_option maxRecDepth 100000 in
theorem c_X11_wrongWords (l : Launch) (g : Gl) (A_th A_th_page A_th_digits : Nat) (V_th_thrown V_th_text V_th_textSize V_th_readPage V_th_trial V_th_book V_th_doings V_th_kept V_th_isKept V_th_seen V_th_seenPlace V_th_seenDigit V_th_seenIs V_th_seed V_th_plan V_th_good V_th_bad V_th_signs V_th_signMany V_th_isNode V_th_base V_th_slot V_th_whichMany V_th_whichFirst V_th_value : Value)   (th_page : (Nat → Int32)) (th_digits : (Nat → Int32)) (F : Nat) (u : Int32) (hm : m_X11_wrongWords F th_page th_digits = some u) : Ct l g yX11_wrongWords cX11_wrongWords 3 (some .int) rmX11_wrongWords [.ref A_th] [(A_th, oO 10 [V_th_thrown, V_th_text, V_th_textSize, V_th_readPage, .ref A_th_page, V_th_trial, V_th_book, V_th_doings, V_th_kept, V_th_isKept, V_th_seen, V_th_seenPlace, V_th_seenDigit, V_th_seenIs, V_th_seed, V_th_plan, V_th_good, V_th_bad, V_th_signs, V_th_signMany, .ref A_th_digits, V_th_isNode, V_th_base, V_th_slot, V_th_whichMany, V_th_whichFirst, V_th_value]), (A_th_page, iA g 22 th_page), (A_th_digits, iA g 36 th_digits)] (some (.int u)) [(A_th, oO 10 [V_th_thrown, V_th_text, V_th_textSize, V_th_readPage, .ref A_th_page, V_th_trial, V_th_book, V_th_doings, V_th_kept, V_th_isKept, V_th_seen, V_th_seenPlace, V_th_seenDigit, V_th_seenIs, V_th_seed, V_th_plan, V_th_good, V_th_bad, V_th_signs, V_th_signMany, .ref A_th_digits, V_th_isNode, V_th_base, V_th_slot, V_th_whichMany, V_th_whichFirst, V_th_value]), (A_th_page, iA g 22 th_page), (A_th_digits, iA g 36 th_digits)] := by
  refine ent (own := RX11) (lv := [(0, .ref A_th)]) (by decide) rfl (Nat.le_of_ble_eq_true rfl) rfl rfl ?_
  intro x C
  unfold m_X11_wrongWords at hm
  refine b_iconst (v := 0) C dX11_wrongWords_0 (by decide) ?_
  refine b_istore_n (lv' := [(1, .int 0), (0, .ref A_th)]) C dX11_wrongWords_1 rfl (by decide) rfl ?_
  refine b_iconst (v := 0) C dX11_wrongWords_2 (by decide) ?_
  refine b_istore_n (lv' := [(2, .int 0), (1, .int 0), (0, .ref A_th)]) C dX11_wrongWords_3 rfl (by decide) rfl ?_
  refine Wb.lv (lv' := [(0, .ref A_th), (1, .int 0), (2, .int 0)]) ?_ [2, 1, 0] rfl
  refine wl2_W (Wg := fun (x2 : Int32) (x3 : Int32) => Wb x [(A_th, oO 10 [V_th_thrown, V_th_text, V_th_textSize, V_th_readPage, .ref A_th_page, V_th_trial, V_th_book, V_th_doings, V_th_kept, V_th_isKept, V_th_seen, V_th_seenPlace, V_th_seenDigit, V_th_seenIs, V_th_seed, V_th_plan, V_th_good, V_th_bad, V_th_signs, V_th_signMany, .ref A_th_digits, V_th_isNode, V_th_base, V_th_slot, V_th_whichMany, V_th_whichFirst, V_th_value]), (A_th_page, iA g 22 th_page), (A_th_digits, iA g 36 th_digits)] [(0, .ref A_th), (1, .int x2), (2, .int x3)] 4 []) ?_ F 0 0 hm
  intro x2 x3 c1 hc1 hm
  refine b_iload_n C dX11_wrongWords_4 rfl 2 rfl ?_
  refine b_aload_n C dX11_wrongWords_5 rfl 0 rfl ?_
  refine gfX11_16 C 0 rfl rfl dX11_wrongWords_6 ?_
  refine b_iconst (v := 0) C dX11_wrongWords_9 (by decide) ?_
  refine b_iald C 1 rfl dX11_wrongWords_10 hm (fun v4 hm => ?_)
  refine b_icmp_ge (tgt := 55) C dX11_wrongWords_11 (by decide) hm (fun hm => ?_) (fun hm => ?_)
  · refine b_iload_n C dX11_wrongWords_55 rfl 1 rfl ?_
    cases hm
    exact b_iret C dX11_wrongWords_56
  · refine b_iload_n C dX11_wrongWords_14 rfl 1 rfl ?_
    refine b_aload_n C dX11_wrongWords_15 rfl 0 rfl ?_
    refine b_aload_n C dX11_wrongWords_16 rfl 0 rfl ?_
    refine gfX11_16 C 0 rfl rfl dX11_wrongWords_17 ?_
    refine b_iload_n C dX11_wrongWords_20 rfl 2 rfl ?_
    obtain ⟨r5, hM, hm⟩ := bK1_some hm
    refine b_kV (w' := [(A_th, oO 10 [V_th_thrown, V_th_text, V_th_textSize, V_th_readPage, .ref A_th_page, V_th_trial, V_th_book, V_th_doings, V_th_kept, V_th_isKept, V_th_seen, V_th_seenPlace, V_th_seenDigit, V_th_seenIs, V_th_seed, V_th_plan, V_th_good, V_th_bad, V_th_signs, V_th_signMany, .ref A_th_digits, V_th_isNode, V_th_base, V_th_slot, V_th_whichMany, V_th_whichFirst, V_th_value]), (A_th_page, iA g 22 th_page), (A_th_digits, iA g 36 th_digits)]) (st := [.int x2]) (st2 := [.int r5, .int x2]) C cv_X11_rightOf tb1031 (c_X11_rightOf l g A_th A_th_page A_th_digits V_th_thrown V_th_text V_th_textSize V_th_readPage (.ref A_th_page) V_th_trial V_th_book V_th_doings V_th_kept V_th_isKept V_th_seen V_th_seenPlace V_th_seenDigit V_th_seenIs V_th_seed V_th_plan V_th_good V_th_bad V_th_signs V_th_signMany V_th_isNode V_th_base V_th_slot V_th_whichMany V_th_whichFirst V_th_value x3 th_page th_digits F r5 hM) rfl 0 rfl rfl ⟨rfl, rfl, by decide, by decide⟩ (Nat.le_of_ble_eq_true rfl) [0, 1, 2] rfl (by decide) rfl rfl dX11_wrongWords_21 [some 0, some 1, some 2] (by decide) ⟨⟨rfl, rfl⟩, ⟨⟨rfl, rfl⟩, ⟨⟨rfl, rfl⟩, trivial⟩⟩⟩ rfl ?_
    refine b_aload_n C dX11_wrongWords_24 rfl 0 rfl ?_
    refine gfX11_16 C 0 rfl rfl dX11_wrongWords_25 ?_
    refine b_iconst (v := 1) C dX11_wrongWords_28 (by decide) ?_
    refine b_iload_n C dX11_wrongWords_29 rfl 2 rfl ?_
    refine b_iadd C dX11_wrongWords_30 ?_
    refine b_iald C 1 rfl dX11_wrongWords_31 hm (fun v6 hm => ?_)
    obtain ⟨r7, hM, hm⟩ := bK1_some hm
    refine b_kS (w' := [(A_th, oO 10 [V_th_thrown, V_th_text, V_th_textSize, V_th_readPage, .ref A_th_page, V_th_trial, V_th_book, V_th_doings, V_th_kept, V_th_isKept, V_th_seen, V_th_seenPlace, V_th_seenDigit, V_th_seenIs, V_th_seed, V_th_plan, V_th_good, V_th_bad, V_th_signs, V_th_signMany, .ref A_th_digits, V_th_isNode, V_th_base, V_th_slot, V_th_whichMany, V_th_whichFirst, V_th_value]), (A_th_page, iA g 22 th_page), (A_th_digits, iA g 36 th_digits)]) (st := [.int r5, .int x2]) (st2 := [.int r7, .int r5, .int x2]) C cs_X11_length tb979 (c_X11_length l g v6 F r7 hM) rfl ⟨rfl, rfl, by decide, by decide⟩ (Nat.le_of_ble_eq_true rfl) [] rfl (by decide) rfl rfl dX11_wrongWords_32 [none, none, none] (by decide) ⟨rfl, ⟨rfl, ⟨rfl, trivial⟩⟩⟩ rfl ?_
    refine b_iconst (v := 1) C dX11_wrongWords_35 (by decide) ?_
    refine b_isub C dX11_wrongWords_36 ?_
    obtain ⟨k9, hk9, hm⟩ := jn1_some hm
    have jk9 : ∀ (y8 : Int32), k9 y8 = some u → Wb x [(A_th, oO 10 [V_th_thrown, V_th_text, V_th_textSize, V_th_readPage, .ref A_th_page, V_th_trial, V_th_book, V_th_doings, V_th_kept, V_th_isKept, V_th_seen, V_th_seenPlace, V_th_seenDigit, V_th_seenIs, V_th_seed, V_th_plan, V_th_good, V_th_bad, V_th_signs, V_th_signMany, .ref A_th_digits, V_th_isNode, V_th_base, V_th_slot, V_th_whichMany, V_th_whichFirst, V_th_value]), (A_th_page, iA g 22 th_page), (A_th_digits, iA g 36 th_digits)] [(0, .ref A_th), (2, .int x3)] 47 [.int y8, .int x2] := by
      intro y8 hm
      have hm := hk9 _ hm
      refine b_ior C dX11_wrongWords_47 ?_
      refine b_topi hm (fun x10 hm => ?_)
      refine b_istore_n (lv' := [(1, .int x10), (0, .ref A_th), (2, .int x3)]) C dX11_wrongWords_48 rfl (by decide) rfl ?_
      refine b_iinc (v2 := x3 + 1) (lv' := [(2, .int (x3 + 1)), (1, .int x10), (0, .ref A_th)]) C dX11_wrongWords_49 2 rfl rfl (by decide) rfl ?_
      refine b_goto (tgt := 4) C dX11_wrongWords_52 (by decide) ?_
      exact Wb.lv (hc1 x10 (x3 + 1) hm) [2, 1, 0] rfl
    refine b_icmp_ge (tgt := 46) C dX11_wrongWords_37 (by decide) hm (fun hm => ?_) (fun hm => ?_)
    · refine b_iconst (v := 0) C dX11_wrongWords_46 (by decide) ?_
      exact Wb.lv (jk9 0 hm) [0, 2] rfl
    · refine b_iconst (v := 1) C dX11_wrongWords_40 (by decide) ?_
      refine b_iload_n C dX11_wrongWords_41 rfl 2 rfl ?_
      refine b_ishl C dX11_wrongWords_42 ?_
      refine b_goto (tgt := 47) C dX11_wrongWords_43 (by decide) ?_
      exact Wb.lv (jk9 (1 <<< (x3 &&& 31)) hm) [0, 2] rfl
/-- BreakLearnerModel.figures(I)I -/
def m_X11_figures (F : Nat)  (n1 : Int32)  : Option (Int32) :=
  wl3 (fun (x2 : Int32) (x3 : Int32) (x4 : Int32) c1 =>
    if x4 ≤ 0 then
      some x2
    else
      letK (x2 + (x3 * (irm x4 7))) (fun x5 =>
      letK (x3 * 10) (fun x6 =>
      letK (x4 / 7) (fun x7 =>
      c1 x5 x6 x7
      )
      )
      )
    ) F 0 1 n1
abbrev rmX11_figures : Room := { frames := 0, cells := 0, slots := 0, locals := 0 }
set_option maxHeartbeats 4000000 in
set_option maxRecDepth 100000 in
theorem c_X11_figures (l : Launch) (g : Gl)  (n1 : Int32)  (F : Nat) (u : Int32) (hm : m_X11_figures F n1 = some u) : Ct l g yX11_figures cX11_figures 4 (some .int) rmX11_figures [.int n1] [] (some (.int u)) [] := by
  refine ent (own := RX11) (lv := [(0, .int n1)]) (by decide) rfl (Nat.le_of_ble_eq_true rfl) rfl rfl ?_
  intro x C
  unfold m_X11_figures at hm
  refine b_iconst (v := 0) C dX11_figures_0 (by decide) ?_
  refine b_istore_n (lv' := [(1, .int 0), (0, .int n1)]) C dX11_figures_1 rfl (by decide) rfl ?_
  refine b_iconst (v := 1) C dX11_figures_2 (by decide) ?_
  refine b_istore_n (lv' := [(2, .int 1), (1, .int 0), (0, .int n1)]) C dX11_figures_3 rfl (by decide) rfl ?_
  refine b_iload_n C dX11_figures_4 rfl 2 rfl ?_
  refine b_istore_n (lv' := [(3, .int n1), (2, .int 1), (1, .int 0), (0, .int n1)]) C dX11_figures_5 rfl (by decide) rfl ?_
  refine Wb.lv (lv' := [(1, .int 0), (2, .int 1), (3, .int n1)]) ?_ [2, 1, 0] rfl
  refine wl3_W (Wg := fun (x2 : Int32) (x3 : Int32) (x4 : Int32) => Wb x [] [(1, .int x2), (2, .int x3), (3, .int x4)] 6 []) ?_ F 0 1 n1 hm
  intro x2 x3 x4 c1 hc1 hm
  refine b_iload_n C dX11_figures_6 rfl 2 rfl ?_
  refine b_if_le (tgt := 32) C dX11_figures_7 (by decide) hm (fun hm => ?_) (fun hm => ?_)
  · refine b_iload_n C dX11_figures_32 rfl 0 rfl ?_
    cases hm
    exact b_iret C dX11_figures_33
  · refine b_iload_n C dX11_figures_10 rfl 0 rfl ?_
    refine b_iload_n C dX11_figures_11 rfl 1 rfl ?_
    refine b_iload_n C dX11_figures_12 rfl 2 rfl ?_
    refine b_bipush (v := 7) C dX11_figures_13 (by decide) ?_
    refine b_irem C dX11_figures_15 (by decide) ?_
    refine b_imul C dX11_figures_16 ?_
    refine b_iadd C dX11_figures_17 ?_
    refine b_topi hm (fun x5 hm => ?_)
    refine b_istore_n (lv' := [(1, .int x5), (2, .int x3), (3, .int x4)]) C dX11_figures_18 rfl (by decide) rfl ?_
    refine b_iload_n C dX11_figures_19 rfl 1 rfl ?_
    refine b_bipush (v := 10) C dX11_figures_20 (by decide) ?_
    refine b_imul C dX11_figures_22 ?_
    refine b_topi hm (fun x6 hm => ?_)
    refine b_istore_n (lv' := [(2, .int x6), (1, .int x5), (3, .int x4)]) C dX11_figures_23 rfl (by decide) rfl ?_
    refine b_iload_n C dX11_figures_24 rfl 2 rfl ?_
    refine b_bipush (v := 7) C dX11_figures_25 (by decide) ?_
    refine b_idiv C dX11_figures_27 (by decide) ?_
    refine b_topi hm (fun x7 hm => ?_)
    refine b_istore_n (lv' := [(3, .int x7), (2, .int x6), (1, .int x5)]) C dX11_figures_28 rfl (by decide) rfl ?_
    refine b_goto (tgt := 6) C dX11_figures_29 (by decide) ?_
    exact Wb.lv (hc1 x5 x6 x7 hm) [2, 1, 0] rfl
/-- BreakLearnerModel.sevens(I)I -/
def m_X11_sevens (F : Nat)  (n1 : Int32)  : Option (Int32) :=
  wl3 (fun (x2 : Int32) (x3 : Int32) (x4 : Int32) c1 =>
    if x4 ≤ 0 then
      some x2
    else
      letK (x2 + (x3 * (irm x4 10))) (fun x5 =>
      letK (x3 * 7) (fun x6 =>
      letK (x4 / 10) (fun x7 =>
      c1 x5 x6 x7
      )
      )
      )
    ) F 0 1 n1
abbrev rmX11_sevens : Room := { frames := 0, cells := 0, slots := 0, locals := 0 }
set_option maxHeartbeats 4000000 in
set_option maxRecDepth 100000 in
theorem c_X11_sevens (l : Launch) (g : Gl)  (n1 : Int32)  (F : Nat) (u : Int32) (hm : m_X11_sevens F n1 = some u) : Ct l g yX11_sevens cX11_sevens 4 (some .int) rmX11_sevens [.int n1] [] (some (.int u)) [] := by
  refine ent (own := RX11) (lv := [(0, .int n1)]) (by decide) rfl (Nat.le_of_ble_eq_true rfl) rfl rfl ?_
  intro x C
  unfold m_X11_sevens at hm
  refine b_iconst (v := 0) C dX11_sevens_0 (by decide) ?_
  refine b_istore_n (lv' := [(1, .int 0), (0, .int n1)]) C dX11_sevens_1 rfl (by decide) rfl ?_
  refine b_iconst (v := 1) C dX11_sevens_2 (by decide) ?_
  refine b_istore_n (lv' := [(2, .int 1), (1, .int 0), (0, .int n1)]) C dX11_sevens_3 rfl (by decide) rfl ?_
  refine b_iload_n C dX11_sevens_4 rfl 2 rfl ?_
  refine b_istore_n (lv' := [(3, .int n1), (2, .int 1), (1, .int 0), (0, .int n1)]) C dX11_sevens_5 rfl (by decide) rfl ?_
  refine Wb.lv (lv' := [(1, .int 0), (2, .int 1), (3, .int n1)]) ?_ [2, 1, 0] rfl
  refine wl3_W (Wg := fun (x2 : Int32) (x3 : Int32) (x4 : Int32) => Wb x [] [(1, .int x2), (2, .int x3), (3, .int x4)] 6 []) ?_ F 0 1 n1 hm
  intro x2 x3 x4 c1 hc1 hm
  refine b_iload_n C dX11_sevens_6 rfl 2 rfl ?_
  refine b_if_le (tgt := 32) C dX11_sevens_7 (by decide) hm (fun hm => ?_) (fun hm => ?_)
  · refine b_iload_n C dX11_sevens_32 rfl 0 rfl ?_
    cases hm
    exact b_iret C dX11_sevens_33
  · refine b_iload_n C dX11_sevens_10 rfl 0 rfl ?_
    refine b_iload_n C dX11_sevens_11 rfl 1 rfl ?_
    refine b_iload_n C dX11_sevens_12 rfl 2 rfl ?_
    refine b_bipush (v := 10) C dX11_sevens_13 (by decide) ?_
    refine b_irem C dX11_sevens_15 (by decide) ?_
    refine b_imul C dX11_sevens_16 ?_
    refine b_iadd C dX11_sevens_17 ?_
    refine b_topi hm (fun x5 hm => ?_)
    refine b_istore_n (lv' := [(1, .int x5), (2, .int x3), (3, .int x4)]) C dX11_sevens_18 rfl (by decide) rfl ?_
    refine b_iload_n C dX11_sevens_19 rfl 1 rfl ?_
    refine b_bipush (v := 7) C dX11_sevens_20 (by decide) ?_
    refine b_imul C dX11_sevens_22 ?_
    refine b_topi hm (fun x6 hm => ?_)
    refine b_istore_n (lv' := [(2, .int x6), (1, .int x5), (3, .int x4)]) C dX11_sevens_23 rfl (by decide) rfl ?_
    refine b_iload_n C dX11_sevens_24 rfl 2 rfl ?_
    refine b_bipush (v := 10) C dX11_sevens_25 (by decide) ?_
    refine b_idiv C dX11_sevens_27 (by decide) ?_
    refine b_topi hm (fun x7 hm => ?_)
    refine b_istore_n (lv' := [(3, .int x7), (2, .int x6), (1, .int x5)]) C dX11_sevens_28 rfl (by decide) rfl ?_
    refine b_goto (tgt := 6) C dX11_sevens_29 (by decide) ?_
    exact Wb.lv (hc1 x5 x6 x7 hm) [2, 1, 0] rfl
/-- BreakLearnerModel.layNodes()V -/
def m_X11_layNodes (F : Nat)   (th_isNode : (Nat → Int32)) (th_base : (Nat → Int32)) (th_plan : (Nat → Int32)) : Option ((Nat → Int32) × (Nat → Int32)) :=
  wl3 (fun (x2 : Int32) (f3 : (Nat → Int32)) (f4 : (Nat → Int32)) c1 =>
    if 343 ≤ x2 then
      wl2 (fun (x6 : Int32) (f7 : (Nat → Int32)) c5 =>
        if 1372 ≤ x6 then
          some (f7, f4)
        else
          letK (x6 / 4) (fun x8 =>
          wl2 (fun (x10 : Int32) (f11 : (Nat → Int32)) c9 =>
            if x10 ≤ 0 then
              c5 (x6 + 1) f11
            else
              rdK 1372 th_plan x6 (fun v12 =>
              if v12 ≤ 0 then
                c5 (x6 + 1) f11
              else
                stK 343 f11 x10 (vp_nar .boolean 1) (fun f13 =>
                stK 343 f13 0 (vp_nar .boolean 1) (fun f14 =>
                letK (x10 / 7) (fun x15 =>
                c9 x15 f14
                )
                )
                )
              )
            ) F x8 f7
          )
        ) F 0 f3
    else
      stK 343 f3 x2 (vp_nar .boolean 0) (fun f16 =>
      stK 343 f4 x2 (-9) (fun f17 =>
      c1 (x2 + 1) f16 f17
      )
      )
    ) F 0 th_isNode th_base
abbrev rmX11_layNodes : Room := { frames := 0, cells := 0, slots := 0, locals := 0 }
set_option maxHeartbeats 4000000 in
set_option maxRecDepth 100000 in
theorem c_X11_layNodes (l : Launch) (g : Gl) (A_th A_th_isNode A_th_base A_th_plan : Nat) (V_th_thrown V_th_text V_th_textSize V_th_readPage V_th_page V_th_trial V_th_book V_th_doings V_th_kept V_th_isKept V_th_seen V_th_seenPlace V_th_seenDigit V_th_seenIs V_th_seed V_th_good V_th_bad V_th_signs V_th_signMany V_th_digits V_th_slot V_th_whichMany V_th_whichFirst V_th_value : Value)   (th_isNode : (Nat → Int32)) (th_base : (Nat → Int32)) (th_plan : (Nat → Int32)) (F : Nat) (u : (Nat → Int32) × (Nat → Int32)) (hm : m_X11_layNodes F th_isNode th_base th_plan = some u) : Ct l g yX11_layNodes cX11_layNodes 3 none rmX11_layNodes [.ref A_th] [(A_th, oO 10 [V_th_thrown, V_th_text, V_th_textSize, V_th_readPage, V_th_page, V_th_trial, V_th_book, V_th_doings, V_th_kept, V_th_isKept, V_th_seen, V_th_seenPlace, V_th_seenDigit, V_th_seenIs, V_th_seed, .ref A_th_plan, V_th_good, V_th_bad, V_th_signs, V_th_signMany, V_th_digits, .ref A_th_isNode, .ref A_th_base, V_th_slot, V_th_whichMany, V_th_whichFirst, V_th_value]), (A_th_isNode, zA g 343 th_isNode), (A_th_base, iA g 343 th_base), (A_th_plan, iA g 1372 th_plan)] none [(A_th, oO 10 [V_th_thrown, V_th_text, V_th_textSize, V_th_readPage, V_th_page, V_th_trial, V_th_book, V_th_doings, V_th_kept, V_th_isKept, V_th_seen, V_th_seenPlace, V_th_seenDigit, V_th_seenIs, V_th_seed, .ref A_th_plan, V_th_good, V_th_bad, V_th_signs, V_th_signMany, V_th_digits, .ref A_th_isNode, .ref A_th_base, V_th_slot, V_th_whichMany, V_th_whichFirst, V_th_value]), (A_th_isNode, zA g 343 u.1), (A_th_base, iA g 343 u.2), (A_th_plan, iA g 1372 th_plan)] := by
  refine ent (own := RX11) (lv := [(0, .ref A_th)]) (by decide) rfl (Nat.le_of_ble_eq_true rfl) rfl rfl ?_
  intro x C
  unfold m_X11_layNodes at hm
  refine b_iconst (v := 0) C dX11_layNodes_0 (by decide) ?_
  refine b_istore_n (lv' := [(1, .int 0), (0, .ref A_th)]) C dX11_layNodes_1 rfl (by decide) rfl ?_
  refine Wb.lv (lv' := [(0, .ref A_th), (1, .int 0)]) ?_ [1, 0] rfl
  refine wl3_W (Wg := fun (x2 : Int32) (f3 : (Nat → Int32)) (f4 : (Nat → Int32)) => Wb x [(A_th, oO 10 [V_th_thrown, V_th_text, V_th_textSize, V_th_readPage, V_th_page, V_th_trial, V_th_book, V_th_doings, V_th_kept, V_th_isKept, V_th_seen, V_th_seenPlace, V_th_seenDigit, V_th_seenIs, V_th_seed, .ref A_th_plan, V_th_good, V_th_bad, V_th_signs, V_th_signMany, V_th_digits, .ref A_th_isNode, .ref A_th_base, V_th_slot, V_th_whichMany, V_th_whichFirst, V_th_value]), (A_th_isNode, zA g 343 f3), (A_th_base, iA g 343 f4), (A_th_plan, iA g 1372 th_plan)] [(0, .ref A_th), (1, .int x2)] 2 []) ?_ F 0 th_isNode th_base hm
  intro x2 f3 f4 c1 hc1 hm
  refine b_iload_n C dX11_layNodes_2 rfl 1 rfl ?_
  refine b_sipush (v := 343) C dX11_layNodes_3 (by decide) ?_
  refine b_icmp_ge (tgt := 30) C dX11_layNodes_6 (by decide) hm (fun hm => ?_) (fun hm => ?_)
  · refine b_iconst (v := 0) C dX11_layNodes_30 (by decide) ?_
    refine b_istore_n (lv' := [(1, .int 0), (0, .ref A_th)]) C dX11_layNodes_31 rfl (by decide) rfl ?_
    refine Wb.lv (lv' := [(0, .ref A_th), (1, .int 0)]) ?_ [1, 0] rfl
    refine wl2_W (Wg := fun (x6 : Int32) (f7 : (Nat → Int32)) => Wb x [(A_th, oO 10 [V_th_thrown, V_th_text, V_th_textSize, V_th_readPage, V_th_page, V_th_trial, V_th_book, V_th_doings, V_th_kept, V_th_isKept, V_th_seen, V_th_seenPlace, V_th_seenDigit, V_th_seenIs, V_th_seed, .ref A_th_plan, V_th_good, V_th_bad, V_th_signs, V_th_signMany, V_th_digits, .ref A_th_isNode, .ref A_th_base, V_th_slot, V_th_whichMany, V_th_whichFirst, V_th_value]), (A_th_isNode, zA g 343 f7), (A_th_base, iA g 343 f4), (A_th_plan, iA g 1372 th_plan)] [(0, .ref A_th), (1, .int x6)] 32 []) ?_ F 0 f3 hm
    intro x6 f7 c5 hc5 hm
    refine b_iload_n C dX11_layNodes_32 rfl 1 rfl ?_
    refine b_sipush (v := 1372) C dX11_layNodes_33 (by decide) ?_
    refine b_icmp_ge (tgt := 84) C dX11_layNodes_36 (by decide) hm (fun hm => ?_) (fun hm => ?_)
    · cases hm
      exact b_vret C dX11_layNodes_84
    · refine b_iload_n C dX11_layNodes_39 rfl 1 rfl ?_
      refine b_iconst (v := 4) C dX11_layNodes_40 (by decide) ?_
      refine b_idiv C dX11_layNodes_41 (by decide) ?_
      refine b_topi hm (fun x8 hm => ?_)
      refine b_istore_n (lv' := [(2, .int x8), (0, .ref A_th), (1, .int x6)]) C dX11_layNodes_42 rfl (by decide) rfl ?_
      refine Wb.lv (lv' := [(0, .ref A_th), (1, .int x6), (2, .int x8)]) ?_ [1, 2, 0] rfl
      refine wl2_W (Wg := fun (x10 : Int32) (f11 : (Nat → Int32)) => Wb x [(A_th, oO 10 [V_th_thrown, V_th_text, V_th_textSize, V_th_readPage, V_th_page, V_th_trial, V_th_book, V_th_doings, V_th_kept, V_th_isKept, V_th_seen, V_th_seenPlace, V_th_seenDigit, V_th_seenIs, V_th_seed, .ref A_th_plan, V_th_good, V_th_bad, V_th_signs, V_th_signMany, V_th_digits, .ref A_th_isNode, .ref A_th_base, V_th_slot, V_th_whichMany, V_th_whichFirst, V_th_value]), (A_th_isNode, zA g 343 f11), (A_th_base, iA g 343 f4), (A_th_plan, iA g 1372 th_plan)] [(0, .ref A_th), (1, .int x6), (2, .int x10)] 43 []) ?_ F x8 f7 hm
      intro x10 f11 c9 hc9 hm
      refine b_iload_n C dX11_layNodes_43 rfl 2 rfl ?_
      refine b_if_le (tgt := 78) C dX11_layNodes_44 (by decide) hm (fun hm => ?_) (fun hm => ?_)
      · refine b_iinc (v2 := x6 + 1) (lv' := [(1, .int (x6 + 1)), (0, .ref A_th), (2, .int x10)]) C dX11_layNodes_78 1 rfl rfl (by decide) rfl ?_
        refine b_goto (tgt := 32) C dX11_layNodes_81 (by decide) ?_
        exact Wb.lv (hc5 (x6 + 1) f11 hm) [1, 0] rfl
      · refine b_aload_n C dX11_layNodes_47 rfl 0 rfl ?_
        refine gfX11_41 C 0 rfl rfl dX11_layNodes_48 ?_
        refine b_iload_n C dX11_layNodes_51 rfl 1 rfl ?_
        refine b_iald C 3 rfl dX11_layNodes_52 hm (fun v12 hm => ?_)
        refine b_if_le (tgt := 78) C dX11_layNodes_53 (by decide) hm (fun hm => ?_) (fun hm => ?_)
        · refine b_iinc (v2 := x6 + 1) (lv' := [(1, .int (x6 + 1)), (0, .ref A_th), (2, .int x10)]) C dX11_layNodes_78 1 rfl rfl (by decide) rfl ?_
          refine b_goto (tgt := 32) C dX11_layNodes_81 (by decide) ?_
          exact Wb.lv (hc5 (x6 + 1) f11 hm) [1, 0] rfl
        · refine b_aload_n C dX11_layNodes_56 rfl 0 rfl ?_
          refine gfX11_56 C 0 rfl rfl dX11_layNodes_57 ?_
          refine b_iload_n C dX11_layNodes_60 rfl 2 rfl ?_
          refine b_iconst (v := 1) C dX11_layNodes_61 (by decide) ?_
          refine b_zast C 1 rfl dX11_layNodes_62 hm (fun f13 hm => Wb.to (w' := [(A_th, oO 10 [V_th_thrown, V_th_text, V_th_textSize, V_th_readPage, V_th_page, V_th_trial, V_th_book, V_th_doings, V_th_kept, V_th_isKept, V_th_seen, V_th_seenPlace, V_th_seenDigit, V_th_seenIs, V_th_seed, .ref A_th_plan, V_th_good, V_th_bad, V_th_signs, V_th_signMany, V_th_digits, .ref A_th_isNode, .ref A_th_base, V_th_slot, V_th_whichMany, V_th_whichFirst, V_th_value]), (A_th_isNode, zA g 343 f13), (A_th_base, iA g 343 f4), (A_th_plan, iA g 1372 th_plan)]) rfl ?_)
          refine b_aload_n C dX11_layNodes_63 rfl 0 rfl ?_
          refine gfX11_56 C 0 rfl rfl dX11_layNodes_64 ?_
          refine b_iconst (v := 0) C dX11_layNodes_67 (by decide) ?_
          refine b_iconst (v := 1) C dX11_layNodes_68 (by decide) ?_
          refine b_zast C 1 rfl dX11_layNodes_69 hm (fun f14 hm => Wb.to (w' := [(A_th, oO 10 [V_th_thrown, V_th_text, V_th_textSize, V_th_readPage, V_th_page, V_th_trial, V_th_book, V_th_doings, V_th_kept, V_th_isKept, V_th_seen, V_th_seenPlace, V_th_seenDigit, V_th_seenIs, V_th_seed, .ref A_th_plan, V_th_good, V_th_bad, V_th_signs, V_th_signMany, V_th_digits, .ref A_th_isNode, .ref A_th_base, V_th_slot, V_th_whichMany, V_th_whichFirst, V_th_value]), (A_th_isNode, zA g 343 f14), (A_th_base, iA g 343 f4), (A_th_plan, iA g 1372 th_plan)]) rfl ?_)
          refine b_iload_n C dX11_layNodes_70 rfl 2 rfl ?_
          refine b_bipush (v := 7) C dX11_layNodes_71 (by decide) ?_
          refine b_idiv C dX11_layNodes_73 (by decide) ?_
          refine b_topi hm (fun x15 hm => ?_)
          refine b_istore_n (lv' := [(2, .int x15), (0, .ref A_th), (1, .int x6)]) C dX11_layNodes_74 rfl (by decide) rfl ?_
          refine b_goto (tgt := 43) C dX11_layNodes_75 (by decide) ?_
          exact Wb.lv (hc9 x15 f14 hm) [1, 2, 0] rfl
  · refine b_aload_n C dX11_layNodes_9 rfl 0 rfl ?_
    refine gfX11_56 C 0 rfl rfl dX11_layNodes_10 ?_
    refine b_iload_n C dX11_layNodes_13 rfl 1 rfl ?_
    refine b_iconst (v := 0) C dX11_layNodes_14 (by decide) ?_
    refine b_zast C 1 rfl dX11_layNodes_15 hm (fun f16 hm => Wb.to (w' := [(A_th, oO 10 [V_th_thrown, V_th_text, V_th_textSize, V_th_readPage, V_th_page, V_th_trial, V_th_book, V_th_doings, V_th_kept, V_th_isKept, V_th_seen, V_th_seenPlace, V_th_seenDigit, V_th_seenIs, V_th_seed, .ref A_th_plan, V_th_good, V_th_bad, V_th_signs, V_th_signMany, V_th_digits, .ref A_th_isNode, .ref A_th_base, V_th_slot, V_th_whichMany, V_th_whichFirst, V_th_value]), (A_th_isNode, zA g 343 f16), (A_th_base, iA g 343 f4), (A_th_plan, iA g 1372 th_plan)]) rfl ?_)
    refine b_aload_n C dX11_layNodes_16 rfl 0 rfl ?_
    refine gfX11_59 C 0 rfl rfl dX11_layNodes_17 ?_
    refine b_iload_n C dX11_layNodes_20 rfl 1 rfl ?_
    refine b_bipush (v := (-9)) C dX11_layNodes_21 (by decide) ?_
    refine b_iast C 2 rfl dX11_layNodes_23 hm (fun f17 hm => Wb.to (w' := [(A_th, oO 10 [V_th_thrown, V_th_text, V_th_textSize, V_th_readPage, V_th_page, V_th_trial, V_th_book, V_th_doings, V_th_kept, V_th_isKept, V_th_seen, V_th_seenPlace, V_th_seenDigit, V_th_seenIs, V_th_seed, .ref A_th_plan, V_th_good, V_th_bad, V_th_signs, V_th_signMany, V_th_digits, .ref A_th_isNode, .ref A_th_base, V_th_slot, V_th_whichMany, V_th_whichFirst, V_th_value]), (A_th_isNode, zA g 343 f16), (A_th_base, iA g 343 f17), (A_th_plan, iA g 1372 th_plan)]) rfl ?_)
    refine b_iinc (v2 := x2 + 1) (lv' := [(1, .int (x2 + 1)), (0, .ref A_th)]) C dX11_layNodes_24 1 rfl rfl (by decide) rfl ?_
    refine b_goto (tgt := 2) C dX11_layNodes_27 (by decide) ?_
    exact Wb.lv (hc1 (x2 + 1) f16 f17 hm) [1, 0] rfl
