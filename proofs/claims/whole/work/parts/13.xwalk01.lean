/-- BreakLearner$Index.forget()V -/
def m_X3_forget (F : Nat)   (th_known : Int32) (th_numbers : (Nat → Int32)) (th_codes : (Nat → Int32)) : Option (Int32 × (Nat → Int32)) :=
  wl2 (fun (x2 : Int32) (f3 : (Nat → Int32)) c1 =>
    if th_known ≤ x2 then
      some (0, f3)
    else
      rdK 270 th_codes x2 (fun v4 =>
      stK 1372 f3 v4 0 (fun f5 =>
      c1 (x2 + 1) f5
      )
      )
    ) F 0 th_numbers
abbrev rmX3_forget : Room := { frames := 0, cells := 0, slots := 0, locals := 0 }
set_option maxHeartbeats 4000000 in
set_option maxRecDepth 100000 in
theorem c_X3_forget (l : Launch) (g : Gl) (A_th A_th_numbers A_th_codes : Nat) (V_th_fits V_th_starts V_th_signs V_th_size : Value)   (th_known : Int32) (th_numbers : (Nat → Int32)) (th_codes : (Nat → Int32)) (F : Nat) (u : Int32 × (Nat → Int32)) (hm : m_X3_forget F th_known th_numbers th_codes = some u) : Ct l g yX3_forget cX3_forget 2 none rmX3_forget [.ref A_th] [(A_th, oO 2 [.ref A_th_numbers, .ref A_th_codes, V_th_fits, .int th_known, V_th_starts, V_th_signs, V_th_size]), (A_th_numbers, iA g 1372 th_numbers), (A_th_codes, iA g 270 th_codes)] none [(A_th, oO 2 [.ref A_th_numbers, .ref A_th_codes, V_th_fits, .int u.1, V_th_starts, V_th_signs, V_th_size]), (A_th_numbers, iA g 1372 u.2), (A_th_codes, iA g 270 th_codes)] := by
  refine ent (own := RX3) (lv := [(0, .ref A_th)]) (by decide) rfl (Nat.le_of_ble_eq_true rfl) rfl rfl ?_
  intro x C
  unfold m_X3_forget at hm
  refine b_iconst (v := 0) C dX3_forget_0 (by decide) ?_
  refine b_istore_n (lv' := [(1, .int 0), (0, .ref A_th)]) C dX3_forget_1 rfl (by decide) rfl ?_
  refine Wb.lv (lv' := [(0, .ref A_th), (1, .int 0)]) ?_ [1, 0] rfl
  refine wl2_W (Wg := fun (x2 : Int32) (f3 : (Nat → Int32)) => Wb x [(A_th, oO 2 [.ref A_th_numbers, .ref A_th_codes, V_th_fits, .int th_known, V_th_starts, V_th_signs, V_th_size]), (A_th_numbers, iA g 1372 f3), (A_th_codes, iA g 270 th_codes)] [(0, .ref A_th), (1, .int x2)] 2 []) ?_ F 0 th_numbers hm
  intro x2 f3 c1 hc1 hm
  refine b_iload_n C dX3_forget_2 rfl 1 rfl ?_
  refine b_aload_n C dX3_forget_3 rfl 0 rfl ?_
  refine gfX3_30 C 0 rfl rfl dX3_forget_4 ?_
  refine b_icmp_ge (tgt := 28) C dX3_forget_7 (by decide) hm (fun hm => ?_) (fun hm => ?_)
  · refine b_aload_n C dX3_forget_28 rfl 0 rfl ?_
    refine b_iconst (v := 0) C dX3_forget_29 (by decide) ?_
    refine pfX3_30 (w' := [(A_th, oO 2 [.ref A_th_numbers, .ref A_th_codes, V_th_fits, .int 0, V_th_starts, V_th_signs, V_th_size]), (A_th_numbers, iA g 1372 f3), (A_th_codes, iA g 270 th_codes)]) C rfl rfl 0 rfl (Nat.le_of_ble_eq_true rfl) dX3_forget_30 rfl ?_
    cases hm
    exact b_vret C dX3_forget_33
  · refine b_aload_n C dX3_forget_10 rfl 0 rfl ?_
    refine gfX3_9 C 0 rfl rfl dX3_forget_11 ?_
    refine b_aload_n C dX3_forget_14 rfl 0 rfl ?_
    refine gfX3_15 C 0 rfl rfl dX3_forget_15 ?_
    refine b_iload_n C dX3_forget_18 rfl 1 rfl ?_
    refine b_iald C 2 rfl dX3_forget_19 hm (fun v4 hm => ?_)
    refine b_iconst (v := 0) C dX3_forget_20 (by decide) ?_
    refine b_iast C 1 rfl dX3_forget_21 hm (fun f5 hm => Wb.to (w' := [(A_th, oO 2 [.ref A_th_numbers, .ref A_th_codes, V_th_fits, .int th_known, V_th_starts, V_th_signs, V_th_size]), (A_th_numbers, iA g 1372 f5), (A_th_codes, iA g 270 th_codes)]) rfl ?_)
    refine b_iinc (v2 := x2 + 1) (lv' := [(1, .int (x2 + 1)), (0, .ref A_th)]) C dX3_forget_22 1 rfl rfl (by decide) rfl ?_
    refine b_goto (tgt := 2) C dX3_forget_25 (by decide) ?_
    exact Wb.lv (hc1 (x2 + 1) f5 hm) [1, 0] rfl
/-- BreakLearner$Index.spell(II)V -/
def m_X3_spell (F : Nat)  (n1 : Int32) (n2 : Int32) (th_size : Int32) (th_signs : (Nat → Int32)) : Option (Int32 × (Nat → Int32)) :=
  letK (imax 0 (imin n2 6)) (fun z1 =>
  stK 8 th_signs 0 6 (fun f2 =>
  stK 8 f2 (z1 + 1) 6 (fun f3 =>
  wl3 (fun (x5 : Int32) (x6 : Int32) (f7 : (Nat → Int32)) c4 =>
    if x6 ≤ 0 then
      some (z1, f7)
    else
      stK 8 f7 x6 (irm x5 10) (fun f8 =>
      letK (x5 / 10) (fun x9 =>
      c4 x9 (x6 + (-1)) f8
      )
      )
    ) F n1 z1 f3
  )
  )
  )
abbrev rmX3_spell : Room := { frames := 1, cells := 0, slots := 0, locals := 21 }
set_option maxHeartbeats 4000000 in
set_option maxRecDepth 100000 in
theorem c_X3_spell (l : Launch) (g : Gl) (A_th A_th_signs : Nat) (V_th_numbers V_th_codes V_th_fits V_th_known V_th_starts : Value)  (n1 : Int32) (n2 : Int32) (th_size : Int32) (th_signs : (Nat → Int32)) (F : Nat) (u : Int32 × (Nat → Int32)) (hm : m_X3_spell F n1 n2 th_size th_signs = some u) : Ct l g yX3_spell cX3_spell 5 none rmX3_spell [.ref A_th, .int n1, .int n2] [(A_th, oO 2 [V_th_numbers, V_th_codes, V_th_fits, V_th_known, V_th_starts, .ref A_th_signs, .int th_size]), (A_th_signs, iA g 8 th_signs)] none [(A_th, oO 2 [V_th_numbers, V_th_codes, V_th_fits, V_th_known, V_th_starts, .ref A_th_signs, .int u.1]), (A_th_signs, iA g 8 u.2)] := by
  refine ent (own := RX3) (lv := [(0, .ref A_th), (1, .int n1), (2, .int n2)]) (by decide) rfl (Nat.le_of_ble_eq_true rfl) rfl rfl ?_
  intro x C
  unfold m_X3_spell at hm
  refine b_aload_n C dX3_spell_0 rfl 0 rfl ?_
  refine b_iconst (v := 0) C dX3_spell_1 (by decide) ?_
  refine b_iload_n C dX3_spell_2 rfl 2 rfl ?_
  refine b_bipush (v := 6) C dX3_spell_3 (by decide) ?_
  refine b_mmin C tb411 tb412 tb73 tb413 (by decide) (Nat.le_of_ble_eq_true rfl) dX3_spell_5 ?_
  refine b_mmax C tb414 tb415 tb73 tb416 (by decide) (Nat.le_of_ble_eq_true rfl) dX3_spell_8 ?_
  refine b_topi hm (fun z1 hm => ?_)
  refine pfX3_52 (w' := [(A_th, oO 2 [V_th_numbers, V_th_codes, V_th_fits, V_th_known, V_th_starts, .ref A_th_signs, .int z1]), (A_th_signs, iA g 8 th_signs)]) C rfl rfl 0 rfl (Nat.le_of_ble_eq_true rfl) dX3_spell_11 rfl ?_
  refine b_aload_n C dX3_spell_14 rfl 0 rfl ?_
  refine gfX3_24 C 0 rfl rfl dX3_spell_15 ?_
  refine b_iconst (v := 0) C dX3_spell_18 (by decide) ?_
  refine b_bipush (v := 6) C dX3_spell_19 (by decide) ?_
  refine b_iast C 1 rfl dX3_spell_21 hm (fun f2 hm => Wb.to (w' := [(A_th, oO 2 [V_th_numbers, V_th_codes, V_th_fits, V_th_known, V_th_starts, .ref A_th_signs, .int z1]), (A_th_signs, iA g 8 f2)]) rfl ?_)
  refine b_aload_n C dX3_spell_22 rfl 0 rfl ?_
  refine gfX3_24 C 0 rfl rfl dX3_spell_23 ?_
  refine b_aload_n C dX3_spell_26 rfl 0 rfl ?_
  refine gfX3_52 C 0 rfl rfl dX3_spell_27 ?_
  refine b_iconst (v := 1) C dX3_spell_30 (by decide) ?_
  refine b_iadd C dX3_spell_31 ?_
  refine b_bipush (v := 6) C dX3_spell_32 (by decide) ?_
  refine b_iast C 1 rfl dX3_spell_34 hm (fun f3 hm => Wb.to (w' := [(A_th, oO 2 [V_th_numbers, V_th_codes, V_th_fits, V_th_known, V_th_starts, .ref A_th_signs, .int z1]), (A_th_signs, iA g 8 f3)]) rfl ?_)
  refine b_iload_n C dX3_spell_35 rfl 1 rfl ?_
  refine b_istore_n (lv' := [(3, .int n1), (0, .ref A_th), (1, .int n1), (2, .int n2)]) C dX3_spell_36 rfl (by decide) rfl ?_
  refine b_aload_n C dX3_spell_37 rfl 1 rfl ?_
  refine gfX3_52 C 0 rfl rfl dX3_spell_38 ?_
  refine b_istore (lv' := [(4, .int z1), (3, .int n1), (0, .ref A_th), (1, .int n1), (2, .int n2)]) C dX3_spell_41 (by decide) rfl ?_
  refine Wb.lv (lv' := [(0, .ref A_th), (3, .int n1), (4, .int z1)]) ?_ [2, 1, 0] rfl
  refine wl3_W (Wg := fun (x5 : Int32) (x6 : Int32) (f7 : (Nat → Int32)) => Wb x [(A_th, oO 2 [V_th_numbers, V_th_codes, V_th_fits, V_th_known, V_th_starts, .ref A_th_signs, .int z1]), (A_th_signs, iA g 8 f7)] [(0, .ref A_th), (3, .int x5), (4, .int x6)] 43 []) ?_ F n1 z1 f3 hm
  intro x5 x6 f7 c4 hc4 hm
  refine b_iload C dX3_spell_43 2 rfl ?_
  refine b_if_le (tgt := 70) C dX3_spell_45 (by decide) hm (fun hm => ?_) (fun hm => ?_)
  · cases hm
    exact b_vret C dX3_spell_70
  · refine b_aload_n C dX3_spell_48 rfl 0 rfl ?_
    refine gfX3_24 C 0 rfl rfl dX3_spell_49 ?_
    refine b_iload C dX3_spell_52 2 rfl ?_
    refine b_iload_n C dX3_spell_54 rfl 1 rfl ?_
    refine b_bipush (v := 10) C dX3_spell_55 (by decide) ?_
    refine b_irem C dX3_spell_57 (by decide) ?_
    refine b_iast C 1 rfl dX3_spell_58 hm (fun f8 hm => Wb.to (w' := [(A_th, oO 2 [V_th_numbers, V_th_codes, V_th_fits, V_th_known, V_th_starts, .ref A_th_signs, .int z1]), (A_th_signs, iA g 8 f8)]) rfl ?_)
    refine b_iload_n C dX3_spell_59 rfl 1 rfl ?_
    refine b_bipush (v := 10) C dX3_spell_60 (by decide) ?_
    refine b_idiv C dX3_spell_62 (by decide) ?_
    refine b_topi hm (fun x9 hm => ?_)
    refine b_istore_n (lv' := [(3, .int x9), (0, .ref A_th), (4, .int x6)]) C dX3_spell_63 rfl (by decide) rfl ?_
    refine b_iinc (v2 := x6 + (-1)) (lv' := [(4, .int (x6 + (-1))), (3, .int x9), (0, .ref A_th)]) C dX3_spell_64 2 rfl rfl (by decide) rfl ?_
    refine b_goto (tgt := 43) C dX3_spell_67 (by decide) ?_
    exact Wb.lv (hc4 x9 (x6 + (-1)) f8 hm) [2, 1, 0] rfl
/-- BreakLearner$Index.codeAt(II)I -/
def m_X3_codeAt (F : Nat)  (n1 : Int32) (n2 : Int32) (th_size : Int32) (th_signs : (Nat → Int32)) : Option (Int32) :=
  rdK 9 kGap n2 (fun v1 =>
  letK ((n1 + 2) - v1) (fun x2 =>
  rdK 9 kSigns n2 (fun v3 =>
  letK (x2 + v3) (fun x4 =>
  if x2 < 0 then
    some (-1)
  else
    if x4 ≤ (th_size + 2) then
      wl2 (fun (x6 : Int32) (x7 : Int32) c5 =>
        if x4 ≤ x7 then
          some ((x6 * 4) + v1)
        else
          rdK 8 th_signs x7 (fun v8 =>
          letK ((x6 * 7) + v8) (fun x9 =>
          c5 x9 (x7 + 1)
          )
          )
        ) F 0 x2
    else
      some (-1)
  )
  )
  )
  )
abbrev rmX3_codeAt : Room := { frames := 0, cells := 0, slots := 0, locals := 0 }
set_option maxHeartbeats 4000000 in
set_option maxRecDepth 100000 in
theorem c_X3_codeAt (l : Launch) (g : Gl) (A_th A_th_signs : Nat) (V_th_numbers V_th_codes V_th_fits V_th_known V_th_starts : Value)  (n1 : Int32) (n2 : Int32) (th_size : Int32) (th_signs : (Nat → Int32)) (F : Nat) (u : Int32) (hm : m_X3_codeAt F n1 n2 th_size th_signs = some u) : Ct l g yX3_codeAt cX3_codeAt 8 (some .int) rmX3_codeAt [.ref A_th, .int n1, .int n2] [(A_th, oO 2 [V_th_numbers, V_th_codes, V_th_fits, V_th_known, V_th_starts, .ref A_th_signs, .int th_size]), (A_th_signs, iA g 8 th_signs)] (some (.int u)) [(A_th, oO 2 [V_th_numbers, V_th_codes, V_th_fits, V_th_known, V_th_starts, .ref A_th_signs, .int th_size]), (A_th_signs, iA g 8 th_signs)] := by
  refine ent (own := RX3) (lv := [(0, .ref A_th), (1, .int n1), (2, .int n2)]) (by decide) rfl (Nat.le_of_ble_eq_true rfl) rfl rfl ?_
  intro x C
  unfold m_X3_codeAt at hm
  refine b_getsN2 C (by decide +kernel) dX3_codeAt_0 ?_
  refine b_iload_n C dX3_codeAt_3 rfl 2 rfl ?_
  refine b_tab2 C dX3_codeAt_4 hm (fun v1 hm => ?_)
  refine b_istore_n (lv' := [(3, .int v1), (0, .ref A_th), (1, .int n1), (2, .int n2)]) C dX3_codeAt_5 rfl (by decide) rfl ?_
  refine b_iload_n C dX3_codeAt_6 rfl 2 rfl ?_
  refine b_iconst (v := 2) C dX3_codeAt_7 (by decide) ?_
  refine b_iadd C dX3_codeAt_8 ?_
  refine b_iload_n C dX3_codeAt_9 rfl 0 rfl ?_
  refine b_isub C dX3_codeAt_10 ?_
  refine b_topi hm (fun x2 hm => ?_)
  refine b_istore (lv' := [(4, .int x2), (3, .int v1), (0, .ref A_th), (1, .int n1), (2, .int n2)]) C dX3_codeAt_11 (by decide) rfl ?_
  refine b_iload C dX3_codeAt_13 0 rfl ?_
  refine b_getsN1 C (by decide +kernel) dX3_codeAt_15 ?_
  refine b_iload_n C dX3_codeAt_18 rfl 4 rfl ?_
  refine b_tab1 C dX3_codeAt_19 hm (fun v3 hm => ?_)
  refine b_iadd C dX3_codeAt_20 ?_
  refine b_topi hm (fun x4 hm => ?_)
  refine b_istore (lv' := [(5, .int x4), (4, .int x2), (3, .int v1), (0, .ref A_th), (1, .int n1), (2, .int n2)]) C dX3_codeAt_21 (by decide) rfl ?_
  refine b_iload C dX3_codeAt_23 1 rfl ?_
  refine b_if_lt (tgt := 39) C dX3_codeAt_25 (by decide) hm (fun hm => ?_) (fun hm => ?_)
  · refine b_iconst (v := (-1)) C dX3_codeAt_39 (by decide) ?_
    cases hm
    exact b_iret C dX3_codeAt_40
  · refine b_iload C dX3_codeAt_28 0 rfl ?_
    refine b_aload_n C dX3_codeAt_30 rfl 3 rfl ?_
    refine gfX3_52 C 0 rfl rfl dX3_codeAt_31 ?_
    refine b_iconst (v := 2) C dX3_codeAt_34 (by decide) ?_
    refine b_iadd C dX3_codeAt_35 ?_
    refine b_icmp_le (tgt := 41) C dX3_codeAt_36 (by decide) hm (fun hm => ?_) (fun hm => ?_)
    · refine b_iconst (v := 0) C dX3_codeAt_41 (by decide) ?_
      refine b_istore (lv' := [(6, .int 0), (5, .int x4), (4, .int x2), (3, .int v1), (0, .ref A_th), (1, .int n1), (2, .int n2)]) C dX3_codeAt_42 (by decide) rfl ?_
      refine b_iload C dX3_codeAt_44 2 rfl ?_
      refine b_istore (lv' := [(7, .int x2), (6, .int 0), (5, .int x4), (4, .int x2), (3, .int v1), (0, .ref A_th), (1, .int n1), (2, .int n2)]) C dX3_codeAt_46 (by decide) rfl ?_
      refine Wb.lv (lv' := [(0, .ref A_th), (3, .int v1), (5, .int x4), (6, .int 0), (7, .int x2)]) ?_ [5, 4, 2, 1, 0] rfl
      refine wl2_W (Wg := fun (x6 : Int32) (x7 : Int32) => Wb x [(A_th, oO 2 [V_th_numbers, V_th_codes, V_th_fits, V_th_known, V_th_starts, .ref A_th_signs, .int th_size]), (A_th_signs, iA g 8 th_signs)] [(0, .ref A_th), (3, .int v1), (5, .int x4), (6, .int x6), (7, .int x7)] 48 []) ?_ F 0 x2 hm
      intro x6 x7 c5 hc5 hm
      refine b_iload C dX3_codeAt_48 4 rfl ?_
      refine b_iload C dX3_codeAt_50 2 rfl ?_
      refine b_icmp_ge (tgt := 76) C dX3_codeAt_52 (by decide) hm (fun hm => ?_) (fun hm => ?_)
      · refine b_iload C dX3_codeAt_76 3 rfl ?_
        refine b_iconst (v := 4) C dX3_codeAt_78 (by decide) ?_
        refine b_imul C dX3_codeAt_79 ?_
        refine b_iload_n C dX3_codeAt_80 rfl 1 rfl ?_
        refine b_iadd C dX3_codeAt_81 ?_
        cases hm
        exact b_iret C dX3_codeAt_82
      · refine b_iload C dX3_codeAt_55 3 rfl ?_
        refine b_bipush (v := 7) C dX3_codeAt_57 (by decide) ?_
        refine b_imul C dX3_codeAt_59 ?_
        refine b_aload_n C dX3_codeAt_60 rfl 0 rfl ?_
        refine gfX3_24 C 0 rfl rfl dX3_codeAt_61 ?_
        refine b_iload C dX3_codeAt_64 4 rfl ?_
        refine b_iald C 1 rfl dX3_codeAt_66 hm (fun v8 hm => ?_)
        refine b_iadd C dX3_codeAt_67 ?_
        refine b_topi hm (fun x9 hm => ?_)
        refine b_istore (lv' := [(6, .int x9), (0, .ref A_th), (3, .int v1), (5, .int x4), (7, .int x7)]) C dX3_codeAt_68 (by decide) rfl ?_
        refine b_iinc (v2 := x7 + 1) (lv' := [(7, .int (x7 + 1)), (6, .int x9), (0, .ref A_th), (3, .int v1), (5, .int x4)]) C dX3_codeAt_70 4 rfl rfl (by decide) rfl ?_
        refine b_goto (tgt := 48) C dX3_codeAt_73 (by decide) ?_
        exact Wb.lv (hc5 x9 (x7 + 1) hm) [2, 3, 4, 1, 0] rfl
    · refine b_iconst (v := (-1)) C dX3_codeAt_39 (by decide) ?_
      cases hm
      exact b_iret C dX3_codeAt_40
/-- BreakLearner$Index.numberFor(I)I -/
def m_X3_numberFor (F : Nat)  (n1 : Int32) (th_known : Int32) (th_numbers : (Nat → Int32)) (th_codes : (Nat → Int32)) : Option (Int32 × Int32 × (Nat → Int32) × (Nat → Int32)) :=
  rdK 1372 th_numbers n1 (fun v1 =>
  jn3 (fun (z2 : Int32) (f3 : (Nat → Int32)) (f4 : (Nat → Int32)) =>
    rdK 1372 f3 n1 (fun v6 =>
    some (v6 - 1, z2, f3, f4)
    )
    ) (fun k5 =>
    if v1 = 0 then
      if 270 ≤ th_known then
        k5 th_known th_numbers th_codes
      else
        stK 270 th_codes th_known n1 (fun f7 =>
        letK (th_known + 1) (fun z8 =>
        stK 1372 th_numbers n1 z8 (fun f9 =>
        k5 z8 f9 f7
        )
        )
        )
    else
      k5 th_known th_numbers th_codes
    )
  )
abbrev rmX3_numberFor : Room := { frames := 0, cells := 0, slots := 0, locals := 0 }
set_option maxHeartbeats 4000000 in
set_option maxRecDepth 100000 in
theorem c_X3_numberFor (l : Launch) (g : Gl) (A_th A_th_numbers A_th_codes : Nat) (V_th_fits V_th_starts V_th_signs V_th_size : Value)  (n1 : Int32) (th_known : Int32) (th_numbers : (Nat → Int32)) (th_codes : (Nat → Int32)) (F : Nat) (u : Int32 × Int32 × (Nat → Int32) × (Nat → Int32)) (hm : m_X3_numberFor F n1 th_known th_numbers th_codes = some u) : Ct l g yX3_numberFor cX3_numberFor 2 (some .int) rmX3_numberFor [.ref A_th, .int n1] [(A_th, oO 2 [.ref A_th_numbers, .ref A_th_codes, V_th_fits, .int th_known, V_th_starts, V_th_signs, V_th_size]), (A_th_numbers, iA g 1372 th_numbers), (A_th_codes, iA g 270 th_codes)] (some (.int u.1)) [(A_th, oO 2 [.ref A_th_numbers, .ref A_th_codes, V_th_fits, .int u.2.1, V_th_starts, V_th_signs, V_th_size]), (A_th_numbers, iA g 1372 u.2.2.1), (A_th_codes, iA g 270 u.2.2.2)] := by
  refine ent (own := RX3) (lv := [(0, .ref A_th), (1, .int n1)]) (by decide) rfl (Nat.le_of_ble_eq_true rfl) rfl rfl ?_
  intro x C
  unfold m_X3_numberFor at hm
  refine b_aload_n C dX3_numberFor_0 rfl 0 rfl ?_
  refine gfX3_9 C 0 rfl rfl dX3_numberFor_1 ?_
  refine b_iload_n C dX3_numberFor_4 rfl 1 rfl ?_
  refine b_iald C 1 rfl dX3_numberFor_5 hm (fun v1 hm => ?_)
  obtain ⟨k5, hk5, hm⟩ := jn3_some hm
  have jk5 : ∀ (z2 : Int32) (f3 : (Nat → Int32)) (f4 : (Nat → Int32)), k5 z2 f3 f4 = some u → Wb x [(A_th, oO 2 [.ref A_th_numbers, .ref A_th_codes, V_th_fits, .int z2, V_th_starts, V_th_signs, V_th_size]), (A_th_numbers, iA g 1372 f3), (A_th_codes, iA g 270 f4)] [(0, .ref A_th), (1, .int n1)] 49 [] := by
    intro z2 f3 f4 hm
    have hm := hk5 _ _ _ hm
    refine b_aload_n C dX3_numberFor_49 rfl 0 rfl ?_
    refine gfX3_9 C 0 rfl rfl dX3_numberFor_50 ?_
    refine b_iload_n C dX3_numberFor_53 rfl 1 rfl ?_
    refine b_iald C 1 rfl dX3_numberFor_54 hm (fun v6 hm => ?_)
    refine b_iconst (v := 1) C dX3_numberFor_55 (by decide) ?_
    refine b_isub C dX3_numberFor_56 ?_
    cases hm
    exact b_iret C dX3_numberFor_57
  refine b_if_ne (tgt := 49) C dX3_numberFor_6 (by decide) hm (fun hm => ?_) (fun hm => ?_)
  · exact Wb.lv (jk5 th_known th_numbers th_codes hm) [0, 1] rfl
  · refine b_aload_n C dX3_numberFor_9 rfl 0 rfl ?_
    refine gfX3_30 C 0 rfl rfl dX3_numberFor_10 ?_
    refine b_sipush (v := 270) C dX3_numberFor_13 (by decide) ?_
    refine b_icmp_ge (tgt := 49) C dX3_numberFor_16 (by decide) hm (fun hm => ?_) (fun hm => ?_)
    · exact Wb.lv (jk5 th_known th_numbers th_codes hm) [0, 1] rfl
    · refine b_aload_n C dX3_numberFor_19 rfl 0 rfl ?_
      refine gfX3_15 C 0 rfl rfl dX3_numberFor_20 ?_
      refine b_aload_n C dX3_numberFor_23 rfl 0 rfl ?_
      refine gfX3_30 C 0 rfl rfl dX3_numberFor_24 ?_
      refine b_iload_n C dX3_numberFor_27 rfl 1 rfl ?_
      refine b_iast C 2 rfl dX3_numberFor_28 hm (fun f7 hm => Wb.to (w' := [(A_th, oO 2 [.ref A_th_numbers, .ref A_th_codes, V_th_fits, .int th_known, V_th_starts, V_th_signs, V_th_size]), (A_th_numbers, iA g 1372 th_numbers), (A_th_codes, iA g 270 f7)]) rfl ?_)
      refine b_aload_n C dX3_numberFor_29 rfl 0 rfl ?_
      refine b_dup C dX3_numberFor_30 rfl ?_
      refine gfX3_30 C 0 rfl rfl dX3_numberFor_31 ?_
      refine b_iconst (v := 1) C dX3_numberFor_34 (by decide) ?_
      refine b_iadd C dX3_numberFor_35 ?_
      refine b_topi hm (fun z8 hm => ?_)
      refine pfX3_30 (w' := [(A_th, oO 2 [.ref A_th_numbers, .ref A_th_codes, V_th_fits, .int z8, V_th_starts, V_th_signs, V_th_size]), (A_th_numbers, iA g 1372 th_numbers), (A_th_codes, iA g 270 f7)]) C rfl rfl 0 rfl (Nat.le_of_ble_eq_true rfl) dX3_numberFor_36 rfl ?_
      refine b_aload_n C dX3_numberFor_39 rfl 0 rfl ?_
      refine gfX3_9 C 0 rfl rfl dX3_numberFor_40 ?_
      refine b_iload_n C dX3_numberFor_43 rfl 1 rfl ?_
      refine b_aload_n C dX3_numberFor_44 rfl 0 rfl ?_
      refine gfX3_30 C 0 rfl rfl dX3_numberFor_45 ?_
      refine b_iast C 1 rfl dX3_numberFor_48 hm (fun f9 hm => Wb.to (w' := [(A_th, oO 2 [.ref A_th_numbers, .ref A_th_codes, V_th_fits, .int z8, V_th_starts, V_th_signs, V_th_size]), (A_th_numbers, iA g 1372 f9), (A_th_codes, iA g 270 f7)]) rfl ?_)
      exact Wb.lv (jk5 z8 f9 f7 hm) [0, 1] rfl
/-- BreakLearner$Index.takeWord(II)V -/
def m_X3_takeWord (F : Nat)  (n1 : Int32) (n2 : Int32) (th_known : Int32) (th_size : Int32) (th_signs : (Nat → Int32)) (th_fits : (Nat → Int32)) (th_numbers : (Nat → Int32)) (th_codes : (Nat → Int32)) : Option (Int32 × (Nat → Int32) × (Nat → Int32) × (Nat → Int32)) :=
  wl5 (fun (x2 : Int32) (z3 : Int32) (f4 : (Nat → Int32)) (f5 : (Nat → Int32)) (f6 : (Nat → Int32)) c1 =>
    if (th_size - 1) ≤ x2 then
      some (z3, f4, f5, f6)
    else
      letK ((n1 * 5) + x2) (fun x7 =>
      rdK 5 kFirst n2 (fun v8 =>
      wl5 (fun (x10 : Int32) (z11 : Int32) (f12 : (Nat → Int32)) (f13 : (Nat → Int32)) (f14 : (Nat → Int32)) c9 =>
        rdK 5 kFirst (n2 + 1) (fun v15 =>
        if v15 ≤ x10 then
          c1 (x2 + 1) z11 f12 f13 f14
        else
          bK1 (m_X3_codeAt F x2 x10 th_size th_signs) (fun r16 =>
          jn4 (fun (y17 : Int32) (z18 : Int32) (f19 : (Nat → Int32)) (f20 : (Nat → Int32)) =>
            stK 270 f12 ((x7 * 9) + x10) y17 (fun f22 =>
            c9 (x10 + 1) z18 f22 f19 f20
            )
            ) (fun k21 =>
            if 0 ≤ r16 then
              bK4 (m_X3_numberFor F r16 z11 f13 f14) (fun r23 z24 f25 f26 =>
              k21 r23 z24 f25 f26
              )
            else
              k21 (-1) z11 f13 f14
            )
          )
        )
        ) F v8 z3 f4 f5 f6
      )
      )
    ) F 0 th_known th_fits th_numbers th_codes
abbrev rmX3_takeWord : Room := { frames := 1, cells := 0, slots := 0, locals := 27 }
set_option maxHeartbeats 4000000 in
set_option maxRecDepth 100000 in
theorem c_X3_takeWord (l : Launch) (g : Gl) (A_th A_th_signs A_th_fits A_th_numbers A_th_codes : Nat) (V_th_starts : Value)  (n1 : Int32) (n2 : Int32) (th_known : Int32) (th_size : Int32) (th_signs : (Nat → Int32)) (th_fits : (Nat → Int32)) (th_numbers : (Nat → Int32)) (th_codes : (Nat → Int32)) (F : Nat) (u : Int32 × (Nat → Int32) × (Nat → Int32) × (Nat → Int32)) (hm : m_X3_takeWord F n1 n2 th_known th_size th_signs th_fits th_numbers th_codes = some u) : Ct l g yX3_takeWord cX3_takeWord 7 none rmX3_takeWord [.ref A_th, .int n1, .int n2] [(A_th, oO 2 [.ref A_th_numbers, .ref A_th_codes, .ref A_th_fits, .int th_known, V_th_starts, .ref A_th_signs, .int th_size]), (A_th_signs, iA g 8 th_signs), (A_th_fits, iA g 270 th_fits), (A_th_numbers, iA g 1372 th_numbers), (A_th_codes, iA g 270 th_codes)] none [(A_th, oO 2 [.ref A_th_numbers, .ref A_th_codes, .ref A_th_fits, .int u.1, V_th_starts, .ref A_th_signs, .int th_size]), (A_th_signs, iA g 8 th_signs), (A_th_fits, iA g 270 u.2.1), (A_th_numbers, iA g 1372 u.2.2.1), (A_th_codes, iA g 270 u.2.2.2)] := by
  refine ent (own := RX3) (lv := [(0, .ref A_th), (1, .int n1), (2, .int n2)]) (by decide) rfl (Nat.le_of_ble_eq_true rfl) rfl rfl ?_
  intro x C
  unfold m_X3_takeWord at hm
  refine b_iconst (v := 0) C dX3_takeWord_0 (by decide) ?_
  refine b_istore_n (lv' := [(3, .int 0), (0, .ref A_th), (1, .int n1), (2, .int n2)]) C dX3_takeWord_1 rfl (by decide) rfl ?_
  refine Wb.lv (lv' := [(0, .ref A_th), (1, .int n1), (2, .int n2), (3, .int 0)]) ?_ [1, 2, 3, 0] rfl
  refine wl5_W (Wg := fun (x2 : Int32) (z3 : Int32) (f4 : (Nat → Int32)) (f5 : (Nat → Int32)) (f6 : (Nat → Int32)) => Wb x [(A_th, oO 2 [.ref A_th_numbers, .ref A_th_codes, .ref A_th_fits, .int z3, V_th_starts, .ref A_th_signs, .int th_size]), (A_th_signs, iA g 8 th_signs), (A_th_fits, iA g 270 f4), (A_th_numbers, iA g 1372 f5), (A_th_codes, iA g 270 f6)] [(0, .ref A_th), (1, .int n1), (2, .int n2), (3, .int x2)] 2 []) ?_ F 0 th_known th_fits th_numbers th_codes hm
  intro x2 z3 f4 f5 f6 c1 hc1 hm
  refine b_iload_n C dX3_takeWord_2 rfl 3 rfl ?_
  refine b_aload_n C dX3_takeWord_3 rfl 0 rfl ?_
  refine gfX3_52 C 0 rfl rfl dX3_takeWord_4 ?_
  refine b_iconst (v := 1) C dX3_takeWord_7 (by decide) ?_
  refine b_isub C dX3_takeWord_8 ?_
  refine b_icmp_ge (tgt := 87) C dX3_takeWord_9 (by decide) hm (fun hm => ?_) (fun hm => ?_)
  · cases hm
    exact b_vret C dX3_takeWord_87
  · refine b_iload_n C dX3_takeWord_12 rfl 1 rfl ?_
    refine b_iconst (v := 5) C dX3_takeWord_13 (by decide) ?_
    refine b_imul C dX3_takeWord_14 ?_
    refine b_iload_n C dX3_takeWord_15 rfl 3 rfl ?_
    refine b_iadd C dX3_takeWord_16 ?_
    refine b_topi hm (fun x7 hm => ?_)
    refine b_istore (lv' := [(4, .int x7), (0, .ref A_th), (1, .int n1), (2, .int n2), (3, .int x2)]) C dX3_takeWord_17 (by decide) rfl ?_
    refine b_getsN0 C (by decide +kernel) dX3_takeWord_19 ?_
    refine b_iload_n C dX3_takeWord_22 rfl 3 rfl ?_
    refine b_tab0 C dX3_takeWord_23 hm (fun v8 hm => ?_)
    refine b_istore (lv' := [(5, .int v8), (4, .int x7), (0, .ref A_th), (1, .int n1), (2, .int n2), (3, .int x2)]) C dX3_takeWord_24 (by decide) rfl ?_
    refine Wb.lv (lv' := [(0, .ref A_th), (1, .int n1), (2, .int n2), (3, .int x2), (4, .int x7), (5, .int v8)]) ?_ [2, 3, 4, 5, 1, 0] rfl
    refine wl5_W (Wg := fun (x10 : Int32) (z11 : Int32) (f12 : (Nat → Int32)) (f13 : (Nat → Int32)) (f14 : (Nat → Int32)) => Wb x [(A_th, oO 2 [.ref A_th_numbers, .ref A_th_codes, .ref A_th_fits, .int z11, V_th_starts, .ref A_th_signs, .int th_size]), (A_th_signs, iA g 8 th_signs), (A_th_fits, iA g 270 f12), (A_th_numbers, iA g 1372 f13), (A_th_codes, iA g 270 f14)] [(0, .ref A_th), (1, .int n1), (2, .int n2), (3, .int x2), (4, .int x7), (5, .int x10)] 26 []) ?_ F v8 z3 f4 f5 f6 hm
    intro x10 z11 f12 f13 f14 c9 hc9 hm
    refine b_iload C dX3_takeWord_26 5 rfl ?_
    refine b_getsN0 C (by decide +kernel) dX3_takeWord_28 ?_
    refine b_iload_n C dX3_takeWord_31 rfl 2 rfl ?_
    refine b_iconst (v := 1) C dX3_takeWord_32 (by decide) ?_
    refine b_iadd C dX3_takeWord_33 ?_
    refine b_tab0 C dX3_takeWord_34 hm (fun v15 hm => ?_)
    refine b_icmp_ge (tgt := 81) C dX3_takeWord_35 (by decide) hm (fun hm => ?_) (fun hm => ?_)
    · refine b_iinc (v2 := x2 + 1) (lv' := [(3, .int (x2 + 1)), (0, .ref A_th), (1, .int n1), (2, .int n2), (4, .int x7), (5, .int x10)]) C dX3_takeWord_81 3 rfl rfl (by decide) rfl ?_
      refine b_goto (tgt := 2) C dX3_takeWord_84 (by decide) ?_
      exact Wb.lv (hc1 (x2 + 1) z11 f12 f13 f14 hm) [1, 2, 3, 0] rfl
    · refine b_aload_n C dX3_takeWord_38 rfl 0 rfl ?_
      refine b_iload_n C dX3_takeWord_39 rfl 3 rfl ?_
      refine b_iload C dX3_takeWord_40 5 rfl ?_
      obtain ⟨r16, hM, hm⟩ := bK1_some hm
      refine b_kV (w' := [(A_th, oO 2 [.ref A_th_numbers, .ref A_th_codes, .ref A_th_fits, .int z11, V_th_starts, .ref A_th_signs, .int th_size]), (A_th_signs, iA g 8 th_signs), (A_th_fits, iA g 270 f12), (A_th_numbers, iA g 1372 f13), (A_th_codes, iA g 270 f14)]) (st := []) (st2 := [.int r16]) C cv_X3_codeAt tb423 (c_X3_codeAt l g A_th A_th_signs (.ref A_th_numbers) (.ref A_th_codes) (.ref A_th_fits) (.int z11) V_th_starts x2 x10 th_size th_signs F r16 hM) rfl 0 rfl rfl ⟨rfl, rfl, by decide, by decide⟩ (Nat.le_of_ble_eq_true rfl) [0, 1] rfl (by decide) rfl rfl dX3_takeWord_42 [some 0, some 1, none, none, none] (by decide) ⟨⟨rfl, rfl⟩, ⟨⟨rfl, rfl⟩, ⟨rfl, ⟨rfl, ⟨rfl, trivial⟩⟩⟩⟩⟩ rfl ?_
      refine b_istore (lv' := [(6, .int r16), (0, .ref A_th), (1, .int n1), (2, .int n2), (3, .int x2), (4, .int x7), (5, .int x10)]) C dX3_takeWord_45 (by decide) rfl ?_
      refine b_aload_n C dX3_takeWord_47 rfl 1 rfl ?_
      refine gfX3_18 C 0 rfl rfl dX3_takeWord_48 ?_
      refine b_iload C dX3_takeWord_51 5 rfl ?_
      refine b_bipush (v := 9) C dX3_takeWord_53 (by decide) ?_
      refine b_imul C dX3_takeWord_55 ?_
      refine b_iload C dX3_takeWord_56 6 rfl ?_
      refine b_iadd C dX3_takeWord_58 ?_
      refine b_iload C dX3_takeWord_59 0 rfl ?_
      obtain ⟨k21, hk21, hm⟩ := jn4_some hm
      have jk21 : ∀ (y17 : Int32) (z18 : Int32) (f19 : (Nat → Int32)) (f20 : (Nat → Int32)), k21 y17 z18 f19 f20 = some u → Wb x [(A_th, oO 2 [.ref A_th_numbers, .ref A_th_codes, .ref A_th_fits, .int z18, V_th_starts, .ref A_th_signs, .int th_size]), (A_th_signs, iA g 8 th_signs), (A_th_fits, iA g 270 f12), (A_th_numbers, iA g 1372 f19), (A_th_codes, iA g 270 f20)] [(0, .ref A_th), (1, .int n1), (2, .int n2), (3, .int x2), (4, .int x7), (5, .int x10)] 74 [.int y17, .int ((x7 * 9) + x10), .ref A_th_fits] := by
        intro y17 z18 f19 f20 hm
        have hm := hk21 _ _ _ _ hm
        refine b_iast C 2 rfl dX3_takeWord_74 hm (fun f22 hm => Wb.to (w' := [(A_th, oO 2 [.ref A_th_numbers, .ref A_th_codes, .ref A_th_fits, .int z18, V_th_starts, .ref A_th_signs, .int th_size]), (A_th_signs, iA g 8 th_signs), (A_th_fits, iA g 270 f22), (A_th_numbers, iA g 1372 f19), (A_th_codes, iA g 270 f20)]) rfl ?_)
        refine b_iinc (v2 := x10 + 1) (lv' := [(5, .int (x10 + 1)), (0, .ref A_th), (1, .int n1), (2, .int n2), (3, .int x2), (4, .int x7)]) C dX3_takeWord_75 5 rfl rfl (by decide) rfl ?_
        refine b_goto (tgt := 26) C dX3_takeWord_78 (by decide) ?_
        exact Wb.lv (hc9 (x10 + 1) z18 f22 f19 f20 hm) [1, 2, 3, 4, 5, 0] rfl
      refine b_if_ge (tgt := 68) C dX3_takeWord_61 (by decide) hm (fun hm => ?_) (fun hm => ?_)
      · refine b_aload_n C dX3_takeWord_68 rfl 1 rfl ?_
        refine b_iload C dX3_takeWord_69 0 rfl ?_
        obtain ⟨r23, z24, f25, f26, hM, hm⟩ := bK4_some hm
        refine b_kV (w' := [(A_th, oO 2 [.ref A_th_numbers, .ref A_th_codes, .ref A_th_fits, .int z24, V_th_starts, .ref A_th_signs, .int th_size]), (A_th_signs, iA g 8 th_signs), (A_th_fits, iA g 270 f12), (A_th_numbers, iA g 1372 f25), (A_th_codes, iA g 270 f26)]) (st := [.int ((x7 * 9) + x10), .ref A_th_fits]) (st2 := [.int r23, .int ((x7 * 9) + x10), .ref A_th_fits]) C cv_X3_numberFor tb431 (c_X3_numberFor l g A_th A_th_numbers A_th_codes (.ref A_th_fits) V_th_starts (.ref A_th_signs) (.int th_size) r16 z11 f13 f14 F (r23, z24, f25, f26) hM) rfl 0 rfl rfl ⟨rfl, rfl, by decide, by decide⟩ (Nat.le_of_ble_eq_true rfl) [0, 3, 4] rfl (by decide) rfl rfl dX3_takeWord_71 [some 0, none, none, some 1, some 2] (by decide) ⟨⟨rfl, rfl⟩, ⟨rfl, ⟨rfl, ⟨⟨rfl, rfl⟩, ⟨⟨rfl, rfl⟩, trivial⟩⟩⟩⟩⟩ rfl ?_
        exact Wb.lv (jk21 r23 z24 f25 f26 hm) [1, 2, 3, 4, 5, 6] rfl
      · refine b_iconst (v := (-1)) C dX3_takeWord_64 (by decide) ?_
        refine b_goto (tgt := 74) C dX3_takeWord_65 (by decide) ?_
        exact Wb.lv (jk21 (-1) z11 f13 f14 hm) [1, 2, 3, 4, 5, 6] rfl
/-- BreakLearner$Index.takeFrom(LBreakLearner$Stock;)V -/
def m_X3_takeFrom (F : Nat)   (th_known : Int32) (th_size : Int32) (p1_words : Int32) (th_numbers : (Nat → Int32)) (th_codes : (Nat → Int32)) (th_starts : (Nat → Int32)) (p1_letters : (Nat → Int32)) (p1_sizes : (Nat → Int32)) (th_signs : (Nat → Int32)) (th_fits : (Nat → Int32)) : Option (Int32 × Int32 × (Nat → Int32) × (Nat → Int32) × (Nat → Int32) × (Nat → Int32) × (Nat → Int32)) :=
  bK2 (m_X3_forget F th_known th_numbers th_codes) (fun z1 f2 =>
  wl8 (fun (x4 : Int32) (z5 : Int32) (z6 : Int32) (f7 : (Nat → Int32)) (f8 : (Nat → Int32)) (f9 : (Nat → Int32)) (f10 : (Nat → Int32)) (f11 : (Nat → Int32)) c3 =>
    if 3 < x4 then
      stK 5 f9 4 z5 (fun f12 =>
      some (z5, z6, f7, f8, f12, f10, f11)
      )
    else
      stK 5 f9 x4 z5 (fun f13 =>
      wl7 (fun (x15 : Int32) (z16 : Int32) (z17 : Int32) (f18 : (Nat → Int32)) (f19 : (Nat → Int32)) (f20 : (Nat → Int32)) (f21 : (Nat → Int32)) c14 =>
        if p1_words ≤ x15 then
          c3 (x4 + 1) z16 z17 f18 f19 f13 f20 f21
        else
          rdK 6 p1_letters x15 (fun v22 =>
          rdK 6 p1_sizes x15 (fun v23 =>
          bK2 (m_X3_spell F v22 v23 z17 f20) (fun z24 f25 =>
          bK4 (m_X3_takeWord F x15 x4 z16 z24 f25 f21 f18 f19) (fun z26 f27 f28 f29 =>
          c14 (x15 + 1) z26 z24 f28 f29 f25 f27
          )
          )
          )
          )
        ) F 0 z5 z6 f7 f8 f10 f11
      )
    ) F 1 z1 th_size f2 th_codes th_starts th_signs th_fits
  )
abbrev rmX3_takeFrom : Room := { frames := 2, cells := 0, slots := 0, locals := 53 }
set_option maxHeartbeats 4000000 in
set_option maxRecDepth 100000 in
theorem c_X3_takeFrom (l : Launch) (g : Gl) (A_th A_p1 A_th_numbers A_th_codes A_th_starts A_p1_letters A_p1_sizes A_th_signs A_th_fits : Nat) (V_p1_breaks V_p1_rules V_p1_hs V_p1_learnt : Value)   (th_known : Int32) (th_size : Int32) (p1_words : Int32) (th_numbers : (Nat → Int32)) (th_codes : (Nat → Int32)) (th_starts : (Nat → Int32)) (p1_letters : (Nat → Int32)) (p1_sizes : (Nat → Int32)) (th_signs : (Nat → Int32)) (th_fits : (Nat → Int32)) (F : Nat) (u : Int32 × Int32 × (Nat → Int32) × (Nat → Int32) × (Nat → Int32) × (Nat → Int32) × (Nat → Int32)) (hm : m_X3_takeFrom F th_known th_size p1_words th_numbers th_codes th_starts p1_letters p1_sizes th_signs th_fits = some u) : Ct l g yX3_takeFrom cX3_takeFrom 4 none rmX3_takeFrom [.ref A_th, .ref A_p1] [(A_th, oO 2 [.ref A_th_numbers, .ref A_th_codes, .ref A_th_fits, .int th_known, .ref A_th_starts, .ref A_th_signs, .int th_size]), (A_p1, oO 6 [.ref A_p1_letters, V_p1_breaks, .ref A_p1_sizes, V_p1_rules, V_p1_hs, .int p1_words, V_p1_learnt]), (A_th_numbers, iA g 1372 th_numbers), (A_th_codes, iA g 270 th_codes), (A_th_starts, iA g 5 th_starts), (A_p1_letters, iA g 6 p1_letters), (A_p1_sizes, iA g 6 p1_sizes), (A_th_signs, iA g 8 th_signs), (A_th_fits, iA g 270 th_fits)] none [(A_th, oO 2 [.ref A_th_numbers, .ref A_th_codes, .ref A_th_fits, .int u.1, .ref A_th_starts, .ref A_th_signs, .int u.2.1]), (A_p1, oO 6 [.ref A_p1_letters, V_p1_breaks, .ref A_p1_sizes, V_p1_rules, V_p1_hs, .int p1_words, V_p1_learnt]), (A_th_numbers, iA g 1372 u.2.2.1), (A_th_codes, iA g 270 u.2.2.2.1), (A_th_starts, iA g 5 u.2.2.2.2.1), (A_p1_letters, iA g 6 p1_letters), (A_p1_sizes, iA g 6 p1_sizes), (A_th_signs, iA g 8 u.2.2.2.2.2.1), (A_th_fits, iA g 270 u.2.2.2.2.2.2)] := by
  refine ent (own := RX3) (lv := [(0, .ref A_th), (1, .ref A_p1)]) (by decide) rfl (Nat.le_of_ble_eq_true rfl) rfl rfl ?_
  intro x C
  unfold m_X3_takeFrom at hm
  refine b_aload_n C dX3_takeFrom_0 rfl 0 rfl ?_
  obtain ⟨z1, f2, hM, hm⟩ := bK2_some hm
  refine b_kV (w' := [(A_th, oO 2 [.ref A_th_numbers, .ref A_th_codes, .ref A_th_fits, .int z1, .ref A_th_starts, .ref A_th_signs, .int th_size]), (A_p1, oO 6 [.ref A_p1_letters, V_p1_breaks, .ref A_p1_sizes, V_p1_rules, V_p1_hs, .int p1_words, V_p1_learnt]), (A_th_numbers, iA g 1372 f2), (A_th_codes, iA g 270 th_codes), (A_th_starts, iA g 5 th_starts), (A_p1_letters, iA g 6 p1_letters), (A_p1_sizes, iA g 6 p1_sizes), (A_th_signs, iA g 8 th_signs), (A_th_fits, iA g 270 th_fits)]) (st := []) (st2 := []) C cv_X3_forget tb403 (c_X3_forget l g A_th A_th_numbers A_th_codes (.ref A_th_fits) (.ref A_th_starts) (.ref A_th_signs) (.int th_size) th_known th_numbers th_codes F (z1, f2) hM) rfl 0 rfl rfl ⟨rfl, rfl, by decide, by decide⟩ (Nat.le_of_ble_eq_true rfl) [0, 2, 3] rfl (by decide) rfl rfl dX3_takeFrom_1 [some 0, none, some 1, some 2, none, none, none, none, none] (by decide) ⟨⟨rfl, rfl⟩, ⟨rfl, ⟨⟨rfl, rfl⟩, ⟨⟨rfl, rfl⟩, ⟨rfl, ⟨rfl, ⟨rfl, ⟨rfl, ⟨rfl, trivial⟩⟩⟩⟩⟩⟩⟩⟩⟩ rfl ?_
  refine b_iconst (v := 1) C dX3_takeFrom_4 (by decide) ?_
  refine b_istore_n (lv' := [(2, .int 1), (0, .ref A_th), (1, .ref A_p1)]) C dX3_takeFrom_5 rfl (by decide) rfl ?_
  refine Wb.lv (lv' := [(0, .ref A_th), (1, .ref A_p1), (2, .int 1)]) ?_ [1, 2, 0] rfl
  refine wl8_W (Wg := fun (x4 : Int32) (z5 : Int32) (z6 : Int32) (f7 : (Nat → Int32)) (f8 : (Nat → Int32)) (f9 : (Nat → Int32)) (f10 : (Nat → Int32)) (f11 : (Nat → Int32)) => Wb x [(A_th, oO 2 [.ref A_th_numbers, .ref A_th_codes, .ref A_th_fits, .int z5, .ref A_th_starts, .ref A_th_signs, .int z6]), (A_p1, oO 6 [.ref A_p1_letters, V_p1_breaks, .ref A_p1_sizes, V_p1_rules, V_p1_hs, .int p1_words, V_p1_learnt]), (A_th_numbers, iA g 1372 f7), (A_th_codes, iA g 270 f8), (A_th_starts, iA g 5 f9), (A_p1_letters, iA g 6 p1_letters), (A_p1_sizes, iA g 6 p1_sizes), (A_th_signs, iA g 8 f10), (A_th_fits, iA g 270 f11)] [(0, .ref A_th), (1, .ref A_p1), (2, .int x4)] 6 []) ?_ F 1 z1 th_size f2 th_codes th_starts th_signs th_fits hm
  intro x4 z5 z6 f7 f8 f9 f10 f11 c3 hc3 hm
  refine b_iload_n C dX3_takeFrom_6 rfl 2 rfl ?_
  refine b_iconst (v := 3) C dX3_takeFrom_7 (by decide) ?_
  refine b_icmp_gt (tgt := 65) C dX3_takeFrom_8 (by decide) hm (fun hm => ?_) (fun hm => ?_)
  · refine b_aload_n C dX3_takeFrom_65 rfl 0 rfl ?_
    refine gfX3_21 C 0 rfl rfl dX3_takeFrom_66 ?_
    refine b_iconst (v := 4) C dX3_takeFrom_69 (by decide) ?_
    refine b_aload_n C dX3_takeFrom_70 rfl 0 rfl ?_
    refine gfX3_30 C 0 rfl rfl dX3_takeFrom_71 ?_
    refine b_iast C 4 rfl dX3_takeFrom_74 hm (fun f12 hm => Wb.to (w' := [(A_th, oO 2 [.ref A_th_numbers, .ref A_th_codes, .ref A_th_fits, .int z5, .ref A_th_starts, .ref A_th_signs, .int z6]), (A_p1, oO 6 [.ref A_p1_letters, V_p1_breaks, .ref A_p1_sizes, V_p1_rules, V_p1_hs, .int p1_words, V_p1_learnt]), (A_th_numbers, iA g 1372 f7), (A_th_codes, iA g 270 f8), (A_th_starts, iA g 5 f12), (A_p1_letters, iA g 6 p1_letters), (A_p1_sizes, iA g 6 p1_sizes), (A_th_signs, iA g 8 f10), (A_th_fits, iA g 270 f11)]) rfl ?_)
    cases hm
    exact b_vret C dX3_takeFrom_75
  · refine b_aload_n C dX3_takeFrom_11 rfl 0 rfl ?_
    refine gfX3_21 C 0 rfl rfl dX3_takeFrom_12 ?_
    refine b_iload_n C dX3_takeFrom_15 rfl 2 rfl ?_
    refine b_aload_n C dX3_takeFrom_16 rfl 0 rfl ?_
    refine gfX3_30 C 0 rfl rfl dX3_takeFrom_17 ?_
    refine b_iast C 4 rfl dX3_takeFrom_20 hm (fun f13 hm => Wb.to (w' := [(A_th, oO 2 [.ref A_th_numbers, .ref A_th_codes, .ref A_th_fits, .int z5, .ref A_th_starts, .ref A_th_signs, .int z6]), (A_p1, oO 6 [.ref A_p1_letters, V_p1_breaks, .ref A_p1_sizes, V_p1_rules, V_p1_hs, .int p1_words, V_p1_learnt]), (A_th_numbers, iA g 1372 f7), (A_th_codes, iA g 270 f8), (A_th_starts, iA g 5 f13), (A_p1_letters, iA g 6 p1_letters), (A_p1_sizes, iA g 6 p1_sizes), (A_th_signs, iA g 8 f10), (A_th_fits, iA g 270 f11)]) rfl ?_)
    refine b_iconst (v := 0) C dX3_takeFrom_21 (by decide) ?_
    refine b_istore_n (lv' := [(3, .int 0), (0, .ref A_th), (1, .ref A_p1), (2, .int x4)]) C dX3_takeFrom_22 rfl (by decide) rfl ?_
    refine Wb.lv (lv' := [(0, .ref A_th), (1, .ref A_p1), (2, .int x4), (3, .int 0)]) ?_ [1, 2, 3, 0] rfl
    refine wl7_W (Wg := fun (x15 : Int32) (z16 : Int32) (z17 : Int32) (f18 : (Nat → Int32)) (f19 : (Nat → Int32)) (f20 : (Nat → Int32)) (f21 : (Nat → Int32)) => Wb x [(A_th, oO 2 [.ref A_th_numbers, .ref A_th_codes, .ref A_th_fits, .int z16, .ref A_th_starts, .ref A_th_signs, .int z17]), (A_p1, oO 6 [.ref A_p1_letters, V_p1_breaks, .ref A_p1_sizes, V_p1_rules, V_p1_hs, .int p1_words, V_p1_learnt]), (A_th_numbers, iA g 1372 f18), (A_th_codes, iA g 270 f19), (A_th_starts, iA g 5 f13), (A_p1_letters, iA g 6 p1_letters), (A_p1_sizes, iA g 6 p1_sizes), (A_th_signs, iA g 8 f20), (A_th_fits, iA g 270 f21)] [(0, .ref A_th), (1, .ref A_p1), (2, .int x4), (3, .int x15)] 23 []) ?_ F 0 z5 z6 f7 f8 f10 f11 hm
    intro x15 z16 z17 f18 f19 f20 f21 c14 hc14 hm
    refine b_iload_n C dX3_takeFrom_23 rfl 3 rfl ?_
    refine b_aload_n C dX3_takeFrom_24 rfl 1 rfl ?_
    refine gfX3_34 C 1 rfl rfl dX3_takeFrom_25 ?_
    refine b_icmp_ge (tgt := 59) C dX3_takeFrom_28 (by decide) hm (fun hm => ?_) (fun hm => ?_)
    · refine b_iinc (v2 := x4 + 1) (lv' := [(2, .int (x4 + 1)), (0, .ref A_th), (1, .ref A_p1), (3, .int x15)]) C dX3_takeFrom_59 2 rfl rfl (by decide) rfl ?_
      refine b_goto (tgt := 6) C dX3_takeFrom_62 (by decide) ?_
      exact Wb.lv (hc3 (x4 + 1) z16 z17 f18 f19 f13 f20 f21 hm) [1, 2, 0] rfl
    · refine b_aload_n C dX3_takeFrom_31 rfl 0 rfl ?_
      refine b_aload_n C dX3_takeFrom_32 rfl 1 rfl ?_
      refine gfX3_39 C 1 rfl rfl dX3_takeFrom_33 ?_
      refine b_iload_n C dX3_takeFrom_36 rfl 3 rfl ?_
      refine b_iald C 5 rfl dX3_takeFrom_37 hm (fun v22 hm => ?_)
      refine b_aload_n C dX3_takeFrom_38 rfl 1 rfl ?_
      refine gfX3_42 C 1 rfl rfl dX3_takeFrom_39 ?_
      refine b_iload_n C dX3_takeFrom_42 rfl 3 rfl ?_
      refine b_iald C 6 rfl dX3_takeFrom_43 hm (fun v23 hm => ?_)
      obtain ⟨z24, f25, hM, hm⟩ := bK2_some hm
      refine b_kV (w' := [(A_th, oO 2 [.ref A_th_numbers, .ref A_th_codes, .ref A_th_fits, .int z16, .ref A_th_starts, .ref A_th_signs, .int z24]), (A_p1, oO 6 [.ref A_p1_letters, V_p1_breaks, .ref A_p1_sizes, V_p1_rules, V_p1_hs, .int p1_words, V_p1_learnt]), (A_th_numbers, iA g 1372 f18), (A_th_codes, iA g 270 f19), (A_th_starts, iA g 5 f13), (A_p1_letters, iA g 6 p1_letters), (A_p1_sizes, iA g 6 p1_sizes), (A_th_signs, iA g 8 f25), (A_th_fits, iA g 270 f21)]) (st := []) (st2 := []) C cv_X3_spell tb407 (c_X3_spell l g A_th A_th_signs (.ref A_th_numbers) (.ref A_th_codes) (.ref A_th_fits) (.int z16) (.ref A_th_starts) v22 v23 z17 f20 F (z24, f25) hM) rfl 0 rfl rfl ⟨rfl, rfl, by decide, by decide⟩ (Nat.le_of_ble_eq_true rfl) [0, 7] rfl (by decide) rfl rfl dX3_takeFrom_44 [some 0, none, none, none, none, none, none, some 1, none] (by decide) ⟨⟨rfl, rfl⟩, ⟨rfl, ⟨rfl, ⟨rfl, ⟨rfl, ⟨rfl, ⟨rfl, ⟨⟨rfl, rfl⟩, ⟨rfl, trivial⟩⟩⟩⟩⟩⟩⟩⟩⟩ rfl ?_
      refine b_aload_n C dX3_takeFrom_47 rfl 0 rfl ?_
      refine b_iload_n C dX3_takeFrom_48 rfl 3 rfl ?_
      refine b_iload_n C dX3_takeFrom_49 rfl 2 rfl ?_
      obtain ⟨z26, f27, f28, f29, hM, hm⟩ := bK4_some hm
      refine b_kV (w' := [(A_th, oO 2 [.ref A_th_numbers, .ref A_th_codes, .ref A_th_fits, .int z26, .ref A_th_starts, .ref A_th_signs, .int z24]), (A_p1, oO 6 [.ref A_p1_letters, V_p1_breaks, .ref A_p1_sizes, V_p1_rules, V_p1_hs, .int p1_words, V_p1_learnt]), (A_th_numbers, iA g 1372 f28), (A_th_codes, iA g 270 f29), (A_th_starts, iA g 5 f13), (A_p1_letters, iA g 6 p1_letters), (A_p1_sizes, iA g 6 p1_sizes), (A_th_signs, iA g 8 f25), (A_th_fits, iA g 270 f27)]) (st := []) (st2 := []) C cv_X3_takeWord tb417 (c_X3_takeWord l g A_th A_th_signs A_th_fits A_th_numbers A_th_codes (.ref A_th_starts) x15 x4 z16 z24 f25 f21 f18 f19 F (z26, f27, f28, f29) hM) rfl 0 rfl rfl ⟨rfl, rfl, by decide, by decide⟩ (Nat.le_of_ble_eq_true rfl) [0, 7, 8, 2, 3] rfl (by decide) rfl rfl dX3_takeFrom_50 [some 0, none, some 3, some 4, none, none, none, some 1, some 2] (by decide) ⟨⟨rfl, rfl⟩, ⟨rfl, ⟨⟨rfl, rfl⟩, ⟨⟨rfl, rfl⟩, ⟨rfl, ⟨rfl, ⟨rfl, ⟨⟨rfl, rfl⟩, ⟨⟨rfl, rfl⟩, trivial⟩⟩⟩⟩⟩⟩⟩⟩⟩ rfl ?_
      refine b_iinc (v2 := x15 + 1) (lv' := [(3, .int (x15 + 1)), (0, .ref A_th), (1, .ref A_p1), (2, .int x4)]) C dX3_takeFrom_53 3 rfl rfl (by decide) rfl ?_
      refine b_goto (tgt := 23) C dX3_takeFrom_56 (by decide) ?_
      exact Wb.lv (hc14 (x15 + 1) z26 z24 f28 f29 f25 f27 hm) [1, 2, 3, 0] rfl
/-- java/util/Arrays.rangeCheck(III)V -/
def m_J7_rangeCheck_23922 (F : Nat)  (n1 : Int32) (n2 : Int32) (n3 : Int32)  : Option (Unit) :=
  if n2 ≤ n3 then
    if 0 ≤ n2 then
      if n3 ≤ n1 then
        some ()
      else
        none
    else
      none
  else
    none
abbrev rmJ7_rangeCheck_23922 : Room := { frames := 0, cells := 0, slots := 0, locals := 0 }
set_option maxHeartbeats 4000000 in
set_option maxRecDepth 100000 in
theorem c_J7_rangeCheck_23922 (l : Launch) (g : Gl)  (n1 : Int32) (n2 : Int32) (n3 : Int32)  (F : Nat) (u : Unit) (hm : m_J7_rangeCheck_23922 F n1 n2 n3 = some u) : Ct l g yJ7_rangeCheck_23922 cJ7_rangeCheck_23922 3 none rmJ7_rangeCheck_23922 [.int n1, .int n2, .int n3] [] none [] := by
  refine ent (own := RJ7) (lv := [(0, .int n1), (1, .int n2), (2, .int n3)]) (by decide) rfl (Nat.le_of_ble_eq_true rfl) rfl rfl ?_
  intro x C
  unfold m_J7_rangeCheck_23922 at hm
  refine b_iload_n C dJ7_rangeCheck_23922_0 rfl 1 rfl ?_
  refine b_iload_n C dJ7_rangeCheck_23922_1 rfl 2 rfl ?_
  refine b_icmp_le (tgt := 46) C dJ7_rangeCheck_23922_2 (by decide) hm (fun hm => ?_) (fun hm => ?_)
  · refine b_iload_n C dJ7_rangeCheck_23922_46 rfl 1 rfl ?_
    refine b_if_ge (tgt := 59) C dJ7_rangeCheck_23922_47 (by decide) hm (fun hm => ?_) (fun hm => ?_)
    · refine b_iload_n C dJ7_rangeCheck_23922_59 rfl 2 rfl ?_
      refine b_iload_n C dJ7_rangeCheck_23922_60 rfl 0 rfl ?_
      refine b_icmp_le (tgt := 73) C dJ7_rangeCheck_23922_61 (by decide) hm (fun hm => ?_) (fun hm => ?_)
      · cases hm
        exact b_vret C dJ7_rangeCheck_23922_73
      · cases hm
    · cases hm
  · cases hm
/-- java/util/Arrays.fill([IIII)V -/
def m_J7_fill_fda19 (F : Nat) (N_p1 : Nat) (n2 : Int32) (n3 : Int32) (n4 : Int32) (p1 : (Nat → Int32)) : Option ((Nat → Int32)) :=
  bK0 (m_J7_rangeCheck_23922 F (Int32.ofNat N_p1) n2 n3) (
  wl2 (fun (x2 : Int32) (f3 : (Nat → Int32)) c1 =>
    if n3 ≤ x2 then
      some f3
    else
      stK N_p1 f3 x2 n4 (fun f4 =>
      c1 (x2 + 1) f4
      )
    ) F n2 p1
  )
abbrev rmJ7_fill_fda19 : Room := { frames := 1, cells := 0, slots := 0, locals := 22 }
set_option maxHeartbeats 4000000 in
set_option maxRecDepth 100000 in
theorem c_J7_fill_fda19 (l : Launch) (g : Gl) (A_p1 : Nat) (N_p1 : Nat) (n2 : Int32) (n3 : Int32) (n4 : Int32) (p1 : (Nat → Int32)) (F : Nat) (u : (Nat → Int32)) (hm : m_J7_fill_fda19 F N_p1 n2 n3 n4 p1 = some u) : Ct l g yJ7_fill_fda19 cJ7_fill_fda19 5 none rmJ7_fill_fda19 [.ref A_p1, .int n2, .int n3, .int n4] [(A_p1, iA g N_p1 p1)] none [(A_p1, iA g N_p1 u)] := by
  refine ent (own := RJ7) (lv := [(0, .ref A_p1), (1, .int n2), (2, .int n3), (3, .int n4)]) (by decide) rfl (Nat.le_of_ble_eq_true rfl) rfl rfl ?_
  intro x C
  unfold m_J7_fill_fda19 at hm
  refine b_aload_n C dJ7_fill_fda19_0 rfl 0 rfl ?_
  refine b_alen C 0 rfl dJ7_fill_fda19_1 ?_
  refine b_iload_n C dJ7_fill_fda19_2 rfl 1 rfl ?_
  refine b_iload_n C dJ7_fill_fda19_3 rfl 2 rfl ?_
  obtain ⟨hM, hm⟩ := bK0_some hm
  refine b_kS (w' := [(A_p1, iA g N_p1 p1)]) (st := []) (st2 := []) C cs_J7_rangeCheck_23922 tb442 (c_J7_rangeCheck_23922 l g (Int32.ofNat N_p1) n2 n3 F () hM) rfl ⟨rfl, rfl, by decide, by decide⟩ (Nat.le_of_ble_eq_true rfl) [] rfl (by decide) rfl rfl dJ7_fill_fda19_4 [none] (by decide) ⟨rfl, trivial⟩ rfl ?_
  refine b_iload_n C dJ7_fill_fda19_7 rfl 1 rfl ?_
  refine b_istore (lv' := [(4, .int n2), (0, .ref A_p1), (1, .int n2), (2, .int n3), (3, .int n4)]) C dJ7_fill_fda19_8 (by decide) rfl ?_
  refine Wb.lv (lv' := [(0, .ref A_p1), (2, .int n3), (3, .int n4), (4, .int n2)]) ?_ [1, 3, 4, 0] rfl
  refine wl2_W (Wg := fun (x2 : Int32) (f3 : (Nat → Int32)) => Wb x [(A_p1, iA g N_p1 f3)] [(0, .ref A_p1), (2, .int n3), (3, .int n4), (4, .int x2)] 10 []) ?_ F n2 p1 hm
  intro x2 f3 c1 hc1 hm
  refine b_iload C dJ7_fill_fda19_10 3 rfl ?_
  refine b_iload_n C dJ7_fill_fda19_12 rfl 1 rfl ?_
  refine b_icmp_ge (tgt := 27) C dJ7_fill_fda19_13 (by decide) hm (fun hm => ?_) (fun hm => ?_)
  · cases hm
    exact b_vret C dJ7_fill_fda19_27
  · refine b_aload_n C dJ7_fill_fda19_16 rfl 0 rfl ?_
    refine b_iload C dJ7_fill_fda19_17 3 rfl ?_
    refine b_iload_n C dJ7_fill_fda19_19 rfl 2 rfl ?_
    refine b_iast C 0 rfl dJ7_fill_fda19_20 hm (fun f4 hm => Wb.to (w' := [(A_p1, iA g N_p1 f4)]) rfl ?_)
    refine b_iinc (v2 := x2 + 1) (lv' := [(4, .int (x2 + 1)), (0, .ref A_p1), (2, .int n3), (3, .int n4)]) C dJ7_fill_fda19_21 3 rfl rfl (by decide) rfl ?_
    refine b_goto (tgt := 10) C dJ7_fill_fda19_24 (by decide) ?_
    exact Wb.lv (hc1 (x2 + 1) f4 hm) [1, 2, 3, 0] rfl
/-- java/util/Arrays.fill([II)V -/
def m_J7_fill_53178 (F : Nat) (N_p1 : Nat) (n2 : Int32) (p1 : (Nat → Int32)) : Option ((Nat → Int32)) :=
  letK (Int32.ofNat N_p1) (fun x1 =>
  wl2 (fun (x3 : Int32) (f4 : (Nat → Int32)) c2 =>
    if x1 ≤ x3 then
      some f4
    else
      stK N_p1 f4 x3 n2 (fun f5 =>
      c2 (x3 + 1) f5
      )
    ) F 0 p1
  )
abbrev rmJ7_fill_53178 : Room := { frames := 0, cells := 0, slots := 0, locals := 0 }
set_option maxHeartbeats 4000000 in
set_option maxRecDepth 100000 in
theorem c_J7_fill_53178 (l : Launch) (g : Gl) (A_p1 : Nat) (N_p1 : Nat) (n2 : Int32) (p1 : (Nat → Int32)) (F : Nat) (u : (Nat → Int32)) (hm : m_J7_fill_53178 F N_p1 n2 p1 = some u) : Ct l g yJ7_fill_53178 cJ7_fill_53178 4 none rmJ7_fill_53178 [.ref A_p1, .int n2] [(A_p1, iA g N_p1 p1)] none [(A_p1, iA g N_p1 u)] := by
  refine ent (own := RJ7) (lv := [(0, .ref A_p1), (1, .int n2)]) (by decide) rfl (Nat.le_of_ble_eq_true rfl) rfl rfl ?_
  intro x C
  unfold m_J7_fill_53178 at hm
  refine b_iconst (v := 0) C dJ7_fill_53178_0 (by decide) ?_
  refine b_istore_n (lv' := [(2, .int 0), (0, .ref A_p1), (1, .int n2)]) C dJ7_fill_53178_1 rfl (by decide) rfl ?_
  refine b_aload_n C dJ7_fill_53178_2 rfl 1 rfl ?_
  refine b_alen C 0 rfl dJ7_fill_53178_3 ?_
  refine b_topi hm (fun x1 hm => ?_)
  refine b_istore_n (lv' := [(3, .int x1), (2, .int 0), (0, .ref A_p1), (1, .int n2)]) C dJ7_fill_53178_4 rfl (by decide) rfl ?_
  refine Wb.lv (lv' := [(0, .ref A_p1), (1, .int n2), (2, .int 0), (3, .int x1)]) ?_ [2, 3, 1, 0] rfl
  refine wl2_W (Wg := fun (x3 : Int32) (f4 : (Nat → Int32)) => Wb x [(A_p1, iA g N_p1 f4)] [(0, .ref A_p1), (1, .int n2), (2, .int x3), (3, .int x1)] 5 []) ?_ F 0 p1 hm
  intro x3 f4 c2 hc2 hm
  refine b_iload_n C dJ7_fill_53178_5 rfl 2 rfl ?_
  refine b_iload_n C dJ7_fill_53178_6 rfl 3 rfl ?_
  refine b_icmp_ge (tgt := 20) C dJ7_fill_53178_7 (by decide) hm (fun hm => ?_) (fun hm => ?_)
  · cases hm
    exact b_vret C dJ7_fill_53178_20
  · refine b_aload_n C dJ7_fill_53178_10 rfl 0 rfl ?_
    refine b_iload_n C dJ7_fill_53178_11 rfl 2 rfl ?_
    refine b_iload_n C dJ7_fill_53178_12 rfl 1 rfl ?_
    refine b_iast C 0 rfl dJ7_fill_53178_13 hm (fun f5 hm => Wb.to (w' := [(A_p1, iA g N_p1 f5)]) rfl ?_)
    refine b_iinc (v2 := x3 + 1) (lv' := [(2, .int (x3 + 1)), (0, .ref A_p1), (1, .int n2), (3, .int x1)]) C dJ7_fill_53178_14 2 rfl rfl (by decide) rfl ?_
    refine b_goto (tgt := 5) C dJ7_fill_53178_17 (by decide) ?_
    exact Wb.lv (hc2 (x3 + 1) f5 hm) [1, 2, 0, 3] rfl
/-- BreakLearner$Learning.digitOf(II)I -/
def m_X5_digitOf (F : Nat)  (n1 : Int32) (n2 : Int32) (th_digits : (Nat → Int32)) : Option (Int32) :=
  rdK 30 th_digits ((n1 * 5) + n2) (fun v1 =>
  some v1
  )
abbrev rmX5_digitOf : Room := { frames := 0, cells := 0, slots := 0, locals := 0 }
set_option maxHeartbeats 4000000 in
set_option maxRecDepth 100000 in
theorem c_X5_digitOf (l : Launch) (g : Gl) (A_th A_th_digits : Nat) (V_th_index V_th_levels V_th_good V_th_bad : Value)  (n1 : Int32) (n2 : Int32) (th_digits : (Nat → Int32)) (F : Nat) (u : Int32) (hm : m_X5_digitOf F n1 n2 th_digits = some u) : Ct l g yX5_digitOf cX5_digitOf 3 (some .int) rmX5_digitOf [.ref A_th, .int n1, .int n2] [(A_th, oO 4 [V_th_index, V_th_levels, V_th_good, V_th_bad, .ref A_th_digits]), (A_th_digits, iA g 30 th_digits)] (some (.int u)) [(A_th, oO 4 [V_th_index, V_th_levels, V_th_good, V_th_bad, .ref A_th_digits]), (A_th_digits, iA g 30 th_digits)] := by
  refine ent (own := RX5) (lv := [(0, .ref A_th), (1, .int n1), (2, .int n2)]) (by decide) rfl (Nat.le_of_ble_eq_true rfl) rfl rfl ?_
  intro x C
  unfold m_X5_digitOf at hm
  refine b_aload_n C dX5_digitOf_0 rfl 0 rfl ?_
  refine gfX5_21 C 0 rfl rfl dX5_digitOf_1 ?_
  refine b_iload_n C dX5_digitOf_4 rfl 1 rfl ?_
  refine b_iconst (v := 5) C dX5_digitOf_5 (by decide) ?_
  refine b_imul C dX5_digitOf_6 ?_
  refine b_iload_n C dX5_digitOf_7 rfl 2 rfl ?_
  refine b_iadd C dX5_digitOf_8 ?_
  refine b_iald C 1 rfl dX5_digitOf_9 hm (fun v1 hm => ?_)
  cases hm
  exact b_iret C dX5_digitOf_10
/-- BreakLearner$Learning.countPlace([III)V -/
def m_X5_countPlace (F : Nat)  (n2 : Int32) (n3 : Int32) (p1 : (Nat → Int32)) (th_index_fits : (Nat → Int32)) : Option ((Nat → Int32)) :=
  rdK 5 kFirst n3 (fun v1 =>
  wl2 (fun (x3 : Int32) (f4 : (Nat → Int32)) c2 =>
    rdK 5 kFirst (n3 + 1) (fun v5 =>
    if v5 ≤ x3 then
      some f4
    else
      rdK 270 th_index_fits ((n2 * 9) + x3) (fun v6 =>
      if v6 < 0 then
        c2 (x3 + 1) f4
      else
        rdK 270 f4 v6 (fun v7 =>
        stK 270 f4 v6 (v7 + 1) (fun f8 =>
        c2 (x3 + 1) f8
        )
        )
      )
    )
    ) F v1 p1
  )
abbrev rmX5_countPlace : Room := { frames := 0, cells := 0, slots := 0, locals := 0 }
set_option maxHeartbeats 4000000 in
set_option maxRecDepth 100000 in
theorem c_X5_countPlace (l : Launch) (g : Gl) (A_th A_p1 A_th_index A_th_index_fits : Nat) (V_th_levels V_th_good V_th_bad V_th_digits V_th_index_numbers V_th_index_codes V_th_index_known V_th_index_starts V_th_index_signs V_th_index_size : Value)  (n2 : Int32) (n3 : Int32) (p1 : (Nat → Int32)) (th_index_fits : (Nat → Int32)) (F : Nat) (u : (Nat → Int32)) (hm : m_X5_countPlace F n2 n3 p1 th_index_fits = some u) : Ct l g yX5_countPlace cX5_countPlace 6 none rmX5_countPlace [.ref A_th, .ref A_p1, .int n2, .int n3] [(A_th, oO 4 [.ref A_th_index, V_th_levels, V_th_good, V_th_bad, V_th_digits]), (A_p1, iA g 270 p1), (A_th_index, oO 2 [V_th_index_numbers, V_th_index_codes, .ref A_th_index_fits, V_th_index_known, V_th_index_starts, V_th_index_signs, V_th_index_size]), (A_th_index_fits, iA g 270 th_index_fits)] none [(A_th, oO 4 [.ref A_th_index, V_th_levels, V_th_good, V_th_bad, V_th_digits]), (A_p1, iA g 270 u), (A_th_index, oO 2 [V_th_index_numbers, V_th_index_codes, .ref A_th_index_fits, V_th_index_known, V_th_index_starts, V_th_index_signs, V_th_index_size]), (A_th_index_fits, iA g 270 th_index_fits)] := by
  refine ent (own := RX5) (lv := [(0, .ref A_th), (1, .ref A_p1), (2, .int n2), (3, .int n3)]) (by decide) rfl (Nat.le_of_ble_eq_true rfl) rfl rfl ?_
  intro x C
  unfold m_X5_countPlace at hm
  refine b_getsN0 C (by decide +kernel) dX5_countPlace_0 ?_
  refine b_iload_n C dX5_countPlace_3 rfl 3 rfl ?_
  refine b_tab0 C dX5_countPlace_4 hm (fun v1 hm => ?_)
  refine b_istore (lv' := [(4, .int v1), (0, .ref A_th), (1, .ref A_p1), (2, .int n2), (3, .int n3)]) C dX5_countPlace_5 (by decide) rfl ?_
  refine Wb.lv (lv' := [(0, .ref A_th), (1, .ref A_p1), (2, .int n2), (3, .int n3), (4, .int v1)]) ?_ [1, 2, 3, 4, 0] rfl
  refine wl2_W (Wg := fun (x3 : Int32) (f4 : (Nat → Int32)) => Wb x [(A_th, oO 4 [.ref A_th_index, V_th_levels, V_th_good, V_th_bad, V_th_digits]), (A_p1, iA g 270 f4), (A_th_index, oO 2 [V_th_index_numbers, V_th_index_codes, .ref A_th_index_fits, V_th_index_known, V_th_index_starts, V_th_index_signs, V_th_index_size]), (A_th_index_fits, iA g 270 th_index_fits)] [(0, .ref A_th), (1, .ref A_p1), (2, .int n2), (3, .int n3), (4, .int x3)] 7 []) ?_ F v1 p1 hm
  intro x3 f4 c2 hc2 hm
  refine b_iload C dX5_countPlace_7 4 rfl ?_
  refine b_getsN0 C (by decide +kernel) dX5_countPlace_9 ?_
  refine b_iload_n C dX5_countPlace_12 rfl 3 rfl ?_
  refine b_iconst (v := 1) C dX5_countPlace_13 (by decide) ?_
  refine b_iadd C dX5_countPlace_14 ?_
  refine b_tab0 C dX5_countPlace_15 hm (fun v5 hm => ?_)
  refine b_icmp_ge (tgt := 55) C dX5_countPlace_16 (by decide) hm (fun hm => ?_) (fun hm => ?_)
  · cases hm
    exact b_vret C dX5_countPlace_55
  · refine b_aload_n C dX5_countPlace_19 rfl 0 rfl ?_
    refine gfX5_24 C 0 rfl rfl dX5_countPlace_20 ?_
    refine gfX5_79 C 2 rfl rfl dX5_countPlace_23 ?_
    refine b_iload_n C dX5_countPlace_26 rfl 2 rfl ?_
    refine b_bipush (v := 9) C dX5_countPlace_27 (by decide) ?_
    refine b_imul C dX5_countPlace_29 ?_
    refine b_iload C dX5_countPlace_30 4 rfl ?_
    refine b_iadd C dX5_countPlace_32 ?_
    refine b_iald C 3 rfl dX5_countPlace_33 hm (fun v6 hm => ?_)
    refine b_istore (lv' := [(5, .int v6), (0, .ref A_th), (1, .ref A_p1), (2, .int n2), (3, .int n3), (4, .int x3)]) C dX5_countPlace_34 (by decide) rfl ?_
    refine b_iload C dX5_countPlace_36 0 rfl ?_
    refine b_if_lt (tgt := 49) C dX5_countPlace_38 (by decide) hm (fun hm => ?_) (fun hm => ?_)
    · refine b_iinc (v2 := x3 + 1) (lv' := [(4, .int (x3 + 1)), (5, .int v6), (0, .ref A_th), (1, .ref A_p1), (2, .int n2), (3, .int n3)]) C dX5_countPlace_49 5 rfl rfl (by decide) rfl ?_
      refine b_goto (tgt := 7) C dX5_countPlace_52 (by decide) ?_
      exact Wb.lv (hc2 (x3 + 1) f4 hm) [2, 3, 4, 5, 0] rfl
    · refine b_aload_n C dX5_countPlace_41 rfl 2 rfl ?_
      refine b_iload C dX5_countPlace_42 0 rfl ?_
      refine b_dup2 C dX5_countPlace_44 rfl rfl ?_
      refine b_iald C 1 rfl dX5_countPlace_45 hm (fun v7 hm => ?_)
      refine b_iconst (v := 1) C dX5_countPlace_46 (by decide) ?_
      refine b_iadd C dX5_countPlace_47 ?_
      refine b_iast C 1 rfl dX5_countPlace_48 hm (fun f8 hm => Wb.to (w' := [(A_th, oO 4 [.ref A_th_index, V_th_levels, V_th_good, V_th_bad, V_th_digits]), (A_p1, iA g 270 f8), (A_th_index, oO 2 [V_th_index_numbers, V_th_index_codes, .ref A_th_index_fits, V_th_index_known, V_th_index_starts, V_th_index_signs, V_th_index_size]), (A_th_index_fits, iA g 270 th_index_fits)]) rfl ?_)
      refine b_iinc (v2 := x3 + 1) (lv' := [(4, .int (x3 + 1)), (5, .int v6), (0, .ref A_th), (1, .ref A_p1), (2, .int n2), (3, .int n3)]) C dX5_countPlace_49 5 rfl rfl (by decide) rfl ?_
      refine b_goto (tgt := 7) C dX5_countPlace_52 (by decide) ?_
      exact Wb.lv (hc2 (x3 + 1) f8 hm) [2, 3, 4, 5, 0] rfl
