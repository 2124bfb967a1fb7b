/-- BreakLearner$Text.append(I)Z -/
def m_X8_append (F : Nat)  (n1 : Int32) (th_length : Int32) (th_signs : (Nat → Int32)) : Option (Int32 × Int32 × (Nat → Int32)) :=
  if th_length < 64 then
    stK 64 th_signs th_length n1 (fun f1 =>
    letK (th_length + 1) (fun z2 =>
    some (1, z2, f1)
    )
    )
  else
    some (0, th_length, th_signs)
abbrev rmX8_append : Room := { frames := 0, cells := 0, slots := 0, locals := 0 }
set_option maxHeartbeats 4000000 in
set_option maxRecDepth 100000 in
theorem c_X8_append (l : Launch) (g : Gl) (A_th A_th_signs : Nat)  (n1 : Int32) (th_length : Int32) (th_signs : (Nat → Int32)) (F : Nat) (u : Int32 × Int32 × (Nat → Int32)) (hm : m_X8_append F n1 th_length th_signs = some u) : Ct l g yX8_append cX8_append 2 (some .boolean) rmX8_append [.ref A_th, .int n1] [(A_th, oO 7 [.ref A_th_signs, .int th_length]), (A_th_signs, iA g 64 th_signs)] (some (.int u.1)) [(A_th, oO 7 [.ref A_th_signs, .int u.2.1]), (A_th_signs, iA g 64 u.2.2)] := by
  refine ent (own := RX8) (lv := [(0, .ref A_th), (1, .int n1)]) (by decide) rfl (Nat.le_of_ble_eq_true rfl) rfl rfl ?_
  intro x C
  unfold m_X8_append at hm
  refine b_aload_n C dX8_append_0 rfl 0 rfl ?_
  refine gfX8_15 C 0 rfl rfl dX8_append_1 ?_
  refine b_bipush (v := 64) C dX8_append_4 (by decide) ?_
  refine b_icmp_lt (tgt := 11) C dX8_append_6 (by decide) hm (fun hm => ?_) (fun hm => ?_)
  · refine b_aload_n C dX8_append_11 rfl 0 rfl ?_
    refine gfX8_9 C 0 rfl rfl dX8_append_12 ?_
    refine b_aload_n C dX8_append_15 rfl 0 rfl ?_
    refine gfX8_15 C 0 rfl rfl dX8_append_16 ?_
    refine b_iload_n C dX8_append_19 rfl 1 rfl ?_
    refine b_iast C 1 rfl dX8_append_20 hm (fun f1 hm => Wb.to (w' := [(A_th, oO 7 [.ref A_th_signs, .int th_length]), (A_th_signs, iA g 64 f1)]) rfl ?_)
    refine b_aload_n C dX8_append_21 rfl 0 rfl ?_
    refine b_dup C dX8_append_22 rfl ?_
    refine gfX8_15 C 0 rfl rfl dX8_append_23 ?_
    refine b_iconst (v := 1) C dX8_append_26 (by decide) ?_
    refine b_iadd C dX8_append_27 ?_
    refine b_topi hm (fun z2 hm => ?_)
    refine pfX8_15 (w' := [(A_th, oO 7 [.ref A_th_signs, .int z2]), (A_th_signs, iA g 64 f1)]) C rfl rfl 0 rfl (Nat.le_of_ble_eq_true rfl) dX8_append_28 rfl ?_
    refine b_iconst (v := 1) C dX8_append_31 (by decide) ?_
    cases hm
    exact b_zret (v := 1) C (by decide) dX8_append_32
  · refine b_iconst (v := 0) C dX8_append_9 (by decide) ?_
    cases hm
    exact b_zret (v := 0) C (by decide) dX8_append_10
/-- BreakLearner.write(I)I -/
def m_X10_write (F : Nat)  (n1 : Int32) (th_text_length : Int32) (th_text_signs : (Nat → Int32)) : Option (Int32 × Int32 × (Nat → Int32)) :=
  if n1 < 0 then
    some ((-2), th_text_length, th_text_signs)
  else
    if n1 ≤ 255 then
      bK3 (m_X8_append F n1 th_text_length th_text_signs) (fun r1 z2 f3 =>
      if r1 = 0 then
        some ((-4), z2, f3)
      else
        some (z2, z2, f3)
      )
    else
      some ((-2), th_text_length, th_text_signs)
abbrev rmX10_write : Room := { frames := 1, cells := 0, slots := 0, locals := 21 }
set_option maxHeartbeats 4000000 in
set_option maxRecDepth 100000 in
theorem c_X10_write (l : Launch) (g : Gl) (A_th A_th_text A_th_text_signs : Nat) (V_th_stock V_th_index V_th_learning V_th_doings V_th_tree V_th_seen V_th_judging V_th_chances V_th_shelves V_th_onShelf V_th_theSeed : Value)  (n1 : Int32) (th_text_length : Int32) (th_text_signs : (Nat → Int32)) (F : Nat) (u : Int32 × Int32 × (Nat → Int32)) (hm : m_X10_write F n1 th_text_length th_text_signs = some u) : Ct l g yX10_write cX10_write 2 (some .int) rmX10_write [.ref A_th, .int n1] [(A_th, oO 9 [.ref A_th_text, V_th_stock, V_th_index, V_th_learning, V_th_doings, V_th_tree, V_th_seen, V_th_judging, V_th_chances, V_th_shelves, V_th_onShelf, V_th_theSeed]), (A_th_text, oO 7 [.ref A_th_text_signs, .int th_text_length]), (A_th_text_signs, iA g 64 th_text_signs)] (some (.int u.1)) [(A_th, oO 9 [.ref A_th_text, V_th_stock, V_th_index, V_th_learning, V_th_doings, V_th_tree, V_th_seen, V_th_judging, V_th_chances, V_th_shelves, V_th_onShelf, V_th_theSeed]), (A_th_text, oO 7 [.ref A_th_text_signs, .int u.2.1]), (A_th_text_signs, iA g 64 u.2.2)] := by
  refine ent (own := RX10) (lv := [(0, .ref A_th), (1, .int n1)]) (by decide) rfl (Nat.le_of_ble_eq_true rfl) rfl rfl ?_
  intro x C
  unfold m_X10_write at hm
  refine b_iload_n C dX10_write_0 rfl 1 rfl ?_
  refine b_if_lt (tgt := 11) C dX10_write_1 (by decide) hm (fun hm => ?_) (fun hm => ?_)
  · refine b_bipush (v := (-2)) C dX10_write_11 (by decide) ?_
    cases hm
    exact b_iret C dX10_write_13
  · refine b_iload_n C dX10_write_4 rfl 1 rfl ?_
    refine b_sipush (v := 255) C dX10_write_5 (by decide) ?_
    refine b_icmp_le (tgt := 14) C dX10_write_8 (by decide) hm (fun hm => ?_) (fun hm => ?_)
    · refine b_aload_n C dX10_write_14 rfl 0 rfl ?_
      refine gfX10_12 C 0 rfl rfl dX10_write_15 ?_
      refine b_iload_n C dX10_write_18 rfl 1 rfl ?_
      obtain ⟨r1, z2, f3, hM, hm⟩ := bK3_some hm
      refine b_kV (w' := [(A_th, oO 9 [.ref A_th_text, V_th_stock, V_th_index, V_th_learning, V_th_doings, V_th_tree, V_th_seen, V_th_judging, V_th_chances, V_th_shelves, V_th_onShelf, V_th_theSeed]), (A_th_text, oO 7 [.ref A_th_text_signs, .int z2]), (A_th_text_signs, iA g 64 f3)]) (st := []) (st2 := [.int r1]) C cv_X8_append tb356 (c_X8_append l g A_th_text A_th_text_signs n1 th_text_length th_text_signs F (r1, z2, f3) hM) rfl 1 rfl rfl ⟨rfl, rfl, by decide, by decide⟩ (Nat.le_of_ble_eq_true rfl) [1, 2] rfl (by decide) rfl rfl dX10_write_19 [none, some 0, some 1] (by decide) ⟨rfl, ⟨⟨rfl, rfl⟩, ⟨⟨rfl, rfl⟩, trivial⟩⟩⟩ rfl ?_
      refine b_if_eq (tgt := 35) C dX10_write_22 (by decide) hm (fun hm => ?_) (fun hm => ?_)
      · refine b_bipush (v := (-4)) C dX10_write_35 (by decide) ?_
        cases hm
        exact b_iret C dX10_write_37
      · refine b_aload_n C dX10_write_25 rfl 0 rfl ?_
        refine gfX10_12 C 0 rfl rfl dX10_write_26 ?_
        refine gfX10_92 C 1 rfl rfl dX10_write_29 ?_
        refine b_goto (tgt := 37) C dX10_write_32 (by decide) ?_
        cases hm
        exact b_iret C dX10_write_37
    · refine b_bipush (v := (-2)) C dX10_write_11 (by decide) ?_
      cases hm
      exact b_iret C dX10_write_13
/-- BreakLearner.wipe()I -/
def m_X10_wipe (F : Nat)   (th_text_length : Int32) : Option (Int32 × Int32) :=
  some (th_text_length, 0)
abbrev rmX10_wipe : Room := { frames := 0, cells := 0, slots := 0, locals := 0 }
set_option maxHeartbeats 4000000 in
set_option maxRecDepth 100000 in
theorem c_X10_wipe (l : Launch) (g : Gl) (A_th A_th_text : Nat) (V_th_stock V_th_index V_th_learning V_th_doings V_th_tree V_th_seen V_th_judging V_th_chances V_th_shelves V_th_onShelf V_th_theSeed V_th_text_signs : Value)   (th_text_length : Int32) (F : Nat) (u : Int32 × Int32) (hm : m_X10_wipe F th_text_length = some u) : Ct l g yX10_wipe cX10_wipe 2 (some .int) rmX10_wipe [.ref A_th] [(A_th, oO 9 [.ref A_th_text, V_th_stock, V_th_index, V_th_learning, V_th_doings, V_th_tree, V_th_seen, V_th_judging, V_th_chances, V_th_shelves, V_th_onShelf, V_th_theSeed]), (A_th_text, oO 7 [V_th_text_signs, .int th_text_length])] (some (.int u.1)) [(A_th, oO 9 [.ref A_th_text, V_th_stock, V_th_index, V_th_learning, V_th_doings, V_th_tree, V_th_seen, V_th_judging, V_th_chances, V_th_shelves, V_th_onShelf, V_th_theSeed]), (A_th_text, oO 7 [V_th_text_signs, .int u.2])] := by
  refine ent (own := RX10) (lv := [(0, .ref A_th)]) (by decide) rfl (Nat.le_of_ble_eq_true rfl) rfl rfl ?_
  intro x C
  unfold m_X10_wipe at hm
  refine b_aload_n C dX10_wipe_0 rfl 0 rfl ?_
  refine gfX10_12 C 0 rfl rfl dX10_wipe_1 ?_
  refine gfX10_92 C 1 rfl rfl dX10_wipe_4 ?_
  refine b_istore_n (lv' := [(1, .int th_text_length), (0, .ref A_th)]) C dX10_wipe_7 rfl (by decide) rfl ?_
  refine b_aload_n C dX10_wipe_8 rfl 1 rfl ?_
  refine gfX10_12 C 0 rfl rfl dX10_wipe_9 ?_
  refine b_iconst (v := 0) C dX10_wipe_12 (by decide) ?_
  refine pfX10_92 (w' := [(A_th, oO 9 [.ref A_th_text, V_th_stock, V_th_index, V_th_learning, V_th_doings, V_th_tree, V_th_seen, V_th_judging, V_th_chances, V_th_shelves, V_th_onShelf, V_th_theSeed]), (A_th_text, oO 7 [V_th_text_signs, .int 0])]) C rfl rfl 1 rfl (Nat.le_of_ble_eq_true rfl) dX10_wipe_13 rfl ?_
  refine b_iload_n C dX10_wipe_16 rfl 0 rfl ?_
  cases hm
  exact b_iret C dX10_wipe_17
/-- BreakLearner$Text.isLetter(I)Z -/
def m_X8_isLetter (F : Nat)  (n1 : Int32)  : Option (Int32) :=
  if n1 < 97 then
    some 0
  else
    if 101 < n1 then
      some 0
    else
      some 1
abbrev rmX8_isLetter : Room := { frames := 0, cells := 0, slots := 0, locals := 0 }
set_option maxHeartbeats 4000000 in
set_option maxRecDepth 100000 in
theorem c_X8_isLetter (l : Launch) (g : Gl)  (n1 : Int32)  (F : Nat) (u : Int32) (hm : m_X8_isLetter F n1 = some u) : Ct l g yX8_isLetter cX8_isLetter 1 (some .boolean) rmX8_isLetter [.int n1] [] (some (.int u)) [] := by
  refine ent (own := RX8) (lv := [(0, .int n1)]) (by decide) rfl (Nat.le_of_ble_eq_true rfl) rfl rfl ?_
  intro x C
  unfold m_X8_isLetter at hm
  refine b_iload_n C dX8_isLetter_0 rfl 0 rfl ?_
  refine b_bipush (v := 97) C dX8_isLetter_1 (by decide) ?_
  refine b_icmp_lt (tgt := 16) C dX8_isLetter_3 (by decide) hm (fun hm => ?_) (fun hm => ?_)
  · refine b_iconst (v := 0) C dX8_isLetter_16 (by decide) ?_
    cases hm
    exact b_zret (v := 0) C (by decide) dX8_isLetter_17
  · refine b_iload_n C dX8_isLetter_6 rfl 0 rfl ?_
    refine b_bipush (v := 101) C dX8_isLetter_7 (by decide) ?_
    refine b_icmp_gt (tgt := 16) C dX8_isLetter_9 (by decide) hm (fun hm => ?_) (fun hm => ?_)
    · refine b_iconst (v := 0) C dX8_isLetter_16 (by decide) ?_
      cases hm
      exact b_zret (v := 0) C (by decide) dX8_isLetter_17
    · refine b_iconst (v := 1) C dX8_isLetter_12 (by decide) ?_
      refine b_goto (tgt := 17) C dX8_isLetter_13 (by decide) ?_
      cases hm
      exact b_zret (v := 1) C (by decide) dX8_isLetter_17
/-- BreakLearner$Text.firstFault()I -/
def m_X8_firstFault (F : Nat)   (th_length : Int32) (th_signs : (Nat → Int32)) : Option (Int32) :=
  wl4 (fun (x2 : Int32) (x3 : Int32) (x4 : Int32) (x5 : Int32) c1 =>
    if th_length ≤ x5 then
      if x2 ≤ 0 then
        some (-9)
      else
        jn0 (
          some th_length
          ) (fun k6 =>
          if x3 < 2 then
            k6
          else
            if x4 = 0 then
              some (-9)
            else
              k6
          )
    else
      rdK 64 th_signs x5 (fun v7 =>
      jn1 (fun (y8 : Int32) =>
        jn2 (fun (x10 : Int32) (x11 : Int32) =>
          jn1 (fun (y13 : Int32) =>
            c1 x10 x11 y13 (x5 + 1)
            ) (fun k14 =>
            if v7 = 45 then
              k14 1
            else
              k14 0
            )
          ) (fun k12 =>
          if v7 = 87 then
            if y8 = 0 then
              if x2 = 6 then
                some x5
              else
                k12 (x2 + 1) 0
            else
              some x5
          else
            if v7 = 45 then
              if x3 = 0 then
                some x5
              else
                if x3 = 6 then
                  some x5
                else
                  if x4 = 0 then
                    k12 x2 x3
                  else
                    some x5
            else
              bK1 (m_X8_isLetter F v7) (fun r15 =>
              if r15 = 0 then
                some x5
              else
                if x2 = 0 then
                  some x5
                else
                  if x3 = 6 then
                    some x5
                  else
                    k12 x2 (x3 + 1)
              )
          )
        ) (fun k9 =>
        jn0 (
          k9 0
          ) (fun k16 =>
          if x2 ≤ 0 then
            k16
          else
            jn0 (
              k9 1
              ) (fun k17 =>
              if x3 < 2 then
                k17
              else
                if x4 = 0 then
                  k16
                else
                  k17
              )
          )
        )
      )
    ) F 0 0 0 0
abbrev rmX8_firstFault : Room := { frames := 1, cells := 0, slots := 0, locals := 20 }
set_option maxHeartbeats 4000000 in
set_option maxRecDepth 100000 in
theorem c_X8_firstFault (l : Launch) (g : Gl) (A_th A_th_signs : Nat)   (th_length : Int32) (th_signs : (Nat → Int32)) (F : Nat) (u : Int32) (hm : m_X8_firstFault F th_length th_signs = some u) : Ct l g yX8_firstFault cX8_firstFault 7 (some .int) rmX8_firstFault [.ref A_th] [(A_th, oO 7 [.ref A_th_signs, .int th_length]), (A_th_signs, iA g 64 th_signs)] (some (.int u)) [(A_th, oO 7 [.ref A_th_signs, .int th_length]), (A_th_signs, iA g 64 th_signs)] := by
  refine ent (own := RX8) (lv := [(0, .ref A_th)]) (by decide) rfl (Nat.le_of_ble_eq_true rfl) rfl rfl ?_
  intro x C
  unfold m_X8_firstFault at hm
  refine b_iconst (v := 0) C dX8_firstFault_0 (by decide) ?_
  refine b_istore_n (lv' := [(1, .int 0), (0, .ref A_th)]) C dX8_firstFault_1 rfl (by decide) rfl ?_
  refine b_iconst (v := 0) C dX8_firstFault_2 (by decide) ?_
  refine b_istore_n (lv' := [(2, .int 0), (1, .int 0), (0, .ref A_th)]) C dX8_firstFault_3 rfl (by decide) rfl ?_
  refine b_iconst (v := 0) C dX8_firstFault_4 (by decide) ?_
  refine b_istore_n (lv' := [(3, .int 0), (2, .int 0), (1, .int 0), (0, .ref A_th)]) C dX8_firstFault_5 rfl (by decide) rfl ?_
  refine b_iconst (v := 0) C dX8_firstFault_6 (by decide) ?_
  refine b_istore (lv' := [(4, .int 0), (3, .int 0), (2, .int 0), (1, .int 0), (0, .ref A_th)]) C dX8_firstFault_7 (by decide) rfl ?_
  refine Wb.lv (lv' := [(0, .ref A_th), (1, .int 0), (2, .int 0), (3, .int 0), (4, .int 0)]) ?_ [4, 3, 2, 1, 0] rfl
  refine wl4_W (Wg := fun (x2 : Int32) (x3 : Int32) (x4 : Int32) (x5 : Int32) => Wb x [(A_th, oO 7 [.ref A_th_signs, .int th_length]), (A_th_signs, iA g 64 th_signs)] [(0, .ref A_th), (1, .int x2), (2, .int x3), (3, .int x4), (4, .int x5)] 9 []) ?_ F 0 0 0 0 hm
  intro x2 x3 x4 x5 c1 hc1 hm
  refine b_iload C dX8_firstFault_9 4 rfl ?_
  refine b_aload_n C dX8_firstFault_11 rfl 0 rfl ?_
  refine gfX8_15 C 0 rfl rfl dX8_firstFault_12 ?_
  refine b_icmp_ge (tgt := 143) C dX8_firstFault_15 (by decide) hm (fun hm => ?_) (fun hm => ?_)
  · refine b_iload_n C dX8_firstFault_143 rfl 1 rfl ?_
    refine b_if_le (tgt := 163) C dX8_firstFault_144 (by decide) hm (fun hm => ?_) (fun hm => ?_)
    · refine b_bipush (v := (-9)) C dX8_firstFault_163 (by decide) ?_
      cases hm
      exact b_iret C dX8_firstFault_165
    · refine b_iload_n C dX8_firstFault_147 rfl 2 rfl ?_
      refine b_iconst (v := 2) C dX8_firstFault_148 (by decide) ?_
      obtain ⟨k6, hk6, hm⟩ := jn0_some hm
      have jk6 : k6  = some u → Wb x [(A_th, oO 7 [.ref A_th_signs, .int th_length]), (A_th_signs, iA g 64 th_signs)] [(0, .ref A_th)] 156 [] := by
        intro  hm
        have hm := hk6 hm
        refine b_aload_n C dX8_firstFault_156 rfl 0 rfl ?_
        refine gfX8_15 C 0 rfl rfl dX8_firstFault_157 ?_
        refine b_goto (tgt := 165) C dX8_firstFault_160 (by decide) ?_
        cases hm
        exact b_iret C dX8_firstFault_165
      refine b_icmp_lt (tgt := 156) C dX8_firstFault_149 (by decide) hm (fun hm => ?_) (fun hm => ?_)
      · exact Wb.lv (jk6  hm) [0] rfl
      · refine b_iload_n C dX8_firstFault_152 rfl 3 rfl ?_
        refine b_if_eq (tgt := 163) C dX8_firstFault_153 (by decide) hm (fun hm => ?_) (fun hm => ?_)
        · refine b_bipush (v := (-9)) C dX8_firstFault_163 (by decide) ?_
          cases hm
          exact b_iret C dX8_firstFault_165
        · exact Wb.lv (jk6  hm) [0] rfl
  · refine b_aload_n C dX8_firstFault_18 rfl 0 rfl ?_
    refine gfX8_9 C 0 rfl rfl dX8_firstFault_19 ?_
    refine b_iload C dX8_firstFault_22 4 rfl ?_
    refine b_iald C 1 rfl dX8_firstFault_24 hm (fun v7 hm => ?_)
    refine b_istore (lv' := [(5, .int v7), (0, .ref A_th), (1, .int x2), (2, .int x3), (3, .int x4), (4, .int x5)]) C dX8_firstFault_25 (by decide) rfl ?_
    refine b_iload_n C dX8_firstFault_27 rfl 2 rfl ?_
    obtain ⟨k9, hk9, hm⟩ := jn1_some hm
    have jk9 : ∀ (y8 : Int32), k9 y8 = some u → Wb x [(A_th, oO 7 [.ref A_th_signs, .int th_length]), (A_th_signs, iA g 64 th_signs)] [(0, .ref A_th), (1, .int x2), (2, .int x3), (3, .int x4), (4, .int x5), (5, .int v7)] 45 [.int y8] := by
      intro y8 hm
      have hm := hk9 _ hm
      refine b_istore (lv' := [(6, .int y8), (0, .ref A_th), (1, .int x2), (2, .int x3), (3, .int x4), (4, .int x5), (5, .int v7)]) C dX8_firstFault_45 (by decide) rfl ?_
      refine b_iload C dX8_firstFault_47 6 rfl ?_
      refine b_bipush (v := 87) C dX8_firstFault_49 (by decide) ?_
      obtain ⟨k12, hk12, hm⟩ := jn2_some hm
      have jk12 : ∀ (x10 : Int32) (x11 : Int32), k12 x10 x11 = some u → Wb x [(A_th, oO 7 [.ref A_th_signs, .int th_length]), (A_th_signs, iA g 64 th_signs)] [(0, .ref A_th), (1, .int x10), (2, .int x11), (4, .int x5), (5, .int v7)] 124 [] := by
        intro x10 x11 hm
        have hm := hk12 _ _ hm
        refine b_iload C dX8_firstFault_124 4 rfl ?_
        refine b_bipush (v := 45) C dX8_firstFault_126 (by decide) ?_
        obtain ⟨k14, hk14, hm⟩ := jn1_some hm
        have jk14 : ∀ (y13 : Int32), k14 y13 = some u → Wb x [(A_th, oO 7 [.ref A_th_signs, .int th_length]), (A_th_signs, iA g 64 th_signs)] [(0, .ref A_th), (1, .int x10), (2, .int x11), (4, .int x5)] 136 [.int y13] := by
          intro y13 hm
          have hm := hk14 _ hm
          refine b_istore_n (lv' := [(3, .int y13), (0, .ref A_th), (1, .int x10), (2, .int x11), (4, .int x5)]) C dX8_firstFault_136 rfl (by decide) rfl ?_
          refine b_iinc (v2 := x5 + 1) (lv' := [(4, .int (x5 + 1)), (3, .int y13), (0, .ref A_th), (1, .int x10), (2, .int x11)]) C dX8_firstFault_137 4 rfl rfl (by decide) rfl ?_
          refine b_goto (tgt := 9) C dX8_firstFault_140 (by decide) ?_
          exact Wb.lv (hc1 x10 x11 y13 (x5 + 1) hm) [2, 3, 4, 1, 0] rfl
        refine b_icmp_ne (tgt := 135) C dX8_firstFault_128 (by decide) hm (fun hm => ?_) (fun hm => ?_)
        · refine b_iconst (v := 0) C dX8_firstFault_135 (by decide) ?_
          exact Wb.lv (jk14 0 hm) [0, 1, 2, 3] rfl
        · refine b_iconst (v := 1) C dX8_firstFault_131 (by decide) ?_
          refine b_goto (tgt := 136) C dX8_firstFault_132 (by decide) ?_
          exact Wb.lv (jk14 1 hm) [0, 1, 2, 3] rfl
      refine b_icmp_ne (tgt := 76) C dX8_firstFault_51 (by decide) hm (fun hm => ?_) (fun hm => ?_)
      · refine b_iload C dX8_firstFault_76 6 rfl ?_
        refine b_bipush (v := 45) C dX8_firstFault_78 (by decide) ?_
        refine b_icmp_ne (tgt := 100) C dX8_firstFault_80 (by decide) hm (fun hm => ?_) (fun hm => ?_)
        · refine b_iload C dX8_firstFault_100 6 rfl ?_
          obtain ⟨r15, hM, hm⟩ := bK1_some hm
          refine b_kS (w' := [(A_th, oO 7 [.ref A_th_signs, .int th_length]), (A_th_signs, iA g 64 th_signs)]) (st := []) (st2 := [.int r15]) C cs_X8_isLetter tb372 (c_X8_isLetter l g v7 F r15 hM) rfl ⟨rfl, rfl, by decide, by decide⟩ (Nat.le_of_ble_eq_true rfl) [] rfl (by decide) rfl rfl dX8_firstFault_102 [none, none] (by decide) ⟨rfl, ⟨rfl, trivial⟩⟩ rfl ?_
          refine b_if_eq (tgt := 118) C dX8_firstFault_105 (by decide) hm (fun hm => ?_) (fun hm => ?_)
          · refine b_iload C dX8_firstFault_118 5 rfl ?_
            cases hm
            exact b_iret C dX8_firstFault_120
          · refine b_iload_n C dX8_firstFault_108 rfl 2 rfl ?_
            refine b_if_eq (tgt := 118) C dX8_firstFault_109 (by decide) hm (fun hm => ?_) (fun hm => ?_)
            · refine b_iload C dX8_firstFault_118 5 rfl ?_
              cases hm
              exact b_iret C dX8_firstFault_120
            · refine b_iload_n C dX8_firstFault_112 rfl 3 rfl ?_
              refine b_bipush (v := 6) C dX8_firstFault_113 (by decide) ?_
              refine b_icmp_ne (tgt := 121) C dX8_firstFault_115 (by decide) hm (fun hm => ?_) (fun hm => ?_)
              · refine b_iinc (v2 := x3 + 1) (lv' := [(2, .int (x3 + 1)), (6, .int y8), (0, .ref A_th), (1, .int x2), (3, .int x4), (4, .int x5), (5, .int v7)]) C dX8_firstFault_121 3 rfl rfl (by decide) rfl ?_
                exact Wb.lv (jk12 x2 (x3 + 1) hm) [2, 3, 0, 5, 6] rfl
              · refine b_iload C dX8_firstFault_118 5 rfl ?_
                cases hm
                exact b_iret C dX8_firstFault_120
        · refine b_iload_n C dX8_firstFault_83 rfl 3 rfl ?_
          refine b_if_eq (tgt := 97) C dX8_firstFault_84 (by decide) hm (fun hm => ?_) (fun hm => ?_)
          · refine b_iload C dX8_firstFault_97 5 rfl ?_
            cases hm
            exact b_iret C dX8_firstFault_99
          · refine b_iload_n C dX8_firstFault_87 rfl 3 rfl ?_
            refine b_bipush (v := 6) C dX8_firstFault_88 (by decide) ?_
            refine b_icmp_eq (tgt := 97) C dX8_firstFault_90 (by decide) hm (fun hm => ?_) (fun hm => ?_)
            · refine b_iload C dX8_firstFault_97 5 rfl ?_
              cases hm
              exact b_iret C dX8_firstFault_99
            · refine b_iload_n C dX8_firstFault_93 rfl 4 rfl ?_
              refine b_if_eq (tgt := 124) C dX8_firstFault_94 (by decide) hm (fun hm => ?_) (fun hm => ?_)
              · exact Wb.lv (jk12 x2 x3 hm) [1, 2, 3, 5, 6] rfl
              · refine b_iload C dX8_firstFault_97 5 rfl ?_
                cases hm
                exact b_iret C dX8_firstFault_99
      · refine b_iload C dX8_firstFault_54 0 rfl ?_
        refine b_if_ne (tgt := 65) C dX8_firstFault_56 (by decide) hm (fun hm => ?_) (fun hm => ?_)
        · refine b_iload C dX8_firstFault_65 5 rfl ?_
          cases hm
          exact b_iret C dX8_firstFault_67
        · refine b_iload_n C dX8_firstFault_59 rfl 2 rfl ?_
          refine b_bipush (v := 6) C dX8_firstFault_60 (by decide) ?_
          refine b_icmp_ne (tgt := 68) C dX8_firstFault_62 (by decide) hm (fun hm => ?_) (fun hm => ?_)
          · refine b_iinc (v2 := x2 + 1) (lv' := [(1, .int (x2 + 1)), (6, .int y8), (0, .ref A_th), (2, .int x3), (3, .int x4), (4, .int x5), (5, .int v7)]) C dX8_firstFault_68 2 rfl rfl (by decide) rfl ?_
            refine b_iconst (v := 0) C dX8_firstFault_71 (by decide) ?_
            refine b_istore_n (lv' := [(2, .int 0), (1, .int (x2 + 1)), (6, .int y8), (0, .ref A_th), (3, .int x4), (4, .int x5), (5, .int v7)]) C dX8_firstFault_72 rfl (by decide) rfl ?_
            refine b_goto (tgt := 124) C dX8_firstFault_73 (by decide) ?_
            exact Wb.lv (jk12 (x2 + 1) 0 hm) [3, 1, 0, 5, 6] rfl
          · refine b_iload C dX8_firstFault_65 5 rfl ?_
            cases hm
            exact b_iret C dX8_firstFault_67
    obtain ⟨k16, hk16, hm⟩ := jn0_some hm
    have jk16 : k16  = some u → Wb x [(A_th, oO 7 [.ref A_th_signs, .int th_length]), (A_th_signs, iA g 64 th_signs)] [(0, .ref A_th), (1, .int x2), (2, .int x3), (3, .int x4), (4, .int x5), (5, .int v7)] 44 [] := by
      intro  hm
      have hm := hk16 hm
      refine b_iconst (v := 0) C dX8_firstFault_44 (by decide) ?_
      exact Wb.lv (jk9 0 hm) [0, 1, 2, 3, 4, 5] rfl
    refine b_if_le (tgt := 44) C dX8_firstFault_28 (by decide) hm (fun hm => ?_) (fun hm => ?_)
    · exact Wb.lv (jk16  hm) [1, 2, 3, 4, 5, 0] rfl
    · refine b_iload_n C dX8_firstFault_31 rfl 3 rfl ?_
      refine b_iconst (v := 2) C dX8_firstFault_32 (by decide) ?_
      obtain ⟨k17, hk17, hm⟩ := jn0_some hm
      have jk17 : k17  = some u → Wb x [(A_th, oO 7 [.ref A_th_signs, .int th_length]), (A_th_signs, iA g 64 th_signs)] [(0, .ref A_th), (1, .int x2), (2, .int x3), (3, .int x4), (4, .int x5), (5, .int v7)] 40 [] := by
        intro  hm
        have hm := hk17 hm
        refine b_iconst (v := 1) C dX8_firstFault_40 (by decide) ?_
        refine b_goto (tgt := 45) C dX8_firstFault_41 (by decide) ?_
        exact Wb.lv (jk9 1 hm) [0, 1, 2, 3, 4, 5] rfl
      refine b_icmp_lt (tgt := 40) C dX8_firstFault_33 (by decide) hm (fun hm => ?_) (fun hm => ?_)
      · exact Wb.lv (jk17  hm) [1, 2, 3, 4, 5, 0] rfl
      · refine b_iload_n C dX8_firstFault_36 rfl 4 rfl ?_
        refine b_if_eq (tgt := 44) C dX8_firstFault_37 (by decide) hm (fun hm => ?_) (fun hm => ?_)
        · exact Wb.lv (jk16  hm) [1, 2, 3, 4, 5, 0] rfl
        · exact Wb.lv (jk17  hm) [1, 2, 3, 4, 5, 0] rfl
/-- BreakLearner.fault()I -/
def m_X10_fault (F : Nat)   (th_text_length : Int32) (th_text_signs : (Nat → Int32)) : Option (Int32) :=
  bK1 (m_X8_firstFault F th_text_length th_text_signs) (fun r1 =>
  some r1
  )
abbrev rmX10_fault : Room := { frames := 2, cells := 0, slots := 0, locals := 46 }
set_option maxHeartbeats 4000000 in
set_option maxRecDepth 100000 in
theorem c_X10_fault (l : Launch) (g : Gl) (A_th A_th_text A_th_text_signs : Nat) (V_th_stock V_th_index V_th_learning V_th_doings V_th_tree V_th_seen V_th_judging V_th_chances V_th_shelves V_th_onShelf V_th_theSeed : Value)   (th_text_length : Int32) (th_text_signs : (Nat → Int32)) (F : Nat) (u : Int32) (hm : m_X10_fault F th_text_length th_text_signs = some u) : Ct l g yX10_fault cX10_fault 1 (some .int) rmX10_fault [.ref A_th] [(A_th, oO 9 [.ref A_th_text, V_th_stock, V_th_index, V_th_learning, V_th_doings, V_th_tree, V_th_seen, V_th_judging, V_th_chances, V_th_shelves, V_th_onShelf, V_th_theSeed]), (A_th_text, oO 7 [.ref A_th_text_signs, .int th_text_length]), (A_th_text_signs, iA g 64 th_text_signs)] (some (.int u)) [(A_th, oO 9 [.ref A_th_text, V_th_stock, V_th_index, V_th_learning, V_th_doings, V_th_tree, V_th_seen, V_th_judging, V_th_chances, V_th_shelves, V_th_onShelf, V_th_theSeed]), (A_th_text, oO 7 [.ref A_th_text_signs, .int th_text_length]), (A_th_text_signs, iA g 64 th_text_signs)] := by
  refine ent (own := RX10) (lv := [(0, .ref A_th)]) (by decide) rfl (Nat.le_of_ble_eq_true rfl) rfl rfl ?_
  intro x C
  unfold m_X10_fault at hm
  refine b_aload_n C dX10_fault_0 rfl 0 rfl ?_
  refine gfX10_12 C 0 rfl rfl dX10_fault_1 ?_
  obtain ⟨r1, hM, hm⟩ := bK1_some hm
  refine b_kV (w' := [(A_th, oO 9 [.ref A_th_text, V_th_stock, V_th_index, V_th_learning, V_th_doings, V_th_tree, V_th_seen, V_th_judging, V_th_chances, V_th_shelves, V_th_onShelf, V_th_theSeed]), (A_th_text, oO 7 [.ref A_th_text_signs, .int th_text_length]), (A_th_text_signs, iA g 64 th_text_signs)]) (st := []) (st2 := [.int r1]) C cv_X8_firstFault tb368 (c_X8_firstFault l g A_th_text A_th_text_signs th_text_length th_text_signs F r1 hM) rfl 1 rfl rfl ⟨rfl, rfl, by decide, by decide⟩ (Nat.le_of_ble_eq_true rfl) [1, 2] rfl (by decide) rfl rfl dX10_fault_4 [none, some 0, some 1] (by decide) ⟨rfl, ⟨⟨rfl, rfl⟩, ⟨⟨rfl, rfl⟩, trivial⟩⟩⟩ rfl ?_
  cases hm
  exact b_iret C dX10_fault_7
/-- BreakLearner$Stock.move(II)V -/
def m_X7_move (F : Nat)  (n1 : Int32) (n2 : Int32) (th_letters : (Nat → Int32)) (th_breaks : (Nat → Int32)) (th_sizes : (Nat → Int32)) : Option ((Nat → Int32) × (Nat → Int32) × (Nat → Int32)) :=
  rdK 6 th_letters n1 (fun v1 =>
  stK 6 th_letters n2 v1 (fun f2 =>
  rdK 6 th_breaks n1 (fun v3 =>
  stK 6 th_breaks n2 v3 (fun f4 =>
  rdK 6 th_sizes n1 (fun v5 =>
  stK 6 th_sizes n2 v5 (fun f6 =>
  some (f2, f4, f6)
  )
  )
  )
  )
  )
  )
abbrev rmX7_move : Room := { frames := 0, cells := 0, slots := 0, locals := 0 }
set_option maxHeartbeats 4000000 in
set_option maxRecDepth 100000 in
theorem c_X7_move (l : Launch) (g : Gl) (A_th A_th_letters A_th_breaks A_th_sizes : Nat) (V_th_rules V_th_hs V_th_words V_th_learnt : Value)  (n1 : Int32) (n2 : Int32) (th_letters : (Nat → Int32)) (th_breaks : (Nat → Int32)) (th_sizes : (Nat → Int32)) (F : Nat) (u : (Nat → Int32) × (Nat → Int32) × (Nat → Int32)) (hm : m_X7_move F n1 n2 th_letters th_breaks th_sizes = some u) : Ct l g yX7_move cX7_move 3 none rmX7_move [.ref A_th, .int n1, .int n2] [(A_th, oO 6 [.ref A_th_letters, .ref A_th_breaks, .ref A_th_sizes, V_th_rules, V_th_hs, V_th_words, V_th_learnt]), (A_th_letters, iA g 6 th_letters), (A_th_breaks, iA g 6 th_breaks), (A_th_sizes, iA g 6 th_sizes)] none [(A_th, oO 6 [.ref A_th_letters, .ref A_th_breaks, .ref A_th_sizes, V_th_rules, V_th_hs, V_th_words, V_th_learnt]), (A_th_letters, iA g 6 u.1), (A_th_breaks, iA g 6 u.2.1), (A_th_sizes, iA g 6 u.2.2)] := by
  refine ent (own := RX7) (lv := [(0, .ref A_th), (1, .int n1), (2, .int n2)]) (by decide) rfl (Nat.le_of_ble_eq_true rfl) rfl rfl ?_
  intro x C
  unfold m_X7_move at hm
  refine b_aload_n C dX7_move_0 rfl 0 rfl ?_
  refine gfX7_9 C 0 rfl rfl dX7_move_1 ?_
  refine b_iload_n C dX7_move_4 rfl 2 rfl ?_
  refine b_aload_n C dX7_move_5 rfl 0 rfl ?_
  refine gfX7_9 C 0 rfl rfl dX7_move_6 ?_
  refine b_iload_n C dX7_move_9 rfl 1 rfl ?_
  refine b_iald C 1 rfl dX7_move_10 hm (fun v1 hm => ?_)
  refine b_iast C 1 rfl dX7_move_11 hm (fun f2 hm => Wb.to (w' := [(A_th, oO 6 [.ref A_th_letters, .ref A_th_breaks, .ref A_th_sizes, V_th_rules, V_th_hs, V_th_words, V_th_learnt]), (A_th_letters, iA g 6 f2), (A_th_breaks, iA g 6 th_breaks), (A_th_sizes, iA g 6 th_sizes)]) rfl ?_)
  refine b_aload_n C dX7_move_12 rfl 0 rfl ?_
  refine gfX7_15 C 0 rfl rfl dX7_move_13 ?_
  refine b_iload_n C dX7_move_16 rfl 2 rfl ?_
  refine b_aload_n C dX7_move_17 rfl 0 rfl ?_
  refine gfX7_15 C 0 rfl rfl dX7_move_18 ?_
  refine b_iload_n C dX7_move_21 rfl 1 rfl ?_
  refine b_iald C 2 rfl dX7_move_22 hm (fun v3 hm => ?_)
  refine b_iast C 2 rfl dX7_move_23 hm (fun f4 hm => Wb.to (w' := [(A_th, oO 6 [.ref A_th_letters, .ref A_th_breaks, .ref A_th_sizes, V_th_rules, V_th_hs, V_th_words, V_th_learnt]), (A_th_letters, iA g 6 f2), (A_th_breaks, iA g 6 f4), (A_th_sizes, iA g 6 th_sizes)]) rfl ?_)
  refine b_aload_n C dX7_move_24 rfl 0 rfl ?_
  refine gfX7_18 C 0 rfl rfl dX7_move_25 ?_
  refine b_iload_n C dX7_move_28 rfl 2 rfl ?_
  refine b_aload_n C dX7_move_29 rfl 0 rfl ?_
  refine gfX7_18 C 0 rfl rfl dX7_move_30 ?_
  refine b_iload_n C dX7_move_33 rfl 1 rfl ?_
  refine b_iald C 3 rfl dX7_move_34 hm (fun v5 hm => ?_)
  refine b_iast C 3 rfl dX7_move_35 hm (fun f6 hm => Wb.to (w' := [(A_th, oO 6 [.ref A_th_letters, .ref A_th_breaks, .ref A_th_sizes, V_th_rules, V_th_hs, V_th_words, V_th_learnt]), (A_th_letters, iA g 6 f2), (A_th_breaks, iA g 6 f4), (A_th_sizes, iA g 6 f6)]) rfl ?_)
  cases hm
  exact b_vret C dX7_move_36
/-- BreakLearner$Figures.wordSize(I)I -/
def m_X2_wordSize (F : Nat)  (n1 : Int32)  : Option (Int32) :=
  if n1 < 11 then
    some 0
  else
    if n1 ≤ 555555 then
      wl3 (fun (x2 : Int32) (x3 : Int32) (x4 : Int32) c1 =>
        if 6 ≤ x4 then
          some x2
        else
          if x3 ≤ 0 then
            some x2
          else
            letK (irm x3 10) (fun x5 =>
            if x5 < 1 then
              some 0
            else
              if x5 ≤ 5 then
                letK (x3 / 10) (fun x6 =>
                c1 (x2 + 1) x6 (x4 + 1)
                )
              else
                some 0
            )
        ) F 0 n1 0
    else
      some 0
abbrev rmX2_wordSize : Room := { frames := 0, cells := 0, slots := 0, locals := 0 }
set_option maxHeartbeats 4000000 in
set_option maxRecDepth 100000 in
theorem c_X2_wordSize (l : Launch) (g : Gl)  (n1 : Int32)  (F : Nat) (u : Int32) (hm : m_X2_wordSize F n1 = some u) : Ct l g yX2_wordSize cX2_wordSize 5 (some .int) rmX2_wordSize [.int n1] [] (some (.int u)) [] := by
  refine ent (own := RX2) (lv := [(0, .int n1)]) (by decide) rfl (Nat.le_of_ble_eq_true rfl) rfl rfl ?_
  intro x C
  unfold m_X2_wordSize at hm
  refine b_iload_n C dX2_wordSize_0 rfl 0 rfl ?_
  refine b_bipush (v := 11) C dX2_wordSize_1 (by decide) ?_
  refine b_icmp_lt (tgt := 12) C dX2_wordSize_3 (by decide) hm (fun hm => ?_) (fun hm => ?_)
  · refine b_iconst (v := 0) C dX2_wordSize_12 (by decide) ?_
    cases hm
    exact b_iret C dX2_wordSize_13
  · refine b_iload_n C dX2_wordSize_6 rfl 0 rfl ?_
    refine b_ldc C tb394 dX2_wordSize_7 ?_
    refine b_icmp_le (tgt := 14) C dX2_wordSize_9 (by decide) hm (fun hm => ?_) (fun hm => ?_)
    · refine b_iconst (v := 0) C dX2_wordSize_14 (by decide) ?_
      refine b_istore_n (lv' := [(1, .int 0), (0, .int n1)]) C dX2_wordSize_15 rfl (by decide) rfl ?_
      refine b_iload_n C dX2_wordSize_16 rfl 1 rfl ?_
      refine b_istore_n (lv' := [(2, .int n1), (1, .int 0), (0, .int n1)]) C dX2_wordSize_17 rfl (by decide) rfl ?_
      refine b_iconst (v := 0) C dX2_wordSize_18 (by decide) ?_
      refine b_istore_n (lv' := [(3, .int 0), (2, .int n1), (1, .int 0), (0, .int n1)]) C dX2_wordSize_19 rfl (by decide) rfl ?_
      refine Wb.lv (lv' := [(1, .int 0), (2, .int n1), (3, .int 0)]) ?_ [2, 1, 0] rfl
      refine wl3_W (Wg := fun (x2 : Int32) (x3 : Int32) (x4 : Int32) => Wb x [] [(1, .int x2), (2, .int x3), (3, .int x4)] 20 []) ?_ F 0 n1 0 hm
      intro x2 x3 x4 c1 hc1 hm
      refine b_iload_n C dX2_wordSize_20 rfl 2 rfl ?_
      refine b_bipush (v := 6) C dX2_wordSize_21 (by decide) ?_
      refine b_icmp_ge (tgt := 64) C dX2_wordSize_23 (by decide) hm (fun hm => ?_) (fun hm => ?_)
      · refine b_iload_n C dX2_wordSize_64 rfl 0 rfl ?_
        cases hm
        exact b_iret C dX2_wordSize_65
      · refine b_iload_n C dX2_wordSize_26 rfl 1 rfl ?_
        refine b_if_le (tgt := 64) C dX2_wordSize_27 (by decide) hm (fun hm => ?_) (fun hm => ?_)
        · refine b_iload_n C dX2_wordSize_64 rfl 0 rfl ?_
          cases hm
          exact b_iret C dX2_wordSize_65
        · refine b_iload_n C dX2_wordSize_30 rfl 1 rfl ?_
          refine b_bipush (v := 10) C dX2_wordSize_31 (by decide) ?_
          refine b_irem C dX2_wordSize_33 (by decide) ?_
          refine b_topi hm (fun x5 hm => ?_)
          refine b_istore (lv' := [(4, .int x5), (1, .int x2), (2, .int x3), (3, .int x4)]) C dX2_wordSize_34 (by decide) rfl ?_
          refine b_iload C dX2_wordSize_36 0 rfl ?_
          refine b_iconst (v := 1) C dX2_wordSize_38 (by decide) ?_
          refine b_icmp_lt (tgt := 48) C dX2_wordSize_39 (by decide) hm (fun hm => ?_) (fun hm => ?_)
          · refine b_iconst (v := 0) C dX2_wordSize_48 (by decide) ?_
            cases hm
            exact b_iret C dX2_wordSize_49
          · refine b_iload C dX2_wordSize_42 0 rfl ?_
            refine b_iconst (v := 5) C dX2_wordSize_44 (by decide) ?_
            refine b_icmp_le (tgt := 50) C dX2_wordSize_45 (by decide) hm (fun hm => ?_) (fun hm => ?_)
            · refine b_iload_n C dX2_wordSize_50 rfl 2 rfl ?_
              refine b_bipush (v := 10) C dX2_wordSize_51 (by decide) ?_
              refine b_idiv C dX2_wordSize_53 (by decide) ?_
              refine b_topi hm (fun x6 hm => ?_)
              refine b_istore_n (lv' := [(2, .int x6), (4, .int x5), (1, .int x2), (3, .int x4)]) C dX2_wordSize_54 rfl (by decide) rfl ?_
              refine b_iinc (v2 := x2 + 1) (lv' := [(1, .int (x2 + 1)), (2, .int x6), (4, .int x5), (3, .int x4)]) C dX2_wordSize_55 2 rfl rfl (by decide) rfl ?_
              refine b_iinc (v2 := x4 + 1) (lv' := [(3, .int (x4 + 1)), (1, .int (x2 + 1)), (2, .int x6), (4, .int x5)]) C dX2_wordSize_58 3 rfl rfl (by decide) rfl ?_
              refine b_goto (tgt := 20) C dX2_wordSize_61 (by decide) ?_
              exact Wb.lv (hc1 (x2 + 1) x6 (x4 + 1) hm) [1, 2, 0] rfl
            · refine b_iconst (v := 0) C dX2_wordSize_48 (by decide) ?_
              cases hm
              exact b_iret C dX2_wordSize_49
    · refine b_iconst (v := 0) C dX2_wordSize_12 (by decide) ?_
      cases hm
      exact b_iret C dX2_wordSize_13
/-- BreakLearner$Stock.putAt(III)V -/
def m_X7_putAt (F : Nat)  (n1 : Int32) (n2 : Int32) (n3 : Int32) (th_words : Int32) (th_letters : (Nat → Int32)) (th_breaks : (Nat → Int32)) (th_sizes : (Nat → Int32)) : Option (Int32 × (Nat → Int32) × (Nat → Int32) × (Nat → Int32)) :=
  if n1 < 0 then
    some (th_words, th_letters, th_breaks, th_sizes)
  else
    if th_words < n1 then
      some (th_words, th_letters, th_breaks, th_sizes)
    else
      if th_words < 6 then
        wl4 (fun (x2 : Int32) (f3 : (Nat → Int32)) (f4 : (Nat → Int32)) (f5 : (Nat → Int32)) c1 =>
          if x2 ≤ n1 then
            stK 6 f3 n1 n2 (fun f6 =>
            stK 6 f4 n1 n3 (fun f7 =>
            bK1 (m_X2_wordSize F n2) (fun r8 =>
            stK 6 f5 n1 r8 (fun f9 =>
            letK (th_words + 1) (fun z10 =>
            some (z10, f6, f7, f9)
            )
            )
            )
            )
            )
          else
            bK3 (m_X7_move F (x2 - 1) x2 f3 f4 f5) (fun f11 f12 f13 =>
            c1 (x2 + (-1)) f11 f12 f13
            )
          ) F th_words th_letters th_breaks th_sizes
      else
        some (th_words, th_letters, th_breaks, th_sizes)
abbrev rmX7_putAt : Room := { frames := 1, cells := 0, slots := 0, locals := 24 }
set_option maxHeartbeats 4000000 in
set_option maxRecDepth 100000 in
theorem c_X7_putAt (l : Launch) (g : Gl) (A_th A_th_letters A_th_breaks A_th_sizes : Nat) (V_th_rules V_th_hs V_th_learnt : Value)  (n1 : Int32) (n2 : Int32) (n3 : Int32) (th_words : Int32) (th_letters : (Nat → Int32)) (th_breaks : (Nat → Int32)) (th_sizes : (Nat → Int32)) (F : Nat) (u : Int32 × (Nat → Int32) × (Nat → Int32) × (Nat → Int32)) (hm : m_X7_putAt F n1 n2 n3 th_words th_letters th_breaks th_sizes = some u) : Ct l g yX7_putAt cX7_putAt 5 none rmX7_putAt [.ref A_th, .int n1, .int n2, .int n3] [(A_th, oO 6 [.ref A_th_letters, .ref A_th_breaks, .ref A_th_sizes, V_th_rules, V_th_hs, .int th_words, V_th_learnt]), (A_th_letters, iA g 6 th_letters), (A_th_breaks, iA g 6 th_breaks), (A_th_sizes, iA g 6 th_sizes)] none [(A_th, oO 6 [.ref A_th_letters, .ref A_th_breaks, .ref A_th_sizes, V_th_rules, V_th_hs, .int u.1, V_th_learnt]), (A_th_letters, iA g 6 u.2.1), (A_th_breaks, iA g 6 u.2.2.1), (A_th_sizes, iA g 6 u.2.2.2)] := by
  refine ent (own := RX7) (lv := [(0, .ref A_th), (1, .int n1), (2, .int n2), (3, .int n3)]) (by decide) rfl (Nat.le_of_ble_eq_true rfl) rfl rfl ?_
  intro x C
  unfold m_X7_putAt at hm
  refine b_iload_n C dX7_putAt_0 rfl 1 rfl ?_
  refine b_if_lt (tgt := 21) C dX7_putAt_1 (by decide) hm (fun hm => ?_) (fun hm => ?_)
  · cases hm
    exact b_vret C dX7_putAt_21
  · refine b_iload_n C dX7_putAt_4 rfl 1 rfl ?_
    refine b_aload_n C dX7_putAt_5 rfl 0 rfl ?_
    refine gfX7_39 C 0 rfl rfl dX7_putAt_6 ?_
    refine b_icmp_gt (tgt := 21) C dX7_putAt_9 (by decide) hm (fun hm => ?_) (fun hm => ?_)
    · cases hm
      exact b_vret C dX7_putAt_21
    · refine b_aload_n C dX7_putAt_12 rfl 0 rfl ?_
      refine gfX7_39 C 0 rfl rfl dX7_putAt_13 ?_
      refine b_bipush (v := 6) C dX7_putAt_16 (by decide) ?_
      refine b_icmp_lt (tgt := 22) C dX7_putAt_18 (by decide) hm (fun hm => ?_) (fun hm => ?_)
      · refine b_aload_n C dX7_putAt_22 rfl 0 rfl ?_
        refine gfX7_39 C 0 rfl rfl dX7_putAt_23 ?_
        refine b_istore (lv' := [(4, .int th_words), (0, .ref A_th), (1, .int n1), (2, .int n2), (3, .int n3)]) C dX7_putAt_26 (by decide) rfl ?_
        refine Wb.lv (lv' := [(0, .ref A_th), (1, .int n1), (2, .int n2), (3, .int n3), (4, .int th_words)]) ?_ [1, 2, 3, 4, 0] rfl
        refine wl4_W (Wg := fun (x2 : Int32) (f3 : (Nat → Int32)) (f4 : (Nat → Int32)) (f5 : (Nat → Int32)) => Wb x [(A_th, oO 6 [.ref A_th_letters, .ref A_th_breaks, .ref A_th_sizes, V_th_rules, V_th_hs, .int th_words, V_th_learnt]), (A_th_letters, iA g 6 f3), (A_th_breaks, iA g 6 f4), (A_th_sizes, iA g 6 f5)] [(0, .ref A_th), (1, .int n1), (2, .int n2), (3, .int n3), (4, .int x2)] 28 []) ?_ F th_words th_letters th_breaks th_sizes hm
        intro x2 f3 f4 f5 c1 hc1 hm
        refine b_iload C dX7_putAt_28 4 rfl ?_
        refine b_iload_n C dX7_putAt_30 rfl 1 rfl ?_
        refine b_icmp_le (tgt := 50) C dX7_putAt_31 (by decide) hm (fun hm => ?_) (fun hm => ?_)
        · refine b_aload_n C dX7_putAt_50 rfl 0 rfl ?_
          refine gfX7_9 C 0 rfl rfl dX7_putAt_51 ?_
          refine b_iload_n C dX7_putAt_54 rfl 1 rfl ?_
          refine b_iload_n C dX7_putAt_55 rfl 2 rfl ?_
          refine b_iast C 1 rfl dX7_putAt_56 hm (fun f6 hm => Wb.to (w' := [(A_th, oO 6 [.ref A_th_letters, .ref A_th_breaks, .ref A_th_sizes, V_th_rules, V_th_hs, .int th_words, V_th_learnt]), (A_th_letters, iA g 6 f6), (A_th_breaks, iA g 6 f4), (A_th_sizes, iA g 6 f5)]) rfl ?_)
          refine b_aload_n C dX7_putAt_57 rfl 0 rfl ?_
          refine gfX7_15 C 0 rfl rfl dX7_putAt_58 ?_
          refine b_iload_n C dX7_putAt_61 rfl 1 rfl ?_
          refine b_iload_n C dX7_putAt_62 rfl 3 rfl ?_
          refine b_iast C 2 rfl dX7_putAt_63 hm (fun f7 hm => Wb.to (w' := [(A_th, oO 6 [.ref A_th_letters, .ref A_th_breaks, .ref A_th_sizes, V_th_rules, V_th_hs, .int th_words, V_th_learnt]), (A_th_letters, iA g 6 f6), (A_th_breaks, iA g 6 f7), (A_th_sizes, iA g 6 f5)]) rfl ?_)
          refine b_aload_n C dX7_putAt_64 rfl 0 rfl ?_
          refine gfX7_18 C 0 rfl rfl dX7_putAt_65 ?_
          refine b_iload_n C dX7_putAt_68 rfl 1 rfl ?_
          refine b_iload_n C dX7_putAt_69 rfl 2 rfl ?_
          obtain ⟨r8, hM, hm⟩ := bK1_some hm
          refine b_kS (w' := [(A_th, oO 6 [.ref A_th_letters, .ref A_th_breaks, .ref A_th_sizes, V_th_rules, V_th_hs, .int th_words, V_th_learnt]), (A_th_letters, iA g 6 f6), (A_th_breaks, iA g 6 f7), (A_th_sizes, iA g 6 f5)]) (st := [.int n1, .ref A_th_sizes]) (st2 := [.int r8, .int n1, .ref A_th_sizes]) C cs_X2_wordSize tb391 (c_X2_wordSize l g n2 F r8 hM) rfl ⟨rfl, rfl, by decide, by decide⟩ (Nat.le_of_ble_eq_true rfl) [] rfl (by decide) rfl rfl dX7_putAt_70 [none, none, none, none] (by decide) ⟨rfl, ⟨rfl, ⟨rfl, ⟨rfl, trivial⟩⟩⟩⟩ rfl ?_
          refine b_iast C 3 rfl dX7_putAt_73 hm (fun f9 hm => Wb.to (w' := [(A_th, oO 6 [.ref A_th_letters, .ref A_th_breaks, .ref A_th_sizes, V_th_rules, V_th_hs, .int th_words, V_th_learnt]), (A_th_letters, iA g 6 f6), (A_th_breaks, iA g 6 f7), (A_th_sizes, iA g 6 f9)]) rfl ?_)
          refine b_aload_n C dX7_putAt_74 rfl 0 rfl ?_
          refine b_dup C dX7_putAt_75 rfl ?_
          refine gfX7_39 C 0 rfl rfl dX7_putAt_76 ?_
          refine b_iconst (v := 1) C dX7_putAt_79 (by decide) ?_
          refine b_iadd C dX7_putAt_80 ?_
          refine b_topi hm (fun z10 hm => ?_)
          refine pfX7_39 (w' := [(A_th, oO 6 [.ref A_th_letters, .ref A_th_breaks, .ref A_th_sizes, V_th_rules, V_th_hs, .int z10, V_th_learnt]), (A_th_letters, iA g 6 f6), (A_th_breaks, iA g 6 f7), (A_th_sizes, iA g 6 f9)]) C rfl rfl 0 rfl (Nat.le_of_ble_eq_true rfl) dX7_putAt_81 rfl ?_
          cases hm
          exact b_vret C dX7_putAt_84
        · refine b_aload_n C dX7_putAt_34 rfl 0 rfl ?_
          refine b_iload C dX7_putAt_35 4 rfl ?_
          refine b_iconst (v := 1) C dX7_putAt_37 (by decide) ?_
          refine b_isub C dX7_putAt_38 ?_
          refine b_iload C dX7_putAt_39 4 rfl ?_
          obtain ⟨f11, f12, f13, hM, hm⟩ := bK3_some hm
          refine b_kV (w' := [(A_th, oO 6 [.ref A_th_letters, .ref A_th_breaks, .ref A_th_sizes, V_th_rules, V_th_hs, .int th_words, V_th_learnt]), (A_th_letters, iA g 6 f11), (A_th_breaks, iA g 6 f12), (A_th_sizes, iA g 6 f13)]) (st := []) (st2 := []) C cv_X7_move tb387 (c_X7_move l g A_th A_th_letters A_th_breaks A_th_sizes V_th_rules V_th_hs (.int th_words) V_th_learnt (x2 - 1) x2 f3 f4 f5 F (f11, f12, f13) hM) rfl 0 rfl rfl ⟨rfl, rfl, by decide, by decide⟩ (Nat.le_of_ble_eq_true rfl) [0, 1, 2, 3] rfl (by decide) rfl rfl dX7_putAt_41 [some 0, some 1, some 2, some 3] (by decide) ⟨⟨rfl, rfl⟩, ⟨⟨rfl, rfl⟩, ⟨⟨rfl, rfl⟩, ⟨⟨rfl, rfl⟩, trivial⟩⟩⟩⟩ rfl ?_
          refine b_iinc (v2 := x2 + (-1)) (lv' := [(4, .int (x2 + (-1))), (0, .ref A_th), (1, .int n1), (2, .int n2), (3, .int n3)]) C dX7_putAt_44 4 rfl rfl (by decide) rfl ?_
          refine b_goto (tgt := 28) C dX7_putAt_47 (by decide) ?_
          exact Wb.lv (hc1 (x2 + (-1)) f11 f12 f13 hm) [1, 2, 3, 4, 0] rfl
      · cases hm
        exact b_vret C dX7_putAt_21
/-- BreakLearner$Text.readInto(LBreakLearner$Stock;)V -/
def m_X8_readInto (F : Nat)   (th_length : Int32) (p1_words : Int32) (th_signs : (Nat → Int32)) (p1_letters : (Nat → Int32)) (p1_breaks : (Nat → Int32)) (p1_sizes : (Nat → Int32)) : Option (Int32 × (Nat → Int32) × (Nat → Int32) × (Nat → Int32)) :=
  wl8 (fun (x2 : Int32) (x3 : Int32) (x4 : Int32) (x5 : Int32) (z6 : Int32) (f7 : (Nat → Int32)) (f8 : (Nat → Int32)) (f9 : (Nat → Int32)) c1 =>
    if th_length ≤ x5 then
      some (z6, f7, f8, f9)
    else
      rdK 64 th_signs x5 (fun v10 =>
      jn3 (fun (x11 : Int32) (x12 : Int32) (x13 : Int32) =>
        jn0 (
          bK4 (m_X7_putAt F z6 x11 x12 z6 f7 f8 f9) (fun z16 f17 f18 f19 =>
          c1 x11 x12 x13 (x5 + 1) z16 f17 f18 f19
          )
          ) (fun k15 =>
          if (x5 + 1) = th_length then
            k15
          else
            rdK 64 th_signs (x5 + 1) (fun v20 =>
            if v20 = 87 then
              k15
            else
              c1 x11 x12 x13 (x5 + 1) z6 f7 f8 f9
            )
          )
        ) (fun k14 =>
        if v10 = 87 then
          k14 0 0 0
        else
          if v10 = 45 then
            letK (x3 ||| (1 <<< ((x4 - 1) &&& 31))) (fun x22 =>
            k14 x2 x22 x4
            )
          else
            letK ((((x2 * 10) + v10) - 97) + 1) (fun x21 =>
            k14 x21 x3 (x4 + 1)
            )
        )
      )
    ) F 0 0 0 0 0 p1_letters p1_breaks p1_sizes
abbrev rmX8_readInto : Room := { frames := 2, cells := 0, slots := 0, locals := 48 }
set_option maxHeartbeats 4000000 in
set_option maxRecDepth 100000 in
theorem c_X8_readInto (l : Launch) (g : Gl) (A_th A_p1 A_th_signs A_p1_letters A_p1_breaks A_p1_sizes : Nat) (V_p1_rules V_p1_hs V_p1_learnt : Value)   (th_length : Int32) (p1_words : Int32) (th_signs : (Nat → Int32)) (p1_letters : (Nat → Int32)) (p1_breaks : (Nat → Int32)) (p1_sizes : (Nat → Int32)) (F : Nat) (u : Int32 × (Nat → Int32) × (Nat → Int32) × (Nat → Int32)) (hm : m_X8_readInto F th_length p1_words th_signs p1_letters p1_breaks p1_sizes = some u) : Ct l g yX8_readInto cX8_readInto 7 none rmX8_readInto [.ref A_th, .ref A_p1] [(A_th, oO 7 [.ref A_th_signs, .int th_length]), (A_p1, oO 6 [.ref A_p1_letters, .ref A_p1_breaks, .ref A_p1_sizes, V_p1_rules, V_p1_hs, .int p1_words, V_p1_learnt]), (A_th_signs, iA g 64 th_signs), (A_p1_letters, iA g 6 p1_letters), (A_p1_breaks, iA g 6 p1_breaks), (A_p1_sizes, iA g 6 p1_sizes)] none [(A_th, oO 7 [.ref A_th_signs, .int th_length]), (A_p1, oO 6 [.ref A_p1_letters, .ref A_p1_breaks, .ref A_p1_sizes, V_p1_rules, V_p1_hs, .int u.1, V_p1_learnt]), (A_th_signs, iA g 64 th_signs), (A_p1_letters, iA g 6 u.2.1), (A_p1_breaks, iA g 6 u.2.2.1), (A_p1_sizes, iA g 6 u.2.2.2)] := by
  refine ent (own := RX8) (lv := [(0, .ref A_th), (1, .ref A_p1)]) (by decide) rfl (Nat.le_of_ble_eq_true rfl) rfl rfl ?_
  intro x C
  unfold m_X8_readInto at hm
  refine b_aload_n C dX8_readInto_0 rfl 1 rfl ?_
  refine b_iconst (v := 0) C dX8_readInto_1 (by decide) ?_
  refine pfX8_23 (w' := [(A_th, oO 7 [.ref A_th_signs, .int th_length]), (A_p1, oO 6 [.ref A_p1_letters, .ref A_p1_breaks, .ref A_p1_sizes, V_p1_rules, V_p1_hs, .int 0, V_p1_learnt]), (A_th_signs, iA g 64 th_signs), (A_p1_letters, iA g 6 p1_letters), (A_p1_breaks, iA g 6 p1_breaks), (A_p1_sizes, iA g 6 p1_sizes)]) C rfl rfl 1 rfl (Nat.le_of_ble_eq_true rfl) dX8_readInto_2 rfl ?_
  refine b_iconst (v := 0) C dX8_readInto_5 (by decide) ?_
  refine b_istore_n (lv' := [(2, .int 0), (0, .ref A_th), (1, .ref A_p1)]) C dX8_readInto_6 rfl (by decide) rfl ?_
  refine b_iconst (v := 0) C dX8_readInto_7 (by decide) ?_
  refine b_istore_n (lv' := [(3, .int 0), (2, .int 0), (0, .ref A_th), (1, .ref A_p1)]) C dX8_readInto_8 rfl (by decide) rfl ?_
  refine b_iconst (v := 0) C dX8_readInto_9 (by decide) ?_
  refine b_istore (lv' := [(4, .int 0), (3, .int 0), (2, .int 0), (0, .ref A_th), (1, .ref A_p1)]) C dX8_readInto_10 (by decide) rfl ?_
  refine b_iconst (v := 0) C dX8_readInto_12 (by decide) ?_
  refine b_istore (lv' := [(5, .int 0), (4, .int 0), (3, .int 0), (2, .int 0), (0, .ref A_th), (1, .ref A_p1)]) C dX8_readInto_13 (by decide) rfl ?_
  refine Wb.lv (lv' := [(0, .ref A_th), (1, .ref A_p1), (2, .int 0), (3, .int 0), (4, .int 0), (5, .int 0)]) ?_ [4, 5, 3, 2, 1, 0] rfl
  refine wl8_W (Wg := fun (x2 : Int32) (x3 : Int32) (x4 : Int32) (x5 : Int32) (z6 : Int32) (f7 : (Nat → Int32)) (f8 : (Nat → Int32)) (f9 : (Nat → Int32)) => Wb x [(A_th, oO 7 [.ref A_th_signs, .int th_length]), (A_p1, oO 6 [.ref A_p1_letters, .ref A_p1_breaks, .ref A_p1_sizes, V_p1_rules, V_p1_hs, .int z6, V_p1_learnt]), (A_th_signs, iA g 64 th_signs), (A_p1_letters, iA g 6 f7), (A_p1_breaks, iA g 6 f8), (A_p1_sizes, iA g 6 f9)] [(0, .ref A_th), (1, .ref A_p1), (2, .int x2), (3, .int x3), (4, .int x4), (5, .int x5)] 15 []) ?_ F 0 0 0 0 0 p1_letters p1_breaks p1_sizes hm
  intro x2 x3 x4 x5 z6 f7 f8 f9 c1 hc1 hm
  refine b_iload C dX8_readInto_15 5 rfl ?_
  refine b_aload_n C dX8_readInto_17 rfl 0 rfl ?_
  refine gfX8_15 C 0 rfl rfl dX8_readInto_18 ?_
  refine b_icmp_ge (tgt := 126) C dX8_readInto_21 (by decide) hm (fun hm => ?_) (fun hm => ?_)
  · cases hm
    exact b_vret C dX8_readInto_126
  · refine b_aload_n C dX8_readInto_24 rfl 0 rfl ?_
    refine gfX8_9 C 0 rfl rfl dX8_readInto_25 ?_
    refine b_iload C dX8_readInto_28 5 rfl ?_
    refine b_iald C 2 rfl dX8_readInto_30 hm (fun v10 hm => ?_)
    refine b_istore (lv' := [(6, .int v10), (0, .ref A_th), (1, .ref A_p1), (2, .int x2), (3, .int x3), (4, .int x4), (5, .int x5)]) C dX8_readInto_31 (by decide) rfl ?_
    refine b_iload C dX8_readInto_33 0 rfl ?_
    refine b_bipush (v := 87) C dX8_readInto_35 (by decide) ?_
    obtain ⟨k14, hk14, hm⟩ := jn3_some hm
    have jk14 : ∀ (x11 : Int32) (x12 : Int32) (x13 : Int32), k14 x11 x12 x13 = some u → Wb x [(A_th, oO 7 [.ref A_th_signs, .int th_length]), (A_p1, oO 6 [.ref A_p1_letters, .ref A_p1_breaks, .ref A_p1_sizes, V_p1_rules, V_p1_hs, .int z6, V_p1_learnt]), (A_th_signs, iA g 64 th_signs), (A_p1_letters, iA g 6 f7), (A_p1_breaks, iA g 6 f8), (A_p1_sizes, iA g 6 f9)] [(0, .ref A_th), (1, .ref A_p1), (2, .int x11), (3, .int x12), (4, .int x13), (5, .int x5)] 85 [] := by
      intro x11 x12 x13 hm
      have hm := hk14 _ _ _ hm
      refine b_iload C dX8_readInto_85 5 rfl ?_
      refine b_iconst (v := 1) C dX8_readInto_87 (by decide) ?_
      refine b_iadd C dX8_readInto_88 ?_
      refine b_aload_n C dX8_readInto_89 rfl 0 rfl ?_
      refine gfX8_15 C 0 rfl rfl dX8_readInto_90 ?_
      obtain ⟨k15, hk15, hm⟩ := jn0_some hm
      have jk15 : k15  = some u → Wb x [(A_th, oO 7 [.ref A_th_signs, .int th_length]), (A_p1, oO 6 [.ref A_p1_letters, .ref A_p1_breaks, .ref A_p1_sizes, V_p1_rules, V_p1_hs, .int z6, V_p1_learnt]), (A_th_signs, iA g 64 th_signs), (A_p1_letters, iA g 6 f7), (A_p1_breaks, iA g 6 f8), (A_p1_sizes, iA g 6 f9)] [(0, .ref A_th), (1, .ref A_p1), (2, .int x11), (3, .int x12), (4, .int x13), (5, .int x5)] 110 [] := by
        intro  hm
        have hm := hk15 hm
        refine b_aload_n C dX8_readInto_110 rfl 1 rfl ?_
        refine b_aload_n C dX8_readInto_111 rfl 1 rfl ?_
        refine gfX8_23 C 1 rfl rfl dX8_readInto_112 ?_
        refine b_iload_n C dX8_readInto_115 rfl 2 rfl ?_
        refine b_iload_n C dX8_readInto_116 rfl 3 rfl ?_
        obtain ⟨z16, f17, f18, f19, hM, hm⟩ := bK4_some hm
        refine b_kV (w' := [(A_th, oO 7 [.ref A_th_signs, .int th_length]), (A_p1, oO 6 [.ref A_p1_letters, .ref A_p1_breaks, .ref A_p1_sizes, V_p1_rules, V_p1_hs, .int z16, V_p1_learnt]), (A_th_signs, iA g 64 th_signs), (A_p1_letters, iA g 6 f17), (A_p1_breaks, iA g 6 f18), (A_p1_sizes, iA g 6 f19)]) (st := []) (st2 := []) C cv_X7_putAt tb383 (c_X7_putAt l g A_p1 A_p1_letters A_p1_breaks A_p1_sizes V_p1_rules V_p1_hs V_p1_learnt z6 x11 x12 z6 f7 f8 f9 F (z16, f17, f18, f19) hM) rfl 1 rfl rfl ⟨rfl, rfl, by decide, by decide⟩ (Nat.le_of_ble_eq_true rfl) [1, 3, 4, 5] rfl (by decide) rfl rfl dX8_readInto_117 [none, some 0, none, some 1, some 2, some 3] (by decide) ⟨rfl, ⟨⟨rfl, rfl⟩, ⟨rfl, ⟨⟨rfl, rfl⟩, ⟨⟨rfl, rfl⟩, ⟨⟨rfl, rfl⟩, trivial⟩⟩⟩⟩⟩⟩ rfl ?_
        refine b_iinc (v2 := x5 + 1) (lv' := [(5, .int (x5 + 1)), (0, .ref A_th), (1, .ref A_p1), (2, .int x11), (3, .int x12), (4, .int x13)]) C dX8_readInto_120 5 rfl rfl (by decide) rfl ?_
        refine b_goto (tgt := 15) C dX8_readInto_123 (by decide) ?_
        exact Wb.lv (hc1 x11 x12 x13 (x5 + 1) z16 f17 f18 f19 hm) [1, 2, 3, 4, 5, 0] rfl
      refine b_icmp_eq (tgt := 110) C dX8_readInto_93 (by decide) hm (fun hm => ?_) (fun hm => ?_)
      · exact Wb.lv (jk15  hm) [0, 1, 2, 3, 4, 5] rfl
      · refine b_aload_n C dX8_readInto_96 rfl 0 rfl ?_
        refine gfX8_9 C 0 rfl rfl dX8_readInto_97 ?_
        refine b_iload C dX8_readInto_100 5 rfl ?_
        refine b_iconst (v := 1) C dX8_readInto_102 (by decide) ?_
        refine b_iadd C dX8_readInto_103 ?_
        refine b_iald C 2 rfl dX8_readInto_104 hm (fun v20 hm => ?_)
        refine b_bipush (v := 87) C dX8_readInto_105 (by decide) ?_
        refine b_icmp_ne (tgt := 120) C dX8_readInto_107 (by decide) hm (fun hm => ?_) (fun hm => ?_)
        · refine b_iinc (v2 := x5 + 1) (lv' := [(5, .int (x5 + 1)), (0, .ref A_th), (1, .ref A_p1), (2, .int x11), (3, .int x12), (4, .int x13)]) C dX8_readInto_120 5 rfl rfl (by decide) rfl ?_
          refine b_goto (tgt := 15) C dX8_readInto_123 (by decide) ?_
          exact Wb.lv (hc1 x11 x12 x13 (x5 + 1) z6 f7 f8 f9 hm) [1, 2, 3, 4, 5, 0] rfl
        · exact Wb.lv (jk15  hm) [0, 1, 2, 3, 4, 5] rfl
    refine b_icmp_ne (tgt := 50) C dX8_readInto_37 (by decide) hm (fun hm => ?_) (fun hm => ?_)
    · refine b_iload C dX8_readInto_50 0 rfl ?_
      refine b_bipush (v := 45) C dX8_readInto_52 (by decide) ?_
      refine b_icmp_ne (tgt := 69) C dX8_readInto_54 (by decide) hm (fun hm => ?_) (fun hm => ?_)
      · refine b_iload_n C dX8_readInto_69 rfl 3 rfl ?_
        refine b_bipush (v := 10) C dX8_readInto_70 (by decide) ?_
        refine b_imul C dX8_readInto_72 ?_
        refine b_iload C dX8_readInto_73 0 rfl ?_
        refine b_iadd C dX8_readInto_75 ?_
        refine b_bipush (v := 97) C dX8_readInto_76 (by decide) ?_
        refine b_isub C dX8_readInto_78 ?_
        refine b_iconst (v := 1) C dX8_readInto_79 (by decide) ?_
        refine b_iadd C dX8_readInto_80 ?_
        refine b_topi hm (fun x21 hm => ?_)
        refine b_istore_n (lv' := [(2, .int x21), (6, .int v10), (0, .ref A_th), (1, .ref A_p1), (3, .int x3), (4, .int x4), (5, .int x5)]) C dX8_readInto_81 rfl (by decide) rfl ?_
        refine b_iinc (v2 := x4 + 1) (lv' := [(4, .int (x4 + 1)), (2, .int x21), (6, .int v10), (0, .ref A_th), (1, .ref A_p1), (3, .int x3), (5, .int x5)]) C dX8_readInto_82 5 rfl rfl (by decide) rfl ?_
        exact Wb.lv (jk14 x21 x3 (x4 + 1) hm) [3, 4, 1, 5, 0, 6] rfl
      · refine b_iload_n C dX8_readInto_57 rfl 4 rfl ?_
        refine b_iconst (v := 1) C dX8_readInto_58 (by decide) ?_
        refine b_iload C dX8_readInto_59 5 rfl ?_
        refine b_iconst (v := 1) C dX8_readInto_61 (by decide) ?_
        refine b_isub C dX8_readInto_62 ?_
        refine b_ishl C dX8_readInto_63 ?_
        refine b_ior C dX8_readInto_64 ?_
        refine b_topi hm (fun x22 hm => ?_)
        refine b_istore_n (lv' := [(3, .int x22), (6, .int v10), (0, .ref A_th), (1, .ref A_p1), (2, .int x2), (4, .int x4), (5, .int x5)]) C dX8_readInto_65 rfl (by decide) rfl ?_
        refine b_goto (tgt := 85) C dX8_readInto_66 (by decide) ?_
        exact Wb.lv (jk14 x2 x22 x4 hm) [2, 3, 4, 0, 5, 6] rfl
    · refine b_iconst (v := 0) C dX8_readInto_40 (by decide) ?_
      refine b_istore_n (lv' := [(2, .int 0), (6, .int v10), (0, .ref A_th), (1, .ref A_p1), (3, .int x3), (4, .int x4), (5, .int x5)]) C dX8_readInto_41 rfl (by decide) rfl ?_
      refine b_iconst (v := 0) C dX8_readInto_42 (by decide) ?_
      refine b_istore_n (lv' := [(3, .int 0), (2, .int 0), (6, .int v10), (0, .ref A_th), (1, .ref A_p1), (4, .int x4), (5, .int x5)]) C dX8_readInto_43 rfl (by decide) rfl ?_
      refine b_iconst (v := 0) C dX8_readInto_44 (by decide) ?_
      refine b_istore (lv' := [(4, .int 0), (3, .int 0), (2, .int 0), (6, .int v10), (0, .ref A_th), (1, .ref A_p1), (5, .int x5)]) C dX8_readInto_45 (by decide) rfl ?_
      refine b_goto (tgt := 85) C dX8_readInto_47 (by decide) ?_
      exact Wb.lv (jk14 0 0 0 hm) [4, 5, 2, 1, 0, 6] rfl
