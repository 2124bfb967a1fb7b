/-- BreakLearnerModel.fitsSlots(II)Z -/
def m_X11_fitsSlots (F : Nat)  (n1 : Int32) (n2 : Int32) (th_isNode : (Nat → Int32)) (th_slot : (Nat → Int32)) : Option (Int32) :=
  wl2 (fun (x2 : Int32) (x3 : Int32) c1 =>
    if 7 ≤ x3 then
      zK x2 (some x2)
    else
      letK ((7 * n1) + x3) (fun x4 =>
      jn1 (fun (y5 : Int32) =>
        c1 y5 (x3 + 1)
        ) (fun k6 =>
        jn0 (
          k6 0
          ) (fun k7 =>
          if x2 = 0 then
            k7
          else
            jn0 (
              k6 1
              ) (fun k8 =>
              if 343 ≤ x4 then
                k8
              else
                rdK 343 th_isNode x4 (fun v9 =>
                if v9 = 0 then
                  k8
                else
                  rdK 1600 th_slot (n2 + x3) (fun v10 =>
                  if v10 = (-9) then
                    k8
                  else
                    k7
                  )
                )
              )
          )
        )
      )
    ) F 1 1
abbrev rmX11_fitsSlots : Room := { frames := 0, cells := 0, slots := 0, locals := 0 }
set_option maxHeartbeats 4000000 in
set_option maxRecDepth 100000 in
theorem c_X11_fitsSlots (l : Launch) (g : Gl) (A_th A_th_isNode A_th_slot : Nat) (V_th_thrown V_th_text V_th_textSize V_th_readPage V_th_page V_th_trial V_th_book V_th_doings V_th_kept V_th_isKept V_th_seen V_th_seenPlace V_th_seenDigit V_th_seenIs V_th_seed V_th_plan V_th_good V_th_bad V_th_signs V_th_signMany V_th_digits V_th_base V_th_whichMany V_th_whichFirst V_th_value : Value)  (n1 : Int32) (n2 : Int32) (th_isNode : (Nat → Int32)) (th_slot : (Nat → Int32)) (F : Nat) (u : Int32) (hm : m_X11_fitsSlots F n1 n2 th_isNode th_slot = some u) : Ct l g yX11_fitsSlots cX11_fitsSlots 6 (some .boolean) rmX11_fitsSlots [.ref A_th, .int n1, .int n2] [(A_th, oO 10 [V_th_thrown, V_th_text, V_th_textSize, V_th_readPage, V_th_page, V_th_trial, V_th_book, V_th_doings, V_th_kept, V_th_isKept, V_th_seen, V_th_seenPlace, V_th_seenDigit, V_th_seenIs, V_th_seed, V_th_plan, V_th_good, V_th_bad, V_th_signs, V_th_signMany, V_th_digits, .ref A_th_isNode, V_th_base, .ref A_th_slot, V_th_whichMany, V_th_whichFirst, V_th_value]), (A_th_isNode, zA g 343 th_isNode), (A_th_slot, iA g 1600 th_slot)] (some (.int u)) [(A_th, oO 10 [V_th_thrown, V_th_text, V_th_textSize, V_th_readPage, V_th_page, V_th_trial, V_th_book, V_th_doings, V_th_kept, V_th_isKept, V_th_seen, V_th_seenPlace, V_th_seenDigit, V_th_seenIs, V_th_seed, V_th_plan, V_th_good, V_th_bad, V_th_signs, V_th_signMany, V_th_digits, .ref A_th_isNode, V_th_base, .ref A_th_slot, V_th_whichMany, V_th_whichFirst, V_th_value]), (A_th_isNode, zA g 343 th_isNode), (A_th_slot, iA g 1600 th_slot)] := by
  refine ent (own := RX11) (lv := [(0, .ref A_th), (1, .int n1), (2, .int n2)]) (by decide) rfl (Nat.le_of_ble_eq_true rfl) rfl rfl ?_
  intro x C
  unfold m_X11_fitsSlots at hm
  refine b_iconst (v := 1) C dX11_fitsSlots_0 (by decide) ?_
  refine b_istore_n (lv' := [(3, .int 1), (0, .ref A_th), (1, .int n1), (2, .int n2)]) C dX11_fitsSlots_1 rfl (by decide) rfl ?_
  refine b_iconst (v := 1) C dX11_fitsSlots_2 (by decide) ?_
  refine b_istore (lv' := [(4, .int 1), (3, .int 1), (0, .ref A_th), (1, .int n1), (2, .int n2)]) C dX11_fitsSlots_3 (by decide) rfl ?_
  refine Wb.lv (lv' := [(0, .ref A_th), (1, .int n1), (2, .int n2), (3, .int 1), (4, .int 1)]) ?_ [2, 3, 4, 1, 0] rfl
  refine wl2_W (Wg := fun (x2 : Int32) (x3 : Int32) => Wb x [(A_th, oO 10 [V_th_thrown, V_th_text, V_th_textSize, V_th_readPage, V_th_page, V_th_trial, V_th_book, V_th_doings, V_th_kept, V_th_isKept, V_th_seen, V_th_seenPlace, V_th_seenDigit, V_th_seenIs, V_th_seed, V_th_plan, V_th_good, V_th_bad, V_th_signs, V_th_signMany, V_th_digits, .ref A_th_isNode, V_th_base, .ref A_th_slot, V_th_whichMany, V_th_whichFirst, V_th_value]), (A_th_isNode, zA g 343 th_isNode), (A_th_slot, iA g 1600 th_slot)] [(0, .ref A_th), (1, .int n1), (2, .int n2), (3, .int x2), (4, .int x3)] 5 []) ?_ F 1 1 hm
  intro x2 x3 c1 hc1 hm
  refine b_iload C dX11_fitsSlots_5 4 rfl ?_
  refine b_bipush (v := 7) C dX11_fitsSlots_7 (by decide) ?_
  refine b_icmp_ge (tgt := 69) C dX11_fitsSlots_9 (by decide) hm (fun hm => ?_) (fun hm => ?_)
  · refine b_iload_n C dX11_fitsSlots_69 rfl 3 rfl ?_
    obtain ⟨hn, hm⟩ := zK_some hm
    cases hm
    exact b_zret C hn dX11_fitsSlots_70
  · refine b_bipush (v := 7) C dX11_fitsSlots_12 (by decide) ?_
    refine b_iload_n C dX11_fitsSlots_14 rfl 1 rfl ?_
    refine b_imul C dX11_fitsSlots_15 ?_
    refine b_iload C dX11_fitsSlots_16 4 rfl ?_
    refine b_iadd C dX11_fitsSlots_18 ?_
    refine b_topi hm (fun x4 hm => ?_)
    refine b_istore (lv' := [(5, .int x4), (0, .ref A_th), (1, .int n1), (2, .int n2), (3, .int x2), (4, .int x3)]) C dX11_fitsSlots_19 (by decide) rfl ?_
    refine b_iload_n C dX11_fitsSlots_21 rfl 4 rfl ?_
    obtain ⟨k6, hk6, hm⟩ := jn1_some hm
    have jk6 : ∀ (y5 : Int32), k6 y5 = some u → Wb x [(A_th, oO 10 [V_th_thrown, V_th_text, V_th_textSize, V_th_readPage, V_th_page, V_th_trial, V_th_book, V_th_doings, V_th_kept, V_th_isKept, V_th_seen, V_th_seenPlace, V_th_seenDigit, V_th_seenIs, V_th_seed, V_th_plan, V_th_good, V_th_bad, V_th_signs, V_th_signMany, V_th_digits, .ref A_th_isNode, V_th_base, .ref A_th_slot, V_th_whichMany, V_th_whichFirst, V_th_value]), (A_th_isNode, zA g 343 th_isNode), (A_th_slot, iA g 1600 th_slot)] [(0, .ref A_th), (1, .int n1), (2, .int n2), (4, .int x3)] 62 [.int y5] := by
      intro y5 hm
      have hm := hk6 _ hm
      refine b_istore_n (lv' := [(3, .int y5), (0, .ref A_th), (1, .int n1), (2, .int n2), (4, .int x3)]) C dX11_fitsSlots_62 rfl (by decide) rfl ?_
      refine b_iinc (v2 := x3 + 1) (lv' := [(4, .int (x3 + 1)), (3, .int y5), (0, .ref A_th), (1, .int n1), (2, .int n2)]) C dX11_fitsSlots_63 4 rfl rfl (by decide) rfl ?_
      refine b_goto (tgt := 5) C dX11_fitsSlots_66 (by decide) ?_
      exact Wb.lv (hc1 y5 (x3 + 1) hm) [2, 3, 4, 1, 0] rfl
    obtain ⟨k7, hk7, hm⟩ := jn0_some hm
    have jk7 : k7  = some u → Wb x [(A_th, oO 10 [V_th_thrown, V_th_text, V_th_textSize, V_th_readPage, V_th_page, V_th_trial, V_th_book, V_th_doings, V_th_kept, V_th_isKept, V_th_seen, V_th_seenPlace, V_th_seenDigit, V_th_seenIs, V_th_seed, V_th_plan, V_th_good, V_th_bad, V_th_signs, V_th_signMany, V_th_digits, .ref A_th_isNode, V_th_base, .ref A_th_slot, V_th_whichMany, V_th_whichFirst, V_th_value]), (A_th_isNode, zA g 343 th_isNode), (A_th_slot, iA g 1600 th_slot)] [(0, .ref A_th), (1, .int n1), (2, .int n2), (4, .int x3)] 61 [] := by
      intro  hm
      have hm := hk7 hm
      refine b_iconst (v := 0) C dX11_fitsSlots_61 (by decide) ?_
      exact Wb.lv (jk6 0 hm) [0, 1, 2, 3] rfl
    refine b_if_eq (tgt := 61) C dX11_fitsSlots_22 (by decide) hm (fun hm => ?_) (fun hm => ?_)
    · exact Wb.lv (jk7  hm) [1, 2, 3, 5] rfl
    · refine b_iload C dX11_fitsSlots_25 0 rfl ?_
      refine b_sipush (v := 343) C dX11_fitsSlots_27 (by decide) ?_
      obtain ⟨k8, hk8, hm⟩ := jn0_some hm
      have jk8 : k8  = some u → Wb x [(A_th, oO 10 [V_th_thrown, V_th_text, V_th_textSize, V_th_readPage, V_th_page, V_th_trial, V_th_book, V_th_doings, V_th_kept, V_th_isKept, V_th_seen, V_th_seenPlace, V_th_seenDigit, V_th_seenIs, V_th_seed, V_th_plan, V_th_good, V_th_bad, V_th_signs, V_th_signMany, V_th_digits, .ref A_th_isNode, V_th_base, .ref A_th_slot, V_th_whichMany, V_th_whichFirst, V_th_value]), (A_th_isNode, zA g 343 th_isNode), (A_th_slot, iA g 1600 th_slot)] [(0, .ref A_th), (1, .int n1), (2, .int n2), (4, .int x3)] 57 [] := by
        intro  hm
        have hm := hk8 hm
        refine b_iconst (v := 1) C dX11_fitsSlots_57 (by decide) ?_
        refine b_goto (tgt := 62) C dX11_fitsSlots_58 (by decide) ?_
        exact Wb.lv (jk6 1 hm) [0, 1, 2, 3] rfl
      refine b_icmp_ge (tgt := 57) C dX11_fitsSlots_30 (by decide) hm (fun hm => ?_) (fun hm => ?_)
      · exact Wb.lv (jk8  hm) [1, 2, 3, 5] rfl
      · refine b_aload_n C dX11_fitsSlots_33 rfl 1 rfl ?_
        refine gfX11_56 C 0 rfl rfl dX11_fitsSlots_34 ?_
        refine b_iload C dX11_fitsSlots_37 0 rfl ?_
        refine b_zald C 1 rfl dX11_fitsSlots_39 hm (fun v9 hm => ?_)
        refine b_if_eq (tgt := 57) C dX11_fitsSlots_40 (by decide) hm (fun hm => ?_) (fun hm => ?_)
        · exact Wb.lv (jk8  hm) [1, 2, 3, 5] rfl
        · refine b_aload_n C dX11_fitsSlots_43 rfl 1 rfl ?_
          refine gfX11_62 C 0 rfl rfl dX11_fitsSlots_44 ?_
          refine b_iload_n C dX11_fitsSlots_47 rfl 3 rfl ?_
          refine b_iload C dX11_fitsSlots_48 5 rfl ?_
          refine b_iadd C dX11_fitsSlots_50 ?_
          refine b_iald C 2 rfl dX11_fitsSlots_51 hm (fun v10 hm => ?_)
          refine b_bipush (v := (-9)) C dX11_fitsSlots_52 (by decide) ?_
          refine b_icmp_ne (tgt := 61) C dX11_fitsSlots_54 (by decide) hm (fun hm => ?_) (fun hm => ?_)
          · exact Wb.lv (jk7  hm) [1, 2, 3, 5] rfl
          · exact Wb.lv (jk8  hm) [1, 2, 3, 5] rfl
/-- BreakLearnerModel.packNode(I)V -/
def m_X11_packNode (F : Nat)  (n1 : Int32) (th_isNode : (Nat → Int32)) (th_slot : (Nat → Int32)) (th_base : (Nat → Int32)) : Option ((Nat → Int32) × (Nat → Int32)) :=
  wl2 (fun (x2 : Int32) (x3 : Int32) c1 =>
    if 7 ≤ x3 then
      if x2 = 0 then
        some (th_slot, th_base)
      else
        wl1 (fun (x5 : Int32) c4 =>
          bK1 (m_X11_fitsSlots F n1 x5 th_isNode th_slot) (fun r6 =>
          if r6 = 0 then
            c4 (x5 + 1)
          else
            stK 343 th_base n1 x5 (fun f7 =>
            wl2 (fun (x9 : Int32) (f10 : (Nat → Int32)) c8 =>
              if 7 ≤ x9 then
                some (f10, f7)
              else
                if 343 ≤ ((7 * n1) + x9) then
                  c8 (x9 + 1) f10
                else
                  rdK 343 th_isNode ((7 * n1) + x9) (fun v11 =>
                  if v11 = 0 then
                    c8 (x9 + 1) f10
                  else
                    stK 1600 f10 (x5 + x9) ((7 * n1) + x9) (fun f12 =>
                    c8 (x9 + 1) f12
                    )
                  )
              ) F 1 th_slot
            )
          )
          ) F 0
    else
      jn1 (fun (y13 : Int32) =>
        c1 y13 (x3 + 1)
        ) (fun k14 =>
        jn0 (
          k14 1
          ) (fun k15 =>
          if x2 = 0 then
            jn0 (
              k14 0
              ) (fun k16 =>
              if 343 ≤ ((7 * n1) + x3) then
                k16
              else
                rdK 343 th_isNode ((7 * n1) + x3) (fun v17 =>
                if v17 = 0 then
                  k16
                else
                  k15
                )
              )
          else
            k15
          )
        )
    ) F 0 1
abbrev rmX11_packNode : Room := { frames := 1, cells := 0, slots := 0, locals := 25 }
set_option maxHeartbeats 4000000 in
set_option maxRecDepth 100000 in
theorem c_X11_packNode (l : Launch) (g : Gl) (A_th A_th_isNode A_th_slot A_th_base : Nat) (V_th_thrown V_th_text V_th_textSize V_th_readPage V_th_page V_th_trial V_th_book V_th_doings V_th_kept V_th_isKept V_th_seen V_th_seenPlace V_th_seenDigit V_th_seenIs V_th_seed V_th_plan V_th_good V_th_bad V_th_signs V_th_signMany V_th_digits V_th_whichMany V_th_whichFirst V_th_value : Value)  (n1 : Int32) (th_isNode : (Nat → Int32)) (th_slot : (Nat → Int32)) (th_base : (Nat → Int32)) (F : Nat) (u : (Nat → Int32) × (Nat → Int32)) (hm : m_X11_packNode F n1 th_isNode th_slot th_base = some u) : Ct l g yX11_packNode cX11_packNode 5 none rmX11_packNode [.ref A_th, .int n1] [(A_th, oO 10 [V_th_thrown, V_th_text, V_th_textSize, V_th_readPage, V_th_page, V_th_trial, V_th_book, V_th_doings, V_th_kept, V_th_isKept, V_th_seen, V_th_seenPlace, V_th_seenDigit, V_th_seenIs, V_th_seed, V_th_plan, V_th_good, V_th_bad, V_th_signs, V_th_signMany, V_th_digits, .ref A_th_isNode, .ref A_th_base, .ref A_th_slot, V_th_whichMany, V_th_whichFirst, V_th_value]), (A_th_isNode, zA g 343 th_isNode), (A_th_slot, iA g 1600 th_slot), (A_th_base, iA g 343 th_base)] none [(A_th, oO 10 [V_th_thrown, V_th_text, V_th_textSize, V_th_readPage, V_th_page, V_th_trial, V_th_book, V_th_doings, V_th_kept, V_th_isKept, V_th_seen, V_th_seenPlace, V_th_seenDigit, V_th_seenIs, V_th_seed, V_th_plan, V_th_good, V_th_bad, V_th_signs, V_th_signMany, V_th_digits, .ref A_th_isNode, .ref A_th_base, .ref A_th_slot, V_th_whichMany, V_th_whichFirst, V_th_value]), (A_th_isNode, zA g 343 th_isNode), (A_th_slot, iA g 1600 u.1), (A_th_base, iA g 343 u.2)] := by
  refine ent (own := RX11) (lv := [(0, .ref A_th), (1, .int n1)]) (by decide) rfl (Nat.le_of_ble_eq_true rfl) rfl rfl ?_
  intro x C
  unfold m_X11_packNode at hm
  refine b_iconst (v := 0) C dX11_packNode_0 (by decide) ?_
  refine b_istore_n (lv' := [(2, .int 0), (0, .ref A_th), (1, .int n1)]) C dX11_packNode_1 rfl (by decide) rfl ?_
  refine b_iconst (v := 1) C dX11_packNode_2 (by decide) ?_
  refine b_istore_n (lv' := [(3, .int 1), (2, .int 0), (0, .ref A_th), (1, .int n1)]) C dX11_packNode_3 rfl (by decide) rfl ?_
  refine Wb.lv (lv' := [(0, .ref A_th), (1, .int n1), (2, .int 0), (3, .int 1)]) ?_ [2, 3, 1, 0] rfl
  refine wl2_W (Wg := fun (x2 : Int32) (x3 : Int32) => Wb x [(A_th, oO 10 [V_th_thrown, V_th_text, V_th_textSize, V_th_readPage, V_th_page, V_th_trial, V_th_book, V_th_doings, V_th_kept, V_th_isKept, V_th_seen, V_th_seenPlace, V_th_seenDigit, V_th_seenIs, V_th_seed, V_th_plan, V_th_good, V_th_bad, V_th_signs, V_th_signMany, V_th_digits, .ref A_th_isNode, .ref A_th_base, .ref A_th_slot, V_th_whichMany, V_th_whichFirst, V_th_value]), (A_th_isNode, zA g 343 th_isNode), (A_th_slot, iA g 1600 th_slot), (A_th_base, iA g 343 th_base)] [(0, .ref A_th), (1, .int n1), (2, .int x2), (3, .int x3)] 4 []) ?_ F 0 1 hm
  intro x2 x3 c1 hc1 hm
  refine b_iload_n C dX11_packNode_4 rfl 3 rfl ?_
  refine b_bipush (v := 7) C dX11_packNode_5 (by decide) ?_
  refine b_icmp_ge (tgt := 52) C dX11_packNode_7 (by decide) hm (fun hm => ?_) (fun hm => ?_)
  · refine b_iload_n C dX11_packNode_52 rfl 2 rfl ?_
    refine b_if_ne (tgt := 57) C dX11_packNode_53 (by decide) hm (fun hm => ?_) (fun hm => ?_)
    · refine b_iconst (v := 0) C dX11_packNode_57 (by decide) ?_
      refine b_istore_n (lv' := [(3, .int 0), (0, .ref A_th), (1, .int n1), (2, .int x2)]) C dX11_packNode_58 rfl (by decide) rfl ?_
      refine Wb.lv (lv' := [(0, .ref A_th), (1, .int n1), (3, .int 0)]) ?_ [1, 2, 0] rfl
      refine wl1_W (Wg := fun (x5 : Int32) => Wb x [(A_th, oO 10 [V_th_thrown, V_th_text, V_th_textSize, V_th_readPage, V_th_page, V_th_trial, V_th_book, V_th_doings, V_th_kept, V_th_isKept, V_th_seen, V_th_seenPlace, V_th_seenDigit, V_th_seenIs, V_th_seed, V_th_plan, V_th_good, V_th_bad, V_th_signs, V_th_signMany, V_th_digits, .ref A_th_isNode, .ref A_th_base, .ref A_th_slot, V_th_whichMany, V_th_whichFirst, V_th_value]), (A_th_isNode, zA g 343 th_isNode), (A_th_slot, iA g 1600 th_slot), (A_th_base, iA g 343 th_base)] [(0, .ref A_th), (1, .int n1), (3, .int x5)] 59 []) ?_ F 0 hm
      intro x5 c4 hc4 hm
      refine b_aload_n C dX11_packNode_59 rfl 0 rfl ?_
      refine b_iload_n C dX11_packNode_60 rfl 1 rfl ?_
      refine b_iload_n C dX11_packNode_61 rfl 2 rfl ?_
      obtain ⟨r6, hM, hm⟩ := bK1_some hm
      refine b_kV (w' := [(A_th, oO 10 [V_th_thrown, V_th_text, V_th_textSize, V_th_readPage, V_th_page, V_th_trial, V_th_book, V_th_doings, V_th_kept, V_th_isKept, V_th_seen, V_th_seenPlace, V_th_seenDigit, V_th_seenIs, V_th_seed, V_th_plan, V_th_good, V_th_bad, V_th_signs, V_th_signMany, V_th_digits, .ref A_th_isNode, .ref A_th_base, .ref A_th_slot, V_th_whichMany, V_th_whichFirst, V_th_value]), (A_th_isNode, zA g 343 th_isNode), (A_th_slot, iA g 1600 th_slot), (A_th_base, iA g 343 th_base)]) (st := []) (st2 := [.int r6]) C cv_X11_fitsSlots tb1020 (c_X11_fitsSlots l g A_th A_th_isNode A_th_slot V_th_thrown V_th_text V_th_textSize V_th_readPage V_th_page V_th_trial V_th_book V_th_doings V_th_kept V_th_isKept V_th_seen V_th_seenPlace V_th_seenDigit V_th_seenIs V_th_seed V_th_plan V_th_good V_th_bad V_th_signs V_th_signMany V_th_digits (.ref A_th_base) V_th_whichMany V_th_whichFirst V_th_value n1 x5 th_isNode th_slot F r6 hM) rfl 0 rfl rfl ⟨rfl, rfl, by decide, by decide⟩ (Nat.le_of_ble_eq_true rfl) [0, 1, 2] rfl (by decide) rfl rfl dX11_packNode_62 [some 0, some 1, some 2, none] (by decide) ⟨⟨rfl, rfl⟩, ⟨⟨rfl, rfl⟩, ⟨⟨rfl, rfl⟩, ⟨rfl, trivial⟩⟩⟩⟩ rfl ?_
      refine b_if_ne (tgt := 74) C dX11_packNode_65 (by decide) hm (fun hm => ?_) (fun hm => ?_)
      · refine b_aload_n C dX11_packNode_74 rfl 0 rfl ?_
        refine gfX11_59 C 0 rfl rfl dX11_packNode_75 ?_
        refine b_iload_n C dX11_packNode_78 rfl 1 rfl ?_
        refine b_iload_n C dX11_packNode_79 rfl 2 rfl ?_
        refine b_iast C 3 rfl dX11_packNode_80 hm (fun f7 hm => Wb.to (w' := [(A_th, oO 10 [V_th_thrown, V_th_text, V_th_textSize, V_th_readPage, V_th_page, V_th_trial, V_th_book, V_th_doings, V_th_kept, V_th_isKept, V_th_seen, V_th_seenPlace, V_th_seenDigit, V_th_seenIs, V_th_seed, V_th_plan, V_th_good, V_th_bad, V_th_signs, V_th_signMany, V_th_digits, .ref A_th_isNode, .ref A_th_base, .ref A_th_slot, V_th_whichMany, V_th_whichFirst, V_th_value]), (A_th_isNode, zA g 343 th_isNode), (A_th_slot, iA g 1600 th_slot), (A_th_base, iA g 343 f7)]) rfl ?_)
        refine b_iconst (v := 1) C dX11_packNode_81 (by decide) ?_
        refine b_istore (lv' := [(4, .int 1), (0, .ref A_th), (1, .int n1), (3, .int x5)]) C dX11_packNode_82 (by decide) rfl ?_
        refine Wb.lv (lv' := [(0, .ref A_th), (1, .int n1), (3, .int x5), (4, .int 1)]) ?_ [1, 2, 3, 0] rfl
        refine wl2_W (Wg := fun (x9 : Int32) (f10 : (Nat → Int32)) => Wb x [(A_th, oO 10 [V_th_thrown, V_th_text, V_th_textSize, V_th_readPage, V_th_page, V_th_trial, V_th_book, V_th_doings, V_th_kept, V_th_isKept, V_th_seen, V_th_seenPlace, V_th_seenDigit, V_th_seenIs, V_th_seed, V_th_plan, V_th_good, V_th_bad, V_th_signs, V_th_signMany, V_th_digits, .ref A_th_isNode, .ref A_th_base, .ref A_th_slot, V_th_whichMany, V_th_whichFirst, V_th_value]), (A_th_isNode, zA g 343 th_isNode), (A_th_slot, iA g 1600 f10), (A_th_base, iA g 343 f7)] [(0, .ref A_th), (1, .int n1), (3, .int x5), (4, .int x9)] 84 []) ?_ F 1 th_slot hm
        intro x9 f10 c8 hc8 hm
        refine b_iload C dX11_packNode_84 3 rfl ?_
        refine b_bipush (v := 7) C dX11_packNode_86 (by decide) ?_
        refine b_icmp_ge (tgt := 141) C dX11_packNode_88 (by decide) hm (fun hm => ?_) (fun hm => ?_)
        · cases hm
          exact b_vret C dX11_packNode_141
        · refine b_bipush (v := 7) C dX11_packNode_91 (by decide) ?_
          refine b_iload_n C dX11_packNode_93 rfl 1 rfl ?_
          refine b_imul C dX11_packNode_94 ?_
          refine b_iload C dX11_packNode_95 3 rfl ?_
          refine b_iadd C dX11_packNode_97 ?_
          refine b_sipush (v := 343) C dX11_packNode_98 (by decide) ?_
          refine b_icmp_ge (tgt := 135) C dX11_packNode_101 (by decide) hm (fun hm => ?_) (fun hm => ?_)
          · refine b_iinc (v2 := x9 + 1) (lv' := [(4, .int (x9 + 1)), (0, .ref A_th), (1, .int n1), (3, .int x5)]) C dX11_packNode_135 3 rfl rfl (by decide) rfl ?_
            refine b_goto (tgt := 84) C dX11_packNode_138 (by decide) ?_
            exact Wb.lv (hc8 (x9 + 1) f10 hm) [1, 2, 3, 0] rfl
          · refine b_aload_n C dX11_packNode_104 rfl 0 rfl ?_
            refine gfX11_56 C 0 rfl rfl dX11_packNode_105 ?_
            refine b_bipush (v := 7) C dX11_packNode_108 (by decide) ?_
            refine b_iload_n C dX11_packNode_110 rfl 1 rfl ?_
            refine b_imul C dX11_packNode_111 ?_
            refine b_iload C dX11_packNode_112 3 rfl ?_
            refine b_iadd C dX11_packNode_114 ?_
            refine b_zald C 1 rfl dX11_packNode_115 hm (fun v11 hm => ?_)
            refine b_if_eq (tgt := 135) C dX11_packNode_116 (by decide) hm (fun hm => ?_) (fun hm => ?_)
            · refine b_iinc (v2 := x9 + 1) (lv' := [(4, .int (x9 + 1)), (0, .ref A_th), (1, .int n1), (3, .int x5)]) C dX11_packNode_135 3 rfl rfl (by decide) rfl ?_
              refine b_goto (tgt := 84) C dX11_packNode_138 (by decide) ?_
              exact Wb.lv (hc8 (x9 + 1) f10 hm) [1, 2, 3, 0] rfl
            · refine b_aload_n C dX11_packNode_119 rfl 0 rfl ?_
              refine gfX11_62 C 0 rfl rfl dX11_packNode_120 ?_
              refine b_iload_n C dX11_packNode_123 rfl 2 rfl ?_
              refine b_iload C dX11_packNode_124 3 rfl ?_
              refine b_iadd C dX11_packNode_126 ?_
              refine b_bipush (v := 7) C dX11_packNode_127 (by decide) ?_
              refine b_iload_n C dX11_packNode_129 rfl 1 rfl ?_
              refine b_imul C dX11_packNode_130 ?_
              refine b_iload C dX11_packNode_131 3 rfl ?_
              refine b_iadd C dX11_packNode_133 ?_
              refine b_iast C 2 rfl dX11_packNode_134 hm (fun f12 hm => Wb.to (w' := [(A_th, oO 10 [V_th_thrown, V_th_text, V_th_textSize, V_th_readPage, V_th_page, V_th_trial, V_th_book, V_th_doings, V_th_kept, V_th_isKept, V_th_seen, V_th_seenPlace, V_th_seenDigit, V_th_seenIs, V_th_seed, V_th_plan, V_th_good, V_th_bad, V_th_signs, V_th_signMany, V_th_digits, .ref A_th_isNode, .ref A_th_base, .ref A_th_slot, V_th_whichMany, V_th_whichFirst, V_th_value]), (A_th_isNode, zA g 343 th_isNode), (A_th_slot, iA g 1600 f12), (A_th_base, iA g 343 f7)]) rfl ?_)
              refine b_iinc (v2 := x9 + 1) (lv' := [(4, .int (x9 + 1)), (0, .ref A_th), (1, .int n1), (3, .int x5)]) C dX11_packNode_135 3 rfl rfl (by decide) rfl ?_
              refine b_goto (tgt := 84) C dX11_packNode_138 (by decide) ?_
              exact Wb.lv (hc8 (x9 + 1) f12 hm) [1, 2, 3, 0] rfl
      · refine b_iinc (v2 := x5 + 1) (lv' := [(3, .int (x5 + 1)), (0, .ref A_th), (1, .int n1)]) C dX11_packNode_68 2 rfl rfl (by decide) rfl ?_
        refine b_goto (tgt := 59) C dX11_packNode_71 (by decide) ?_
        exact Wb.lv (hc4 (x5 + 1) hm) [1, 2, 0] rfl
    · cases hm
      exact b_vret C dX11_packNode_56
  · refine b_iload_n C dX11_packNode_10 rfl 2 rfl ?_
    obtain ⟨k14, hk14, hm⟩ := jn1_some hm
    have jk14 : ∀ (y13 : Int32), k14 y13 = some u → Wb x [(A_th, oO 10 [V_th_thrown, V_th_text, V_th_textSize, V_th_readPage, V_th_page, V_th_trial, V_th_book, V_th_doings, V_th_kept, V_th_isKept, V_th_seen, V_th_seenPlace, V_th_seenDigit, V_th_seenIs, V_th_seed, V_th_plan, V_th_good, V_th_bad, V_th_signs, V_th_signMany, V_th_digits, .ref A_th_isNode, .ref A_th_base, .ref A_th_slot, V_th_whichMany, V_th_whichFirst, V_th_value]), (A_th_isNode, zA g 343 th_isNode), (A_th_slot, iA g 1600 th_slot), (A_th_base, iA g 343 th_base)] [(0, .ref A_th), (1, .int n1), (3, .int x3)] 45 [.int y13] := by
      intro y13 hm
      have hm := hk14 _ hm
      refine b_istore_n (lv' := [(2, .int y13), (0, .ref A_th), (1, .int n1), (3, .int x3)]) C dX11_packNode_45 rfl (by decide) rfl ?_
      refine b_iinc (v2 := x3 + 1) (lv' := [(3, .int (x3 + 1)), (2, .int y13), (0, .ref A_th), (1, .int n1)]) C dX11_packNode_46 3 rfl rfl (by decide) rfl ?_
      refine b_goto (tgt := 4) C dX11_packNode_49 (by decide) ?_
      exact Wb.lv (hc1 y13 (x3 + 1) hm) [2, 3, 1, 0] rfl
    obtain ⟨k15, hk15, hm⟩ := jn0_some hm
    have jk15 : k15  = some u → Wb x [(A_th, oO 10 [V_th_thrown, V_th_text, V_th_textSize, V_th_readPage, V_th_page, V_th_trial, V_th_book, V_th_doings, V_th_kept, V_th_isKept, V_th_seen, V_th_seenPlace, V_th_seenDigit, V_th_seenIs, V_th_seed, V_th_plan, V_th_good, V_th_bad, V_th_signs, V_th_signMany, V_th_digits, .ref A_th_isNode, .ref A_th_base, .ref A_th_slot, V_th_whichMany, V_th_whichFirst, V_th_value]), (A_th_isNode, zA g 343 th_isNode), (A_th_slot, iA g 1600 th_slot), (A_th_base, iA g 343 th_base)] [(0, .ref A_th), (1, .int n1), (3, .int x3)] 40 [] := by
      intro  hm
      have hm := hk15 hm
      refine b_iconst (v := 1) C dX11_packNode_40 (by decide) ?_
      refine b_goto (tgt := 45) C dX11_packNode_41 (by decide) ?_
      exact Wb.lv (jk14 1 hm) [0, 1, 2] rfl
    refine b_if_ne (tgt := 40) C dX11_packNode_11 (by decide) hm (fun hm => ?_) (fun hm => ?_)
    · exact Wb.lv (jk15  hm) [0, 1, 3] rfl
    · refine b_bipush (v := 7) C dX11_packNode_14 (by decide) ?_
      refine b_iload_n C dX11_packNode_16 rfl 1 rfl ?_
      refine b_imul C dX11_packNode_17 ?_
      refine b_iload_n C dX11_packNode_18 rfl 3 rfl ?_
      refine b_iadd C dX11_packNode_19 ?_
      refine b_sipush (v := 343) C dX11_packNode_20 (by decide) ?_
      obtain ⟨k16, hk16, hm⟩ := jn0_some hm
      have jk16 : k16  = some u → Wb x [(A_th, oO 10 [V_th_thrown, V_th_text, V_th_textSize, V_th_readPage, V_th_page, V_th_trial, V_th_book, V_th_doings, V_th_kept, V_th_isKept, V_th_seen, V_th_seenPlace, V_th_seenDigit, V_th_seenIs, V_th_seed, V_th_plan, V_th_good, V_th_bad, V_th_signs, V_th_signMany, V_th_digits, .ref A_th_isNode, .ref A_th_base, .ref A_th_slot, V_th_whichMany, V_th_whichFirst, V_th_value]), (A_th_isNode, zA g 343 th_isNode), (A_th_slot, iA g 1600 th_slot), (A_th_base, iA g 343 th_base)] [(0, .ref A_th), (1, .int n1), (3, .int x3)] 44 [] := by
        intro  hm
        have hm := hk16 hm
        refine b_iconst (v := 0) C dX11_packNode_44 (by decide) ?_
        exact Wb.lv (jk14 0 hm) [0, 1, 2] rfl
      refine b_icmp_ge (tgt := 44) C dX11_packNode_23 (by decide) hm (fun hm => ?_) (fun hm => ?_)
      · exact Wb.lv (jk16  hm) [0, 1, 3] rfl
      · refine b_aload_n C dX11_packNode_26 rfl 0 rfl ?_
        refine gfX11_56 C 0 rfl rfl dX11_packNode_27 ?_
        refine b_bipush (v := 7) C dX11_packNode_30 (by decide) ?_
        refine b_iload_n C dX11_packNode_32 rfl 1 rfl ?_
        refine b_imul C dX11_packNode_33 ?_
        refine b_iload_n C dX11_packNode_34 rfl 3 rfl ?_
        refine b_iadd C dX11_packNode_35 ?_
        refine b_zald C 1 rfl dX11_packNode_36 hm (fun v17 hm => ?_)
        refine b_if_eq (tgt := 44) C dX11_packNode_37 (by decide) hm (fun hm => ?_) (fun hm => ?_)
        · exact Wb.lv (jk16  hm) [0, 1, 3] rfl
        · exact Wb.lv (jk15  hm) [0, 1, 3] rfl
/-- BreakLearnerModel.pack()V -/
def m_X11_pack (F : Nat)   (th_isNode : (Nat → Int32)) (th_base : (Nat → Int32)) (th_plan : (Nat → Int32)) (th_slot : (Nat → Int32)) : Option ((Nat → Int32) × (Nat → Int32) × (Nat → Int32)) :=
  bK2 (m_X11_layNodes F th_isNode th_base th_plan) (fun f1 f2 =>
  wl2 (fun (x4 : Int32) (f5 : (Nat → Int32)) c3 =>
    if 1600 ≤ x4 then
      wl3 (fun (x7 : Int32) (f8 : (Nat → Int32)) (f9 : (Nat → Int32)) c6 =>
        if 343 ≤ x7 then
          some (f1, f8, f9)
        else
          rdK 343 f1 x7 (fun v10 =>
          if v10 = 0 then
            c6 (x7 + 1) f8 f9
          else
            bK2 (m_X11_packNode F x7 f1 f9 f8) (fun f11 f12 =>
            c6 (x7 + 1) f12 f11
            )
          )
        ) F 0 f2 f5
    else
      stK 1600 f5 x4 (-9) (fun f13 =>
      c3 (x4 + 1) f13
      )
    ) F 0 th_slot
  )
abbrev rmX11_pack : Room := { frames := 2, cells := 0, slots := 0, locals := 49 }
set_option maxHeartbeats 4000000 in
set_option maxRecDepth 100000 in
theorem c_X11_pack (l : Launch) (g : Gl) (A_th A_th_isNode A_th_base A_th_plan A_th_slot : Nat) (V_th_thrown V_th_text V_th_textSize V_th_readPage V_th_page V_th_trial V_th_book V_th_doings V_th_kept V_th_isKept V_th_seen V_th_seenPlace V_th_seenDigit V_th_seenIs V_th_seed V_th_good V_th_bad V_th_signs V_th_signMany V_th_digits V_th_whichMany V_th_whichFirst V_th_value : Value)   (th_isNode : (Nat → Int32)) (th_base : (Nat → Int32)) (th_plan : (Nat → Int32)) (th_slot : (Nat → Int32)) (F : Nat) (u : (Nat → Int32) × (Nat → Int32) × (Nat → Int32)) (hm : m_X11_pack F th_isNode th_base th_plan th_slot = some u) : Ct l g yX11_pack cX11_pack 2 none rmX11_pack [.ref A_th] [(A_th, oO 10 [V_th_thrown, V_th_text, V_th_textSize, V_th_readPage, V_th_page, V_th_trial, V_th_book, V_th_doings, V_th_kept, V_th_isKept, V_th_seen, V_th_seenPlace, V_th_seenDigit, V_th_seenIs, V_th_seed, .ref A_th_plan, V_th_good, V_th_bad, V_th_signs, V_th_signMany, V_th_digits, .ref A_th_isNode, .ref A_th_base, .ref A_th_slot, V_th_whichMany, V_th_whichFirst, V_th_value]), (A_th_isNode, zA g 343 th_isNode), (A_th_base, iA g 343 th_base), (A_th_plan, iA g 1372 th_plan), (A_th_slot, iA g 1600 th_slot)] none [(A_th, oO 10 [V_th_thrown, V_th_text, V_th_textSize, V_th_readPage, V_th_page, V_th_trial, V_th_book, V_th_doings, V_th_kept, V_th_isKept, V_th_seen, V_th_seenPlace, V_th_seenDigit, V_th_seenIs, V_th_seed, .ref A_th_plan, V_th_good, V_th_bad, V_th_signs, V_th_signMany, V_th_digits, .ref A_th_isNode, .ref A_th_base, .ref A_th_slot, V_th_whichMany, V_th_whichFirst, V_th_value]), (A_th_isNode, zA g 343 u.1), (A_th_base, iA g 343 u.2.1), (A_th_plan, iA g 1372 th_plan), (A_th_slot, iA g 1600 u.2.2)] := by
  refine ent (own := RX11) (lv := [(0, .ref A_th)]) (by decide) rfl (Nat.le_of_ble_eq_true rfl) rfl rfl ?_
  intro x C
  unfold m_X11_pack at hm
  refine b_aload_n C dX11_pack_0 rfl 0 rfl ?_
  obtain ⟨f1, f2, hM, hm⟩ := bK2_some hm
  refine b_kV (w' := [(A_th, oO 10 [V_th_thrown, V_th_text, V_th_textSize, V_th_readPage, V_th_page, V_th_trial, V_th_book, V_th_doings, V_th_kept, V_th_isKept, V_th_seen, V_th_seenPlace, V_th_seenDigit, V_th_seenIs, V_th_seed, .ref A_th_plan, V_th_good, V_th_bad, V_th_signs, V_th_signMany, V_th_digits, .ref A_th_isNode, .ref A_th_base, .ref A_th_slot, V_th_whichMany, V_th_whichFirst, V_th_value]), (A_th_isNode, zA g 343 f1), (A_th_base, iA g 343 f2), (A_th_plan, iA g 1372 th_plan), (A_th_slot, iA g 1600 th_slot)]) (st := []) (st2 := []) C cv_X11_layNodes tb1012 (c_X11_layNodes l g A_th A_th_isNode A_th_base A_th_plan V_th_thrown V_th_text V_th_textSize V_th_readPage V_th_page V_th_trial V_th_book V_th_doings V_th_kept V_th_isKept V_th_seen V_th_seenPlace V_th_seenDigit V_th_seenIs V_th_seed V_th_good V_th_bad V_th_signs V_th_signMany V_th_digits (.ref A_th_slot) V_th_whichMany V_th_whichFirst V_th_value th_isNode th_base th_plan F (f1, f2) hM) rfl 0 rfl rfl ⟨rfl, rfl, by decide, by decide⟩ (Nat.le_of_ble_eq_true rfl) [0, 1, 2, 3] rfl (by decide) rfl rfl dX11_pack_1 [some 0, some 1, some 2, some 3, none] (by decide) ⟨⟨rfl, rfl⟩, ⟨⟨rfl, rfl⟩, ⟨⟨rfl, rfl⟩, ⟨⟨rfl, rfl⟩, ⟨rfl, trivial⟩⟩⟩⟩⟩ rfl ?_
  refine b_iconst (v := 0) C dX11_pack_4 (by decide) ?_
  refine b_istore_n (lv' := [(1, .int 0), (0, .ref A_th)]) C dX11_pack_5 rfl (by decide) rfl ?_
  refine Wb.lv (lv' := [(0, .ref A_th), (1, .int 0)]) ?_ [1, 0] rfl
  refine wl2_W (Wg := fun (x4 : Int32) (f5 : (Nat → Int32)) => Wb x [(A_th, oO 10 [V_th_thrown, V_th_text, V_th_textSize, V_th_readPage, V_th_page, V_th_trial, V_th_book, V_th_doings, V_th_kept, V_th_isKept, V_th_seen, V_th_seenPlace, V_th_seenDigit, V_th_seenIs, V_th_seed, .ref A_th_plan, V_th_good, V_th_bad, V_th_signs, V_th_signMany, V_th_digits, .ref A_th_isNode, .ref A_th_base, .ref A_th_slot, V_th_whichMany, V_th_whichFirst, V_th_value]), (A_th_isNode, zA g 343 f1), (A_th_base, iA g 343 f2), (A_th_plan, iA g 1372 th_plan), (A_th_slot, iA g 1600 f5)] [(0, .ref A_th), (1, .int x4)] 6 []) ?_ F 0 th_slot hm
  intro x4 f5 c3 hc3 hm
  refine b_iload_n C dX11_pack_6 rfl 1 rfl ?_
  refine b_sipush (v := 1600) C dX11_pack_7 (by decide) ?_
  refine b_icmp_ge (tgt := 27) C dX11_pack_10 (by decide) hm (fun hm => ?_) (fun hm => ?_)
  · refine b_iconst (v := 0) C dX11_pack_27 (by decide) ?_
    refine b_istore_n (lv' := [(1, .int 0), (0, .ref A_th)]) C dX11_pack_28 rfl (by decide) rfl ?_
    refine Wb.lv (lv' := [(0, .ref A_th), (1, .int 0)]) ?_ [1, 0] rfl
    refine wl3_W (Wg := fun (x7 : Int32) (f8 : (Nat → Int32)) (f9 : (Nat → Int32)) => Wb x [(A_th, oO 10 [V_th_thrown, V_th_text, V_th_textSize, V_th_readPage, V_th_page, V_th_trial, V_th_book, V_th_doings, V_th_kept, V_th_isKept, V_th_seen, V_th_seenPlace, V_th_seenDigit, V_th_seenIs, V_th_seed, .ref A_th_plan, V_th_good, V_th_bad, V_th_signs, V_th_signMany, V_th_digits, .ref A_th_isNode, .ref A_th_base, .ref A_th_slot, V_th_whichMany, V_th_whichFirst, V_th_value]), (A_th_isNode, zA g 343 f1), (A_th_base, iA g 343 f8), (A_th_plan, iA g 1372 th_plan), (A_th_slot, iA g 1600 f9)] [(0, .ref A_th), (1, .int x7)] 29 []) ?_ F 0 f2 f5 hm
    intro x7 f8 f9 c6 hc6 hm
    refine b_iload_n C dX11_pack_29 rfl 1 rfl ?_
    refine b_sipush (v := 343) C dX11_pack_30 (by decide) ?_
    refine b_icmp_ge (tgt := 56) C dX11_pack_33 (by decide) hm (fun hm => ?_) (fun hm => ?_)
    · cases hm
      exact b_vret C dX11_pack_56
    · refine b_aload_n C dX11_pack_36 rfl 0 rfl ?_
      refine gfX11_56 C 0 rfl rfl dX11_pack_37 ?_
      refine b_iload_n C dX11_pack_40 rfl 1 rfl ?_
      refine b_zald C 1 rfl dX11_pack_41 hm (fun v10 hm => ?_)
      refine b_if_eq (tgt := 50) C dX11_pack_42 (by decide) hm (fun hm => ?_) (fun hm => ?_)
      · refine b_iinc (v2 := x7 + 1) (lv' := [(1, .int (x7 + 1)), (0, .ref A_th)]) C dX11_pack_50 1 rfl rfl (by decide) rfl ?_
        refine b_goto (tgt := 29) C dX11_pack_53 (by decide) ?_
        exact Wb.lv (hc6 (x7 + 1) f8 f9 hm) [1, 0] rfl
      · refine b_aload_n C dX11_pack_45 rfl 0 rfl ?_
        refine b_iload_n C dX11_pack_46 rfl 1 rfl ?_
        obtain ⟨f11, f12, hM, hm⟩ := bK2_some hm
        refine b_kV (w' := [(A_th, oO 10 [V_th_thrown, V_th_text, V_th_textSize, V_th_readPage, V_th_page, V_th_trial, V_th_book, V_th_doings, V_th_kept, V_th_isKept, V_th_seen, V_th_seenPlace, V_th_seenDigit, V_th_seenIs, V_th_seed, .ref A_th_plan, V_th_good, V_th_bad, V_th_signs, V_th_signMany, V_th_digits, .ref A_th_isNode, .ref A_th_base, .ref A_th_slot, V_th_whichMany, V_th_whichFirst, V_th_value]), (A_th_isNode, zA g 343 f1), (A_th_base, iA g 343 f12), (A_th_plan, iA g 1372 th_plan), (A_th_slot, iA g 1600 f11)]) (st := []) (st2 := []) C cv_X11_packNode tb1016 (c_X11_packNode l g A_th A_th_isNode A_th_slot A_th_base V_th_thrown V_th_text V_th_textSize V_th_readPage V_th_page V_th_trial V_th_book V_th_doings V_th_kept V_th_isKept V_th_seen V_th_seenPlace V_th_seenDigit V_th_seenIs V_th_seed (.ref A_th_plan) V_th_good V_th_bad V_th_signs V_th_signMany V_th_digits V_th_whichMany V_th_whichFirst V_th_value x7 f1 f9 f8 F (f11, f12) hM) rfl 0 rfl rfl ⟨rfl, rfl, by decide, by decide⟩ (Nat.le_of_ble_eq_true rfl) [0, 1, 4, 2] rfl (by decide) rfl rfl dX11_pack_47 [some 0, some 1, some 3, none, some 2] (by decide) ⟨⟨rfl, rfl⟩, ⟨⟨rfl, rfl⟩, ⟨⟨rfl, rfl⟩, ⟨rfl, ⟨⟨rfl, rfl⟩, trivial⟩⟩⟩⟩⟩ rfl ?_
        refine b_iinc (v2 := x7 + 1) (lv' := [(1, .int (x7 + 1)), (0, .ref A_th)]) C dX11_pack_50 1 rfl rfl (by decide) rfl ?_
        refine b_goto (tgt := 29) C dX11_pack_53 (by decide) ?_
        exact Wb.lv (hc6 (x7 + 1) f12 f11 hm) [1, 0] rfl
  · refine b_aload_n C dX11_pack_13 rfl 0 rfl ?_
    refine gfX11_62 C 0 rfl rfl dX11_pack_14 ?_
    refine b_iload_n C dX11_pack_17 rfl 1 rfl ?_
    refine b_bipush (v := (-9)) C dX11_pack_18 (by decide) ?_
    refine b_iast C 4 rfl dX11_pack_20 hm (fun f13 hm => Wb.to (w' := [(A_th, oO 10 [V_th_thrown, V_th_text, V_th_textSize, V_th_readPage, V_th_page, V_th_trial, V_th_book, V_th_doings, V_th_kept, V_th_isKept, V_th_seen, V_th_seenPlace, V_th_seenDigit, V_th_seenIs, V_th_seed, .ref A_th_plan, V_th_good, V_th_bad, V_th_signs, V_th_signMany, V_th_digits, .ref A_th_isNode, .ref A_th_base, .ref A_th_slot, V_th_whichMany, V_th_whichFirst, V_th_value]), (A_th_isNode, zA g 343 f1), (A_th_base, iA g 343 f2), (A_th_plan, iA g 1372 th_plan), (A_th_slot, iA g 1600 f13)]) rfl ?_)
    refine b_iinc (v2 := x4 + 1) (lv' := [(1, .int (x4 + 1)), (0, .ref A_th)]) C dX11_pack_21 1 rfl rfl (by decide) rfl ?_
    refine b_goto (tgt := 6) C dX11_pack_24 (by decide) ?_
    exact Wb.lv (hc3 (x4 + 1) f13 hm) [1, 0] rfl
/-- BreakLearnerModel.nodes()I -/
def m_X11_nodes (F : Nat)   (th_isNode : (Nat → Int32)) : Option (Int32) :=
  wl2 (fun (x2 : Int32) (x3 : Int32) c1 =>
    if 343 ≤ x3 then
      some x2
    else
      rdK 343 th_isNode x3 (fun v4 =>
      jn1 (fun (y5 : Int32) =>
        letK (x2 + y5) (fun x7 =>
        c1 x7 (x3 + 1)
        )
        ) (fun k6 =>
        if v4 = 0 then
          k6 0
        else
          k6 1
        )
      )
    ) F 0 0
abbrev rmX11_nodes : Room := { frames := 0, cells := 0, slots := 0, locals := 0 }
set_option maxHeartbeats 4000000 in
set_option maxRecDepth 100000 in
theorem c_X11_nodes (l : Launch) (g : Gl) (A_th A_th_isNode : Nat) (V_th_thrown V_th_text V_th_textSize V_th_readPage V_th_page V_th_trial V_th_book V_th_doings V_th_kept V_th_isKept V_th_seen V_th_seenPlace V_th_seenDigit V_th_seenIs V_th_seed V_th_plan V_th_good V_th_bad V_th_signs V_th_signMany V_th_digits V_th_base V_th_slot V_th_whichMany V_th_whichFirst V_th_value : Value)   (th_isNode : (Nat → Int32)) (F : Nat) (u : Int32) (hm : m_X11_nodes F th_isNode = some u) : Ct l g yX11_nodes cX11_nodes 3 (some .int) rmX11_nodes [.ref A_th] [(A_th, oO 10 [V_th_thrown, V_th_text, V_th_textSize, V_th_readPage, V_th_page, V_th_trial, V_th_book, V_th_doings, V_th_kept, V_th_isKept, V_th_seen, V_th_seenPlace, V_th_seenDigit, V_th_seenIs, V_th_seed, V_th_plan, V_th_good, V_th_bad, V_th_signs, V_th_signMany, V_th_digits, .ref A_th_isNode, V_th_base, V_th_slot, V_th_whichMany, V_th_whichFirst, V_th_value]), (A_th_isNode, zA g 343 th_isNode)] (some (.int u)) [(A_th, oO 10 [V_th_thrown, V_th_text, V_th_textSize, V_th_readPage, V_th_page, V_th_trial, V_th_book, V_th_doings, V_th_kept, V_th_isKept, V_th_seen, V_th_seenPlace, V_th_seenDigit, V_th_seenIs, V_th_seed, V_th_plan, V_th_good, V_th_bad, V_th_signs, V_th_signMany, V_th_digits, .ref A_th_isNode, V_th_base, V_th_slot, V_th_whichMany, V_th_whichFirst, V_th_value]), (A_th_isNode, zA g 343 th_isNode)] := by
  refine ent (own := RX11) (lv := [(0, .ref A_th)]) (by decide) rfl (Nat.le_of_ble_eq_true rfl) rfl rfl ?_
  intro x C
  unfold m_X11_nodes at hm
  refine b_iconst (v := 0) C dX11_nodes_0 (by decide) ?_
  refine b_istore_n (lv' := [(1, .int 0), (0, .ref A_th)]) C dX11_nodes_1 rfl (by decide) rfl ?_
  refine b_iconst (v := 0) C dX11_nodes_2 (by decide) ?_
  refine b_istore_n (lv' := [(2, .int 0), (1, .int 0), (0, .ref A_th)]) C dX11_nodes_3 rfl (by decide) rfl ?_
  refine Wb.lv (lv' := [(0, .ref A_th), (1, .int 0), (2, .int 0)]) ?_ [2, 1, 0] rfl
  refine wl2_W (Wg := fun (x2 : Int32) (x3 : Int32) => Wb x [(A_th, oO 10 [V_th_thrown, V_th_text, V_th_textSize, V_th_readPage, V_th_page, V_th_trial, V_th_book, V_th_doings, V_th_kept, V_th_isKept, V_th_seen, V_th_seenPlace, V_th_seenDigit, V_th_seenIs, V_th_seed, V_th_plan, V_th_good, V_th_bad, V_th_signs, V_th_signMany, V_th_digits, .ref A_th_isNode, V_th_base, V_th_slot, V_th_whichMany, V_th_whichFirst, V_th_value]), (A_th_isNode, zA g 343 th_isNode)] [(0, .ref A_th), (1, .int x2), (2, .int x3)] 4 []) ?_ F 0 0 hm
  intro x2 x3 c1 hc1 hm
  refine b_iload_n C dX11_nodes_4 rfl 2 rfl ?_
  refine b_sipush (v := 343) C dX11_nodes_5 (by decide) ?_
  refine b_icmp_ge (tgt := 34) C dX11_nodes_8 (by decide) hm (fun hm => ?_) (fun hm => ?_)
  · refine b_iload_n C dX11_nodes_34 rfl 1 rfl ?_
    cases hm
    exact b_iret C dX11_nodes_35
  · refine b_iload_n C dX11_nodes_11 rfl 1 rfl ?_
    refine b_aload_n C dX11_nodes_12 rfl 0 rfl ?_
    refine gfX11_56 C 0 rfl rfl dX11_nodes_13 ?_
    refine b_iload_n C dX11_nodes_16 rfl 2 rfl ?_
    refine b_zald C 1 rfl dX11_nodes_17 hm (fun v4 hm => ?_)
    obtain ⟨k6, hk6, hm⟩ := jn1_some hm
    have jk6 : ∀ (y5 : Int32), k6 y5 = some u → Wb x [(A_th, oO 10 [V_th_thrown, V_th_text, V_th_textSize, V_th_readPage, V_th_page, V_th_trial, V_th_book, V_th_doings, V_th_kept, V_th_isKept, V_th_seen, V_th_seenPlace, V_th_seenDigit, V_th_seenIs, V_th_seed, V_th_plan, V_th_good, V_th_bad, V_th_signs, V_th_signMany, V_th_digits, .ref A_th_isNode, V_th_base, V_th_slot, V_th_whichMany, V_th_whichFirst, V_th_value]), (A_th_isNode, zA g 343 th_isNode)] [(0, .ref A_th), (2, .int x3)] 26 [.int y5, .int x2] := by
      intro y5 hm
      have hm := hk6 _ hm
      refine b_iadd C dX11_nodes_26 ?_
      refine b_topi hm (fun x7 hm => ?_)
      refine b_istore_n (lv' := [(1, .int x7), (0, .ref A_th), (2, .int x3)]) C dX11_nodes_27 rfl (by decide) rfl ?_
      refine b_iinc (v2 := x3 + 1) (lv' := [(2, .int (x3 + 1)), (1, .int x7), (0, .ref A_th)]) C dX11_nodes_28 2 rfl rfl (by decide) rfl ?_
      refine b_goto (tgt := 4) C dX11_nodes_31 (by decide) ?_
      exact Wb.lv (hc1 x7 (x3 + 1) hm) [2, 1, 0] rfl
    refine b_if_eq (tgt := 25) C dX11_nodes_18 (by decide) hm (fun hm => ?_) (fun hm => ?_)
    · refine b_iconst (v := 0) C dX11_nodes_25 (by decide) ?_
      exact Wb.lv (jk6 0 hm) [0, 2] rfl
    · refine b_iconst (v := 1) C dX11_nodes_21 (by decide) ?_
      refine b_goto (tgt := 26) C dX11_nodes_22 (by decide) ?_
      exact Wb.lv (jk6 1 hm) [0, 2] rfl
/-- BreakLearnerModel.slots()I -/
def m_X11_slots (F : Nat)   (th_slot : (Nat → Int32)) : Option (Int32) :=
  wl2 (fun (x2 : Int32) (x3 : Int32) c1 =>
    if 1600 ≤ x3 then
      some x2
    else
      rdK 1600 th_slot x3 (fun v4 =>
      jn1 (fun (y5 : Int32) =>
        c1 y5 (x3 + 1)
        ) (fun k6 =>
        if v4 = (-9) then
          k6 x2
        else
          k6 (x3 + 1)
        )
      )
    ) F 0 0
abbrev rmX11_slots : Room := { frames := 0, cells := 0, slots := 0, locals := 0 }
set_option maxHeartbeats 4000000 in
set_option maxRecDepth 100000 in
theorem c_X11_slots (l : Launch) (g : Gl) (A_th A_th_slot : Nat) (V_th_thrown V_th_text V_th_textSize V_th_readPage V_th_page V_th_trial V_th_book V_th_doings V_th_kept V_th_isKept V_th_seen V_th_seenPlace V_th_seenDigit V_th_seenIs V_th_seed V_th_plan V_th_good V_th_bad V_th_signs V_th_signMany V_th_digits V_th_isNode V_th_base V_th_whichMany V_th_whichFirst V_th_value : Value)   (th_slot : (Nat → Int32)) (F : Nat) (u : Int32) (hm : m_X11_slots F th_slot = some u) : Ct l g yX11_slots cX11_slots 3 (some .int) rmX11_slots [.ref A_th] [(A_th, oO 10 [V_th_thrown, V_th_text, V_th_textSize, V_th_readPage, V_th_page, V_th_trial, V_th_book, V_th_doings, V_th_kept, V_th_isKept, V_th_seen, V_th_seenPlace, V_th_seenDigit, V_th_seenIs, V_th_seed, V_th_plan, V_th_good, V_th_bad, V_th_signs, V_th_signMany, V_th_digits, V_th_isNode, V_th_base, .ref A_th_slot, V_th_whichMany, V_th_whichFirst, V_th_value]), (A_th_slot, iA g 1600 th_slot)] (some (.int u)) [(A_th, oO 10 [V_th_thrown, V_th_text, V_th_textSize, V_th_readPage, V_th_page, V_th_trial, V_th_book, V_th_doings, V_th_kept, V_th_isKept, V_th_seen, V_th_seenPlace, V_th_seenDigit, V_th_seenIs, V_th_seed, V_th_plan, V_th_good, V_th_bad, V_th_signs, V_th_signMany, V_th_digits, V_th_isNode, V_th_base, .ref A_th_slot, V_th_whichMany, V_th_whichFirst, V_th_value]), (A_th_slot, iA g 1600 th_slot)] := by
  refine ent (own := RX11) (lv := [(0, .ref A_th)]) (by decide) rfl (Nat.le_of_ble_eq_true rfl) rfl rfl ?_
  intro x C
  unfold m_X11_slots at hm
  refine b_iconst (v := 0) C dX11_slots_0 (by decide) ?_
  refine b_istore_n (lv' := [(1, .int 0), (0, .ref A_th)]) C dX11_slots_1 rfl (by decide) rfl ?_
  refine b_iconst (v := 0) C dX11_slots_2 (by decide) ?_
  refine b_istore_n (lv' := [(2, .int 0), (1, .int 0), (0, .ref A_th)]) C dX11_slots_3 rfl (by decide) rfl ?_
  refine Wb.lv (lv' := [(0, .ref A_th), (1, .int 0), (2, .int 0)]) ?_ [2, 1, 0] rfl
  refine wl2_W (Wg := fun (x2 : Int32) (x3 : Int32) => Wb x [(A_th, oO 10 [V_th_thrown, V_th_text, V_th_textSize, V_th_readPage, V_th_page, V_th_trial, V_th_book, V_th_doings, V_th_kept, V_th_isKept, V_th_seen, V_th_seenPlace, V_th_seenDigit, V_th_seenIs, V_th_seed, V_th_plan, V_th_good, V_th_bad, V_th_signs, V_th_signMany, V_th_digits, V_th_isNode, V_th_base, .ref A_th_slot, V_th_whichMany, V_th_whichFirst, V_th_value]), (A_th_slot, iA g 1600 th_slot)] [(0, .ref A_th), (1, .int x2), (2, .int x3)] 4 []) ?_ F 0 0 hm
  intro x2 x3 c1 hc1 hm
  refine b_iload_n C dX11_slots_4 rfl 2 rfl ?_
  refine b_sipush (v := 1600) C dX11_slots_5 (by decide) ?_
  refine b_icmp_ge (tgt := 36) C dX11_slots_8 (by decide) hm (fun hm => ?_) (fun hm => ?_)
  · refine b_iload_n C dX11_slots_36 rfl 1 rfl ?_
    cases hm
    exact b_iret C dX11_slots_37
  · refine b_aload_n C dX11_slots_11 rfl 0 rfl ?_
    refine gfX11_62 C 0 rfl rfl dX11_slots_12 ?_
    refine b_iload_n C dX11_slots_15 rfl 2 rfl ?_
    refine b_iald C 1 rfl dX11_slots_16 hm (fun v4 hm => ?_)
    refine b_bipush (v := (-9)) C dX11_slots_17 (by decide) ?_
    obtain ⟨k6, hk6, hm⟩ := jn1_some hm
    have jk6 : ∀ (y5 : Int32), k6 y5 = some u → Wb x [(A_th, oO 10 [V_th_thrown, V_th_text, V_th_textSize, V_th_readPage, V_th_page, V_th_trial, V_th_book, V_th_doings, V_th_kept, V_th_isKept, V_th_seen, V_th_seenPlace, V_th_seenDigit, V_th_seenIs, V_th_seed, V_th_plan, V_th_good, V_th_bad, V_th_signs, V_th_signMany, V_th_digits, V_th_isNode, V_th_base, .ref A_th_slot, V_th_whichMany, V_th_whichFirst, V_th_value]), (A_th_slot, iA g 1600 th_slot)] [(0, .ref A_th), (2, .int x3)] 29 [.int y5] := by
      intro y5 hm
      have hm := hk6 _ hm
      refine b_istore_n (lv' := [(1, .int y5), (0, .ref A_th), (2, .int x3)]) C dX11_slots_29 rfl (by decide) rfl ?_
      refine b_iinc (v2 := x3 + 1) (lv' := [(2, .int (x3 + 1)), (1, .int y5), (0, .ref A_th)]) C dX11_slots_30 2 rfl rfl (by decide) rfl ?_
      refine b_goto (tgt := 4) C dX11_slots_33 (by decide) ?_
      exact Wb.lv (hc1 y5 (x3 + 1) hm) [2, 1, 0] rfl
    refine b_icmp_ne (tgt := 26) C dX11_slots_19 (by decide) hm (fun hm => ?_) (fun hm => ?_)
    · refine b_iload_n C dX11_slots_26 rfl 2 rfl ?_
      refine b_iconst (v := 1) C dX11_slots_27 (by decide) ?_
      refine b_iadd C dX11_slots_28 ?_
      exact Wb.lv (jk6 (x3 + 1) hm) [0, 2] rfl
    · refine b_iload_n C dX11_slots_22 rfl 1 rfl ?_
      refine b_goto (tgt := 29) C dX11_slots_23 (by decide) ?_
      exact Wb.lv (jk6 x2 hm) [0, 2] rfl
/-- BreakLearnerModel.about(I)I -/
def m_X11_about (F : Nat)  (n1 : Int32) (th_thrown : Int32) (th_textSize : Int32) (th_doings : Int32) (th_seen : Int32) (th_signMany : Int32) (th_page : (Nat → Int32)) (th_plan : (Nat → Int32)) (th_signs : (Nat → Int32)) (th_digits : (Nat → Int32)) (th_good : (Nat → Int32)) (th_bad : (Nat → Int32)) (th_isNode : (Nat → Int32)) (th_base : (Nat → Int32)) (th_slot : (Nat → Int32)) : Option (Int32 × Int32 × Int32 × (Nat → Int32) × (Nat → Int32) × (Nat → Int32) × (Nat → Int32) × (Nat → Int32) × (Nat → Int32) × (Nat → Int32) × (Nat → Int32)) :=
  bK6 (m_X11_learnAll F th_signMany th_page th_plan th_signs th_digits th_good th_bad) (fun z1 f2 f3 f4 f5 f6 =>
  bK3 (m_X11_pack F th_isNode th_base f2 th_slot) (fun f7 f8 f9 =>
  if n1 = 0 then
    rdK 22 th_page 0 (fun v10 =>
    some (v10, 0, z1, f2, f3, f4, f5, f6, f7, f8, f9)
    )
  else
    if n1 = 1 then
      bK1 (m_X11_placesOf F th_page) (fun r12 =>
      some (r12, 0, z1, f2, f3, f4, f5, f6, f7, f8, f9)
      )
    else
      if n1 = 2 then
        bK1 (m_X11_rightOfAll F th_page f4) (fun r14 =>
        some (r14, 0, z1, f2, f3, f4, f5, f6, f7, f8, f9)
        )
      else
        if n1 = 3 then
          rdK 22 th_page 21 (fun v16 =>
          some (v16, 0, z1, f2, f3, f4, f5, f6, f7, f8, f9)
          )
        else
          if n1 = 4 then
            bK1 (m_X11_patternsOf F 0 f2) (fun r18 =>
            some (r18, 0, z1, f2, f3, f4, f5, f6, f7, f8, f9)
            )
          else
            if n1 = 5 then
              bK1 (m_X11_wrongWords F th_page f4) (fun r20 =>
              some (r20, 0, z1, f2, f3, f4, f5, f6, f7, f8, f9)
              )
            else
              if n1 = 6 then
                bK1 (m_X11_nodes F f7) (fun r22 =>
                some (r22, 0, z1, f2, f3, f4, f5, f6, f7, f8, f9)
                )
              else
                if n1 = 7 then
                  bK1 (m_X11_slots F f9) (fun r24 =>
                  some (r24, 0, z1, f2, f3, f4, f5, f6, f7, f8, f9)
                  )
                else
                  if n1 = 8 then
                    some (th_doings, 0, z1, f2, f3, f4, f5, f6, f7, f8, f9)
                  else
                    if n1 = 9 then
                      some (th_seen, 0, z1, f2, f3, f4, f5, f6, f7, f8, f9)
                    else
                      if n1 = 10 then
                        some (th_textSize, 0, z1, f2, f3, f4, f5, f6, f7, f8, f9)
                      else
                        some ((-2), 0, z1, f2, f3, f4, f5, f6, f7, f8, f9)
  )
  )
abbrev rmX11_about : Room := { frames := 6, cells := 0, slots := 0, locals := 149 }
set_option maxHeartbeats 4000000 in
set_option maxRecDepth 100000 in
theorem c_X11_about (l : Launch) (g : Gl) (A_th A_th_page A_th_plan A_th_signs A_th_digits A_th_good A_th_bad A_th_isNode A_th_base A_th_slot : Nat) (V_th_text V_th_readPage V_th_trial V_th_book V_th_kept V_th_isKept V_th_seenPlace V_th_seenDigit V_th_seenIs V_th_seed V_th_whichMany V_th_whichFirst V_th_value : Value)  (n1 : Int32) (th_thrown : Int32) (th_textSize : Int32) (th_doings : Int32) (th_seen : Int32) (th_signMany : Int32) (th_page : (Nat → Int32)) (th_plan : (Nat → Int32)) (th_signs : (Nat → Int32)) (th_digits : (Nat → Int32)) (th_good : (Nat → Int32)) (th_bad : (Nat → Int32)) (th_isNode : (Nat → Int32)) (th_base : (Nat → Int32)) (th_slot : (Nat → Int32)) (F : Nat) (u : Int32 × Int32 × Int32 × (Nat → Int32) × (Nat → Int32) × (Nat → Int32) × (Nat → Int32) × (Nat → Int32) × (Nat → Int32) × (Nat → Int32) × (Nat → Int32)) (hm : m_X11_about F n1 th_thrown th_textSize th_doings th_seen th_signMany th_page th_plan th_signs th_digits th_good th_bad th_isNode th_base th_slot = some u) : Ct l g yX11_about cX11_about 2 (some .int) rmX11_about [.ref A_th, .int n1] [(A_th, oO 10 [.int th_thrown, V_th_text, .int th_textSize, V_th_readPage, .ref A_th_page, V_th_trial, V_th_book, .int th_doings, V_th_kept, V_th_isKept, .int th_seen, V_th_seenPlace, V_th_seenDigit, V_th_seenIs, V_th_seed, .ref A_th_plan, .ref A_th_good, .ref A_th_bad, .ref A_th_signs, .int th_signMany, .ref A_th_digits, .ref A_th_isNode, .ref A_th_base, .ref A_th_slot, V_th_whichMany, V_th_whichFirst, V_th_value]), (A_th_page, iA g 22 th_page), (A_th_plan, iA g 1372 th_plan), (A_th_signs, iA g 8 th_signs), (A_th_digits, iA g 36 th_digits), (A_th_good, iA g 1372 th_good), (A_th_bad, iA g 1372 th_bad), (A_th_isNode, zA g 343 th_isNode), (A_th_base, iA g 343 th_base), (A_th_slot, iA g 1600 th_slot)] (some (.int u.1)) [(A_th, oO 10 [.int u.2.1, V_th_text, .int th_textSize, V_th_readPage, .ref A_th_page, V_th_trial, V_th_book, .int th_doings, V_th_kept, V_th_isKept, .int th_seen, V_th_seenPlace, V_th_seenDigit, V_th_seenIs, V_th_seed, .ref A_th_plan, .ref A_th_good, .ref A_th_bad, .ref A_th_signs, .int u.2.2.1, .ref A_th_digits, .ref A_th_isNode, .ref A_th_base, .ref A_th_slot, V_th_whichMany, V_th_whichFirst, V_th_value]), (A_th_page, iA g 22 th_page), (A_th_plan, iA g 1372 u.2.2.2.1), (A_th_signs, iA g 8 u.2.2.2.2.1), (A_th_digits, iA g 36 u.2.2.2.2.2.1), (A_th_good, iA g 1372 u.2.2.2.2.2.2.1), (A_th_bad, iA g 1372 u.2.2.2.2.2.2.2.1), (A_th_isNode, zA g 343 u.2.2.2.2.2.2.2.2.1), (A_th_base, iA g 343 u.2.2.2.2.2.2.2.2.2.1), (A_th_slot, iA g 1600 u.2.2.2.2.2.2.2.2.2.2)] := by
  refine ent (own := RX11) (lv := [(0, .ref A_th), (1, .int n1)]) (by decide) rfl (Nat.le_of_ble_eq_true rfl) rfl rfl ?_
  intro x C
  unfold m_X11_about at hm
  refine b_aload_n C dX11_about_0 rfl 0 rfl ?_
  refine b_iconst (v := 0) C dX11_about_1 (by decide) ?_
  refine pfX11_68 (w' := [(A_th, oO 10 [.int 0, V_th_text, .int th_textSize, V_th_readPage, .ref A_th_page, V_th_trial, V_th_book, .int th_doings, V_th_kept, V_th_isKept, .int th_seen, V_th_seenPlace, V_th_seenDigit, V_th_seenIs, V_th_seed, .ref A_th_plan, .ref A_th_good, .ref A_th_bad, .ref A_th_signs, .int th_signMany, .ref A_th_digits, .ref A_th_isNode, .ref A_th_base, .ref A_th_slot, V_th_whichMany, V_th_whichFirst, V_th_value]), (A_th_page, iA g 22 th_page), (A_th_plan, iA g 1372 th_plan), (A_th_signs, iA g 8 th_signs), (A_th_digits, iA g 36 th_digits), (A_th_good, iA g 1372 th_good), (A_th_bad, iA g 1372 th_bad), (A_th_isNode, zA g 343 th_isNode), (A_th_base, iA g 343 th_base), (A_th_slot, iA g 1600 th_slot)]) C rfl rfl 0 rfl (Nat.le_of_ble_eq_true rfl) dX11_about_2 rfl ?_
  refine b_aload_n C dX11_about_5 rfl 0 rfl ?_
  refine b_aload_n C dX11_about_6 rfl 0 rfl ?_
  refine gfX11_16 C 0 rfl rfl dX11_about_7 ?_
  obtain ⟨z1, f2, f3, f4, f5, f6, hM, hm⟩ := bK6_some hm
  refine b_kV (w' := [(A_th, oO 10 [.int 0, V_th_text, .int th_textSize, V_th_readPage, .ref A_th_page, V_th_trial, V_th_book, .int th_doings, V_th_kept, V_th_isKept, .int th_seen, V_th_seenPlace, V_th_seenDigit, V_th_seenIs, V_th_seed, .ref A_th_plan, .ref A_th_good, .ref A_th_bad, .ref A_th_signs, .int z1, .ref A_th_digits, .ref A_th_isNode, .ref A_th_base, .ref A_th_slot, V_th_whichMany, V_th_whichFirst, V_th_value]), (A_th_page, iA g 22 th_page), (A_th_plan, iA g 1372 f2), (A_th_signs, iA g 8 f3), (A_th_digits, iA g 36 f4), (A_th_good, iA g 1372 f5), (A_th_bad, iA g 1372 f6), (A_th_isNode, zA g 343 th_isNode), (A_th_base, iA g 343 th_base), (A_th_slot, iA g 1600 th_slot)]) (st := []) (st2 := []) C cv_X11_learnAll tb963 (c_X11_learnAll l g A_th A_th_page A_th_plan A_th_signs A_th_digits A_th_good A_th_bad (.int 0) V_th_text (.int th_textSize) V_th_readPage (.ref A_th_page) V_th_trial V_th_book (.int th_doings) V_th_kept V_th_isKept (.int th_seen) V_th_seenPlace V_th_seenDigit V_th_seenIs V_th_seed (.ref A_th_isNode) (.ref A_th_base) (.ref A_th_slot) V_th_whichMany V_th_whichFirst V_th_value th_signMany th_page th_plan th_signs th_digits th_good th_bad F (z1, f2, f3, f4, f5, f6) hM) rfl 0 rfl rfl ⟨rfl, rfl, by decide, by decide⟩ (Nat.le_of_ble_eq_true rfl) [0, 1, 2, 3, 4, 5, 6] rfl (by decide) rfl rfl dX11_about_10 [some 0, some 1, some 2, some 3, some 4, some 5, some 6, none, none, none] (by decide) ⟨⟨rfl, rfl⟩, ⟨⟨rfl, rfl⟩, ⟨⟨rfl, rfl⟩, ⟨⟨rfl, rfl⟩, ⟨⟨rfl, rfl⟩, ⟨⟨rfl, rfl⟩, ⟨⟨rfl, rfl⟩, ⟨rfl, ⟨rfl, ⟨rfl, trivial⟩⟩⟩⟩⟩⟩⟩⟩⟩⟩ rfl ?_
  refine b_aload_n C dX11_about_13 rfl 0 rfl ?_
  obtain ⟨f7, f8, f9, hM, hm⟩ := bK3_some hm
  refine b_kV (w' := [(A_th, oO 10 [.int 0, V_th_text, .int th_textSize, V_th_readPage, .ref A_th_page, V_th_trial, V_th_book, .int th_doings, V_th_kept, V_th_isKept, .int th_seen, V_th_seenPlace, V_th_seenDigit, V_th_seenIs, V_th_seed, .ref A_th_plan, .ref A_th_good, .ref A_th_bad, .ref A_th_signs, .int z1, .ref A_th_digits, .ref A_th_isNode, .ref A_th_base, .ref A_th_slot, V_th_whichMany, V_th_whichFirst, V_th_value]), (A_th_page, iA g 22 th_page), (A_th_plan, iA g 1372 f2), (A_th_signs, iA g 8 f3), (A_th_digits, iA g 36 f4), (A_th_good, iA g 1372 f5), (A_th_bad, iA g 1372 f6), (A_th_isNode, zA g 343 f7), (A_th_base, iA g 343 f8), (A_th_slot, iA g 1600 f9)]) (st := []) (st2 := []) C cv_X11_pack tb1008 (c_X11_pack l g A_th A_th_isNode A_th_base A_th_plan A_th_slot (.int 0) V_th_text (.int th_textSize) V_th_readPage (.ref A_th_page) V_th_trial V_th_book (.int th_doings) V_th_kept V_th_isKept (.int th_seen) V_th_seenPlace V_th_seenDigit V_th_seenIs V_th_seed (.ref A_th_good) (.ref A_th_bad) (.ref A_th_signs) (.int z1) (.ref A_th_digits) V_th_whichMany V_th_whichFirst V_th_value th_isNode th_base f2 th_slot F (f7, f8, f9) hM) rfl 0 rfl rfl ⟨rfl, rfl, by decide, by decide⟩ (Nat.le_of_ble_eq_true rfl) [0, 7, 8, 2, 9] rfl (by decide) rfl rfl dX11_about_14 [some 0, none, some 3, none, none, none, none, some 1, some 2, some 4] (by decide) ⟨⟨rfl, rfl⟩, ⟨rfl, ⟨⟨rfl, rfl⟩, ⟨rfl, ⟨rfl, ⟨rfl, ⟨rfl, ⟨⟨rfl, rfl⟩, ⟨⟨rfl, rfl⟩, ⟨⟨rfl, rfl⟩, trivial⟩⟩⟩⟩⟩⟩⟩⟩⟩⟩ rfl ?_
  refine b_iload_n C dX11_about_17 rfl 1 rfl ?_
  rcases sw_some hm with ⟨h11, hm⟩ | ⟨h11, hm⟩
  · refine b_tin (tgt := 76) C h11 dX11_about_18 (by decide) (by decide) rfl (by decide) ?_
    refine b_aload_n C dX11_about_76 rfl 0 rfl ?_
    refine gfX11_16 C 0 rfl rfl dX11_about_77 ?_
    refine b_iconst (v := 0) C dX11_about_80 (by decide) ?_
    refine b_iald C 1 rfl dX11_about_81 hm (fun v10 hm => ?_)
    cases hm
    exact b_iret C dX11_about_82
  · rcases sw_some hm with ⟨h13, hm⟩ | ⟨h13, hm⟩
    · refine b_tin (tgt := 83) C h13 dX11_about_18 (by decide) (by decide) rfl (by decide) ?_
      refine b_aload_n C dX11_about_83 rfl 0 rfl ?_
      refine gfX11_16 C 0 rfl rfl dX11_about_84 ?_
      obtain ⟨r12, hM, hm⟩ := bK1_some hm
      refine b_kS (w' := [(A_th, oO 10 [.int 0, V_th_text, .int th_textSize, V_th_readPage, .ref A_th_page, V_th_trial, V_th_book, .int th_doings, V_th_kept, V_th_isKept, .int th_seen, V_th_seenPlace, V_th_seenDigit, V_th_seenIs, V_th_seed, .ref A_th_plan, .ref A_th_good, .ref A_th_bad, .ref A_th_signs, .int z1, .ref A_th_digits, .ref A_th_isNode, .ref A_th_base, .ref A_th_slot, V_th_whichMany, V_th_whichFirst, V_th_value]), (A_th_page, iA g 22 th_page), (A_th_plan, iA g 1372 f2), (A_th_signs, iA g 8 f3), (A_th_digits, iA g 36 f4), (A_th_good, iA g 1372 f5), (A_th_bad, iA g 1372 f6), (A_th_isNode, zA g 343 f7), (A_th_base, iA g 343 f8), (A_th_slot, iA g 1600 f9)]) (st := []) (st2 := [.int r12]) C cs_X11_placesOf tb1024 (c_X11_placesOf l g A_th_page th_page F r12 hM) rfl ⟨rfl, rfl, by decide, by decide⟩ (Nat.le_of_ble_eq_true rfl) [1] rfl (by decide) rfl rfl dX11_about_87 [none, some 0, none, none, none, none, none, none, none, none] (by decide) ⟨rfl, ⟨⟨rfl, rfl⟩, ⟨rfl, ⟨rfl, ⟨rfl, ⟨rfl, ⟨rfl, ⟨rfl, ⟨rfl, ⟨rfl, trivial⟩⟩⟩⟩⟩⟩⟩⟩⟩⟩ rfl ?_
      cases hm
      exact b_iret C dX11_about_90
    · rcases sw_some hm with ⟨h15, hm⟩ | ⟨h15, hm⟩
      · refine b_tin (tgt := 91) C h15 dX11_about_18 (by decide) (by decide) rfl (by decide) ?_
        refine b_aload_n C dX11_about_91 rfl 0 rfl ?_
        refine b_aload_n C dX11_about_92 rfl 0 rfl ?_
        refine gfX11_16 C 0 rfl rfl dX11_about_93 ?_
        obtain ⟨r14, hM, hm⟩ := bK1_some hm
        refine b_kV (w' := [(A_th, oO 10 [.int 0, V_th_text, .int th_textSize, V_th_readPage, .ref A_th_page, V_th_trial, V_th_book, .int th_doings, V_th_kept, V_th_isKept, .int th_seen, V_th_seenPlace, V_th_seenDigit, V_th_seenIs, V_th_seed, .ref A_th_plan, .ref A_th_good, .ref A_th_bad, .ref A_th_signs, .int z1, .ref A_th_digits, .ref A_th_isNode, .ref A_th_base, .ref A_th_slot, V_th_whichMany, V_th_whichFirst, V_th_value]), (A_th_page, iA g 22 th_page), (A_th_plan, iA g 1372 f2), (A_th_signs, iA g 8 f3), (A_th_digits, iA g 36 f4), (A_th_good, iA g 1372 f5), (A_th_bad, iA g 1372 f6), (A_th_isNode, zA g 343 f7), (A_th_base, iA g 343 f8), (A_th_slot, iA g 1600 f9)]) (st := []) (st2 := [.int r14]) C cv_X11_rightOfAll tb1027 (c_X11_rightOfAll l g A_th A_th_page A_th_digits (.int 0) V_th_text (.int th_textSize) V_th_readPage (.ref A_th_page) V_th_trial V_th_book (.int th_doings) V_th_kept V_th_isKept (.int th_seen) V_th_seenPlace V_th_seenDigit V_th_seenIs V_th_seed (.ref A_th_plan) (.ref A_th_good) (.ref A_th_bad) (.ref A_th_signs) (.int z1) (.ref A_th_isNode) (.ref A_th_base) (.ref A_th_slot) V_th_whichMany V_th_whichFirst V_th_value th_page f4 F r14 hM) rfl 0 rfl rfl ⟨rfl, rfl, by decide, by decide⟩ (Nat.le_of_ble_eq_true rfl) [0, 1, 4] rfl (by decide) rfl rfl dX11_about_96 [some 0, some 1, none, none, some 2, none, none, none, none, none] (by decide) ⟨⟨rfl, rfl⟩, ⟨⟨rfl, rfl⟩, ⟨rfl, ⟨rfl, ⟨⟨rfl, rfl⟩, ⟨rfl, ⟨rfl, ⟨rfl, ⟨rfl, ⟨rfl, trivial⟩⟩⟩⟩⟩⟩⟩⟩⟩⟩ rfl ?_
        cases hm
        exact b_iret C dX11_about_99
      · rcases sw_some hm with ⟨h17, hm⟩ | ⟨h17, hm⟩
        · refine b_tin (tgt := 100) C h17 dX11_about_18 (by decide) (by decide) rfl (by decide) ?_
          refine b_aload_n C dX11_about_100 rfl 0 rfl ?_
          refine gfX11_16 C 0 rfl rfl dX11_about_101 ?_
          refine b_bipush (v := 21) C dX11_about_104 (by decide) ?_
          refine b_iald C 1 rfl dX11_about_106 hm (fun v16 hm => ?_)
          cases hm
          exact b_iret C dX11_about_107
        · rcases sw_some hm with ⟨h19, hm⟩ | ⟨h19, hm⟩
          · refine b_tin (tgt := 108) C h19 dX11_about_18 (by decide) (by decide) rfl (by decide) ?_
            refine b_aload_n C dX11_about_108 rfl 0 rfl ?_
            refine b_iconst (v := 0) C dX11_about_109 (by decide) ?_
            obtain ⟨r18, hM, hm⟩ := bK1_some hm
            refine b_kV (w' := [(A_th, oO 10 [.int 0, V_th_text, .int th_textSize, V_th_readPage, .ref A_th_page, V_th_trial, V_th_book, .int th_doings, V_th_kept, V_th_isKept, .int th_seen, V_th_seenPlace, V_th_seenDigit, V_th_seenIs, V_th_seed, .ref A_th_plan, .ref A_th_good, .ref A_th_bad, .ref A_th_signs, .int z1, .ref A_th_digits, .ref A_th_isNode, .ref A_th_base, .ref A_th_slot, V_th_whichMany, V_th_whichFirst, V_th_value]), (A_th_page, iA g 22 th_page), (A_th_plan, iA g 1372 f2), (A_th_signs, iA g 8 f3), (A_th_digits, iA g 36 f4), (A_th_good, iA g 1372 f5), (A_th_bad, iA g 1372 f6), (A_th_isNode, zA g 343 f7), (A_th_base, iA g 343 f8), (A_th_slot, iA g 1600 f9)]) (st := []) (st2 := [.int r18]) C cv_X11_patternsOf tb1039 (c_X11_patternsOf l g A_th A_th_plan (.int 0) V_th_text (.int th_textSize) V_th_readPage (.ref A_th_page) V_th_trial V_th_book (.int th_doings) V_th_kept V_th_isKept (.int th_seen) V_th_seenPlace V_th_seenDigit V_th_seenIs V_th_seed (.ref A_th_good) (.ref A_th_bad) (.ref A_th_signs) (.int z1) (.ref A_th_digits) (.ref A_th_isNode) (.ref A_th_base) (.ref A_th_slot) V_th_whichMany V_th_whichFirst V_th_value 0 f2 F r18 hM) rfl 0 rfl rfl ⟨rfl, rfl, by decide, by decide⟩ (Nat.le_of_ble_eq_true rfl) [0, 2] rfl (by decide) rfl rfl dX11_about_110 [some 0, none, some 1, none, none, none, none, none, none, none] (by decide) ⟨⟨rfl, rfl⟩, ⟨rfl, ⟨⟨rfl, rfl⟩, ⟨rfl, ⟨rfl, ⟨rfl, ⟨rfl, ⟨rfl, ⟨rfl, ⟨rfl, trivial⟩⟩⟩⟩⟩⟩⟩⟩⟩⟩ rfl ?_
            cases hm
            exact b_iret C dX11_about_113
          · rcases sw_some hm with ⟨h21, hm⟩ | ⟨h21, hm⟩
            · refine b_tin (tgt := 114) C h21 dX11_about_18 (by decide) (by decide) rfl (by decide) ?_
              refine b_aload_n C dX11_about_114 rfl 0 rfl ?_
              obtain ⟨r20, hM, hm⟩ := bK1_some hm
              refine b_kV (w' := [(A_th, oO 10 [.int 0, V_th_text, .int th_textSize, V_th_readPage, .ref A_th_page, V_th_trial, V_th_book, .int th_doings, V_th_kept, V_th_isKept, .int th_seen, V_th_seenPlace, V_th_seenDigit, V_th_seenIs, V_th_seed, .ref A_th_plan, .ref A_th_good, .ref A_th_bad, .ref A_th_signs, .int z1, .ref A_th_digits, .ref A_th_isNode, .ref A_th_base, .ref A_th_slot, V_th_whichMany, V_th_whichFirst, V_th_value]), (A_th_page, iA g 22 th_page), (A_th_plan, iA g 1372 f2), (A_th_signs, iA g 8 f3), (A_th_digits, iA g 36 f4), (A_th_good, iA g 1372 f5), (A_th_bad, iA g 1372 f6), (A_th_isNode, zA g 343 f7), (A_th_base, iA g 343 f8), (A_th_slot, iA g 1600 f9)]) (st := []) (st2 := [.int r20]) C cv_X11_wrongWords tb1043 (c_X11_wrongWords l g A_th A_th_page A_th_digits (.int 0) V_th_text (.int th_textSize) V_th_readPage V_th_trial V_th_book (.int th_doings) V_th_kept V_th_isKept (.int th_seen) V_th_seenPlace V_th_seenDigit V_th_seenIs V_th_seed (.ref A_th_plan) (.ref A_th_good) (.ref A_th_bad) (.ref A_th_signs) (.int z1) (.ref A_th_isNode) (.ref A_th_base) (.ref A_th_slot) V_th_whichMany V_th_whichFirst V_th_value th_page f4 F r20 hM) rfl 0 rfl rfl ⟨rfl, rfl, by decide, by decide⟩ (Nat.le_of_ble_eq_true rfl) [0, 1, 4] rfl (by decide) rfl rfl dX11_about_115 [some 0, some 1, none, none, some 2, none, none, none, none, none] (by decide) ⟨⟨rfl, rfl⟩, ⟨⟨rfl, rfl⟩, ⟨rfl, ⟨rfl, ⟨⟨rfl, rfl⟩, ⟨rfl, ⟨rfl, ⟨rfl, ⟨rfl, ⟨rfl, trivial⟩⟩⟩⟩⟩⟩⟩⟩⟩⟩ rfl ?_
              cases hm
              exact b_iret C dX11_about_118
            · rcases sw_some hm with ⟨h23, hm⟩ | ⟨h23, hm⟩
              · refine b_tin (tgt := 119) C h23 dX11_about_18 (by decide) (by decide) rfl (by decide) ?_
                refine b_aload_n C dX11_about_119 rfl 0 rfl ?_
                obtain ⟨r22, hM, hm⟩ := bK1_some hm
                refine b_kV (w' := [(A_th, oO 10 [.int 0, V_th_text, .int th_textSize, V_th_readPage, .ref A_th_page, V_th_trial, V_th_book, .int th_doings, V_th_kept, V_th_isKept, .int th_seen, V_th_seenPlace, V_th_seenDigit, V_th_seenIs, V_th_seed, .ref A_th_plan, .ref A_th_good, .ref A_th_bad, .ref A_th_signs, .int z1, .ref A_th_digits, .ref A_th_isNode, .ref A_th_base, .ref A_th_slot, V_th_whichMany, V_th_whichFirst, V_th_value]), (A_th_page, iA g 22 th_page), (A_th_plan, iA g 1372 f2), (A_th_signs, iA g 8 f3), (A_th_digits, iA g 36 f4), (A_th_good, iA g 1372 f5), (A_th_bad, iA g 1372 f6), (A_th_isNode, zA g 343 f7), (A_th_base, iA g 343 f8), (A_th_slot, iA g 1600 f9)]) (st := []) (st2 := [.int r22]) C cv_X11_nodes tb1047 (c_X11_nodes l g A_th A_th_isNode (.int 0) V_th_text (.int th_textSize) V_th_readPage (.ref A_th_page) V_th_trial V_th_book (.int th_doings) V_th_kept V_th_isKept (.int th_seen) V_th_seenPlace V_th_seenDigit V_th_seenIs V_th_seed (.ref A_th_plan) (.ref A_th_good) (.ref A_th_bad) (.ref A_th_signs) (.int z1) (.ref A_th_digits) (.ref A_th_base) (.ref A_th_slot) V_th_whichMany V_th_whichFirst V_th_value f7 F r22 hM) rfl 0 rfl rfl ⟨rfl, rfl, by decide, by decide⟩ (Nat.le_of_ble_eq_true rfl) [0, 7] rfl (by decide) rfl rfl dX11_about_120 [some 0, none, none, none, none, none, none, some 1, none, none] (by decide) ⟨⟨rfl, rfl⟩, ⟨rfl, ⟨rfl, ⟨rfl, ⟨rfl, ⟨rfl, ⟨rfl, ⟨⟨rfl, rfl⟩, ⟨rfl, ⟨rfl, trivial⟩⟩⟩⟩⟩⟩⟩⟩⟩⟩ rfl ?_
                cases hm
                exact b_iret C dX11_about_123
              · rcases sw_some hm with ⟨h25, hm⟩ | ⟨h25, hm⟩
                · refine b_tin (tgt := 124) C h25 dX11_about_18 (by decide) (by decide) rfl (by decide) ?_
                  refine b_aload_n C dX11_about_124 rfl 0 rfl ?_
                  obtain ⟨r24, hM, hm⟩ := bK1_some hm
                  refine b_kV (w' := [(A_th, oO 10 [.int 0, V_th_text, .int th_textSize, V_th_readPage, .ref A_th_page, V_th_trial, V_th_book, .int th_doings, V_th_kept, V_th_isKept, .int th_seen, V_th_seenPlace, V_th_seenDigit, V_th_seenIs, V_th_seed, .ref A_th_plan, .ref A_th_good, .ref A_th_bad, .ref A_th_signs, .int z1, .ref A_th_digits, .ref A_th_isNode, .ref A_th_base, .ref A_th_slot, V_th_whichMany, V_th_whichFirst, V_th_value]), (A_th_page, iA g 22 th_page), (A_th_plan, iA g 1372 f2), (A_th_signs, iA g 8 f3), (A_th_digits, iA g 36 f4), (A_th_good, iA g 1372 f5), (A_th_bad, iA g 1372 f6), (A_th_isNode, zA g 343 f7), (A_th_base, iA g 343 f8), (A_th_slot, iA g 1600 f9)]) (st := []) (st2 := [.int r24]) C cv_X11_slots tb1051 (c_X11_slots l g A_th A_th_slot (.int 0) V_th_text (.int th_textSize) V_th_readPage (.ref A_th_page) V_th_trial V_th_book (.int th_doings) V_th_kept V_th_isKept (.int th_seen) V_th_seenPlace V_th_seenDigit V_th_seenIs V_th_seed (.ref A_th_plan) (.ref A_th_good) (.ref A_th_bad) (.ref A_th_signs) (.int z1) (.ref A_th_digits) (.ref A_th_isNode) (.ref A_th_base) V_th_whichMany V_th_whichFirst V_th_value f9 F r24 hM) rfl 0 rfl rfl ⟨rfl, rfl, by decide, by decide⟩ (Nat.le_of_ble_eq_true rfl) [0, 9] rfl (by decide) rfl rfl dX11_about_125 [some 0, none, none, none, none, none, none, none, none, some 1] (by decide) ⟨⟨rfl, rfl⟩, ⟨rfl, ⟨rfl, ⟨rfl, ⟨rfl, ⟨rfl, ⟨rfl, ⟨rfl, ⟨rfl, ⟨⟨rfl, rfl⟩, trivial⟩⟩⟩⟩⟩⟩⟩⟩⟩⟩ rfl ?_
                  cases hm
                  exact b_iret C dX11_about_128
                · rcases sw_some hm with ⟨h26, hm⟩ | ⟨h26, hm⟩
                  · refine b_tin (tgt := 129) C h26 dX11_about_18 (by decide) (by decide) rfl (by decide) ?_
                    refine b_aload_n C dX11_about_129 rfl 0 rfl ?_
                    refine gfX11_99 C 0 rfl rfl dX11_about_130 ?_
                    cases hm
                    exact b_iret C dX11_about_133
                  · rcases sw_some hm with ⟨h27, hm⟩ | ⟨h27, hm⟩
                    · refine b_tin (tgt := 134) C h27 dX11_about_18 (by decide) (by decide) rfl (by decide) ?_
                      refine b_aload_n C dX11_about_134 rfl 0 rfl ?_
                      refine gfX11_186 C 0 rfl rfl dX11_about_135 ?_
                      cases hm
                      exact b_iret C dX11_about_138
                    · rcases sw_some hm with ⟨h28, hm⟩ | ⟨h28, hm⟩
                      · refine b_tin (tgt := 139) C h28 dX11_about_18 (by decide) (by decide) rfl (by decide) ?_
                        refine b_aload_n C dX11_about_139 rfl 0 rfl ?_
                        refine gfX11_86 C 0 rfl rfl dX11_about_140 ?_
                        cases hm
                        exact b_iret C dX11_about_143
                      · refine b_tout (tgt := 144) C dX11_about_18 (by have := lv_neT h11 (a := 0) (by decide); have := lv_neT h13 (a := 1) (by decide); have := lv_neT h15 (a := 2) (by decide); have := lv_neT h17 (a := 3) (by decide); have := lv_neT h19 (a := 4) (by decide); have := lv_neT h21 (a := 5) (by decide); have := lv_neT h23 (a := 6) (by decide); have := lv_neT h25 (a := 7) (by decide); have := lv_neT h26 (a := 8) (by decide); have := lv_neT h27 (a := 9) (by decide); have := lv_neT h28 (a := 10) (by decide); omega) (by decide) ?_
                        refine b_bipush (v := (-2)) C dX11_about_144 (by decide) ?_
                        cases hm
                        exact b_iret C dX11_about_146
/-- BreakLearnerModel.word(II)I -/
def m_X11_word (F : Nat)  (n1 : Int32) (n2 : Int32) (th_thrown : Int32) (th_signMany : Int32) (th_page : (Nat → Int32)) (th_plan : (Nat → Int32)) (th_signs : (Nat → Int32)) (th_digits : (Nat → Int32)) (th_good : (Nat → Int32)) (th_bad : (Nat → Int32)) : Option (Int32 × Int32 × Int32 × (Nat → Int32) × (Nat → Int32) × (Nat → Int32) × (Nat → Int32) × (Nat → Int32)) :=
  bK1 (m_X11_noWord F n1 th_page) (fun r1 =>
  if r1 = 0 then
    bK6 (m_X11_learnAll F th_signMany th_page th_plan th_signs th_digits th_good th_bad) (fun z2 f3 f4 f5 f6 f7 =>
    wl2 (fun (x9 : Int32) (x10 : Int32) c8 =>
      rdK 22 th_page (1 + n1) (fun v11 =>
      bK1 (m_X11_length F v11) (fun r12 =>
      if (r12 - 1) ≤ x10 then
        if n2 = 0 then
          rdK 22 th_page (1 + n1) (fun v14 =>
          some (v14, 0, z2, f3, f4, f5, f6, f7)
          )
        else
          if n2 = 1 then
            rdK 22 th_page (7 + n1) (fun v13 =>
            some (v13, 0, z2, f3, f4, f5, f6, f7)
            )
          else
            if n2 = 2 then
              some (x9, 0, z2, f3, f4, f5, f6, f7)
            else
              some ((-2), 0, z2, f3, f4, f5, f6, f7)
      else
        rdK 36 f5 ((6 * n1) + x10) (fun v15 =>
        jn1 (fun (y16 : Int32) =>
          letK (x9 ||| y16) (fun x18 =>
          c8 x18 (x10 + 1)
          )
          ) (fun k17 =>
          if (irm v15 2) = 1 then
            k17 (1 <<< (x10 &&& 31))
          else
            k17 0
          )
        )
      )
      )
      ) F 0 0
    )
  else
    some ((-1), 0, th_signMany, th_plan, th_signs, th_digits, th_good, th_bad)
  )
abbrev rmX11_word : Room := { frames := 6, cells := 0, slots := 0, locals := 149 }
set_option maxHeartbeats 4000000 in
set_option maxRecDepth 100000 in
theorem c_X11_word (l : Launch) (g : Gl) (A_th A_th_page A_th_plan A_th_signs A_th_digits A_th_good A_th_bad : Nat) (V_th_text V_th_textSize V_th_readPage V_th_trial V_th_book V_th_doings V_th_kept V_th_isKept V_th_seen V_th_seenPlace V_th_seenDigit V_th_seenIs V_th_seed V_th_isNode V_th_base V_th_slot V_th_whichMany V_th_whichFirst V_th_value : Value)  (n1 : Int32) (n2 : Int32) (th_thrown : Int32) (th_signMany : Int32) (th_page : (Nat → Int32)) (th_plan : (Nat → Int32)) (th_signs : (Nat → Int32)) (th_digits : (Nat → Int32)) (th_good : (Nat → Int32)) (th_bad : (Nat → Int32)) (F : Nat) (u : Int32 × Int32 × Int32 × (Nat → Int32) × (Nat → Int32) × (Nat → Int32) × (Nat → Int32) × (Nat → Int32)) (hm : m_X11_word F n1 n2 th_thrown th_signMany th_page th_plan th_signs th_digits th_good th_bad = some u) : Ct l g yX11_word cX11_word 5 (some .int) rmX11_word [.ref A_th, .int n1, .int n2] [(A_th, oO 10 [.int th_thrown, V_th_text, V_th_textSize, V_th_readPage, .ref A_th_page, V_th_trial, V_th_book, V_th_doings, V_th_kept, V_th_isKept, V_th_seen, V_th_seenPlace, V_th_seenDigit, V_th_seenIs, V_th_seed, .ref A_th_plan, .ref A_th_good, .ref A_th_bad, .ref A_th_signs, .int th_signMany, .ref A_th_digits, V_th_isNode, V_th_base, V_th_slot, V_th_whichMany, V_th_whichFirst, V_th_value]), (A_th_page, iA g 22 th_page), (A_th_plan, iA g 1372 th_plan), (A_th_signs, iA g 8 th_signs), (A_th_digits, iA g 36 th_digits), (A_th_good, iA g 1372 th_good), (A_th_bad, iA g 1372 th_bad)] (some (.int u.1)) [(A_th, oO 10 [.int u.2.1, V_th_text, V_th_textSize, V_th_readPage, .ref A_th_page, V_th_trial, V_th_book, V_th_doings, V_th_kept, V_th_isKept, V_th_seen, V_th_seenPlace, V_th_seenDigit, V_th_seenIs, V_th_seed, .ref A_th_plan, .ref A_th_good, .ref A_th_bad, .ref A_th_signs, .int u.2.2.1, .ref A_th_digits, V_th_isNode, V_th_base, V_th_slot, V_th_whichMany, V_th_whichFirst, V_th_value]), (A_th_page, iA g 22 th_page), (A_th_plan, iA g 1372 u.2.2.2.1), (A_th_signs, iA g 8 u.2.2.2.2.1), (A_th_digits, iA g 36 u.2.2.2.2.2.1), (A_th_good, iA g 1372 u.2.2.2.2.2.2.1), (A_th_bad, iA g 1372 u.2.2.2.2.2.2.2)] := by
  refine ent (own := RX11) (lv := [(0, .ref A_th), (1, .int n1), (2, .int n2)]) (by decide) rfl (Nat.le_of_ble_eq_true rfl) rfl rfl ?_
  intro x C
  unfold m_X11_word at hm
  refine b_aload_n C dX11_word_0 rfl 0 rfl ?_
  refine b_iconst (v := 0) C dX11_word_1 (by decide) ?_
  refine pfX11_68 (w' := [(A_th, oO 10 [.int 0, V_th_text, V_th_textSize, V_th_readPage, .ref A_th_page, V_th_trial, V_th_book, V_th_doings, V_th_kept, V_th_isKept, V_th_seen, V_th_seenPlace, V_th_seenDigit, V_th_seenIs, V_th_seed, .ref A_th_plan, .ref A_th_good, .ref A_th_bad, .ref A_th_signs, .int th_signMany, .ref A_th_digits, V_th_isNode, V_th_base, V_th_slot, V_th_whichMany, V_th_whichFirst, V_th_value]), (A_th_page, iA g 22 th_page), (A_th_plan, iA g 1372 th_plan), (A_th_signs, iA g 8 th_signs), (A_th_digits, iA g 36 th_digits), (A_th_good, iA g 1372 th_good), (A_th_bad, iA g 1372 th_bad)]) C rfl rfl 0 rfl (Nat.le_of_ble_eq_true rfl) dX11_word_2 rfl ?_
  refine b_aload_n C dX11_word_5 rfl 0 rfl ?_
  refine b_iload_n C dX11_word_6 rfl 1 rfl ?_
  obtain ⟨r1, hM, hm⟩ := bK1_some hm
  refine b_kV (w' := [(A_th, oO 10 [.int 0, V_th_text, V_th_textSize, V_th_readPage, .ref A_th_page, V_th_trial, V_th_book, V_th_doings, V_th_kept, V_th_isKept, V_th_seen, V_th_seenPlace, V_th_seenDigit, V_th_seenIs, V_th_seed, .ref A_th_plan, .ref A_th_good, .ref A_th_bad, .ref A_th_signs, .int th_signMany, .ref A_th_digits, V_th_isNode, V_th_base, V_th_slot, V_th_whichMany, V_th_whichFirst, V_th_value]), (A_th_page, iA g 22 th_page), (A_th_plan, iA g 1372 th_plan), (A_th_signs, iA g 8 th_signs), (A_th_digits, iA g 36 th_digits), (A_th_good, iA g 1372 th_good), (A_th_bad, iA g 1372 th_bad)]) (st := []) (st2 := [.int r1]) C cv_X11_noWord tb1059 (c_X11_noWord l g A_th A_th_page (.int 0) V_th_text V_th_textSize V_th_readPage V_th_trial V_th_book V_th_doings V_th_kept V_th_isKept V_th_seen V_th_seenPlace V_th_seenDigit V_th_seenIs V_th_seed (.ref A_th_plan) (.ref A_th_good) (.ref A_th_bad) (.ref A_th_signs) (.int th_signMany) (.ref A_th_digits) V_th_isNode V_th_base V_th_slot V_th_whichMany V_th_whichFirst V_th_value n1 th_page F r1 hM) rfl 0 rfl rfl ⟨rfl, rfl, by decide, by decide⟩ (Nat.le_of_ble_eq_true rfl) [0, 1] rfl (by decide) rfl rfl dX11_word_7 [some 0, some 1, none, none, none, none, none] (by decide) ⟨⟨rfl, rfl⟩, ⟨⟨rfl, rfl⟩, ⟨rfl, ⟨rfl, ⟨rfl, ⟨rfl, ⟨rfl, trivial⟩⟩⟩⟩⟩⟩⟩ rfl ?_
  refine b_if_eq (tgt := 15) C dX11_word_10 (by decide) hm (fun hm => ?_) (fun hm => ?_)
  · refine b_aload_n C dX11_word_15 rfl 0 rfl ?_
    refine b_aload_n C dX11_word_16 rfl 0 rfl ?_
    refine gfX11_16 C 0 rfl rfl dX11_word_17 ?_
    obtain ⟨z2, f3, f4, f5, f6, f7, hM, hm⟩ := bK6_some hm
    refine b_kV (w' := [(A_th, oO 10 [.int 0, V_th_text, V_th_textSize, V_th_readPage, .ref A_th_page, V_th_trial, V_th_book, V_th_doings, V_th_kept, V_th_isKept, V_th_seen, V_th_seenPlace, V_th_seenDigit, V_th_seenIs, V_th_seed, .ref A_th_plan, .ref A_th_good, .ref A_th_bad, .ref A_th_signs, .int z2, .ref A_th_digits, V_th_isNode, V_th_base, V_th_slot, V_th_whichMany, V_th_whichFirst, V_th_value]), (A_th_page, iA g 22 th_page), (A_th_plan, iA g 1372 f3), (A_th_signs, iA g 8 f4), (A_th_digits, iA g 36 f5), (A_th_good, iA g 1372 f6), (A_th_bad, iA g 1372 f7)]) (st := []) (st2 := []) C cv_X11_learnAll tb963 (c_X11_learnAll l g A_th A_th_page A_th_plan A_th_signs A_th_digits A_th_good A_th_bad (.int 0) V_th_text V_th_textSize V_th_readPage (.ref A_th_page) V_th_trial V_th_book V_th_doings V_th_kept V_th_isKept V_th_seen V_th_seenPlace V_th_seenDigit V_th_seenIs V_th_seed V_th_isNode V_th_base V_th_slot V_th_whichMany V_th_whichFirst V_th_value th_signMany th_page th_plan th_signs th_digits th_good th_bad F (z2, f3, f4, f5, f6, f7) hM) rfl 0 rfl rfl ⟨rfl, rfl, by decide, by decide⟩ (Nat.le_of_ble_eq_true rfl) [0, 1, 2, 3, 4, 5, 6] rfl (by decide) rfl rfl dX11_word_20 [some 0, some 1, some 2, some 3, some 4, some 5, some 6] (by decide) ⟨⟨rfl, rfl⟩, ⟨⟨rfl, rfl⟩, ⟨⟨rfl, rfl⟩, ⟨⟨rfl, rfl⟩, ⟨⟨rfl, rfl⟩, ⟨⟨rfl, rfl⟩, ⟨⟨rfl, rfl⟩, trivial⟩⟩⟩⟩⟩⟩⟩ rfl ?_
    refine b_iconst (v := 0) C dX11_word_23 (by decide) ?_
    refine b_istore_n (lv' := [(3, .int 0), (0, .ref A_th), (1, .int n1), (2, .int n2)]) C dX11_word_24 rfl (by decide) rfl ?_
    refine b_iconst (v := 0) C dX11_word_25 (by decide) ?_
    refine b_istore (lv' := [(4, .int 0), (3, .int 0), (0, .ref A_th), (1, .int n1), (2, .int n2)]) C dX11_word_26 (by decide) rfl ?_
    refine Wb.lv (lv' := [(0, .ref A_th), (1, .int n1), (2, .int n2), (3, .int 0), (4, .int 0)]) ?_ [2, 3, 4, 1, 0] rfl
    refine wl2_W (Wg := fun (x9 : Int32) (x10 : Int32) => Wb x [(A_th, oO 10 [.int 0, V_th_text, V_th_textSize, V_th_readPage, .ref A_th_page, V_th_trial, V_th_book, V_th_doings, V_th_kept, V_th_isKept, V_th_seen, V_th_seenPlace, V_th_seenDigit, V_th_seenIs, V_th_seed, .ref A_th_plan, .ref A_th_good, .ref A_th_bad, .ref A_th_signs, .int z2, .ref A_th_digits, V_th_isNode, V_th_base, V_th_slot, V_th_whichMany, V_th_whichFirst, V_th_value]), (A_th_page, iA g 22 th_page), (A_th_plan, iA g 1372 f3), (A_th_signs, iA g 8 f4), (A_th_digits, iA g 36 f5), (A_th_good, iA g 1372 f6), (A_th_bad, iA g 1372 f7)] [(0, .ref A_th), (1, .int n1), (2, .int n2), (3, .int x9), (4, .int x10)] 28 []) ?_ F 0 0 hm
    intro x9 x10 c8 hc8 hm
    refine b_iload C dX11_word_28 4 rfl ?_
    refine b_aload_n C dX11_word_30 rfl 0 rfl ?_
    refine gfX11_16 C 0 rfl rfl dX11_word_31 ?_
    refine b_iconst (v := 1) C dX11_word_34 (by decide) ?_
    refine b_iload_n C dX11_word_35 rfl 1 rfl ?_
    refine b_iadd C dX11_word_36 ?_
    refine b_iald C 1 rfl dX11_word_37 hm (fun v11 hm => ?_)
    obtain ⟨r12, hM, hm⟩ := bK1_some hm
    refine b_kS (w' := [(A_th, oO 10 [.int 0, V_th_text, V_th_textSize, V_th_readPage, .ref A_th_page, V_th_trial, V_th_book, V_th_doings, V_th_kept, V_th_isKept, V_th_seen, V_th_seenPlace, V_th_seenDigit, V_th_seenIs, V_th_seed, .ref A_th_plan, .ref A_th_good, .ref A_th_bad, .ref A_th_signs, .int z2, .ref A_th_digits, V_th_isNode, V_th_base, V_th_slot, V_th_whichMany, V_th_whichFirst, V_th_value]), (A_th_page, iA g 22 th_page), (A_th_plan, iA g 1372 f3), (A_th_signs, iA g 8 f4), (A_th_digits, iA g 36 f5), (A_th_good, iA g 1372 f6), (A_th_bad, iA g 1372 f7)]) (st := [.int x10]) (st2 := [.int r12, .int x10]) C cs_X11_length tb979 (c_X11_length l g v11 F r12 hM) rfl ⟨rfl, rfl, by decide, by decide⟩ (Nat.le_of_ble_eq_true rfl) [] rfl (by decide) rfl rfl dX11_word_38 [none, none, none, none, none, none, none] (by decide) ⟨rfl, ⟨rfl, ⟨rfl, ⟨rfl, ⟨rfl, ⟨rfl, ⟨rfl, trivial⟩⟩⟩⟩⟩⟩⟩ rfl ?_
    refine b_iconst (v := 1) C dX11_word_41 (by decide) ?_
    refine b_isub C dX11_word_42 ?_
    refine b_icmp_ge (tgt := 81) C dX11_word_43 (by decide) hm (fun hm => ?_) (fun hm => ?_)
    · refine b_iload_n C dX11_word_81 rfl 2 rfl ?_
      refine b_if_ne (tgt := 96) C dX11_word_82 (by decide) hm (fun hm => ?_) (fun hm => ?_)
      · refine b_iload_n C dX11_word_96 rfl 2 rfl ?_
        refine b_iconst (v := 1) C dX11_word_97 (by decide) ?_
        refine b_icmp_ne (tgt := 113) C dX11_word_98 (by decide) hm (fun hm => ?_) (fun hm => ?_)
        · refine b_iload_n C dX11_word_113 rfl 2 rfl ?_
          refine b_iconst (v := 2) C dX11_word_114 (by decide) ?_
          refine b_icmp_ne (tgt := 122) C dX11_word_115 (by decide) hm (fun hm => ?_) (fun hm => ?_)
          · refine b_bipush (v := (-2)) C dX11_word_122 (by decide) ?_
            cases hm
            exact b_iret C dX11_word_124
          · refine b_iload_n C dX11_word_118 rfl 3 rfl ?_
            refine b_goto (tgt := 124) C dX11_word_119 (by decide) ?_
            cases hm
            exact b_iret C dX11_word_124
        · refine b_aload_n C dX11_word_101 rfl 0 rfl ?_
          refine gfX11_16 C 0 rfl rfl dX11_word_102 ?_
          refine b_bipush (v := 7) C dX11_word_105 (by decide) ?_
          refine b_iload_n C dX11_word_107 rfl 1 rfl ?_
          refine b_iadd C dX11_word_108 ?_
          refine b_iald C 1 rfl dX11_word_109 hm (fun v13 hm => ?_)
          refine b_goto (tgt := 124) C dX11_word_110 (by decide) ?_
          cases hm
          exact b_iret C dX11_word_124
      · refine b_aload_n C dX11_word_85 rfl 0 rfl ?_
        refine gfX11_16 C 0 rfl rfl dX11_word_86 ?_
        refine b_iconst (v := 1) C dX11_word_89 (by decide) ?_
        refine b_iload_n C dX11_word_90 rfl 1 rfl ?_
        refine b_iadd C dX11_word_91 ?_
        refine b_iald C 1 rfl dX11_word_92 hm (fun v14 hm => ?_)
        refine b_goto (tgt := 124) C dX11_word_93 (by decide) ?_
        cases hm
        exact b_iret C dX11_word_124
    · refine b_iload_n C dX11_word_46 rfl 3 rfl ?_
      refine b_aload_n C dX11_word_47 rfl 0 rfl ?_
      refine gfX11_53 C 0 rfl rfl dX11_word_48 ?_
      refine b_bipush (v := 6) C dX11_word_51 (by decide) ?_
      refine b_iload_n C dX11_word_53 rfl 1 rfl ?_
      refine b_imul C dX11_word_54 ?_
      refine b_iload C dX11_word_55 4 rfl ?_
      refine b_iadd C dX11_word_57 ?_
      refine b_iald C 4 rfl dX11_word_58 hm (fun v15 hm => ?_)
      refine b_iconst (v := 2) C dX11_word_59 (by decide) ?_
      refine b_irem C dX11_word_60 (by decide) ?_
      refine b_iconst (v := 1) C dX11_word_61 (by decide) ?_
      obtain ⟨k17, hk17, hm⟩ := jn1_some hm
      have jk17 : ∀ (y16 : Int32), k17 y16 = some u → Wb x [(A_th, oO 10 [.int 0, V_th_text, V_th_textSize, V_th_readPage, .ref A_th_page, V_th_trial, V_th_book, V_th_doings, V_th_kept, V_th_isKept, V_th_seen, V_th_seenPlace, V_th_seenDigit, V_th_seenIs, V_th_seed, .ref A_th_plan, .ref A_th_good, .ref A_th_bad, .ref A_th_signs, .int z2, .ref A_th_digits, V_th_isNode, V_th_base, V_th_slot, V_th_whichMany, V_th_whichFirst, V_th_value]), (A_th_page, iA g 22 th_page), (A_th_plan, iA g 1372 f3), (A_th_signs, iA g 8 f4), (A_th_digits, iA g 36 f5), (A_th_good, iA g 1372 f6), (A_th_bad, iA g 1372 f7)] [(0, .ref A_th), (1, .int n1), (2, .int n2), (4, .int x10)] 73 [.int y16, .int x9] := by
        intro y16 hm
        have hm := hk17 _ hm
        refine b_ior C dX11_word_73 ?_
        refine b_topi hm (fun x18 hm => ?_)
        refine b_istore_n (lv' := [(3, .int x18), (0, .ref A_th), (1, .int n1), (2, .int n2), (4, .int x10)]) C dX11_word_74 rfl (by decide) rfl ?_
        refine b_iinc (v2 := x10 + 1) (lv' := [(4, .int (x10 + 1)), (3, .int x18), (0, .ref A_th), (1, .int n1), (2, .int n2)]) C dX11_word_75 4 rfl rfl (by decide) rfl ?_
        refine b_goto (tgt := 28) C dX11_word_78 (by decide) ?_
        exact Wb.lv (hc8 x18 (x10 + 1) hm) [2, 3, 4, 1, 0] rfl
      refine b_icmp_ne (tgt := 72) C dX11_word_62 (by decide) hm (fun hm => ?_) (fun hm => ?_)
      · refine b_iconst (v := 0) C dX11_word_72 (by decide) ?_
        exact Wb.lv (jk17 0 hm) [0, 1, 2, 4] rfl
      · refine b_iconst (v := 1) C dX11_word_65 (by decide) ?_
        refine b_iload C dX11_word_66 4 rfl ?_
        refine b_ishl C dX11_word_68 ?_
        refine b_goto (tgt := 73) C dX11_word_69 (by decide) ?_
        exact Wb.lv (jk17 (1 <<< (x10 &&& 31)) hm) [0, 1, 2, 4] rfl
  · refine b_iconst (v := (-1)) C dX11_word_13 (by decide) ?_
    cases hm
    exact b_iret C dX11_word_14
/-- BreakLearnerModel.digit(II)I -/
def m_X11_digit (F : Nat)  (n1 : Int32) (n2 : Int32) (th_thrown : Int32) (th_signMany : Int32) (th_page : (Nat → Int32)) (th_plan : (Nat → Int32)) (th_signs : (Nat → Int32)) (th_digits : (Nat → Int32)) (th_good : (Nat → Int32)) (th_bad : (Nat → Int32)) : Option (Int32 × Int32 × Int32 × (Nat → Int32) × (Nat → Int32) × (Nat → Int32) × (Nat → Int32) × (Nat → Int32)) :=
  bK1 (m_X11_noPlace F n1 n2 th_page) (fun r1 =>
  if r1 = 0 then
    bK6 (m_X11_learnAll F th_signMany th_page th_plan th_signs th_digits th_good th_bad) (fun z2 f3 f4 f5 f6 f7 =>
    rdK 36 f5 ((6 * n1) + n2) (fun v8 =>
    some (v8, 0, z2, f3, f4, f5, f6, f7)
    )
    )
  else
    some ((-1), 0, th_signMany, th_plan, th_signs, th_digits, th_good, th_bad)
  )
abbrev rmX11_digit : Room := { frames := 6, cells := 0, slots := 0, locals := 149 }
set_option maxHeartbeats 4000000 in
set_option maxRecDepth 100000 in
theorem c_X11_digit (l : Launch) (g : Gl) (A_th A_th_page A_th_plan A_th_signs A_th_digits A_th_good A_th_bad : Nat) (V_th_text V_th_textSize V_th_readPage V_th_trial V_th_book V_th_doings V_th_kept V_th_isKept V_th_seen V_th_seenPlace V_th_seenDigit V_th_seenIs V_th_seed V_th_isNode V_th_base V_th_slot V_th_whichMany V_th_whichFirst V_th_value : Value)  (n1 : Int32) (n2 : Int32) (th_thrown : Int32) (th_signMany : Int32) (th_page : (Nat → Int32)) (th_plan : (Nat → Int32)) (th_signs : (Nat → Int32)) (th_digits : (Nat → Int32)) (th_good : (Nat → Int32)) (th_bad : (Nat → Int32)) (F : Nat) (u : Int32 × Int32 × Int32 × (Nat → Int32) × (Nat → Int32) × (Nat → Int32) × (Nat → Int32) × (Nat → Int32)) (hm : m_X11_digit F n1 n2 th_thrown th_signMany th_page th_plan th_signs th_digits th_good th_bad = some u) : Ct l g yX11_digit cX11_digit 3 (some .int) rmX11_digit [.ref A_th, .int n1, .int n2] [(A_th, oO 10 [.int th_thrown, V_th_text, V_th_textSize, V_th_readPage, .ref A_th_page, V_th_trial, V_th_book, V_th_doings, V_th_kept, V_th_isKept, V_th_seen, V_th_seenPlace, V_th_seenDigit, V_th_seenIs, V_th_seed, .ref A_th_plan, .ref A_th_good, .ref A_th_bad, .ref A_th_signs, .int th_signMany, .ref A_th_digits, V_th_isNode, V_th_base, V_th_slot, V_th_whichMany, V_th_whichFirst, V_th_value]), (A_th_page, iA g 22 th_page), (A_th_plan, iA g 1372 th_plan), (A_th_signs, iA g 8 th_signs), (A_th_digits, iA g 36 th_digits), (A_th_good, iA g 1372 th_good), (A_th_bad, iA g 1372 th_bad)] (some (.int u.1)) [(A_th, oO 10 [.int u.2.1, V_th_text, V_th_textSize, V_th_readPage, .ref A_th_page, V_th_trial, V_th_book, V_th_doings, V_th_kept, V_th_isKept, V_th_seen, V_th_seenPlace, V_th_seenDigit, V_th_seenIs, V_th_seed, .ref A_th_plan, .ref A_th_good, .ref A_th_bad, .ref A_th_signs, .int u.2.2.1, .ref A_th_digits, V_th_isNode, V_th_base, V_th_slot, V_th_whichMany, V_th_whichFirst, V_th_value]), (A_th_page, iA g 22 th_page), (A_th_plan, iA g 1372 u.2.2.2.1), (A_th_signs, iA g 8 u.2.2.2.2.1), (A_th_digits, iA g 36 u.2.2.2.2.2.1), (A_th_good, iA g 1372 u.2.2.2.2.2.2.1), (A_th_bad, iA g 1372 u.2.2.2.2.2.2.2)] := by
  refine ent (own := RX11) (lv := [(0, .ref A_th), (1, .int n1), (2, .int n2)]) (by decide) rfl (Nat.le_of_ble_eq_true rfl) rfl rfl ?_
  intro x C
  unfold m_X11_digit at hm
  refine b_aload_n C dX11_digit_0 rfl 0 rfl ?_
  refine b_iconst (v := 0) C dX11_digit_1 (by decide) ?_
  refine pfX11_68 (w' := [(A_th, oO 10 [.int 0, V_th_text, V_th_textSize, V_th_readPage, .ref A_th_page, V_th_trial, V_th_book, V_th_doings, V_th_kept, V_th_isKept, V_th_seen, V_th_seenPlace, V_th_seenDigit, V_th_seenIs, V_th_seed, .ref A_th_plan, .ref A_th_good, .ref A_th_bad, .ref A_th_signs, .int th_signMany, .ref A_th_digits, V_th_isNode, V_th_base, V_th_slot, V_th_whichMany, V_th_whichFirst, V_th_value]), (A_th_page, iA g 22 th_page), (A_th_plan, iA g 1372 th_plan), (A_th_signs, iA g 8 th_signs), (A_th_digits, iA g 36 th_digits), (A_th_good, iA g 1372 th_good), (A_th_bad, iA g 1372 th_bad)]) C rfl rfl 0 rfl (Nat.le_of_ble_eq_true rfl) dX11_digit_2 rfl ?_
  refine b_aload_n C dX11_digit_5 rfl 0 rfl ?_
  refine b_iload_n C dX11_digit_6 rfl 1 rfl ?_
  refine b_iload_n C dX11_digit_7 rfl 2 rfl ?_
  obtain ⟨r1, hM, hm⟩ := bK1_some hm
  refine b_kV (w' := [(A_th, oO 10 [.int 0, V_th_text, V_th_textSize, V_th_readPage, .ref A_th_page, V_th_trial, V_th_book, V_th_doings, V_th_kept, V_th_isKept, V_th_seen, V_th_seenPlace, V_th_seenDigit, V_th_seenIs, V_th_seed, .ref A_th_plan, .ref A_th_good, .ref A_th_bad, .ref A_th_signs, .int th_signMany, .ref A_th_digits, V_th_isNode, V_th_base, V_th_slot, V_th_whichMany, V_th_whichFirst, V_th_value]), (A_th_page, iA g 22 th_page), (A_th_plan, iA g 1372 th_plan), (A_th_signs, iA g 8 th_signs), (A_th_digits, iA g 36 th_digits), (A_th_good, iA g 1372 th_good), (A_th_bad, iA g 1372 th_bad)]) (st := []) (st2 := [.int r1]) C cv_X11_noPlace tb1067 (c_X11_noPlace l g A_th A_th_page (.int 0) V_th_text V_th_textSize V_th_readPage V_th_trial V_th_book V_th_doings V_th_kept V_th_isKept V_th_seen V_th_seenPlace V_th_seenDigit V_th_seenIs V_th_seed (.ref A_th_plan) (.ref A_th_good) (.ref A_th_bad) (.ref A_th_signs) (.int th_signMany) (.ref A_th_digits) V_th_isNode V_th_base V_th_slot V_th_whichMany V_th_whichFirst V_th_value n1 n2 th_page F r1 hM) rfl 0 rfl rfl ⟨rfl, rfl, by decide, by decide⟩ (Nat.le_of_ble_eq_true rfl) [0, 1] rfl (by decide) rfl rfl dX11_digit_8 [some 0, some 1, none, none, none, none, none] (by decide) ⟨⟨rfl, rfl⟩, ⟨⟨rfl, rfl⟩, ⟨rfl, ⟨rfl, ⟨rfl, ⟨rfl, ⟨rfl, trivial⟩⟩⟩⟩⟩⟩⟩ rfl ?_
  refine b_if_eq (tgt := 16) C dX11_digit_11 (by decide) hm (fun hm => ?_) (fun hm => ?_)
  · refine b_aload_n C dX11_digit_16 rfl 0 rfl ?_
    refine b_aload_n C dX11_digit_17 rfl 0 rfl ?_
    refine gfX11_16 C 0 rfl rfl dX11_digit_18 ?_
    obtain ⟨z2, f3, f4, f5, f6, f7, hM, hm⟩ := bK6_some hm
    refine b_kV (w' := [(A_th, oO 10 [.int 0, V_th_text, V_th_textSize, V_th_readPage, .ref A_th_page, V_th_trial, V_th_book, V_th_doings, V_th_kept, V_th_isKept, V_th_seen, V_th_seenPlace, V_th_seenDigit, V_th_seenIs, V_th_seed, .ref A_th_plan, .ref A_th_good, .ref A_th_bad, .ref A_th_signs, .int z2, .ref A_th_digits, V_th_isNode, V_th_base, V_th_slot, V_th_whichMany, V_th_whichFirst, V_th_value]), (A_th_page, iA g 22 th_page), (A_th_plan, iA g 1372 f3), (A_th_signs, iA g 8 f4), (A_th_digits, iA g 36 f5), (A_th_good, iA g 1372 f6), (A_th_bad, iA g 1372 f7)]) (st := []) (st2 := []) C cv_X11_learnAll tb963 (c_X11_learnAll l g A_th A_th_page A_th_plan A_th_signs A_th_digits A_th_good A_th_bad (.int 0) V_th_text V_th_textSize V_th_readPage (.ref A_th_page) V_th_trial V_th_book V_th_doings V_th_kept V_th_isKept V_th_seen V_th_seenPlace V_th_seenDigit V_th_seenIs V_th_seed V_th_isNode V_th_base V_th_slot V_th_whichMany V_th_whichFirst V_th_value th_signMany th_page th_plan th_signs th_digits th_good th_bad F (z2, f3, f4, f5, f6, f7) hM) rfl 0 rfl rfl ⟨rfl, rfl, by decide, by decide⟩ (Nat.le_of_ble_eq_true rfl) [0, 1, 2, 3, 4, 5, 6] rfl (by decide) rfl rfl dX11_digit_21 [some 0, some 1, some 2, some 3, some 4, some 5, some 6] (by decide) ⟨⟨rfl, rfl⟩, ⟨⟨rfl, rfl⟩, ⟨⟨rfl, rfl⟩, ⟨⟨rfl, rfl⟩, ⟨⟨rfl, rfl⟩, ⟨⟨rfl, rfl⟩, ⟨⟨rfl, rfl⟩, trivial⟩⟩⟩⟩⟩⟩⟩ rfl ?_
    refine b_aload_n C dX11_digit_24 rfl 0 rfl ?_
    refine gfX11_53 C 0 rfl rfl dX11_digit_25 ?_
    refine b_bipush (v := 6) C dX11_digit_28 (by decide) ?_
    refine b_iload_n C dX11_digit_30 rfl 1 rfl ?_
    refine b_imul C dX11_digit_31 ?_
    refine b_iload_n C dX11_digit_32 rfl 2 rfl ?_
    refine b_iadd C dX11_digit_33 ?_
    refine b_iald C 4 rfl dX11_digit_34 hm (fun v8 hm => ?_)
    cases hm
    exact b_iret C dX11_digit_35
  · refine b_iconst (v := (-1)) C dX11_digit_14 (by decide) ?_
    cases hm
    exact b_iret C dX11_digit_15
