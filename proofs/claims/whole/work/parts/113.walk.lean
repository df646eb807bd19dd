abbrev rm_X9_room : Room := { frames := 2, cells := 0, slots := 0, locals := 48 }
def f_X9_room (a0 : Nat) (x1 : Int32) (x2 : Int32) (S : Mem) : Option Int32 :=
    (ck 9 S a0).bind fun c1 =>
      (f_X9_isRoom a0 x1 S).bind fun v2 =>
      (if v2 = (0 : Int32) then
      some (-1000000001 : Int32)
      else
      (if x2 = (0 : Int32) then
      (ck 9 S a0).bind fun c3 =>
      (f_X9_at a0 ((10 : Int32) + x1) S).bind fun v4 =>
      some v4
      else
      if x2 = (1 : Int32) then
      (ck 9 S a0).bind fun c5 =>
      (f_X9_at a0 ((18 : Int32) + x1) S).bind fun v6 =>
      some v6
      else
      if x2 = (2 : Int32) then
      (ck 9 S a0).bind fun c7 =>
      (f_X9_at a0 (0 : Int32) S).bind fun v8 =>
      (ck 9 S a0).bind fun c9 =>
      (f_X9_at a0 ((10 : Int32) + x1) S).bind fun v10 =>
      (gR 9 7 S a0).bind fun r11 =>
      (ldJ S r11 (4 : Int32)).bind fun u12 =>
      (f_X9_has u12 x1).bind fun v13 =>
      (ck 9 S a0).bind fun c14 =>
      (f_X9_counts a0 S).bind fun u15 =>
      (ck 9 S a0).bind fun c16 =>
      (f_X9_isWorn a0 S).bind fun v17 =>
      (f_X9_pull v8 v10 v13 (((u15 >>> (((4 : Int32) * x1).toInt64 &&& 63)) &&& (15 : Int64)).toInt32) v17).bind fun v18 =>
      some v18
      else
      if x2 = (3 : Int32) then
      (ck 9 S a0).bind fun c19 =>
      (f_X9_beside a0 x1 S).bind fun v20 =>
      some v20
      else
      if x2 = (4 : Int32) then
      (gR 9 7 S a0).bind fun r21 =>
      (ldJ S r21 (5 : Int32)).bind fun u22 =>
      (f_X9_has u22 x1).bind fun v23 =>
      (if v23 = (0 : Int32) then
      some (0 : Int32)
      else
      some (1 : Int32))
      else
      (some (-1000000002 : Int32))))
set_option maxHeartbeats 4000000 in
set_option maxRecDepth 100000 in
theorem m_X9_room (l : Launch) (b0 : Nat) (D : va_G) (cy : Nat → ClassId) (S : Mem) (a0 : Nat) (x1 : Int32) (x2 : Int32) {q : Int32} (h : f_X9_room a0 x1 x2 S = some q) : Met l yX9_room [.code yX9_room cX9_room 3 (some .int)] rm_X9_room (Pr b0 D cy S [.ref (b0 + a0), .int x1, .int x2]) (Qp b0 D cy (some (.int q)) S) 0 0 (fun q => b0 ≤ q) := by
  refine Met.ofW (cc := cX9_room) (maxL := 3) (ret := some .int) (by decide) rfl ?_
  intro p e s m args below meth c s₁ B hml hv
  obtain ⟨rfl, hP, hK, hT⟩ := hv
  have C0 : Cx p m c cX9_room 3 s (List.toArray [.ref (b0 + a0), .int x1, .int x2]) RX9 D cy := ⟨⟨B.exec, B.bytes, hml, findClass_of_methodNamed B.named, fun w h => hT w h _⟩, hK, hT⟩
  have hr : meth.sig.returnType = some .int := B.returns
  have hlocks := B.notSynchronized
  have hw : Wd b0 D cy S s.heap s.heap [] := ⟨hP, va_S.rf⟩
  have hl := lv_entry ([.ref (b0 + a0), .int x1, .int x2]) (n := 3) (Nat.le_of_ble_eq_true rfl)
  rw [lg_entry_eq]
  generalize (lg_sl ([.ref (b0 + a0), .int x1, .int x2]) ++ List.replicate (3 - (lg_sl ([.ref (b0 + a0), .int x1, .int x2])).length) Slot.unset).toArray = ls at hl ⊢
  have hl : lv_has ls 3 [(0, .ref (b0 + a0)), (1, .int x1), (2, .int x2)] := hl
  rw [f_X9_room] at h
  show W p l e rm_X9_room s m _ below meth c s.heap [] 0 0 _ _
  refine lv_aload_n C0.hx C0.hb dX9_room_0 rfl (lv_at hl 0 rfl) ?_
  refine lv_iload_n C0.hx C0.hb dX9_room_1 rfl (lv_at hl 1 rfl) ?_
  obtain ⟨c1, hc1, h⟩ := Option.bind_eq_some_iff.mp h
  obtain ⟨v2, hv2, h⟩ := Option.bind_eq_some_iff.mp h
  refine q_callV (n := 1) (av := [.int x1]) (rest := []) (st1 := [.int v2]) C0 hw (m_X9_isRoom l b0 D cy S a0 x1 hv2) hc1 rfl (by decide) (goodV kw_1021 kw_1023 kw_35 kw_72 kw_1024) ⟨rfl, rfl⟩ (by decide +kernel) ⟨(Nat.le_of_ble_eq_true rfl), (Nat.le_of_ble_eq_true rfl)⟩ rfl hl.1 rfl (Nat.le_of_ble_eq_true rfl) dX9_room_2 ⟨Nat.zero_le _, Nat.zero_le _⟩ rfl (fun H locs hw => ?_)
  refine lv_if_ne (tgt := 11) C0.hx C0.hb dX9_room_5 (by decide) (fun hc => ?_) (fun hc => ?_)
  · have h := (if_neg hc).symm.trans h
    refine lv_iload_n C0.hx C0.hb dX9_room_11 rfl (lv_at hl 2 rfl) ?_
    by_cases hc0 : x2 = (0 : Int32)
    · have h := (if_pos hc0).symm.trans h
      refine lv_tableIn (off := 36) (tgt := 48) C0.hx C0.hb dX9_room_12 (by rw [hc0]; decide) (by rw [hc0]; decide) (by rw [hc0]; rfl) (by decide) ?_
      refine lv_aload_n C0.hx C0.hb dX9_room_48 rfl (lv_at hl 0 rfl) ?_
      refine lv_bipush (v := (10 : Int32)) C0.hx C0.hb dX9_room_49 (by decide) ?_
      refine lv_iload_n C0.hx C0.hb dX9_room_51 rfl (lv_at hl 1 rfl) ?_
      refine lv_iadd C0.hx C0.hb dX9_room_52 ?_
      obtain ⟨c3, hc3, h⟩ := Option.bind_eq_some_iff.mp h
      obtain ⟨v4, hv4, h⟩ := Option.bind_eq_some_iff.mp h
      refine q_callV (n := 1) (av := [.int ((10 : Int32) + x1)]) (rest := []) (st1 := [.int v4]) C0 hw (m_X9_at l b0 D cy S a0 ((10 : Int32) + x1) hv4) hc3 rfl (by decide) (goodV kw_1013 kw_1015 kw_34 kw_72 kw_1016) ⟨rfl, rfl⟩ (by decide +kernel) ⟨(Nat.le_of_ble_eq_true rfl), (Nat.le_of_ble_eq_true rfl)⟩ rfl hl.1 rfl (Nat.le_of_ble_eq_true rfl) dX9_room_53 ⟨Nat.zero_le _, Nat.zero_le _⟩ rfl (fun H locs hw => ?_)
      obtain rfl := Option.some.inj h
      exact q_reti C0 hw hr hlocks dX9_room_56
    · have h := (if_neg hc0).symm.trans h
      by_cases hc1 : x2 = (1 : Int32)
      · have h := (if_pos hc1).symm.trans h
        refine lv_tableIn (off := 45) (tgt := 57) C0.hx C0.hb dX9_room_12 (by rw [hc1]; decide) (by rw [hc1]; decide) (by rw [hc1]; rfl) (by decide) ?_
        refine lv_aload_n C0.hx C0.hb dX9_room_57 rfl (lv_at hl 0 rfl) ?_
        refine lv_bipush (v := (18 : Int32)) C0.hx C0.hb dX9_room_58 (by decide) ?_
        refine lv_iload_n C0.hx C0.hb dX9_room_60 rfl (lv_at hl 1 rfl) ?_
        refine lv_iadd C0.hx C0.hb dX9_room_61 ?_
        obtain ⟨c5, hc5, h⟩ := Option.bind_eq_some_iff.mp h
        obtain ⟨v6, hv6, h⟩ := Option.bind_eq_some_iff.mp h
        refine q_callV (n := 1) (av := [.int ((18 : Int32) + x1)]) (rest := []) (st1 := [.int v6]) C0 hw (m_X9_at l b0 D cy S a0 ((18 : Int32) + x1) hv6) hc5 rfl (by decide) (goodV kw_1013 kw_1015 kw_34 kw_72 kw_1016) ⟨rfl, rfl⟩ (by decide +kernel) ⟨(Nat.le_of_ble_eq_true rfl), (Nat.le_of_ble_eq_true rfl)⟩ rfl hl.1 rfl (Nat.le_of_ble_eq_true rfl) dX9_room_62 ⟨Nat.zero_le _, Nat.zero_le _⟩ rfl (fun H locs hw => ?_)
        obtain rfl := Option.some.inj h
        exact q_reti C0 hw hr hlocks dX9_room_65
      · have h := (if_neg hc1).symm.trans h
        by_cases hc2 : x2 = (2 : Int32)
        · have h := (if_pos hc2).symm.trans h
          refine lv_tableIn (off := 54) (tgt := 66) C0.hx C0.hb dX9_room_12 (by rw [hc2]; decide) (by rw [hc2]; decide) (by rw [hc2]; rfl) (by decide) ?_
          refine lv_aload_n C0.hx C0.hb dX9_room_66 rfl (lv_at hl 0 rfl) ?_
          refine lv_iconst (v := (0 : Int32)) C0.hx C0.hb dX9_room_67 (by decide) ?_
          obtain ⟨c7, hc7, h⟩ := Option.bind_eq_some_iff.mp h
          obtain ⟨v8, hv8, h⟩ := Option.bind_eq_some_iff.mp h
          refine q_callV (n := 1) (av := [.int (0 : Int32)]) (rest := []) (st1 := [.int v8]) C0 hw (m_X9_at l b0 D cy S a0 (0 : Int32) hv8) hc7 rfl (by decide) (goodV kw_1013 kw_1015 kw_34 kw_72 kw_1016) ⟨rfl, rfl⟩ (by decide +kernel) ⟨(Nat.le_of_ble_eq_true rfl), (Nat.le_of_ble_eq_true rfl)⟩ rfl hl.1 rfl (Nat.le_of_ble_eq_true rfl) dX9_room_68 ⟨Nat.zero_le _, Nat.zero_le _⟩ rfl (fun H locs hw => ?_)
          refine lv_aload_n C0.hx C0.hb dX9_room_71 rfl (lv_at hl 0 rfl) ?_
          refine lv_bipush (v := (10 : Int32)) C0.hx C0.hb dX9_room_72 (by decide) ?_
          refine lv_iload_n C0.hx C0.hb dX9_room_74 rfl (lv_at hl 1 rfl) ?_
          refine lv_iadd C0.hx C0.hb dX9_room_75 ?_
          obtain ⟨c9, hc9, h⟩ := Option.bind_eq_some_iff.mp h
          obtain ⟨v10, hv10, h⟩ := Option.bind_eq_some_iff.mp h
          refine q_callV (n := 1) (av := [.int ((10 : Int32) + x1)]) (rest := [.int v8]) (st1 := [.int v10, .int v8]) C0 hw (m_X9_at l b0 D cy S a0 ((10 : Int32) + x1) hv10) hc9 rfl (by decide) (goodV kw_1013 kw_1015 kw_34 kw_72 kw_1016) ⟨rfl, rfl⟩ (by decide +kernel) ⟨(Nat.le_of_ble_eq_true rfl), (Nat.le_of_ble_eq_true rfl)⟩ rfl hl.1 rfl (Nat.le_of_ble_eq_true rfl) dX9_room_76 ⟨Nat.zero_le _, Nat.zero_le _⟩ rfl (fun H locs hw => ?_)
          refine lv_aload_n C0.hx C0.hb dX9_room_79 rfl (lv_at hl 0 rfl) ?_
          obtain ⟨r11, hr11, h⟩ := Option.bind_eq_some_iff.mp h
          refine q_getR C0 hw hr11 rfl in_9 (by decide) kw_869 dX9_room_80 ?_
          refine lv_iconst (v := (4 : Int32)) C0.hx C0.hb dX9_room_83 (by decide) ?_
          obtain ⟨u12, hu12, h⟩ := Option.bind_eq_some_iff.mp h
          refine q_ldJ C0 hw hu12 dX9_room_84 ?_
          refine lv_iload_n C0.hx C0.hb dX9_room_85 rfl (lv_at hl 1 rfl) ?_
          obtain ⟨v13, hv13, h⟩ := Option.bind_eq_some_iff.mp h
          refine q_callS (n := 2) (av := [.long u12, .int x1]) (rest := [.int v10, .int v8]) (st1 := [.int v13, .int v10, .int v8]) C0 hw (m_X9_has l b0 D cy S u12 x1 hv13) (goodS kw_1026 kw_1027 kw_72 kw_1028) ⟨rfl, rfl⟩ (by decide +kernel) ⟨(Nat.le_of_ble_eq_true rfl), (Nat.le_of_ble_eq_true rfl)⟩ rfl hl.1 rfl (Nat.le_of_ble_eq_true rfl) dX9_room_86 ⟨Nat.zero_le _, Nat.zero_le _⟩ rfl (fun H locs hw => ?_)
          refine lv_aload_n C0.hx C0.hb dX9_room_89 rfl (lv_at hl 0 rfl) ?_
          obtain ⟨c14, hc14, h⟩ := Option.bind_eq_some_iff.mp h
          obtain ⟨u15, hu15, h⟩ := Option.bind_eq_some_iff.mp h
          refine q_callV (n := 0) (av := []) (rest := [.int v13, .int v10, .int v8]) (st1 := [.long u15, .int v13, .int v10, .int v8]) C0 hw (m_X9_counts l b0 D cy S a0 hu15) hc14 rfl (by decide) (goodV kw_1029 kw_1031 kw_36 kw_72 kw_1032) ⟨rfl, rfl⟩ (by decide +kernel) ⟨(Nat.le_of_ble_eq_true rfl), (Nat.le_of_ble_eq_true rfl)⟩ rfl hl.1 rfl (Nat.le_of_ble_eq_true rfl) dX9_room_90 ⟨Nat.zero_le _, Nat.zero_le _⟩ rfl (fun H locs hw => ?_)
          refine lv_iconst (v := (4 : Int32)) C0.hx C0.hb dX9_room_93 (by decide) ?_
          refine lv_iload_n C0.hx C0.hb dX9_room_94 rfl (lv_at hl 1 rfl) ?_
          refine lv_imul C0.hx C0.hb dX9_room_95 ?_
          refine lv_lshr C0.hx C0.hb dX9_room_96 rfl ?_
          refine lv_ldc2 C0.hx C0.hb C0.ho (C0.w kw_1034) dX9_room_97 ?_
          refine lv_land C0.hx C0.hb dX9_room_100 ?_
          refine lv_l2i C0.hx C0.hb dX9_room_101 rfl ?_
          refine lv_aload_n C0.hx C0.hb dX9_room_102 rfl (lv_at hl 0 rfl) ?_
          obtain ⟨c16, hc16, h⟩ := Option.bind_eq_some_iff.mp h
          obtain ⟨v17, hv17, h⟩ := Option.bind_eq_some_iff.mp h
          refine q_callV (n := 0) (av := []) (rest := [.int (((u15 >>> (((4 : Int32) * x1).toInt64 &&& 63)) &&& (15 : Int64)).toInt32), .int v13, .int v10, .int v8]) (st1 := [.int v17, .int (((u15 >>> (((4 : Int32) * x1).toInt64 &&& 63)) &&& (15 : Int64)).toInt32), .int v13, .int v10, .int v8]) C0 hw (m_X9_isWorn l b0 D cy S a0 hv17) hc16 rfl (by decide) (goodV kw_1035 kw_1037 kw_37 kw_72 kw_1038) ⟨rfl, rfl⟩ (by decide +kernel) ⟨(Nat.le_of_ble_eq_true rfl), (Nat.le_of_ble_eq_true rfl)⟩ rfl hl.1 rfl (Nat.le_of_ble_eq_true rfl) dX9_room_103 ⟨Nat.zero_le _, Nat.zero_le _⟩ rfl (fun H locs hw => ?_)
          obtain ⟨v18, hv18, h⟩ := Option.bind_eq_some_iff.mp h
          refine q_callS (n := 5) (av := [.int v8, .int v10, .int v13, .int (((u15 >>> (((4 : Int32) * x1).toInt64 &&& 63)) &&& (15 : Int64)).toInt32), .int v17]) (rest := []) (st1 := [.int v18]) C0 hw (m_X9_pull l b0 D cy S v8 v10 v13 (((u15 >>> (((4 : Int32) * x1).toInt64 &&& 63)) &&& (15 : Int64)).toInt32) v17 hv18) (goodS kw_1040 kw_1041 kw_72 kw_1042) ⟨rfl, rfl⟩ (by decide +kernel) ⟨(Nat.le_of_ble_eq_true rfl), (Nat.le_of_ble_eq_true rfl)⟩ rfl hl.1 rfl (Nat.le_of_ble_eq_true rfl) dX9_room_106 ⟨Nat.zero_le _, Nat.zero_le _⟩ rfl (fun H locs hw => ?_)
          obtain rfl := Option.some.inj h
          exact q_reti C0 hw hr hlocks dX9_room_109
        · have h := (if_neg hc2).symm.trans h
          by_cases hc3 : x2 = (3 : Int32)
          · have h := (if_pos hc3).symm.trans h
            refine lv_tableIn (off := 98) (tgt := 110) C0.hx C0.hb dX9_room_12 (by rw [hc3]; decide) (by rw [hc3]; decide) (by rw [hc3]; rfl) (by decide) ?_
            refine lv_aload_n C0.hx C0.hb dX9_room_110 rfl (lv_at hl 0 rfl) ?_
            refine lv_iload_n C0.hx C0.hb dX9_room_111 rfl (lv_at hl 1 rfl) ?_
            obtain ⟨c19, hc19, h⟩ := Option.bind_eq_some_iff.mp h
            obtain ⟨v20, hv20, h⟩ := Option.bind_eq_some_iff.mp h
            refine q_callV (n := 1) (av := [.int x1]) (rest := []) (st1 := [.int v20]) C0 hw (m_X9_beside l b0 D cy S a0 x1 hv20) hc19 rfl (by decide) (goodV kw_1043 kw_1045 kw_38 kw_72 kw_1046) ⟨rfl, rfl⟩ (by decide +kernel) ⟨(Nat.le_of_ble_eq_true rfl), (Nat.le_of_ble_eq_true rfl)⟩ rfl hl.1 rfl (Nat.le_of_ble_eq_true rfl) dX9_room_112 ⟨Nat.zero_le _, Nat.zero_le _⟩ rfl (fun H locs hw => ?_)
            obtain rfl := Option.some.inj h
            exact q_reti C0 hw hr hlocks dX9_room_115
          · have h := (if_neg hc3).symm.trans h
            by_cases hc4 : x2 = (4 : Int32)
            · have h := (if_pos hc4).symm.trans h
              refine lv_tableIn (off := 104) (tgt := 116) C0.hx C0.hb dX9_room_12 (by rw [hc4]; decide) (by rw [hc4]; decide) (by rw [hc4]; rfl) (by decide) ?_
              refine lv_aload_n C0.hx C0.hb dX9_room_116 rfl (lv_at hl 0 rfl) ?_
              obtain ⟨r21, hr21, h⟩ := Option.bind_eq_some_iff.mp h
              refine q_getR C0 hw hr21 rfl in_9 (by decide) kw_869 dX9_room_117 ?_
              refine lv_iconst (v := (5 : Int32)) C0.hx C0.hb dX9_room_120 (by decide) ?_
              obtain ⟨u22, hu22, h⟩ := Option.bind_eq_some_iff.mp h
              refine q_ldJ C0 hw hu22 dX9_room_121 ?_
              refine lv_iload_n C0.hx C0.hb dX9_room_122 rfl (lv_at hl 1 rfl) ?_
              obtain ⟨v23, hv23, h⟩ := Option.bind_eq_some_iff.mp h
              refine q_callS (n := 2) (av := [.long u22, .int x1]) (rest := []) (st1 := [.int v23]) C0 hw (m_X9_has l b0 D cy S u22 x1 hv23) (goodS kw_1026 kw_1027 kw_72 kw_1028) ⟨rfl, rfl⟩ (by decide +kernel) ⟨(Nat.le_of_ble_eq_true rfl), (Nat.le_of_ble_eq_true rfl)⟩ rfl hl.1 rfl (Nat.le_of_ble_eq_true rfl) dX9_room_123 ⟨Nat.zero_le _, Nat.zero_le _⟩ rfl (fun H locs hw => ?_)
              refine lv_if_eq (tgt := 133) C0.hx C0.hb dX9_room_126 (by decide) (fun hc => ?_) (fun hc => ?_)
              · have h := (if_pos hc).symm.trans h
                refine lv_iconst (v := (0 : Int32)) C0.hx C0.hb dX9_room_133 (by decide) ?_
                obtain rfl := Option.some.inj h
                exact q_reti C0 hw hr hlocks dX9_room_134
              · have h := (if_neg hc).symm.trans h
                refine lv_iconst (v := (1 : Int32)) C0.hx C0.hb dX9_room_129 (by decide) ?_
                refine lv_goto (tgt := 134) C0.hx C0.hb dX9_room_130 (by decide) ?_
                obtain rfl := Option.some.inj h
                exact q_reti C0 hw hr hlocks dX9_room_134
            · have h := (if_neg hc4).symm.trans h
              refine lv_tableOut (tgt := 135) C0.hx C0.hb dX9_room_12 (by have n0 := lv_neT (a := 0) hc0 (by decide); have n1 := lv_neT (a := 1) hc1 (by decide); have n2 := lv_neT (a := 2) hc2 (by decide); have n3 := lv_neT (a := 3) hc3 (by decide); have n4 := lv_neT (a := 4) hc4 (by decide); omega) (by decide) ?_
              refine lv_ldc C0.hx C0.hb C0.ho (C0.w kw_954) dX9_room_135 ?_
              obtain rfl := Option.some.inj h
              exact q_reti C0 hw hr hlocks dX9_room_137
  · have h := (if_pos hc).symm.trans h
    refine lv_ldc C0.hx C0.hb C0.ho (C0.w kw_1025) dX9_room_8 ?_
    obtain rfl := Option.some.inj h
    exact q_reti C0 hw hr hlocks dX9_room_10
abbrev rm_X9_petition : Room := { frames := 2, cells := 0, slots := 0, locals := 46 }
def f_X9_petition (a0 : Nat) (x1 : Int32) (x2 : Int32) (S : Mem) : Option Int32 :=
    (ck 9 S a0).bind fun c1 =>
      (f_X9_isPetition a0 x1 S).bind fun v2 =>
      (if v2 = (0 : Int32) then
      some (-1000000001 : Int32)
      else
      (if x2 = (0 : Int32) then
      (ck 9 S a0).bind fun c8 =>
      (f_X9_at a0 ((26 : Int32) + x1) S).bind fun v9 =>
      some v9
      else
      (if x2 = (1 : Int32) then
      (gR 9 6 S a0).bind fun r6 =>
      (ldI S r6 x1).bind fun v7 =>
      some v7
      else
      (if x2 = (2 : Int32) then
      (gR 9 7 S a0).bind fun r3 =>
      (ldJ S r3 (7 : Int32)).bind fun u4 =>
      (f_X9_has u4 x1).bind fun v5 =>
      (if v5 = (0 : Int32) then
      some (0 : Int32)
      else
      some (1 : Int32))
      else
      some (-1000000002 : Int32)))))
set_option maxHeartbeats 4000000 in
set_option maxRecDepth 100000 in
theorem m_X9_petition (l : Launch) (b0 : Nat) (D : va_G) (cy : Nat → ClassId) (S : Mem) (a0 : Nat) (x1 : Int32) (x2 : Int32) {q : Int32} (h : f_X9_petition a0 x1 x2 S = some q) : Met l yX9_petition [.code yX9_petition cX9_petition 3 (some .int)] rm_X9_petition (Pr b0 D cy S [.ref (b0 + a0), .int x1, .int x2]) (Qp b0 D cy (some (.int q)) S) 0 0 (fun q => b0 ≤ q) := by
  refine Met.ofW (cc := cX9_petition) (maxL := 3) (ret := some .int) (by decide) rfl ?_
  intro p e s m args below meth c s₁ B hml hv
  obtain ⟨rfl, hP, hK, hT⟩ := hv
  have C0 : Cx p m c cX9_petition 3 s (List.toArray [.ref (b0 + a0), .int x1, .int x2]) RX9 D cy := ⟨⟨B.exec, B.bytes, hml, findClass_of_methodNamed B.named, fun w h => hT w h _⟩, hK, hT⟩
  have hr : meth.sig.returnType = some .int := B.returns
  have hlocks := B.notSynchronized
  have hw : Wd b0 D cy S s.heap s.heap [] := ⟨hP, va_S.rf⟩
  have hl := lv_entry ([.ref (b0 + a0), .int x1, .int x2]) (n := 3) (Nat.le_of_ble_eq_true rfl)
  rw [lg_entry_eq]
  generalize (lg_sl ([.ref (b0 + a0), .int x1, .int x2]) ++ List.replicate (3 - (lg_sl ([.ref (b0 + a0), .int x1, .int x2])).length) Slot.unset).toArray = ls at hl ⊢
  have hl : lv_has ls 3 [(0, .ref (b0 + a0)), (1, .int x1), (2, .int x2)] := hl
  rw [f_X9_petition] at h
  show W p l e rm_X9_petition s m _ below meth c s.heap [] 0 0 _ _
  refine lv_aload_n C0.hx C0.hb dX9_petition_0 rfl (lv_at hl 0 rfl) ?_
  refine lv_iload_n C0.hx C0.hb dX9_petition_1 rfl (lv_at hl 1 rfl) ?_
  obtain ⟨c1, hc1, h⟩ := Option.bind_eq_some_iff.mp h
  obtain ⟨v2, hv2, h⟩ := Option.bind_eq_some_iff.mp h
  refine q_callV (n := 1) (av := [.int x1]) (rest := []) (st1 := [.int v2]) C0 hw (m_X9_isPetition l b0 D cy S a0 x1 hv2) hc1 rfl (by decide) (goodV kw_1055 kw_1057 kw_40 kw_72 kw_1058) ⟨rfl, rfl⟩ (by decide +kernel) ⟨(Nat.le_of_ble_eq_true rfl), (Nat.le_of_ble_eq_true rfl)⟩ rfl hl.1 rfl (Nat.le_of_ble_eq_true rfl) dX9_petition_2 ⟨Nat.zero_le _, Nat.zero_le _⟩ rfl (fun H locs hw => ?_)
  refine lv_if_ne (tgt := 11) C0.hx C0.hb dX9_petition_5 (by decide) (fun hc => ?_) (fun hc => ?_)
  · have h := (if_neg hc).symm.trans h
    refine lv_iload_n C0.hx C0.hb dX9_petition_11 rfl (lv_at hl 2 rfl) ?_
    refine lv_if_ne (tgt := 26) C0.hx C0.hb dX9_petition_12 (by decide) (fun hc => ?_) (fun hc => ?_)
    · have h := (if_neg hc).symm.trans h
      refine lv_iload_n C0.hx C0.hb dX9_petition_26 rfl (lv_at hl 2 rfl) ?_
      refine lv_iconst (v := (1 : Int32)) C0.hx C0.hb dX9_petition_27 (by decide) ?_
      refine lv_icmp_ne (tgt := 40) C0.hx C0.hb dX9_petition_28 (by decide) (fun hc => ?_) (fun hc => ?_)
      · have h := (if_neg hc).symm.trans h
        refine lv_iload_n C0.hx C0.hb dX9_petition_40 rfl (lv_at hl 2 rfl) ?_
        refine lv_iconst (v := (2 : Int32)) C0.hx C0.hb dX9_petition_41 (by decide) ?_
        refine lv_icmp_ne (tgt := 67) C0.hx C0.hb dX9_petition_42 (by decide) (fun hc => ?_) (fun hc => ?_)
        · have h := (if_neg hc).symm.trans h
          refine lv_ldc C0.hx C0.hb C0.ho (C0.w kw_954) dX9_petition_67 ?_
          obtain rfl := Option.some.inj h
          exact q_reti C0 hw hr hlocks dX9_petition_69
        · have h := (if_pos hc).symm.trans h
          refine lv_aload_n C0.hx C0.hb dX9_petition_45 rfl (lv_at hl 0 rfl) ?_
          obtain ⟨r3, hr3, h⟩ := Option.bind_eq_some_iff.mp h
          refine q_getR C0 hw hr3 rfl in_9 (by decide) kw_869 dX9_petition_46 ?_
          refine lv_bipush (v := (7 : Int32)) C0.hx C0.hb dX9_petition_49 (by decide) ?_
          obtain ⟨u4, hu4, h⟩ := Option.bind_eq_some_iff.mp h
          refine q_ldJ C0 hw hu4 dX9_petition_51 ?_
          refine lv_iload_n C0.hx C0.hb dX9_petition_52 rfl (lv_at hl 1 rfl) ?_
          obtain ⟨v5, hv5, h⟩ := Option.bind_eq_some_iff.mp h
          refine q_callS (n := 2) (av := [.long u4, .int x1]) (rest := []) (st1 := [.int v5]) C0 hw (m_X9_has l b0 D cy S u4 x1 hv5) (goodS kw_1026 kw_1027 kw_72 kw_1028) ⟨rfl, rfl⟩ (by decide +kernel) ⟨(Nat.le_of_ble_eq_true rfl), (Nat.le_of_ble_eq_true rfl)⟩ rfl hl.1 rfl (Nat.le_of_ble_eq_true rfl) dX9_petition_53 ⟨Nat.zero_le _, Nat.zero_le _⟩ rfl (fun H locs hw => ?_)
          refine lv_if_eq (tgt := 63) C0.hx C0.hb dX9_petition_56 (by decide) (fun hc => ?_) (fun hc => ?_)
          · have h := (if_pos hc).symm.trans h
            refine lv_iconst (v := (0 : Int32)) C0.hx C0.hb dX9_petition_63 (by decide) ?_
            refine lv_goto (tgt := 69) C0.hx C0.hb dX9_petition_64 (by decide) ?_
            obtain rfl := Option.some.inj h
            exact q_reti C0 hw hr hlocks dX9_petition_69
          · have h := (if_neg hc).symm.trans h
            refine lv_iconst (v := (1 : Int32)) C0.hx C0.hb dX9_petition_59 (by decide) ?_
            refine lv_goto (tgt := 69) C0.hx C0.hb dX9_petition_60 (by decide) ?_
            obtain rfl := Option.some.inj h
            exact q_reti C0 hw hr hlocks dX9_petition_69
      · have h := (if_pos hc).symm.trans h
        refine lv_aload_n C0.hx C0.hb dX9_petition_31 rfl (lv_at hl 0 rfl) ?_
        obtain ⟨r6, hr6, h⟩ := Option.bind_eq_some_iff.mp h
        refine q_getR C0 hw hr6 rfl in_9 (by decide) kw_868 dX9_petition_32 ?_
        refine lv_iload_n C0.hx C0.hb dX9_petition_35 rfl (lv_at hl 1 rfl) ?_
        obtain ⟨v7, hv7, h⟩ := Option.bind_eq_some_iff.mp h
        refine q_ldI C0 hw hv7 dX9_petition_36 ?_
        refine lv_goto (tgt := 69) C0.hx C0.hb dX9_petition_37 (by decide) ?_
        obtain rfl := Option.some.inj h
        exact q_reti C0 hw hr hlocks dX9_petition_69
    · have h := (if_pos hc).symm.trans h
      refine lv_aload_n C0.hx C0.hb dX9_petition_15 rfl (lv_at hl 0 rfl) ?_
      refine lv_bipush (v := (26 : Int32)) C0.hx C0.hb dX9_petition_16 (by decide) ?_
      refine lv_iload_n C0.hx C0.hb dX9_petition_18 rfl (lv_at hl 1 rfl) ?_
      refine lv_iadd C0.hx C0.hb dX9_petition_19 ?_
      obtain ⟨c8, hc8, h⟩ := Option.bind_eq_some_iff.mp h
      obtain ⟨v9, hv9, h⟩ := Option.bind_eq_some_iff.mp h
      refine q_callV (n := 1) (av := [.int ((26 : Int32) + x1)]) (rest := []) (st1 := [.int v9]) C0 hw (m_X9_at l b0 D cy S a0 ((26 : Int32) + x1) hv9) hc8 rfl (by decide) (goodV kw_1013 kw_1015 kw_34 kw_72 kw_1016) ⟨rfl, rfl⟩ (by decide +kernel) ⟨(Nat.le_of_ble_eq_true rfl), (Nat.le_of_ble_eq_true rfl)⟩ rfl hl.1 rfl (Nat.le_of_ble_eq_true rfl) dX9_petition_20 ⟨Nat.zero_le _, Nat.zero_le _⟩ rfl (fun H locs hw => ?_)
      refine lv_goto (tgt := 69) C0.hx C0.hb dX9_petition_23 (by decide) ?_
      obtain rfl := Option.some.inj h
      exact q_reti C0 hw hr hlocks dX9_petition_69
  · have h := (if_pos hc).symm.trans h
    refine lv_ldc C0.hx C0.hb C0.ho (C0.w kw_1025) dX9_petition_8 ?_
    obtain rfl := Option.some.inj h
    exact q_reti C0 hw hr hlocks dX9_petition_10
abbrev rm_X9_went : Room := { frames := 1, cells := 0, slots := 0, locals := 25 }
def f_X9_went (a0 : Nat) (x1 : Int32) (S : Mem) : Option Int32 :=
    (gR 9 7 S a0).bind fun r1 =>
      (ldJ S r1 (9 : Int32)).bind fun u2 =>
      (f_X9_in x1.toInt64 (0 : Int64) (u2 - (1 : Int64))).bind fun v3 =>
      (if v3 = (0 : Int32) then
      some (-1 : Int32)
      else
      (ck 9 S a0).bind fun c4 =>
      (f_X9_at a0 (9 : Int32) S).bind fun v5 =>
      (some ((v5 - (1 : Int32)) - x1)).bind fun v6 =>
      (ck 9 S a0).bind fun c7 =>
      (f_X9_wayFrom a0 v6 S).bind fun v8 =>
      (ck 9 S a0).bind fun c9 =>
      (f_X9_wayTo a0 v6 S).bind fun v10 =>
      some (((10 : Int32) * v8) + v10))
set_option maxHeartbeats 4000000 in
set_option maxRecDepth 100000 in
theorem m_X9_went (l : Launch) (b0 : Nat) (D : va_G) (cy : Nat → ClassId) (S : Mem) (a0 : Nat) (x1 : Int32) {q : Int32} (h : f_X9_went a0 x1 S = some q) : Met l yX9_went [.code yX9_went cX9_went 3 (some .int)] rm_X9_went (Pr b0 D cy S [.ref (b0 + a0), .int x1]) (Qp b0 D cy (some (.int q)) S) 0 0 (fun q => b0 ≤ q) := by
  refine Met.ofW (cc := cX9_went) (maxL := 3) (ret := some .int) (by decide) rfl ?_
  intro p e s m args below meth c s₁ B hml hv
  obtain ⟨rfl, hP, hK, hT⟩ := hv
  have C0 : Cx p m c cX9_went 3 s (List.toArray [.ref (b0 + a0), .int x1]) RX9 D cy := ⟨⟨B.exec, B.bytes, hml, findClass_of_methodNamed B.named, fun w h => hT w h _⟩, hK, hT⟩
  have hr : meth.sig.returnType = some .int := B.returns
  have hlocks := B.notSynchronized
  have hw : Wd b0 D cy S s.heap s.heap [] := ⟨hP, va_S.rf⟩
  have hl := lv_entry ([.ref (b0 + a0), .int x1]) (n := 3) (Nat.le_of_ble_eq_true rfl)
  rw [lg_entry_eq]
  generalize (lg_sl ([.ref (b0 + a0), .int x1]) ++ List.replicate (3 - (lg_sl ([.ref (b0 + a0), .int x1])).length) Slot.unset).toArray = ls at hl ⊢
  have hl : lv_has ls 3 [(0, .ref (b0 + a0)), (1, .int x1)] := hl
  rw [f_X9_went] at h
  show W p l e rm_X9_went s m _ below meth c s.heap [] 0 0 _ _
  refine lv_iload_n C0.hx C0.hb dX9_went_0 rfl (lv_at hl 1 rfl) ?_
  refine lv_i2l C0.hx C0.hb dX9_went_1 rfl ?_
  refine lv_lconst (v := (0 : Int64)) C0.hx C0.hb dX9_went_2 (by decide) ?_
  refine lv_aload_n C0.hx C0.hb dX9_went_3 rfl (lv_at hl 0 rfl) ?_
  obtain ⟨r1, hr1, h⟩ := Option.bind_eq_some_iff.mp h
  refine q_getR C0 hw hr1 rfl in_9 (by decide) kw_869 dX9_went_4 ?_
  refine lv_bipush (v := (9 : Int32)) C0.hx C0.hb dX9_went_7 (by decide) ?_
  obtain ⟨u2, hu2, h⟩ := Option.bind_eq_some_iff.mp h
  refine q_ldJ C0 hw hu2 dX9_went_9 ?_
  refine lv_lconst (v := (1 : Int64)) C0.hx C0.hb dX9_went_10 (by decide) ?_
  refine lv_lsub C0.hx C0.hb dX9_went_11 ?_
  obtain ⟨v3, hv3, h⟩ := Option.bind_eq_some_iff.mp h
  refine q_callS (n := 3) (av := [.long x1.toInt64, .long (0 : Int64), .long (u2 - (1 : Int64))]) (rest := []) (st1 := [.int v3]) C0 hw (m_X9_in l b0 D cy S x1.toInt64 (0 : Int64) (u2 - (1 : Int64)) hv3) (goodS kw_951 kw_952 kw_72 kw_953) ⟨rfl, rfl⟩ (by decide +kernel) ⟨(Nat.le_of_ble_eq_true rfl), (Nat.le_of_ble_eq_true rfl)⟩ rfl hl.1 rfl (Nat.le_of_ble_eq_true rfl) dX9_went_12 ⟨Nat.zero_le _, Nat.zero_le _⟩ rfl (fun H locs hw => ?_)
  refine lv_if_ne (tgt := 20) C0.hx C0.hb dX9_went_15 (by decide) (fun hc => ?_) (fun hc => ?_)
  · have h := (if_neg hc).symm.trans h
    refine lv_aload_n C0.hx C0.hb dX9_went_20 rfl (lv_at hl 0 rfl) ?_
    refine lv_bipush (v := (9 : Int32)) C0.hx C0.hb dX9_went_21 (by decide) ?_
    obtain ⟨c4, hc4, h⟩ := Option.bind_eq_some_iff.mp h
    obtain ⟨v5, hv5, h⟩ := Option.bind_eq_some_iff.mp h
    refine q_callV (n := 1) (av := [.int (9 : Int32)]) (rest := []) (st1 := [.int v5]) C0 hw (m_X9_at l b0 D cy S a0 (9 : Int32) hv5) hc4 rfl (by decide) (goodV kw_1013 kw_1015 kw_34 kw_72 kw_1016) ⟨rfl, rfl⟩ (by decide +kernel) ⟨(Nat.le_of_ble_eq_true rfl), (Nat.le_of_ble_eq_true rfl)⟩ rfl hl.1 rfl (Nat.le_of_ble_eq_true rfl) dX9_went_23 ⟨Nat.zero_le _, Nat.zero_le _⟩ rfl (fun H locs hw => ?_)
    refine lv_iconst (v := (1 : Int32)) C0.hx C0.hb dX9_went_26 (by decide) ?_
    refine lv_isub C0.hx C0.hb dX9_went_27 ?_
    refine lv_iload_n C0.hx C0.hb dX9_went_28 rfl (lv_at hl 1 rfl) ?_
    refine lv_isub C0.hx C0.hb dX9_went_29 ?_
    obtain ⟨v6, hv6, h⟩ := Option.bind_eq_some_iff.mp h
    refine q_nmI hv6 ?_
    refine lv_istore_n (lv' := [(2, .int v6), (0, .ref (b0 + a0)), (1, .int x1)]) C0.hx C0.hb dX9_went_30 rfl hl (by decide) rfl (fun ls hl => ?_)
    refine lv_bipush (v := (10 : Int32)) C0.hx C0.hb dX9_went_31 (by decide) ?_
    refine lv_aload_n C0.hx C0.hb dX9_went_33 rfl (lv_at hl 1 rfl) ?_
    refine lv_iload_n C0.hx C0.hb dX9_went_34 rfl (lv_at hl 0 rfl) ?_
    obtain ⟨c7, hc7, h⟩ := Option.bind_eq_some_iff.mp h
    obtain ⟨v8, hv8, h⟩ := Option.bind_eq_some_iff.mp h
    refine q_callV (n := 1) (av := [.int v6]) (rest := [.int (10 : Int32)]) (st1 := [.int v8, .int (10 : Int32)]) C0 hw (m_X9_wayFrom l b0 D cy S a0 v6 hv8) hc7 rfl (by decide) (goodV kw_1063 kw_1065 kw_41 kw_72 kw_1066) ⟨rfl, rfl⟩ (by decide +kernel) ⟨(Nat.le_of_ble_eq_true rfl), (Nat.le_of_ble_eq_true rfl)⟩ rfl hl.1 rfl (Nat.le_of_ble_eq_true rfl) dX9_went_35 ⟨Nat.zero_le _, Nat.zero_le _⟩ rfl (fun H locs hw => ?_)
    refine lv_imul C0.hx C0.hb dX9_went_38 ?_
    refine lv_aload_n C0.hx C0.hb dX9_went_39 rfl (lv_at hl 1 rfl) ?_
    refine lv_iload_n C0.hx C0.hb dX9_went_40 rfl (lv_at hl 0 rfl) ?_
    obtain ⟨c9, hc9, h⟩ := Option.bind_eq_some_iff.mp h
    obtain ⟨v10, hv10, h⟩ := Option.bind_eq_some_iff.mp h
    refine q_callV (n := 1) (av := [.int v6]) (rest := [.int ((10 : Int32) * v8)]) (st1 := [.int v10, .int ((10 : Int32) * v8)]) C0 hw (m_X9_wayTo l b0 D cy S a0 v6 hv10) hc9 rfl (by decide) (goodV kw_1068 kw_1070 kw_42 kw_72 kw_1071) ⟨rfl, rfl⟩ (by decide +kernel) ⟨(Nat.le_of_ble_eq_true rfl), (Nat.le_of_ble_eq_true rfl)⟩ rfl hl.1 rfl (Nat.le_of_ble_eq_true rfl) dX9_went_41 ⟨Nat.zero_le _, Nat.zero_le _⟩ rfl (fun H locs hw => ?_)
    refine lv_iadd C0.hx C0.hb dX9_went_44 ?_
    obtain rfl := Option.some.inj h
    exact q_reti C0 hw hr hlocks dX9_went_45
  · have h := (if_pos hc).symm.trans h
    refine lv_iconst (v := (-1 : Int32)) C0.hx C0.hb dX9_went_18 (by decide) ?_
    obtain rfl := Option.some.inj h
    exact q_reti C0 hw hr hlocks dX9_went_19
abbrev rm_X9_notes : Room := { frames := 0, cells := 0, slots := 0, locals := 0 }
def f_X9_notes_b48 : Nat → Nat → Int32 → Mem → Option Mem
  | 0, _, _, _ => none
  | n + 1, a0, x1, S =>
    (if (80 : Int32) ≤ x1 then
      (gI 9 16 S a0).bind fun v2 =>
      (pI 9 16 S a0 (v2 + (1 : Int32))).bind fun S3 =>
      some S3
      else
      (gR 9 15 S a0).bind fun r4 =>
      (gI 9 16 S a0).bind fun v5 =>
      (gR 9 7 S a0).bind fun r6 =>
      (ldJ S r6 x1).bind fun u7 =>
      (stJ S r4 (((80 : Int32) * v5) + x1) u7).bind fun S8 =>
      (some (x1 + (1 : Int32))).bind fun v9 =>
      f_X9_notes_b48  n a0 v9 S8)
def f_X9_notes_b46 (a0 : Nat) (S : Mem) : Option Mem :=
    f_X9_notes_b48 FU a0 (0 : Int32) S
def f_X9_notes_b12 : Nat → Nat → Int32 → Mem → Option Mem
  | 0, _, _, _ => none
  | n + 1, a0, x1, S =>
    (if (1280 : Int32) ≤ x1 then
      (pI 9 16 S a0 (15 : Int32)).bind fun S10 =>
      f_X9_notes_b46 a0 S10
      else
      (gR 9 15 S a0).bind fun r11 =>
      (gR 9 15 S a0).bind fun r12 =>
      (ldJ S r12 x1).bind fun u13 =>
      (stJ S r11 (x1 - (80 : Int32)) u13).bind fun S14 =>
      (some (x1 + (1 : Int32))).bind fun v15 =>
      f_X9_notes_b12  n a0 v15 S14)
def f_X9_notes (a0 : Nat) (S : Mem) : Option Mem :=
    (gI 9 16 S a0).bind fun v1 =>
      (if v1 = (16 : Int32) then
      f_X9_notes_b12 FU a0 (80 : Int32) S
      else
      f_X9_notes_b46 a0 S)
set_option maxHeartbeats 4000000 in
set_option maxRecDepth 100000 in
theorem w_X9_notes_b48 {p : Program} {l : Launch} {e : Env} {s : State} {m : MethodId} {args : Array Value} {below : List Frame} {meth : Method} {c : Code} {b0 : Nat} {D : va_G} {cy : Nat → ClassId} {q : Mem} (C0 : Cx p m c cX9_notes 2 s args RX9 D cy) (hr : meth.sig.returnType = none) (hlocks : meth.locks = false) : ∀ (n : Nat) (a0 : Nat) (x1 : Int32) (S : Mem) (H : Heap) (locs : List Loc) (ls : Array Slot), Wd b0 D cy S s.heap H locs → lv_has ls 2 [(0, .ref (b0 + a0)), (1, .int x1)] → f_X9_notes_b48  n a0 x1 S = some q → W p l e rm_X9_notes s m args below meth c H locs 0 0 (MQ below (Qp b0 D cy none q) args s 0 0 (fun q => b0 ≤ q)) (F0 m 48 ls []) := by
  intro n
  induction n with
  | zero => intro a0 x1 S H locs ls hw hl h; exact absurd h (by simp [f_X9_notes_b48])
  | succ n ih =>
    intro a0 x1 S H locs ls hw hl h
    rw [f_X9_notes_b48] at h
    refine lv_iload_n C0.hx C0.hb dX9_notes_48 rfl (lv_at hl 1 rfl) ?_
    refine lv_bipush (v := (80 : Int32)) C0.hx C0.hb dX9_notes_49 (by decide) ?_
    refine lv_icmp_ge (tgt := 80) C0.hx C0.hb dX9_notes_51 (by decide) (fun hc => ?_) (fun hc => ?_)
    · have h := (if_pos hc).symm.trans h
      refine lv_aload_n C0.hx C0.hb dX9_notes_80 rfl (lv_at hl 0 rfl) ?_
      refine lv_dup C0.hx C0.hb dX9_notes_81 rfl ?_
      obtain ⟨v2, hv2, h⟩ := Option.bind_eq_some_iff.mp h
      refine q_getI C0 hw hv2 rfl in_9 (by decide) kw_878 dX9_notes_82 ?_
      refine lv_iconst (v := (1 : Int32)) C0.hx C0.hb dX9_notes_85 (by decide) ?_
      refine lv_iadd C0.hx C0.hb dX9_notes_86 ?_
      obtain ⟨S3, hS3, h⟩ := Option.bind_eq_some_iff.mp h
      refine q_putI C0 hw hS3 rfl in_9 tyX9_ok nmX9 ⟨by decide, by decide, rfl, rfl⟩ rfl kw_878 dX9_notes_87 (fun H locs hw => ?_)
      obtain rfl := Option.some.inj h
      exact q_retv C0 hw hr hlocks dX9_notes_90
    · have h := (if_neg hc).symm.trans h
      refine lv_aload_n C0.hx C0.hb dX9_notes_54 rfl (lv_at hl 0 rfl) ?_
      obtain ⟨r4, hr4, h⟩ := Option.bind_eq_some_iff.mp h
      refine q_getR C0 hw hr4 rfl in_9 (by decide) kw_877 dX9_notes_55 ?_
      refine lv_bipush (v := (80 : Int32)) C0.hx C0.hb dX9_notes_58 (by decide) ?_
      refine lv_aload_n C0.hx C0.hb dX9_notes_60 rfl (lv_at hl 0 rfl) ?_
      obtain ⟨v5, hv5, h⟩ := Option.bind_eq_some_iff.mp h
      refine q_getI C0 hw hv5 rfl in_9 (by decide) kw_878 dX9_notes_61 ?_
      refine lv_imul C0.hx C0.hb dX9_notes_64 ?_
      refine lv_iload_n C0.hx C0.hb dX9_notes_65 rfl (lv_at hl 1 rfl) ?_
      refine lv_iadd C0.hx C0.hb dX9_notes_66 ?_
      refine lv_aload_n C0.hx C0.hb dX9_notes_67 rfl (lv_at hl 0 rfl) ?_
      obtain ⟨r6, hr6, h⟩ := Option.bind_eq_some_iff.mp h
      refine q_getR C0 hw hr6 rfl in_9 (by decide) kw_869 dX9_notes_68 ?_
      refine lv_iload_n C0.hx C0.hb dX9_notes_71 rfl (lv_at hl 1 rfl) ?_
      obtain ⟨u7, hu7, h⟩ := Option.bind_eq_some_iff.mp h
      refine q_ldJ C0 hw hu7 dX9_notes_72 ?_
      obtain ⟨S8, hS8, h⟩ := Option.bind_eq_some_iff.mp h
      refine q_stJ C0 hw hS8 dX9_notes_73 (fun H locs hw => ?_)
      obtain ⟨v9, hv9, h⟩ := Option.bind_eq_some_iff.mp h
      refine lv_iinc (v := v9) (lv' := [(1, .int v9), (0, .ref (b0 + a0))]) C0.hx C0.hb dX9_notes_74 hl (k := 1) rfl (by rw [← Option.some.inj hv9]; rfl) (by decide) rfl (fun ls hl => ?_)
      refine lv_goto (tgt := 48) C0.hx C0.hb dX9_notes_77 (by decide) ?_
      exact ih a0 v9 S8 _ _ _ hw (lv_sub hl [1, 0] rfl) h
set_option maxHeartbeats 4000000 in
set_option maxRecDepth 100000 in
theorem w_X9_notes_b46 {p : Program} {l : Launch} {e : Env} {s : State} {m : MethodId} {args : Array Value} {below : List Frame} {meth : Method} {c : Code} {b0 : Nat} {D : va_G} {cy : Nat → ClassId} {q : Mem} (C0 : Cx p m c cX9_notes 2 s args RX9 D cy) (hr : meth.sig.returnType = none) (hlocks : meth.locks = false) : ∀ (a0 : Nat) (S : Mem) (H : Heap) (locs : List Loc) (ls : Array Slot), Wd b0 D cy S s.heap H locs → lv_has ls 2 [(0, .ref (b0 + a0))] → f_X9_notes_b46  a0 S = some q → W p l e rm_X9_notes s m args below meth c H locs 0 0 (MQ below (Qp b0 D cy none q) args s 0 0 (fun q => b0 ≤ q)) (F0 m 46 ls []) := by
  intro a0 S H locs ls hw hl h
  rw [f_X9_notes_b46] at h
  refine lv_iconst (v := (0 : Int32)) C0.hx C0.hb dX9_notes_46 (by decide) ?_
  refine lv_istore_n (lv' := [(1, .int (0 : Int32)), (0, .ref (b0 + a0))]) C0.hx C0.hb dX9_notes_47 rfl hl (by decide) rfl (fun ls hl => ?_)
  exact w_X9_notes_b48 C0 hr hlocks FU a0 (0 : Int32) S _ _ _ hw (lv_sub hl [1, 0] rfl) h
set_option maxHeartbeats 4000000 in
set_option maxRecDepth 100000 in
theorem w_X9_notes_b12 {p : Program} {l : Launch} {e : Env} {s : State} {m : MethodId} {args : Array Value} {below : List Frame} {meth : Method} {c : Code} {b0 : Nat} {D : va_G} {cy : Nat → ClassId} {q : Mem} (C0 : Cx p m c cX9_notes 2 s args RX9 D cy) (hr : meth.sig.returnType = none) (hlocks : meth.locks = false) : ∀ (n : Nat) (a0 : Nat) (x1 : Int32) (S : Mem) (H : Heap) (locs : List Loc) (ls : Array Slot), Wd b0 D cy S s.heap H locs → lv_has ls 2 [(0, .ref (b0 + a0)), (1, .int x1)] → f_X9_notes_b12  n a0 x1 S = some q → W p l e rm_X9_notes s m args below meth c H locs 0 0 (MQ below (Qp b0 D cy none q) args s 0 0 (fun q => b0 ≤ q)) (F0 m 12 ls []) := by
  intro n
  induction n with
  | zero => intro a0 x1 S H locs ls hw hl h; exact absurd h (by simp [f_X9_notes_b12])
  | succ n ih =>
    intro a0 x1 S H locs ls hw hl h
    rw [f_X9_notes_b12] at h
    refine lv_iload_n C0.hx C0.hb dX9_notes_12 rfl (lv_at hl 1 rfl) ?_
    refine lv_sipush (v := (1280 : Int32)) C0.hx C0.hb dX9_notes_13 (by decide) ?_
    refine lv_icmp_ge (tgt := 40) C0.hx C0.hb dX9_notes_16 (by decide) (fun hc => ?_) (fun hc => ?_)
    · have h := (if_pos hc).symm.trans h
      refine lv_aload_n C0.hx C0.hb dX9_notes_40 rfl (lv_at hl 0 rfl) ?_
      refine lv_bipush (v := (15 : Int32)) C0.hx C0.hb dX9_notes_41 (by decide) ?_
      obtain ⟨S10, hS10, h⟩ := Option.bind_eq_some_iff.mp h
      refine q_putI C0 hw hS10 rfl in_9 tyX9_ok nmX9 ⟨by decide, by decide, rfl, rfl⟩ rfl kw_878 dX9_notes_43 (fun H locs hw => ?_)
      exact w_X9_notes_b46 C0 hr hlocks a0 S10 _ _ _ hw (lv_sub hl [0] rfl) h
    · have h := (if_neg hc).symm.trans h
      refine lv_aload_n C0.hx C0.hb dX9_notes_19 rfl (lv_at hl 0 rfl) ?_
      obtain ⟨r11, hr11, h⟩ := Option.bind_eq_some_iff.mp h
      refine q_getR C0 hw hr11 rfl in_9 (by decide) kw_877 dX9_notes_20 ?_
      refine lv_iload_n C0.hx C0.hb dX9_notes_23 rfl (lv_at hl 1 rfl) ?_
      refine lv_bipush (v := (80 : Int32)) C0.hx C0.hb dX9_notes_24 (by decide) ?_
      refine lv_isub C0.hx C0.hb dX9_notes_26 ?_
      refine lv_aload_n C0.hx C0.hb dX9_notes_27 rfl (lv_at hl 0 rfl) ?_
      obtain ⟨r12, hr12, h⟩ := Option.bind_eq_some_iff.mp h
      refine q_getR C0 hw hr12 rfl in_9 (by decide) kw_877 dX9_notes_28 ?_
      refine lv_iload_n C0.hx C0.hb dX9_notes_31 rfl (lv_at hl 1 rfl) ?_
      obtain ⟨u13, hu13, h⟩ := Option.bind_eq_some_iff.mp h
      refine q_ldJ C0 hw hu13 dX9_notes_32 ?_
      obtain ⟨S14, hS14, h⟩ := Option.bind_eq_some_iff.mp h
      refine q_stJ C0 hw hS14 dX9_notes_33 (fun H locs hw => ?_)
      obtain ⟨v15, hv15, h⟩ := Option.bind_eq_some_iff.mp h
      refine lv_iinc (v := v15) (lv' := [(1, .int v15), (0, .ref (b0 + a0))]) C0.hx C0.hb dX9_notes_34 hl (k := 1) rfl (by rw [← Option.some.inj hv15]; rfl) (by decide) rfl (fun ls hl => ?_)
      refine lv_goto (tgt := 12) C0.hx C0.hb dX9_notes_37 (by decide) ?_
      exact ih a0 v15 S14 _ _ _ hw (lv_sub hl [1, 0] rfl) h
set_option maxHeartbeats 4000000 in
set_option maxRecDepth 100000 in
theorem m_X9_notes (l : Launch) (b0 : Nat) (D : va_G) (cy : Nat → ClassId) (S : Mem) (a0 : Nat) {q : Mem} (h : f_X9_notes a0 S = some q) : Met l yX9_notes [.code yX9_notes cX9_notes 2 (none)] rm_X9_notes (Pr b0 D cy S [.ref (b0 + a0)]) (Qp b0 D cy none q) 0 0 (fun q => b0 ≤ q) := by
  refine Met.ofW (cc := cX9_notes) (maxL := 2) (ret := none) (by decide) rfl ?_
  intro p e s m args below meth c s₁ B hml hv
  obtain ⟨rfl, hP, hK, hT⟩ := hv
  have C0 : Cx p m c cX9_notes 2 s (List.toArray [.ref (b0 + a0)]) RX9 D cy := ⟨⟨B.exec, B.bytes, hml, findClass_of_methodNamed B.named, fun w h => hT w h _⟩, hK, hT⟩
  have hr : meth.sig.returnType = none := B.returns
  have hlocks := B.notSynchronized
  have hw : Wd b0 D cy S s.heap s.heap [] := ⟨hP, va_S.rf⟩
  have hl := lv_entry ([.ref (b0 + a0)]) (n := 2) (Nat.le_of_ble_eq_true rfl)
  rw [lg_entry_eq]
  generalize (lg_sl ([.ref (b0 + a0)]) ++ List.replicate (2 - (lg_sl ([.ref (b0 + a0)])).length) Slot.unset).toArray = ls at hl ⊢
  have hl : lv_has ls 2 [(0, .ref (b0 + a0))] := hl
  rw [f_X9_notes] at h
  show W p l e rm_X9_notes s m _ below meth c s.heap [] 0 0 _ _
  refine lv_aload_n C0.hx C0.hb dX9_notes_0 rfl (lv_at hl 0 rfl) ?_
  obtain ⟨v1, hv1, h⟩ := Option.bind_eq_some_iff.mp h
  refine q_getI C0 hw hv1 rfl in_9 (by decide) kw_878 dX9_notes_1 ?_
  refine lv_bipush (v := (16 : Int32)) C0.hx C0.hb dX9_notes_4 (by decide) ?_
  refine lv_icmp_ne (tgt := 46) C0.hx C0.hb dX9_notes_6 (by decide) (fun hc => ?_) (fun hc => ?_)
  · have h := (if_neg hc).symm.trans h
    exact w_X9_notes_b46 C0 hr hlocks a0 S _ _ _ hw (lv_sub hl [0] rfl) h
  · have h := (if_pos hc).symm.trans h
    refine lv_bipush (v := (80 : Int32)) C0.hx C0.hb dX9_notes_9 (by decide) ?_
    refine lv_istore_n (lv' := [(1, .int (80 : Int32)), (0, .ref (b0 + a0))]) C0.hx C0.hb dX9_notes_11 rfl hl (by decide) rfl (fun ls hl => ?_)
    exact w_X9_notes_b12 C0 hr hlocks FU a0 (80 : Int32) S _ _ _ hw (lv_sub hl [1, 0] rfl) h
abbrev rm_X9_hour : Room := { frames := 5, cells := 0, slots := 0, locals := 131 }
def f_X9_hour (a0 : Nat) (x1 : Int32) (S : Mem) : Option (Int32 × Mem) :=
    (f_X9_in x1.toInt64 (1 : Int64) (60 : Int64)).bind fun v1 =>
      (if v1 = (0 : Int32) then
      some ((-1000000002 : Int32), S)
      else
      (gI 9 1 S a0).bind fun v2 =>
      (if v2 = (0 : Int32) then
      some ((-1000000003 : Int32), S)
      else
      (gR 9 7 S a0).bind fun r3 =>
      (ldJ S r3 (1 : Int32)).bind fun u4 =>
      (if (lg_cmp u4 (9000 : Int64)) ≤ (0 : Int32) then
      (ck 9 S a0).bind fun c5 =>
      (f_X9_notes a0 S).bind fun S6 =>
      (ck 9 S6 a0).bind fun c7 =>
      (f_X9_goesOn a0 x1 S6).bind fun S8 =>
      (ck 9 S8 a0).bind fun c9 =>
      (f_X9_at a0 (2 : Int32) S8).bind fun v10 =>
      some (v10, S8)
      else
      some ((-1000000004 : Int32), S))))
set_option maxHeartbeats 4000000 in
set_option maxRecDepth 100000 in
theorem m_X9_hour (l : Launch) (b0 : Nat) (D : va_G) (cy : Nat → ClassId) (S : Mem) (a0 : Nat) (x1 : Int32) {q : (Int32 × Mem)} (h : f_X9_hour a0 x1 S = some q) : Met l yX9_hour [.code yX9_hour cX9_hour 2 (some .int)] rm_X9_hour (Pr b0 D cy S [.ref (b0 + a0), .int x1]) (Qp b0 D cy (some (.int q.1)) q.2) 0 0 (fun q => b0 ≤ q) := by
  refine Met.ofW (cc := cX9_hour) (maxL := 2) (ret := some .int) (by decide) rfl ?_
  intro p e s m args below meth c s₁ B hml hv
  obtain ⟨rfl, hP, hK, hT⟩ := hv
  have C0 : Cx p m c cX9_hour 2 s (List.toArray [.ref (b0 + a0), .int x1]) RX9 D cy := ⟨⟨B.exec, B.bytes, hml, findClass_of_methodNamed B.named, fun w h => hT w h _⟩, hK, hT⟩
  have hr : meth.sig.returnType = some .int := B.returns
  have hlocks := B.notSynchronized
  have hw : Wd b0 D cy S s.heap s.heap [] := ⟨hP, va_S.rf⟩
  have hl := lv_entry ([.ref (b0 + a0), .int x1]) (n := 2) (Nat.le_of_ble_eq_true rfl)
  rw [lg_entry_eq]
  generalize (lg_sl ([.ref (b0 + a0), .int x1]) ++ List.replicate (2 - (lg_sl ([.ref (b0 + a0), .int x1])).length) Slot.unset).toArray = ls at hl ⊢
  have hl : lv_has ls 2 [(0, .ref (b0 + a0)), (1, .int x1)] := hl
  rw [f_X9_hour] at h
  show W p l e rm_X9_hour s m _ below meth c s.heap [] 0 0 _ _
  refine lv_iload_n C0.hx C0.hb dX9_hour_0 rfl (lv_at hl 1 rfl) ?_
  refine lv_i2l C0.hx C0.hb dX9_hour_1 rfl ?_
  refine lv_lconst (v := (1 : Int64)) C0.hx C0.hb dX9_hour_2 (by decide) ?_
  refine lv_ldc2 C0.hx C0.hb C0.ho (C0.w kw_1076) dX9_hour_3 ?_
  obtain ⟨v1, hv1, h⟩ := Option.bind_eq_some_iff.mp h
  refine q_callS (n := 3) (av := [.long x1.toInt64, .long (1 : Int64), .long (60 : Int64)]) (rest := []) (st1 := [.int v1]) C0 hw (m_X9_in l b0 D cy S x1.toInt64 (1 : Int64) (60 : Int64) hv1) (goodS kw_951 kw_952 kw_72 kw_953) ⟨rfl, rfl⟩ (by decide +kernel) ⟨(Nat.le_of_ble_eq_true rfl), (Nat.le_of_ble_eq_true rfl)⟩ rfl hl.1 rfl (Nat.le_of_ble_eq_true rfl) dX9_hour_6 ⟨Nat.zero_le _, Nat.zero_le _⟩ rfl (fun H locs hw => ?_)
  refine lv_if_ne (tgt := 15) C0.hx C0.hb dX9_hour_9 (by decide) (fun hc => ?_) (fun hc => ?_)
  · have h := (if_neg hc).symm.trans h
    refine lv_aload_n C0.hx C0.hb dX9_hour_15 rfl (lv_at hl 0 rfl) ?_
    obtain ⟨v2, hv2, h⟩ := Option.bind_eq_some_iff.mp h
    refine q_getI C0 hw hv2 rfl in_9 (by decide) kw_863 dX9_hour_16 ?_
    refine lv_if_ne (tgt := 25) C0.hx C0.hb dX9_hour_19 (by decide) (fun hc => ?_) (fun hc => ?_)
    · have h := (if_neg hc).symm.trans h
      refine lv_aload_n C0.hx C0.hb dX9_hour_25 rfl (lv_at hl 0 rfl) ?_
      obtain ⟨r3, hr3, h⟩ := Option.bind_eq_some_iff.mp h
      refine q_getR C0 hw hr3 rfl in_9 (by decide) kw_869 dX9_hour_26 ?_
      refine lv_iconst (v := (1 : Int32)) C0.hx C0.hb dX9_hour_29 (by decide) ?_
      obtain ⟨u4, hu4, h⟩ := Option.bind_eq_some_iff.mp h
      refine q_ldJ C0 hw hu4 dX9_hour_30 ?_
      refine lv_ldc2 C0.hx C0.hb C0.ho (C0.w kw_1078) dX9_hour_31 ?_
      refine W.lcmp C0.hx C0.hb dX9_hour_34 ?_
      refine lv_if_le (tgt := 41) C0.hx C0.hb dX9_hour_35 (by decide) (fun hc => ?_) (fun hc => ?_)
      · have h := (if_pos hc).symm.trans h
        refine lv_aload_n C0.hx C0.hb dX9_hour_41 rfl (lv_at hl 0 rfl) ?_
        obtain ⟨c5, hc5, h⟩ := Option.bind_eq_some_iff.mp h
        obtain ⟨S6, hS6, h⟩ := Option.bind_eq_some_iff.mp h
        refine q_callV (n := 0) (av := []) (rest := []) (st1 := []) C0 hw (m_X9_notes l b0 D cy S a0 hS6) hc5 rfl (by decide) (goodV kw_1079 kw_1081 kw_43 kw_72 kw_1082) ⟨rfl, rfl⟩ (by decide +kernel) ⟨(Nat.le_of_ble_eq_true rfl), (Nat.le_of_ble_eq_true rfl)⟩ rfl hl.1 rfl (Nat.le_of_ble_eq_true rfl) dX9_hour_42 ⟨Nat.zero_le _, Nat.zero_le _⟩ rfl (fun H locs hw => ?_)
        refine lv_aload_n C0.hx C0.hb dX9_hour_45 rfl (lv_at hl 0 rfl) ?_
        refine lv_iload_n C0.hx C0.hb dX9_hour_46 rfl (lv_at hl 1 rfl) ?_
        obtain ⟨c7, hc7, h⟩ := Option.bind_eq_some_iff.mp h
        obtain ⟨S8, hS8, h⟩ := Option.bind_eq_some_iff.mp h
        refine q_callV (n := 1) (av := [.int x1]) (rest := []) (st1 := []) C0 hw (m_X9_goesOn l b0 D cy S6 a0 x1 hS8) hc7 rfl (by decide) (goodV kw_1083 kw_1085 kw_44 kw_72 kw_1086) ⟨rfl, rfl⟩ (by decide +kernel) ⟨(Nat.le_of_ble_eq_true rfl), (Nat.le_of_ble_eq_true rfl)⟩ rfl hl.1 rfl (Nat.le_of_ble_eq_true rfl) dX9_hour_47 ⟨Nat.zero_le _, Nat.zero_le _⟩ rfl (fun H locs hw => ?_)
        refine lv_aload_n C0.hx C0.hb dX9_hour_50 rfl (lv_at hl 0 rfl) ?_
        refine lv_iconst (v := (2 : Int32)) C0.hx C0.hb dX9_hour_51 (by decide) ?_
        obtain ⟨c9, hc9, h⟩ := Option.bind_eq_some_iff.mp h
        obtain ⟨v10, hv10, h⟩ := Option.bind_eq_some_iff.mp h
        refine q_callV (n := 1) (av := [.int (2 : Int32)]) (rest := []) (st1 := [.int v10]) C0 hw (m_X9_at l b0 D cy S8 a0 (2 : Int32) hv10) hc9 rfl (by decide) (goodV kw_1013 kw_1015 kw_34 kw_72 kw_1016) ⟨rfl, rfl⟩ (by decide +kernel) ⟨(Nat.le_of_ble_eq_true rfl), (Nat.le_of_ble_eq_true rfl)⟩ rfl hl.1 rfl (Nat.le_of_ble_eq_true rfl) dX9_hour_52 ⟨Nat.zero_le _, Nat.zero_le _⟩ rfl (fun H locs hw => ?_)
        obtain rfl := Option.some.inj h
        exact q_reti C0 hw hr hlocks dX9_hour_55
      · have h := (if_neg hc).symm.trans h
        refine lv_ldc C0.hx C0.hb C0.ho (C0.w kw_955) dX9_hour_38 ?_
        obtain rfl := Option.some.inj h
        exact q_reti C0 hw hr hlocks dX9_hour_40
    · have h := (if_pos hc).symm.trans h
      refine lv_ldc C0.hx C0.hb C0.ho (C0.w kw_1077) dX9_hour_22 ?_
      obtain rfl := Option.some.inj h
      exact q_reti C0 hw hr hlocks dX9_hour_24
  · have h := (if_pos hc).symm.trans h
    refine lv_ldc C0.hx C0.hb C0.ho (C0.w kw_954) dX9_hour_12 ?_
    obtain rfl := Option.some.inj h
    exact q_reti C0 hw hr hlocks dX9_hour_14
abbrev rm_X9_turns : Room := { frames := 1, cells := 0, slots := 0, locals := 22 }
def f_X9_turns_b22 (a0 : Nat) (x1 : Int32) (x2 : Int32) (x3 : Int32) (t0 : Int32) (S : Mem) : Option (Int32 × Mem) :=
    (gR 9 7 S a0).bind fun r6 =>
      (if x3 = (0 : Int32) then
      (gR 9 7 S a0).bind fun r7 =>
      (ldJ S r7 x1).bind fun u8 =>
      (stJ S r6 x1 (u8 &&& (((1 : Int64) <<< (x2.toInt64 &&& 63)) ^^^ (-1 : Int64)))).bind fun S9 =>
      some (t0, S9)
      else
      (gR 9 7 S a0).bind fun r10 =>
      (ldJ S r10 x1).bind fun u11 =>
      (stJ S r6 x1 (u11 ||| ((1 : Int64) <<< (x2.toInt64 &&& 63)))).bind fun S12 =>
      some (t0, S12))
def f_X9_turns (a0 : Nat) (x1 : Int32) (x2 : Int32) (x3 : Int32) (S : Mem) : Option (Int32 × Mem) :=
    (ck 9 S a0).bind fun c1 =>
      (f_X9_notes a0 S).bind fun S2 =>
      (gR 9 7 S2 a0).bind fun r3 =>
      (ldJ S2 r3 x1).bind fun u4 =>
      (f_X9_has u4 x2).bind fun v5 =>
      (if v5 = (0 : Int32) then
      f_X9_turns_b22 a0 x1 x2 x3 (0 : Int32) S2
      else
      f_X9_turns_b22 a0 x1 x2 x3 (1 : Int32) S2)
set_option maxHeartbeats 4000000 in
set_option maxRecDepth 100000 in
theorem w_X9_turns_b22 {p : Program} {l : Launch} {e : Env} {s : State} {m : MethodId} {args : Array Value} {below : List Frame} {meth : Method} {c : Code} {b0 : Nat} {D : va_G} {cy : Nat → ClassId} {q : (Int32 × Mem)} (C0 : Cx p m c cX9_turns 5 s args RX9 D cy) (hr : meth.sig.returnType = some .int) (hlocks : meth.locks = false) : ∀ (a0 : Nat) (x1 : Int32) (x2 : Int32) (x3 : Int32) (t0 : Int32) (S : Mem) (H : Heap) (locs : List Loc) (ls : Array Slot), Wd b0 D cy S s.heap H locs → lv_has ls 5 [(0, .ref (b0 + a0)), (1, .int x1), (2, .int x2), (3, .int x3)] → f_X9_turns_b22  a0 x1 x2 x3 t0 S = some q → W p l e rm_X9_turns s m args below meth c H locs 0 0 (MQ below (Qp b0 D cy (some (.int q.1)) q.2) args s 0 0 (fun q => b0 ≤ q)) (F0 m 22 ls [.int t0]) := by
  intro a0 x1 x2 x3 t0 S H locs ls hw hl h
  rw [f_X9_turns_b22] at h
  refine lv_istore (lv' := [(4, .int t0), (0, .ref (b0 + a0)), (1, .int x1), (2, .int x2), (3, .int x3)]) C0.hx C0.hb dX9_turns_22 hl (by decide) rfl (fun ls hl => ?_)
  refine lv_aload_n C0.hx C0.hb dX9_turns_24 rfl (lv_at hl 1 rfl) ?_
  obtain ⟨r6, hr6, h⟩ := Option.bind_eq_some_iff.mp h
  refine q_getR C0 hw hr6 rfl in_9 (by decide) kw_869 dX9_turns_25 ?_
  refine lv_iload_n C0.hx C0.hb dX9_turns_28 rfl (lv_at hl 2 rfl) ?_
  refine lv_iload_n C0.hx C0.hb dX9_turns_29 rfl (lv_at hl 4 rfl) ?_
  refine lv_if_eq (tgt := 46) C0.hx C0.hb dX9_turns_30 (by decide) (fun hc => ?_) (fun hc => ?_)
  · have h := (if_pos hc).symm.trans h
    refine lv_aload_n C0.hx C0.hb dX9_turns_46 rfl (lv_at hl 1 rfl) ?_
    obtain ⟨r7, hr7, h⟩ := Option.bind_eq_some_iff.mp h
    refine q_getR C0 hw hr7 rfl in_9 (by decide) kw_869 dX9_turns_47 ?_
    refine lv_iload_n C0.hx C0.hb dX9_turns_50 rfl (lv_at hl 2 rfl) ?_
    obtain ⟨u8, hu8, h⟩ := Option.bind_eq_some_iff.mp h
    refine q_ldJ C0 hw hu8 dX9_turns_51 ?_
    refine lv_lconst (v := (1 : Int64)) C0.hx C0.hb dX9_turns_52 (by decide) ?_
    refine lv_iload_n C0.hx C0.hb dX9_turns_53 rfl (lv_at hl 3 rfl) ?_
    refine lv_lshl C0.hx C0.hb dX9_turns_54 rfl ?_
    refine lv_ldc2 C0.hx C0.hb C0.ho (C0.w kw_1123) dX9_turns_55 ?_
    refine lv_lxor C0.hx C0.hb dX9_turns_58 ?_
    refine lv_land C0.hx C0.hb dX9_turns_59 ?_
    obtain ⟨S9, hS9, h⟩ := Option.bind_eq_some_iff.mp h
    refine q_stJ C0 hw hS9 dX9_turns_60 (fun H locs hw => ?_)
    refine lv_iload C0.hx C0.hb dX9_turns_61 (lv_at hl 0 rfl) ?_
    obtain rfl := Option.some.inj h
    exact q_reti C0 hw hr hlocks dX9_turns_63
  · have h := (if_neg hc).symm.trans h
    refine lv_aload_n C0.hx C0.hb dX9_turns_33 rfl (lv_at hl 1 rfl) ?_
    obtain ⟨r10, hr10, h⟩ := Option.bind_eq_some_iff.mp h
    refine q_getR C0 hw hr10 rfl in_9 (by decide) kw_869 dX9_turns_34 ?_
    refine lv_iload_n C0.hx C0.hb dX9_turns_37 rfl (lv_at hl 2 rfl) ?_
    obtain ⟨u11, hu11, h⟩ := Option.bind_eq_some_iff.mp h
    refine q_ldJ C0 hw hu11 dX9_turns_38 ?_
    refine lv_lconst (v := (1 : Int64)) C0.hx C0.hb dX9_turns_39 (by decide) ?_
    refine lv_iload_n C0.hx C0.hb dX9_turns_40 rfl (lv_at hl 3 rfl) ?_
    refine lv_lshl C0.hx C0.hb dX9_turns_41 rfl ?_
    refine lv_lor C0.hx C0.hb dX9_turns_42 ?_
    refine lv_goto (tgt := 60) C0.hx C0.hb dX9_turns_43 (by decide) ?_
    obtain ⟨S12, hS12, h⟩ := Option.bind_eq_some_iff.mp h
    refine q_stJ C0 hw hS12 dX9_turns_60 (fun H locs hw => ?_)
    refine lv_iload C0.hx C0.hb dX9_turns_61 (lv_at hl 0 rfl) ?_
    obtain rfl := Option.some.inj h
    exact q_reti C0 hw hr hlocks dX9_turns_63
set_option maxHeartbeats 4000000 in
set_option maxRecDepth 100000 in
theorem m_X9_turns (l : Launch) (b0 : Nat) (D : va_G) (cy : Nat → ClassId) (S : Mem) (a0 : Nat) (x1 : Int32) (x2 : Int32) (x3 : Int32) {q : (Int32 × Mem)} (h : f_X9_turns a0 x1 x2 x3 S = some q) : Met l yX9_turns [.code yX9_turns cX9_turns 5 (some .int)] rm_X9_turns (Pr b0 D cy S [.ref (b0 + a0), .int x1, .int x2, .int x3]) (Qp b0 D cy (some (.int q.1)) q.2) 0 0 (fun q => b0 ≤ q) := by
  refine Met.ofW (cc := cX9_turns) (maxL := 5) (ret := some .int) (by decide) rfl ?_
  intro p e s m args below meth c s₁ B hml hv
  obtain ⟨rfl, hP, hK, hT⟩ := hv
  have C0 : Cx p m c cX9_turns 5 s (List.toArray [.ref (b0 + a0), .int x1, .int x2, .int x3]) RX9 D cy := ⟨⟨B.exec, B.bytes, hml, findClass_of_methodNamed B.named, fun w h => hT w h _⟩, hK, hT⟩
  have hr : meth.sig.returnType = some .int := B.returns
  have hlocks := B.notSynchronized
  have hw : Wd b0 D cy S s.heap s.heap [] := ⟨hP, va_S.rf⟩
  have hl := lv_entry ([.ref (b0 + a0), .int x1, .int x2, .int x3]) (n := 5) (Nat.le_of_ble_eq_true rfl)
  rw [lg_entry_eq]
  generalize (lg_sl ([.ref (b0 + a0), .int x1, .int x2, .int x3]) ++ List.replicate (5 - (lg_sl ([.ref (b0 + a0), .int x1, .int x2, .int x3])).length) Slot.unset).toArray = ls at hl ⊢
  have hl : lv_has ls 5 [(0, .ref (b0 + a0)), (1, .int x1), (2, .int x2), (3, .int x3)] := hl
  rw [f_X9_turns] at h
  show W p l e rm_X9_turns s m _ below meth c s.heap [] 0 0 _ _
  refine lv_aload_n C0.hx C0.hb dX9_turns_0 rfl (lv_at hl 0 rfl) ?_
  obtain ⟨c1, hc1, h⟩ := Option.bind_eq_some_iff.mp h
  obtain ⟨S2, hS2, h⟩ := Option.bind_eq_some_iff.mp h
  refine q_callV (n := 0) (av := []) (rest := []) (st1 := []) C0 hw (m_X9_notes l b0 D cy S a0 hS2) hc1 rfl (by decide) (goodV kw_1079 kw_1081 kw_43 kw_72 kw_1082) ⟨rfl, rfl⟩ (by decide +kernel) ⟨(Nat.le_of_ble_eq_true rfl), (Nat.le_of_ble_eq_true rfl)⟩ rfl hl.1 rfl (Nat.le_of_ble_eq_true rfl) dX9_turns_1 ⟨Nat.zero_le _, Nat.zero_le _⟩ rfl (fun H locs hw => ?_)
  refine lv_aload_n C0.hx C0.hb dX9_turns_4 rfl (lv_at hl 0 rfl) ?_
  obtain ⟨r3, hr3, h⟩ := Option.bind_eq_some_iff.mp h
  refine q_getR C0 hw hr3 rfl in_9 (by decide) kw_869 dX9_turns_5 ?_
  refine lv_iload_n C0.hx C0.hb dX9_turns_8 rfl (lv_at hl 1 rfl) ?_
  obtain ⟨u4, hu4, h⟩ := Option.bind_eq_some_iff.mp h
  refine q_ldJ C0 hw hu4 dX9_turns_9 ?_
  refine lv_iload_n C0.hx C0.hb dX9_turns_10 rfl (lv_at hl 2 rfl) ?_
  obtain ⟨v5, hv5, h⟩ := Option.bind_eq_some_iff.mp h
  refine q_callS (n := 2) (av := [.long u4, .int x2]) (rest := []) (st1 := [.int v5]) C0 hw (m_X9_has l b0 D cy S2 u4 x2 hv5) (goodS kw_1026 kw_1027 kw_72 kw_1028) ⟨rfl, rfl⟩ (by decide +kernel) ⟨(Nat.le_of_ble_eq_true rfl), (Nat.le_of_ble_eq_true rfl)⟩ rfl hl.1 rfl (Nat.le_of_ble_eq_true rfl) dX9_turns_11 ⟨Nat.zero_le _, Nat.zero_le _⟩ rfl (fun H locs hw => ?_)
  refine lv_if_eq (tgt := 21) C0.hx C0.hb dX9_turns_14 (by decide) (fun hc => ?_) (fun hc => ?_)
  · have h := (if_pos hc).symm.trans h
    refine lv_iconst (v := (0 : Int32)) C0.hx C0.hb dX9_turns_21 (by decide) ?_
    exact w_X9_turns_b22 C0 hr hlocks a0 x1 x2 x3 (0 : Int32) S2 _ _ _ hw (lv_sub hl [0, 1, 2, 3] rfl) h
  · have h := (if_neg hc).symm.trans h
    refine lv_iconst (v := (1 : Int32)) C0.hx C0.hb dX9_turns_17 (by decide) ?_
    refine lv_goto (tgt := 22) C0.hx C0.hb dX9_turns_18 (by decide) ?_
    exact w_X9_turns_b22 C0 hr hlocks a0 x1 x2 x3 (1 : Int32) S2 _ _ _ hw (lv_sub hl [0, 1, 2, 3] rfl) h
abbrev rm_X9_carpet : Room := { frames := 2, cells := 0, slots := 0, locals := 46 }
def f_X9_carpet (a0 : Nat) (x1 : Int32) (x2 : Int32) (S : Mem) : Option (Int32 × Mem) :=
    (ck 9 S a0).bind fun c1 =>
      (f_X9_isRoom a0 x1 S).bind fun v2 =>
      (if v2 = (0 : Int32) then
      some ((-1000000001 : Int32), S)
      else
      (ck 9 S a0).bind fun c3 =>
      (f_X9_turns a0 (4 : Int32) x1 x2 S).bind fun q4 =>
      some (q4.1, q4.2))
set_option maxHeartbeats 4000000 in
set_option maxRecDepth 100000 in
theorem m_X9_carpet (l : Launch) (b0 : Nat) (D : va_G) (cy : Nat → ClassId) (S : Mem) (a0 : Nat) (x1 : Int32) (x2 : Int32) {q : (Int32 × Mem)} (h : f_X9_carpet a0 x1 x2 S = some q) : Met l yX9_carpet [.code yX9_carpet cX9_carpet 3 (some .int)] rm_X9_carpet (Pr b0 D cy S [.ref (b0 + a0), .int x1, .int x2]) (Qp b0 D cy (some (.int q.1)) q.2) 0 0 (fun q => b0 ≤ q) := by
  refine Met.ofW (cc := cX9_carpet) (maxL := 3) (ret := some .int) (by decide) rfl ?_
  intro p e s m args below meth c s₁ B hml hv
  obtain ⟨rfl, hP, hK, hT⟩ := hv
  have C0 : Cx p m c cX9_carpet 3 s (List.toArray [.ref (b0 + a0), .int x1, .int x2]) RX9 D cy := ⟨⟨B.exec, B.bytes, hml, findClass_of_methodNamed B.named, fun w h => hT w h _⟩, hK, hT⟩
  have hr : meth.sig.returnType = some .int := B.returns
  have hlocks := B.notSynchronized
  have hw : Wd b0 D cy S s.heap s.heap [] := ⟨hP, va_S.rf⟩
  have hl := lv_entry ([.ref (b0 + a0), .int x1, .int x2]) (n := 3) (Nat.le_of_ble_eq_true rfl)
  rw [lg_entry_eq]
  generalize (lg_sl ([.ref (b0 + a0), .int x1, .int x2]) ++ List.replicate (3 - (lg_sl ([.ref (b0 + a0), .int x1, .int x2])).length) Slot.unset).toArray = ls at hl ⊢
  have hl : lv_has ls 3 [(0, .ref (b0 + a0)), (1, .int x1), (2, .int x2)] := hl
  rw [f_X9_carpet] at h
  show W p l e rm_X9_carpet s m _ below meth c s.heap [] 0 0 _ _
  refine lv_aload_n C0.hx C0.hb dX9_carpet_0 rfl (lv_at hl 0 rfl) ?_
  refine lv_iload_n C0.hx C0.hb dX9_carpet_1 rfl (lv_at hl 1 rfl) ?_
  obtain ⟨c1, hc1, h⟩ := Option.bind_eq_some_iff.mp h
  obtain ⟨v2, hv2, h⟩ := Option.bind_eq_some_iff.mp h
  refine q_callV (n := 1) (av := [.int x1]) (rest := []) (st1 := [.int v2]) C0 hw (m_X9_isRoom l b0 D cy S a0 x1 hv2) hc1 rfl (by decide) (goodV kw_1021 kw_1023 kw_35 kw_72 kw_1024) ⟨rfl, rfl⟩ (by decide +kernel) ⟨(Nat.le_of_ble_eq_true rfl), (Nat.le_of_ble_eq_true rfl)⟩ rfl hl.1 rfl (Nat.le_of_ble_eq_true rfl) dX9_carpet_2 ⟨Nat.zero_le _, Nat.zero_le _⟩ rfl (fun H locs hw => ?_)
  refine lv_if_eq (tgt := 18) C0.hx C0.hb dX9_carpet_5 (by decide) (fun hc => ?_) (fun hc => ?_)
  · have h := (if_pos hc).symm.trans h
    refine lv_ldc C0.hx C0.hb C0.ho (C0.w kw_1025) dX9_carpet_18 ?_
    obtain rfl := Option.some.inj h
    exact q_reti C0 hw hr hlocks dX9_carpet_20
  · have h := (if_neg hc).symm.trans h
    refine lv_aload_n C0.hx C0.hb dX9_carpet_8 rfl (lv_at hl 0 rfl) ?_
    refine lv_iconst (v := (4 : Int32)) C0.hx C0.hb dX9_carpet_9 (by decide) ?_
    refine lv_iload_n C0.hx C0.hb dX9_carpet_10 rfl (lv_at hl 1 rfl) ?_
    refine lv_iload_n C0.hx C0.hb dX9_carpet_11 rfl (lv_at hl 2 rfl) ?_
    obtain ⟨c3, hc3, h⟩ := Option.bind_eq_some_iff.mp h
    obtain ⟨q4, hq4, h⟩ := Option.bind_eq_some_iff.mp h
    refine q_callV (n := 3) (av := [.int (4 : Int32), .int x1, .int x2]) (rest := []) (st1 := [.int q4.1]) C0 hw (m_X9_turns l b0 D cy S a0 (4 : Int32) x1 x2 hq4) hc3 rfl (by decide) (goodV kw_1119 kw_1121 kw_51 kw_72 kw_1122) ⟨rfl, rfl⟩ (by decide +kernel) ⟨(Nat.le_of_ble_eq_true rfl), (Nat.le_of_ble_eq_true rfl)⟩ rfl hl.1 rfl (Nat.le_of_ble_eq_true rfl) dX9_carpet_12 ⟨Nat.zero_le _, Nat.zero_le _⟩ rfl (fun H locs hw => ?_)
    refine lv_goto (tgt := 20) C0.hx C0.hb dX9_carpet_15 (by decide) ?_
    obtain rfl := Option.some.inj h
    exact q_reti C0 hw hr hlocks dX9_carpet_20
abbrev rm_X9_noise : Room := { frames := 2, cells := 0, slots := 0, locals := 46 }
def f_X9_noise (a0 : Nat) (x1 : Int32) (x2 : Int32) (S : Mem) : Option (Int32 × Mem) :=
    (ck 9 S a0).bind fun c1 =>
      (f_X9_isRoom a0 x1 S).bind fun v2 =>
      (if v2 = (0 : Int32) then
      some ((-1000000001 : Int32), S)
      else
      (f_X9_in x2.toInt64 (0 : Int64) (9 : Int64)).bind fun v3 =>
      (if v3 = (0 : Int32) then
      some ((-1000000002 : Int32), S)
      else
      (ck 9 S a0).bind fun c4 =>
      (f_X9_notes a0 S).bind fun S5 =>
      (ck 9 S5 a0).bind fun c6 =>
      (f_X9_at a0 ((10 : Int32) + x1) S5).bind fun v7 =>
      (gR 9 7 S5 a0).bind fun r8 =>
      (stJ S5 r8 ((10 : Int32) + x1) x2.toInt64).bind fun S9 =>
      some (v7, S9)))
set_option maxHeartbeats 4000000 in
set_option maxRecDepth 100000 in
theorem m_X9_noise (l : Launch) (b0 : Nat) (D : va_G) (cy : Nat → ClassId) (S : Mem) (a0 : Nat) (x1 : Int32) (x2 : Int32) {q : (Int32 × Mem)} (h : f_X9_noise a0 x1 x2 S = some q) : Met l yX9_noise [.code yX9_noise cX9_noise 4 (some .int)] rm_X9_noise (Pr b0 D cy S [.ref (b0 + a0), .int x1, .int x2]) (Qp b0 D cy (some (.int q.1)) q.2) 0 0 (fun q => b0 ≤ q) := by
  refine Met.ofW (cc := cX9_noise) (maxL := 4) (ret := some .int) (by decide) rfl ?_
  intro p e s m args below meth c s₁ B hml hv
  obtain ⟨rfl, hP, hK, hT⟩ := hv
  have C0 : Cx p m c cX9_noise 4 s (List.toArray [.ref (b0 + a0), .int x1, .int x2]) RX9 D cy := ⟨⟨B.exec, B.bytes, hml, findClass_of_methodNamed B.named, fun w h => hT w h _⟩, hK, hT⟩
  have hr : meth.sig.returnType = some .int := B.returns
  have hlocks := B.notSynchronized
  have hw : Wd b0 D cy S s.heap s.heap [] := ⟨hP, va_S.rf⟩
  have hl := lv_entry ([.ref (b0 + a0), .int x1, .int x2]) (n := 4) (Nat.le_of_ble_eq_true rfl)
  rw [lg_entry_eq]
  generalize (lg_sl ([.ref (b0 + a0), .int x1, .int x2]) ++ List.replicate (4 - (lg_sl ([.ref (b0 + a0), .int x1, .int x2])).length) Slot.unset).toArray = ls at hl ⊢
  have hl : lv_has ls 4 [(0, .ref (b0 + a0)), (1, .int x1), (2, .int x2)] := hl
  rw [f_X9_noise] at h
  show W p l e rm_X9_noise s m _ below meth c s.heap [] 0 0 _ _
  refine lv_aload_n C0.hx C0.hb dX9_noise_0 rfl (lv_at hl 0 rfl) ?_
  refine lv_iload_n C0.hx C0.hb dX9_noise_1 rfl (lv_at hl 1 rfl) ?_
  obtain ⟨c1, hc1, h⟩ := Option.bind_eq_some_iff.mp h
  obtain ⟨v2, hv2, h⟩ := Option.bind_eq_some_iff.mp h
  refine q_callV (n := 1) (av := [.int x1]) (rest := []) (st1 := [.int v2]) C0 hw (m_X9_isRoom l b0 D cy S a0 x1 hv2) hc1 rfl (by decide) (goodV kw_1021 kw_1023 kw_35 kw_72 kw_1024) ⟨rfl, rfl⟩ (by decide +kernel) ⟨(Nat.le_of_ble_eq_true rfl), (Nat.le_of_ble_eq_true rfl)⟩ rfl hl.1 rfl (Nat.le_of_ble_eq_true rfl) dX9_noise_2 ⟨Nat.zero_le _, Nat.zero_le _⟩ rfl (fun H locs hw => ?_)
  refine lv_if_ne (tgt := 11) C0.hx C0.hb dX9_noise_5 (by decide) (fun hc => ?_) (fun hc => ?_)
  · have h := (if_neg hc).symm.trans h
    refine lv_iload_n C0.hx C0.hb dX9_noise_11 rfl (lv_at hl 2 rfl) ?_
    refine lv_i2l C0.hx C0.hb dX9_noise_12 rfl ?_
    refine lv_lconst (v := (0 : Int64)) C0.hx C0.hb dX9_noise_13 (by decide) ?_
    refine lv_ldc2 C0.hx C0.hb C0.ho (C0.w kw_1033) dX9_noise_14 ?_
    obtain ⟨v3, hv3, h⟩ := Option.bind_eq_some_iff.mp h
    refine q_callS (n := 3) (av := [.long x2.toInt64, .long (0 : Int64), .long (9 : Int64)]) (rest := []) (st1 := [.int v3]) C0 hw (m_X9_in l b0 D cy S x2.toInt64 (0 : Int64) (9 : Int64) hv3) (goodS kw_951 kw_952 kw_72 kw_953) ⟨rfl, rfl⟩ (by decide +kernel) ⟨(Nat.le_of_ble_eq_true rfl), (Nat.le_of_ble_eq_true rfl)⟩ rfl hl.1 rfl (Nat.le_of_ble_eq_true rfl) dX9_noise_17 ⟨Nat.zero_le _, Nat.zero_le _⟩ rfl (fun H locs hw => ?_)
    refine lv_if_ne (tgt := 26) C0.hx C0.hb dX9_noise_20 (by decide) (fun hc => ?_) (fun hc => ?_)
    · have h := (if_neg hc).symm.trans h
      refine lv_aload_n C0.hx C0.hb dX9_noise_26 rfl (lv_at hl 0 rfl) ?_
      obtain ⟨c4, hc4, h⟩ := Option.bind_eq_some_iff.mp h
      obtain ⟨S5, hS5, h⟩ := Option.bind_eq_some_iff.mp h
      refine q_callV (n := 0) (av := []) (rest := []) (st1 := []) C0 hw (m_X9_notes l b0 D cy S a0 hS5) hc4 rfl (by decide) (goodV kw_1079 kw_1081 kw_43 kw_72 kw_1082) ⟨rfl, rfl⟩ (by decide +kernel) ⟨(Nat.le_of_ble_eq_true rfl), (Nat.le_of_ble_eq_true rfl)⟩ rfl hl.1 rfl (Nat.le_of_ble_eq_true rfl) dX9_noise_27 ⟨Nat.zero_le _, Nat.zero_le _⟩ rfl (fun H locs hw => ?_)
      refine lv_aload_n C0.hx C0.hb dX9_noise_30 rfl (lv_at hl 0 rfl) ?_
      refine lv_bipush (v := (10 : Int32)) C0.hx C0.hb dX9_noise_31 (by decide) ?_
      refine lv_iload_n C0.hx C0.hb dX9_noise_33 rfl (lv_at hl 1 rfl) ?_
      refine lv_iadd C0.hx C0.hb dX9_noise_34 ?_
      obtain ⟨c6, hc6, h⟩ := Option.bind_eq_some_iff.mp h
      obtain ⟨v7, hv7, h⟩ := Option.bind_eq_some_iff.mp h
      refine q_callV (n := 1) (av := [.int ((10 : Int32) + x1)]) (rest := []) (st1 := [.int v7]) C0 hw (m_X9_at l b0 D cy S5 a0 ((10 : Int32) + x1) hv7) hc6 rfl (by decide) (goodV kw_1013 kw_1015 kw_34 kw_72 kw_1016) ⟨rfl, rfl⟩ (by decide +kernel) ⟨(Nat.le_of_ble_eq_true rfl), (Nat.le_of_ble_eq_true rfl)⟩ rfl hl.1 rfl (Nat.le_of_ble_eq_true rfl) dX9_noise_35 ⟨Nat.zero_le _, Nat.zero_le _⟩ rfl (fun H locs hw => ?_)
      refine lv_istore_n (lv' := [(3, .int v7), (0, .ref (b0 + a0)), (1, .int x1), (2, .int x2)]) C0.hx C0.hb dX9_noise_38 rfl hl (by decide) rfl (fun ls hl => ?_)
      refine lv_aload_n C0.hx C0.hb dX9_noise_39 rfl (lv_at hl 1 rfl) ?_
      obtain ⟨r8, hr8, h⟩ := Option.bind_eq_some_iff.mp h
      refine q_getR C0 hw hr8 rfl in_9 (by decide) kw_869 dX9_noise_40 ?_
      refine lv_bipush (v := (10 : Int32)) C0.hx C0.hb dX9_noise_43 (by decide) ?_
      refine lv_iload_n C0.hx C0.hb dX9_noise_45 rfl (lv_at hl 2 rfl) ?_
      refine lv_iadd C0.hx C0.hb dX9_noise_46 ?_
      refine lv_iload_n C0.hx C0.hb dX9_noise_47 rfl (lv_at hl 3 rfl) ?_
      refine lv_i2l C0.hx C0.hb dX9_noise_48 rfl ?_
      obtain ⟨S9, hS9, h⟩ := Option.bind_eq_some_iff.mp h
      refine q_stJ C0 hw hS9 dX9_noise_49 (fun H locs hw => ?_)
      refine lv_iload_n C0.hx C0.hb dX9_noise_50 rfl (lv_at hl 0 rfl) ?_
      obtain rfl := Option.some.inj h
      exact q_reti C0 hw hr hlocks dX9_noise_51
    · have h := (if_pos hc).symm.trans h
      refine lv_ldc C0.hx C0.hb C0.ho (C0.w kw_954) dX9_noise_23 ?_
      obtain rfl := Option.some.inj h
      exact q_reti C0 hw hr hlocks dX9_noise_25
  · have h := (if_pos hc).symm.trans h
    refine lv_ldc C0.hx C0.hb C0.ho (C0.w kw_1025) dX9_noise_8 ?_
    obtain rfl := Option.some.inj h
    exact q_reti C0 hw hr hlocks dX9_noise_10
abbrev rm_X9_nail : Room := { frames := 2, cells := 0, slots := 0, locals := 46 }
def f_X9_nail (a0 : Nat) (x1 : Int32) (x2 : Int32) (S : Mem) : Option (Int32 × Mem) :=
    (ck 9 S a0).bind fun c1 =>
      (f_X9_isRoom a0 x1 S).bind fun v2 =>
      (if v2 = (0 : Int32) then
      some ((-1000000001 : Int32), S)
      else
      (ck 9 S a0).bind fun c3 =>
      (f_X9_turns a0 (5 : Int32) x1 x2 S).bind fun q4 =>
      some (q4.1, q4.2))
set_option maxHeartbeats 4000000 in
set_option maxRecDepth 100000 in
theorem m_X9_nail (l : Launch) (b0 : Nat) (D : va_G) (cy : Nat → ClassId) (S : Mem) (a0 : Nat) (x1 : Int32) (x2 : Int32) {q : (Int32 × Mem)} (h : f_X9_nail a0 x1 x2 S = some q) : Met l yX9_nail [.code yX9_nail cX9_nail 3 (some .int)] rm_X9_nail (Pr b0 D cy S [.ref (b0 + a0), .int x1, .int x2]) (Qp b0 D cy (some (.int q.1)) q.2) 0 0 (fun q => b0 ≤ q) := by
  refine Met.ofW (cc := cX9_nail) (maxL := 3) (ret := some .int) (by decide) rfl ?_
  intro p e s m args below meth c s₁ B hml hv
  obtain ⟨rfl, hP, hK, hT⟩ := hv
  have C0 : Cx p m c cX9_nail 3 s (List.toArray [.ref (b0 + a0), .int x1, .int x2]) RX9 D cy := ⟨⟨B.exec, B.bytes, hml, findClass_of_methodNamed B.named, fun w h => hT w h _⟩, hK, hT⟩
  have hr : meth.sig.returnType = some .int := B.returns
  have hlocks := B.notSynchronized
  have hw : Wd b0 D cy S s.heap s.heap [] := ⟨hP, va_S.rf⟩
  have hl := lv_entry ([.ref (b0 + a0), .int x1, .int x2]) (n := 3) (Nat.le_of_ble_eq_true rfl)
  rw [lg_entry_eq]
  generalize (lg_sl ([.ref (b0 + a0), .int x1, .int x2]) ++ List.replicate (3 - (lg_sl ([.ref (b0 + a0), .int x1, .int x2])).length) Slot.unset).toArray = ls at hl ⊢
  have hl : lv_has ls 3 [(0, .ref (b0 + a0)), (1, .int x1), (2, .int x2)] := hl
  rw [f_X9_nail] at h
  show W p l e rm_X9_nail s m _ below meth c s.heap [] 0 0 _ _
  refine lv_aload_n C0.hx C0.hb dX9_nail_0 rfl (lv_at hl 0 rfl) ?_
  refine lv_iload_n C0.hx C0.hb dX9_nail_1 rfl (lv_at hl 1 rfl) ?_
  obtain ⟨c1, hc1, h⟩ := Option.bind_eq_some_iff.mp h
  obtain ⟨v2, hv2, h⟩ := Option.bind_eq_some_iff.mp h
  refine q_callV (n := 1) (av := [.int x1]) (rest := []) (st1 := [.int v2]) C0 hw (m_X9_isRoom l b0 D cy S a0 x1 hv2) hc1 rfl (by decide) (goodV kw_1021 kw_1023 kw_35 kw_72 kw_1024) ⟨rfl, rfl⟩ (by decide +kernel) ⟨(Nat.le_of_ble_eq_true rfl), (Nat.le_of_ble_eq_true rfl)⟩ rfl hl.1 rfl (Nat.le_of_ble_eq_true rfl) dX9_nail_2 ⟨Nat.zero_le _, Nat.zero_le _⟩ rfl (fun H locs hw => ?_)
  refine lv_if_eq (tgt := 18) C0.hx C0.hb dX9_nail_5 (by decide) (fun hc => ?_) (fun hc => ?_)
  · have h := (if_pos hc).symm.trans h
    refine lv_ldc C0.hx C0.hb C0.ho (C0.w kw_1025) dX9_nail_18 ?_
    obtain rfl := Option.some.inj h
    exact q_reti C0 hw hr hlocks dX9_nail_20
  · have h := (if_neg hc).symm.trans h
    refine lv_aload_n C0.hx C0.hb dX9_nail_8 rfl (lv_at hl 0 rfl) ?_
    refine lv_iconst (v := (5 : Int32)) C0.hx C0.hb dX9_nail_9 (by decide) ?_
    refine lv_iload_n C0.hx C0.hb dX9_nail_10 rfl (lv_at hl 1 rfl) ?_
    refine lv_iload_n C0.hx C0.hb dX9_nail_11 rfl (lv_at hl 2 rfl) ?_
    obtain ⟨c3, hc3, h⟩ := Option.bind_eq_some_iff.mp h
    obtain ⟨q4, hq4, h⟩ := Option.bind_eq_some_iff.mp h
    refine q_callV (n := 3) (av := [.int (5 : Int32), .int x1, .int x2]) (rest := []) (st1 := [.int q4.1]) C0 hw (m_X9_turns l b0 D cy S a0 (5 : Int32) x1 x2 hq4) hc3 rfl (by decide) (goodV kw_1119 kw_1121 kw_51 kw_72 kw_1122) ⟨rfl, rfl⟩ (by decide +kernel) ⟨(Nat.le_of_ble_eq_true rfl), (Nat.le_of_ble_eq_true rfl)⟩ rfl hl.1 rfl (Nat.le_of_ble_eq_true rfl) dX9_nail_12 ⟨Nat.zero_le _, Nat.zero_le _⟩ rfl (fun H locs hw => ?_)
    refine lv_goto (tgt := 20) C0.hx C0.hb dX9_nail_15 (by decide) ?_
    obtain rfl := Option.some.inj h
    exact q_reti C0 hw hr hlocks dX9_nail_20
abbrev rm_X9_brick : Room := { frames := 2, cells := 0, slots := 0, locals := 46 }
def f_X9_brick (a0 : Nat) (x1 : Int32) (x2 : Int32) (S : Mem) : Option (Int32 × Mem) :=
    (ck 9 S a0).bind fun c1 =>
      (f_X9_isDoor a0 x1 S).bind fun v2 =>
      (if v2 = (0 : Int32) then
      some ((-1000000001 : Int32), S)
      else
      (ck 9 S a0).bind fun c3 =>
      (f_X9_turns a0 (6 : Int32) x1 x2 S).bind fun q4 =>
      some (q4.1, q4.2))
set_option maxHeartbeats 4000000 in
set_option maxRecDepth 100000 in
theorem m_X9_brick (l : Launch) (b0 : Nat) (D : va_G) (cy : Nat → ClassId) (S : Mem) (a0 : Nat) (x1 : Int32) (x2 : Int32) {q : (Int32 × Mem)} (h : f_X9_brick a0 x1 x2 S = some q) : Met l yX9_brick [.code yX9_brick cX9_brick 3 (some .int)] rm_X9_brick (Pr b0 D cy S [.ref (b0 + a0), .int x1, .int x2]) (Qp b0 D cy (some (.int q.1)) q.2) 0 0 (fun q => b0 ≤ q) := by
  refine Met.ofW (cc := cX9_brick) (maxL := 3) (ret := some .int) (by decide) rfl ?_
  intro p e s m args below meth c s₁ B hml hv
  obtain ⟨rfl, hP, hK, hT⟩ := hv
  have C0 : Cx p m c cX9_brick 3 s (List.toArray [.ref (b0 + a0), .int x1, .int x2]) RX9 D cy := ⟨⟨B.exec, B.bytes, hml, findClass_of_methodNamed B.named, fun w h => hT w h _⟩, hK, hT⟩
  have hr : meth.sig.returnType = some .int := B.returns
  have hlocks := B.notSynchronized
  have hw : Wd b0 D cy S s.heap s.heap [] := ⟨hP, va_S.rf⟩
  have hl := lv_entry ([.ref (b0 + a0), .int x1, .int x2]) (n := 3) (Nat.le_of_ble_eq_true rfl)
  rw [lg_entry_eq]
  generalize (lg_sl ([.ref (b0 + a0), .int x1, .int x2]) ++ List.replicate (3 - (lg_sl ([.ref (b0 + a0), .int x1, .int x2])).length) Slot.unset).toArray = ls at hl ⊢
  have hl : lv_has ls 3 [(0, .ref (b0 + a0)), (1, .int x1), (2, .int x2)] := hl
  rw [f_X9_brick] at h
  show W p l e rm_X9_brick s m _ below meth c s.heap [] 0 0 _ _
  refine lv_aload_n C0.hx C0.hb dX9_brick_0 rfl (lv_at hl 0 rfl) ?_
  refine lv_iload_n C0.hx C0.hb dX9_brick_1 rfl (lv_at hl 1 rfl) ?_
  obtain ⟨c1, hc1, h⟩ := Option.bind_eq_some_iff.mp h
  obtain ⟨v2, hv2, h⟩ := Option.bind_eq_some_iff.mp h
  refine q_callV (n := 1) (av := [.int x1]) (rest := []) (st1 := [.int v2]) C0 hw (m_X9_isDoor l b0 D cy S a0 x1 hv2) hc1 rfl (by decide) (goodV kw_1136 kw_1138 kw_52 kw_72 kw_1139) ⟨rfl, rfl⟩ (by decide +kernel) ⟨(Nat.le_of_ble_eq_true rfl), (Nat.le_of_ble_eq_true rfl)⟩ rfl hl.1 rfl (Nat.le_of_ble_eq_true rfl) dX9_brick_2 ⟨Nat.zero_le _, Nat.zero_le _⟩ rfl (fun H locs hw => ?_)
  refine lv_if_eq (tgt := 19) C0.hx C0.hb dX9_brick_5 (by decide) (fun hc => ?_) (fun hc => ?_)
  · have h := (if_pos hc).symm.trans h
    refine lv_ldc C0.hx C0.hb C0.ho (C0.w kw_1025) dX9_brick_19 ?_
    obtain rfl := Option.some.inj h
    exact q_reti C0 hw hr hlocks dX9_brick_21
  · have h := (if_neg hc).symm.trans h
    refine lv_aload_n C0.hx C0.hb dX9_brick_8 rfl (lv_at hl 0 rfl) ?_
    refine lv_bipush (v := (6 : Int32)) C0.hx C0.hb dX9_brick_9 (by decide) ?_
    refine lv_iload_n C0.hx C0.hb dX9_brick_11 rfl (lv_at hl 1 rfl) ?_
    refine lv_iload_n C0.hx C0.hb dX9_brick_12 rfl (lv_at hl 2 rfl) ?_
    obtain ⟨c3, hc3, h⟩ := Option.bind_eq_some_iff.mp h
    obtain ⟨q4, hq4, h⟩ := Option.bind_eq_some_iff.mp h
    refine q_callV (n := 3) (av := [.int (6 : Int32), .int x1, .int x2]) (rest := []) (st1 := [.int q4.1]) C0 hw (m_X9_turns l b0 D cy S a0 (6 : Int32) x1 x2 hq4) hc3 rfl (by decide) (goodV kw_1119 kw_1121 kw_51 kw_72 kw_1122) ⟨rfl, rfl⟩ (by decide +kernel) ⟨(Nat.le_of_ble_eq_true rfl), (Nat.le_of_ble_eq_true rfl)⟩ rfl hl.1 rfl (Nat.le_of_ble_eq_true rfl) dX9_brick_13 ⟨Nat.zero_le _, Nat.zero_le _⟩ rfl (fun H locs hw => ?_)
    refine lv_goto (tgt := 21) C0.hx C0.hb dX9_brick_16 (by decide) ?_
    obtain rfl := Option.some.inj h
    exact q_reti C0 hw hr hlocks dX9_brick_21
abbrev rm_X9_chalk : Room := { frames := 2, cells := 0, slots := 0, locals := 46 }
def f_X9_chalk (a0 : Nat) (x1 : Int32) (x2 : Int32) (S : Mem) : Option (Int32 × Mem) :=
    (ck 9 S a0).bind fun c1 =>
      (f_X9_isPetition a0 x1 S).bind fun v2 =>
      (if v2 = (0 : Int32) then
      some ((-1000000001 : Int32), S)
      else
      (ck 9 S a0).bind fun c3 =>
      (f_X9_isRoom a0 x2 S).bind fun v4 =>
      (if v4 = (0 : Int32) then
      some ((-1000000001 : Int32), S)
      else
      (ck 9 S a0).bind fun c5 =>
      (f_X9_notes a0 S).bind fun S6 =>
      (ck 9 S6 a0).bind fun c7 =>
      (f_X9_at a0 ((26 : Int32) + x1) S6).bind fun v8 =>
      (gR 9 7 S6 a0).bind fun r9 =>
      (stJ S6 r9 ((26 : Int32) + x1) x2.toInt64).bind fun S10 =>
      (gR 9 7 S10 a0).bind fun r11 =>
      (ldJ S10 r11 (7 : Int32)).bind fun u12 =>
      (stJ S10 r11 (7 : Int32) (u12 &&& (((1 : Int64) <<< (x1.toInt64 &&& 63)) ^^^ (-1 : Int64)))).bind fun S13 =>
      some (v8, S13)))
set_option maxHeartbeats 4000000 in
set_option maxRecDepth 100000 in
theorem m_X9_chalk (l : Launch) (b0 : Nat) (D : va_G) (cy : Nat → ClassId) (S : Mem) (a0 : Nat) (x1 : Int32) (x2 : Int32) {q : (Int32 × Mem)} (h : f_X9_chalk a0 x1 x2 S = some q) : Met l yX9_chalk [.code yX9_chalk cX9_chalk 4 (some .int)] rm_X9_chalk (Pr b0 D cy S [.ref (b0 + a0), .int x1, .int x2]) (Qp b0 D cy (some (.int q.1)) q.2) 0 0 (fun q => b0 ≤ q) := by
  refine Met.ofW (cc := cX9_chalk) (maxL := 4) (ret := some .int) (by decide) rfl ?_
  intro p e s m args below meth c s₁ B hml hv
  obtain ⟨rfl, hP, hK, hT⟩ := hv
  have C0 : Cx p m c cX9_chalk 4 s (List.toArray [.ref (b0 + a0), .int x1, .int x2]) RX9 D cy := ⟨⟨B.exec, B.bytes, hml, findClass_of_methodNamed B.named, fun w h => hT w h _⟩, hK, hT⟩
  have hr : meth.sig.returnType = some .int := B.returns
  have hlocks := B.notSynchronized
  have hw : Wd b0 D cy S s.heap s.heap [] := ⟨hP, va_S.rf⟩
  have hl := lv_entry ([.ref (b0 + a0), .int x1, .int x2]) (n := 4) (Nat.le_of_ble_eq_true rfl)
  rw [lg_entry_eq]
  generalize (lg_sl ([.ref (b0 + a0), .int x1, .int x2]) ++ List.replicate (4 - (lg_sl ([.ref (b0 + a0), .int x1, .int x2])).length) Slot.unset).toArray = ls at hl ⊢
  have hl : lv_has ls 4 [(0, .ref (b0 + a0)), (1, .int x1), (2, .int x2)] := hl
  rw [f_X9_chalk] at h
  show W p l e rm_X9_chalk s m _ below meth c s.heap [] 0 0 _ _
  refine lv_aload_n C0.hx C0.hb dX9_chalk_0 rfl (lv_at hl 0 rfl) ?_
  refine lv_iload_n C0.hx C0.hb dX9_chalk_1 rfl (lv_at hl 1 rfl) ?_
  obtain ⟨c1, hc1, h⟩ := Option.bind_eq_some_iff.mp h
  obtain ⟨v2, hv2, h⟩ := Option.bind_eq_some_iff.mp h
  refine q_callV (n := 1) (av := [.int x1]) (rest := []) (st1 := [.int v2]) C0 hw (m_X9_isPetition l b0 D cy S a0 x1 hv2) hc1 rfl (by decide) (goodV kw_1055 kw_1057 kw_40 kw_72 kw_1058) ⟨rfl, rfl⟩ (by decide +kernel) ⟨(Nat.le_of_ble_eq_true rfl), (Nat.le_of_ble_eq_true rfl)⟩ rfl hl.1 rfl (Nat.le_of_ble_eq_true rfl) dX9_chalk_2 ⟨Nat.zero_le _, Nat.zero_le _⟩ rfl (fun H locs hw => ?_)
  refine lv_if_eq (tgt := 16) C0.hx C0.hb dX9_chalk_5 (by decide) (fun hc => ?_) (fun hc => ?_)
  · have h := (if_pos hc).symm.trans h
    refine lv_ldc C0.hx C0.hb C0.ho (C0.w kw_1025) dX9_chalk_16 ?_
    obtain rfl := Option.some.inj h
    exact q_reti C0 hw hr hlocks dX9_chalk_18
  · have h := (if_neg hc).symm.trans h
    refine lv_aload_n C0.hx C0.hb dX9_chalk_8 rfl (lv_at hl 0 rfl) ?_
    refine lv_iload_n C0.hx C0.hb dX9_chalk_9 rfl (lv_at hl 2 rfl) ?_
    obtain ⟨c3, hc3, h⟩ := Option.bind_eq_some_iff.mp h
    obtain ⟨v4, hv4, h⟩ := Option.bind_eq_some_iff.mp h
    refine q_callV (n := 1) (av := [.int x2]) (rest := []) (st1 := [.int v4]) C0 hw (m_X9_isRoom l b0 D cy S a0 x2 hv4) hc3 rfl (by decide) (goodV kw_1021 kw_1023 kw_35 kw_72 kw_1024) ⟨rfl, rfl⟩ (by decide +kernel) ⟨(Nat.le_of_ble_eq_true rfl), (Nat.le_of_ble_eq_true rfl)⟩ rfl hl.1 rfl (Nat.le_of_ble_eq_true rfl) dX9_chalk_10 ⟨Nat.zero_le _, Nat.zero_le _⟩ rfl (fun H locs hw => ?_)
    refine lv_if_ne (tgt := 19) C0.hx C0.hb dX9_chalk_13 (by decide) (fun hc => ?_) (fun hc => ?_)
    · have h := (if_neg hc).symm.trans h
      refine lv_aload_n C0.hx C0.hb dX9_chalk_19 rfl (lv_at hl 0 rfl) ?_
      obtain ⟨c5, hc5, h⟩ := Option.bind_eq_some_iff.mp h
      obtain ⟨S6, hS6, h⟩ := Option.bind_eq_some_iff.mp h
      refine q_callV (n := 0) (av := []) (rest := []) (st1 := []) C0 hw (m_X9_notes l b0 D cy S a0 hS6) hc5 rfl (by decide) (goodV kw_1079 kw_1081 kw_43 kw_72 kw_1082) ⟨rfl, rfl⟩ (by decide +kernel) ⟨(Nat.le_of_ble_eq_true rfl), (Nat.le_of_ble_eq_true rfl)⟩ rfl hl.1 rfl (Nat.le_of_ble_eq_true rfl) dX9_chalk_20 ⟨Nat.zero_le _, Nat.zero_le _⟩ rfl (fun H locs hw => ?_)
      refine lv_aload_n C0.hx C0.hb dX9_chalk_23 rfl (lv_at hl 0 rfl) ?_
      refine lv_bipush (v := (26 : Int32)) C0.hx C0.hb dX9_chalk_24 (by decide) ?_
      refine lv_iload_n C0.hx C0.hb dX9_chalk_26 rfl (lv_at hl 1 rfl) ?_
      refine lv_iadd C0.hx C0.hb dX9_chalk_27 ?_
      obtain ⟨c7, hc7, h⟩ := Option.bind_eq_some_iff.mp h
      obtain ⟨v8, hv8, h⟩ := Option.bind_eq_some_iff.mp h
      refine q_callV (n := 1) (av := [.int ((26 : Int32) + x1)]) (rest := []) (st1 := [.int v8]) C0 hw (m_X9_at l b0 D cy S6 a0 ((26 : Int32) + x1) hv8) hc7 rfl (by decide) (goodV kw_1013 kw_1015 kw_34 kw_72 kw_1016) ⟨rfl, rfl⟩ (by decide +kernel) ⟨(Nat.le_of_ble_eq_true rfl), (Nat.le_of_ble_eq_true rfl)⟩ rfl hl.1 rfl (Nat.le_of_ble_eq_true rfl) dX9_chalk_28 ⟨Nat.zero_le _, Nat.zero_le _⟩ rfl (fun H locs hw => ?_)
      refine lv_istore_n (lv' := [(3, .int v8), (0, .ref (b0 + a0)), (1, .int x1), (2, .int x2)]) C0.hx C0.hb dX9_chalk_31 rfl hl (by decide) rfl (fun ls hl => ?_)
      refine lv_aload_n C0.hx C0.hb dX9_chalk_32 rfl (lv_at hl 1 rfl) ?_
      obtain ⟨r9, hr9, h⟩ := Option.bind_eq_some_iff.mp h
      refine q_getR C0 hw hr9 rfl in_9 (by decide) kw_869 dX9_chalk_33 ?_
      refine lv_bipush (v := (26 : Int32)) C0.hx C0.hb dX9_chalk_36 (by decide) ?_
      refine lv_iload_n C0.hx C0.hb dX9_chalk_38 rfl (lv_at hl 2 rfl) ?_
      refine lv_iadd C0.hx C0.hb dX9_chalk_39 ?_
      refine lv_iload_n C0.hx C0.hb dX9_chalk_40 rfl (lv_at hl 3 rfl) ?_
      refine lv_i2l C0.hx C0.hb dX9_chalk_41 rfl ?_
      obtain ⟨S10, hS10, h⟩ := Option.bind_eq_some_iff.mp h
      refine q_stJ C0 hw hS10 dX9_chalk_42 (fun H locs hw => ?_)
      refine lv_aload_n C0.hx C0.hb dX9_chalk_43 rfl (lv_at hl 1 rfl) ?_
      obtain ⟨r11, hr11, h⟩ := Option.bind_eq_some_iff.mp h
      refine q_getR C0 hw hr11 rfl in_9 (by decide) kw_869 dX9_chalk_44 ?_
      refine lv_bipush (v := (7 : Int32)) C0.hx C0.hb dX9_chalk_47 (by decide) ?_
      refine lv_dup2_11 C0.hx C0.hb dX9_chalk_49 rfl rfl ?_
      obtain ⟨u12, hu12, h⟩ := Option.bind_eq_some_iff.mp h
      refine q_ldJ C0 hw hu12 dX9_chalk_50 ?_
      refine lv_lconst (v := (1 : Int64)) C0.hx C0.hb dX9_chalk_51 (by decide) ?_
      refine lv_iload_n C0.hx C0.hb dX9_chalk_52 rfl (lv_at hl 2 rfl) ?_
      refine lv_lshl C0.hx C0.hb dX9_chalk_53 rfl ?_
      refine lv_ldc2 C0.hx C0.hb C0.ho (C0.w kw_1123) dX9_chalk_54 ?_
      refine lv_lxor C0.hx C0.hb dX9_chalk_57 ?_
      refine lv_land C0.hx C0.hb dX9_chalk_58 ?_
      obtain ⟨S13, hS13, h⟩ := Option.bind_eq_some_iff.mp h
      refine q_stJ C0 hw hS13 dX9_chalk_59 (fun H locs hw => ?_)
      refine lv_iload_n C0.hx C0.hb dX9_chalk_60 rfl (lv_at hl 0 rfl) ?_
      obtain rfl := Option.some.inj h
      exact q_reti C0 hw hr hlocks dX9_chalk_61
    · have h := (if_pos hc).symm.trans h
      refine lv_ldc C0.hx C0.hb C0.ho (C0.w kw_1025) dX9_chalk_16 ?_
      obtain rfl := Option.some.inj h
      exact q_reti C0 hw hr hlocks dX9_chalk_18
abbrev rm_X9_sole : Room := { frames := 1, cells := 0, slots := 0, locals := 21 }
def f_X9_sole (a0 : Nat) (S : Mem) : Option (Int32 × Mem) :=
    (gI 9 0 S a0).bind fun v1 =>
      (if v1 = (0 : Int32) then
      some ((-1000000003 : Int32), S)
      else
      (ck 9 S a0).bind fun c2 =>
      (f_X9_notes a0 S).bind fun S3 =>
      (ck 9 S3 a0).bind fun c4 =>
      (f_X9_at a0 (3 : Int32) S3).bind fun v5 =>
      (gR 9 7 S3 a0).bind fun r6 =>
      (stJ S3 r6 (3 : Int32) (0 : Int64)).bind fun S7 =>
      some (v5, S7))
set_option maxHeartbeats 4000000 in
set_option maxRecDepth 100000 in
theorem m_X9_sole (l : Launch) (b0 : Nat) (D : va_G) (cy : Nat → ClassId) (S : Mem) (a0 : Nat) {q : (Int32 × Mem)} (h : f_X9_sole a0 S = some q) : Met l yX9_sole [.code yX9_sole cX9_sole 2 (some .int)] rm_X9_sole (Pr b0 D cy S [.ref (b0 + a0)]) (Qp b0 D cy (some (.int q.1)) q.2) 0 0 (fun q => b0 ≤ q) := by
  refine Met.ofW (cc := cX9_sole) (maxL := 2) (ret := some .int) (by decide) rfl ?_
  intro p e s m args below meth c s₁ B hml hv
  obtain ⟨rfl, hP, hK, hT⟩ := hv
  have C0 : Cx p m c cX9_sole 2 s (List.toArray [.ref (b0 + a0)]) RX9 D cy := ⟨⟨B.exec, B.bytes, hml, findClass_of_methodNamed B.named, fun w h => hT w h _⟩, hK, hT⟩
  have hr : meth.sig.returnType = some .int := B.returns
  have hlocks := B.notSynchronized
  have hw : Wd b0 D cy S s.heap s.heap [] := ⟨hP, va_S.rf⟩
  have hl := lv_entry ([.ref (b0 + a0)]) (n := 2) (Nat.le_of_ble_eq_true rfl)
  rw [lg_entry_eq]
  generalize (lg_sl ([.ref (b0 + a0)]) ++ List.replicate (2 - (lg_sl ([.ref (b0 + a0)])).length) Slot.unset).toArray = ls at hl ⊢
  have hl : lv_has ls 2 [(0, .ref (b0 + a0))] := hl
  rw [f_X9_sole] at h
  show W p l e rm_X9_sole s m _ below meth c s.heap [] 0 0 _ _
  refine lv_aload_n C0.hx C0.hb dX9_sole_0 rfl (lv_at hl 0 rfl) ?_
  obtain ⟨v1, hv1, h⟩ := Option.bind_eq_some_iff.mp h
  refine q_getI C0 hw hv1 rfl in_9 (by decide) kw_862 dX9_sole_1 ?_
  refine lv_if_ne (tgt := 10) C0.hx C0.hb dX9_sole_4 (by decide) (fun hc => ?_) (fun hc => ?_)
  · have h := (if_neg hc).symm.trans h
    refine lv_aload_n C0.hx C0.hb dX9_sole_10 rfl (lv_at hl 0 rfl) ?_
    obtain ⟨c2, hc2, h⟩ := Option.bind_eq_some_iff.mp h
    obtain ⟨S3, hS3, h⟩ := Option.bind_eq_some_iff.mp h
    refine q_callV (n := 0) (av := []) (rest := []) (st1 := []) C0 hw (m_X9_notes l b0 D cy S a0 hS3) hc2 rfl (by decide) (goodV kw_1079 kw_1081 kw_43 kw_72 kw_1082) ⟨rfl, rfl⟩ (by decide +kernel) ⟨(Nat.le_of_ble_eq_true rfl), (Nat.le_of_ble_eq_true rfl)⟩ rfl hl.1 rfl (Nat.le_of_ble_eq_true rfl) dX9_sole_11 ⟨Nat.zero_le _, Nat.zero_le _⟩ rfl (fun H locs hw => ?_)
    refine lv_aload_n C0.hx C0.hb dX9_sole_14 rfl (lv_at hl 0 rfl) ?_
    refine lv_iconst (v := (3 : Int32)) C0.hx C0.hb dX9_sole_15 (by decide) ?_
    obtain ⟨c4, hc4, h⟩ := Option.bind_eq_some_iff.mp h
    obtain ⟨v5, hv5, h⟩ := Option.bind_eq_some_iff.mp h
    refine q_callV (n := 1) (av := [.int (3 : Int32)]) (rest := []) (st1 := [.int v5]) C0 hw (m_X9_at l b0 D cy S3 a0 (3 : Int32) hv5) hc4 rfl (by decide) (goodV kw_1013 kw_1015 kw_34 kw_72 kw_1016) ⟨rfl, rfl⟩ (by decide +kernel) ⟨(Nat.le_of_ble_eq_true rfl), (Nat.le_of_ble_eq_true rfl)⟩ rfl hl.1 rfl (Nat.le_of_ble_eq_true rfl) dX9_sole_16 ⟨Nat.zero_le _, Nat.zero_le _⟩ rfl (fun H locs hw => ?_)
    refine lv_istore_n (lv' := [(1, .int v5), (0, .ref (b0 + a0))]) C0.hx C0.hb dX9_sole_19 rfl hl (by decide) rfl (fun ls hl => ?_)
    refine lv_aload_n C0.hx C0.hb dX9_sole_20 rfl (lv_at hl 1 rfl) ?_
    obtain ⟨r6, hr6, h⟩ := Option.bind_eq_some_iff.mp h
    refine q_getR C0 hw hr6 rfl in_9 (by decide) kw_869 dX9_sole_21 ?_
    refine lv_iconst (v := (3 : Int32)) C0.hx C0.hb dX9_sole_24 (by decide) ?_
    refine lv_lconst (v := (0 : Int64)) C0.hx C0.hb dX9_sole_25 (by decide) ?_
    obtain ⟨S7, hS7, h⟩ := Option.bind_eq_some_iff.mp h
    refine q_stJ C0 hw hS7 dX9_sole_26 (fun H locs hw => ?_)
    refine lv_iload_n C0.hx C0.hb dX9_sole_27 rfl (lv_at hl 0 rfl) ?_
    obtain rfl := Option.some.inj h
    exact q_reti C0 hw hr hlocks dX9_sole_28
  · have h := (if_pos hc).symm.trans h
    refine lv_ldc C0.hx C0.hb C0.ho (C0.w kw_1077) dX9_sole_7 ?_
    obtain rfl := Option.some.inj h
    exact q_reti C0 hw hr hlocks dX9_sole_9
