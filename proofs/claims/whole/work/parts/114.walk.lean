abbrev rm_X9_teach : Room := { frames := 2, cells := 0, slots := 0, locals := 45 }
def f_X9_teach (a0 : Nat) (x1 : Int32) (S : Mem) : Option (Int32 × Mem) :=
    (f_X9_isRule x1).bind fun v1 =>
      (if v1 = (0 : Int32) then
      some ((-1000000001 : Int32), S)
      else
      (gI 9 0 S a0).bind fun v2 =>
      (if v2 = (0 : Int32) then
      some ((-1000000003 : Int32), S)
      else
      (ck 9 S a0).bind fun c3 =>
      (f_X9_notes a0 S).bind fun S4 =>
      (ck 9 S4 a0).bind fun c5 =>
      (f_X9_at a0 (0 : Int32) S4).bind fun v6 =>
      (gR 9 7 S4 a0).bind fun r7 =>
      (stJ S4 r7 (0 : Int32) x1.toInt64).bind fun S8 =>
      some (v6, S8)))
set_option maxHeartbeats 4000000 in
set_option maxRecDepth 100000 in
theorem m_X9_teach (l : Launch) (b0 : Nat) (D : va_G) (cy : Nat → ClassId) (S : Mem) (a0 : Nat) (x1 : Int32) {q : (Int32 × Mem)} (h : f_X9_teach a0 x1 S = some q) : Met l yX9_teach [.code yX9_teach cX9_teach 3 (some .int)] rm_X9_teach (Pr b0 D cy S [.ref (b0 + a0), .int x1]) (Qp b0 D cy (some (.int q.1)) q.2) 0 0 (fun q => b0 ≤ q) := by
  refine Met.ofW (cc := cX9_teach) (maxL := 3) (ret := some .int) (by decide) rfl ?_
  intro p e s m args below meth c s₁ B hml hv
  obtain ⟨rfl, hP, hK, hT⟩ := hv
  have C0 : Cx p m c cX9_teach 3 s (List.toArray [.ref (b0 + a0), .int x1]) RX9 D cy := ⟨⟨B.exec, B.bytes, hml, findClass_of_methodNamed B.named, fun w h => hT w h _⟩, hK, hT⟩
  have hr : meth.sig.returnType = some .int := B.returns
  have hlocks := B.notSynchronized
  have hw : Wd b0 D cy S s.heap s.heap [] := ⟨hP, va_S.rf⟩
  have hl := lv_entry ([.ref (b0 + a0), .int x1]) (n := 3) (Nat.le_of_ble_eq_true rfl)
  rw [lg_entry_eq]
  generalize (lg_sl ([.ref (b0 + a0), .int x1]) ++ List.replicate (3 - (lg_sl ([.ref (b0 + a0), .int x1])).length) Slot.unset).toArray = ls at hl ⊢
  have hl : lv_has ls 3 [(0, .ref (b0 + a0)), (1, .int x1)] := hl
  rw [f_X9_teach] at h
  show W p l e rm_X9_teach s m _ below meth c s.heap [] 0 0 _ _
  refine lv_iload_n C0.hx C0.hb dX9_teach_0 rfl (lv_at hl 1 rfl) ?_
  obtain ⟨v1, hv1, h⟩ := Option.bind_eq_some_iff.mp h
  refine q_callS (n := 1) (av := [.int x1]) (rest := []) (st1 := [.int v1]) C0 hw (m_X9_isRule l b0 D cy S x1 hv1) (goodS kw_1152 kw_1153 kw_72 kw_1154) ⟨rfl, rfl⟩ (by decide +kernel) ⟨(Nat.le_of_ble_eq_true rfl), (Nat.le_of_ble_eq_true rfl)⟩ rfl hl.1 rfl (Nat.le_of_ble_eq_true rfl) dX9_teach_1 ⟨Nat.zero_le _, Nat.zero_le _⟩ rfl (fun H locs hw => ?_)
  refine lv_if_ne (tgt := 10) C0.hx C0.hb dX9_teach_4 (by decide) (fun hc => ?_) (fun hc => ?_)
  · have h := (if_neg hc).symm.trans h
    refine lv_aload_n C0.hx C0.hb dX9_teach_10 rfl (lv_at hl 0 rfl) ?_
    obtain ⟨v2, hv2, h⟩ := Option.bind_eq_some_iff.mp h
    refine q_getI C0 hw hv2 rfl in_9 (by decide) kw_862 dX9_teach_11 ?_
    refine lv_if_ne (tgt := 20) C0.hx C0.hb dX9_teach_14 (by decide) (fun hc => ?_) (fun hc => ?_)
    · have h := (if_neg hc).symm.trans h
      refine lv_aload_n C0.hx C0.hb dX9_teach_20 rfl (lv_at hl 0 rfl) ?_
      obtain ⟨c3, hc3, h⟩ := Option.bind_eq_some_iff.mp h
      obtain ⟨S4, hS4, h⟩ := Option.bind_eq_some_iff.mp h
      refine q_callV (n := 0) (av := []) (rest := []) (st1 := []) C0 hw (m_X9_notes l b0 D cy S a0 hS4) hc3 rfl (by decide) (goodV kw_1079 kw_1081 kw_43 kw_72 kw_1082) ⟨rfl, rfl⟩ (by decide +kernel) ⟨(Nat.le_of_ble_eq_true rfl), (Nat.le_of_ble_eq_true rfl)⟩ rfl hl.1 rfl (Nat.le_of_ble_eq_true rfl) dX9_teach_21 ⟨Nat.zero_le _, Nat.zero_le _⟩ rfl (fun H locs hw => ?_)
      refine lv_aload_n C0.hx C0.hb dX9_teach_24 rfl (lv_at hl 0 rfl) ?_
      refine lv_iconst (v := (0 : Int32)) C0.hx C0.hb dX9_teach_25 (by decide) ?_
      obtain ⟨c5, hc5, h⟩ := Option.bind_eq_some_iff.mp h
      obtain ⟨v6, hv6, h⟩ := Option.bind_eq_some_iff.mp h
      refine q_callV (n := 1) (av := [.int (0 : Int32)]) (rest := []) (st1 := [.int v6]) C0 hw (m_X9_at l b0 D cy S4 a0 (0 : Int32) hv6) hc5 rfl (by decide) (goodV kw_1013 kw_1015 kw_34 kw_72 kw_1016) ⟨rfl, rfl⟩ (by decide +kernel) ⟨(Nat.le_of_ble_eq_true rfl), (Nat.le_of_ble_eq_true rfl)⟩ rfl hl.1 rfl (Nat.le_of_ble_eq_true rfl) dX9_teach_26 ⟨Nat.zero_le _, Nat.zero_le _⟩ rfl (fun H locs hw => ?_)
      refine lv_istore_n (lv' := [(2, .int v6), (0, .ref (b0 + a0)), (1, .int x1)]) C0.hx C0.hb dX9_teach_29 rfl hl (by decide) rfl (fun ls hl => ?_)
      refine lv_aload_n C0.hx C0.hb dX9_teach_30 rfl (lv_at hl 1 rfl) ?_
      obtain ⟨r7, hr7, h⟩ := Option.bind_eq_some_iff.mp h
      refine q_getR C0 hw hr7 rfl in_9 (by decide) kw_869 dX9_teach_31 ?_
      refine lv_iconst (v := (0 : Int32)) C0.hx C0.hb dX9_teach_34 (by decide) ?_
      refine lv_iload_n C0.hx C0.hb dX9_teach_35 rfl (lv_at hl 2 rfl) ?_
      refine lv_i2l C0.hx C0.hb dX9_teach_36 rfl ?_
      obtain ⟨S8, hS8, h⟩ := Option.bind_eq_some_iff.mp h
      refine q_stJ C0 hw hS8 dX9_teach_37 (fun H locs hw => ?_)
      refine lv_iload_n C0.hx C0.hb dX9_teach_38 rfl (lv_at hl 0 rfl) ?_
      obtain rfl := Option.some.inj h
      exact q_reti C0 hw hr hlocks dX9_teach_39
    · have h := (if_pos hc).symm.trans h
      refine lv_ldc C0.hx C0.hb C0.ho (C0.w kw_1077) dX9_teach_17 ?_
      obtain rfl := Option.some.inj h
      exact q_reti C0 hw hr hlocks dX9_teach_19
  · have h := (if_pos hc).symm.trans h
    refine lv_ldc C0.hx C0.hb C0.ho (C0.w kw_1025) dX9_teach_7 ?_
    obtain rfl := Option.some.inj h
    exact q_reti C0 hw hr hlocks dX9_teach_9
abbrev rm_X9_drawn : Room := { frames := 0, cells := 0, slots := 0, locals := 0 }
def f_X9_drawn (a0 : Nat) (x1 : Int32) (S : Mem) : Option (Int32 × Mem) :=
    (gJ 9 8 S a0).bind fun u1 =>
      (pJ 9 8 S a0 (((u1 * (1103515245 : Int64)) + (12345 : Int64)) &&& (2147483647 : Int64))).bind fun S2 =>
      (gJ 9 8 S2 a0).bind fun u3 =>
      (rmJ (u3 / (65536 : Int64)) x1.toInt64).bind fun u4 =>
      some ((u4.toInt32), S2)
set_option maxHeartbeats 4000000 in
set_option maxRecDepth 100000 in
theorem m_X9_drawn (l : Launch) (b0 : Nat) (D : va_G) (cy : Nat → ClassId) (S : Mem) (a0 : Nat) (x1 : Int32) {q : (Int32 × Mem)} (h : f_X9_drawn a0 x1 S = some q) : Met l yX9_drawn [.code yX9_drawn cX9_drawn 2 (some .int)] rm_X9_drawn (Pr b0 D cy S [.ref (b0 + a0), .int x1]) (Qp b0 D cy (some (.int q.1)) q.2) 0 0 (fun q => b0 ≤ q) := by
  refine Met.ofW (cc := cX9_drawn) (maxL := 2) (ret := some .int) (by decide) rfl ?_
  intro p e s m args below meth c s₁ B hml hv
  obtain ⟨rfl, hP, hK, hT⟩ := hv
  have C0 : Cx p m c cX9_drawn 2 s (List.toArray [.ref (b0 + a0), .int x1]) RX9 D cy := ⟨⟨B.exec, B.bytes, hml, findClass_of_methodNamed B.named, fun w h => hT w h _⟩, hK, hT⟩
  have hr : meth.sig.returnType = some .int := B.returns
  have hlocks := B.notSynchronized
  have hw : Wd b0 D cy S s.heap s.heap [] := ⟨hP, va_S.rf⟩
  have hl := lv_entry ([.ref (b0 + a0), .int x1]) (n := 2) (Nat.le_of_ble_eq_true rfl)
  rw [lg_entry_eq]
  generalize (lg_sl ([.ref (b0 + a0), .int x1]) ++ List.replicate (2 - (lg_sl ([.ref (b0 + a0), .int x1])).length) Slot.unset).toArray = ls at hl ⊢
  have hl : lv_has ls 2 [(0, .ref (b0 + a0)), (1, .int x1)] := hl
  rw [f_X9_drawn] at h
  show W p l e rm_X9_drawn s m _ below meth c s.heap [] 0 0 _ _
  refine lv_aload_n C0.hx C0.hb dX9_drawn_0 rfl (lv_at hl 0 rfl) ?_
  refine lv_aload_n C0.hx C0.hb dX9_drawn_1 rfl (lv_at hl 0 rfl) ?_
  obtain ⟨u1, hu1, h⟩ := Option.bind_eq_some_iff.mp h
  refine q_getJ C0 hw hu1 rfl in_9 (by decide) kw_870 dX9_drawn_2 ?_
  refine lv_ldc2 C0.hx C0.hb C0.ho (C0.w kw_1168) dX9_drawn_5 ?_
  refine lv_lmul C0.hx C0.hb dX9_drawn_8 ?_
  refine lv_ldc2 C0.hx C0.hb C0.ho (C0.w kw_1169) dX9_drawn_9 ?_
  refine lv_ladd C0.hx C0.hb dX9_drawn_12 ?_
  refine lv_ldc2 C0.hx C0.hb C0.ho (C0.w kw_1170) dX9_drawn_13 ?_
  refine lv_land C0.hx C0.hb dX9_drawn_16 ?_
  obtain ⟨S2, hS2, h⟩ := Option.bind_eq_some_iff.mp h
  refine q_putJ C0 hw hS2 rfl in_9 tyX9_ok nmX9 ⟨by decide, by decide, rfl, rfl⟩ rfl kw_870 dX9_drawn_17 (fun H locs hw => ?_)
  refine lv_aload_n C0.hx C0.hb dX9_drawn_20 rfl (lv_at hl 0 rfl) ?_
  obtain ⟨u3, hu3, h⟩ := Option.bind_eq_some_iff.mp h
  refine q_getJ C0 hw hu3 rfl in_9 (by decide) kw_870 dX9_drawn_21 ?_
  refine lv_ldc2 C0.hx C0.hb C0.ho (C0.w kw_1171) dX9_drawn_24 ?_
  refine lv_ldiv C0.hx C0.hb dX9_drawn_27 (by decide) ?_
  refine lv_iload_n C0.hx C0.hb dX9_drawn_28 rfl (lv_at hl 1 rfl) ?_
  refine lv_i2l C0.hx C0.hb dX9_drawn_29 rfl ?_
  obtain ⟨u4, hu4, h⟩ := Option.bind_eq_some_iff.mp h
  refine q_rmJ C0 hu4 dX9_drawn_30 ?_
  refine lv_l2i C0.hx C0.hb dX9_drawn_31 rfl ?_
  obtain rfl := Option.some.inj h
  exact q_reti C0 hw hr hlocks dX9_drawn_32
abbrev rm_X9_stirs : Room := { frames := 1, cells := 0, slots := 0, locals := 21 }
def f_X9_stirs_b80 (t0 : Int64) (t1 : Int32) (t2 : Nat) (S : Mem) : Option Mem :=
    (stJ S t2 t1 t0).bind fun S17 =>
      some S17
def f_X9_stirs (a0 : Nat) (S : Mem) : Option Mem :=
    (gI 9 1 S a0).bind fun v1 =>
      (ck 9 S a0).bind fun c2 =>
      (f_X9_drawn a0 v1 S).bind fun q3 =>
      (ck 9 q3.2 a0).bind fun c4 =>
      (f_X9_drawn a0 (5 : Int32) q3.2).bind fun q5 =>
      (some ((1 : Int64) <<< (q3.1.toInt64 &&& 63))).bind fun u6 =>
      (if q5.1 = (2 : Int32) then
      (gR 9 7 q5.2 a0).bind fun r20 =>
      (ck 9 q5.2 a0).bind fun c21 =>
      (f_X9_drawn a0 (10 : Int32) q5.2).bind fun q22 =>
      (stJ q22.2 r20 ((10 : Int32) + q3.1) q22.1.toInt64).bind fun S23 =>
      some S23
      else
      (if (2 : Int32) ≤ q5.1 then
      (gR 9 7 q5.2 a0).bind fun r7 =>
      (if q5.1 = (3 : Int32) then
      (gR 9 7 q5.2 a0).bind fun r11 =>
      (ldJ q5.2 r11 (5 : Int32)).bind fun u12 =>
      (stJ q5.2 r7 (5 : Int32) (u12 ||| u6)).bind fun S13 =>
      some S13
      else
      (gR 9 7 q5.2 a0).bind fun r8 =>
      (ldJ q5.2 r8 (5 : Int32)).bind fun u9 =>
      (stJ q5.2 r7 (5 : Int32) (u9 &&& (u6 ^^^ (-1 : Int64)))).bind fun S10 =>
      some S10)
      else
      (gR 9 7 q5.2 a0).bind fun r14 =>
      (if q5.1 = (0 : Int32) then
      (gR 9 7 q5.2 a0).bind fun r18 =>
      (ldJ q5.2 r18 (4 : Int32)).bind fun u19 =>
      f_X9_stirs_b80 (u19 ||| u6) (4 : Int32) r14 q5.2
      else
      (gR 9 7 q5.2 a0).bind fun r15 =>
      (ldJ q5.2 r15 (4 : Int32)).bind fun u16 =>
      f_X9_stirs_b80 (u16 &&& (u6 ^^^ (-1 : Int64))) (4 : Int32) r14 q5.2)))
set_option maxHeartbeats 4000000 in
set_option maxRecDepth 100000 in
theorem w_X9_stirs_b80 {p : Program} {l : Launch} {e : Env} {s : State} {m : MethodId} {args : Array Value} {below : List Frame} {meth : Method} {c : Code} {b0 : Nat} {D : va_G} {cy : Nat → ClassId} {q : Mem} (C0 : Cx p m c cX9_stirs 5 s args RX9 D cy) (hr : meth.sig.returnType = none) (hlocks : meth.locks = false) : ∀ (t0 : Int64) (t1 : Int32) (t2 : Nat) (S : Mem) (H : Heap) (locs : List Loc) (ls : Array Slot), Wd b0 D cy S s.heap H locs → lv_has ls 5 [] → f_X9_stirs_b80  t0 t1 t2 S = some q → W p l e rm_X9_stirs s m args below meth c H locs 0 0 (MQ below (Qp b0 D cy none q) args s 0 0 (fun q => b0 ≤ q)) (F0 m 80 ls [.long t0, .int t1, .ref (b0 + t2)]) := by
  intro t0 t1 t2 S H locs ls hw hl h
  rw [f_X9_stirs_b80] at h
  obtain ⟨S17, hS17, h⟩ := Option.bind_eq_some_iff.mp h
  refine q_stJ C0 hw hS17 dX9_stirs_80 (fun H locs hw => ?_)
  refine lv_goto (tgt := 118) C0.hx C0.hb dX9_stirs_81 (by decide) ?_
  obtain rfl := Option.some.inj h
  exact q_retv C0 hw hr hlocks dX9_stirs_118
set_option maxHeartbeats 4000000 in
set_option maxRecDepth 100000 in
theorem m_X9_stirs (l : Launch) (b0 : Nat) (D : va_G) (cy : Nat → ClassId) (S : Mem) (a0 : Nat) {q : Mem} (h : f_X9_stirs a0 S = some q) : Met l yX9_stirs [.code yX9_stirs cX9_stirs 5 (none)] rm_X9_stirs (Pr b0 D cy S [.ref (b0 + a0)]) (Qp b0 D cy none q) 0 0 (fun q => b0 ≤ q) := by
  refine Met.ofW (cc := cX9_stirs) (maxL := 5) (ret := none) (by decide) rfl ?_
  intro p e s m args below meth c s₁ B hml hv
  obtain ⟨rfl, hP, hK, hT⟩ := hv
  have C0 : Cx p m c cX9_stirs 5 s (List.toArray [.ref (b0 + a0)]) RX9 D cy := ⟨⟨B.exec, B.bytes, hml, findClass_of_methodNamed B.named, fun w h => hT w h _⟩, hK, hT⟩
  have hr : meth.sig.returnType = none := B.returns
  have hlocks := B.notSynchronized
  have hw : Wd b0 D cy S s.heap s.heap [] := ⟨hP, va_S.rf⟩
  have hl := lv_entry ([.ref (b0 + a0)]) (n := 5) (Nat.le_of_ble_eq_true rfl)
  rw [lg_entry_eq]
  generalize (lg_sl ([.ref (b0 + a0)]) ++ List.replicate (5 - (lg_sl ([.ref (b0 + a0)])).length) Slot.unset).toArray = ls at hl ⊢
  have hl : lv_has ls 5 [(0, .ref (b0 + a0))] := hl
  rw [f_X9_stirs] at h
  show W p l e rm_X9_stirs s m _ below meth c s.heap [] 0 0 _ _
  refine lv_aload_n C0.hx C0.hb dX9_stirs_0 rfl (lv_at hl 0 rfl) ?_
  refine lv_aload_n C0.hx C0.hb dX9_stirs_1 rfl (lv_at hl 0 rfl) ?_
  obtain ⟨v1, hv1, h⟩ := Option.bind_eq_some_iff.mp h
  refine q_getI C0 hw hv1 rfl in_9 (by decide) kw_863 dX9_stirs_2 ?_
  obtain ⟨c2, hc2, h⟩ := Option.bind_eq_some_iff.mp h
  obtain ⟨q3, hq3, h⟩ := Option.bind_eq_some_iff.mp h
  refine q_callV (n := 1) (av := [.int v1]) (rest := []) (st1 := [.int q3.1]) C0 hw (m_X9_drawn l b0 D cy S a0 v1 hq3) hc2 rfl (by decide) (goodV kw_1164 kw_1166 kw_54 kw_72 kw_1167) ⟨rfl, rfl⟩ (by decide +kernel) ⟨(Nat.le_of_ble_eq_true rfl), (Nat.le_of_ble_eq_true rfl)⟩ rfl hl.1 rfl (Nat.le_of_ble_eq_true rfl) dX9_stirs_5 ⟨Nat.zero_le _, Nat.zero_le _⟩ rfl (fun H locs hw => ?_)
  refine lv_istore_n (lv' := [(1, .int q3.1), (0, .ref (b0 + a0))]) C0.hx C0.hb dX9_stirs_8 rfl hl (by decide) rfl (fun ls hl => ?_)
  refine lv_aload_n C0.hx C0.hb dX9_stirs_9 rfl (lv_at hl 1 rfl) ?_
  refine lv_iconst (v := (5 : Int32)) C0.hx C0.hb dX9_stirs_10 (by decide) ?_
  obtain ⟨c4, hc4, h⟩ := Option.bind_eq_some_iff.mp h
  obtain ⟨q5, hq5, h⟩ := Option.bind_eq_some_iff.mp h
  refine q_callV (n := 1) (av := [.int (5 : Int32)]) (rest := []) (st1 := [.int q5.1]) C0 hw (m_X9_drawn l b0 D cy q3.2 a0 (5 : Int32) hq5) hc4 rfl (by decide) (goodV kw_1164 kw_1166 kw_54 kw_72 kw_1167) ⟨rfl, rfl⟩ (by decide +kernel) ⟨(Nat.le_of_ble_eq_true rfl), (Nat.le_of_ble_eq_true rfl)⟩ rfl hl.1 rfl (Nat.le_of_ble_eq_true rfl) dX9_stirs_11 ⟨Nat.zero_le _, Nat.zero_le _⟩ rfl (fun H locs hw => ?_)
  refine lv_istore_n (lv' := [(2, .int q5.1), (1, .int q3.1), (0, .ref (b0 + a0))]) C0.hx C0.hb dX9_stirs_14 rfl hl (by decide) rfl (fun ls hl => ?_)
  refine lv_lconst (v := (1 : Int64)) C0.hx C0.hb dX9_stirs_15 (by decide) ?_
  refine lv_iload_n C0.hx C0.hb dX9_stirs_16 rfl (lv_at hl 1 rfl) ?_
  refine lv_lshl C0.hx C0.hb dX9_stirs_17 rfl ?_
  obtain ⟨u6, hu6, h⟩ := Option.bind_eq_some_iff.mp h
  refine q_nmJ hu6 ?_
  refine lv_lstore_n (lv' := [(3, .long u6), (2, .int q5.1), (1, .int q3.1), (0, .ref (b0 + a0))]) C0.hx C0.hb dX9_stirs_18 rfl hl (by decide) rfl (fun ls hl => ?_)
  refine lv_iload_n C0.hx C0.hb dX9_stirs_19 rfl (lv_at hl 1 rfl) ?_
  refine lv_iconst (v := (2 : Int32)) C0.hx C0.hb dX9_stirs_20 (by decide) ?_
  refine lv_icmp_ne (tgt := 43) C0.hx C0.hb dX9_stirs_21 (by decide) (fun hc => ?_) (fun hc => ?_)
  · have h := (if_neg hc).symm.trans h
    refine lv_iload_n C0.hx C0.hb dX9_stirs_43 rfl (lv_at hl 1 rfl) ?_
    refine lv_iconst (v := (2 : Int32)) C0.hx C0.hb dX9_stirs_44 (by decide) ?_
    refine lv_icmp_ge (tgt := 84) C0.hx C0.hb dX9_stirs_45 (by decide) (fun hc => ?_) (fun hc => ?_)
    · have h := (if_pos hc).symm.trans h
      refine lv_aload_n C0.hx C0.hb dX9_stirs_84 rfl (lv_at hl 3 rfl) ?_
      obtain ⟨r7, hr7, h⟩ := Option.bind_eq_some_iff.mp h
      refine q_getR C0 hw hr7 rfl in_9 (by decide) kw_869 dX9_stirs_85 ?_
      refine lv_iconst (v := (5 : Int32)) C0.hx C0.hb dX9_stirs_88 (by decide) ?_
      refine lv_iload_n C0.hx C0.hb dX9_stirs_89 rfl (lv_at hl 1 rfl) ?_
      refine lv_iconst (v := (3 : Int32)) C0.hx C0.hb dX9_stirs_90 (by decide) ?_
      refine lv_icmp_ne (tgt := 105) C0.hx C0.hb dX9_stirs_91 (by decide) (fun hc => ?_) (fun hc => ?_)
      · have h := (if_neg hc).symm.trans h
        refine lv_aload_n C0.hx C0.hb dX9_stirs_105 rfl (lv_at hl 3 rfl) ?_
        obtain ⟨r8, hr8, h⟩ := Option.bind_eq_some_iff.mp h
        refine q_getR C0 hw hr8 rfl in_9 (by decide) kw_869 dX9_stirs_106 ?_
        refine lv_iconst (v := (5 : Int32)) C0.hx C0.hb dX9_stirs_109 (by decide) ?_
        obtain ⟨u9, hu9, h⟩ := Option.bind_eq_some_iff.mp h
        refine q_ldJ C0 hw hu9 dX9_stirs_110 ?_
        refine lv_lload_n C0.hx C0.hb dX9_stirs_111 rfl (lv_at hl 0 rfl) ?_
        refine lv_ldc2 C0.hx C0.hb C0.ho (C0.w kw_1123) dX9_stirs_112 ?_
        refine lv_lxor C0.hx C0.hb dX9_stirs_115 ?_
        refine lv_land C0.hx C0.hb dX9_stirs_116 ?_
        obtain ⟨S10, hS10, h⟩ := Option.bind_eq_some_iff.mp h
        refine q_stJ C0 hw hS10 dX9_stirs_117 (fun H locs hw => ?_)
        obtain rfl := Option.some.inj h
        exact q_retv C0 hw hr hlocks dX9_stirs_118
      · have h := (if_pos hc).symm.trans h
        refine lv_aload_n C0.hx C0.hb dX9_stirs_94 rfl (lv_at hl 3 rfl) ?_
        obtain ⟨r11, hr11, h⟩ := Option.bind_eq_some_iff.mp h
        refine q_getR C0 hw hr11 rfl in_9 (by decide) kw_869 dX9_stirs_95 ?_
        refine lv_iconst (v := (5 : Int32)) C0.hx C0.hb dX9_stirs_98 (by decide) ?_
        obtain ⟨u12, hu12, h⟩ := Option.bind_eq_some_iff.mp h
        refine q_ldJ C0 hw hu12 dX9_stirs_99 ?_
        refine lv_lload_n C0.hx C0.hb dX9_stirs_100 rfl (lv_at hl 0 rfl) ?_
        refine lv_lor C0.hx C0.hb dX9_stirs_101 ?_
        refine lv_goto (tgt := 117) C0.hx C0.hb dX9_stirs_102 (by decide) ?_
        obtain ⟨S13, hS13, h⟩ := Option.bind_eq_some_iff.mp h
        refine q_stJ C0 hw hS13 dX9_stirs_117 (fun H locs hw => ?_)
        obtain rfl := Option.some.inj h
        exact q_retv C0 hw hr hlocks dX9_stirs_118
    · have h := (if_neg hc).symm.trans h
      refine lv_aload_n C0.hx C0.hb dX9_stirs_48 rfl (lv_at hl 3 rfl) ?_
      obtain ⟨r14, hr14, h⟩ := Option.bind_eq_some_iff.mp h
      refine q_getR C0 hw hr14 rfl in_9 (by decide) kw_869 dX9_stirs_49 ?_
      refine lv_iconst (v := (4 : Int32)) C0.hx C0.hb dX9_stirs_52 (by decide) ?_
      refine lv_iload_n C0.hx C0.hb dX9_stirs_53 rfl (lv_at hl 1 rfl) ?_
      refine lv_if_ne (tgt := 68) C0.hx C0.hb dX9_stirs_54 (by decide) (fun hc => ?_) (fun hc => ?_)
      · have h := (if_neg hc).symm.trans h
        refine lv_aload_n C0.hx C0.hb dX9_stirs_68 rfl (lv_at hl 3 rfl) ?_
        obtain ⟨r15, hr15, h⟩ := Option.bind_eq_some_iff.mp h
        refine q_getR C0 hw hr15 rfl in_9 (by decide) kw_869 dX9_stirs_69 ?_
        refine lv_iconst (v := (4 : Int32)) C0.hx C0.hb dX9_stirs_72 (by decide) ?_
        obtain ⟨u16, hu16, h⟩ := Option.bind_eq_some_iff.mp h
        refine q_ldJ C0 hw hu16 dX9_stirs_73 ?_
        refine lv_lload_n C0.hx C0.hb dX9_stirs_74 rfl (lv_at hl 0 rfl) ?_
        refine lv_ldc2 C0.hx C0.hb C0.ho (C0.w kw_1123) dX9_stirs_75 ?_
        refine lv_lxor C0.hx C0.hb dX9_stirs_78 ?_
        refine lv_land C0.hx C0.hb dX9_stirs_79 ?_
        exact w_X9_stirs_b80 C0 hr hlocks (u16 &&& (u6 ^^^ (-1 : Int64))) (4 : Int32) r14 q5.2 _ _ _ hw (lv_sub hl [] rfl) h
      · have h := (if_pos hc).symm.trans h
        refine lv_aload_n C0.hx C0.hb dX9_stirs_57 rfl (lv_at hl 3 rfl) ?_
        obtain ⟨r18, hr18, h⟩ := Option.bind_eq_some_iff.mp h
        refine q_getR C0 hw hr18 rfl in_9 (by decide) kw_869 dX9_stirs_58 ?_
        refine lv_iconst (v := (4 : Int32)) C0.hx C0.hb dX9_stirs_61 (by decide) ?_
        obtain ⟨u19, hu19, h⟩ := Option.bind_eq_some_iff.mp h
        refine q_ldJ C0 hw hu19 dX9_stirs_62 ?_
        refine lv_lload_n C0.hx C0.hb dX9_stirs_63 rfl (lv_at hl 0 rfl) ?_
        refine lv_lor C0.hx C0.hb dX9_stirs_64 ?_
        refine lv_goto (tgt := 80) C0.hx C0.hb dX9_stirs_65 (by decide) ?_
        exact w_X9_stirs_b80 C0 hr hlocks (u19 ||| u6) (4 : Int32) r14 q5.2 _ _ _ hw (lv_sub hl [] rfl) h
  · have h := (if_pos hc).symm.trans h
    refine lv_aload_n C0.hx C0.hb dX9_stirs_24 rfl (lv_at hl 3 rfl) ?_
    obtain ⟨r20, hr20, h⟩ := Option.bind_eq_some_iff.mp h
    refine q_getR C0 hw hr20 rfl in_9 (by decide) kw_869 dX9_stirs_25 ?_
    refine lv_bipush (v := (10 : Int32)) C0.hx C0.hb dX9_stirs_28 (by decide) ?_
    refine lv_iload_n C0.hx C0.hb dX9_stirs_30 rfl (lv_at hl 2 rfl) ?_
    refine lv_iadd C0.hx C0.hb dX9_stirs_31 ?_
    refine lv_aload_n C0.hx C0.hb dX9_stirs_32 rfl (lv_at hl 3 rfl) ?_
    refine lv_bipush (v := (10 : Int32)) C0.hx C0.hb dX9_stirs_33 (by decide) ?_
    obtain ⟨c21, hc21, h⟩ := Option.bind_eq_some_iff.mp h
    obtain ⟨q22, hq22, h⟩ := Option.bind_eq_some_iff.mp h
    refine q_callV (n := 1) (av := [.int (10 : Int32)]) (rest := [.int ((10 : Int32) + q3.1), .ref (b0 + r20)]) (st1 := [.int q22.1, .int ((10 : Int32) + q3.1), .ref (b0 + r20)]) C0 hw (m_X9_drawn l b0 D cy q5.2 a0 (10 : Int32) hq22) hc21 rfl (by decide) (goodV kw_1164 kw_1166 kw_54 kw_72 kw_1167) ⟨rfl, rfl⟩ (by decide +kernel) ⟨(Nat.le_of_ble_eq_true rfl), (Nat.le_of_ble_eq_true rfl)⟩ rfl hl.1 rfl (Nat.le_of_ble_eq_true rfl) dX9_stirs_35 ⟨Nat.zero_le _, Nat.zero_le _⟩ rfl (fun H locs hw => ?_)
    refine lv_i2l C0.hx C0.hb dX9_stirs_38 rfl ?_
    obtain ⟨S23, hS23, h⟩ := Option.bind_eq_some_iff.mp h
    refine q_stJ C0 hw hS23 dX9_stirs_39 (fun H locs hw => ?_)
    refine lv_goto (tgt := 118) C0.hx C0.hb dX9_stirs_40 (by decide) ?_
    obtain rfl := Option.some.inj h
    exact q_retv C0 hw hr hlocks dX9_stirs_118
abbrev rm_X9_drift : Room := { frames := 4, cells := 0, slots := 0, locals := 109 }
def f_X9_drift_b47 : Nat → Nat → Int32 → Int32 → Mem → Option (Int32 × Mem)
  | 0, _, _, _, _ => none
  | n + 1, a0, x1, x2, S =>
    (if x1 ≤ x2 then
      (ck 9 S a0).bind fun c7 =>
      (f_X9_at a0 (2 : Int32) S).bind fun v8 =>
      some (v8, S)
      else
      (ck 9 S a0).bind fun c9 =>
      (f_X9_stirs a0 S).bind fun S10 =>
      (ck 9 S10 a0).bind fun c11 =>
      (f_X9_goesBy a0 S10).bind fun S12 =>
      (some (x2 + (1 : Int32))).bind fun v13 =>
      f_X9_drift_b47  n a0 x1 v13 S12)
def f_X9_drift (a0 : Nat) (x1 : Int32) (S : Mem) : Option (Int32 × Mem) :=
    (f_X9_in x1.toInt64 (1 : Int64) (60 : Int64)).bind fun v1 =>
      (if v1 = (0 : Int32) then
      some ((-1000000002 : Int32), S)
      else
      (gI 9 1 S a0).bind fun v2 =>
      (if v2 = (0 : Int32) then
      some ((-1000000003 : Int32), S)
      else
      (gR 9 7 S a0).bind fun r3 =>
      (ldJ S r3 (1 : Int32)).bind fun u4 =>
      (if (lg_cmp u4 (9000 : Int64)) ≤ (0 : Int32) then
      (ck 9 S a0).bind fun c5 =>
      (f_X9_notes a0 S).bind fun S6 =>
      f_X9_drift_b47 FU a0 x1 (0 : Int32) S6
      else
      some ((-1000000004 : Int32), S))))
set_option maxHeartbeats 4000000 in
set_option maxRecDepth 100000 in
theorem w_X9_drift_b47 {p : Program} {l : Launch} {e : Env} {s : State} {m : MethodId} {args : Array Value} {below : List Frame} {meth : Method} {c : Code} {b0 : Nat} {D : va_G} {cy : Nat → ClassId} {q : (Int32 × Mem)} (C0 : Cx p m c cX9_drift 3 s args RX9 D cy) (hr : meth.sig.returnType = some .int) (hlocks : meth.locks = false) : ∀ (n : Nat) (a0 : Nat) (x1 : Int32) (x2 : Int32) (S : Mem) (H : Heap) (locs : List Loc) (ls : Array Slot), Wd b0 D cy S s.heap H locs → lv_has ls 3 [(0, .ref (b0 + a0)), (1, .int x1), (2, .int x2)] → f_X9_drift_b47  n a0 x1 x2 S = some q → W p l e rm_X9_drift s m args below meth c H locs 0 0 (MQ below (Qp b0 D cy (some (.int q.1)) q.2) args s 0 0 (fun q => b0 ≤ q)) (F0 m 47 ls []) := by
  intro n
  induction n with
  | zero => intro a0 x1 x2 S H locs ls hw hl h; exact absurd h (by simp [f_X9_drift_b47])
  | succ n ih =>
    intro a0 x1 x2 S H locs ls hw hl h
    rw [f_X9_drift_b47] at h
    refine lv_iload_n C0.hx C0.hb dX9_drift_47 rfl (lv_at hl 2 rfl) ?_
    refine lv_iload_n C0.hx C0.hb dX9_drift_48 rfl (lv_at hl 1 rfl) ?_
    refine lv_icmp_ge (tgt := 66) C0.hx C0.hb dX9_drift_49 (by decide) (fun hc => ?_) (fun hc => ?_)
    · have h := (if_pos hc).symm.trans h
      refine lv_aload_n C0.hx C0.hb dX9_drift_66 rfl (lv_at hl 0 rfl) ?_
      refine lv_iconst (v := (2 : Int32)) C0.hx C0.hb dX9_drift_67 (by decide) ?_
      obtain ⟨c7, hc7, h⟩ := Option.bind_eq_some_iff.mp h
      obtain ⟨v8, hv8, h⟩ := Option.bind_eq_some_iff.mp h
      refine q_callV (n := 1) (av := [.int (2 : Int32)]) (rest := []) (st1 := [.int v8]) C0 hw (m_X9_at l b0 D cy S a0 (2 : Int32) hv8) hc7 rfl (by decide) (goodV kw_1013 kw_1015 kw_34 kw_72 kw_1016) ⟨rfl, rfl⟩ (by decide +kernel) ⟨(Nat.le_of_ble_eq_true rfl), (Nat.le_of_ble_eq_true rfl)⟩ rfl hl.1 rfl (Nat.le_of_ble_eq_true rfl) dX9_drift_68 ⟨Nat.zero_le _, Nat.zero_le _⟩ rfl (fun H locs hw => ?_)
      obtain rfl := Option.some.inj h
      exact q_reti C0 hw hr hlocks dX9_drift_71
    · have h := (if_neg hc).symm.trans h
      refine lv_aload_n C0.hx C0.hb dX9_drift_52 rfl (lv_at hl 0 rfl) ?_
      obtain ⟨c9, hc9, h⟩ := Option.bind_eq_some_iff.mp h
      obtain ⟨S10, hS10, h⟩ := Option.bind_eq_some_iff.mp h
      refine q_callV (n := 0) (av := []) (rest := []) (st1 := []) C0 hw (m_X9_stirs l b0 D cy S a0 hS10) hc9 rfl (by decide) (goodV kw_1160 kw_1162 kw_53 kw_72 kw_1163) ⟨rfl, rfl⟩ (by decide +kernel) ⟨(Nat.le_of_ble_eq_true rfl), (Nat.le_of_ble_eq_true rfl)⟩ rfl hl.1 rfl (Nat.le_of_ble_eq_true rfl) dX9_drift_53 ⟨Nat.zero_le _, Nat.zero_le _⟩ rfl (fun H locs hw => ?_)
      refine lv_aload_n C0.hx C0.hb dX9_drift_56 rfl (lv_at hl 0 rfl) ?_
      obtain ⟨c11, hc11, h⟩ := Option.bind_eq_some_iff.mp h
      obtain ⟨S12, hS12, h⟩ := Option.bind_eq_some_iff.mp h
      refine q_callV (n := 0) (av := []) (rest := []) (st1 := []) C0 hw (m_X9_goesBy l b0 D cy S10 a0 hS12) hc11 rfl (by decide) (goodV kw_1087 kw_1089 kw_45 kw_72 kw_1090) ⟨rfl, rfl⟩ (by decide +kernel) ⟨(Nat.le_of_ble_eq_true rfl), (Nat.le_of_ble_eq_true rfl)⟩ rfl hl.1 rfl (Nat.le_of_ble_eq_true rfl) dX9_drift_57 ⟨Nat.zero_le _, Nat.zero_le _⟩ rfl (fun H locs hw => ?_)
      obtain ⟨v13, hv13, h⟩ := Option.bind_eq_some_iff.mp h
      refine lv_iinc (v := v13) (lv' := [(2, .int v13), (0, .ref (b0 + a0)), (1, .int x1)]) C0.hx C0.hb dX9_drift_60 hl (k := 2) rfl (by rw [← Option.some.inj hv13]; rfl) (by decide) rfl (fun ls hl => ?_)
      refine lv_goto (tgt := 47) C0.hx C0.hb dX9_drift_63 (by decide) ?_
      exact ih a0 x1 v13 S12 _ _ _ hw (lv_sub hl [1, 2, 0] rfl) h
set_option maxHeartbeats 4000000 in
set_option maxRecDepth 100000 in
theorem m_X9_drift (l : Launch) (b0 : Nat) (D : va_G) (cy : Nat → ClassId) (S : Mem) (a0 : Nat) (x1 : Int32) {q : (Int32 × Mem)} (h : f_X9_drift a0 x1 S = some q) : Met l yX9_drift [.code yX9_drift cX9_drift 3 (some .int)] rm_X9_drift (Pr b0 D cy S [.ref (b0 + a0), .int x1]) (Qp b0 D cy (some (.int q.1)) q.2) 0 0 (fun q => b0 ≤ q) := by
  refine Met.ofW (cc := cX9_drift) (maxL := 3) (ret := some .int) (by decide) rfl ?_
  intro p e s m args below meth c s₁ B hml hv
  obtain ⟨rfl, hP, hK, hT⟩ := hv
  have C0 : Cx p m c cX9_drift 3 s (List.toArray [.ref (b0 + a0), .int x1]) RX9 D cy := ⟨⟨B.exec, B.bytes, hml, findClass_of_methodNamed B.named, fun w h => hT w h _⟩, hK, hT⟩
  have hr : meth.sig.returnType = some .int := B.returns
  have hlocks := B.notSynchronized
  have hw : Wd b0 D cy S s.heap s.heap [] := ⟨hP, va_S.rf⟩
  have hl := lv_entry ([.ref (b0 + a0), .int x1]) (n := 3) (Nat.le_of_ble_eq_true rfl)
  rw [lg_entry_eq]
  generalize (lg_sl ([.ref (b0 + a0), .int x1]) ++ List.replicate (3 - (lg_sl ([.ref (b0 + a0), .int x1])).length) Slot.unset).toArray = ls at hl ⊢
  have hl : lv_has ls 3 [(0, .ref (b0 + a0)), (1, .int x1)] := hl
  rw [f_X9_drift] at h
  show W p l e rm_X9_drift s m _ below meth c s.heap [] 0 0 _ _
  refine lv_iload_n C0.hx C0.hb dX9_drift_0 rfl (lv_at hl 1 rfl) ?_
  refine lv_i2l C0.hx C0.hb dX9_drift_1 rfl ?_
  refine lv_lconst (v := (1 : Int64)) C0.hx C0.hb dX9_drift_2 (by decide) ?_
  refine lv_ldc2 C0.hx C0.hb C0.ho (C0.w kw_1076) dX9_drift_3 ?_
  obtain ⟨v1, hv1, h⟩ := Option.bind_eq_some_iff.mp h
  refine q_callS (n := 3) (av := [.long x1.toInt64, .long (1 : Int64), .long (60 : Int64)]) (rest := []) (st1 := [.int v1]) C0 hw (m_X9_in l b0 D cy S x1.toInt64 (1 : Int64) (60 : Int64) hv1) (goodS kw_951 kw_952 kw_72 kw_953) ⟨rfl, rfl⟩ (by decide +kernel) ⟨(Nat.le_of_ble_eq_true rfl), (Nat.le_of_ble_eq_true rfl)⟩ rfl hl.1 rfl (Nat.le_of_ble_eq_true rfl) dX9_drift_6 ⟨Nat.zero_le _, Nat.zero_le _⟩ rfl (fun H locs hw => ?_)
  refine lv_if_ne (tgt := 15) C0.hx C0.hb dX9_drift_9 (by decide) (fun hc => ?_) (fun hc => ?_)
  · have h := (if_neg hc).symm.trans h
    refine lv_aload_n C0.hx C0.hb dX9_drift_15 rfl (lv_at hl 0 rfl) ?_
    obtain ⟨v2, hv2, h⟩ := Option.bind_eq_some_iff.mp h
    refine q_getI C0 hw hv2 rfl in_9 (by decide) kw_863 dX9_drift_16 ?_
    refine lv_if_ne (tgt := 25) C0.hx C0.hb dX9_drift_19 (by decide) (fun hc => ?_) (fun hc => ?_)
    · have h := (if_neg hc).symm.trans h
      refine lv_aload_n C0.hx C0.hb dX9_drift_25 rfl (lv_at hl 0 rfl) ?_
      obtain ⟨r3, hr3, h⟩ := Option.bind_eq_some_iff.mp h
      refine q_getR C0 hw hr3 rfl in_9 (by decide) kw_869 dX9_drift_26 ?_
      refine lv_iconst (v := (1 : Int32)) C0.hx C0.hb dX9_drift_29 (by decide) ?_
      obtain ⟨u4, hu4, h⟩ := Option.bind_eq_some_iff.mp h
      refine q_ldJ C0 hw hu4 dX9_drift_30 ?_
      refine lv_ldc2 C0.hx C0.hb C0.ho (C0.w kw_1078) dX9_drift_31 ?_
      refine W.lcmp C0.hx C0.hb dX9_drift_34 ?_
      refine lv_if_le (tgt := 41) C0.hx C0.hb dX9_drift_35 (by decide) (fun hc => ?_) (fun hc => ?_)
      · have h := (if_pos hc).symm.trans h
        refine lv_aload_n C0.hx C0.hb dX9_drift_41 rfl (lv_at hl 0 rfl) ?_
        obtain ⟨c5, hc5, h⟩ := Option.bind_eq_some_iff.mp h
        obtain ⟨S6, hS6, h⟩ := Option.bind_eq_some_iff.mp h
        refine q_callV (n := 0) (av := []) (rest := []) (st1 := []) C0 hw (m_X9_notes l b0 D cy S a0 hS6) hc5 rfl (by decide) (goodV kw_1079 kw_1081 kw_43 kw_72 kw_1082) ⟨rfl, rfl⟩ (by decide +kernel) ⟨(Nat.le_of_ble_eq_true rfl), (Nat.le_of_ble_eq_true rfl)⟩ rfl hl.1 rfl (Nat.le_of_ble_eq_true rfl) dX9_drift_42 ⟨Nat.zero_le _, Nat.zero_le _⟩ rfl (fun H locs hw => ?_)
        refine lv_iconst (v := (0 : Int32)) C0.hx C0.hb dX9_drift_45 (by decide) ?_
        refine lv_istore_n (lv' := [(2, .int (0 : Int32)), (0, .ref (b0 + a0)), (1, .int x1)]) C0.hx C0.hb dX9_drift_46 rfl hl (by decide) rfl (fun ls hl => ?_)
        exact w_X9_drift_b47 C0 hr hlocks FU a0 x1 (0 : Int32) S6 _ _ _ hw (lv_sub hl [1, 2, 0] rfl) h
      · have h := (if_neg hc).symm.trans h
        refine lv_ldc C0.hx C0.hb C0.ho (C0.w kw_955) dX9_drift_38 ?_
        obtain rfl := Option.some.inj h
        exact q_reti C0 hw hr hlocks dX9_drift_40
    · have h := (if_pos hc).symm.trans h
      refine lv_ldc C0.hx C0.hb C0.ho (C0.w kw_1077) dX9_drift_22 ?_
      obtain rfl := Option.some.inj h
      exact q_reti C0 hw hr hlocks dX9_drift_24
  · have h := (if_pos hc).symm.trans h
    refine lv_ldc C0.hx C0.hb C0.ho (C0.w kw_954) dX9_drift_12 ?_
    obtain rfl := Option.some.inj h
    exact q_reti C0 hw hr hlocks dX9_drift_14
abbrev rm_X9_undo : Room := { frames := 0, cells := 0, slots := 0, locals := 0 }
def f_X9_undo_b22 : Nat → Nat → Int32 → Mem → Option (Int32 × Mem)
  | 0, _, _, _ => none
  | n + 1, a0, x1, S =>
    (if (80 : Int32) ≤ x1 then
      (gI 9 16 S a0).bind fun v4 =>
      some (v4, S)
      else
      (gR 9 7 S a0).bind fun r5 =>
      (gR 9 15 S a0).bind fun r6 =>
      (gI 9 16 S a0).bind fun v7 =>
      (ldJ S r6 (((80 : Int32) * v7) + x1)).bind fun u8 =>
      (stJ S r5 x1 u8).bind fun S9 =>
      (some (x1 + (1 : Int32))).bind fun v10 =>
      f_X9_undo_b22  n a0 v10 S9)
def f_X9_undo (a0 : Nat) (S : Mem) : Option (Int32 × Mem) :=
    (gI 9 16 S a0).bind fun v1 =>
      (if v1 = (0 : Int32) then
      some ((-1000000003 : Int32), S)
      else
      (gI 9 16 S a0).bind fun v2 =>
      (pI 9 16 S a0 (v2 - (1 : Int32))).bind fun S3 =>
      f_X9_undo_b22 FU a0 (0 : Int32) S3)
set_option maxHeartbeats 4000000 in
set_option maxRecDepth 100000 in
theorem w_X9_undo_b22 {p : Program} {l : Launch} {e : Env} {s : State} {m : MethodId} {args : Array Value} {below : List Frame} {meth : Method} {c : Code} {b0 : Nat} {D : va_G} {cy : Nat → ClassId} {q : (Int32 × Mem)} (C0 : Cx p m c cX9_undo 2 s args RX9 D cy) (hr : meth.sig.returnType = some .int) (hlocks : meth.locks = false) : ∀ (n : Nat) (a0 : Nat) (x1 : Int32) (S : Mem) (H : Heap) (locs : List Loc) (ls : Array Slot), Wd b0 D cy S s.heap H locs → lv_has ls 2 [(0, .ref (b0 + a0)), (1, .int x1)] → f_X9_undo_b22  n a0 x1 S = some q → W p l e rm_X9_undo s m args below meth c H locs 0 0 (MQ below (Qp b0 D cy (some (.int q.1)) q.2) args s 0 0 (fun q => b0 ≤ q)) (F0 m 22 ls []) := by
  intro n
  induction n with
  | zero => intro a0 x1 S H locs ls hw hl h; exact absurd h (by simp [f_X9_undo_b22])
  | succ n ih =>
    intro a0 x1 S H locs ls hw hl h
    rw [f_X9_undo_b22] at h
    refine lv_iload_n C0.hx C0.hb dX9_undo_22 rfl (lv_at hl 1 rfl) ?_
    refine lv_bipush (v := (80 : Int32)) C0.hx C0.hb dX9_undo_23 (by decide) ?_
    refine lv_icmp_ge (tgt := 54) C0.hx C0.hb dX9_undo_25 (by decide) (fun hc => ?_) (fun hc => ?_)
    · have h := (if_pos hc).symm.trans h
      refine lv_aload_n C0.hx C0.hb dX9_undo_54 rfl (lv_at hl 0 rfl) ?_
      obtain ⟨v4, hv4, h⟩ := Option.bind_eq_some_iff.mp h
      refine q_getI C0 hw hv4 rfl in_9 (by decide) kw_878 dX9_undo_55 ?_
      obtain rfl := Option.some.inj h
      exact q_reti C0 hw hr hlocks dX9_undo_58
    · have h := (if_neg hc).symm.trans h
      refine lv_aload_n C0.hx C0.hb dX9_undo_28 rfl (lv_at hl 0 rfl) ?_
      obtain ⟨r5, hr5, h⟩ := Option.bind_eq_some_iff.mp h
      refine q_getR C0 hw hr5 rfl in_9 (by decide) kw_869 dX9_undo_29 ?_
      refine lv_iload_n C0.hx C0.hb dX9_undo_32 rfl (lv_at hl 1 rfl) ?_
      refine lv_aload_n C0.hx C0.hb dX9_undo_33 rfl (lv_at hl 0 rfl) ?_
      obtain ⟨r6, hr6, h⟩ := Option.bind_eq_some_iff.mp h
      refine q_getR C0 hw hr6 rfl in_9 (by decide) kw_877 dX9_undo_34 ?_
      refine lv_bipush (v := (80 : Int32)) C0.hx C0.hb dX9_undo_37 (by decide) ?_
      refine lv_aload_n C0.hx C0.hb dX9_undo_39 rfl (lv_at hl 0 rfl) ?_
      obtain ⟨v7, hv7, h⟩ := Option.bind_eq_some_iff.mp h
      refine q_getI C0 hw hv7 rfl in_9 (by decide) kw_878 dX9_undo_40 ?_
      refine lv_imul C0.hx C0.hb dX9_undo_43 ?_
      refine lv_iload_n C0.hx C0.hb dX9_undo_44 rfl (lv_at hl 1 rfl) ?_
      refine lv_iadd C0.hx C0.hb dX9_undo_45 ?_
      obtain ⟨u8, hu8, h⟩ := Option.bind_eq_some_iff.mp h
      refine q_ldJ C0 hw hu8 dX9_undo_46 ?_
      obtain ⟨S9, hS9, h⟩ := Option.bind_eq_some_iff.mp h
      refine q_stJ C0 hw hS9 dX9_undo_47 (fun H locs hw => ?_)
      obtain ⟨v10, hv10, h⟩ := Option.bind_eq_some_iff.mp h
      refine lv_iinc (v := v10) (lv' := [(1, .int v10), (0, .ref (b0 + a0))]) C0.hx C0.hb dX9_undo_48 hl (k := 1) rfl (by rw [← Option.some.inj hv10]; rfl) (by decide) rfl (fun ls hl => ?_)
      refine lv_goto (tgt := 22) C0.hx C0.hb dX9_undo_51 (by decide) ?_
      exact ih a0 v10 S9 _ _ _ hw (lv_sub hl [1, 0] rfl) h
set_option maxHeartbeats 4000000 in
set_option maxRecDepth 100000 in
theorem m_X9_undo (l : Launch) (b0 : Nat) (D : va_G) (cy : Nat → ClassId) (S : Mem) (a0 : Nat) {q : (Int32 × Mem)} (h : f_X9_undo a0 S = some q) : Met l yX9_undo [.code yX9_undo cX9_undo 2 (some .int)] rm_X9_undo (Pr b0 D cy S [.ref (b0 + a0)]) (Qp b0 D cy (some (.int q.1)) q.2) 0 0 (fun q => b0 ≤ q) := by
  refine Met.ofW (cc := cX9_undo) (maxL := 2) (ret := some .int) (by decide) rfl ?_
  intro p e s m args below meth c s₁ B hml hv
  obtain ⟨rfl, hP, hK, hT⟩ := hv
  have C0 : Cx p m c cX9_undo 2 s (List.toArray [.ref (b0 + a0)]) RX9 D cy := ⟨⟨B.exec, B.bytes, hml, findClass_of_methodNamed B.named, fun w h => hT w h _⟩, hK, hT⟩
  have hr : meth.sig.returnType = some .int := B.returns
  have hlocks := B.notSynchronized
  have hw : Wd b0 D cy S s.heap s.heap [] := ⟨hP, va_S.rf⟩
  have hl := lv_entry ([.ref (b0 + a0)]) (n := 2) (Nat.le_of_ble_eq_true rfl)
  rw [lg_entry_eq]
  generalize (lg_sl ([.ref (b0 + a0)]) ++ List.replicate (2 - (lg_sl ([.ref (b0 + a0)])).length) Slot.unset).toArray = ls at hl ⊢
  have hl : lv_has ls 2 [(0, .ref (b0 + a0))] := hl
  rw [f_X9_undo] at h
  show W p l e rm_X9_undo s m _ below meth c s.heap [] 0 0 _ _
  refine lv_aload_n C0.hx C0.hb dX9_undo_0 rfl (lv_at hl 0 rfl) ?_
  obtain ⟨v1, hv1, h⟩ := Option.bind_eq_some_iff.mp h
  refine q_getI C0 hw hv1 rfl in_9 (by decide) kw_878 dX9_undo_1 ?_
  refine lv_if_ne (tgt := 10) C0.hx C0.hb dX9_undo_4 (by decide) (fun hc => ?_) (fun hc => ?_)
  · have h := (if_neg hc).symm.trans h
    refine lv_aload_n C0.hx C0.hb dX9_undo_10 rfl (lv_at hl 0 rfl) ?_
    refine lv_dup C0.hx C0.hb dX9_undo_11 rfl ?_
    obtain ⟨v2, hv2, h⟩ := Option.bind_eq_some_iff.mp h
    refine q_getI C0 hw hv2 rfl in_9 (by decide) kw_878 dX9_undo_12 ?_
    refine lv_iconst (v := (1 : Int32)) C0.hx C0.hb dX9_undo_15 (by decide) ?_
    refine lv_isub C0.hx C0.hb dX9_undo_16 ?_
    obtain ⟨S3, hS3, h⟩ := Option.bind_eq_some_iff.mp h
    refine q_putI C0 hw hS3 rfl in_9 tyX9_ok nmX9 ⟨by decide, by decide, rfl, rfl⟩ rfl kw_878 dX9_undo_17 (fun H locs hw => ?_)
    refine lv_iconst (v := (0 : Int32)) C0.hx C0.hb dX9_undo_20 (by decide) ?_
    refine lv_istore_n (lv' := [(1, .int (0 : Int32)), (0, .ref (b0 + a0))]) C0.hx C0.hb dX9_undo_21 rfl hl (by decide) rfl (fun ls hl => ?_)
    exact w_X9_undo_b22 C0 hr hlocks FU a0 (0 : Int32) S3 _ _ _ hw (lv_sub hl [1, 0] rfl) h
  · have h := (if_pos hc).symm.trans h
    refine lv_ldc C0.hx C0.hb C0.ho (C0.w kw_1077) dX9_undo_7 ?_
    obtain rfl := Option.some.inj h
    exact q_reti C0 hw hr hlocks dX9_undo_9
abbrev rm_X9_asides : Room := { frames := 0, cells := 0, slots := 0, locals := 0 }
def f_X9_asides_b2 : Nat → Nat → Int32 → Mem → Option Mem
  | 0, _, _, _ => none
  | n + 1, a0, x1, S =>
    (if (80 : Int32) ≤ x1 then
      some S
      else
      (gR 9 17 S a0).bind fun r1 =>
      (gR 9 7 S a0).bind fun r2 =>
      (ldJ S r2 x1).bind fun u3 =>
      (stJ S r1 x1 u3).bind fun S4 =>
      (some (x1 + (1 : Int32))).bind fun v5 =>
      f_X9_asides_b2  n a0 v5 S4)
def f_X9_asides (a0 : Nat) (S : Mem) : Option Mem :=
    f_X9_asides_b2 FU a0 (0 : Int32) S
set_option maxHeartbeats 4000000 in
set_option maxRecDepth 100000 in
theorem w_X9_asides_b2 {p : Program} {l : Launch} {e : Env} {s : State} {m : MethodId} {args : Array Value} {below : List Frame} {meth : Method} {c : Code} {b0 : Nat} {D : va_G} {cy : Nat → ClassId} {q : Mem} (C0 : Cx p m c cX9_asides 2 s args RX9 D cy) (hr : meth.sig.returnType = none) (hlocks : meth.locks = false) : ∀ (n : Nat) (a0 : Nat) (x1 : Int32) (S : Mem) (H : Heap) (locs : List Loc) (ls : Array Slot), Wd b0 D cy S s.heap H locs → lv_has ls 2 [(0, .ref (b0 + a0)), (1, .int x1)] → f_X9_asides_b2  n a0 x1 S = some q → W p l e rm_X9_asides s m args below meth c H locs 0 0 (MQ below (Qp b0 D cy none q) args s 0 0 (fun q => b0 ≤ q)) (F0 m 2 ls []) := by
  intro n
  induction n with
  | zero => intro a0 x1 S H locs ls hw hl h; exact absurd h (by simp [f_X9_asides_b2])
  | succ n ih =>
    intro a0 x1 S H locs ls hw hl h
    rw [f_X9_asides_b2] at h
    refine lv_iload_n C0.hx C0.hb dX9_asides_2 rfl (lv_at hl 1 rfl) ?_
    refine lv_bipush (v := (80 : Int32)) C0.hx C0.hb dX9_asides_3 (by decide) ?_
    refine lv_icmp_ge (tgt := 26) C0.hx C0.hb dX9_asides_5 (by decide) (fun hc => ?_) (fun hc => ?_)
    · have h := (if_pos hc).symm.trans h
      obtain rfl := Option.some.inj h
      exact q_retv C0 hw hr hlocks dX9_asides_26
    · have h := (if_neg hc).symm.trans h
      refine lv_aload_n C0.hx C0.hb dX9_asides_8 rfl (lv_at hl 0 rfl) ?_
      obtain ⟨r1, hr1, h⟩ := Option.bind_eq_some_iff.mp h
      refine q_getR C0 hw hr1 rfl in_9 (by decide) kw_879 dX9_asides_9 ?_
      refine lv_iload_n C0.hx C0.hb dX9_asides_12 rfl (lv_at hl 1 rfl) ?_
      refine lv_aload_n C0.hx C0.hb dX9_asides_13 rfl (lv_at hl 0 rfl) ?_
      obtain ⟨r2, hr2, h⟩ := Option.bind_eq_some_iff.mp h
      refine q_getR C0 hw hr2 rfl in_9 (by decide) kw_869 dX9_asides_14 ?_
      refine lv_iload_n C0.hx C0.hb dX9_asides_17 rfl (lv_at hl 1 rfl) ?_
      obtain ⟨u3, hu3, h⟩ := Option.bind_eq_some_iff.mp h
      refine q_ldJ C0 hw hu3 dX9_asides_18 ?_
      obtain ⟨S4, hS4, h⟩ := Option.bind_eq_some_iff.mp h
      refine q_stJ C0 hw hS4 dX9_asides_19 (fun H locs hw => ?_)
      obtain ⟨v5, hv5, h⟩ := Option.bind_eq_some_iff.mp h
      refine lv_iinc (v := v5) (lv' := [(1, .int v5), (0, .ref (b0 + a0))]) C0.hx C0.hb dX9_asides_20 hl (k := 1) rfl (by rw [← Option.some.inj hv5]; rfl) (by decide) rfl (fun ls hl => ?_)
      refine lv_goto (tgt := 2) C0.hx C0.hb dX9_asides_23 (by decide) ?_
      exact ih a0 v5 S4 _ _ _ hw (lv_sub hl [1, 0] rfl) h
set_option maxHeartbeats 4000000 in
set_option maxRecDepth 100000 in
theorem m_X9_asides (l : Launch) (b0 : Nat) (D : va_G) (cy : Nat → ClassId) (S : Mem) (a0 : Nat) {q : Mem} (h : f_X9_asides a0 S = some q) : Met l yX9_asides [.code yX9_asides cX9_asides 2 (none)] rm_X9_asides (Pr b0 D cy S [.ref (b0 + a0)]) (Qp b0 D cy none q) 0 0 (fun q => b0 ≤ q) := by
  refine Met.ofW (cc := cX9_asides) (maxL := 2) (ret := none) (by decide) rfl ?_
  intro p e s m args below meth c s₁ B hml hv
  obtain ⟨rfl, hP, hK, hT⟩ := hv
  have C0 : Cx p m c cX9_asides 2 s (List.toArray [.ref (b0 + a0)]) RX9 D cy := ⟨⟨B.exec, B.bytes, hml, findClass_of_methodNamed B.named, fun w h => hT w h _⟩, hK, hT⟩
  have hr : meth.sig.returnType = none := B.returns
  have hlocks := B.notSynchronized
  have hw : Wd b0 D cy S s.heap s.heap [] := ⟨hP, va_S.rf⟩
  have hl := lv_entry ([.ref (b0 + a0)]) (n := 2) (Nat.le_of_ble_eq_true rfl)
  rw [lg_entry_eq]
  generalize (lg_sl ([.ref (b0 + a0)]) ++ List.replicate (2 - (lg_sl ([.ref (b0 + a0)])).length) Slot.unset).toArray = ls at hl ⊢
  have hl : lv_has ls 2 [(0, .ref (b0 + a0))] := hl
  rw [f_X9_asides] at h
  show W p l e rm_X9_asides s m _ below meth c s.heap [] 0 0 _ _
  refine lv_iconst (v := (0 : Int32)) C0.hx C0.hb dX9_asides_0 (by decide) ?_
  refine lv_istore_n (lv' := [(1, .int (0 : Int32)), (0, .ref (b0 + a0))]) C0.hx C0.hb dX9_asides_1 rfl hl (by decide) rfl (fun ls hl => ?_)
  exact w_X9_asides_b2 C0 hr hlocks FU a0 (0 : Int32) S _ _ _ hw (lv_sub hl [1, 0] rfl) h
abbrev rm_X9_backs : Room := { frames := 0, cells := 0, slots := 0, locals := 0 }
def f_X9_backs_b2 : Nat → Nat → Int32 → Mem → Option Mem
  | 0, _, _, _ => none
  | n + 1, a0, x1, S =>
    (if (80 : Int32) ≤ x1 then
      some S
      else
      (gR 9 7 S a0).bind fun r1 =>
      (gR 9 17 S a0).bind fun r2 =>
      (ldJ S r2 x1).bind fun u3 =>
      (stJ S r1 x1 u3).bind fun S4 =>
      (some (x1 + (1 : Int32))).bind fun v5 =>
      f_X9_backs_b2  n a0 v5 S4)
def f_X9_backs (a0 : Nat) (S : Mem) : Option Mem :=
    f_X9_backs_b2 FU a0 (0 : Int32) S
set_option maxHeartbeats 4000000 in
set_option maxRecDepth 100000 in
theorem w_X9_backs_b2 {p : Program} {l : Launch} {e : Env} {s : State} {m : MethodId} {args : Array Value} {below : List Frame} {meth : Method} {c : Code} {b0 : Nat} {D : va_G} {cy : Nat → ClassId} {q : Mem} (C0 : Cx p m c cX9_backs 2 s args RX9 D cy) (hr : meth.sig.returnType = none) (hlocks : meth.locks = false) : ∀ (n : Nat) (a0 : Nat) (x1 : Int32) (S : Mem) (H : Heap) (locs : List Loc) (ls : Array Slot), Wd b0 D cy S s.heap H locs → lv_has ls 2 [(0, .ref (b0 + a0)), (1, .int x1)] → f_X9_backs_b2  n a0 x1 S = some q → W p l e rm_X9_backs s m args below meth c H locs 0 0 (MQ below (Qp b0 D cy none q) args s 0 0 (fun q => b0 ≤ q)) (F0 m 2 ls []) := by
  intro n
  induction n with
  | zero => intro a0 x1 S H locs ls hw hl h; exact absurd h (by simp [f_X9_backs_b2])
  | succ n ih =>
    intro a0 x1 S H locs ls hw hl h
    rw [f_X9_backs_b2] at h
    refine lv_iload_n C0.hx C0.hb dX9_backs_2 rfl (lv_at hl 1 rfl) ?_
    refine lv_bipush (v := (80 : Int32)) C0.hx C0.hb dX9_backs_3 (by decide) ?_
    refine lv_icmp_ge (tgt := 26) C0.hx C0.hb dX9_backs_5 (by decide) (fun hc => ?_) (fun hc => ?_)
    · have h := (if_pos hc).symm.trans h
      obtain rfl := Option.some.inj h
      exact q_retv C0 hw hr hlocks dX9_backs_26
    · have h := (if_neg hc).symm.trans h
      refine lv_aload_n C0.hx C0.hb dX9_backs_8 rfl (lv_at hl 0 rfl) ?_
      obtain ⟨r1, hr1, h⟩ := Option.bind_eq_some_iff.mp h
      refine q_getR C0 hw hr1 rfl in_9 (by decide) kw_869 dX9_backs_9 ?_
      refine lv_iload_n C0.hx C0.hb dX9_backs_12 rfl (lv_at hl 1 rfl) ?_
      refine lv_aload_n C0.hx C0.hb dX9_backs_13 rfl (lv_at hl 0 rfl) ?_
      obtain ⟨r2, hr2, h⟩ := Option.bind_eq_some_iff.mp h
      refine q_getR C0 hw hr2 rfl in_9 (by decide) kw_879 dX9_backs_14 ?_
      refine lv_iload_n C0.hx C0.hb dX9_backs_17 rfl (lv_at hl 1 rfl) ?_
      obtain ⟨u3, hu3, h⟩ := Option.bind_eq_some_iff.mp h
      refine q_ldJ C0 hw hu3 dX9_backs_18 ?_
      obtain ⟨S4, hS4, h⟩ := Option.bind_eq_some_iff.mp h
      refine q_stJ C0 hw hS4 dX9_backs_19 (fun H locs hw => ?_)
      obtain ⟨v5, hv5, h⟩ := Option.bind_eq_some_iff.mp h
      refine lv_iinc (v := v5) (lv' := [(1, .int v5), (0, .ref (b0 + a0))]) C0.hx C0.hb dX9_backs_20 hl (k := 1) rfl (by rw [← Option.some.inj hv5]; rfl) (by decide) rfl (fun ls hl => ?_)
      refine lv_goto (tgt := 2) C0.hx C0.hb dX9_backs_23 (by decide) ?_
      exact ih a0 v5 S4 _ _ _ hw (lv_sub hl [1, 0] rfl) h
set_option maxHeartbeats 4000000 in
set_option maxRecDepth 100000 in
theorem m_X9_backs (l : Launch) (b0 : Nat) (D : va_G) (cy : Nat → ClassId) (S : Mem) (a0 : Nat) {q : Mem} (h : f_X9_backs a0 S = some q) : Met l yX9_backs [.code yX9_backs cX9_backs 2 (none)] rm_X9_backs (Pr b0 D cy S [.ref (b0 + a0)]) (Qp b0 D cy none q) 0 0 (fun q => b0 ≤ q) := by
  refine Met.ofW (cc := cX9_backs) (maxL := 2) (ret := none) (by decide) rfl ?_
  intro p e s m args below meth c s₁ B hml hv
  obtain ⟨rfl, hP, hK, hT⟩ := hv
  have C0 : Cx p m c cX9_backs 2 s (List.toArray [.ref (b0 + a0)]) RX9 D cy := ⟨⟨B.exec, B.bytes, hml, findClass_of_methodNamed B.named, fun w h => hT w h _⟩, hK, hT⟩
  have hr : meth.sig.returnType = none := B.returns
  have hlocks := B.notSynchronized
  have hw : Wd b0 D cy S s.heap s.heap [] := ⟨hP, va_S.rf⟩
  have hl := lv_entry ([.ref (b0 + a0)]) (n := 2) (Nat.le_of_ble_eq_true rfl)
  rw [lg_entry_eq]
  generalize (lg_sl ([.ref (b0 + a0)]) ++ List.replicate (2 - (lg_sl ([.ref (b0 + a0)])).length) Slot.unset).toArray = ls at hl ⊢
  have hl : lv_has ls 2 [(0, .ref (b0 + a0))] := hl
  rw [f_X9_backs] at h
  show W p l e rm_X9_backs s m _ below meth c s.heap [] 0 0 _ _
  refine lv_iconst (v := (0 : Int32)) C0.hx C0.hb dX9_backs_0 (by decide) ?_
  refine lv_istore_n (lv' := [(1, .int (0 : Int32)), (0, .ref (b0 + a0))]) C0.hx C0.hb dX9_backs_1 rfl hl (by decide) rfl (fun ls hl => ?_)
  exact w_X9_backs_b2 C0 hr hlocks FU a0 (0 : Int32) S _ _ _ hw (lv_sub hl [1, 0] rfl) h
abbrev rm_X9_where : Room := { frames := 5, cells := 0, slots := 0, locals := 131 }
def f_X9_where (a0 : Nat) (x1 : Int32) (S : Mem) : Option (Int32 × Mem) :=
    (f_X9_in x1.toInt64 (0 : Int64) (100 : Int64)).bind fun v1 =>
      (if v1 = (0 : Int32) then
      some ((-1000000002 : Int32), S)
      else
      (gI 9 1 S a0).bind fun v2 =>
      (if v2 = (0 : Int32) then
      some ((-1000000003 : Int32), S)
      else
      (ck 9 S a0).bind fun c3 =>
      (f_X9_asides a0 S).bind fun S4 =>
      (ck 9 S4 a0).bind fun c5 =>
      (f_X9_goesOn a0 x1 S4).bind fun S6 =>
      (ck 9 S6 a0).bind fun c7 =>
      (f_X9_at a0 (2 : Int32) S6).bind fun v8 =>
      (ck 9 S6 a0).bind fun c9 =>
      (f_X9_backs a0 S6).bind fun S10 =>
      some (v8, S10)))
set_option maxHeartbeats 4000000 in
set_option maxRecDepth 100000 in
theorem m_X9_where (l : Launch) (b0 : Nat) (D : va_G) (cy : Nat → ClassId) (S : Mem) (a0 : Nat) (x1 : Int32) {q : (Int32 × Mem)} (h : f_X9_where a0 x1 S = some q) : Met l yX9_where [.code yX9_where cX9_where 3 (some .int)] rm_X9_where (Pr b0 D cy S [.ref (b0 + a0), .int x1]) (Qp b0 D cy (some (.int q.1)) q.2) 0 0 (fun q => b0 ≤ q) := by
  refine Met.ofW (cc := cX9_where) (maxL := 3) (ret := some .int) (by decide) rfl ?_
  intro p e s m args below meth c s₁ B hml hv
  obtain ⟨rfl, hP, hK, hT⟩ := hv
  have C0 : Cx p m c cX9_where 3 s (List.toArray [.ref (b0 + a0), .int x1]) RX9 D cy := ⟨⟨B.exec, B.bytes, hml, findClass_of_methodNamed B.named, fun w h => hT w h _⟩, hK, hT⟩
  have hr : meth.sig.returnType = some .int := B.returns
  have hlocks := B.notSynchronized
  have hw : Wd b0 D cy S s.heap s.heap [] := ⟨hP, va_S.rf⟩
  have hl := lv_entry ([.ref (b0 + a0), .int x1]) (n := 3) (Nat.le_of_ble_eq_true rfl)
  rw [lg_entry_eq]
  generalize (lg_sl ([.ref (b0 + a0), .int x1]) ++ List.replicate (3 - (lg_sl ([.ref (b0 + a0), .int x1])).length) Slot.unset).toArray = ls at hl ⊢
  have hl : lv_has ls 3 [(0, .ref (b0 + a0)), (1, .int x1)] := hl
  rw [f_X9_where] at h
  show W p l e rm_X9_where s m _ below meth c s.heap [] 0 0 _ _
  refine lv_iload_n C0.hx C0.hb dX9_where_0 rfl (lv_at hl 1 rfl) ?_
  refine lv_i2l C0.hx C0.hb dX9_where_1 rfl ?_
  refine lv_lconst (v := (0 : Int64)) C0.hx C0.hb dX9_where_2 (by decide) ?_
  refine lv_ldc2 C0.hx C0.hb C0.ho (C0.w kw_1180) dX9_where_3 ?_
  obtain ⟨v1, hv1, h⟩ := Option.bind_eq_some_iff.mp h
  refine q_callS (n := 3) (av := [.long x1.toInt64, .long (0 : Int64), .long (100 : Int64)]) (rest := []) (st1 := [.int v1]) C0 hw (m_X9_in l b0 D cy S x1.toInt64 (0 : Int64) (100 : Int64) hv1) (goodS kw_951 kw_952 kw_72 kw_953) ⟨rfl, rfl⟩ (by decide +kernel) ⟨(Nat.le_of_ble_eq_true rfl), (Nat.le_of_ble_eq_true rfl)⟩ rfl hl.1 rfl (Nat.le_of_ble_eq_true rfl) dX9_where_6 ⟨Nat.zero_le _, Nat.zero_le _⟩ rfl (fun H locs hw => ?_)
  refine lv_if_ne (tgt := 15) C0.hx C0.hb dX9_where_9 (by decide) (fun hc => ?_) (fun hc => ?_)
  · have h := (if_neg hc).symm.trans h
    refine lv_aload_n C0.hx C0.hb dX9_where_15 rfl (lv_at hl 0 rfl) ?_
    obtain ⟨v2, hv2, h⟩ := Option.bind_eq_some_iff.mp h
    refine q_getI C0 hw hv2 rfl in_9 (by decide) kw_863 dX9_where_16 ?_
    refine lv_if_ne (tgt := 25) C0.hx C0.hb dX9_where_19 (by decide) (fun hc => ?_) (fun hc => ?_)
    · have h := (if_neg hc).symm.trans h
      refine lv_aload_n C0.hx C0.hb dX9_where_25 rfl (lv_at hl 0 rfl) ?_
      obtain ⟨c3, hc3, h⟩ := Option.bind_eq_some_iff.mp h
      obtain ⟨S4, hS4, h⟩ := Option.bind_eq_some_iff.mp h
      refine q_callV (n := 0) (av := []) (rest := []) (st1 := []) C0 hw (m_X9_asides l b0 D cy S a0 hS4) hc3 rfl (by decide) (goodV kw_1181 kw_1183 kw_55 kw_72 kw_1184) ⟨rfl, rfl⟩ (by decide +kernel) ⟨(Nat.le_of_ble_eq_true rfl), (Nat.le_of_ble_eq_true rfl)⟩ rfl hl.1 rfl (Nat.le_of_ble_eq_true rfl) dX9_where_26 ⟨Nat.zero_le _, Nat.zero_le _⟩ rfl (fun H locs hw => ?_)
      refine lv_aload_n C0.hx C0.hb dX9_where_29 rfl (lv_at hl 0 rfl) ?_
      refine lv_iload_n C0.hx C0.hb dX9_where_30 rfl (lv_at hl 1 rfl) ?_
      obtain ⟨c5, hc5, h⟩ := Option.bind_eq_some_iff.mp h
      obtain ⟨S6, hS6, h⟩ := Option.bind_eq_some_iff.mp h
      refine q_callV (n := 1) (av := [.int x1]) (rest := []) (st1 := []) C0 hw (m_X9_goesOn l b0 D cy S4 a0 x1 hS6) hc5 rfl (by decide) (goodV kw_1083 kw_1085 kw_44 kw_72 kw_1086) ⟨rfl, rfl⟩ (by decide +kernel) ⟨(Nat.le_of_ble_eq_true rfl), (Nat.le_of_ble_eq_true rfl)⟩ rfl hl.1 rfl (Nat.le_of_ble_eq_true rfl) dX9_where_31 ⟨Nat.zero_le _, Nat.zero_le _⟩ rfl (fun H locs hw => ?_)
      refine lv_aload_n C0.hx C0.hb dX9_where_34 rfl (lv_at hl 0 rfl) ?_
      refine lv_iconst (v := (2 : Int32)) C0.hx C0.hb dX9_where_35 (by decide) ?_
      obtain ⟨c7, hc7, h⟩ := Option.bind_eq_some_iff.mp h
      obtain ⟨v8, hv8, h⟩ := Option.bind_eq_some_iff.mp h
      refine q_callV (n := 1) (av := [.int (2 : Int32)]) (rest := []) (st1 := [.int v8]) C0 hw (m_X9_at l b0 D cy S6 a0 (2 : Int32) hv8) hc7 rfl (by decide) (goodV kw_1013 kw_1015 kw_34 kw_72 kw_1016) ⟨rfl, rfl⟩ (by decide +kernel) ⟨(Nat.le_of_ble_eq_true rfl), (Nat.le_of_ble_eq_true rfl)⟩ rfl hl.1 rfl (Nat.le_of_ble_eq_true rfl) dX9_where_36 ⟨Nat.zero_le _, Nat.zero_le _⟩ rfl (fun H locs hw => ?_)
      refine lv_istore_n (lv' := [(2, .int v8), (0, .ref (b0 + a0)), (1, .int x1)]) C0.hx C0.hb dX9_where_39 rfl hl (by decide) rfl (fun ls hl => ?_)
      refine lv_aload_n C0.hx C0.hb dX9_where_40 rfl (lv_at hl 1 rfl) ?_
      obtain ⟨c9, hc9, h⟩ := Option.bind_eq_some_iff.mp h
      obtain ⟨S10, hS10, h⟩ := Option.bind_eq_some_iff.mp h
      refine q_callV (n := 0) (av := []) (rest := []) (st1 := []) C0 hw (m_X9_backs l b0 D cy S6 a0 hS10) hc9 rfl (by decide) (goodV kw_1185 kw_1187 kw_56 kw_72 kw_1188) ⟨rfl, rfl⟩ (by decide +kernel) ⟨(Nat.le_of_ble_eq_true rfl), (Nat.le_of_ble_eq_true rfl)⟩ rfl hl.1 rfl (Nat.le_of_ble_eq_true rfl) dX9_where_41 ⟨Nat.zero_le _, Nat.zero_le _⟩ rfl (fun H locs hw => ?_)
      refine lv_iload_n C0.hx C0.hb dX9_where_44 rfl (lv_at hl 0 rfl) ?_
      obtain rfl := Option.some.inj h
      exact q_reti C0 hw hr hlocks dX9_where_45
    · have h := (if_pos hc).symm.trans h
      refine lv_ldc C0.hx C0.hb C0.ho (C0.w kw_1077) dX9_where_22 ?_
      obtain rfl := Option.some.inj h
      exact q_reti C0 hw hr hlocks dX9_where_24
  · have h := (if_pos hc).symm.trans h
    refine lv_ldc C0.hx C0.hb C0.ho (C0.w kw_954) dX9_where_12 ?_
    obtain rfl := Option.some.inj h
    exact q_reti C0 hw hr hlocks dX9_where_14
abbrev rm_X9_whenIn : Room := { frames := 4, cells := 0, slots := 0, locals := 109 }
def f_X9_whenIn_b26 (a0 : Nat) (x3 : Int32) (S : Mem) : Option (Int32 × Mem) :=
    (ck 9 S a0).bind fun c1 =>
      (f_X9_backs a0 S).bind fun S2 =>
      some (x3, S2)
def f_X9_whenIn_b2 : Nat → Nat → Int32 → Int32 → Int32 → Mem → Option (Int32 × Mem)
  | 0, _, _, _, _, _ => none
  | n + 1, a0, x1, x2, x3, S =>
    (if x2 < x3 then
      f_X9_whenIn_b26 a0 x3 S
      else
      (ck 9 S a0).bind fun c3 =>
      (f_X9_at a0 (2 : Int32) S).bind fun v4 =>
      (if v4 = x1 then
      f_X9_whenIn_b26 a0 x3 S
      else
      (ck 9 S a0).bind fun c5 =>
      (f_X9_goesBy a0 S).bind fun S6 =>
      (some (x3 + (1 : Int32))).bind fun v7 =>
      f_X9_whenIn_b2  n a0 x1 x2 v7 S6))
def f_X9_whenIn (a0 : Nat) (x1 : Int32) (x2 : Int32) (S : Mem) : Option (Int32 × Mem) :=
    f_X9_whenIn_b2 FU a0 x1 x2 (0 : Int32) S
set_option maxHeartbeats 4000000 in
set_option maxRecDepth 100000 in
theorem w_X9_whenIn_b26 {p : Program} {l : Launch} {e : Env} {s : State} {m : MethodId} {args : Array Value} {below : List Frame} {meth : Method} {c : Code} {b0 : Nat} {D : va_G} {cy : Nat → ClassId} {q : (Int32 × Mem)} (C0 : Cx p m c cX9_whenIn 4 s args RX9 D cy) (hr : meth.sig.returnType = some .int) (hlocks : meth.locks = false) : ∀ (a0 : Nat) (x3 : Int32) (S : Mem) (H : Heap) (locs : List Loc) (ls : Array Slot), Wd b0 D cy S s.heap H locs → lv_has ls 4 [(0, .ref (b0 + a0)), (3, .int x3)] → f_X9_whenIn_b26  a0 x3 S = some q → W p l e rm_X9_whenIn s m args below meth c H locs 0 0 (MQ below (Qp b0 D cy (some (.int q.1)) q.2) args s 0 0 (fun q => b0 ≤ q)) (F0 m 26 ls []) := by
  intro a0 x3 S H locs ls hw hl h
  rw [f_X9_whenIn_b26] at h
  refine lv_aload_n C0.hx C0.hb dX9_whenIn_26 rfl (lv_at hl 0 rfl) ?_
  obtain ⟨c1, hc1, h⟩ := Option.bind_eq_some_iff.mp h
  obtain ⟨S2, hS2, h⟩ := Option.bind_eq_some_iff.mp h
  refine q_callV (n := 0) (av := []) (rest := []) (st1 := []) C0 hw (m_X9_backs l b0 D cy S a0 hS2) hc1 rfl (by decide) (goodV kw_1185 kw_1187 kw_56 kw_72 kw_1188) ⟨rfl, rfl⟩ (by decide +kernel) ⟨(Nat.le_of_ble_eq_true rfl), (Nat.le_of_ble_eq_true rfl)⟩ rfl hl.1 rfl (Nat.le_of_ble_eq_true rfl) dX9_whenIn_27 ⟨Nat.zero_le _, Nat.zero_le _⟩ rfl (fun H locs hw => ?_)
  refine lv_iload_n C0.hx C0.hb dX9_whenIn_30 rfl (lv_at hl 1 rfl) ?_
  obtain rfl := Option.some.inj h
  exact q_reti C0 hw hr hlocks dX9_whenIn_31
set_option maxHeartbeats 4000000 in
set_option maxRecDepth 100000 in
theorem w_X9_whenIn_b2 {p : Program} {l : Launch} {e : Env} {s : State} {m : MethodId} {args : Array Value} {below : List Frame} {meth : Method} {c : Code} {b0 : Nat} {D : va_G} {cy : Nat → ClassId} {q : (Int32 × Mem)} (C0 : Cx p m c cX9_whenIn 4 s args RX9 D cy) (hr : meth.sig.returnType = some .int) (hlocks : meth.locks = false) : ∀ (n : Nat) (a0 : Nat) (x1 : Int32) (x2 : Int32) (x3 : Int32) (S : Mem) (H : Heap) (locs : List Loc) (ls : Array Slot), Wd b0 D cy S s.heap H locs → lv_has ls 4 [(0, .ref (b0 + a0)), (1, .int x1), (2, .int x2), (3, .int x3)] → f_X9_whenIn_b2  n a0 x1 x2 x3 S = some q → W p l e rm_X9_whenIn s m args below meth c H locs 0 0 (MQ below (Qp b0 D cy (some (.int q.1)) q.2) args s 0 0 (fun q => b0 ≤ q)) (F0 m 2 ls []) := by
  intro n
  induction n with
  | zero => intro a0 x1 x2 x3 S H locs ls hw hl h; exact absurd h (by simp [f_X9_whenIn_b2])
  | succ n ih =>
    intro a0 x1 x2 x3 S H locs ls hw hl h
    rw [f_X9_whenIn_b2] at h
    refine lv_iload_n C0.hx C0.hb dX9_whenIn_2 rfl (lv_at hl 3 rfl) ?_
    refine lv_iload_n C0.hx C0.hb dX9_whenIn_3 rfl (lv_at hl 2 rfl) ?_
    refine lv_icmp_gt (tgt := 26) C0.hx C0.hb dX9_whenIn_4 (by decide) (fun hc => ?_) (fun hc => ?_)
    · have h := (if_pos hc).symm.trans h
      exact w_X9_whenIn_b26 C0 hr hlocks a0 x3 S _ _ _ hw (lv_sub hl [0, 3] rfl) h
    · have h := (if_neg hc).symm.trans h
      refine lv_aload_n C0.hx C0.hb dX9_whenIn_7 rfl (lv_at hl 0 rfl) ?_
      refine lv_iconst (v := (2 : Int32)) C0.hx C0.hb dX9_whenIn_8 (by decide) ?_
      obtain ⟨c3, hc3, h⟩ := Option.bind_eq_some_iff.mp h
      obtain ⟨v4, hv4, h⟩ := Option.bind_eq_some_iff.mp h
      refine q_callV (n := 1) (av := [.int (2 : Int32)]) (rest := []) (st1 := [.int v4]) C0 hw (m_X9_at l b0 D cy S a0 (2 : Int32) hv4) hc3 rfl (by decide) (goodV kw_1013 kw_1015 kw_34 kw_72 kw_1016) ⟨rfl, rfl⟩ (by decide +kernel) ⟨(Nat.le_of_ble_eq_true rfl), (Nat.le_of_ble_eq_true rfl)⟩ rfl hl.1 rfl (Nat.le_of_ble_eq_true rfl) dX9_whenIn_9 ⟨Nat.zero_le _, Nat.zero_le _⟩ rfl (fun H locs hw => ?_)
      refine lv_iload_n C0.hx C0.hb dX9_whenIn_12 rfl (lv_at hl 1 rfl) ?_
      refine lv_icmp_eq (tgt := 26) C0.hx C0.hb dX9_whenIn_13 (by decide) (fun hc => ?_) (fun hc => ?_)
      · have h := (if_pos hc).symm.trans h
        exact w_X9_whenIn_b26 C0 hr hlocks a0 x3 S _ _ _ hw (lv_sub hl [0, 3] rfl) h
      · have h := (if_neg hc).symm.trans h
        refine lv_aload_n C0.hx C0.hb dX9_whenIn_16 rfl (lv_at hl 0 rfl) ?_
        obtain ⟨c5, hc5, h⟩ := Option.bind_eq_some_iff.mp h
        obtain ⟨S6, hS6, h⟩ := Option.bind_eq_some_iff.mp h
        refine q_callV (n := 0) (av := []) (rest := []) (st1 := []) C0 hw (m_X9_goesBy l b0 D cy S a0 hS6) hc5 rfl (by decide) (goodV kw_1087 kw_1089 kw_45 kw_72 kw_1090) ⟨rfl, rfl⟩ (by decide +kernel) ⟨(Nat.le_of_ble_eq_true rfl), (Nat.le_of_ble_eq_true rfl)⟩ rfl hl.1 rfl (Nat.le_of_ble_eq_true rfl) dX9_whenIn_17 ⟨Nat.zero_le _, Nat.zero_le _⟩ rfl (fun H locs hw => ?_)
        obtain ⟨v7, hv7, h⟩ := Option.bind_eq_some_iff.mp h
        refine lv_iinc (v := v7) (lv' := [(3, .int v7), (0, .ref (b0 + a0)), (1, .int x1), (2, .int x2)]) C0.hx C0.hb dX9_whenIn_20 hl (k := 3) rfl (by rw [← Option.some.inj hv7]; rfl) (by decide) rfl (fun ls hl => ?_)
        refine lv_goto (tgt := 2) C0.hx C0.hb dX9_whenIn_23 (by decide) ?_
        exact ih a0 x1 x2 v7 S6 _ _ _ hw (lv_sub hl [1, 2, 3, 0] rfl) h
set_option maxHeartbeats 4000000 in
set_option maxRecDepth 100000 in
theorem m_X9_whenIn (l : Launch) (b0 : Nat) (D : va_G) (cy : Nat → ClassId) (S : Mem) (a0 : Nat) (x1 : Int32) (x2 : Int32) {q : (Int32 × Mem)} (h : f_X9_whenIn a0 x1 x2 S = some q) : Met l yX9_whenIn [.code yX9_whenIn cX9_whenIn 4 (some .int)] rm_X9_whenIn (Pr b0 D cy S [.ref (b0 + a0), .int x1, .int x2]) (Qp b0 D cy (some (.int q.1)) q.2) 0 0 (fun q => b0 ≤ q) := by
  refine Met.ofW (cc := cX9_whenIn) (maxL := 4) (ret := some .int) (by decide) rfl ?_
  intro p e s m args below meth c s₁ B hml hv
  obtain ⟨rfl, hP, hK, hT⟩ := hv
  have C0 : Cx p m c cX9_whenIn 4 s (List.toArray [.ref (b0 + a0), .int x1, .int x2]) RX9 D cy := ⟨⟨B.exec, B.bytes, hml, findClass_of_methodNamed B.named, fun w h => hT w h _⟩, hK, hT⟩
  have hr : meth.sig.returnType = some .int := B.returns
  have hlocks := B.notSynchronized
  have hw : Wd b0 D cy S s.heap s.heap [] := ⟨hP, va_S.rf⟩
  have hl := lv_entry ([.ref (b0 + a0), .int x1, .int x2]) (n := 4) (Nat.le_of_ble_eq_true rfl)
  rw [lg_entry_eq]
  generalize (lg_sl ([.ref (b0 + a0), .int x1, .int x2]) ++ List.replicate (4 - (lg_sl ([.ref (b0 + a0), .int x1, .int x2])).length) Slot.unset).toArray = ls at hl ⊢
  have hl : lv_has ls 4 [(0, .ref (b0 + a0)), (1, .int x1), (2, .int x2)] := hl
  rw [f_X9_whenIn] at h
  show W p l e rm_X9_whenIn s m _ below meth c s.heap [] 0 0 _ _
  refine lv_iconst (v := (0 : Int32)) C0.hx C0.hb dX9_whenIn_0 (by decide) ?_
  refine lv_istore_n (lv' := [(3, .int (0 : Int32)), (0, .ref (b0 + a0)), (1, .int x1), (2, .int x2)]) C0.hx C0.hb dX9_whenIn_1 rfl hl (by decide) rfl (fun ls hl => ?_)
  exact w_X9_whenIn_b2 C0 hr hlocks FU a0 x1 x2 (0 : Int32) S _ _ _ hw (lv_sub hl [1, 2, 3, 0] rfl) h
abbrev rm_X9_when : Room := { frames := 5, cells := 0, slots := 0, locals := 132 }
def f_X9_when (a0 : Nat) (x1 : Int32) (S : Mem) : Option (Int32 × Mem) :=
    (ck 9 S a0).bind fun c1 =>
      (f_X9_isRoom a0 x1 S).bind fun v2 =>
      (if v2 = (0 : Int32) then
      some ((-1000000001 : Int32), S)
      else
      (ck 9 S a0).bind fun c3 =>
      (f_X9_asides a0 S).bind fun S4 =>
      (ck 9 S4 a0).bind fun c5 =>
      (f_X9_whenIn a0 x1 (100 : Int32) S4).bind fun q6 =>
      (if q6.1 ≤ (100 : Int32) then
      some (q6.1, q6.2)
      else
      some ((-1 : Int32), q6.2)))
set_option maxHeartbeats 4000000 in
set_option maxRecDepth 100000 in
theorem m_X9_when (l : Launch) (b0 : Nat) (D : va_G) (cy : Nat → ClassId) (S : Mem) (a0 : Nat) (x1 : Int32) {q : (Int32 × Mem)} (h : f_X9_when a0 x1 S = some q) : Met l yX9_when [.code yX9_when cX9_when 3 (some .int)] rm_X9_when (Pr b0 D cy S [.ref (b0 + a0), .int x1]) (Qp b0 D cy (some (.int q.1)) q.2) 0 0 (fun q => b0 ≤ q) := by
  refine Met.ofW (cc := cX9_when) (maxL := 3) (ret := some .int) (by decide) rfl ?_
  intro p e s m args below meth c s₁ B hml hv
  obtain ⟨rfl, hP, hK, hT⟩ := hv
  have C0 : Cx p m c cX9_when 3 s (List.toArray [.ref (b0 + a0), .int x1]) RX9 D cy := ⟨⟨B.exec, B.bytes, hml, findClass_of_methodNamed B.named, fun w h => hT w h _⟩, hK, hT⟩
  have hr : meth.sig.returnType = some .int := B.returns
  have hlocks := B.notSynchronized
  have hw : Wd b0 D cy S s.heap s.heap [] := ⟨hP, va_S.rf⟩
  have hl := lv_entry ([.ref (b0 + a0), .int x1]) (n := 3) (Nat.le_of_ble_eq_true rfl)
  rw [lg_entry_eq]
  generalize (lg_sl ([.ref (b0 + a0), .int x1]) ++ List.replicate (3 - (lg_sl ([.ref (b0 + a0), .int x1])).length) Slot.unset).toArray = ls at hl ⊢
  have hl : lv_has ls 3 [(0, .ref (b0 + a0)), (1, .int x1)] := hl
  rw [f_X9_when] at h
  show W p l e rm_X9_when s m _ below meth c s.heap [] 0 0 _ _
  refine lv_aload_n C0.hx C0.hb dX9_when_0 rfl (lv_at hl 0 rfl) ?_
  refine lv_iload_n C0.hx C0.hb dX9_when_1 rfl (lv_at hl 1 rfl) ?_
  obtain ⟨c1, hc1, h⟩ := Option.bind_eq_some_iff.mp h
  obtain ⟨v2, hv2, h⟩ := Option.bind_eq_some_iff.mp h
  refine q_callV (n := 1) (av := [.int x1]) (rest := []) (st1 := [.int v2]) C0 hw (m_X9_isRoom l b0 D cy S a0 x1 hv2) hc1 rfl (by decide) (goodV kw_1021 kw_1023 kw_35 kw_72 kw_1024) ⟨rfl, rfl⟩ (by decide +kernel) ⟨(Nat.le_of_ble_eq_true rfl), (Nat.le_of_ble_eq_true rfl)⟩ rfl hl.1 rfl (Nat.le_of_ble_eq_true rfl) dX9_when_2 ⟨Nat.zero_le _, Nat.zero_le _⟩ rfl (fun H locs hw => ?_)
  refine lv_if_ne (tgt := 11) C0.hx C0.hb dX9_when_5 (by decide) (fun hc => ?_) (fun hc => ?_)
  · have h := (if_neg hc).symm.trans h
    refine lv_aload_n C0.hx C0.hb dX9_when_11 rfl (lv_at hl 0 rfl) ?_
    obtain ⟨c3, hc3, h⟩ := Option.bind_eq_some_iff.mp h
    obtain ⟨S4, hS4, h⟩ := Option.bind_eq_some_iff.mp h
    refine q_callV (n := 0) (av := []) (rest := []) (st1 := []) C0 hw (m_X9_asides l b0 D cy S a0 hS4) hc3 rfl (by decide) (goodV kw_1181 kw_1183 kw_55 kw_72 kw_1184) ⟨rfl, rfl⟩ (by decide +kernel) ⟨(Nat.le_of_ble_eq_true rfl), (Nat.le_of_ble_eq_true rfl)⟩ rfl hl.1 rfl (Nat.le_of_ble_eq_true rfl) dX9_when_12 ⟨Nat.zero_le _, Nat.zero_le _⟩ rfl (fun H locs hw => ?_)
    refine lv_aload_n C0.hx C0.hb dX9_when_15 rfl (lv_at hl 0 rfl) ?_
    refine lv_iload_n C0.hx C0.hb dX9_when_16 rfl (lv_at hl 1 rfl) ?_
    refine lv_bipush (v := (100 : Int32)) C0.hx C0.hb dX9_when_17 (by decide) ?_
    obtain ⟨c5, hc5, h⟩ := Option.bind_eq_some_iff.mp h
    obtain ⟨q6, hq6, h⟩ := Option.bind_eq_some_iff.mp h
    refine q_callV (n := 2) (av := [.int x1, .int (100 : Int32)]) (rest := []) (st1 := [.int q6.1]) C0 hw (m_X9_whenIn l b0 D cy S4 a0 x1 (100 : Int32) hq6) hc5 rfl (by decide) (goodV kw_1193 kw_1195 kw_57 kw_72 kw_1196) ⟨rfl, rfl⟩ (by decide +kernel) ⟨(Nat.le_of_ble_eq_true rfl), (Nat.le_of_ble_eq_true rfl)⟩ rfl hl.1 rfl (Nat.le_of_ble_eq_true rfl) dX9_when_19 ⟨Nat.zero_le _, Nat.zero_le _⟩ rfl (fun H locs hw => ?_)
    refine lv_istore_n (lv' := [(2, .int q6.1), (0, .ref (b0 + a0)), (1, .int x1)]) C0.hx C0.hb dX9_when_22 rfl hl (by decide) rfl (fun ls hl => ?_)
    refine lv_iload_n C0.hx C0.hb dX9_when_23 rfl (lv_at hl 0 rfl) ?_
    refine lv_bipush (v := (100 : Int32)) C0.hx C0.hb dX9_when_24 (by decide) ?_
    refine lv_icmp_le (tgt := 33) C0.hx C0.hb dX9_when_26 (by decide) (fun hc => ?_) (fun hc => ?_)
    · have h := (if_pos hc).symm.trans h
      refine lv_iload_n C0.hx C0.hb dX9_when_33 rfl (lv_at hl 0 rfl) ?_
      obtain rfl := Option.some.inj h
      exact q_reti C0 hw hr hlocks dX9_when_34
    · have h := (if_neg hc).symm.trans h
      refine lv_iconst (v := (-1 : Int32)) C0.hx C0.hb dX9_when_29 (by decide) ?_
      refine lv_goto (tgt := 34) C0.hx C0.hb dX9_when_30 (by decide) ?_
      obtain rfl := Option.some.inj h
      exact q_reti C0 hw hr hlocks dX9_when_34
  · have h := (if_pos hc).symm.trans h
    refine lv_ldc C0.hx C0.hb C0.ho (C0.w kw_1025) dX9_when_8 ?_
    obtain rfl := Option.some.inj h
    exact q_reti C0 hw hr hlocks dX9_when_10
abbrev rm_X9_governed : Room := { frames := 5, cells := 0, slots := 0, locals := 131 }
def f_X9_governed (a0 : Nat) (x1 : Int32) (x2 : Int32) (S : Mem) : Option (Int32 × Mem) :=
    (ck 9 S a0).bind fun c1 =>
      (f_X9_isRoom a0 x1 S).bind fun v2 =>
      (if v2 = (0 : Int32) then
      some ((-1000000001 : Int32), S)
      else
      (f_X9_in x2.toInt64 (1 : Int64) (100 : Int64)).bind fun v3 =>
      (if v3 = (0 : Int32) then
      some ((-1000000002 : Int32), S)
      else
      (ck 9 S a0).bind fun c4 =>
      (f_X9_asides a0 S).bind fun S5 =>
      (ck 9 S5 a0).bind fun c6 =>
      (f_X9_goesOn a0 x2 S5).bind fun S7 =>
      (gR 9 7 S7 a0).bind fun r8 =>
      (ldJ S7 r8 ((18 : Int32) + x1)).bind fun u9 =>
      (gR 9 17 S7 a0).bind fun r10 =>
      (ldJ S7 r10 ((18 : Int32) + x1)).bind fun u11 =>
      (some ((u9 - u11).toInt32)).bind fun v12 =>
      (ck 9 S7 a0).bind fun c13 =>
      (f_X9_backs a0 S7).bind fun S14 =>
      some (v12, S14)))
set_option maxHeartbeats 4000000 in
set_option maxRecDepth 100000 in
theorem m_X9_governed (l : Launch) (b0 : Nat) (D : va_G) (cy : Nat → ClassId) (S : Mem) (a0 : Nat) (x1 : Int32) (x2 : Int32) {q : (Int32 × Mem)} (h : f_X9_governed a0 x1 x2 S = some q) : Met l yX9_governed [.code yX9_governed cX9_governed 4 (some .int)] rm_X9_governed (Pr b0 D cy S [.ref (b0 + a0), .int x1, .int x2]) (Qp b0 D cy (some (.int q.1)) q.2) 0 0 (fun q => b0 ≤ q) := by
  refine Met.ofW (cc := cX9_governed) (maxL := 4) (ret := some .int) (by decide) rfl ?_
  intro p e s m args below meth c s₁ B hml hv
  obtain ⟨rfl, hP, hK, hT⟩ := hv
  have C0 : Cx p m c cX9_governed 4 s (List.toArray [.ref (b0 + a0), .int x1, .int x2]) RX9 D cy := ⟨⟨B.exec, B.bytes, hml, findClass_of_methodNamed B.named, fun w h => hT w h _⟩, hK, hT⟩
  have hr : meth.sig.returnType = some .int := B.returns
  have hlocks := B.notSynchronized
  have hw : Wd b0 D cy S s.heap s.heap [] := ⟨hP, va_S.rf⟩
  have hl := lv_entry ([.ref (b0 + a0), .int x1, .int x2]) (n := 4) (Nat.le_of_ble_eq_true rfl)
  rw [lg_entry_eq]
  generalize (lg_sl ([.ref (b0 + a0), .int x1, .int x2]) ++ List.replicate (4 - (lg_sl ([.ref (b0 + a0), .int x1, .int x2])).length) Slot.unset).toArray = ls at hl ⊢
  have hl : lv_has ls 4 [(0, .ref (b0 + a0)), (1, .int x1), (2, .int x2)] := hl
  rw [f_X9_governed] at h
  show W p l e rm_X9_governed s m _ below meth c s.heap [] 0 0 _ _
  refine lv_aload_n C0.hx C0.hb dX9_governed_0 rfl (lv_at hl 0 rfl) ?_
  refine lv_iload_n C0.hx C0.hb dX9_governed_1 rfl (lv_at hl 1 rfl) ?_
  obtain ⟨c1, hc1, h⟩ := Option.bind_eq_some_iff.mp h
  obtain ⟨v2, hv2, h⟩ := Option.bind_eq_some_iff.mp h
  refine q_callV (n := 1) (av := [.int x1]) (rest := []) (st1 := [.int v2]) C0 hw (m_X9_isRoom l b0 D cy S a0 x1 hv2) hc1 rfl (by decide) (goodV kw_1021 kw_1023 kw_35 kw_72 kw_1024) ⟨rfl, rfl⟩ (by decide +kernel) ⟨(Nat.le_of_ble_eq_true rfl), (Nat.le_of_ble_eq_true rfl)⟩ rfl hl.1 rfl (Nat.le_of_ble_eq_true rfl) dX9_governed_2 ⟨Nat.zero_le _, Nat.zero_le _⟩ rfl (fun H locs hw => ?_)
  refine lv_if_ne (tgt := 11) C0.hx C0.hb dX9_governed_5 (by decide) (fun hc => ?_) (fun hc => ?_)
  · have h := (if_neg hc).symm.trans h
    refine lv_iload_n C0.hx C0.hb dX9_governed_11 rfl (lv_at hl 2 rfl) ?_
    refine lv_i2l C0.hx C0.hb dX9_governed_12 rfl ?_
    refine lv_lconst (v := (1 : Int64)) C0.hx C0.hb dX9_governed_13 (by decide) ?_
    refine lv_ldc2 C0.hx C0.hb C0.ho (C0.w kw_1180) dX9_governed_14 ?_
    obtain ⟨v3, hv3, h⟩ := Option.bind_eq_some_iff.mp h
    refine q_callS (n := 3) (av := [.long x2.toInt64, .long (1 : Int64), .long (100 : Int64)]) (rest := []) (st1 := [.int v3]) C0 hw (m_X9_in l b0 D cy S x2.toInt64 (1 : Int64) (100 : Int64) hv3) (goodS kw_951 kw_952 kw_72 kw_953) ⟨rfl, rfl⟩ (by decide +kernel) ⟨(Nat.le_of_ble_eq_true rfl), (Nat.le_of_ble_eq_true rfl)⟩ rfl hl.1 rfl (Nat.le_of_ble_eq_true rfl) dX9_governed_17 ⟨Nat.zero_le _, Nat.zero_le _⟩ rfl (fun H locs hw => ?_)
    refine lv_if_ne (tgt := 26) C0.hx C0.hb dX9_governed_20 (by decide) (fun hc => ?_) (fun hc => ?_)
    · have h := (if_neg hc).symm.trans h
      refine lv_aload_n C0.hx C0.hb dX9_governed_26 rfl (lv_at hl 0 rfl) ?_
      obtain ⟨c4, hc4, h⟩ := Option.bind_eq_some_iff.mp h
      obtain ⟨S5, hS5, h⟩ := Option.bind_eq_some_iff.mp h
      refine q_callV (n := 0) (av := []) (rest := []) (st1 := []) C0 hw (m_X9_asides l b0 D cy S a0 hS5) hc4 rfl (by decide) (goodV kw_1181 kw_1183 kw_55 kw_72 kw_1184) ⟨rfl, rfl⟩ (by decide +kernel) ⟨(Nat.le_of_ble_eq_true rfl), (Nat.le_of_ble_eq_true rfl)⟩ rfl hl.1 rfl (Nat.le_of_ble_eq_true rfl) dX9_governed_27 ⟨Nat.zero_le _, Nat.zero_le _⟩ rfl (fun H locs hw => ?_)
      refine lv_aload_n C0.hx C0.hb dX9_governed_30 rfl (lv_at hl 0 rfl) ?_
      refine lv_iload_n C0.hx C0.hb dX9_governed_31 rfl (lv_at hl 2 rfl) ?_
      obtain ⟨c6, hc6, h⟩ := Option.bind_eq_some_iff.mp h
      obtain ⟨S7, hS7, h⟩ := Option.bind_eq_some_iff.mp h
      refine q_callV (n := 1) (av := [.int x2]) (rest := []) (st1 := []) C0 hw (m_X9_goesOn l b0 D cy S5 a0 x2 hS7) hc6 rfl (by decide) (goodV kw_1083 kw_1085 kw_44 kw_72 kw_1086) ⟨rfl, rfl⟩ (by decide +kernel) ⟨(Nat.le_of_ble_eq_true rfl), (Nat.le_of_ble_eq_true rfl)⟩ rfl hl.1 rfl (Nat.le_of_ble_eq_true rfl) dX9_governed_32 ⟨Nat.zero_le _, Nat.zero_le _⟩ rfl (fun H locs hw => ?_)
      refine lv_aload_n C0.hx C0.hb dX9_governed_35 rfl (lv_at hl 0 rfl) ?_
      obtain ⟨r8, hr8, h⟩ := Option.bind_eq_some_iff.mp h
      refine q_getR C0 hw hr8 rfl in_9 (by decide) kw_869 dX9_governed_36 ?_
      refine lv_bipush (v := (18 : Int32)) C0.hx C0.hb dX9_governed_39 (by decide) ?_
      refine lv_iload_n C0.hx C0.hb dX9_governed_41 rfl (lv_at hl 1 rfl) ?_
      refine lv_iadd C0.hx C0.hb dX9_governed_42 ?_
      obtain ⟨u9, hu9, h⟩ := Option.bind_eq_some_iff.mp h
      refine q_ldJ C0 hw hu9 dX9_governed_43 ?_
      refine lv_aload_n C0.hx C0.hb dX9_governed_44 rfl (lv_at hl 0 rfl) ?_
      obtain ⟨r10, hr10, h⟩ := Option.bind_eq_some_iff.mp h
      refine q_getR C0 hw hr10 rfl in_9 (by decide) kw_879 dX9_governed_45 ?_
      refine lv_bipush (v := (18 : Int32)) C0.hx C0.hb dX9_governed_48 (by decide) ?_
      refine lv_iload_n C0.hx C0.hb dX9_governed_50 rfl (lv_at hl 1 rfl) ?_
      refine lv_iadd C0.hx C0.hb dX9_governed_51 ?_
      obtain ⟨u11, hu11, h⟩ := Option.bind_eq_some_iff.mp h
      refine q_ldJ C0 hw hu11 dX9_governed_52 ?_
      refine lv_lsub C0.hx C0.hb dX9_governed_53 ?_
      refine lv_l2i C0.hx C0.hb dX9_governed_54 rfl ?_
      obtain ⟨v12, hv12, h⟩ := Option.bind_eq_some_iff.mp h
      refine q_nmI hv12 ?_
      refine lv_istore_n (lv' := [(3, .int v12), (0, .ref (b0 + a0)), (1, .int x1), (2, .int x2)]) C0.hx C0.hb dX9_governed_55 rfl hl (by decide) rfl (fun ls hl => ?_)
      refine lv_aload_n C0.hx C0.hb dX9_governed_56 rfl (lv_at hl 1 rfl) ?_
      obtain ⟨c13, hc13, h⟩ := Option.bind_eq_some_iff.mp h
      obtain ⟨S14, hS14, h⟩ := Option.bind_eq_some_iff.mp h
      refine q_callV (n := 0) (av := []) (rest := []) (st1 := []) C0 hw (m_X9_backs l b0 D cy S7 a0 hS14) hc13 rfl (by decide) (goodV kw_1185 kw_1187 kw_56 kw_72 kw_1188) ⟨rfl, rfl⟩ (by decide +kernel) ⟨(Nat.le_of_ble_eq_true rfl), (Nat.le_of_ble_eq_true rfl)⟩ rfl hl.1 rfl (Nat.le_of_ble_eq_true rfl) dX9_governed_57 ⟨Nat.zero_le _, Nat.zero_le _⟩ rfl (fun H locs hw => ?_)
      refine lv_iload_n C0.hx C0.hb dX9_governed_60 rfl (lv_at hl 0 rfl) ?_
      obtain rfl := Option.some.inj h
      exact q_reti C0 hw hr hlocks dX9_governed_61
    · have h := (if_pos hc).symm.trans h
      refine lv_ldc C0.hx C0.hb C0.ho (C0.w kw_954) dX9_governed_23 ?_
      obtain rfl := Option.some.inj h
      exact q_reti C0 hw hr hlocks dX9_governed_25
  · have h := (if_pos hc).symm.trans h
    refine lv_ldc C0.hx C0.hb C0.ho (C0.w kw_1025) dX9_governed_8 ?_
    obtain rfl := Option.some.inj h
    exact q_reti C0 hw hr hlocks dX9_governed_10
