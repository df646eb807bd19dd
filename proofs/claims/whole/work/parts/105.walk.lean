abbrev rm_X8_nail : Room := { frames := 4, cells := 0, slots := 0, locals := 103 }
def f_X8_nail (a0 : Nat) (x1 : Int32) (x2 : Int32) (S : Mem) : Option (Int32 × Mem) :=
    (ck 8 S a0).bind fun c1 =>
      (f_X8_isNoRoom a0 x1 S).bind fun v2 =>
      (if v2 = (0 : Int32) then
      (gR 8 3 S a0).bind fun r3 =>
      (gR 8 2 S a0).bind fun r4 =>
      (ck 3 S r3).bind fun c5 =>
      (f_X3_remember r3 r4 S).bind fun S6 =>
      (gR 8 2 S6 a0).bind fun r7 =>
      (gR 5 0 S6 r7).bind fun r8 =>
      (gI 4 6 S6 r8).bind fun v9 =>
      (some (f_X8_bit v9 x1)).bind fun v10 =>
      (gR 8 2 S6 a0).bind fun r11 =>
      (gR 5 0 S6 r11).bind fun r12 =>
      (gR 8 2 S6 a0).bind fun r13 =>
      (gR 5 0 S6 r13).bind fun r14 =>
      (gI 4 6 S6 r14).bind fun v15 =>
      (f_X8_withBit v15 x1 x2).bind fun v16 =>
      (pI 4 6 S6 r12 v16).bind fun S17 =>
      some (v10, S17)
      else
      some ((-1000000001 : Int32), S))
set_option maxHeartbeats 4000000 in
set_option maxRecDepth 100000 in
theorem m_X8_nail (l : Launch) (b0 : Nat) (D : va_G) (cy : Nat → ClassId) (S : Mem) (a0 : Nat) (x1 : Int32) (x2 : Int32) {q : (Int32 × Mem)} (h : f_X8_nail a0 x1 x2 S = some q) : Met l yX8_nail [.code yX8_nail cX8_nail 4 (some .int)] rm_X8_nail (Pr b0 D cy S [.ref (b0 + a0), .int x1, .int x2]) (Qp b0 D cy (some (.int q.1)) q.2) 0 0 (fun q => b0 ≤ q) := by
  refine Met.ofW (cc := cX8_nail) (maxL := 4) (ret := some .int) (by decide) rfl ?_
  intro p e s m args below meth c s₁ B hml hv
  obtain ⟨rfl, hP, hK, hT⟩ := hv
  have C0 : Cx p m c cX8_nail 4 s (List.toArray [.ref (b0 + a0), .int x1, .int x2]) RX8 D cy := ⟨⟨B.exec, B.bytes, hml, findClass_of_methodNamed B.named, fun w h => hT w h _⟩, hK, hT⟩
  have hr : meth.sig.returnType = some .int := B.returns
  have hlocks := B.notSynchronized
  have hw : Wd b0 D cy S s.heap s.heap [] := ⟨hP, va_S.rf⟩
  have hl := lv_entry ([.ref (b0 + a0), .int x1, .int x2]) (n := 4) (Nat.le_of_ble_eq_true rfl)
  rw [lg_entry_eq]
  generalize (lg_sl ([.ref (b0 + a0), .int x1, .int x2]) ++ List.replicate (4 - (lg_sl ([.ref (b0 + a0), .int x1, .int x2])).length) Slot.unset).toArray = ls at hl ⊢
  have hl : lv_has ls 4 [(0, .ref (b0 + a0)), (1, .int x1), (2, .int x2)] := hl
  rw [f_X8_nail] at h
  show W p l e rm_X8_nail s m _ below meth c s.heap [] 0 0 _ _
  refine lv_aload_n C0.hx C0.hb dX8_nail_0 rfl (lv_at hl 0 rfl) ?_
  refine lv_iload_n C0.hx C0.hb dX8_nail_1 rfl (lv_at hl 1 rfl) ?_
  obtain ⟨c1, hc1, h⟩ := Option.bind_eq_some_iff.mp h
  obtain ⟨v2, hv2, h⟩ := Option.bind_eq_some_iff.mp h
  refine q_callV (n := 1) (av := [.int x1]) (rest := []) (st1 := [.int v2]) C0 hw (m_X8_isNoRoom l b0 D cy S a0 x1 hv2) hc1 rfl (by decide) (goodV kw_505 kw_507 kw_10 kw_63 kw_508) ⟨rfl, rfl⟩ (by decide +kernel) ⟨(Nat.le_of_ble_eq_true rfl), (Nat.le_of_ble_eq_true rfl)⟩ rfl hl.1 rfl (Nat.le_of_ble_eq_true rfl) dX8_nail_2 ⟨Nat.zero_le _, Nat.zero_le _⟩ rfl (fun H locs hw => ?_)
  refine lv_if_eq (tgt := 11) C0.hx C0.hb dX8_nail_5 (by decide) (fun hc => ?_) (fun hc => ?_)
  · have h := (if_pos hc).symm.trans h
    refine lv_aload_n C0.hx C0.hb dX8_nail_11 rfl (lv_at hl 0 rfl) ?_
    obtain ⟨r3, hr3, h⟩ := Option.bind_eq_some_iff.mp h
    refine q_getR C0 hw hr3 rfl in_8 (by decide) kw_353 dX8_nail_12 ?_
    refine lv_aload_n C0.hx C0.hb dX8_nail_15 rfl (lv_at hl 0 rfl) ?_
    obtain ⟨r4, hr4, h⟩ := Option.bind_eq_some_iff.mp h
    refine q_getR C0 hw hr4 rfl in_8 (by decide) kw_352 dX8_nail_16 ?_
    obtain ⟨c5, hc5, h⟩ := Option.bind_eq_some_iff.mp h
    obtain ⟨S6, hS6, h⟩ := Option.bind_eq_some_iff.mp h
    refine q_callV (n := 1) (av := [.ref (b0 + r4)]) (rest := []) (st1 := []) C0 hw (m_X3_remember l b0 D cy S r3 r4 hS6) hc5 rfl (by decide) (goodV kw_563 kw_564 kw_565 kw_69 kw_566) ⟨rfl, rfl⟩ (by decide +kernel) ⟨(Nat.le_of_ble_eq_true rfl), (Nat.le_of_ble_eq_true rfl)⟩ rfl hl.1 rfl (Nat.le_of_ble_eq_true rfl) dX8_nail_19 ⟨Nat.zero_le _, Nat.zero_le _⟩ rfl (fun H locs hw => ?_)
    refine lv_aload_n C0.hx C0.hb dX8_nail_22 rfl (lv_at hl 0 rfl) ?_
    obtain ⟨r7, hr7, h⟩ := Option.bind_eq_some_iff.mp h
    refine q_getR C0 hw hr7 rfl in_8 (by decide) kw_352 dX8_nail_23 ?_
    obtain ⟨r8, hr8, h⟩ := Option.bind_eq_some_iff.mp h
    refine q_getR C0 hw hr8 rfl in_5 (by decide) kw_259 dX8_nail_26 ?_
    obtain ⟨v9, hv9, h⟩ := Option.bind_eq_some_iff.mp h
    refine q_getI C0 hw hv9 rfl in_4 (by decide) kw_212 dX8_nail_29 ?_
    refine lv_iload_n C0.hx C0.hb dX8_nail_32 rfl (lv_at hl 1 rfl) ?_
    refine q_callS (n := 2) (av := [.int v9, .int x1]) (rest := []) (st1 := [.int (f_X8_bit v9 x1)]) C0 hw (m_X8_bit l b0 D cy S6 v9 x1) (goodS kw_537 kw_529 kw_63 kw_530) ⟨rfl, rfl⟩ (by decide +kernel) ⟨(Nat.le_of_ble_eq_true rfl), (Nat.le_of_ble_eq_true rfl)⟩ rfl hl.1 rfl (Nat.le_of_ble_eq_true rfl) dX8_nail_33 ⟨Nat.zero_le _, Nat.zero_le _⟩ rfl (fun H locs hw => ?_)
    obtain ⟨v10, hv10, h⟩ := Option.bind_eq_some_iff.mp h
    refine q_nmI hv10 ?_
    refine lv_istore_n (lv' := [(3, .int v10), (0, .ref (b0 + a0)), (1, .int x1), (2, .int x2)]) C0.hx C0.hb dX8_nail_36 rfl hl (by decide) rfl (fun ls hl => ?_)
    refine lv_aload_n C0.hx C0.hb dX8_nail_37 rfl (lv_at hl 1 rfl) ?_
    obtain ⟨r11, hr11, h⟩ := Option.bind_eq_some_iff.mp h
    refine q_getR C0 hw hr11 rfl in_8 (by decide) kw_352 dX8_nail_38 ?_
    obtain ⟨r12, hr12, h⟩ := Option.bind_eq_some_iff.mp h
    refine q_getR C0 hw hr12 rfl in_5 (by decide) kw_259 dX8_nail_41 ?_
    refine lv_aload_n C0.hx C0.hb dX8_nail_44 rfl (lv_at hl 1 rfl) ?_
    obtain ⟨r13, hr13, h⟩ := Option.bind_eq_some_iff.mp h
    refine q_getR C0 hw hr13 rfl in_8 (by decide) kw_352 dX8_nail_45 ?_
    obtain ⟨r14, hr14, h⟩ := Option.bind_eq_some_iff.mp h
    refine q_getR C0 hw hr14 rfl in_5 (by decide) kw_259 dX8_nail_48 ?_
    obtain ⟨v15, hv15, h⟩ := Option.bind_eq_some_iff.mp h
    refine q_getI C0 hw hv15 rfl in_4 (by decide) kw_212 dX8_nail_51 ?_
    refine lv_iload_n C0.hx C0.hb dX8_nail_54 rfl (lv_at hl 2 rfl) ?_
    refine lv_iload_n C0.hx C0.hb dX8_nail_55 rfl (lv_at hl 3 rfl) ?_
    obtain ⟨v16, hv16, h⟩ := Option.bind_eq_some_iff.mp h
    refine q_callS (n := 3) (av := [.int v15, .int x1, .int x2]) (rest := [.ref (b0 + r12)]) (st1 := [.int v16, .ref (b0 + r12)]) C0 hw (m_X8_withBit l b0 D cy S6 v15 x1 x2 hv16) (goodS kw_629 kw_443 kw_63 kw_444) ⟨rfl, rfl⟩ (by decide +kernel) ⟨(Nat.le_of_ble_eq_true rfl), (Nat.le_of_ble_eq_true rfl)⟩ rfl hl.1 rfl (Nat.le_of_ble_eq_true rfl) dX8_nail_56 ⟨Nat.zero_le _, Nat.zero_le _⟩ rfl (fun H locs hw => ?_)
    obtain ⟨S17, hS17, h⟩ := Option.bind_eq_some_iff.mp h
    refine q_putI C0 hw hS17 rfl in_4 tyX4_ok nmX4 ⟨by decide, by decide, rfl, rfl⟩ rfl kw_212 dX8_nail_59 (fun H locs hw => ?_)
    refine lv_iload_n C0.hx C0.hb dX8_nail_62 rfl (lv_at hl 0 rfl) ?_
    obtain rfl := Option.some.inj h
    exact q_reti C0 hw hr hlocks dX8_nail_63
  · have h := (if_neg hc).symm.trans h
    refine lv_ldc C0.hx C0.hb C0.ho (C0.w kw_509) dX8_nail_8 ?_
    obtain rfl := Option.some.inj h
    exact q_reti C0 hw hr hlocks dX8_nail_10
abbrev rm_X8_brick : Room := { frames := 4, cells := 0, slots := 0, locals := 103 }
def f_X8_brick_b94 (x3 : Int32) (t0 : Int32) (t1 : Int32) (t2 : Int32) (t3 : Nat) (S : Mem) : Option (Int32 × Mem) :=
    (ck 4 S t3).bind fun c23 =>
      (f_X4_openDoor t3 t2 t1 t0 S).bind fun S24 =>
      some (x3, S24)
def f_X8_brick (a0 : Nat) (x1 : Int32) (x2 : Int32) (S : Mem) : Option (Int32 × Mem) :=
    (if x1 < (0 : Int32) then
      some ((-1000000001 : Int32), S)
      else
      (gR 8 1 S a0).bind fun r1 =>
      (gI 2 3 S r1).bind fun v2 =>
      (if x1 < v2 then
      (gR 8 3 S a0).bind fun r3 =>
      (gR 8 2 S a0).bind fun r4 =>
      (ck 3 S r3).bind fun c5 =>
      (f_X3_remember r3 r4 S).bind fun S6 =>
      (gR 8 2 S6 a0).bind fun r7 =>
      (gI 5 3 S6 r7).bind fun v8 =>
      (some (f_X8_bit v8 x1)).bind fun v9 =>
      (gR 8 2 S6 a0).bind fun r10 =>
      (gR 8 2 S6 a0).bind fun r11 =>
      (gI 5 3 S6 r11).bind fun v12 =>
      (f_X8_withBit v12 x1 x2).bind fun v13 =>
      (pI 5 3 S6 r10 v13).bind fun S14 =>
      (gR 8 2 S14 a0).bind fun r15 =>
      (gR 5 0 S14 r15).bind fun r16 =>
      (gR 8 1 S14 a0).bind fun r17 =>
      (gR 2 7 S14 r17).bind fun r18 =>
      (ldI S14 r18 x1).bind fun v19 =>
      (gR 8 1 S14 a0).bind fun r20 =>
      (gR 2 8 S14 r20).bind fun r21 =>
      (ldI S14 r21 x1).bind fun v22 =>
      (if x2 = (0 : Int32) then
      f_X8_brick_b94 v9 (1 : Int32) v22 v19 r16 S14
      else
      f_X8_brick_b94 v9 (0 : Int32) v22 v19 r16 S14)
      else
      some ((-1000000001 : Int32), S)))
set_option maxHeartbeats 4000000 in
set_option maxRecDepth 100000 in
theorem w_X8_brick_b94 {p : Program} {l : Launch} {e : Env} {s : State} {m : MethodId} {args : Array Value} {below : List Frame} {meth : Method} {c : Code} {b0 : Nat} {D : va_G} {cy : Nat → ClassId} {q : (Int32 × Mem)} (C0 : Cx p m c cX8_brick 4 s args RX8 D cy) (hr : meth.sig.returnType = some .int) (hlocks : meth.locks = false) : ∀ (x3 : Int32) (t0 : Int32) (t1 : Int32) (t2 : Int32) (t3 : Nat) (S : Mem) (H : Heap) (locs : List Loc) (ls : Array Slot), Wd b0 D cy S s.heap H locs → lv_has ls 4 [(3, .int x3)] → f_X8_brick_b94  x3 t0 t1 t2 t3 S = some q → W p l e rm_X8_brick s m args below meth c H locs 0 0 (MQ below (Qp b0 D cy (some (.int q.1)) q.2) args s 0 0 (fun q => b0 ≤ q)) (F0 m 94 ls [.int t0, .int t1, .int t2, .ref (b0 + t3)]) := by
  intro x3 t0 t1 t2 t3 S H locs ls hw hl h
  rw [f_X8_brick_b94] at h
  obtain ⟨c23, hc23, h⟩ := Option.bind_eq_some_iff.mp h
  obtain ⟨S24, hS24, h⟩ := Option.bind_eq_some_iff.mp h
  refine q_callV (n := 3) (av := [.int t2, .int t1, .int t0]) (rest := []) (st1 := []) C0 hw (m_X4_openDoor l b0 D cy S t3 t2 t1 t0 hS24) hc23 rfl (by decide) (goodV kw_643 kw_477 kw_478 kw_67 kw_479) ⟨rfl, rfl⟩ (by decide +kernel) ⟨(Nat.le_of_ble_eq_true rfl), (Nat.le_of_ble_eq_true rfl)⟩ rfl hl.1 rfl (Nat.le_of_ble_eq_true rfl) dX8_brick_94 ⟨Nat.zero_le _, Nat.zero_le _⟩ rfl (fun H locs hw => ?_)
  refine lv_iload_n C0.hx C0.hb dX8_brick_97 rfl (lv_at hl 0 rfl) ?_
  obtain rfl := Option.some.inj h
  exact q_reti C0 hw hr hlocks dX8_brick_98
set_option maxHeartbeats 4000000 in
set_option maxRecDepth 100000 in
theorem m_X8_brick (l : Launch) (b0 : Nat) (D : va_G) (cy : Nat → ClassId) (S : Mem) (a0 : Nat) (x1 : Int32) (x2 : Int32) {q : (Int32 × Mem)} (h : f_X8_brick a0 x1 x2 S = some q) : Met l yX8_brick [.code yX8_brick cX8_brick 4 (some .int)] rm_X8_brick (Pr b0 D cy S [.ref (b0 + a0), .int x1, .int x2]) (Qp b0 D cy (some (.int q.1)) q.2) 0 0 (fun q => b0 ≤ q) := by
  refine Met.ofW (cc := cX8_brick) (maxL := 4) (ret := some .int) (by decide) rfl ?_
  intro p e s m args below meth c s₁ B hml hv
  obtain ⟨rfl, hP, hK, hT⟩ := hv
  have C0 : Cx p m c cX8_brick 4 s (List.toArray [.ref (b0 + a0), .int x1, .int x2]) RX8 D cy := ⟨⟨B.exec, B.bytes, hml, findClass_of_methodNamed B.named, fun w h => hT w h _⟩, hK, hT⟩
  have hr : meth.sig.returnType = some .int := B.returns
  have hlocks := B.notSynchronized
  have hw : Wd b0 D cy S s.heap s.heap [] := ⟨hP, va_S.rf⟩
  have hl := lv_entry ([.ref (b0 + a0), .int x1, .int x2]) (n := 4) (Nat.le_of_ble_eq_true rfl)
  rw [lg_entry_eq]
  generalize (lg_sl ([.ref (b0 + a0), .int x1, .int x2]) ++ List.replicate (4 - (lg_sl ([.ref (b0 + a0), .int x1, .int x2])).length) Slot.unset).toArray = ls at hl ⊢
  have hl : lv_has ls 4 [(0, .ref (b0 + a0)), (1, .int x1), (2, .int x2)] := hl
  rw [f_X8_brick] at h
  show W p l e rm_X8_brick s m _ below meth c s.heap [] 0 0 _ _
  refine lv_iload_n C0.hx C0.hb dX8_brick_0 rfl (lv_at hl 1 rfl) ?_
  refine lv_if_lt (tgt := 15) C0.hx C0.hb dX8_brick_1 (by decide) (fun hc => ?_) (fun hc => ?_)
  · have h := (if_pos hc).symm.trans h
    refine lv_ldc C0.hx C0.hb C0.ho (C0.w kw_509) dX8_brick_15 ?_
    obtain rfl := Option.some.inj h
    exact q_reti C0 hw hr hlocks dX8_brick_17
  · have h := (if_neg hc).symm.trans h
    refine lv_iload_n C0.hx C0.hb dX8_brick_4 rfl (lv_at hl 1 rfl) ?_
    refine lv_aload_n C0.hx C0.hb dX8_brick_5 rfl (lv_at hl 0 rfl) ?_
    obtain ⟨r1, hr1, h⟩ := Option.bind_eq_some_iff.mp h
    refine q_getR C0 hw hr1 rfl in_8 (by decide) kw_351 dX8_brick_6 ?_
    obtain ⟨v2, hv2, h⟩ := Option.bind_eq_some_iff.mp h
    refine q_getI C0 hw hv2 rfl in_2 (by decide) kw_109 dX8_brick_9 ?_
    refine lv_icmp_lt (tgt := 18) C0.hx C0.hb dX8_brick_12 (by decide) (fun hc => ?_) (fun hc => ?_)
    · have h := (if_pos hc).symm.trans h
      refine lv_aload_n C0.hx C0.hb dX8_brick_18 rfl (lv_at hl 0 rfl) ?_
      obtain ⟨r3, hr3, h⟩ := Option.bind_eq_some_iff.mp h
      refine q_getR C0 hw hr3 rfl in_8 (by decide) kw_353 dX8_brick_19 ?_
      refine lv_aload_n C0.hx C0.hb dX8_brick_22 rfl (lv_at hl 0 rfl) ?_
      obtain ⟨r4, hr4, h⟩ := Option.bind_eq_some_iff.mp h
      refine q_getR C0 hw hr4 rfl in_8 (by decide) kw_352 dX8_brick_23 ?_
      obtain ⟨c5, hc5, h⟩ := Option.bind_eq_some_iff.mp h
      obtain ⟨S6, hS6, h⟩ := Option.bind_eq_some_iff.mp h
      refine q_callV (n := 1) (av := [.ref (b0 + r4)]) (rest := []) (st1 := []) C0 hw (m_X3_remember l b0 D cy S r3 r4 hS6) hc5 rfl (by decide) (goodV kw_563 kw_564 kw_565 kw_69 kw_566) ⟨rfl, rfl⟩ (by decide +kernel) ⟨(Nat.le_of_ble_eq_true rfl), (Nat.le_of_ble_eq_true rfl)⟩ rfl hl.1 rfl (Nat.le_of_ble_eq_true rfl) dX8_brick_26 ⟨Nat.zero_le _, Nat.zero_le _⟩ rfl (fun H locs hw => ?_)
      refine lv_aload_n C0.hx C0.hb dX8_brick_29 rfl (lv_at hl 0 rfl) ?_
      obtain ⟨r7, hr7, h⟩ := Option.bind_eq_some_iff.mp h
      refine q_getR C0 hw hr7 rfl in_8 (by decide) kw_352 dX8_brick_30 ?_
      obtain ⟨v8, hv8, h⟩ := Option.bind_eq_some_iff.mp h
      refine q_getI C0 hw hv8 rfl in_5 (by decide) kw_265 dX8_brick_33 ?_
      refine lv_iload_n C0.hx C0.hb dX8_brick_36 rfl (lv_at hl 1 rfl) ?_
      refine q_callS (n := 2) (av := [.int v8, .int x1]) (rest := []) (st1 := [.int (f_X8_bit v8 x1)]) C0 hw (m_X8_bit l b0 D cy S6 v8 x1) (goodS kw_537 kw_529 kw_63 kw_530) ⟨rfl, rfl⟩ (by decide +kernel) ⟨(Nat.le_of_ble_eq_true rfl), (Nat.le_of_ble_eq_true rfl)⟩ rfl hl.1 rfl (Nat.le_of_ble_eq_true rfl) dX8_brick_37 ⟨Nat.zero_le _, Nat.zero_le _⟩ rfl (fun H locs hw => ?_)
      obtain ⟨v9, hv9, h⟩ := Option.bind_eq_some_iff.mp h
      refine q_nmI hv9 ?_
      refine lv_istore_n (lv' := [(3, .int v9), (0, .ref (b0 + a0)), (1, .int x1), (2, .int x2)]) C0.hx C0.hb dX8_brick_40 rfl hl (by decide) rfl (fun ls hl => ?_)
      refine lv_aload_n C0.hx C0.hb dX8_brick_41 rfl (lv_at hl 1 rfl) ?_
      obtain ⟨r10, hr10, h⟩ := Option.bind_eq_some_iff.mp h
      refine q_getR C0 hw hr10 rfl in_8 (by decide) kw_352 dX8_brick_42 ?_
      refine lv_aload_n C0.hx C0.hb dX8_brick_45 rfl (lv_at hl 1 rfl) ?_
      obtain ⟨r11, hr11, h⟩ := Option.bind_eq_some_iff.mp h
      refine q_getR C0 hw hr11 rfl in_8 (by decide) kw_352 dX8_brick_46 ?_
      obtain ⟨v12, hv12, h⟩ := Option.bind_eq_some_iff.mp h
      refine q_getI C0 hw hv12 rfl in_5 (by decide) kw_265 dX8_brick_49 ?_
      refine lv_iload_n C0.hx C0.hb dX8_brick_52 rfl (lv_at hl 2 rfl) ?_
      refine lv_iload_n C0.hx C0.hb dX8_brick_53 rfl (lv_at hl 3 rfl) ?_
      obtain ⟨v13, hv13, h⟩ := Option.bind_eq_some_iff.mp h
      refine q_callS (n := 3) (av := [.int v12, .int x1, .int x2]) (rest := [.ref (b0 + r10)]) (st1 := [.int v13, .ref (b0 + r10)]) C0 hw (m_X8_withBit l b0 D cy S6 v12 x1 x2 hv13) (goodS kw_629 kw_443 kw_63 kw_444) ⟨rfl, rfl⟩ (by decide +kernel) ⟨(Nat.le_of_ble_eq_true rfl), (Nat.le_of_ble_eq_true rfl)⟩ rfl hl.1 rfl (Nat.le_of_ble_eq_true rfl) dX8_brick_54 ⟨Nat.zero_le _, Nat.zero_le _⟩ rfl (fun H locs hw => ?_)
      obtain ⟨S14, hS14, h⟩ := Option.bind_eq_some_iff.mp h
      refine q_putI C0 hw hS14 rfl in_5 tyX5_ok nmX5 ⟨by decide, by decide, rfl, rfl⟩ rfl kw_265 dX8_brick_57 (fun H locs hw => ?_)
      refine lv_aload_n C0.hx C0.hb dX8_brick_60 rfl (lv_at hl 1 rfl) ?_
      obtain ⟨r15, hr15, h⟩ := Option.bind_eq_some_iff.mp h
      refine q_getR C0 hw hr15 rfl in_8 (by decide) kw_352 dX8_brick_61 ?_
      obtain ⟨r16, hr16, h⟩ := Option.bind_eq_some_iff.mp h
      refine q_getR C0 hw hr16 rfl in_5 (by decide) kw_259 dX8_brick_64 ?_
      refine lv_aload_n C0.hx C0.hb dX8_brick_67 rfl (lv_at hl 1 rfl) ?_
      obtain ⟨r17, hr17, h⟩ := Option.bind_eq_some_iff.mp h
      refine q_getR C0 hw hr17 rfl in_8 (by decide) kw_351 dX8_brick_68 ?_
      obtain ⟨r18, hr18, h⟩ := Option.bind_eq_some_iff.mp h
      refine q_getR C0 hw hr18 rfl in_2 (by decide) kw_121 dX8_brick_71 ?_
      refine lv_iload_n C0.hx C0.hb dX8_brick_74 rfl (lv_at hl 2 rfl) ?_
      obtain ⟨v19, hv19, h⟩ := Option.bind_eq_some_iff.mp h
      refine q_ldI C0 hw hv19 dX8_brick_75 ?_
      refine lv_aload_n C0.hx C0.hb dX8_brick_76 rfl (lv_at hl 1 rfl) ?_
      obtain ⟨r20, hr20, h⟩ := Option.bind_eq_some_iff.mp h
      refine q_getR C0 hw hr20 rfl in_8 (by decide) kw_351 dX8_brick_77 ?_
      obtain ⟨r21, hr21, h⟩ := Option.bind_eq_some_iff.mp h
      refine q_getR C0 hw hr21 rfl in_2 (by decide) kw_124 dX8_brick_80 ?_
      refine lv_iload_n C0.hx C0.hb dX8_brick_83 rfl (lv_at hl 2 rfl) ?_
      obtain ⟨v22, hv22, h⟩ := Option.bind_eq_some_iff.mp h
      refine q_ldI C0 hw hv22 dX8_brick_84 ?_
      refine lv_iload_n C0.hx C0.hb dX8_brick_85 rfl (lv_at hl 3 rfl) ?_
      refine lv_if_ne (tgt := 93) C0.hx C0.hb dX8_brick_86 (by decide) (fun hc => ?_) (fun hc => ?_)
      · have h := (if_neg hc).symm.trans h
        refine lv_iconst (v := (0 : Int32)) C0.hx C0.hb dX8_brick_93 (by decide) ?_
        exact w_X8_brick_b94 C0 hr hlocks v9 (0 : Int32) v22 v19 r16 S14 _ _ _ hw (lv_sub hl [0] rfl) h
      · have h := (if_pos hc).symm.trans h
        refine lv_iconst (v := (1 : Int32)) C0.hx C0.hb dX8_brick_89 (by decide) ?_
        refine lv_goto (tgt := 94) C0.hx C0.hb dX8_brick_90 (by decide) ?_
        exact w_X8_brick_b94 C0 hr hlocks v9 (1 : Int32) v22 v19 r16 S14 _ _ _ hw (lv_sub hl [0] rfl) h
    · have h := (if_neg hc).symm.trans h
      refine lv_ldc C0.hx C0.hb C0.ho (C0.w kw_509) dX8_brick_15 ?_
      obtain rfl := Option.some.inj h
      exact q_reti C0 hw hr hlocks dX8_brick_17
abbrev rm_X8_chalk : Room := { frames := 4, cells := 0, slots := 0, locals := 103 }
def f_X8_chalk (a0 : Nat) (x1 : Int32) (x2 : Int32) (S : Mem) : Option (Int32 × Mem) :=
    (ck 8 S a0).bind fun c1 =>
      (f_X8_isNoPetition a0 x1 S).bind fun v2 =>
      (if v2 = (0 : Int32) then
      (ck 8 S a0).bind fun c3 =>
      (f_X8_isNoRoom a0 x2 S).bind fun v4 =>
      (if v4 = (0 : Int32) then
      (gR 8 3 S a0).bind fun r5 =>
      (gR 8 2 S a0).bind fun r6 =>
      (ck 3 S r5).bind fun c7 =>
      (f_X3_remember r5 r6 S).bind fun S8 =>
      (gR 8 2 S8 a0).bind fun r9 =>
      (gR 5 7 S8 r9).bind fun r10 =>
      (ldI S8 r10 x1).bind fun v11 =>
      (gR 8 2 S8 a0).bind fun r12 =>
      (gR 5 7 S8 r12).bind fun r13 =>
      (stI S8 r13 x1 x2).bind fun S14 =>
      (gR 8 2 S14 a0).bind fun r15 =>
      (gR 8 2 S14 a0).bind fun r16 =>
      (gI 5 4 S14 r16).bind fun v17 =>
      (f_X8_withBit v17 x1 (0 : Int32)).bind fun v18 =>
      (pI 5 4 S14 r15 v18).bind fun S19 =>
      some (v11, S19)
      else
      some ((-1000000001 : Int32), S))
      else
      some ((-1000000001 : Int32), S))
set_option maxHeartbeats 4000000 in
set_option maxRecDepth 100000 in
theorem m_X8_chalk (l : Launch) (b0 : Nat) (D : va_G) (cy : Nat → ClassId) (S : Mem) (a0 : Nat) (x1 : Int32) (x2 : Int32) {q : (Int32 × Mem)} (h : f_X8_chalk a0 x1 x2 S = some q) : Met l yX8_chalk [.code yX8_chalk cX8_chalk 4 (some .int)] rm_X8_chalk (Pr b0 D cy S [.ref (b0 + a0), .int x1, .int x2]) (Qp b0 D cy (some (.int q.1)) q.2) 0 0 (fun q => b0 ≤ q) := by
  refine Met.ofW (cc := cX8_chalk) (maxL := 4) (ret := some .int) (by decide) rfl ?_
  intro p e s m args below meth c s₁ B hml hv
  obtain ⟨rfl, hP, hK, hT⟩ := hv
  have C0 : Cx p m c cX8_chalk 4 s (List.toArray [.ref (b0 + a0), .int x1, .int x2]) RX8 D cy := ⟨⟨B.exec, B.bytes, hml, findClass_of_methodNamed B.named, fun w h => hT w h _⟩, hK, hT⟩
  have hr : meth.sig.returnType = some .int := B.returns
  have hlocks := B.notSynchronized
  have hw : Wd b0 D cy S s.heap s.heap [] := ⟨hP, va_S.rf⟩
  have hl := lv_entry ([.ref (b0 + a0), .int x1, .int x2]) (n := 4) (Nat.le_of_ble_eq_true rfl)
  rw [lg_entry_eq]
  generalize (lg_sl ([.ref (b0 + a0), .int x1, .int x2]) ++ List.replicate (4 - (lg_sl ([.ref (b0 + a0), .int x1, .int x2])).length) Slot.unset).toArray = ls at hl ⊢
  have hl : lv_has ls 4 [(0, .ref (b0 + a0)), (1, .int x1), (2, .int x2)] := hl
  rw [f_X8_chalk] at h
  show W p l e rm_X8_chalk s m _ below meth c s.heap [] 0 0 _ _
  refine lv_aload_n C0.hx C0.hb dX8_chalk_0 rfl (lv_at hl 0 rfl) ?_
  refine lv_iload_n C0.hx C0.hb dX8_chalk_1 rfl (lv_at hl 1 rfl) ?_
  obtain ⟨c1, hc1, h⟩ := Option.bind_eq_some_iff.mp h
  obtain ⟨v2, hv2, h⟩ := Option.bind_eq_some_iff.mp h
  refine q_callV (n := 1) (av := [.int x1]) (rest := []) (st1 := [.int v2]) C0 hw (m_X8_isNoPetition l b0 D cy S a0 x1 hv2) hc1 rfl (by decide) (goodV kw_542 kw_544 kw_11 kw_63 kw_545) ⟨rfl, rfl⟩ (by decide +kernel) ⟨(Nat.le_of_ble_eq_true rfl), (Nat.le_of_ble_eq_true rfl)⟩ rfl hl.1 rfl (Nat.le_of_ble_eq_true rfl) dX8_chalk_2 ⟨Nat.zero_le _, Nat.zero_le _⟩ rfl (fun H locs hw => ?_)
  refine lv_if_ne (tgt := 16) C0.hx C0.hb dX8_chalk_5 (by decide) (fun hc => ?_) (fun hc => ?_)
  · have h := (if_neg hc).symm.trans h
    refine lv_ldc C0.hx C0.hb C0.ho (C0.w kw_509) dX8_chalk_16 ?_
    obtain rfl := Option.some.inj h
    exact q_reti C0 hw hr hlocks dX8_chalk_18
  · have h := (if_pos hc).symm.trans h
    refine lv_aload_n C0.hx C0.hb dX8_chalk_8 rfl (lv_at hl 0 rfl) ?_
    refine lv_iload_n C0.hx C0.hb dX8_chalk_9 rfl (lv_at hl 2 rfl) ?_
    obtain ⟨c3, hc3, h⟩ := Option.bind_eq_some_iff.mp h
    obtain ⟨v4, hv4, h⟩ := Option.bind_eq_some_iff.mp h
    refine q_callV (n := 1) (av := [.int x2]) (rest := []) (st1 := [.int v4]) C0 hw (m_X8_isNoRoom l b0 D cy S a0 x2 hv4) hc3 rfl (by decide) (goodV kw_505 kw_507 kw_10 kw_63 kw_508) ⟨rfl, rfl⟩ (by decide +kernel) ⟨(Nat.le_of_ble_eq_true rfl), (Nat.le_of_ble_eq_true rfl)⟩ rfl hl.1 rfl (Nat.le_of_ble_eq_true rfl) dX8_chalk_10 ⟨Nat.zero_le _, Nat.zero_le _⟩ rfl (fun H locs hw => ?_)
    refine lv_if_eq (tgt := 19) C0.hx C0.hb dX8_chalk_13 (by decide) (fun hc => ?_) (fun hc => ?_)
    · have h := (if_pos hc).symm.trans h
      refine lv_aload_n C0.hx C0.hb dX8_chalk_19 rfl (lv_at hl 0 rfl) ?_
      obtain ⟨r5, hr5, h⟩ := Option.bind_eq_some_iff.mp h
      refine q_getR C0 hw hr5 rfl in_8 (by decide) kw_353 dX8_chalk_20 ?_
      refine lv_aload_n C0.hx C0.hb dX8_chalk_23 rfl (lv_at hl 0 rfl) ?_
      obtain ⟨r6, hr6, h⟩ := Option.bind_eq_some_iff.mp h
      refine q_getR C0 hw hr6 rfl in_8 (by decide) kw_352 dX8_chalk_24 ?_
      obtain ⟨c7, hc7, h⟩ := Option.bind_eq_some_iff.mp h
      obtain ⟨S8, hS8, h⟩ := Option.bind_eq_some_iff.mp h
      refine q_callV (n := 1) (av := [.ref (b0 + r6)]) (rest := []) (st1 := []) C0 hw (m_X3_remember l b0 D cy S r5 r6 hS8) hc7 rfl (by decide) (goodV kw_563 kw_564 kw_565 kw_69 kw_566) ⟨rfl, rfl⟩ (by decide +kernel) ⟨(Nat.le_of_ble_eq_true rfl), (Nat.le_of_ble_eq_true rfl)⟩ rfl hl.1 rfl (Nat.le_of_ble_eq_true rfl) dX8_chalk_27 ⟨Nat.zero_le _, Nat.zero_le _⟩ rfl (fun H locs hw => ?_)
      refine lv_aload_n C0.hx C0.hb dX8_chalk_30 rfl (lv_at hl 0 rfl) ?_
      obtain ⟨r9, hr9, h⟩ := Option.bind_eq_some_iff.mp h
      refine q_getR C0 hw hr9 rfl in_8 (by decide) kw_352 dX8_chalk_31 ?_
      obtain ⟨r10, hr10, h⟩ := Option.bind_eq_some_iff.mp h
      refine q_getR C0 hw hr10 rfl in_5 (by decide) kw_273 dX8_chalk_34 ?_
      refine lv_iload_n C0.hx C0.hb dX8_chalk_37 rfl (lv_at hl 1 rfl) ?_
      obtain ⟨v11, hv11, h⟩ := Option.bind_eq_some_iff.mp h
      refine q_ldI C0 hw hv11 dX8_chalk_38 ?_
      refine lv_istore_n (lv' := [(3, .int v11), (0, .ref (b0 + a0)), (1, .int x1), (2, .int x2)]) C0.hx C0.hb dX8_chalk_39 rfl hl (by decide) rfl (fun ls hl => ?_)
      refine lv_aload_n C0.hx C0.hb dX8_chalk_40 rfl (lv_at hl 1 rfl) ?_
      obtain ⟨r12, hr12, h⟩ := Option.bind_eq_some_iff.mp h
      refine q_getR C0 hw hr12 rfl in_8 (by decide) kw_352 dX8_chalk_41 ?_
      obtain ⟨r13, hr13, h⟩ := Option.bind_eq_some_iff.mp h
      refine q_getR C0 hw hr13 rfl in_5 (by decide) kw_273 dX8_chalk_44 ?_
      refine lv_iload_n C0.hx C0.hb dX8_chalk_47 rfl (lv_at hl 2 rfl) ?_
      refine lv_iload_n C0.hx C0.hb dX8_chalk_48 rfl (lv_at hl 3 rfl) ?_
      obtain ⟨S14, hS14, h⟩ := Option.bind_eq_some_iff.mp h
      refine q_stI C0 hw hS14 dX8_chalk_49 (fun H locs hw => ?_)
      refine lv_aload_n C0.hx C0.hb dX8_chalk_50 rfl (lv_at hl 1 rfl) ?_
      obtain ⟨r15, hr15, h⟩ := Option.bind_eq_some_iff.mp h
      refine q_getR C0 hw hr15 rfl in_8 (by decide) kw_352 dX8_chalk_51 ?_
      refine lv_aload_n C0.hx C0.hb dX8_chalk_54 rfl (lv_at hl 1 rfl) ?_
      obtain ⟨r16, hr16, h⟩ := Option.bind_eq_some_iff.mp h
      refine q_getR C0 hw hr16 rfl in_8 (by decide) kw_352 dX8_chalk_55 ?_
      obtain ⟨v17, hv17, h⟩ := Option.bind_eq_some_iff.mp h
      refine q_getI C0 hw hv17 rfl in_5 (by decide) kw_267 dX8_chalk_58 ?_
      refine lv_iload_n C0.hx C0.hb dX8_chalk_61 rfl (lv_at hl 2 rfl) ?_
      refine lv_iconst (v := (0 : Int32)) C0.hx C0.hb dX8_chalk_62 (by decide) ?_
      obtain ⟨v18, hv18, h⟩ := Option.bind_eq_some_iff.mp h
      refine q_callS (n := 3) (av := [.int v17, .int x1, .int (0 : Int32)]) (rest := [.ref (b0 + r15)]) (st1 := [.int v18, .ref (b0 + r15)]) C0 hw (m_X8_withBit l b0 D cy S14 v17 x1 (0 : Int32) hv18) (goodS kw_629 kw_443 kw_63 kw_444) ⟨rfl, rfl⟩ (by decide +kernel) ⟨(Nat.le_of_ble_eq_true rfl), (Nat.le_of_ble_eq_true rfl)⟩ rfl hl.1 rfl (Nat.le_of_ble_eq_true rfl) dX8_chalk_63 ⟨Nat.zero_le _, Nat.zero_le _⟩ rfl (fun H locs hw => ?_)
      obtain ⟨S19, hS19, h⟩ := Option.bind_eq_some_iff.mp h
      refine q_putI C0 hw hS19 rfl in_5 tyX5_ok nmX5 ⟨by decide, by decide, rfl, rfl⟩ rfl kw_267 dX8_chalk_66 (fun H locs hw => ?_)
      refine lv_iload_n C0.hx C0.hb dX8_chalk_69 rfl (lv_at hl 0 rfl) ?_
      obtain rfl := Option.some.inj h
      exact q_reti C0 hw hr hlocks dX8_chalk_70
    · have h := (if_neg hc).symm.trans h
      refine lv_ldc C0.hx C0.hb C0.ho (C0.w kw_509) dX8_chalk_16 ?_
      obtain rfl := Option.some.inj h
      exact q_reti C0 hw hr hlocks dX8_chalk_18
abbrev rm_X8_sole : Room := { frames := 4, cells := 0, slots := 0, locals := 103 }
def f_X8_sole (a0 : Nat) (S : Mem) : Option (Int32 × Mem) :=
    (gR 8 1 S a0).bind fun r1 =>
      (gI 2 0 S r1).bind fun v2 =>
      (if v2 = (0 : Int32) then
      some ((-1000000003 : Int32), S)
      else
      (gR 8 3 S a0).bind fun r3 =>
      (gR 8 2 S a0).bind fun r4 =>
      (ck 3 S r3).bind fun c5 =>
      (f_X3_remember r3 r4 S).bind fun S6 =>
      (gR 8 2 S6 a0).bind fun r7 =>
      (gR 5 0 S6 r7).bind fun r8 =>
      (gI 4 2 S6 r8).bind fun v9 =>
      (gR 8 2 S6 a0).bind fun r10 =>
      (gR 5 0 S6 r10).bind fun r11 =>
      (pI 4 2 S6 r11 (0 : Int32)).bind fun S12 =>
      some (v9, S12))
set_option maxHeartbeats 4000000 in
set_option maxRecDepth 100000 in
theorem m_X8_sole (l : Launch) (b0 : Nat) (D : va_G) (cy : Nat → ClassId) (S : Mem) (a0 : Nat) {q : (Int32 × Mem)} (h : f_X8_sole a0 S = some q) : Met l yX8_sole [.code yX8_sole cX8_sole 2 (some .int)] rm_X8_sole (Pr b0 D cy S [.ref (b0 + a0)]) (Qp b0 D cy (some (.int q.1)) q.2) 0 0 (fun q => b0 ≤ q) := by
  refine Met.ofW (cc := cX8_sole) (maxL := 2) (ret := some .int) (by decide) rfl ?_
  intro p e s m args below meth c s₁ B hml hv
  obtain ⟨rfl, hP, hK, hT⟩ := hv
  have C0 : Cx p m c cX8_sole 2 s (List.toArray [.ref (b0 + a0)]) RX8 D cy := ⟨⟨B.exec, B.bytes, hml, findClass_of_methodNamed B.named, fun w h => hT w h _⟩, hK, hT⟩
  have hr : meth.sig.returnType = some .int := B.returns
  have hlocks := B.notSynchronized
  have hw : Wd b0 D cy S s.heap s.heap [] := ⟨hP, va_S.rf⟩
  have hl := lv_entry ([.ref (b0 + a0)]) (n := 2) (Nat.le_of_ble_eq_true rfl)
  rw [lg_entry_eq]
  generalize (lg_sl ([.ref (b0 + a0)]) ++ List.replicate (2 - (lg_sl ([.ref (b0 + a0)])).length) Slot.unset).toArray = ls at hl ⊢
  have hl : lv_has ls 2 [(0, .ref (b0 + a0))] := hl
  rw [f_X8_sole] at h
  show W p l e rm_X8_sole s m _ below meth c s.heap [] 0 0 _ _
  refine lv_aload_n C0.hx C0.hb dX8_sole_0 rfl (lv_at hl 0 rfl) ?_
  obtain ⟨r1, hr1, h⟩ := Option.bind_eq_some_iff.mp h
  refine q_getR C0 hw hr1 rfl in_8 (by decide) kw_351 dX8_sole_1 ?_
  obtain ⟨v2, hv2, h⟩ := Option.bind_eq_some_iff.mp h
  refine q_getI C0 hw hv2 rfl in_2 (by decide) kw_100 dX8_sole_4 ?_
  refine lv_if_ne (tgt := 13) C0.hx C0.hb dX8_sole_7 (by decide) (fun hc => ?_) (fun hc => ?_)
  · have h := (if_neg hc).symm.trans h
    refine lv_aload_n C0.hx C0.hb dX8_sole_13 rfl (lv_at hl 0 rfl) ?_
    obtain ⟨r3, hr3, h⟩ := Option.bind_eq_some_iff.mp h
    refine q_getR C0 hw hr3 rfl in_8 (by decide) kw_353 dX8_sole_14 ?_
    refine lv_aload_n C0.hx C0.hb dX8_sole_17 rfl (lv_at hl 0 rfl) ?_
    obtain ⟨r4, hr4, h⟩ := Option.bind_eq_some_iff.mp h
    refine q_getR C0 hw hr4 rfl in_8 (by decide) kw_352 dX8_sole_18 ?_
    obtain ⟨c5, hc5, h⟩ := Option.bind_eq_some_iff.mp h
    obtain ⟨S6, hS6, h⟩ := Option.bind_eq_some_iff.mp h
    refine q_callV (n := 1) (av := [.ref (b0 + r4)]) (rest := []) (st1 := []) C0 hw (m_X3_remember l b0 D cy S r3 r4 hS6) hc5 rfl (by decide) (goodV kw_563 kw_564 kw_565 kw_69 kw_566) ⟨rfl, rfl⟩ (by decide +kernel) ⟨(Nat.le_of_ble_eq_true rfl), (Nat.le_of_ble_eq_true rfl)⟩ rfl hl.1 rfl (Nat.le_of_ble_eq_true rfl) dX8_sole_21 ⟨Nat.zero_le _, Nat.zero_le _⟩ rfl (fun H locs hw => ?_)
    refine lv_aload_n C0.hx C0.hb dX8_sole_24 rfl (lv_at hl 0 rfl) ?_
    obtain ⟨r7, hr7, h⟩ := Option.bind_eq_some_iff.mp h
    refine q_getR C0 hw hr7 rfl in_8 (by decide) kw_352 dX8_sole_25 ?_
    obtain ⟨r8, hr8, h⟩ := Option.bind_eq_some_iff.mp h
    refine q_getR C0 hw hr8 rfl in_5 (by decide) kw_259 dX8_sole_28 ?_
    obtain ⟨v9, hv9, h⟩ := Option.bind_eq_some_iff.mp h
    refine q_getI C0 hw hv9 rfl in_4 (by decide) kw_202 dX8_sole_31 ?_
    refine lv_istore_n (lv' := [(1, .int v9), (0, .ref (b0 + a0))]) C0.hx C0.hb dX8_sole_34 rfl hl (by decide) rfl (fun ls hl => ?_)
    refine lv_aload_n C0.hx C0.hb dX8_sole_35 rfl (lv_at hl 1 rfl) ?_
    obtain ⟨r10, hr10, h⟩ := Option.bind_eq_some_iff.mp h
    refine q_getR C0 hw hr10 rfl in_8 (by decide) kw_352 dX8_sole_36 ?_
    obtain ⟨r11, hr11, h⟩ := Option.bind_eq_some_iff.mp h
    refine q_getR C0 hw hr11 rfl in_5 (by decide) kw_259 dX8_sole_39 ?_
    refine lv_iconst (v := (0 : Int32)) C0.hx C0.hb dX8_sole_42 (by decide) ?_
    obtain ⟨S12, hS12, h⟩ := Option.bind_eq_some_iff.mp h
    refine q_putI C0 hw hS12 rfl in_4 tyX4_ok nmX4 ⟨by decide, by decide, rfl, rfl⟩ rfl kw_202 dX8_sole_43 (fun H locs hw => ?_)
    refine lv_iload_n C0.hx C0.hb dX8_sole_46 rfl (lv_at hl 0 rfl) ?_
    obtain rfl := Option.some.inj h
    exact q_reti C0 hw hr hlocks dX8_sole_47
  · have h := (if_pos hc).symm.trans h
    refine lv_ldc C0.hx C0.hb C0.ho (C0.w kw_562) dX8_sole_10 ?_
    obtain rfl := Option.some.inj h
    exact q_reti C0 hw hr hlocks dX8_sole_12
abbrev rm_X8_isNoRule : Room := { frames := 0, cells := 0, slots := 0, locals := 0 }
def f_X8_isNoRule_b10 : Option Int32 :=
    some (1 : Int32)
def f_X8_isNoRule (x0 : Int32) : Option Int32 :=
    (if x0 < (0 : Int32) then
      f_X8_isNoRule_b10 
      else
      (if x0 < (64 : Int32) then
      some (0 : Int32)
      else
      f_X8_isNoRule_b10 ))
set_option maxHeartbeats 4000000 in
set_option maxRecDepth 100000 in
theorem w_X8_isNoRule_b10 {p : Program} {l : Launch} {e : Env} {s : State} {m : MethodId} {args : Array Value} {below : List Frame} {meth : Method} {c : Code} {b0 : Nat} {D : va_G} {cy : Nat → ClassId} {S : Mem} {q : Int32} (C0 : Cx p m c cX8_isNoRule 1 s args RX8 D cy) (hr : meth.sig.returnType = some .boolean) (hlocks : meth.locks = false) : ∀  (H : Heap) (locs : List Loc) (ls : Array Slot), Wd b0 D cy S s.heap H locs → lv_has ls 1 [] → f_X8_isNoRule_b10   = some q → W p l e rm_X8_isNoRule s m args below meth c H locs 0 0 (MQ below (Qp b0 D cy (some (.int q)) S) args s 0 0 (fun q => b0 ≤ q)) (F0 m 10 ls []) := by
  intro  H locs ls hw hl h
  rw [f_X8_isNoRule_b10] at h
  refine lv_iconst (v := (1 : Int32)) C0.hx C0.hb dX8_isNoRule_10 (by decide) ?_
  refine lv_goto (tgt := 15) C0.hx C0.hb dX8_isNoRule_11 (by decide) ?_
  obtain rfl := Option.some.inj h
  exact q_retz C0 hw (Or.inr rfl) hr hlocks dX8_isNoRule_15
set_option maxHeartbeats 4000000 in
set_option maxRecDepth 100000 in
theorem m_X8_isNoRule (l : Launch) (b0 : Nat) (D : va_G) (cy : Nat → ClassId) (S : Mem) (x0 : Int32) {q : Int32} (h : f_X8_isNoRule x0 = some q) : Met l yX8_isNoRule [.code yX8_isNoRule cX8_isNoRule 1 (some .boolean)] rm_X8_isNoRule (Pr b0 D cy S [.int x0]) (Qp b0 D cy (some (.int q)) S) 0 0 (fun q => b0 ≤ q) := by
  refine Met.ofW (cc := cX8_isNoRule) (maxL := 1) (ret := some .boolean) (by decide) rfl ?_
  intro p e s m args below meth c s₁ B hml hv
  obtain ⟨rfl, hP, hK, hT⟩ := hv
  have C0 : Cx p m c cX8_isNoRule 1 s (List.toArray [.int x0]) RX8 D cy := ⟨⟨B.exec, B.bytes, hml, findClass_of_methodNamed B.named, fun w h => hT w h _⟩, hK, hT⟩
  have hr : meth.sig.returnType = some .boolean := B.returns
  have hlocks := B.notSynchronized
  have hw : Wd b0 D cy S s.heap s.heap [] := ⟨hP, va_S.rf⟩
  have hl := lv_entry ([.int x0]) (n := 1) (Nat.le_of_ble_eq_true rfl)
  rw [lg_entry_eq]
  generalize (lg_sl ([.int x0]) ++ List.replicate (1 - (lg_sl ([.int x0])).length) Slot.unset).toArray = ls at hl ⊢
  have hl : lv_has ls 1 [(0, .int x0)] := hl
  rw [f_X8_isNoRule] at h
  show W p l e rm_X8_isNoRule s m _ below meth c s.heap [] 0 0 _ _
  refine lv_iload_n C0.hx C0.hb dX8_isNoRule_0 rfl (lv_at hl 0 rfl) ?_
  refine lv_if_lt (tgt := 10) C0.hx C0.hb dX8_isNoRule_1 (by decide) (fun hc => ?_) (fun hc => ?_)
  · have h := (if_pos hc).symm.trans h
    exact w_X8_isNoRule_b10 C0 hr hlocks  _ _ _ hw (lv_sub hl [] rfl) h
  · have h := (if_neg hc).symm.trans h
    refine lv_iload_n C0.hx C0.hb dX8_isNoRule_4 rfl (lv_at hl 0 rfl) ?_
    refine lv_bipush (v := (64 : Int32)) C0.hx C0.hb dX8_isNoRule_5 (by decide) ?_
    refine lv_icmp_lt (tgt := 14) C0.hx C0.hb dX8_isNoRule_7 (by decide) (fun hc => ?_) (fun hc => ?_)
    · have h := (if_pos hc).symm.trans h
      refine lv_iconst (v := (0 : Int32)) C0.hx C0.hb dX8_isNoRule_14 (by decide) ?_
      obtain rfl := Option.some.inj h
      exact q_retz C0 hw (Or.inl rfl) hr hlocks dX8_isNoRule_15
    · have h := (if_neg hc).symm.trans h
      exact w_X8_isNoRule_b10 C0 hr hlocks  _ _ _ hw (lv_sub hl [] rfl) h
abbrev rm_X8_teach : Room := { frames := 4, cells := 0, slots := 0, locals := 103 }
def f_X8_teach (a0 : Nat) (x1 : Int32) (S : Mem) : Option (Int32 × Mem) :=
    (f_X8_isNoRule x1).bind fun v1 =>
      (if v1 = (0 : Int32) then
      (gR 8 1 S a0).bind fun r2 =>
      (gI 2 0 S r2).bind fun v3 =>
      (if v3 = (0 : Int32) then
      some ((-1000000003 : Int32), S)
      else
      (gR 8 3 S a0).bind fun r4 =>
      (gR 8 2 S a0).bind fun r5 =>
      (ck 3 S r4).bind fun c6 =>
      (f_X3_remember r4 r5 S).bind fun S7 =>
      (gR 8 2 S7 a0).bind fun r8 =>
      (gR 5 0 S7 r8).bind fun r9 =>
      (gI 4 0 S7 r9).bind fun v10 =>
      (gR 8 2 S7 a0).bind fun r11 =>
      (gR 5 0 S7 r11).bind fun r12 =>
      (pI 4 0 S7 r12 x1).bind fun S13 =>
      some (v10, S13))
      else
      some ((-1000000001 : Int32), S))
set_option maxHeartbeats 4000000 in
set_option maxRecDepth 100000 in
theorem m_X8_teach (l : Launch) (b0 : Nat) (D : va_G) (cy : Nat → ClassId) (S : Mem) (a0 : Nat) (x1 : Int32) {q : (Int32 × Mem)} (h : f_X8_teach a0 x1 S = some q) : Met l yX8_teach [.code yX8_teach cX8_teach 3 (some .int)] rm_X8_teach (Pr b0 D cy S [.ref (b0 + a0), .int x1]) (Qp b0 D cy (some (.int q.1)) q.2) 0 0 (fun q => b0 ≤ q) := by
  refine Met.ofW (cc := cX8_teach) (maxL := 3) (ret := some .int) (by decide) rfl ?_
  intro p e s m args below meth c s₁ B hml hv
  obtain ⟨rfl, hP, hK, hT⟩ := hv
  have C0 : Cx p m c cX8_teach 3 s (List.toArray [.ref (b0 + a0), .int x1]) RX8 D cy := ⟨⟨B.exec, B.bytes, hml, findClass_of_methodNamed B.named, fun w h => hT w h _⟩, hK, hT⟩
  have hr : meth.sig.returnType = some .int := B.returns
  have hlocks := B.notSynchronized
  have hw : Wd b0 D cy S s.heap s.heap [] := ⟨hP, va_S.rf⟩
  have hl := lv_entry ([.ref (b0 + a0), .int x1]) (n := 3) (Nat.le_of_ble_eq_true rfl)
  rw [lg_entry_eq]
  generalize (lg_sl ([.ref (b0 + a0), .int x1]) ++ List.replicate (3 - (lg_sl ([.ref (b0 + a0), .int x1])).length) Slot.unset).toArray = ls at hl ⊢
  have hl : lv_has ls 3 [(0, .ref (b0 + a0)), (1, .int x1)] := hl
  rw [f_X8_teach] at h
  show W p l e rm_X8_teach s m _ below meth c s.heap [] 0 0 _ _
  refine lv_iload_n C0.hx C0.hb dX8_teach_0 rfl (lv_at hl 1 rfl) ?_
  obtain ⟨v1, hv1, h⟩ := Option.bind_eq_some_iff.mp h
  refine q_callS (n := 1) (av := [.int x1]) (rest := []) (st1 := [.int v1]) C0 hw (m_X8_isNoRule l b0 D cy S x1 hv1) (goodS kw_656 kw_657 kw_63 kw_658) ⟨rfl, rfl⟩ (by decide +kernel) ⟨(Nat.le_of_ble_eq_true rfl), (Nat.le_of_ble_eq_true rfl)⟩ rfl hl.1 rfl (Nat.le_of_ble_eq_true rfl) dX8_teach_1 ⟨Nat.zero_le _, Nat.zero_le _⟩ rfl (fun H locs hw => ?_)
  refine lv_if_eq (tgt := 10) C0.hx C0.hb dX8_teach_4 (by decide) (fun hc => ?_) (fun hc => ?_)
  · have h := (if_pos hc).symm.trans h
    refine lv_aload_n C0.hx C0.hb dX8_teach_10 rfl (lv_at hl 0 rfl) ?_
    obtain ⟨r2, hr2, h⟩ := Option.bind_eq_some_iff.mp h
    refine q_getR C0 hw hr2 rfl in_8 (by decide) kw_351 dX8_teach_11 ?_
    obtain ⟨v3, hv3, h⟩ := Option.bind_eq_some_iff.mp h
    refine q_getI C0 hw hv3 rfl in_2 (by decide) kw_100 dX8_teach_14 ?_
    refine lv_if_ne (tgt := 23) C0.hx C0.hb dX8_teach_17 (by decide) (fun hc => ?_) (fun hc => ?_)
    · have h := (if_neg hc).symm.trans h
      refine lv_aload_n C0.hx C0.hb dX8_teach_23 rfl (lv_at hl 0 rfl) ?_
      obtain ⟨r4, hr4, h⟩ := Option.bind_eq_some_iff.mp h
      refine q_getR C0 hw hr4 rfl in_8 (by decide) kw_353 dX8_teach_24 ?_
      refine lv_aload_n C0.hx C0.hb dX8_teach_27 rfl (lv_at hl 0 rfl) ?_
      obtain ⟨r5, hr5, h⟩ := Option.bind_eq_some_iff.mp h
      refine q_getR C0 hw hr5 rfl in_8 (by decide) kw_352 dX8_teach_28 ?_
      obtain ⟨c6, hc6, h⟩ := Option.bind_eq_some_iff.mp h
      obtain ⟨S7, hS7, h⟩ := Option.bind_eq_some_iff.mp h
      refine q_callV (n := 1) (av := [.ref (b0 + r5)]) (rest := []) (st1 := []) C0 hw (m_X3_remember l b0 D cy S r4 r5 hS7) hc6 rfl (by decide) (goodV kw_563 kw_564 kw_565 kw_69 kw_566) ⟨rfl, rfl⟩ (by decide +kernel) ⟨(Nat.le_of_ble_eq_true rfl), (Nat.le_of_ble_eq_true rfl)⟩ rfl hl.1 rfl (Nat.le_of_ble_eq_true rfl) dX8_teach_31 ⟨Nat.zero_le _, Nat.zero_le _⟩ rfl (fun H locs hw => ?_)
      refine lv_aload_n C0.hx C0.hb dX8_teach_34 rfl (lv_at hl 0 rfl) ?_
      obtain ⟨r8, hr8, h⟩ := Option.bind_eq_some_iff.mp h
      refine q_getR C0 hw hr8 rfl in_8 (by decide) kw_352 dX8_teach_35 ?_
      obtain ⟨r9, hr9, h⟩ := Option.bind_eq_some_iff.mp h
      refine q_getR C0 hw hr9 rfl in_5 (by decide) kw_259 dX8_teach_38 ?_
      obtain ⟨v10, hv10, h⟩ := Option.bind_eq_some_iff.mp h
      refine q_getI C0 hw hv10 rfl in_4 (by decide) kw_196 dX8_teach_41 ?_
      refine lv_istore_n (lv' := [(2, .int v10), (0, .ref (b0 + a0)), (1, .int x1)]) C0.hx C0.hb dX8_teach_44 rfl hl (by decide) rfl (fun ls hl => ?_)
      refine lv_aload_n C0.hx C0.hb dX8_teach_45 rfl (lv_at hl 1 rfl) ?_
      obtain ⟨r11, hr11, h⟩ := Option.bind_eq_some_iff.mp h
      refine q_getR C0 hw hr11 rfl in_8 (by decide) kw_352 dX8_teach_46 ?_
      obtain ⟨r12, hr12, h⟩ := Option.bind_eq_some_iff.mp h
      refine q_getR C0 hw hr12 rfl in_5 (by decide) kw_259 dX8_teach_49 ?_
      refine lv_iload_n C0.hx C0.hb dX8_teach_52 rfl (lv_at hl 2 rfl) ?_
      obtain ⟨S13, hS13, h⟩ := Option.bind_eq_some_iff.mp h
      refine q_putI C0 hw hS13 rfl in_4 tyX4_ok nmX4 ⟨by decide, by decide, rfl, rfl⟩ rfl kw_196 dX8_teach_53 (fun H locs hw => ?_)
      refine lv_iload_n C0.hx C0.hb dX8_teach_56 rfl (lv_at hl 0 rfl) ?_
      obtain rfl := Option.some.inj h
      exact q_reti C0 hw hr hlocks dX8_teach_57
    · have h := (if_pos hc).symm.trans h
      refine lv_ldc C0.hx C0.hb C0.ho (C0.w kw_562) dX8_teach_20 ?_
      obtain rfl := Option.some.inj h
      exact q_reti C0 hw hr hlocks dX8_teach_22
  · have h := (if_neg hc).symm.trans h
    refine lv_ldc C0.hx C0.hb C0.ho (C0.w kw_509) dX8_teach_7 ?_
    obtain rfl := Option.some.inj h
    exact q_reti C0 hw hr hlocks dX8_teach_9
abbrev rm_X8_draw : Room := { frames := 0, cells := 0, slots := 0, locals := 0 }
def f_X8_draw (a0 : Nat) (x1 : Int32) (S : Mem) : Option (Int32 × Mem) :=
    (gI 8 6 S a0).bind fun v1 =>
      (pI 8 6 S a0 ((((v1.toInt64 * (1103515245 : Int64)) + (12345 : Int64)) &&& (2147483647 : Int64)).toInt32)).bind fun S2 =>
      (if x1 ≤ (0 : Int32) then
      some ((0 : Int32), S2)
      else
      (gI 8 6 S2 a0).bind fun v3 =>
      (rmI (v3 / (65536 : Int32)) x1).bind fun v4 =>
      some (v4, S2))
set_option maxHeartbeats 4000000 in
set_option maxRecDepth 100000 in
theorem m_X8_draw (l : Launch) (b0 : Nat) (D : va_G) (cy : Nat → ClassId) (S : Mem) (a0 : Nat) (x1 : Int32) {q : (Int32 × Mem)} (h : f_X8_draw a0 x1 S = some q) : Met l yX8_draw [.code yX8_draw cX8_draw 2 (some .int)] rm_X8_draw (Pr b0 D cy S [.ref (b0 + a0), .int x1]) (Qp b0 D cy (some (.int q.1)) q.2) 0 0 (fun q => b0 ≤ q) := by
  refine Met.ofW (cc := cX8_draw) (maxL := 2) (ret := some .int) (by decide) rfl ?_
  intro p e s m args below meth c s₁ B hml hv
  obtain ⟨rfl, hP, hK, hT⟩ := hv
  have C0 : Cx p m c cX8_draw 2 s (List.toArray [.ref (b0 + a0), .int x1]) RX8 D cy := ⟨⟨B.exec, B.bytes, hml, findClass_of_methodNamed B.named, fun w h => hT w h _⟩, hK, hT⟩
  have hr : meth.sig.returnType = some .int := B.returns
  have hlocks := B.notSynchronized
  have hw : Wd b0 D cy S s.heap s.heap [] := ⟨hP, va_S.rf⟩
  have hl := lv_entry ([.ref (b0 + a0), .int x1]) (n := 2) (Nat.le_of_ble_eq_true rfl)
  rw [lg_entry_eq]
  generalize (lg_sl ([.ref (b0 + a0), .int x1]) ++ List.replicate (2 - (lg_sl ([.ref (b0 + a0), .int x1])).length) Slot.unset).toArray = ls at hl ⊢
  have hl : lv_has ls 2 [(0, .ref (b0 + a0)), (1, .int x1)] := hl
  rw [f_X8_draw] at h
  show W p l e rm_X8_draw s m _ below meth c s.heap [] 0 0 _ _
  refine lv_aload_n C0.hx C0.hb dX8_draw_0 rfl (lv_at hl 0 rfl) ?_
  refine lv_aload_n C0.hx C0.hb dX8_draw_1 rfl (lv_at hl 0 rfl) ?_
  obtain ⟨v1, hv1, h⟩ := Option.bind_eq_some_iff.mp h
  refine q_getI C0 hw hv1 rfl in_8 (by decide) kw_356 dX8_draw_2 ?_
  refine lv_i2l C0.hx C0.hb dX8_draw_5 rfl ?_
  refine lv_ldc2 C0.hx C0.hb C0.ho (C0.w kw_671) dX8_draw_6 ?_
  refine lv_lmul C0.hx C0.hb dX8_draw_9 ?_
  refine lv_ldc2 C0.hx C0.hb C0.ho (C0.w kw_672) dX8_draw_10 ?_
  refine lv_ladd C0.hx C0.hb dX8_draw_13 ?_
  refine lv_ldc2 C0.hx C0.hb C0.ho (C0.w kw_673) dX8_draw_14 ?_
  refine lv_land C0.hx C0.hb dX8_draw_17 ?_
  refine lv_l2i C0.hx C0.hb dX8_draw_18 rfl ?_
  obtain ⟨S2, hS2, h⟩ := Option.bind_eq_some_iff.mp h
  refine q_putI C0 hw hS2 rfl in_8 tyX8_ok nmX8 ⟨by decide, by decide, rfl, rfl⟩ rfl kw_356 dX8_draw_19 (fun H locs hw => ?_)
  refine lv_iload_n C0.hx C0.hb dX8_draw_22 rfl (lv_at hl 1 rfl) ?_
  refine lv_if_le (tgt := 39) C0.hx C0.hb dX8_draw_23 (by decide) (fun hc => ?_) (fun hc => ?_)
  · have h := (if_pos hc).symm.trans h
    refine lv_iconst (v := (0 : Int32)) C0.hx C0.hb dX8_draw_39 (by decide) ?_
    obtain rfl := Option.some.inj h
    exact q_reti C0 hw hr hlocks dX8_draw_40
  · have h := (if_neg hc).symm.trans h
    refine lv_aload_n C0.hx C0.hb dX8_draw_26 rfl (lv_at hl 0 rfl) ?_
    obtain ⟨v3, hv3, h⟩ := Option.bind_eq_some_iff.mp h
    refine q_getI C0 hw hv3 rfl in_8 (by decide) kw_356 dX8_draw_27 ?_
    refine lv_ldcw C0.hx C0.hb C0.ho (C0.w kw_674) dX8_draw_30 ?_
    refine lv_idiv C0.hx C0.hb dX8_draw_33 (by decide) ?_
    refine lv_iload_n C0.hx C0.hb dX8_draw_34 rfl (lv_at hl 1 rfl) ?_
    obtain ⟨v4, hv4, h⟩ := Option.bind_eq_some_iff.mp h
    refine q_rmI C0 hv4 dX8_draw_35 ?_
    refine lv_goto (tgt := 40) C0.hx C0.hb dX8_draw_36 (by decide) ?_
    obtain rfl := Option.some.inj h
    exact q_reti C0 hw hr hlocks dX8_draw_40
abbrev rm_X8_changeByDraws : Room := { frames := 1, cells := 0, slots := 0, locals := 22 }
def f_X8_changeByDraws (a0 : Nat) (S : Mem) : Option Mem :=
    (gR 8 2 S a0).bind fun r1 =>
      (gR 5 0 S r1).bind fun r2 =>
      (gR 8 1 S a0).bind fun r3 =>
      (gI 2 2 S r3).bind fun v4 =>
      (ck 8 S a0).bind fun c5 =>
      (f_X8_draw a0 v4 S).bind fun q6 =>
      (ck 8 q6.2 a0).bind fun c7 =>
      (f_X8_draw a0 (5 : Int32) q6.2).bind fun q8 =>
      (if q8.1 = (0 : Int32) then
      (gI 4 5 q8.2 r2).bind fun v9 =>
      (f_X8_withBit v9 q6.1 (1 : Int32)).bind fun v10 =>
      (pI 4 5 q8.2 r2 v10).bind fun S11 =>
      some S11
      else
      if q8.1 = (1 : Int32) then
      (gI 4 5 q8.2 r2).bind fun v12 =>
      (f_X8_withBit v12 q6.1 (0 : Int32)).bind fun v13 =>
      (pI 4 5 q8.2 r2 v13).bind fun S14 =>
      some S14
      else
      if q8.1 = (2 : Int32) then
      (gI 4 3 q8.2 r2).bind fun v15 =>
      (ck 8 q8.2 a0).bind fun c16 =>
      (f_X8_draw a0 (10 : Int32) q8.2).bind fun q17 =>
      (pI 4 3 q17.2 r2 (f_X8_withPacked v15 q6.1 q17.1)).bind fun S18 =>
      some S18
      else
      if q8.1 = (3 : Int32) then
      (gI 4 6 q8.2 r2).bind fun v19 =>
      (f_X8_withBit v19 q6.1 (1 : Int32)).bind fun v20 =>
      (pI 4 6 q8.2 r2 v20).bind fun S21 =>
      some S21
      else
      ((gI 4 6 q8.2 r2).bind fun v22 =>
      (f_X8_withBit v22 q6.1 (0 : Int32)).bind fun v23 =>
      (pI 4 6 q8.2 r2 v23).bind fun S24 =>
      some S24))
set_option maxHeartbeats 4000000 in
set_option maxRecDepth 100000 in
theorem m_X8_changeByDraws (l : Launch) (b0 : Nat) (D : va_G) (cy : Nat → ClassId) (S : Mem) (a0 : Nat) {q : Mem} (h : f_X8_changeByDraws a0 S = some q) : Met l yX8_changeByDraws [.code yX8_changeByDraws cX8_changeByDraws 3 (none)] rm_X8_changeByDraws (Pr b0 D cy S [.ref (b0 + a0)]) (Qp b0 D cy none q) 0 0 (fun q => b0 ≤ q) := by
  refine Met.ofW (cc := cX8_changeByDraws) (maxL := 3) (ret := none) (by decide) rfl ?_
  intro p e s m args below meth c s₁ B hml hv
  obtain ⟨rfl, hP, hK, hT⟩ := hv
  have C0 : Cx p m c cX8_changeByDraws 3 s (List.toArray [.ref (b0 + a0)]) RX8 D cy := ⟨⟨B.exec, B.bytes, hml, findClass_of_methodNamed B.named, fun w h => hT w h _⟩, hK, hT⟩
  have hr : meth.sig.returnType = none := B.returns
  have hlocks := B.notSynchronized
  have hw : Wd b0 D cy S s.heap s.heap [] := ⟨hP, va_S.rf⟩
  have hl := lv_entry ([.ref (b0 + a0)]) (n := 3) (Nat.le_of_ble_eq_true rfl)
  rw [lg_entry_eq]
  generalize (lg_sl ([.ref (b0 + a0)]) ++ List.replicate (3 - (lg_sl ([.ref (b0 + a0)])).length) Slot.unset).toArray = ls at hl ⊢
  have hl : lv_has ls 3 [(0, .ref (b0 + a0))] := hl
  rw [f_X8_changeByDraws] at h
  show W p l e rm_X8_changeByDraws s m _ below meth c s.heap [] 0 0 _ _
  refine lv_aload_n C0.hx C0.hb dX8_changeByDraws_0 rfl (lv_at hl 0 rfl) ?_
  obtain ⟨r1, hr1, h⟩ := Option.bind_eq_some_iff.mp h
  refine q_getR C0 hw hr1 rfl in_8 (by decide) kw_352 dX8_changeByDraws_1 ?_
  obtain ⟨r2, hr2, h⟩ := Option.bind_eq_some_iff.mp h
  refine q_getR C0 hw hr2 rfl in_5 (by decide) kw_259 dX8_changeByDraws_4 ?_
  refine lv_astore_n (lv' := [(1, .ref (b0 + r2)), (0, .ref (b0 + a0))]) C0.hx C0.hb dX8_changeByDraws_7 rfl hl (by decide) rfl (fun ls hl => ?_)
  refine lv_aload_n C0.hx C0.hb dX8_changeByDraws_8 rfl (lv_at hl 1 rfl) ?_
  refine lv_aload_n C0.hx C0.hb dX8_changeByDraws_9 rfl (lv_at hl 1 rfl) ?_
  obtain ⟨r3, hr3, h⟩ := Option.bind_eq_some_iff.mp h
  refine q_getR C0 hw hr3 rfl in_8 (by decide) kw_351 dX8_changeByDraws_10 ?_
  obtain ⟨v4, hv4, h⟩ := Option.bind_eq_some_iff.mp h
  refine q_getI C0 hw hv4 rfl in_2 (by decide) kw_105 dX8_changeByDraws_13 ?_
  obtain ⟨c5, hc5, h⟩ := Option.bind_eq_some_iff.mp h
  obtain ⟨q6, hq6, h⟩ := Option.bind_eq_some_iff.mp h
  refine q_callV (n := 1) (av := [.int v4]) (rest := []) (st1 := [.int q6.1]) C0 hw (m_X8_draw l b0 D cy S a0 v4 hq6) hc5 rfl (by decide) (goodV kw_667 kw_669 kw_15 kw_63 kw_670) ⟨rfl, rfl⟩ (by decide +kernel) ⟨(Nat.le_of_ble_eq_true rfl), (Nat.le_of_ble_eq_true rfl)⟩ rfl hl.1 rfl (Nat.le_of_ble_eq_true rfl) dX8_changeByDraws_16 ⟨Nat.zero_le _, Nat.zero_le _⟩ rfl (fun H locs hw => ?_)
  refine lv_istore_n (lv' := [(2, .int q6.1), (1, .ref (b0 + r2)), (0, .ref (b0 + a0))]) C0.hx C0.hb dX8_changeByDraws_19 rfl hl (by decide) rfl (fun ls hl => ?_)
  refine lv_aload_n C0.hx C0.hb dX8_changeByDraws_20 rfl (lv_at hl 2 rfl) ?_
  refine lv_iconst (v := (5 : Int32)) C0.hx C0.hb dX8_changeByDraws_21 (by decide) ?_
  obtain ⟨c7, hc7, h⟩ := Option.bind_eq_some_iff.mp h
  obtain ⟨q8, hq8, h⟩ := Option.bind_eq_some_iff.mp h
  refine q_callV (n := 1) (av := [.int (5 : Int32)]) (rest := []) (st1 := [.int q8.1]) C0 hw (m_X8_draw l b0 D cy q6.2 a0 (5 : Int32) hq8) hc7 rfl (by decide) (goodV kw_667 kw_669 kw_15 kw_63 kw_670) ⟨rfl, rfl⟩ (by decide +kernel) ⟨(Nat.le_of_ble_eq_true rfl), (Nat.le_of_ble_eq_true rfl)⟩ rfl hl.1 rfl (Nat.le_of_ble_eq_true rfl) dX8_changeByDraws_22 ⟨Nat.zero_le _, Nat.zero_le _⟩ rfl (fun H locs hw => ?_)
  by_cases hc0 : q8.1 = (0 : Int32)
  · have h := (if_pos hc0).symm.trans h
    refine lv_tableIn (off := 31) (tgt := 56) C0.hx C0.hb dX8_changeByDraws_25 (by rw [hc0]; decide) (by rw [hc0]; decide) (by rw [hc0]; rfl) (by decide) ?_
    refine lv_aload_n C0.hx C0.hb dX8_changeByDraws_56 rfl (lv_at hl 1 rfl) ?_
    refine lv_aload_n C0.hx C0.hb dX8_changeByDraws_57 rfl (lv_at hl 1 rfl) ?_
    obtain ⟨v9, hv9, h⟩ := Option.bind_eq_some_iff.mp h
    refine q_getI C0 hw hv9 rfl in_4 (by decide) kw_210 dX8_changeByDraws_58 ?_
    refine lv_iload_n C0.hx C0.hb dX8_changeByDraws_61 rfl (lv_at hl 0 rfl) ?_
    refine lv_iconst (v := (1 : Int32)) C0.hx C0.hb dX8_changeByDraws_62 (by decide) ?_
    obtain ⟨v10, hv10, h⟩ := Option.bind_eq_some_iff.mp h
    refine q_callS (n := 3) (av := [.int v9, .int q6.1, .int (1 : Int32)]) (rest := [.ref (b0 + r2)]) (st1 := [.int v10, .ref (b0 + r2)]) C0 hw (m_X8_withBit l b0 D cy q8.2 v9 q6.1 (1 : Int32) hv10) (goodS kw_629 kw_443 kw_63 kw_444) ⟨rfl, rfl⟩ (by decide +kernel) ⟨(Nat.le_of_ble_eq_true rfl), (Nat.le_of_ble_eq_true rfl)⟩ rfl hl.1 rfl (Nat.le_of_ble_eq_true rfl) dX8_changeByDraws_63 ⟨Nat.zero_le _, Nat.zero_le _⟩ rfl (fun H locs hw => ?_)
    obtain ⟨S11, hS11, h⟩ := Option.bind_eq_some_iff.mp h
    refine q_putI C0 hw hS11 rfl in_4 tyX4_ok nmX4 ⟨by decide, by decide, rfl, rfl⟩ rfl kw_210 dX8_changeByDraws_66 (fun H locs hw => ?_)
    refine lv_goto (tgt := 138) C0.hx C0.hb dX8_changeByDraws_69 (by decide) ?_
    obtain rfl := Option.some.inj h
    exact q_retv C0 hw hr hlocks dX8_changeByDraws_138
  · have h := (if_neg hc0).symm.trans h
    by_cases hc1 : q8.1 = (1 : Int32)
    · have h := (if_pos hc1).symm.trans h
      refine lv_tableIn (off := 47) (tgt := 72) C0.hx C0.hb dX8_changeByDraws_25 (by rw [hc1]; decide) (by rw [hc1]; decide) (by rw [hc1]; rfl) (by decide) ?_
      refine lv_aload_n C0.hx C0.hb dX8_changeByDraws_72 rfl (lv_at hl 1 rfl) ?_
      refine lv_aload_n C0.hx C0.hb dX8_changeByDraws_73 rfl (lv_at hl 1 rfl) ?_
      obtain ⟨v12, hv12, h⟩ := Option.bind_eq_some_iff.mp h
      refine q_getI C0 hw hv12 rfl in_4 (by decide) kw_210 dX8_changeByDraws_74 ?_
      refine lv_iload_n C0.hx C0.hb dX8_changeByDraws_77 rfl (lv_at hl 0 rfl) ?_
      refine lv_iconst (v := (0 : Int32)) C0.hx C0.hb dX8_changeByDraws_78 (by decide) ?_
      obtain ⟨v13, hv13, h⟩ := Option.bind_eq_some_iff.mp h
      refine q_callS (n := 3) (av := [.int v12, .int q6.1, .int (0 : Int32)]) (rest := [.ref (b0 + r2)]) (st1 := [.int v13, .ref (b0 + r2)]) C0 hw (m_X8_withBit l b0 D cy q8.2 v12 q6.1 (0 : Int32) hv13) (goodS kw_629 kw_443 kw_63 kw_444) ⟨rfl, rfl⟩ (by decide +kernel) ⟨(Nat.le_of_ble_eq_true rfl), (Nat.le_of_ble_eq_true rfl)⟩ rfl hl.1 rfl (Nat.le_of_ble_eq_true rfl) dX8_changeByDraws_79 ⟨Nat.zero_le _, Nat.zero_le _⟩ rfl (fun H locs hw => ?_)
      obtain ⟨S14, hS14, h⟩ := Option.bind_eq_some_iff.mp h
      refine q_putI C0 hw hS14 rfl in_4 tyX4_ok nmX4 ⟨by decide, by decide, rfl, rfl⟩ rfl kw_210 dX8_changeByDraws_82 (fun H locs hw => ?_)
      refine lv_goto (tgt := 138) C0.hx C0.hb dX8_changeByDraws_85 (by decide) ?_
      obtain rfl := Option.some.inj h
      exact q_retv C0 hw hr hlocks dX8_changeByDraws_138
    · have h := (if_neg hc1).symm.trans h
      by_cases hc2 : q8.1 = (2 : Int32)
      · have h := (if_pos hc2).symm.trans h
        refine lv_tableIn (off := 63) (tgt := 88) C0.hx C0.hb dX8_changeByDraws_25 (by rw [hc2]; decide) (by rw [hc2]; decide) (by rw [hc2]; rfl) (by decide) ?_
        refine lv_aload_n C0.hx C0.hb dX8_changeByDraws_88 rfl (lv_at hl 1 rfl) ?_
        refine lv_aload_n C0.hx C0.hb dX8_changeByDraws_89 rfl (lv_at hl 1 rfl) ?_
        obtain ⟨v15, hv15, h⟩ := Option.bind_eq_some_iff.mp h
        refine q_getI C0 hw hv15 rfl in_4 (by decide) kw_205 dX8_changeByDraws_90 ?_
        refine lv_iload_n C0.hx C0.hb dX8_changeByDraws_93 rfl (lv_at hl 0 rfl) ?_
        refine lv_aload_n C0.hx C0.hb dX8_changeByDraws_94 rfl (lv_at hl 2 rfl) ?_
        refine lv_bipush (v := (10 : Int32)) C0.hx C0.hb dX8_changeByDraws_95 (by decide) ?_
        obtain ⟨c16, hc16, h⟩ := Option.bind_eq_some_iff.mp h
        obtain ⟨q17, hq17, h⟩ := Option.bind_eq_some_iff.mp h
        refine q_callV (n := 1) (av := [.int (10 : Int32)]) (rest := [.int q6.1, .int v15, .ref (b0 + r2)]) (st1 := [.int q17.1, .int q6.1, .int v15, .ref (b0 + r2)]) C0 hw (m_X8_draw l b0 D cy q8.2 a0 (10 : Int32) hq17) hc16 rfl (by decide) (goodV kw_667 kw_669 kw_15 kw_63 kw_670) ⟨rfl, rfl⟩ (by decide +kernel) ⟨(Nat.le_of_ble_eq_true rfl), (Nat.le_of_ble_eq_true rfl)⟩ rfl hl.1 rfl (Nat.le_of_ble_eq_true rfl) dX8_changeByDraws_97 ⟨Nat.zero_le _, Nat.zero_le _⟩ rfl (fun H locs hw => ?_)
        refine q_callS (n := 3) (av := [.int v15, .int q6.1, .int q17.1]) (rest := [.ref (b0 + r2)]) (st1 := [.int (f_X8_withPacked v15 q6.1 q17.1), .ref (b0 + r2)]) C0 hw (m_X8_withPacked l b0 D cy q17.2 v15 q6.1 q17.1) (goodS kw_634 kw_440 kw_63 kw_441) ⟨rfl, rfl⟩ (by decide +kernel) ⟨(Nat.le_of_ble_eq_true rfl), (Nat.le_of_ble_eq_true rfl)⟩ rfl hl.1 rfl (Nat.le_of_ble_eq_true rfl) dX8_changeByDraws_100 ⟨Nat.zero_le _, Nat.zero_le _⟩ rfl (fun H locs hw => ?_)
        obtain ⟨S18, hS18, h⟩ := Option.bind_eq_some_iff.mp h
        refine q_putI C0 hw hS18 rfl in_4 tyX4_ok nmX4 ⟨by decide, by decide, rfl, rfl⟩ rfl kw_205 dX8_changeByDraws_103 (fun H locs hw => ?_)
        refine lv_goto (tgt := 138) C0.hx C0.hb dX8_changeByDraws_106 (by decide) ?_
        obtain rfl := Option.some.inj h
        exact q_retv C0 hw hr hlocks dX8_changeByDraws_138
      · have h := (if_neg hc2).symm.trans h
        by_cases hc3 : q8.1 = (3 : Int32)
        · have h := (if_pos hc3).symm.trans h
          refine lv_tableIn (off := 84) (tgt := 109) C0.hx C0.hb dX8_changeByDraws_25 (by rw [hc3]; decide) (by rw [hc3]; decide) (by rw [hc3]; rfl) (by decide) ?_
          refine lv_aload_n C0.hx C0.hb dX8_changeByDraws_109 rfl (lv_at hl 1 rfl) ?_
          refine lv_aload_n C0.hx C0.hb dX8_changeByDraws_110 rfl (lv_at hl 1 rfl) ?_
          obtain ⟨v19, hv19, h⟩ := Option.bind_eq_some_iff.mp h
          refine q_getI C0 hw hv19 rfl in_4 (by decide) kw_212 dX8_changeByDraws_111 ?_
          refine lv_iload_n C0.hx C0.hb dX8_changeByDraws_114 rfl (lv_at hl 0 rfl) ?_
          refine lv_iconst (v := (1 : Int32)) C0.hx C0.hb dX8_changeByDraws_115 (by decide) ?_
          obtain ⟨v20, hv20, h⟩ := Option.bind_eq_some_iff.mp h
          refine q_callS (n := 3) (av := [.int v19, .int q6.1, .int (1 : Int32)]) (rest := [.ref (b0 + r2)]) (st1 := [.int v20, .ref (b0 + r2)]) C0 hw (m_X8_withBit l b0 D cy q8.2 v19 q6.1 (1 : Int32) hv20) (goodS kw_629 kw_443 kw_63 kw_444) ⟨rfl, rfl⟩ (by decide +kernel) ⟨(Nat.le_of_ble_eq_true rfl), (Nat.le_of_ble_eq_true rfl)⟩ rfl hl.1 rfl (Nat.le_of_ble_eq_true rfl) dX8_changeByDraws_116 ⟨Nat.zero_le _, Nat.zero_le _⟩ rfl (fun H locs hw => ?_)
          obtain ⟨S21, hS21, h⟩ := Option.bind_eq_some_iff.mp h
          refine q_putI C0 hw hS21 rfl in_4 tyX4_ok nmX4 ⟨by decide, by decide, rfl, rfl⟩ rfl kw_212 dX8_changeByDraws_119 (fun H locs hw => ?_)
          refine lv_goto (tgt := 138) C0.hx C0.hb dX8_changeByDraws_122 (by decide) ?_
          obtain rfl := Option.some.inj h
          exact q_retv C0 hw hr hlocks dX8_changeByDraws_138
        · have h := (if_neg hc3).symm.trans h
          refine lv_tableOut (tgt := 125) C0.hx C0.hb dX8_changeByDraws_25 (by have n0 := lv_neT (a := 0) hc0 (by decide); have n1 := lv_neT (a := 1) hc1 (by decide); have n2 := lv_neT (a := 2) hc2 (by decide); have n3 := lv_neT (a := 3) hc3 (by decide); omega) (by decide) ?_
          refine lv_aload_n C0.hx C0.hb dX8_changeByDraws_125 rfl (lv_at hl 1 rfl) ?_
          refine lv_aload_n C0.hx C0.hb dX8_changeByDraws_126 rfl (lv_at hl 1 rfl) ?_
          obtain ⟨v22, hv22, h⟩ := Option.bind_eq_some_iff.mp h
          refine q_getI C0 hw hv22 rfl in_4 (by decide) kw_212 dX8_changeByDraws_127 ?_
          refine lv_iload_n C0.hx C0.hb dX8_changeByDraws_130 rfl (lv_at hl 0 rfl) ?_
          refine lv_iconst (v := (0 : Int32)) C0.hx C0.hb dX8_changeByDraws_131 (by decide) ?_
          obtain ⟨v23, hv23, h⟩ := Option.bind_eq_some_iff.mp h
          refine q_callS (n := 3) (av := [.int v22, .int q6.1, .int (0 : Int32)]) (rest := [.ref (b0 + r2)]) (st1 := [.int v23, .ref (b0 + r2)]) C0 hw (m_X8_withBit l b0 D cy q8.2 v22 q6.1 (0 : Int32) hv23) (goodS kw_629 kw_443 kw_63 kw_444) ⟨rfl, rfl⟩ (by decide +kernel) ⟨(Nat.le_of_ble_eq_true rfl), (Nat.le_of_ble_eq_true rfl)⟩ rfl hl.1 rfl (Nat.le_of_ble_eq_true rfl) dX8_changeByDraws_132 ⟨Nat.zero_le _, Nat.zero_le _⟩ rfl (fun H locs hw => ?_)
          obtain ⟨S24, hS24, h⟩ := Option.bind_eq_some_iff.mp h
          refine q_putI C0 hw hS24 rfl in_4 tyX4_ok nmX4 ⟨by decide, by decide, rfl, rfl⟩ rfl kw_212 dX8_changeByDraws_135 (fun H locs hw => ?_)
          obtain rfl := Option.some.inj h
          exact q_retv C0 hw hr hlocks dX8_changeByDraws_138
abbrev rm_X8_drift : Room := { frames := 5, cells := 0, slots := 0, locals := 122 }
def f_X8_drift_b25 : Nat → Nat → Int32 → Int32 → Mem → Option (Int32 × Mem)
  | 0, _, _, _, _ => none
  | n + 1, a0, x1, x3, S =>
    (if x1 ≤ x3 then
      (gR 8 2 S a0).bind fun r7 =>
      (gR 5 0 S r7).bind fun r8 =>
      (gI 4 1 S r8).bind fun v9 =>
      some (v9, S)
      else
      (ck 8 S a0).bind fun c10 =>
      (f_X8_changeByDraws a0 S).bind fun S11 =>
      (gR 8 2 S11 a0).bind fun r12 =>
      (gR 8 1 S11 a0).bind fun r13 =>
      (ck 5 S11 r12).bind fun c14 =>
      (f_X5_passHour r12 r13 S11).bind fun S15 =>
      (some (x3 + (1 : Int32))).bind fun v16 =>
      f_X8_drift_b25  n a0 x1 v16 S15)
def f_X8_drift (a0 : Nat) (x1 : Int32) (S : Mem) : Option (Int32 × Mem) :=
    (ck 8 S a0).bind fun c1 =>
      (f_X8_refusalOfHours a0 x1 S).bind fun v2 =>
      (if v2 = (0 : Int32) then
      (gR 8 3 S a0).bind fun r3 =>
      (gR 8 2 S a0).bind fun r4 =>
      (ck 3 S r3).bind fun c5 =>
      (f_X3_remember r3 r4 S).bind fun S6 =>
      f_X8_drift_b25 FU a0 x1 (0 : Int32) S6
      else
      some (v2, S))
set_option maxHeartbeats 4000000 in
set_option maxRecDepth 100000 in
theorem w_X8_drift_b25 {p : Program} {l : Launch} {e : Env} {s : State} {m : MethodId} {args : Array Value} {below : List Frame} {meth : Method} {c : Code} {b0 : Nat} {D : va_G} {cy : Nat → ClassId} {q : (Int32 × Mem)} (C0 : Cx p m c cX8_drift 4 s args RX8 D cy) (hr : meth.sig.returnType = some .int) (hlocks : meth.locks = false) : ∀ (n : Nat) (a0 : Nat) (x1 : Int32) (x3 : Int32) (S : Mem) (H : Heap) (locs : List Loc) (ls : Array Slot), Wd b0 D cy S s.heap H locs → lv_has ls 4 [(0, .ref (b0 + a0)), (1, .int x1), (3, .int x3)] → f_X8_drift_b25  n a0 x1 x3 S = some q → W p l e rm_X8_drift s m args below meth c H locs 0 0 (MQ below (Qp b0 D cy (some (.int q.1)) q.2) args s 0 0 (fun q => b0 ≤ q)) (F0 m 25 ls []) := by
  intro n
  induction n with
  | zero => intro a0 x1 x3 S H locs ls hw hl h; exact absurd h (by simp [f_X8_drift_b25])
  | succ n ih =>
    intro a0 x1 x3 S H locs ls hw hl h
    rw [f_X8_drift_b25] at h
    refine lv_iload_n C0.hx C0.hb dX8_drift_25 rfl (lv_at hl 2 rfl) ?_
    refine lv_iload_n C0.hx C0.hb dX8_drift_26 rfl (lv_at hl 1 rfl) ?_
    refine lv_icmp_ge (tgt := 51) C0.hx C0.hb dX8_drift_27 (by decide) (fun hc => ?_) (fun hc => ?_)
    · have h := (if_pos hc).symm.trans h
      refine lv_aload_n C0.hx C0.hb dX8_drift_51 rfl (lv_at hl 0 rfl) ?_
      obtain ⟨r7, hr7, h⟩ := Option.bind_eq_some_iff.mp h
      refine q_getR C0 hw hr7 rfl in_8 (by decide) kw_352 dX8_drift_52 ?_
      obtain ⟨r8, hr8, h⟩ := Option.bind_eq_some_iff.mp h
      refine q_getR C0 hw hr8 rfl in_5 (by decide) kw_259 dX8_drift_55 ?_
      obtain ⟨v9, hv9, h⟩ := Option.bind_eq_some_iff.mp h
      refine q_getI C0 hw hv9 rfl in_4 (by decide) kw_200 dX8_drift_58 ?_
      obtain rfl := Option.some.inj h
      exact q_reti C0 hw hr hlocks dX8_drift_61
    · have h := (if_neg hc).symm.trans h
      refine lv_aload_n C0.hx C0.hb dX8_drift_30 rfl (lv_at hl 0 rfl) ?_
      obtain ⟨c10, hc10, h⟩ := Option.bind_eq_some_iff.mp h
      obtain ⟨S11, hS11, h⟩ := Option.bind_eq_some_iff.mp h
      refine q_callV (n := 0) (av := []) (rest := []) (st1 := []) C0 hw (m_X8_changeByDraws l b0 D cy S a0 hS11) hc10 rfl (by decide) (goodV kw_663 kw_665 kw_14 kw_63 kw_666) ⟨rfl, rfl⟩ (by decide +kernel) ⟨(Nat.le_of_ble_eq_true rfl), (Nat.le_of_ble_eq_true rfl)⟩ rfl hl.1 rfl (Nat.le_of_ble_eq_true rfl) dX8_drift_31 ⟨Nat.zero_le _, Nat.zero_le _⟩ rfl (fun H locs hw => ?_)
      refine lv_aload_n C0.hx C0.hb dX8_drift_34 rfl (lv_at hl 0 rfl) ?_
      obtain ⟨r12, hr12, h⟩ := Option.bind_eq_some_iff.mp h
      refine q_getR C0 hw hr12 rfl in_8 (by decide) kw_352 dX8_drift_35 ?_
      refine lv_aload_n C0.hx C0.hb dX8_drift_38 rfl (lv_at hl 0 rfl) ?_
      obtain ⟨r13, hr13, h⟩ := Option.bind_eq_some_iff.mp h
      refine q_getR C0 hw hr13 rfl in_8 (by decide) kw_351 dX8_drift_39 ?_
      obtain ⟨c14, hc14, h⟩ := Option.bind_eq_some_iff.mp h
      obtain ⟨S15, hS15, h⟩ := Option.bind_eq_some_iff.mp h
      refine q_callV (n := 1) (av := [.ref (b0 + r13)]) (rest := []) (st1 := []) C0 hw (m_X5_passHour l b0 D cy S11 r12 r13 hS15) hc14 rfl (by decide) (goodV kw_584 kw_585 kw_586 kw_66 kw_587) ⟨rfl, rfl⟩ (by decide +kernel) ⟨(Nat.le_of_ble_eq_true rfl), (Nat.le_of_ble_eq_true rfl)⟩ rfl hl.1 rfl (Nat.le_of_ble_eq_true rfl) dX8_drift_42 ⟨Nat.zero_le _, Nat.zero_le _⟩ rfl (fun H locs hw => ?_)
      obtain ⟨v16, hv16, h⟩ := Option.bind_eq_some_iff.mp h
      refine lv_iinc (v := v16) (lv' := [(3, .int v16), (0, .ref (b0 + a0)), (1, .int x1)]) C0.hx C0.hb dX8_drift_45 hl (k := 2) rfl (by rw [← Option.some.inj hv16]; rfl) (by decide) rfl (fun ls hl => ?_)
      refine lv_goto (tgt := 25) C0.hx C0.hb dX8_drift_48 (by decide) ?_
      exact ih a0 x1 v16 S15 _ _ _ hw (lv_sub hl [1, 2, 0] rfl) h
set_option maxHeartbeats 4000000 in
set_option maxRecDepth 100000 in
theorem m_X8_drift (l : Launch) (b0 : Nat) (D : va_G) (cy : Nat → ClassId) (S : Mem) (a0 : Nat) (x1 : Int32) {q : (Int32 × Mem)} (h : f_X8_drift a0 x1 S = some q) : Met l yX8_drift [.code yX8_drift cX8_drift 4 (some .int)] rm_X8_drift (Pr b0 D cy S [.ref (b0 + a0), .int x1]) (Qp b0 D cy (some (.int q.1)) q.2) 0 0 (fun q => b0 ≤ q) := by
  refine Met.ofW (cc := cX8_drift) (maxL := 4) (ret := some .int) (by decide) rfl ?_
  intro p e s m args below meth c s₁ B hml hv
  obtain ⟨rfl, hP, hK, hT⟩ := hv
  have C0 : Cx p m c cX8_drift 4 s (List.toArray [.ref (b0 + a0), .int x1]) RX8 D cy := ⟨⟨B.exec, B.bytes, hml, findClass_of_methodNamed B.named, fun w h => hT w h _⟩, hK, hT⟩
  have hr : meth.sig.returnType = some .int := B.returns
  have hlocks := B.notSynchronized
  have hw : Wd b0 D cy S s.heap s.heap [] := ⟨hP, va_S.rf⟩
  have hl := lv_entry ([.ref (b0 + a0), .int x1]) (n := 4) (Nat.le_of_ble_eq_true rfl)
  rw [lg_entry_eq]
  generalize (lg_sl ([.ref (b0 + a0), .int x1]) ++ List.replicate (4 - (lg_sl ([.ref (b0 + a0), .int x1])).length) Slot.unset).toArray = ls at hl ⊢
  have hl : lv_has ls 4 [(0, .ref (b0 + a0)), (1, .int x1)] := hl
  rw [f_X8_drift] at h
  show W p l e rm_X8_drift s m _ below meth c s.heap [] 0 0 _ _
  refine lv_aload_n C0.hx C0.hb dX8_drift_0 rfl (lv_at hl 0 rfl) ?_
  refine lv_iload_n C0.hx C0.hb dX8_drift_1 rfl (lv_at hl 1 rfl) ?_
  obtain ⟨c1, hc1, h⟩ := Option.bind_eq_some_iff.mp h
  obtain ⟨v2, hv2, h⟩ := Option.bind_eq_some_iff.mp h
  refine q_callV (n := 1) (av := [.int x1]) (rest := []) (st1 := [.int v2]) C0 hw (m_X8_refusalOfHours l b0 D cy S a0 x1 hv2) hc1 rfl (by decide) (goodV kw_558 kw_560 kw_12 kw_63 kw_561) ⟨rfl, rfl⟩ (by decide +kernel) ⟨(Nat.le_of_ble_eq_true rfl), (Nat.le_of_ble_eq_true rfl)⟩ rfl hl.1 rfl (Nat.le_of_ble_eq_true rfl) dX8_drift_2 ⟨Nat.zero_le _, Nat.zero_le _⟩ rfl (fun H locs hw => ?_)
  refine lv_istore_n (lv' := [(2, .int v2), (0, .ref (b0 + a0)), (1, .int x1)]) C0.hx C0.hb dX8_drift_5 rfl hl (by decide) rfl (fun ls hl => ?_)
  refine lv_iload_n C0.hx C0.hb dX8_drift_6 rfl (lv_at hl 0 rfl) ?_
  refine lv_if_eq (tgt := 12) C0.hx C0.hb dX8_drift_7 (by decide) (fun hc => ?_) (fun hc => ?_)
  · have h := (if_pos hc).symm.trans h
    refine lv_aload_n C0.hx C0.hb dX8_drift_12 rfl (lv_at hl 1 rfl) ?_
    obtain ⟨r3, hr3, h⟩ := Option.bind_eq_some_iff.mp h
    refine q_getR C0 hw hr3 rfl in_8 (by decide) kw_353 dX8_drift_13 ?_
    refine lv_aload_n C0.hx C0.hb dX8_drift_16 rfl (lv_at hl 1 rfl) ?_
    obtain ⟨r4, hr4, h⟩ := Option.bind_eq_some_iff.mp h
    refine q_getR C0 hw hr4 rfl in_8 (by decide) kw_352 dX8_drift_17 ?_
    obtain ⟨c5, hc5, h⟩ := Option.bind_eq_some_iff.mp h
    obtain ⟨S6, hS6, h⟩ := Option.bind_eq_some_iff.mp h
    refine q_callV (n := 1) (av := [.ref (b0 + r4)]) (rest := []) (st1 := []) C0 hw (m_X3_remember l b0 D cy S r3 r4 hS6) hc5 rfl (by decide) (goodV kw_563 kw_564 kw_565 kw_69 kw_566) ⟨rfl, rfl⟩ (by decide +kernel) ⟨(Nat.le_of_ble_eq_true rfl), (Nat.le_of_ble_eq_true rfl)⟩ rfl hl.1 rfl (Nat.le_of_ble_eq_true rfl) dX8_drift_20 ⟨Nat.zero_le _, Nat.zero_le _⟩ rfl (fun H locs hw => ?_)
    refine lv_iconst (v := (0 : Int32)) C0.hx C0.hb dX8_drift_23 (by decide) ?_
    refine lv_istore_n (lv' := [(3, .int (0 : Int32)), (2, .int v2), (0, .ref (b0 + a0)), (1, .int x1)]) C0.hx C0.hb dX8_drift_24 rfl hl (by decide) rfl (fun ls hl => ?_)
    exact w_X8_drift_b25 C0 hr hlocks FU a0 x1 (0 : Int32) S6 _ _ _ hw (lv_sub hl [2, 3, 0] rfl) h
  · have h := (if_neg hc).symm.trans h
    refine lv_iload_n C0.hx C0.hb dX8_drift_10 rfl (lv_at hl 0 rfl) ?_
    obtain rfl := Option.some.inj h
    exact q_reti C0 hw hr hlocks dX8_drift_11
abbrev rm_X8_undo : Room := { frames := 4, cells := 0, slots := 0, locals := 103 }
def f_X8_undo (a0 : Nat) (S : Mem) : Option (Int32 × Mem) :=
    (gR 8 3 S a0).bind fun r1 =>
      (gI 3 0 S r1).bind fun v2 =>
      (if v2 = (0 : Int32) then
      some ((-1000000003 : Int32), S)
      else
      (gR 8 3 S a0).bind fun r3 =>
      (gR 8 2 S a0).bind fun r4 =>
      (ck 3 S r3).bind fun c5 =>
      (f_X3_giveBack r3 r4 S).bind fun S6 =>
      (gR 8 3 S6 a0).bind fun r7 =>
      (gI 3 0 S6 r7).bind fun v8 =>
      some (v8, S6))
set_option maxHeartbeats 4000000 in
set_option maxRecDepth 100000 in
theorem m_X8_undo (l : Launch) (b0 : Nat) (D : va_G) (cy : Nat → ClassId) (S : Mem) (a0 : Nat) {q : (Int32 × Mem)} (h : f_X8_undo a0 S = some q) : Met l yX8_undo [.code yX8_undo cX8_undo 1 (some .int)] rm_X8_undo (Pr b0 D cy S [.ref (b0 + a0)]) (Qp b0 D cy (some (.int q.1)) q.2) 0 0 (fun q => b0 ≤ q) := by
  refine Met.ofW (cc := cX8_undo) (maxL := 1) (ret := some .int) (by decide) rfl ?_
  intro p e s m args below meth c s₁ B hml hv
  obtain ⟨rfl, hP, hK, hT⟩ := hv
  have C0 : Cx p m c cX8_undo 1 s (List.toArray [.ref (b0 + a0)]) RX8 D cy := ⟨⟨B.exec, B.bytes, hml, findClass_of_methodNamed B.named, fun w h => hT w h _⟩, hK, hT⟩
  have hr : meth.sig.returnType = some .int := B.returns
  have hlocks := B.notSynchronized
  have hw : Wd b0 D cy S s.heap s.heap [] := ⟨hP, va_S.rf⟩
  have hl := lv_entry ([.ref (b0 + a0)]) (n := 1) (Nat.le_of_ble_eq_true rfl)
  rw [lg_entry_eq]
  generalize (lg_sl ([.ref (b0 + a0)]) ++ List.replicate (1 - (lg_sl ([.ref (b0 + a0)])).length) Slot.unset).toArray = ls at hl ⊢
  have hl : lv_has ls 1 [(0, .ref (b0 + a0))] := hl
  rw [f_X8_undo] at h
  show W p l e rm_X8_undo s m _ below meth c s.heap [] 0 0 _ _
  refine lv_aload_n C0.hx C0.hb dX8_undo_0 rfl (lv_at hl 0 rfl) ?_
  obtain ⟨r1, hr1, h⟩ := Option.bind_eq_some_iff.mp h
  refine q_getR C0 hw hr1 rfl in_8 (by decide) kw_353 dX8_undo_1 ?_
  obtain ⟨v2, hv2, h⟩ := Option.bind_eq_some_iff.mp h
  refine q_getI C0 hw hv2 rfl in_3 (by decide) kw_301 dX8_undo_4 ?_
  refine lv_if_ne (tgt := 13) C0.hx C0.hb dX8_undo_7 (by decide) (fun hc => ?_) (fun hc => ?_)
  · have h := (if_neg hc).symm.trans h
    refine lv_aload_n C0.hx C0.hb dX8_undo_13 rfl (lv_at hl 0 rfl) ?_
    obtain ⟨r3, hr3, h⟩ := Option.bind_eq_some_iff.mp h
    refine q_getR C0 hw hr3 rfl in_8 (by decide) kw_353 dX8_undo_14 ?_
    refine lv_aload_n C0.hx C0.hb dX8_undo_17 rfl (lv_at hl 0 rfl) ?_
    obtain ⟨r4, hr4, h⟩ := Option.bind_eq_some_iff.mp h
    refine q_getR C0 hw hr4 rfl in_8 (by decide) kw_352 dX8_undo_18 ?_
    obtain ⟨c5, hc5, h⟩ := Option.bind_eq_some_iff.mp h
    obtain ⟨S6, hS6, h⟩ := Option.bind_eq_some_iff.mp h
    refine q_callV (n := 1) (av := [.ref (b0 + r4)]) (rest := []) (st1 := []) C0 hw (m_X3_giveBack l b0 D cy S r3 r4 hS6) hc5 rfl (by decide) (goodV kw_679 kw_680 kw_681 kw_69 kw_682) ⟨rfl, rfl⟩ (by decide +kernel) ⟨(Nat.le_of_ble_eq_true rfl), (Nat.le_of_ble_eq_true rfl)⟩ rfl hl.1 rfl (Nat.le_of_ble_eq_true rfl) dX8_undo_21 ⟨Nat.zero_le _, Nat.zero_le _⟩ rfl (fun H locs hw => ?_)
    refine lv_aload_n C0.hx C0.hb dX8_undo_24 rfl (lv_at hl 0 rfl) ?_
    obtain ⟨r7, hr7, h⟩ := Option.bind_eq_some_iff.mp h
    refine q_getR C0 hw hr7 rfl in_8 (by decide) kw_353 dX8_undo_25 ?_
    obtain ⟨v8, hv8, h⟩ := Option.bind_eq_some_iff.mp h
    refine q_getI C0 hw hv8 rfl in_3 (by decide) kw_301 dX8_undo_28 ?_
    obtain rfl := Option.some.inj h
    exact q_reti C0 hw hr hlocks dX8_undo_31
  · have h := (if_pos hc).symm.trans h
    refine lv_ldc C0.hx C0.hb C0.ho (C0.w kw_562) dX8_undo_10 ?_
    obtain rfl := Option.some.inj h
    exact q_reti C0 hw hr hlocks dX8_undo_12
abbrev rm_X8_where : Room := { frames := 5, cells := 0, slots := 0, locals := 120 }
def f_X8_where_b42 : Nat → Nat → Int32 → Int32 → Mem → Option (Int32 × Mem)
  | 0, _, _, _, _ => none
  | n + 1, a0, x1, x2, S =>
    (if x1 ≤ x2 then
      (gR 8 7 S a0).bind fun r8 =>
      (gI 4 1 S r8).bind fun v9 =>
      some (v9, S)
      else
      (gR 8 7 S a0).bind fun r10 =>
      (ck 4 S r10).bind fun c11 =>
      (f_X4_tryHour r10 S).bind fun S12 =>
      (some (x2 + (1 : Int32))).bind fun v13 =>
      f_X8_where_b42  n a0 x1 v13 S12)
def f_X8_where (a0 : Nat) (x1 : Int32) (S : Mem) : Option (Int32 × Mem) :=
    (if x1 < (0 : Int32) then
      some ((-1000000002 : Int32), S)
      else
      (if x1 ≤ (100 : Int32) then
      (gR 8 1 S a0).bind fun r1 =>
      (gI 2 2 S r1).bind fun v2 =>
      (if v2 = (0 : Int32) then
      some ((-1000000003 : Int32), S)
      else
      (gR 8 7 S a0).bind fun r3 =>
      (gR 8 2 S a0).bind fun r4 =>
      (gR 5 0 S r4).bind fun r5 =>
      (ck 4 S r3).bind fun c6 =>
      (f_X4_copyFrom r3 r5 S).bind fun S7 =>
      f_X8_where_b42 FU a0 x1 (0 : Int32) S7)
      else
      some ((-1000000002 : Int32), S)))
set_option maxHeartbeats 4000000 in
set_option maxRecDepth 100000 in
theorem w_X8_where_b42 {p : Program} {l : Launch} {e : Env} {s : State} {m : MethodId} {args : Array Value} {below : List Frame} {meth : Method} {c : Code} {b0 : Nat} {D : va_G} {cy : Nat → ClassId} {q : (Int32 × Mem)} (C0 : Cx p m c cX8_where 3 s args RX8 D cy) (hr : meth.sig.returnType = some .int) (hlocks : meth.locks = false) : ∀ (n : Nat) (a0 : Nat) (x1 : Int32) (x2 : Int32) (S : Mem) (H : Heap) (locs : List Loc) (ls : Array Slot), Wd b0 D cy S s.heap H locs → lv_has ls 3 [(0, .ref (b0 + a0)), (1, .int x1), (2, .int x2)] → f_X8_where_b42  n a0 x1 x2 S = some q → W p l e rm_X8_where s m args below meth c H locs 0 0 (MQ below (Qp b0 D cy (some (.int q.1)) q.2) args s 0 0 (fun q => b0 ≤ q)) (F0 m 42 ls []) := by
  intro n
  induction n with
  | zero => intro a0 x1 x2 S H locs ls hw hl h; exact absurd h (by simp [f_X8_where_b42])
  | succ n ih =>
    intro a0 x1 x2 S H locs ls hw hl h
    rw [f_X8_where_b42] at h
    refine lv_iload_n C0.hx C0.hb dX8_where_42 rfl (lv_at hl 2 rfl) ?_
    refine lv_iload_n C0.hx C0.hb dX8_where_43 rfl (lv_at hl 1 rfl) ?_
    refine lv_icmp_ge (tgt := 60) C0.hx C0.hb dX8_where_44 (by decide) (fun hc => ?_) (fun hc => ?_)
    · have h := (if_pos hc).symm.trans h
      refine lv_aload_n C0.hx C0.hb dX8_where_60 rfl (lv_at hl 0 rfl) ?_
      obtain ⟨r8, hr8, h⟩ := Option.bind_eq_some_iff.mp h
      refine q_getR C0 hw hr8 rfl in_8 (by decide) kw_357 dX8_where_61 ?_
      obtain ⟨v9, hv9, h⟩ := Option.bind_eq_some_iff.mp h
      refine q_getI C0 hw hv9 rfl in_4 (by decide) kw_200 dX8_where_64 ?_
      obtain rfl := Option.some.inj h
      exact q_reti C0 hw hr hlocks dX8_where_67
    · have h := (if_neg hc).symm.trans h
      refine lv_aload_n C0.hx C0.hb dX8_where_47 rfl (lv_at hl 0 rfl) ?_
      obtain ⟨r10, hr10, h⟩ := Option.bind_eq_some_iff.mp h
      refine q_getR C0 hw hr10 rfl in_8 (by decide) kw_357 dX8_where_48 ?_
      obtain ⟨c11, hc11, h⟩ := Option.bind_eq_some_iff.mp h
      obtain ⟨S12, hS12, h⟩ := Option.bind_eq_some_iff.mp h
      refine q_callV (n := 0) (av := []) (rest := []) (st1 := []) C0 hw (m_X4_tryHour l b0 D cy S r10 hS12) hc11 rfl (by decide) (goodV kw_688 kw_689 kw_690 kw_67 kw_691) ⟨rfl, rfl⟩ (by decide +kernel) ⟨(Nat.le_of_ble_eq_true rfl), (Nat.le_of_ble_eq_true rfl)⟩ rfl hl.1 rfl (Nat.le_of_ble_eq_true rfl) dX8_where_51 ⟨Nat.zero_le _, Nat.zero_le _⟩ rfl (fun H locs hw => ?_)
      obtain ⟨v13, hv13, h⟩ := Option.bind_eq_some_iff.mp h
      refine lv_iinc (v := v13) (lv' := [(2, .int v13), (0, .ref (b0 + a0)), (1, .int x1)]) C0.hx C0.hb dX8_where_54 hl (k := 2) rfl (by rw [← Option.some.inj hv13]; rfl) (by decide) rfl (fun ls hl => ?_)
      refine lv_goto (tgt := 42) C0.hx C0.hb dX8_where_57 (by decide) ?_
      exact ih a0 x1 v13 S12 _ _ _ hw (lv_sub hl [1, 2, 0] rfl) h
set_option maxHeartbeats 4000000 in
set_option maxRecDepth 100000 in
theorem m_X8_where (l : Launch) (b0 : Nat) (D : va_G) (cy : Nat → ClassId) (S : Mem) (a0 : Nat) (x1 : Int32) {q : (Int32 × Mem)} (h : f_X8_where a0 x1 S = some q) : Met l yX8_where [.code yX8_where cX8_where 3 (some .int)] rm_X8_where (Pr b0 D cy S [.ref (b0 + a0), .int x1]) (Qp b0 D cy (some (.int q.1)) q.2) 0 0 (fun q => b0 ≤ q) := by
  refine Met.ofW (cc := cX8_where) (maxL := 3) (ret := some .int) (by decide) rfl ?_
  intro p e s m args below meth c s₁ B hml hv
  obtain ⟨rfl, hP, hK, hT⟩ := hv
  have C0 : Cx p m c cX8_where 3 s (List.toArray [.ref (b0 + a0), .int x1]) RX8 D cy := ⟨⟨B.exec, B.bytes, hml, findClass_of_methodNamed B.named, fun w h => hT w h _⟩, hK, hT⟩
  have hr : meth.sig.returnType = some .int := B.returns
  have hlocks := B.notSynchronized
  have hw : Wd b0 D cy S s.heap s.heap [] := ⟨hP, va_S.rf⟩
  have hl := lv_entry ([.ref (b0 + a0), .int x1]) (n := 3) (Nat.le_of_ble_eq_true rfl)
  rw [lg_entry_eq]
  generalize (lg_sl ([.ref (b0 + a0), .int x1]) ++ List.replicate (3 - (lg_sl ([.ref (b0 + a0), .int x1])).length) Slot.unset).toArray = ls at hl ⊢
  have hl : lv_has ls 3 [(0, .ref (b0 + a0)), (1, .int x1)] := hl
  rw [f_X8_where] at h
  show W p l e rm_X8_where s m _ below meth c s.heap [] 0 0 _ _
  refine lv_iload_n C0.hx C0.hb dX8_where_0 rfl (lv_at hl 1 rfl) ?_
  refine lv_if_lt (tgt := 10) C0.hx C0.hb dX8_where_1 (by decide) (fun hc => ?_) (fun hc => ?_)
  · have h := (if_pos hc).symm.trans h
    refine lv_ldc C0.hx C0.hb C0.ho (C0.w kw_385) dX8_where_10 ?_
    obtain rfl := Option.some.inj h
    exact q_reti C0 hw hr hlocks dX8_where_12
  · have h := (if_neg hc).symm.trans h
    refine lv_iload_n C0.hx C0.hb dX8_where_4 rfl (lv_at hl 1 rfl) ?_
    refine lv_bipush (v := (100 : Int32)) C0.hx C0.hb dX8_where_5 (by decide) ?_
    refine lv_icmp_le (tgt := 13) C0.hx C0.hb dX8_where_7 (by decide) (fun hc => ?_) (fun hc => ?_)
    · have h := (if_pos hc).symm.trans h
      refine lv_aload_n C0.hx C0.hb dX8_where_13 rfl (lv_at hl 0 rfl) ?_
      obtain ⟨r1, hr1, h⟩ := Option.bind_eq_some_iff.mp h
      refine q_getR C0 hw hr1 rfl in_8 (by decide) kw_351 dX8_where_14 ?_
      obtain ⟨v2, hv2, h⟩ := Option.bind_eq_some_iff.mp h
      refine q_getI C0 hw hv2 rfl in_2 (by decide) kw_105 dX8_where_17 ?_
      refine lv_if_ne (tgt := 26) C0.hx C0.hb dX8_where_20 (by decide) (fun hc => ?_) (fun hc => ?_)
      · have h := (if_neg hc).symm.trans h
        refine lv_aload_n C0.hx C0.hb dX8_where_26 rfl (lv_at hl 0 rfl) ?_
        obtain ⟨r3, hr3, h⟩ := Option.bind_eq_some_iff.mp h
        refine q_getR C0 hw hr3 rfl in_8 (by decide) kw_357 dX8_where_27 ?_
        refine lv_aload_n C0.hx C0.hb dX8_where_30 rfl (lv_at hl 0 rfl) ?_
        obtain ⟨r4, hr4, h⟩ := Option.bind_eq_some_iff.mp h
        refine q_getR C0 hw hr4 rfl in_8 (by decide) kw_352 dX8_where_31 ?_
        obtain ⟨r5, hr5, h⟩ := Option.bind_eq_some_iff.mp h
        refine q_getR C0 hw hr5 rfl in_5 (by decide) kw_259 dX8_where_34 ?_
        obtain ⟨c6, hc6, h⟩ := Option.bind_eq_some_iff.mp h
        obtain ⟨S7, hS7, h⟩ := Option.bind_eq_some_iff.mp h
        refine q_callV (n := 1) (av := [.ref (b0 + r5)]) (rest := []) (st1 := []) C0 hw (m_X4_copyFrom l b0 D cy S r3 r5 hS7) hc6 rfl (by decide) (goodV kw_687 kw_572 kw_573 kw_67 kw_574) ⟨rfl, rfl⟩ (by decide +kernel) ⟨(Nat.le_of_ble_eq_true rfl), (Nat.le_of_ble_eq_true rfl)⟩ rfl hl.1 rfl (Nat.le_of_ble_eq_true rfl) dX8_where_37 ⟨Nat.zero_le _, Nat.zero_le _⟩ rfl (fun H locs hw => ?_)
        refine lv_iconst (v := (0 : Int32)) C0.hx C0.hb dX8_where_40 (by decide) ?_
        refine lv_istore_n (lv' := [(2, .int (0 : Int32)), (0, .ref (b0 + a0)), (1, .int x1)]) C0.hx C0.hb dX8_where_41 rfl hl (by decide) rfl (fun ls hl => ?_)
        exact w_X8_where_b42 C0 hr hlocks FU a0 x1 (0 : Int32) S7 _ _ _ hw (lv_sub hl [1, 2, 0] rfl) h
      · have h := (if_pos hc).symm.trans h
        refine lv_ldc C0.hx C0.hb C0.ho (C0.w kw_562) dX8_where_23 ?_
        obtain rfl := Option.some.inj h
        exact q_reti C0 hw hr hlocks dX8_where_25
    · have h := (if_neg hc).symm.trans h
      refine lv_ldc C0.hx C0.hb C0.ho (C0.w kw_385) dX8_where_10 ?_
      obtain rfl := Option.some.inj h
      exact q_reti C0 hw hr hlocks dX8_where_12
abbrev rm_X8_hoursUntil : Room := { frames := 5, cells := 0, slots := 0, locals := 120 }
def f_X8_hoursUntil_b2 : Nat → Nat → Int32 → Int32 → Int32 → Mem → Option (Int32 × Mem)
  | 0, _, _, _, _, _ => none
  | n + 1, a0, x1, x2, x3, S =>
    (if x2 ≤ x3 then
      (gR 8 7 S a0).bind fun r1 =>
      (gI 4 1 S r1).bind fun v2 =>
      (if v2 = x1 then
      some (x2, S)
      else
      some ((-1 : Int32), S))
      else
      (gR 8 7 S a0).bind fun r3 =>
      (gI 4 1 S r3).bind fun v4 =>
      (if v4 = x1 then
      some (x3, S)
      else
      (gR 8 7 S a0).bind fun r5 =>
      (ck 4 S r5).bind fun c6 =>
      (f_X4_tryHour r5 S).bind fun S7 =>
      (some (x3 + (1 : Int32))).bind fun v8 =>
      f_X8_hoursUntil_b2  n a0 x1 x2 v8 S7))
def f_X8_hoursUntil (a0 : Nat) (x1 : Int32) (x2 : Int32) (S : Mem) : Option (Int32 × Mem) :=
    f_X8_hoursUntil_b2 FU a0 x1 x2 (0 : Int32) S
set_option maxHeartbeats 4000000 in
set_option maxRecDepth 100000 in
theorem w_X8_hoursUntil_b2 {p : Program} {l : Launch} {e : Env} {s : State} {m : MethodId} {args : Array Value} {below : List Frame} {meth : Method} {c : Code} {b0 : Nat} {D : va_G} {cy : Nat → ClassId} {q : (Int32 × Mem)} (C0 : Cx p m c cX8_hoursUntil 4 s args RX8 D cy) (hr : meth.sig.returnType = some .int) (hlocks : meth.locks = false) : ∀ (n : Nat) (a0 : Nat) (x1 : Int32) (x2 : Int32) (x3 : Int32) (S : Mem) (H : Heap) (locs : List Loc) (ls : Array Slot), Wd b0 D cy S s.heap H locs → lv_has ls 4 [(0, .ref (b0 + a0)), (1, .int x1), (2, .int x2), (3, .int x3)] → f_X8_hoursUntil_b2  n a0 x1 x2 x3 S = some q → W p l e rm_X8_hoursUntil s m args below meth c H locs 0 0 (MQ below (Qp b0 D cy (some (.int q.1)) q.2) args s 0 0 (fun q => b0 ≤ q)) (F0 m 2 ls []) := by
  intro n
  induction n with
  | zero => intro a0 x1 x2 x3 S H locs ls hw hl h; exact absurd h (by simp [f_X8_hoursUntil_b2])
  | succ n ih =>
    intro a0 x1 x2 x3 S H locs ls hw hl h
    rw [f_X8_hoursUntil_b2] at h
    refine lv_iload_n C0.hx C0.hb dX8_hoursUntil_2 rfl (lv_at hl 3 rfl) ?_
    refine lv_iload_n C0.hx C0.hb dX8_hoursUntil_3 rfl (lv_at hl 2 rfl) ?_
    refine lv_icmp_ge (tgt := 33) C0.hx C0.hb dX8_hoursUntil_4 (by decide) (fun hc => ?_) (fun hc => ?_)
    · have h := (if_pos hc).symm.trans h
      refine lv_aload_n C0.hx C0.hb dX8_hoursUntil_33 rfl (lv_at hl 0 rfl) ?_
      obtain ⟨r1, hr1, h⟩ := Option.bind_eq_some_iff.mp h
      refine q_getR C0 hw hr1 rfl in_8 (by decide) kw_357 dX8_hoursUntil_34 ?_
      obtain ⟨v2, hv2, h⟩ := Option.bind_eq_some_iff.mp h
      refine q_getI C0 hw hv2 rfl in_4 (by decide) kw_200 dX8_hoursUntil_37 ?_
      refine lv_iload_n C0.hx C0.hb dX8_hoursUntil_40 rfl (lv_at hl 1 rfl) ?_
      refine lv_icmp_ne (tgt := 48) C0.hx C0.hb dX8_hoursUntil_41 (by decide) (fun hc => ?_) (fun hc => ?_)
      · have h := (if_neg hc).symm.trans h
        refine lv_iconst (v := (-1 : Int32)) C0.hx C0.hb dX8_hoursUntil_48 (by decide) ?_
        obtain rfl := Option.some.inj h
        exact q_reti C0 hw hr hlocks dX8_hoursUntil_49
      · have h := (if_pos hc).symm.trans h
        refine lv_iload_n C0.hx C0.hb dX8_hoursUntil_44 rfl (lv_at hl 2 rfl) ?_
        refine lv_goto (tgt := 49) C0.hx C0.hb dX8_hoursUntil_45 (by decide) ?_
        obtain rfl := Option.some.inj h
        exact q_reti C0 hw hr hlocks dX8_hoursUntil_49
    · have h := (if_neg hc).symm.trans h
      refine lv_aload_n C0.hx C0.hb dX8_hoursUntil_7 rfl (lv_at hl 0 rfl) ?_
      obtain ⟨r3, hr3, h⟩ := Option.bind_eq_some_iff.mp h
      refine q_getR C0 hw hr3 rfl in_8 (by decide) kw_357 dX8_hoursUntil_8 ?_
      obtain ⟨v4, hv4, h⟩ := Option.bind_eq_some_iff.mp h
      refine q_getI C0 hw hv4 rfl in_4 (by decide) kw_200 dX8_hoursUntil_11 ?_
      refine lv_iload_n C0.hx C0.hb dX8_hoursUntil_14 rfl (lv_at hl 1 rfl) ?_
      refine lv_icmp_ne (tgt := 20) C0.hx C0.hb dX8_hoursUntil_15 (by decide) (fun hc => ?_) (fun hc => ?_)
      · have h := (if_neg hc).symm.trans h
        refine lv_aload_n C0.hx C0.hb dX8_hoursUntil_20 rfl (lv_at hl 0 rfl) ?_
        obtain ⟨r5, hr5, h⟩ := Option.bind_eq_some_iff.mp h
        refine q_getR C0 hw hr5 rfl in_8 (by decide) kw_357 dX8_hoursUntil_21 ?_
        obtain ⟨c6, hc6, h⟩ := Option.bind_eq_some_iff.mp h
        obtain ⟨S7, hS7, h⟩ := Option.bind_eq_some_iff.mp h
        refine q_callV (n := 0) (av := []) (rest := []) (st1 := []) C0 hw (m_X4_tryHour l b0 D cy S r5 hS7) hc6 rfl (by decide) (goodV kw_688 kw_689 kw_690 kw_67 kw_691) ⟨rfl, rfl⟩ (by decide +kernel) ⟨(Nat.le_of_ble_eq_true rfl), (Nat.le_of_ble_eq_true rfl)⟩ rfl hl.1 rfl (Nat.le_of_ble_eq_true rfl) dX8_hoursUntil_24 ⟨Nat.zero_le _, Nat.zero_le _⟩ rfl (fun H locs hw => ?_)
        obtain ⟨v8, hv8, h⟩ := Option.bind_eq_some_iff.mp h
        refine lv_iinc (v := v8) (lv' := [(3, .int v8), (0, .ref (b0 + a0)), (1, .int x1), (2, .int x2)]) C0.hx C0.hb dX8_hoursUntil_27 hl (k := 3) rfl (by rw [← Option.some.inj hv8]; rfl) (by decide) rfl (fun ls hl => ?_)
        refine lv_goto (tgt := 2) C0.hx C0.hb dX8_hoursUntil_30 (by decide) ?_
        exact ih a0 x1 x2 v8 S7 _ _ _ hw (lv_sub hl [1, 2, 3, 0] rfl) h
      · have h := (if_pos hc).symm.trans h
        refine lv_iload_n C0.hx C0.hb dX8_hoursUntil_18 rfl (lv_at hl 3 rfl) ?_
        obtain rfl := Option.some.inj h
        exact q_reti C0 hw hr hlocks dX8_hoursUntil_19
set_option maxHeartbeats 4000000 in
set_option maxRecDepth 100000 in
theorem m_X8_hoursUntil (l : Launch) (b0 : Nat) (D : va_G) (cy : Nat → ClassId) (S : Mem) (a0 : Nat) (x1 : Int32) (x2 : Int32) {q : (Int32 × Mem)} (h : f_X8_hoursUntil a0 x1 x2 S = some q) : Met l yX8_hoursUntil [.code yX8_hoursUntil cX8_hoursUntil 4 (some .int)] rm_X8_hoursUntil (Pr b0 D cy S [.ref (b0 + a0), .int x1, .int x2]) (Qp b0 D cy (some (.int q.1)) q.2) 0 0 (fun q => b0 ≤ q) := by
  refine Met.ofW (cc := cX8_hoursUntil) (maxL := 4) (ret := some .int) (by decide) rfl ?_
  intro p e s m args below meth c s₁ B hml hv
  obtain ⟨rfl, hP, hK, hT⟩ := hv
  have C0 : Cx p m c cX8_hoursUntil 4 s (List.toArray [.ref (b0 + a0), .int x1, .int x2]) RX8 D cy := ⟨⟨B.exec, B.bytes, hml, findClass_of_methodNamed B.named, fun w h => hT w h _⟩, hK, hT⟩
  have hr : meth.sig.returnType = some .int := B.returns
  have hlocks := B.notSynchronized
  have hw : Wd b0 D cy S s.heap s.heap [] := ⟨hP, va_S.rf⟩
  have hl := lv_entry ([.ref (b0 + a0), .int x1, .int x2]) (n := 4) (Nat.le_of_ble_eq_true rfl)
  rw [lg_entry_eq]
  generalize (lg_sl ([.ref (b0 + a0), .int x1, .int x2]) ++ List.replicate (4 - (lg_sl ([.ref (b0 + a0), .int x1, .int x2])).length) Slot.unset).toArray = ls at hl ⊢
  have hl : lv_has ls 4 [(0, .ref (b0 + a0)), (1, .int x1), (2, .int x2)] := hl
  rw [f_X8_hoursUntil] at h
  show W p l e rm_X8_hoursUntil s m _ below meth c s.heap [] 0 0 _ _
  refine lv_iconst (v := (0 : Int32)) C0.hx C0.hb dX8_hoursUntil_0 (by decide) ?_
  refine lv_istore_n (lv' := [(3, .int (0 : Int32)), (0, .ref (b0 + a0)), (1, .int x1), (2, .int x2)]) C0.hx C0.hb dX8_hoursUntil_1 rfl hl (by decide) rfl (fun ls hl => ?_)
  exact w_X8_hoursUntil_b2 C0 hr hlocks FU a0 x1 x2 (0 : Int32) S _ _ _ hw (lv_sub hl [1, 2, 3, 0] rfl) h
