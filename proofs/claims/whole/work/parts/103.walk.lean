abbrev rm_X6_readDoor : Room := { frames := 2, cells := 0, slots := 0, locals := 45 }
def f_X6_readDoor_b82 (a0 : Nat) (x1 : Int32) (x2 : Int32) (S : Mem) : Option Mem :=
    (ck 6 S a0).bind fun c14 =>
      (f_X6_readEnd a0 S).bind fun S15 =>
      (gI 6 1 S15 a0).bind fun v16 =>
      (if v16 = (0 : Int32) then
      (gR 6 3 S15 a0).bind fun r17 =>
      (ck 2 S15 r17).bind fun c18 =>
      (f_X2_addDoor r17 x1 x2 S15).bind fun S19 =>
      some S19
      else
      some S15)
def f_X6_readDoor_b73 (a0 : Nat) (x1 : Int32) (x2 : Int32) (S : Mem) : Option Mem :=
    (gI 6 6 S a0).bind fun v20 =>
      (ck 6 S a0).bind fun c21 =>
      (f_X6_noteFault a0 (4 : Int32) v20 S).bind fun S22 =>
      f_X6_readDoor_b82 a0 x1 x2 S22
def f_X6_readDoor_b18 (a0 : Nat) (t0 : Int32) (t1 : Nat) (S : Mem) : Option Mem :=
    (ck 6 S t1).bind fun c3 =>
      (f_X6_readWord t1 t0 S).bind fun S4 =>
      (gR 6 3 S4 a0).bind fun r5 =>
      (gI 2 2 S4 r5).bind fun v6 =>
      (ck 6 S4 a0).bind fun c7 =>
      (f_X6_readNumber a0 (v6 - (1 : Int32)) S4).bind fun q8 =>
      (gR 6 3 q8.2 a0).bind fun r9 =>
      (gI 2 2 q8.2 r9).bind fun v10 =>
      (ck 6 q8.2 a0).bind fun c11 =>
      (f_X6_readNumber a0 (v10 - (1 : Int32)) q8.2).bind fun q12 =>
      (gI 6 1 q12.2 a0).bind fun v13 =>
      (if v13 = (0 : Int32) then
      (if q8.1 = q12.1 then
      f_X6_readDoor_b73 a0 q8.1 q12.1 q12.2
      else
      (gR 6 3 q12.2 a0).bind fun r23 =>
      (ck 2 q12.2 r23).bind fun c24 =>
      (f_X2_hasDoor r23 q8.1 q12.1 q12.2).bind fun v25 =>
      (if v25 = (0 : Int32) then
      f_X6_readDoor_b82 a0 q8.1 q12.1 q12.2
      else
      f_X6_readDoor_b73 a0 q8.1 q12.1 q12.2))
      else
      f_X6_readDoor_b82 a0 q8.1 q12.1 q12.2)
def f_X6_readDoor (a0 : Nat) (S : Mem) : Option Mem :=
    (gR 6 3 S a0).bind fun r1 =>
      (gI 2 3 S r1).bind fun v2 =>
      (if v2 < (12 : Int32) then
      f_X6_readDoor_b18 a0 (0 : Int32) a0 S
      else
      f_X6_readDoor_b18 a0 (1 : Int32) a0 S)
set_option maxHeartbeats 4000000 in
set_option maxRecDepth 100000 in
theorem w_X6_readDoor_b82 {p : Program} {l : Launch} {e : Env} {s : State} {m : MethodId} {args : Array Value} {below : List Frame} {meth : Method} {c : Code} {b0 : Nat} {D : va_G} {cy : Nat → ClassId} {q : Mem} (C0 : Cx p m c cX6_readDoor 3 s args RX6 D cy) (hr : meth.sig.returnType = none) (hlocks : meth.locks = false) : ∀ (a0 : Nat) (x1 : Int32) (x2 : Int32) (S : Mem) (H : Heap) (locs : List Loc) (ls : Array Slot), Wd b0 D cy S s.heap H locs → lv_has ls 3 [(0, .ref (b0 + a0)), (1, .int x1), (2, .int x2)] → f_X6_readDoor_b82  a0 x1 x2 S = some q → W p l e rm_X6_readDoor s m args below meth c H locs 0 0 (MQ below (Qp b0 D cy none q) args s 0 0 (fun q => b0 ≤ q)) (F0 m 82 ls []) := by
  intro a0 x1 x2 S H locs ls hw hl h
  rw [f_X6_readDoor_b82] at h
  refine lv_aload_n C0.hx C0.hb dX6_readDoor_82 rfl (lv_at hl 0 rfl) ?_
  obtain ⟨c14, hc14, h⟩ := Option.bind_eq_some_iff.mp h
  obtain ⟨S15, hS15, h⟩ := Option.bind_eq_some_iff.mp h
  refine q_callV (n := 0) (av := []) (rest := []) (st1 := []) C0 hw (m_X6_readEnd l b0 D cy S a0 hS15) hc14 rfl (by decide) (goodV kw_427 kw_429 kw_6 kw_64 kw_430) ⟨rfl, rfl⟩ (by decide +kernel) ⟨(Nat.le_of_ble_eq_true rfl), (Nat.le_of_ble_eq_true rfl)⟩ rfl hl.1 rfl (Nat.le_of_ble_eq_true rfl) dX6_readDoor_83 ⟨Nat.zero_le _, Nat.zero_le _⟩ rfl (fun H locs hw => ?_)
  refine lv_aload_n C0.hx C0.hb dX6_readDoor_86 rfl (lv_at hl 0 rfl) ?_
  obtain ⟨v16, hv16, h⟩ := Option.bind_eq_some_iff.mp h
  refine q_getI C0 hw hv16 rfl in_6 (by decide) kw_156 dX6_readDoor_87 ?_
  refine lv_if_ne (tgt := 102) C0.hx C0.hb dX6_readDoor_90 (by decide) (fun hc => ?_) (fun hc => ?_)
  · have h := (if_neg hc).symm.trans h
    obtain rfl := Option.some.inj h
    exact q_retv C0 hw hr hlocks dX6_readDoor_102
  · have h := (if_pos hc).symm.trans h
    refine lv_aload_n C0.hx C0.hb dX6_readDoor_93 rfl (lv_at hl 0 rfl) ?_
    obtain ⟨r17, hr17, h⟩ := Option.bind_eq_some_iff.mp h
    refine q_getR C0 hw hr17 rfl in_6 (by decide) kw_160 dX6_readDoor_94 ?_
    refine lv_iload_n C0.hx C0.hb dX6_readDoor_97 rfl (lv_at hl 1 rfl) ?_
    refine lv_iload_n C0.hx C0.hb dX6_readDoor_98 rfl (lv_at hl 2 rfl) ?_
    obtain ⟨c18, hc18, h⟩ := Option.bind_eq_some_iff.mp h
    obtain ⟨S19, hS19, h⟩ := Option.bind_eq_some_iff.mp h
    refine q_callV (n := 2) (av := [.int x1, .int x2]) (rest := []) (st1 := []) C0 hw (m_X2_addDoor l b0 D cy S15 r17 x1 x2 hS19) hc18 rfl (by decide) (goodV kw_453 kw_454 kw_455 kw_65 kw_456) ⟨rfl, rfl⟩ (by decide +kernel) ⟨(Nat.le_of_ble_eq_true rfl), (Nat.le_of_ble_eq_true rfl)⟩ rfl hl.1 rfl (Nat.le_of_ble_eq_true rfl) dX6_readDoor_99 ⟨Nat.zero_le _, Nat.zero_le _⟩ rfl (fun H locs hw => ?_)
    obtain rfl := Option.some.inj h
    exact q_retv C0 hw hr hlocks dX6_readDoor_102
set_option maxHeartbeats 4000000 in
set_option maxRecDepth 100000 in
theorem w_X6_readDoor_b73 {p : Program} {l : Launch} {e : Env} {s : State} {m : MethodId} {args : Array Value} {below : List Frame} {meth : Method} {c : Code} {b0 : Nat} {D : va_G} {cy : Nat → ClassId} {q : Mem} (C0 : Cx p m c cX6_readDoor 3 s args RX6 D cy) (hr : meth.sig.returnType = none) (hlocks : meth.locks = false) : ∀ (a0 : Nat) (x1 : Int32) (x2 : Int32) (S : Mem) (H : Heap) (locs : List Loc) (ls : Array Slot), Wd b0 D cy S s.heap H locs → lv_has ls 3 [(0, .ref (b0 + a0)), (1, .int x1), (2, .int x2)] → f_X6_readDoor_b73  a0 x1 x2 S = some q → W p l e rm_X6_readDoor s m args below meth c H locs 0 0 (MQ below (Qp b0 D cy none q) args s 0 0 (fun q => b0 ≤ q)) (F0 m 73 ls []) := by
  intro a0 x1 x2 S H locs ls hw hl h
  rw [f_X6_readDoor_b73] at h
  refine lv_aload_n C0.hx C0.hb dX6_readDoor_73 rfl (lv_at hl 0 rfl) ?_
  refine lv_iconst (v := (4 : Int32)) C0.hx C0.hb dX6_readDoor_74 (by decide) ?_
  refine lv_aload_n C0.hx C0.hb dX6_readDoor_75 rfl (lv_at hl 0 rfl) ?_
  obtain ⟨v20, hv20, h⟩ := Option.bind_eq_some_iff.mp h
  refine q_getI C0 hw hv20 rfl in_6 (by decide) kw_164 dX6_readDoor_76 ?_
  obtain ⟨c21, hc21, h⟩ := Option.bind_eq_some_iff.mp h
  obtain ⟨S22, hS22, h⟩ := Option.bind_eq_some_iff.mp h
  refine q_callV (n := 2) (av := [.int (4 : Int32), .int v20]) (rest := []) (st1 := []) C0 hw (m_X6_noteFault l b0 D cy S a0 (4 : Int32) v20 hS22) hc21 rfl (by decide) (goodV kw_411 kw_413 kw_2 kw_64 kw_414) ⟨rfl, rfl⟩ (by decide +kernel) ⟨(Nat.le_of_ble_eq_true rfl), (Nat.le_of_ble_eq_true rfl)⟩ rfl hl.1 rfl (Nat.le_of_ble_eq_true rfl) dX6_readDoor_79 ⟨Nat.zero_le _, Nat.zero_le _⟩ rfl (fun H locs hw => ?_)
  exact w_X6_readDoor_b82 C0 hr hlocks a0 x1 x2 S22 _ _ _ hw (lv_sub hl [0, 1, 2] rfl) h
set_option maxHeartbeats 4000000 in
set_option maxRecDepth 100000 in
theorem w_X6_readDoor_b18 {p : Program} {l : Launch} {e : Env} {s : State} {m : MethodId} {args : Array Value} {below : List Frame} {meth : Method} {c : Code} {b0 : Nat} {D : va_G} {cy : Nat → ClassId} {q : Mem} (C0 : Cx p m c cX6_readDoor 3 s args RX6 D cy) (hr : meth.sig.returnType = none) (hlocks : meth.locks = false) : ∀ (a0 : Nat) (t0 : Int32) (t1 : Nat) (S : Mem) (H : Heap) (locs : List Loc) (ls : Array Slot), Wd b0 D cy S s.heap H locs → lv_has ls 3 [(0, .ref (b0 + a0))] → f_X6_readDoor_b18  a0 t0 t1 S = some q → W p l e rm_X6_readDoor s m args below meth c H locs 0 0 (MQ below (Qp b0 D cy none q) args s 0 0 (fun q => b0 ≤ q)) (F0 m 18 ls [.int t0, .ref (b0 + t1)]) := by
  intro a0 t0 t1 S H locs ls hw hl h
  rw [f_X6_readDoor_b18] at h
  obtain ⟨c3, hc3, h⟩ := Option.bind_eq_some_iff.mp h
  obtain ⟨S4, hS4, h⟩ := Option.bind_eq_some_iff.mp h
  refine q_callV (n := 1) (av := [.int t0]) (rest := []) (st1 := []) C0 hw (m_X6_readWord l b0 D cy S t1 t0 hS4) hc3 rfl (by decide) (goodV kw_419 kw_421 kw_4 kw_64 kw_422) ⟨rfl, rfl⟩ (by decide +kernel) ⟨(Nat.le_of_ble_eq_true rfl), (Nat.le_of_ble_eq_true rfl)⟩ rfl hl.1 rfl (Nat.le_of_ble_eq_true rfl) dX6_readDoor_18 ⟨Nat.zero_le _, Nat.zero_le _⟩ rfl (fun H locs hw => ?_)
  refine lv_aload_n C0.hx C0.hb dX6_readDoor_21 rfl (lv_at hl 0 rfl) ?_
  refine lv_aload_n C0.hx C0.hb dX6_readDoor_22 rfl (lv_at hl 0 rfl) ?_
  obtain ⟨r5, hr5, h⟩ := Option.bind_eq_some_iff.mp h
  refine q_getR C0 hw hr5 rfl in_6 (by decide) kw_160 dX6_readDoor_23 ?_
  obtain ⟨v6, hv6, h⟩ := Option.bind_eq_some_iff.mp h
  refine q_getI C0 hw hv6 rfl in_2 (by decide) kw_106 dX6_readDoor_26 ?_
  refine lv_iconst (v := (1 : Int32)) C0.hx C0.hb dX6_readDoor_29 (by decide) ?_
  refine lv_isub C0.hx C0.hb dX6_readDoor_30 ?_
  obtain ⟨c7, hc7, h⟩ := Option.bind_eq_some_iff.mp h
  obtain ⟨q8, hq8, h⟩ := Option.bind_eq_some_iff.mp h
  refine q_callV (n := 1) (av := [.int (v6 - (1 : Int32))]) (rest := []) (st1 := [.int q8.1]) C0 hw (m_X6_readNumber l b0 D cy S4 a0 (v6 - (1 : Int32)) hq8) hc7 rfl (by decide) (goodV kw_423 kw_425 kw_5 kw_64 kw_426) ⟨rfl, rfl⟩ (by decide +kernel) ⟨(Nat.le_of_ble_eq_true rfl), (Nat.le_of_ble_eq_true rfl)⟩ rfl hl.1 rfl (Nat.le_of_ble_eq_true rfl) dX6_readDoor_31 ⟨Nat.zero_le _, Nat.zero_le _⟩ rfl (fun H locs hw => ?_)
  refine lv_istore_n (lv' := [(1, .int q8.1), (0, .ref (b0 + a0))]) C0.hx C0.hb dX6_readDoor_34 rfl hl (by decide) rfl (fun ls hl => ?_)
  refine lv_aload_n C0.hx C0.hb dX6_readDoor_35 rfl (lv_at hl 1 rfl) ?_
  refine lv_aload_n C0.hx C0.hb dX6_readDoor_36 rfl (lv_at hl 1 rfl) ?_
  obtain ⟨r9, hr9, h⟩ := Option.bind_eq_some_iff.mp h
  refine q_getR C0 hw hr9 rfl in_6 (by decide) kw_160 dX6_readDoor_37 ?_
  obtain ⟨v10, hv10, h⟩ := Option.bind_eq_some_iff.mp h
  refine q_getI C0 hw hv10 rfl in_2 (by decide) kw_106 dX6_readDoor_40 ?_
  refine lv_iconst (v := (1 : Int32)) C0.hx C0.hb dX6_readDoor_43 (by decide) ?_
  refine lv_isub C0.hx C0.hb dX6_readDoor_44 ?_
  obtain ⟨c11, hc11, h⟩ := Option.bind_eq_some_iff.mp h
  obtain ⟨q12, hq12, h⟩ := Option.bind_eq_some_iff.mp h
  refine q_callV (n := 1) (av := [.int (v10 - (1 : Int32))]) (rest := []) (st1 := [.int q12.1]) C0 hw (m_X6_readNumber l b0 D cy q8.2 a0 (v10 - (1 : Int32)) hq12) hc11 rfl (by decide) (goodV kw_423 kw_425 kw_5 kw_64 kw_426) ⟨rfl, rfl⟩ (by decide +kernel) ⟨(Nat.le_of_ble_eq_true rfl), (Nat.le_of_ble_eq_true rfl)⟩ rfl hl.1 rfl (Nat.le_of_ble_eq_true rfl) dX6_readDoor_45 ⟨Nat.zero_le _, Nat.zero_le _⟩ rfl (fun H locs hw => ?_)
  refine lv_istore_n (lv' := [(2, .int q12.1), (1, .int q8.1), (0, .ref (b0 + a0))]) C0.hx C0.hb dX6_readDoor_48 rfl hl (by decide) rfl (fun ls hl => ?_)
  refine lv_aload_n C0.hx C0.hb dX6_readDoor_49 rfl (lv_at hl 2 rfl) ?_
  obtain ⟨v13, hv13, h⟩ := Option.bind_eq_some_iff.mp h
  refine q_getI C0 hw hv13 rfl in_6 (by decide) kw_156 dX6_readDoor_50 ?_
  refine lv_if_ne (tgt := 82) C0.hx C0.hb dX6_readDoor_53 (by decide) (fun hc => ?_) (fun hc => ?_)
  · have h := (if_neg hc).symm.trans h
    exact w_X6_readDoor_b82 C0 hr hlocks a0 q8.1 q12.1 q12.2 _ _ _ hw (lv_sub hl [2, 1, 0] rfl) h
  · have h := (if_pos hc).symm.trans h
    refine lv_iload_n C0.hx C0.hb dX6_readDoor_56 rfl (lv_at hl 1 rfl) ?_
    refine lv_iload_n C0.hx C0.hb dX6_readDoor_57 rfl (lv_at hl 0 rfl) ?_
    refine lv_icmp_eq (tgt := 73) C0.hx C0.hb dX6_readDoor_58 (by decide) (fun hc => ?_) (fun hc => ?_)
    · have h := (if_pos hc).symm.trans h
      exact w_X6_readDoor_b73 C0 hr hlocks a0 q8.1 q12.1 q12.2 _ _ _ hw (lv_sub hl [2, 1, 0] rfl) h
    · have h := (if_neg hc).symm.trans h
      refine lv_aload_n C0.hx C0.hb dX6_readDoor_61 rfl (lv_at hl 2 rfl) ?_
      obtain ⟨r23, hr23, h⟩ := Option.bind_eq_some_iff.mp h
      refine q_getR C0 hw hr23 rfl in_6 (by decide) kw_160 dX6_readDoor_62 ?_
      refine lv_iload_n C0.hx C0.hb dX6_readDoor_65 rfl (lv_at hl 1 rfl) ?_
      refine lv_iload_n C0.hx C0.hb dX6_readDoor_66 rfl (lv_at hl 0 rfl) ?_
      obtain ⟨c24, hc24, h⟩ := Option.bind_eq_some_iff.mp h
      obtain ⟨v25, hv25, h⟩ := Option.bind_eq_some_iff.mp h
      refine q_callV (n := 2) (av := [.int q8.1, .int q12.1]) (rest := []) (st1 := [.int v25]) C0 hw (m_X2_hasDoor l b0 D cy q12.2 r23 q8.1 q12.1 hv25) hc24 rfl (by decide) (goodV kw_449 kw_450 kw_451 kw_65 kw_452) ⟨rfl, rfl⟩ (by decide +kernel) ⟨(Nat.le_of_ble_eq_true rfl), (Nat.le_of_ble_eq_true rfl)⟩ rfl hl.1 rfl (Nat.le_of_ble_eq_true rfl) dX6_readDoor_67 ⟨Nat.zero_le _, Nat.zero_le _⟩ rfl (fun H locs hw => ?_)
      refine lv_if_eq (tgt := 82) C0.hx C0.hb dX6_readDoor_70 (by decide) (fun hc => ?_) (fun hc => ?_)
      · have h := (if_pos hc).symm.trans h
        exact w_X6_readDoor_b82 C0 hr hlocks a0 q8.1 q12.1 q12.2 _ _ _ hw (lv_sub hl [2, 1, 0] rfl) h
      · have h := (if_neg hc).symm.trans h
        exact w_X6_readDoor_b73 C0 hr hlocks a0 q8.1 q12.1 q12.2 _ _ _ hw (lv_sub hl [2, 1, 0] rfl) h
set_option maxHeartbeats 4000000 in
set_option maxRecDepth 100000 in
theorem m_X6_readDoor (l : Launch) (b0 : Nat) (D : va_G) (cy : Nat → ClassId) (S : Mem) (a0 : Nat) {q : Mem} (h : f_X6_readDoor a0 S = some q) : Met l yX6_readDoor [.code yX6_readDoor cX6_readDoor 3 (none)] rm_X6_readDoor (Pr b0 D cy S [.ref (b0 + a0)]) (Qp b0 D cy none q) 0 0 (fun q => b0 ≤ q) := by
  refine Met.ofW (cc := cX6_readDoor) (maxL := 3) (ret := none) (by decide) rfl ?_
  intro p e s m args below meth c s₁ B hml hv
  obtain ⟨rfl, hP, hK, hT⟩ := hv
  have C0 : Cx p m c cX6_readDoor 3 s (List.toArray [.ref (b0 + a0)]) RX6 D cy := ⟨⟨B.exec, B.bytes, hml, findClass_of_methodNamed B.named, fun w h => hT w h _⟩, hK, hT⟩
  have hr : meth.sig.returnType = none := B.returns
  have hlocks := B.notSynchronized
  have hw : Wd b0 D cy S s.heap s.heap [] := ⟨hP, va_S.rf⟩
  have hl := lv_entry ([.ref (b0 + a0)]) (n := 3) (Nat.le_of_ble_eq_true rfl)
  rw [lg_entry_eq]
  generalize (lg_sl ([.ref (b0 + a0)]) ++ List.replicate (3 - (lg_sl ([.ref (b0 + a0)])).length) Slot.unset).toArray = ls at hl ⊢
  have hl : lv_has ls 3 [(0, .ref (b0 + a0))] := hl
  rw [f_X6_readDoor] at h
  show W p l e rm_X6_readDoor s m _ below meth c s.heap [] 0 0 _ _
  refine lv_aload_n C0.hx C0.hb dX6_readDoor_0 rfl (lv_at hl 0 rfl) ?_
  refine lv_aload_n C0.hx C0.hb dX6_readDoor_1 rfl (lv_at hl 0 rfl) ?_
  obtain ⟨r1, hr1, h⟩ := Option.bind_eq_some_iff.mp h
  refine q_getR C0 hw hr1 rfl in_6 (by decide) kw_160 dX6_readDoor_2 ?_
  obtain ⟨v2, hv2, h⟩ := Option.bind_eq_some_iff.mp h
  refine q_getI C0 hw hv2 rfl in_2 (by decide) kw_110 dX6_readDoor_5 ?_
  refine lv_bipush (v := (12 : Int32)) C0.hx C0.hb dX6_readDoor_8 (by decide) ?_
  refine lv_icmp_lt (tgt := 17) C0.hx C0.hb dX6_readDoor_10 (by decide) (fun hc => ?_) (fun hc => ?_)
  · have h := (if_pos hc).symm.trans h
    refine lv_iconst (v := (0 : Int32)) C0.hx C0.hb dX6_readDoor_17 (by decide) ?_
    exact w_X6_readDoor_b18 C0 hr hlocks a0 (0 : Int32) a0 S _ _ _ hw (lv_sub hl [0] rfl) h
  · have h := (if_neg hc).symm.trans h
    refine lv_iconst (v := (1 : Int32)) C0.hx C0.hb dX6_readDoor_13 (by decide) ?_
    refine lv_goto (tgt := 18) C0.hx C0.hb dX6_readDoor_14 (by decide) ?_
    exact w_X6_readDoor_b18 C0 hr hlocks a0 (1 : Int32) a0 S _ _ _ hw (lv_sub hl [0] rfl) h
abbrev rm_X6_readPetition : Room := { frames := 2, cells := 0, slots := 0, locals := 45 }
def f_X6_readPetition_b18 (a0 : Nat) (t0 : Int32) (t1 : Nat) (S : Mem) : Option Mem :=
    (ck 6 S t1).bind fun c3 =>
      (f_X6_readWord t1 t0 S).bind fun S4 =>
      (gR 6 3 S4 a0).bind fun r5 =>
      (gI 2 2 S4 r5).bind fun v6 =>
      (ck 6 S4 a0).bind fun c7 =>
      (f_X6_readNumber a0 (v6 - (1 : Int32)) S4).bind fun q8 =>
      (ck 6 q8.2 a0).bind fun c9 =>
      (f_X6_readNumber a0 (99 : Int32) q8.2).bind fun q10 =>
      (ck 6 q10.2 a0).bind fun c11 =>
      (f_X6_readEnd a0 q10.2).bind fun S12 =>
      (gI 6 1 S12 a0).bind fun v13 =>
      (if v13 = (0 : Int32) then
      (gR 6 3 S12 a0).bind fun r14 =>
      (ck 2 S12 r14).bind fun c15 =>
      (f_X2_addPetition r14 q8.1 q10.1 S12).bind fun S16 =>
      some S16
      else
      some S12)
def f_X6_readPetition (a0 : Nat) (S : Mem) : Option Mem :=
    (gR 6 3 S a0).bind fun r1 =>
      (gI 2 4 S r1).bind fun v2 =>
      (if v2 < (6 : Int32) then
      f_X6_readPetition_b18 a0 (0 : Int32) a0 S
      else
      f_X6_readPetition_b18 a0 (1 : Int32) a0 S)
set_option maxHeartbeats 4000000 in
set_option maxRecDepth 100000 in
theorem w_X6_readPetition_b18 {p : Program} {l : Launch} {e : Env} {s : State} {m : MethodId} {args : Array Value} {below : List Frame} {meth : Method} {c : Code} {b0 : Nat} {D : va_G} {cy : Nat → ClassId} {q : Mem} (C0 : Cx p m c cX6_readPetition 3 s args RX6 D cy) (hr : meth.sig.returnType = none) (hlocks : meth.locks = false) : ∀ (a0 : Nat) (t0 : Int32) (t1 : Nat) (S : Mem) (H : Heap) (locs : List Loc) (ls : Array Slot), Wd b0 D cy S s.heap H locs → lv_has ls 3 [(0, .ref (b0 + a0))] → f_X6_readPetition_b18  a0 t0 t1 S = some q → W p l e rm_X6_readPetition s m args below meth c H locs 0 0 (MQ below (Qp b0 D cy none q) args s 0 0 (fun q => b0 ≤ q)) (F0 m 18 ls [.int t0, .ref (b0 + t1)]) := by
  intro a0 t0 t1 S H locs ls hw hl h
  rw [f_X6_readPetition_b18] at h
  obtain ⟨c3, hc3, h⟩ := Option.bind_eq_some_iff.mp h
  obtain ⟨S4, hS4, h⟩ := Option.bind_eq_some_iff.mp h
  refine q_callV (n := 1) (av := [.int t0]) (rest := []) (st1 := []) C0 hw (m_X6_readWord l b0 D cy S t1 t0 hS4) hc3 rfl (by decide) (goodV kw_419 kw_421 kw_4 kw_64 kw_422) ⟨rfl, rfl⟩ (by decide +kernel) ⟨(Nat.le_of_ble_eq_true rfl), (Nat.le_of_ble_eq_true rfl)⟩ rfl hl.1 rfl (Nat.le_of_ble_eq_true rfl) dX6_readPetition_18 ⟨Nat.zero_le _, Nat.zero_le _⟩ rfl (fun H locs hw => ?_)
  refine lv_aload_n C0.hx C0.hb dX6_readPetition_21 rfl (lv_at hl 0 rfl) ?_
  refine lv_aload_n C0.hx C0.hb dX6_readPetition_22 rfl (lv_at hl 0 rfl) ?_
  obtain ⟨r5, hr5, h⟩ := Option.bind_eq_some_iff.mp h
  refine q_getR C0 hw hr5 rfl in_6 (by decide) kw_160 dX6_readPetition_23 ?_
  obtain ⟨v6, hv6, h⟩ := Option.bind_eq_some_iff.mp h
  refine q_getI C0 hw hv6 rfl in_2 (by decide) kw_106 dX6_readPetition_26 ?_
  refine lv_iconst (v := (1 : Int32)) C0.hx C0.hb dX6_readPetition_29 (by decide) ?_
  refine lv_isub C0.hx C0.hb dX6_readPetition_30 ?_
  obtain ⟨c7, hc7, h⟩ := Option.bind_eq_some_iff.mp h
  obtain ⟨q8, hq8, h⟩ := Option.bind_eq_some_iff.mp h
  refine q_callV (n := 1) (av := [.int (v6 - (1 : Int32))]) (rest := []) (st1 := [.int q8.1]) C0 hw (m_X6_readNumber l b0 D cy S4 a0 (v6 - (1 : Int32)) hq8) hc7 rfl (by decide) (goodV kw_423 kw_425 kw_5 kw_64 kw_426) ⟨rfl, rfl⟩ (by decide +kernel) ⟨(Nat.le_of_ble_eq_true rfl), (Nat.le_of_ble_eq_true rfl)⟩ rfl hl.1 rfl (Nat.le_of_ble_eq_true rfl) dX6_readPetition_31 ⟨Nat.zero_le _, Nat.zero_le _⟩ rfl (fun H locs hw => ?_)
  refine lv_istore_n (lv' := [(1, .int q8.1), (0, .ref (b0 + a0))]) C0.hx C0.hb dX6_readPetition_34 rfl hl (by decide) rfl (fun ls hl => ?_)
  refine lv_aload_n C0.hx C0.hb dX6_readPetition_35 rfl (lv_at hl 1 rfl) ?_
  refine lv_bipush (v := (99 : Int32)) C0.hx C0.hb dX6_readPetition_36 (by decide) ?_
  obtain ⟨c9, hc9, h⟩ := Option.bind_eq_some_iff.mp h
  obtain ⟨q10, hq10, h⟩ := Option.bind_eq_some_iff.mp h
  refine q_callV (n := 1) (av := [.int (99 : Int32)]) (rest := []) (st1 := [.int q10.1]) C0 hw (m_X6_readNumber l b0 D cy q8.2 a0 (99 : Int32) hq10) hc9 rfl (by decide) (goodV kw_423 kw_425 kw_5 kw_64 kw_426) ⟨rfl, rfl⟩ (by decide +kernel) ⟨(Nat.le_of_ble_eq_true rfl), (Nat.le_of_ble_eq_true rfl)⟩ rfl hl.1 rfl (Nat.le_of_ble_eq_true rfl) dX6_readPetition_38 ⟨Nat.zero_le _, Nat.zero_le _⟩ rfl (fun H locs hw => ?_)
  refine lv_istore_n (lv' := [(2, .int q10.1), (1, .int q8.1), (0, .ref (b0 + a0))]) C0.hx C0.hb dX6_readPetition_41 rfl hl (by decide) rfl (fun ls hl => ?_)
  refine lv_aload_n C0.hx C0.hb dX6_readPetition_42 rfl (lv_at hl 2 rfl) ?_
  obtain ⟨c11, hc11, h⟩ := Option.bind_eq_some_iff.mp h
  obtain ⟨S12, hS12, h⟩ := Option.bind_eq_some_iff.mp h
  refine q_callV (n := 0) (av := []) (rest := []) (st1 := []) C0 hw (m_X6_readEnd l b0 D cy q10.2 a0 hS12) hc11 rfl (by decide) (goodV kw_427 kw_429 kw_6 kw_64 kw_430) ⟨rfl, rfl⟩ (by decide +kernel) ⟨(Nat.le_of_ble_eq_true rfl), (Nat.le_of_ble_eq_true rfl)⟩ rfl hl.1 rfl (Nat.le_of_ble_eq_true rfl) dX6_readPetition_43 ⟨Nat.zero_le _, Nat.zero_le _⟩ rfl (fun H locs hw => ?_)
  refine lv_aload_n C0.hx C0.hb dX6_readPetition_46 rfl (lv_at hl 2 rfl) ?_
  obtain ⟨v13, hv13, h⟩ := Option.bind_eq_some_iff.mp h
  refine q_getI C0 hw hv13 rfl in_6 (by decide) kw_156 dX6_readPetition_47 ?_
  refine lv_if_ne (tgt := 62) C0.hx C0.hb dX6_readPetition_50 (by decide) (fun hc => ?_) (fun hc => ?_)
  · have h := (if_neg hc).symm.trans h
    obtain rfl := Option.some.inj h
    exact q_retv C0 hw hr hlocks dX6_readPetition_62
  · have h := (if_pos hc).symm.trans h
    refine lv_aload_n C0.hx C0.hb dX6_readPetition_53 rfl (lv_at hl 2 rfl) ?_
    obtain ⟨r14, hr14, h⟩ := Option.bind_eq_some_iff.mp h
    refine q_getR C0 hw hr14 rfl in_6 (by decide) kw_160 dX6_readPetition_54 ?_
    refine lv_iload_n C0.hx C0.hb dX6_readPetition_57 rfl (lv_at hl 1 rfl) ?_
    refine lv_iload_n C0.hx C0.hb dX6_readPetition_58 rfl (lv_at hl 0 rfl) ?_
    obtain ⟨c15, hc15, h⟩ := Option.bind_eq_some_iff.mp h
    obtain ⟨S16, hS16, h⟩ := Option.bind_eq_some_iff.mp h
    refine q_callV (n := 2) (av := [.int q8.1, .int q10.1]) (rest := []) (st1 := []) C0 hw (m_X2_addPetition l b0 D cy S12 r14 q8.1 q10.1 hS16) hc15 rfl (by decide) (goodV kw_461 kw_462 kw_463 kw_65 kw_464) ⟨rfl, rfl⟩ (by decide +kernel) ⟨(Nat.le_of_ble_eq_true rfl), (Nat.le_of_ble_eq_true rfl)⟩ rfl hl.1 rfl (Nat.le_of_ble_eq_true rfl) dX6_readPetition_59 ⟨Nat.zero_le _, Nat.zero_le _⟩ rfl (fun H locs hw => ?_)
    obtain rfl := Option.some.inj h
    exact q_retv C0 hw hr hlocks dX6_readPetition_62
set_option maxHeartbeats 4000000 in
set_option maxRecDepth 100000 in
theorem m_X6_readPetition (l : Launch) (b0 : Nat) (D : va_G) (cy : Nat → ClassId) (S : Mem) (a0 : Nat) {q : Mem} (h : f_X6_readPetition a0 S = some q) : Met l yX6_readPetition [.code yX6_readPetition cX6_readPetition 3 (none)] rm_X6_readPetition (Pr b0 D cy S [.ref (b0 + a0)]) (Qp b0 D cy none q) 0 0 (fun q => b0 ≤ q) := by
  refine Met.ofW (cc := cX6_readPetition) (maxL := 3) (ret := none) (by decide) rfl ?_
  intro p e s m args below meth c s₁ B hml hv
  obtain ⟨rfl, hP, hK, hT⟩ := hv
  have C0 : Cx p m c cX6_readPetition 3 s (List.toArray [.ref (b0 + a0)]) RX6 D cy := ⟨⟨B.exec, B.bytes, hml, findClass_of_methodNamed B.named, fun w h => hT w h _⟩, hK, hT⟩
  have hr : meth.sig.returnType = none := B.returns
  have hlocks := B.notSynchronized
  have hw : Wd b0 D cy S s.heap s.heap [] := ⟨hP, va_S.rf⟩
  have hl := lv_entry ([.ref (b0 + a0)]) (n := 3) (Nat.le_of_ble_eq_true rfl)
  rw [lg_entry_eq]
  generalize (lg_sl ([.ref (b0 + a0)]) ++ List.replicate (3 - (lg_sl ([.ref (b0 + a0)])).length) Slot.unset).toArray = ls at hl ⊢
  have hl : lv_has ls 3 [(0, .ref (b0 + a0))] := hl
  rw [f_X6_readPetition] at h
  show W p l e rm_X6_readPetition s m _ below meth c s.heap [] 0 0 _ _
  refine lv_aload_n C0.hx C0.hb dX6_readPetition_0 rfl (lv_at hl 0 rfl) ?_
  refine lv_aload_n C0.hx C0.hb dX6_readPetition_1 rfl (lv_at hl 0 rfl) ?_
  obtain ⟨r1, hr1, h⟩ := Option.bind_eq_some_iff.mp h
  refine q_getR C0 hw hr1 rfl in_6 (by decide) kw_160 dX6_readPetition_2 ?_
  obtain ⟨v2, hv2, h⟩ := Option.bind_eq_some_iff.mp h
  refine q_getI C0 hw hv2 rfl in_2 (by decide) kw_114 dX6_readPetition_5 ?_
  refine lv_bipush (v := (6 : Int32)) C0.hx C0.hb dX6_readPetition_8 (by decide) ?_
  refine lv_icmp_lt (tgt := 17) C0.hx C0.hb dX6_readPetition_10 (by decide) (fun hc => ?_) (fun hc => ?_)
  · have h := (if_pos hc).symm.trans h
    refine lv_iconst (v := (0 : Int32)) C0.hx C0.hb dX6_readPetition_17 (by decide) ?_
    exact w_X6_readPetition_b18 C0 hr hlocks a0 (0 : Int32) a0 S _ _ _ hw (lv_sub hl [0] rfl) h
  · have h := (if_neg hc).symm.trans h
    refine lv_iconst (v := (1 : Int32)) C0.hx C0.hb dX6_readPetition_13 (by decide) ?_
    refine lv_goto (tgt := 18) C0.hx C0.hb dX6_readPetition_14 (by decide) ?_
    exact w_X6_readPetition_b18 C0 hr hlocks a0 (1 : Int32) a0 S _ _ _ hw (lv_sub hl [0] rfl) h
abbrev rm_X6_readClause : Room := { frames := 3, cells := 0, slots := 0, locals := 67 }
def f_X6_readClause_b36 (a0 : Nat) (x1 : Int32) (S : Mem) : Option Mem :=
    (if x1 = (100 : Int32) then
      (ck 6 S a0).bind fun c6 =>
      (f_X6_readDoor a0 S).bind fun S7 =>
      some S7
      else
      if x1 = (112 : Int32) then
      (ck 6 S a0).bind fun c8 =>
      (f_X6_readPetition a0 S).bind fun S9 =>
      some S9
      else
      if x1 = (114 : Int32) then
      (ck 6 S a0).bind fun c10 =>
      (f_X6_readRoom a0 S).bind fun S11 =>
      some S11
      else
      if x1 = (115 : Int32) then
      (ck 6 S a0).bind fun c12 =>
      (f_X6_readRule a0 S).bind fun S13 =>
      some S13
      else
      ((gI 6 5 S a0).bind fun v14 =>
      (ck 6 S a0).bind fun c15 =>
      (f_X6_noteFault a0 (1 : Int32) v14 S).bind fun S16 =>
      some S16))
def f_X6_readClause (a0 : Nat) (S : Mem) : Option Mem :=
    (gR 6 4 S a0).bind fun r1 =>
      (gI 6 5 S a0).bind fun v2 =>
      (ldI S r1 v2).bind fun v3 =>
      (gR 6 3 S a0).bind fun r4 =>
      (gI 2 0 S r4).bind fun v5 =>
      (if v5 = (0 : Int32) then
      (if v3 = (115 : Int32) then
      f_X6_readClause_b36 a0 v3 S
      else
      (gI 6 5 S a0).bind fun v17 =>
      (ck 6 S a0).bind fun c18 =>
      (f_X6_noteFault a0 (1 : Int32) v17 S).bind fun S19 =>
      some S19)
      else
      f_X6_readClause_b36 a0 v3 S)
set_option maxHeartbeats 4000000 in
set_option maxRecDepth 100000 in
theorem w_X6_readClause_b36 {p : Program} {l : Launch} {e : Env} {s : State} {m : MethodId} {args : Array Value} {below : List Frame} {meth : Method} {c : Code} {b0 : Nat} {D : va_G} {cy : Nat → ClassId} {q : Mem} (C0 : Cx p m c cX6_readClause 2 s args RX6 D cy) (hr : meth.sig.returnType = none) (hlocks : meth.locks = false) : ∀ (a0 : Nat) (x1 : Int32) (S : Mem) (H : Heap) (locs : List Loc) (ls : Array Slot), Wd b0 D cy S s.heap H locs → lv_has ls 2 [(0, .ref (b0 + a0)), (1, .int x1)] → f_X6_readClause_b36  a0 x1 S = some q → W p l e rm_X6_readClause s m args below meth c H locs 0 0 (MQ below (Qp b0 D cy none q) args s 0 0 (fun q => b0 ≤ q)) (F0 m 36 ls []) := by
  intro a0 x1 S H locs ls hw hl h
  rw [f_X6_readClause_b36] at h
  refine lv_iload_n C0.hx C0.hb dX6_readClause_36 rfl (lv_at hl 1 rfl) ?_
  by_cases hc100 : x1 = (100 : Int32)
  · have h := (if_pos hc100).symm.trans h
    refine lv_lookup (off := 57) (tgt := 94) C0.hx C0.hb dX6_readClause_37 (by decide) (by rw [hc100]; decide) (by decide) ?_
    refine lv_aload_n C0.hx C0.hb dX6_readClause_94 rfl (lv_at hl 0 rfl) ?_
    obtain ⟨c6, hc6, h⟩ := Option.bind_eq_some_iff.mp h
    obtain ⟨S7, hS7, h⟩ := Option.bind_eq_some_iff.mp h
    refine q_callV (n := 0) (av := []) (rest := []) (st1 := []) C0 hw (m_X6_readDoor l b0 D cy S a0 hS7) hc6 rfl (by decide) (goodV kw_445 kw_447 kw_8 kw_64 kw_448) ⟨rfl, rfl⟩ (by decide +kernel) ⟨(Nat.le_of_ble_eq_true rfl), (Nat.le_of_ble_eq_true rfl)⟩ rfl hl.1 rfl (Nat.le_of_ble_eq_true rfl) dX6_readClause_95 ⟨Nat.zero_le _, Nat.zero_le _⟩ rfl (fun H locs hw => ?_)
    refine lv_goto (tgt := 117) C0.hx C0.hb dX6_readClause_98 (by decide) ?_
    obtain rfl := Option.some.inj h
    exact q_retv C0 hw hr hlocks dX6_readClause_117
  · have h := (if_neg hc100).symm.trans h
    by_cases hc112 : x1 = (112 : Int32)
    · have h := (if_pos hc112).symm.trans h
      refine lv_lookup (off := 64) (tgt := 101) C0.hx C0.hb dX6_readClause_37 (by decide) (by rw [hc112]; decide) (by decide) ?_
      refine lv_aload_n C0.hx C0.hb dX6_readClause_101 rfl (lv_at hl 0 rfl) ?_
      obtain ⟨c8, hc8, h⟩ := Option.bind_eq_some_iff.mp h
      obtain ⟨S9, hS9, h⟩ := Option.bind_eq_some_iff.mp h
      refine q_callV (n := 0) (av := []) (rest := []) (st1 := []) C0 hw (m_X6_readPetition l b0 D cy S a0 hS9) hc8 rfl (by decide) (goodV kw_457 kw_459 kw_9 kw_64 kw_460) ⟨rfl, rfl⟩ (by decide +kernel) ⟨(Nat.le_of_ble_eq_true rfl), (Nat.le_of_ble_eq_true rfl)⟩ rfl hl.1 rfl (Nat.le_of_ble_eq_true rfl) dX6_readClause_102 ⟨Nat.zero_le _, Nat.zero_le _⟩ rfl (fun H locs hw => ?_)
      refine lv_goto (tgt := 117) C0.hx C0.hb dX6_readClause_105 (by decide) ?_
      obtain rfl := Option.some.inj h
      exact q_retv C0 hw hr hlocks dX6_readClause_117
    · have h := (if_neg hc112).symm.trans h
      by_cases hc114 : x1 = (114 : Int32)
      · have h := (if_pos hc114).symm.trans h
        refine lv_lookup (off := 50) (tgt := 87) C0.hx C0.hb dX6_readClause_37 (by decide) (by rw [hc114]; decide) (by decide) ?_
        refine lv_aload_n C0.hx C0.hb dX6_readClause_87 rfl (lv_at hl 0 rfl) ?_
        obtain ⟨c10, hc10, h⟩ := Option.bind_eq_some_iff.mp h
        obtain ⟨S11, hS11, h⟩ := Option.bind_eq_some_iff.mp h
        refine q_callV (n := 0) (av := []) (rest := []) (st1 := []) C0 hw (m_X6_readRoom l b0 D cy S a0 hS11) hc10 rfl (by decide) (goodV kw_431 kw_433 kw_7 kw_64 kw_434) ⟨rfl, rfl⟩ (by decide +kernel) ⟨(Nat.le_of_ble_eq_true rfl), (Nat.le_of_ble_eq_true rfl)⟩ rfl hl.1 rfl (Nat.le_of_ble_eq_true rfl) dX6_readClause_88 ⟨Nat.zero_le _, Nat.zero_le _⟩ rfl (fun H locs hw => ?_)
        refine lv_goto (tgt := 117) C0.hx C0.hb dX6_readClause_91 (by decide) ?_
        obtain rfl := Option.some.inj h
        exact q_retv C0 hw hr hlocks dX6_readClause_117
      · have h := (if_neg hc114).symm.trans h
        by_cases hc115 : x1 = (115 : Int32)
        · have h := (if_pos hc115).symm.trans h
          refine lv_lookup (off := 43) (tgt := 80) C0.hx C0.hb dX6_readClause_37 (by decide) (by rw [hc115]; decide) (by decide) ?_
          refine lv_aload_n C0.hx C0.hb dX6_readClause_80 rfl (lv_at hl 0 rfl) ?_
          obtain ⟨c12, hc12, h⟩ := Option.bind_eq_some_iff.mp h
          obtain ⟨S13, hS13, h⟩ := Option.bind_eq_some_iff.mp h
          refine q_callV (n := 0) (av := []) (rest := []) (st1 := []) C0 hw (m_X6_readRule l b0 D cy S a0 hS13) hc12 rfl (by decide) (goodV kw_415 kw_417 kw_3 kw_64 kw_418) ⟨rfl, rfl⟩ (by decide +kernel) ⟨(Nat.le_of_ble_eq_true rfl), (Nat.le_of_ble_eq_true rfl)⟩ rfl hl.1 rfl (Nat.le_of_ble_eq_true rfl) dX6_readClause_81 ⟨Nat.zero_le _, Nat.zero_le _⟩ rfl (fun H locs hw => ?_)
          refine lv_goto (tgt := 117) C0.hx C0.hb dX6_readClause_84 (by decide) ?_
          obtain rfl := Option.some.inj h
          exact q_retv C0 hw hr hlocks dX6_readClause_117
        · have h := (if_neg hc115).symm.trans h
          refine lv_lookup (off := 71) (tgt := 108) C0.hx C0.hb dX6_readClause_37 (by decide) (by dsimp only; rw [lv_osw hc100 (by decide)]; rw [lv_osw hc112 (by decide)]; rw [lv_osw hc114 (by decide)]; rw [lv_osw hc115 (by decide)]; rfl) (by decide) ?_
          refine lv_aload_n C0.hx C0.hb dX6_readClause_108 rfl (lv_at hl 0 rfl) ?_
          refine lv_iconst (v := (1 : Int32)) C0.hx C0.hb dX6_readClause_109 (by decide) ?_
          refine lv_aload_n C0.hx C0.hb dX6_readClause_110 rfl (lv_at hl 0 rfl) ?_
          obtain ⟨v14, hv14, h⟩ := Option.bind_eq_some_iff.mp h
          refine q_getI C0 hw hv14 rfl in_6 (by decide) kw_163 dX6_readClause_111 ?_
          obtain ⟨c15, hc15, h⟩ := Option.bind_eq_some_iff.mp h
          obtain ⟨S16, hS16, h⟩ := Option.bind_eq_some_iff.mp h
          refine q_callV (n := 2) (av := [.int (1 : Int32), .int v14]) (rest := []) (st1 := []) C0 hw (m_X6_noteFault l b0 D cy S a0 (1 : Int32) v14 hS16) hc15 rfl (by decide) (goodV kw_411 kw_413 kw_2 kw_64 kw_414) ⟨rfl, rfl⟩ (by decide +kernel) ⟨(Nat.le_of_ble_eq_true rfl), (Nat.le_of_ble_eq_true rfl)⟩ rfl hl.1 rfl (Nat.le_of_ble_eq_true rfl) dX6_readClause_114 ⟨Nat.zero_le _, Nat.zero_le _⟩ rfl (fun H locs hw => ?_)
          obtain rfl := Option.some.inj h
          exact q_retv C0 hw hr hlocks dX6_readClause_117
set_option maxHeartbeats 4000000 in
set_option maxRecDepth 100000 in
theorem m_X6_readClause (l : Launch) (b0 : Nat) (D : va_G) (cy : Nat → ClassId) (S : Mem) (a0 : Nat) {q : Mem} (h : f_X6_readClause a0 S = some q) : Met l yX6_readClause [.code yX6_readClause cX6_readClause 2 (none)] rm_X6_readClause (Pr b0 D cy S [.ref (b0 + a0)]) (Qp b0 D cy none q) 0 0 (fun q => b0 ≤ q) := by
  refine Met.ofW (cc := cX6_readClause) (maxL := 2) (ret := none) (by decide) rfl ?_
  intro p e s m args below meth c s₁ B hml hv
  obtain ⟨rfl, hP, hK, hT⟩ := hv
  have C0 : Cx p m c cX6_readClause 2 s (List.toArray [.ref (b0 + a0)]) RX6 D cy := ⟨⟨B.exec, B.bytes, hml, findClass_of_methodNamed B.named, fun w h => hT w h _⟩, hK, hT⟩
  have hr : meth.sig.returnType = none := B.returns
  have hlocks := B.notSynchronized
  have hw : Wd b0 D cy S s.heap s.heap [] := ⟨hP, va_S.rf⟩
  have hl := lv_entry ([.ref (b0 + a0)]) (n := 2) (Nat.le_of_ble_eq_true rfl)
  rw [lg_entry_eq]
  generalize (lg_sl ([.ref (b0 + a0)]) ++ List.replicate (2 - (lg_sl ([.ref (b0 + a0)])).length) Slot.unset).toArray = ls at hl ⊢
  have hl : lv_has ls 2 [(0, .ref (b0 + a0))] := hl
  rw [f_X6_readClause] at h
  show W p l e rm_X6_readClause s m _ below meth c s.heap [] 0 0 _ _
  refine lv_aload_n C0.hx C0.hb dX6_readClause_0 rfl (lv_at hl 0 rfl) ?_
  obtain ⟨r1, hr1, h⟩ := Option.bind_eq_some_iff.mp h
  refine q_getR C0 hw hr1 rfl in_6 (by decide) kw_162 dX6_readClause_1 ?_
  refine lv_aload_n C0.hx C0.hb dX6_readClause_4 rfl (lv_at hl 0 rfl) ?_
  obtain ⟨v2, hv2, h⟩ := Option.bind_eq_some_iff.mp h
  refine q_getI C0 hw hv2 rfl in_6 (by decide) kw_163 dX6_readClause_5 ?_
  obtain ⟨v3, hv3, h⟩ := Option.bind_eq_some_iff.mp h
  refine q_ldI C0 hw hv3 dX6_readClause_8 ?_
  refine lv_istore_n (lv' := [(1, .int v3), (0, .ref (b0 + a0))]) C0.hx C0.hb dX6_readClause_9 rfl hl (by decide) rfl (fun ls hl => ?_)
  refine lv_aload_n C0.hx C0.hb dX6_readClause_10 rfl (lv_at hl 1 rfl) ?_
  obtain ⟨r4, hr4, h⟩ := Option.bind_eq_some_iff.mp h
  refine q_getR C0 hw hr4 rfl in_6 (by decide) kw_160 dX6_readClause_11 ?_
  obtain ⟨v5, hv5, h⟩ := Option.bind_eq_some_iff.mp h
  refine q_getI C0 hw hv5 rfl in_2 (by decide) kw_99 dX6_readClause_14 ?_
  refine lv_if_ne (tgt := 36) C0.hx C0.hb dX6_readClause_17 (by decide) (fun hc => ?_) (fun hc => ?_)
  · have h := (if_neg hc).symm.trans h
    exact w_X6_readClause_b36 C0 hr hlocks a0 v3 S _ _ _ hw (lv_sub hl [1, 0] rfl) h
  · have h := (if_pos hc).symm.trans h
    refine lv_iload_n C0.hx C0.hb dX6_readClause_20 rfl (lv_at hl 0 rfl) ?_
    refine lv_bipush (v := (115 : Int32)) C0.hx C0.hb dX6_readClause_21 (by decide) ?_
    refine lv_icmp_eq (tgt := 36) C0.hx C0.hb dX6_readClause_23 (by decide) (fun hc => ?_) (fun hc => ?_)
    · have h := (if_pos hc).symm.trans h
      exact w_X6_readClause_b36 C0 hr hlocks a0 v3 S _ _ _ hw (lv_sub hl [1, 0] rfl) h
    · have h := (if_neg hc).symm.trans h
      refine lv_aload_n C0.hx C0.hb dX6_readClause_26 rfl (lv_at hl 1 rfl) ?_
      refine lv_iconst (v := (1 : Int32)) C0.hx C0.hb dX6_readClause_27 (by decide) ?_
      refine lv_aload_n C0.hx C0.hb dX6_readClause_28 rfl (lv_at hl 1 rfl) ?_
      obtain ⟨v17, hv17, h⟩ := Option.bind_eq_some_iff.mp h
      refine q_getI C0 hw hv17 rfl in_6 (by decide) kw_163 dX6_readClause_29 ?_
      obtain ⟨c18, hc18, h⟩ := Option.bind_eq_some_iff.mp h
      obtain ⟨S19, hS19, h⟩ := Option.bind_eq_some_iff.mp h
      refine q_callV (n := 2) (av := [.int (1 : Int32), .int v17]) (rest := []) (st1 := []) C0 hw (m_X6_noteFault l b0 D cy S a0 (1 : Int32) v17 hS19) hc18 rfl (by decide) (goodV kw_411 kw_413 kw_2 kw_64 kw_414) ⟨rfl, rfl⟩ (by decide +kernel) ⟨(Nat.le_of_ble_eq_true rfl), (Nat.le_of_ble_eq_true rfl)⟩ rfl hl.1 rfl (Nat.le_of_ble_eq_true rfl) dX6_readClause_32 ⟨Nat.zero_le _, Nat.zero_le _⟩ rfl (fun H locs hw => ?_)
      obtain rfl := Option.some.inj h
      exact q_retv C0 hw hr hlocks dX6_readClause_35
abbrev rm_X6_read : Room := { frames := 4, cells := 0, slots := 0, locals := 88 }
def f_X6_read_b28 : Nat → Nat → Int32 → Mem → Option Mem
  | 0, _, _, _ => none
  | n + 1, a0, x1, S =>
    (if (240 : Int32) ≤ x1 then
      some S
      else
      (gI 6 5 S a0).bind fun v9 =>
      (gI 6 0 S a0).bind fun v10 =>
      (if v10 ≤ v9 then
      some S
      else
      (gI 6 1 S a0).bind fun v11 =>
      (if v11 = (0 : Int32) then
      (ck 6 S a0).bind fun c12 =>
      (f_X6_readClause a0 S).bind fun S13 =>
      (ck 6 S13 a0).bind fun c14 =>
      (f_X6_skipBlanks a0 S13).bind fun S15 =>
      (some (x1 + (1 : Int32))).bind fun v16 =>
      f_X6_read_b28  n a0 v16 S15
      else
      some S)))
def f_X6_read (a0 : Nat) (S : Mem) : Option Mem :=
    (pI 6 5 S a0 (0 : Int32)).bind fun S1 =>
      (pI 6 1 S1 a0 (0 : Int32)).bind fun S2 =>
      (pI 6 2 S2 a0 (-1 : Int32)).bind fun S3 =>
      (gR 6 3 S3 a0).bind fun r4 =>
      (ck 2 S3 r4).bind fun c5 =>
      (f_X2_clear r4 S3).bind fun S6 =>
      (ck 6 S6 a0).bind fun c7 =>
      (f_X6_skipBlanks a0 S6).bind fun S8 =>
      f_X6_read_b28 FU a0 (0 : Int32) S8
set_option maxHeartbeats 4000000 in
set_option maxRecDepth 100000 in
theorem w_X6_read_b28 {p : Program} {l : Launch} {e : Env} {s : State} {m : MethodId} {args : Array Value} {below : List Frame} {meth : Method} {c : Code} {b0 : Nat} {D : va_G} {cy : Nat → ClassId} {q : Mem} (C0 : Cx p m c cX6_read 2 s args RX6 D cy) (hr : meth.sig.returnType = none) (hlocks : meth.locks = false) : ∀ (n : Nat) (a0 : Nat) (x1 : Int32) (S : Mem) (H : Heap) (locs : List Loc) (ls : Array Slot), Wd b0 D cy S s.heap H locs → lv_has ls 2 [(0, .ref (b0 + a0)), (1, .int x1)] → f_X6_read_b28  n a0 x1 S = some q → W p l e rm_X6_read s m args below meth c H locs 0 0 (MQ below (Qp b0 D cy none q) args s 0 0 (fun q => b0 ≤ q)) (F0 m 28 ls []) := by
  intro n
  induction n with
  | zero => intro a0 x1 S H locs ls hw hl h; exact absurd h (by simp [f_X6_read_b28])
  | succ n ih =>
    intro a0 x1 S H locs ls hw hl h
    rw [f_X6_read_b28] at h
    refine lv_iload_n C0.hx C0.hb dX6_read_28 rfl (lv_at hl 1 rfl) ?_
    refine lv_sipush (v := (240 : Int32)) C0.hx C0.hb dX6_read_29 (by decide) ?_
    refine lv_icmp_ge (tgt := 67) C0.hx C0.hb dX6_read_32 (by decide) (fun hc => ?_) (fun hc => ?_)
    · have h := (if_pos hc).symm.trans h
      obtain rfl := Option.some.inj h
      exact q_retv C0 hw hr hlocks dX6_read_67
    · have h := (if_neg hc).symm.trans h
      refine lv_aload_n C0.hx C0.hb dX6_read_35 rfl (lv_at hl 0 rfl) ?_
      obtain ⟨v9, hv9, h⟩ := Option.bind_eq_some_iff.mp h
      refine q_getI C0 hw hv9 rfl in_6 (by decide) kw_163 dX6_read_36 ?_
      refine lv_aload_n C0.hx C0.hb dX6_read_39 rfl (lv_at hl 0 rfl) ?_
      obtain ⟨v10, hv10, h⟩ := Option.bind_eq_some_iff.mp h
      refine q_getI C0 hw hv10 rfl in_6 (by decide) kw_154 dX6_read_40 ?_
      refine lv_icmp_ge (tgt := 67) C0.hx C0.hb dX6_read_43 (by decide) (fun hc => ?_) (fun hc => ?_)
      · have h := (if_pos hc).symm.trans h
        obtain rfl := Option.some.inj h
        exact q_retv C0 hw hr hlocks dX6_read_67
      · have h := (if_neg hc).symm.trans h
        refine lv_aload_n C0.hx C0.hb dX6_read_46 rfl (lv_at hl 0 rfl) ?_
        obtain ⟨v11, hv11, h⟩ := Option.bind_eq_some_iff.mp h
        refine q_getI C0 hw hv11 rfl in_6 (by decide) kw_156 dX6_read_47 ?_
        refine lv_if_ne (tgt := 67) C0.hx C0.hb dX6_read_50 (by decide) (fun hc => ?_) (fun hc => ?_)
        · have h := (if_neg hc).symm.trans h
          obtain rfl := Option.some.inj h
          exact q_retv C0 hw hr hlocks dX6_read_67
        · have h := (if_pos hc).symm.trans h
          refine lv_aload_n C0.hx C0.hb dX6_read_53 rfl (lv_at hl 0 rfl) ?_
          obtain ⟨c12, hc12, h⟩ := Option.bind_eq_some_iff.mp h
          obtain ⟨S13, hS13, h⟩ := Option.bind_eq_some_iff.mp h
          refine q_callV (n := 0) (av := []) (rest := []) (st1 := []) C0 hw (m_X6_readClause l b0 D cy S a0 hS13) hc12 rfl (by decide) (goodV kw_407 kw_409 kw_1 kw_64 kw_410) ⟨rfl, rfl⟩ (by decide +kernel) ⟨(Nat.le_of_ble_eq_true rfl), (Nat.le_of_ble_eq_true rfl)⟩ rfl hl.1 rfl (Nat.le_of_ble_eq_true rfl) dX6_read_54 ⟨Nat.zero_le _, Nat.zero_le _⟩ rfl (fun H locs hw => ?_)
          refine lv_aload_n C0.hx C0.hb dX6_read_57 rfl (lv_at hl 0 rfl) ?_
          obtain ⟨c14, hc14, h⟩ := Option.bind_eq_some_iff.mp h
          obtain ⟨S15, hS15, h⟩ := Option.bind_eq_some_iff.mp h
          refine q_callV (n := 0) (av := []) (rest := []) (st1 := []) C0 hw (m_X6_skipBlanks l b0 D cy S13 a0 hS15) hc14 rfl (by decide) (goodV kw_403 kw_405 kw_0 kw_64 kw_406) ⟨rfl, rfl⟩ (by decide +kernel) ⟨(Nat.le_of_ble_eq_true rfl), (Nat.le_of_ble_eq_true rfl)⟩ rfl hl.1 rfl (Nat.le_of_ble_eq_true rfl) dX6_read_58 ⟨Nat.zero_le _, Nat.zero_le _⟩ rfl (fun H locs hw => ?_)
          obtain ⟨v16, hv16, h⟩ := Option.bind_eq_some_iff.mp h
          refine lv_iinc (v := v16) (lv' := [(1, .int v16), (0, .ref (b0 + a0))]) C0.hx C0.hb dX6_read_61 hl (k := 1) rfl (by rw [← Option.some.inj hv16]; rfl) (by decide) rfl (fun ls hl => ?_)
          refine lv_goto (tgt := 28) C0.hx C0.hb dX6_read_64 (by decide) ?_
          exact ih a0 v16 S15 _ _ _ hw (lv_sub hl [1, 0] rfl) h
set_option maxHeartbeats 4000000 in
set_option maxRecDepth 100000 in
theorem m_X6_read (l : Launch) (b0 : Nat) (D : va_G) (cy : Nat → ClassId) (S : Mem) (a0 : Nat) {q : Mem} (h : f_X6_read a0 S = some q) : Met l yX6_read [.code yX6_read cX6_read 2 (none)] rm_X6_read (Pr b0 D cy S [.ref (b0 + a0)]) (Qp b0 D cy none q) 0 0 (fun q => b0 ≤ q) := by
  refine Met.ofW (cc := cX6_read) (maxL := 2) (ret := none) (by decide) rfl ?_
  intro p e s m args below meth c s₁ B hml hv
  obtain ⟨rfl, hP, hK, hT⟩ := hv
  have C0 : Cx p m c cX6_read 2 s (List.toArray [.ref (b0 + a0)]) RX6 D cy := ⟨⟨B.exec, B.bytes, hml, findClass_of_methodNamed B.named, fun w h => hT w h _⟩, hK, hT⟩
  have hr : meth.sig.returnType = none := B.returns
  have hlocks := B.notSynchronized
  have hw : Wd b0 D cy S s.heap s.heap [] := ⟨hP, va_S.rf⟩
  have hl := lv_entry ([.ref (b0 + a0)]) (n := 2) (Nat.le_of_ble_eq_true rfl)
  rw [lg_entry_eq]
  generalize (lg_sl ([.ref (b0 + a0)]) ++ List.replicate (2 - (lg_sl ([.ref (b0 + a0)])).length) Slot.unset).toArray = ls at hl ⊢
  have hl : lv_has ls 2 [(0, .ref (b0 + a0))] := hl
  rw [f_X6_read] at h
  show W p l e rm_X6_read s m _ below meth c s.heap [] 0 0 _ _
  refine lv_aload_n C0.hx C0.hb dX6_read_0 rfl (lv_at hl 0 rfl) ?_
  refine lv_iconst (v := (0 : Int32)) C0.hx C0.hb dX6_read_1 (by decide) ?_
  obtain ⟨S1, hS1, h⟩ := Option.bind_eq_some_iff.mp h
  refine q_putI C0 hw hS1 rfl in_6 tyX6_ok nmX6 ⟨by decide, by decide, rfl, rfl⟩ rfl kw_163 dX6_read_2 (fun H locs hw => ?_)
  refine lv_aload_n C0.hx C0.hb dX6_read_5 rfl (lv_at hl 0 rfl) ?_
  refine lv_iconst (v := (0 : Int32)) C0.hx C0.hb dX6_read_6 (by decide) ?_
  obtain ⟨S2, hS2, h⟩ := Option.bind_eq_some_iff.mp h
  refine q_putI C0 hw hS2 rfl in_6 tyX6_ok nmX6 ⟨by decide, by decide, rfl, rfl⟩ rfl kw_156 dX6_read_7 (fun H locs hw => ?_)
  refine lv_aload_n C0.hx C0.hb dX6_read_10 rfl (lv_at hl 0 rfl) ?_
  refine lv_iconst (v := (-1 : Int32)) C0.hx C0.hb dX6_read_11 (by decide) ?_
  obtain ⟨S3, hS3, h⟩ := Option.bind_eq_some_iff.mp h
  refine q_putI C0 hw hS3 rfl in_6 tyX6_ok nmX6 ⟨by decide, by decide, rfl, rfl⟩ rfl kw_158 dX6_read_12 (fun H locs hw => ?_)
  refine lv_aload_n C0.hx C0.hb dX6_read_15 rfl (lv_at hl 0 rfl) ?_
  obtain ⟨r4, hr4, h⟩ := Option.bind_eq_some_iff.mp h
  refine q_getR C0 hw hr4 rfl in_6 (by decide) kw_160 dX6_read_16 ?_
  obtain ⟨c5, hc5, h⟩ := Option.bind_eq_some_iff.mp h
  obtain ⟨S6, hS6, h⟩ := Option.bind_eq_some_iff.mp h
  refine q_callV (n := 0) (av := []) (rest := []) (st1 := []) C0 hw (m_X2_clear l b0 D cy S3 r4 hS6) hc5 rfl (by decide) (goodV kw_399 kw_400 kw_401 kw_65 kw_402) ⟨rfl, rfl⟩ (by decide +kernel) ⟨(Nat.le_of_ble_eq_true rfl), (Nat.le_of_ble_eq_true rfl)⟩ rfl hl.1 rfl (Nat.le_of_ble_eq_true rfl) dX6_read_19 ⟨Nat.zero_le _, Nat.zero_le _⟩ rfl (fun H locs hw => ?_)
  refine lv_aload_n C0.hx C0.hb dX6_read_22 rfl (lv_at hl 0 rfl) ?_
  obtain ⟨c7, hc7, h⟩ := Option.bind_eq_some_iff.mp h
  obtain ⟨S8, hS8, h⟩ := Option.bind_eq_some_iff.mp h
  refine q_callV (n := 0) (av := []) (rest := []) (st1 := []) C0 hw (m_X6_skipBlanks l b0 D cy S6 a0 hS8) hc7 rfl (by decide) (goodV kw_403 kw_405 kw_0 kw_64 kw_406) ⟨rfl, rfl⟩ (by decide +kernel) ⟨(Nat.le_of_ble_eq_true rfl), (Nat.le_of_ble_eq_true rfl)⟩ rfl hl.1 rfl (Nat.le_of_ble_eq_true rfl) dX6_read_23 ⟨Nat.zero_le _, Nat.zero_le _⟩ rfl (fun H locs hw => ?_)
  refine lv_iconst (v := (0 : Int32)) C0.hx C0.hb dX6_read_26 (by decide) ?_
  refine lv_istore_n (lv' := [(1, .int (0 : Int32)), (0, .ref (b0 + a0))]) C0.hx C0.hb dX6_read_27 rfl hl (by decide) rfl (fun ls hl => ?_)
  exact w_X6_read_b28 C0 hr hlocks FU a0 (0 : Int32) S8 _ _ _ hw (lv_sub hl [1, 0] rfl) h
abbrev rm_X7_fromAndTo : Room := { frames := 0, cells := 0, slots := 0, locals := 0 }
def f_X7_fromAndTo (a0 : Nat) (x1 : Int32) (S : Mem) : Option Int32 :=
    (gR 7 2 S a0).bind fun r1 =>
      (gI 7 1 S a0).bind fun v2 =>
      (ldI S r1 (irI (((v2 + (16 : Int32)) - (1 : Int32)) - x1) (16 : Int32))).bind fun v3 =>
      some v3
set_option maxHeartbeats 4000000 in
set_option maxRecDepth 100000 in
theorem m_X7_fromAndTo (l : Launch) (b0 : Nat) (D : va_G) (cy : Nat → ClassId) (S : Mem) (a0 : Nat) (x1 : Int32) {q : Int32} (h : f_X7_fromAndTo a0 x1 S = some q) : Met l yX7_fromAndTo [.code yX7_fromAndTo cX7_fromAndTo 2 (some .int)] rm_X7_fromAndTo (Pr b0 D cy S [.ref (b0 + a0), .int x1]) (Qp b0 D cy (some (.int q)) S) 0 0 (fun q => b0 ≤ q) := by
  refine Met.ofW (cc := cX7_fromAndTo) (maxL := 2) (ret := some .int) (by decide) rfl ?_
  intro p e s m args below meth c s₁ B hml hv
  obtain ⟨rfl, hP, hK, hT⟩ := hv
  have C0 : Cx p m c cX7_fromAndTo 2 s (List.toArray [.ref (b0 + a0), .int x1]) RX7 D cy := ⟨⟨B.exec, B.bytes, hml, findClass_of_methodNamed B.named, fun w h => hT w h _⟩, hK, hT⟩
  have hr : meth.sig.returnType = some .int := B.returns
  have hlocks := B.notSynchronized
  have hw : Wd b0 D cy S s.heap s.heap [] := ⟨hP, va_S.rf⟩
  have hl := lv_entry ([.ref (b0 + a0), .int x1]) (n := 2) (Nat.le_of_ble_eq_true rfl)
  rw [lg_entry_eq]
  generalize (lg_sl ([.ref (b0 + a0), .int x1]) ++ List.replicate (2 - (lg_sl ([.ref (b0 + a0), .int x1])).length) Slot.unset).toArray = ls at hl ⊢
  have hl : lv_has ls 2 [(0, .ref (b0 + a0)), (1, .int x1)] := hl
  rw [f_X7_fromAndTo] at h
  show W p l e rm_X7_fromAndTo s m _ below meth c s.heap [] 0 0 _ _
  refine lv_aload_n C0.hx C0.hb dX7_fromAndTo_0 rfl (lv_at hl 0 rfl) ?_
  obtain ⟨r1, hr1, h⟩ := Option.bind_eq_some_iff.mp h
  refine q_getR C0 hw hr1 rfl in_7 (by decide) kw_241 dX7_fromAndTo_1 ?_
  refine lv_aload_n C0.hx C0.hb dX7_fromAndTo_4 rfl (lv_at hl 0 rfl) ?_
  obtain ⟨v2, hv2, h⟩ := Option.bind_eq_some_iff.mp h
  refine q_getI C0 hw hv2 rfl in_7 (by decide) kw_240 dX7_fromAndTo_5 ?_
  refine lv_bipush (v := (16 : Int32)) C0.hx C0.hb dX7_fromAndTo_8 (by decide) ?_
  refine lv_iadd C0.hx C0.hb dX7_fromAndTo_10 ?_
  refine lv_iconst (v := (1 : Int32)) C0.hx C0.hb dX7_fromAndTo_11 (by decide) ?_
  refine lv_isub C0.hx C0.hb dX7_fromAndTo_12 ?_
  refine lv_iload_n C0.hx C0.hb dX7_fromAndTo_13 rfl (lv_at hl 1 rfl) ?_
  refine lv_isub C0.hx C0.hb dX7_fromAndTo_14 ?_
  refine lv_bipush (v := (16 : Int32)) C0.hx C0.hb dX7_fromAndTo_15 (by decide) ?_
  refine lv_irem C0.hx C0.hb dX7_fromAndTo_17 (by decide) ?_
  obtain ⟨v3, hv3, h⟩ := Option.bind_eq_some_iff.mp h
  refine q_ldI C0 hw hv3 dX7_fromAndTo_18 ?_
  obtain rfl := Option.some.inj h
  exact q_reti C0 hw hr hlocks dX7_fromAndTo_19
abbrev rm_X7_isFitting : Room := { frames := 3, cells := 0, slots := 0, locals := 78 }
def f_X7_isFitting_b66 (S : Mem) (k2 : Nat → Int32 → Int32 → Option Int32) (a0 : Nat) (x1 : Int32) (x2 : Int32) (t0 : Int32) (t1 : Int32) (t2 : Int32) (t3 : Int32) (t4 : Int32) (t5 : Int32) : Option Int32 :=
    (f_X4_liked t5 t4 t3 t2 t1 t0).bind fun v12 =>
      (gR 7 2 S a0).bind fun r13 =>
      (ldI S r13 x2).bind fun v14 =>
      (if v12 = (irI v14 (10 : Int32)) then
      (some (x2 + (1 : Int32))).bind fun v15 =>
      k2 a0 x1 v15
      else
      some (0 : Int32))
def f_X7_isFitting_b2 (S : Mem) : Nat → Nat → Int32 → Int32 → Option Int32
  | 0, _, _, _ => none
  | n + 1, a0, x1, x2 =>
    (gI 7 0 S a0).bind fun v1 =>
      (if v1 ≤ x2 then
      some (1 : Int32)
      else
      (gR 7 3 S a0).bind fun r2 =>
      (ldI S r2 x2).bind fun v3 =>
      (gR 7 4 S a0).bind fun r4 =>
      (ldI S r4 x2).bind fun v5 =>
      (gR 7 3 S a0).bind fun r6 =>
      (ldI S r6 x2).bind fun v7 =>
      (gR 7 5 S a0).bind fun r8 =>
      (ldI S r8 x2).bind fun v9 =>
      (gR 7 3 S a0).bind fun r10 =>
      (ldI S r10 x2).bind fun v11 =>
      (if (f_X8_bit v11 (16 : Int32)) = (1 : Int32) then
      f_X7_isFitting_b66 S (fun a0 x1 x2 => f_X7_isFitting_b2 S  n a0 x1 x2) a0 x1 x2 (1 : Int32) v9 ((v7 >>> ((8 : Int32) &&& 31)) &&& (255 : Int32)) v5 (v3 &&& (255 : Int32)) x1
      else
      f_X7_isFitting_b66 S (fun a0 x1 x2 => f_X7_isFitting_b2 S  n a0 x1 x2) a0 x1 x2 (0 : Int32) v9 ((v7 >>> ((8 : Int32) &&& 31)) &&& (255 : Int32)) v5 (v3 &&& (255 : Int32)) x1))
def f_X7_isFitting (a0 : Nat) (x1 : Int32) (S : Mem) : Option Int32 :=
    f_X7_isFitting_b2 S FU a0 x1 (0 : Int32)
set_option maxHeartbeats 4000000 in
set_option maxRecDepth 100000 in
theorem w_X7_isFitting_b66 {p : Program} {l : Launch} {e : Env} {s : State} {m : MethodId} {args : Array Value} {below : List Frame} {meth : Method} {c : Code} {b0 : Nat} {D : va_G} {cy : Nat → ClassId} {S : Mem} {q : Int32} (C0 : Cx p m c cX7_isFitting 4 s args RX7 D cy) (hr : meth.sig.returnType = some .boolean) (hlocks : meth.locks = false) (k2 : Nat → Int32 → Int32 → Option Int32) (hk2 : ∀ (a0 : Nat) (x1 : Int32) (x2 : Int32) (H : Heap) (locs : List Loc) (ls : Array Slot), Wd b0 D cy S s.heap H locs → lv_has ls 4 [(0, .ref (b0 + a0)), (1, .int x1), (2, .int x2)] → k2 a0 x1 x2 = some q → W p l e rm_X7_isFitting s m args below meth c H locs 0 0 (MQ below (Qp b0 D cy (some (.int q)) S) args s 0 0 (fun q => b0 ≤ q)) (F0 m 2 ls [])) : ∀ (a0 : Nat) (x1 : Int32) (x2 : Int32) (t0 : Int32) (t1 : Int32) (t2 : Int32) (t3 : Int32) (t4 : Int32) (t5 : Int32) (H : Heap) (locs : List Loc) (ls : Array Slot), Wd b0 D cy S s.heap H locs → lv_has ls 4 [(0, .ref (b0 + a0)), (1, .int x1), (2, .int x2)] → f_X7_isFitting_b66 S k2 a0 x1 x2 t0 t1 t2 t3 t4 t5 = some q → W p l e rm_X7_isFitting s m args below meth c H locs 0 0 (MQ below (Qp b0 D cy (some (.int q)) S) args s 0 0 (fun q => b0 ≤ q)) (F0 m 66 ls [.int t0, .int t1, .int t2, .int t3, .int t4, .int t5]) := by
  intro a0 x1 x2 t0 t1 t2 t3 t4 t5 H locs ls hw hl h
  rw [f_X7_isFitting_b66] at h
  obtain ⟨v12, hv12, h⟩ := Option.bind_eq_some_iff.mp h
  refine q_callS (n := 6) (av := [.int t5, .int t4, .int t3, .int t2, .int t1, .int t0]) (rest := []) (st1 := [.int v12]) C0 hw (m_X4_liked l b0 D cy S t5 t4 t3 t2 t1 t0 hv12) (goodS kw_777 kw_610 kw_67 kw_611) ⟨rfl, rfl⟩ (by decide +kernel) ⟨(Nat.le_of_ble_eq_true rfl), (Nat.le_of_ble_eq_true rfl)⟩ rfl hl.1 rfl (Nat.le_of_ble_eq_true rfl) dX7_isFitting_66 ⟨Nat.zero_le _, Nat.zero_le _⟩ rfl (fun H locs hw => ?_)
  refine lv_istore_n (lv' := [(3, .int v12), (0, .ref (b0 + a0)), (1, .int x1), (2, .int x2)]) C0.hx C0.hb dX7_isFitting_69 rfl hl (by decide) rfl (fun ls hl => ?_)
  refine lv_iload_n C0.hx C0.hb dX7_isFitting_70 rfl (lv_at hl 0 rfl) ?_
  refine lv_aload_n C0.hx C0.hb dX7_isFitting_71 rfl (lv_at hl 1 rfl) ?_
  obtain ⟨r13, hr13, h⟩ := Option.bind_eq_some_iff.mp h
  refine q_getR C0 hw hr13 rfl in_7 (by decide) kw_241 dX7_isFitting_72 ?_
  refine lv_iload_n C0.hx C0.hb dX7_isFitting_75 rfl (lv_at hl 3 rfl) ?_
  obtain ⟨v14, hv14, h⟩ := Option.bind_eq_some_iff.mp h
  refine q_ldI C0 hw hv14 dX7_isFitting_76 ?_
  refine lv_bipush (v := (10 : Int32)) C0.hx C0.hb dX7_isFitting_77 (by decide) ?_
  refine lv_irem C0.hx C0.hb dX7_isFitting_79 (by decide) ?_
  refine lv_icmp_eq (tgt := 85) C0.hx C0.hb dX7_isFitting_80 (by decide) (fun hc => ?_) (fun hc => ?_)
  · have h := (if_pos hc).symm.trans h
    obtain ⟨v15, hv15, h⟩ := Option.bind_eq_some_iff.mp h
    refine lv_iinc (v := v15) (lv' := [(2, .int v15), (3, .int v12), (0, .ref (b0 + a0)), (1, .int x1)]) C0.hx C0.hb dX7_isFitting_85 hl (k := 3) rfl (by rw [← Option.some.inj hv15]; rfl) (by decide) rfl (fun ls hl => ?_)
    refine lv_goto (tgt := 2) C0.hx C0.hb dX7_isFitting_88 (by decide) ?_
    exact hk2 a0 x1 v15 _ _ _ hw (lv_sub hl [2, 3, 0] rfl) h
  · have h := (if_neg hc).symm.trans h
    refine lv_iconst (v := (0 : Int32)) C0.hx C0.hb dX7_isFitting_83 (by decide) ?_
    obtain rfl := Option.some.inj h
    exact q_retz C0 hw (Or.inl rfl) hr hlocks dX7_isFitting_84
set_option maxHeartbeats 4000000 in
set_option maxRecDepth 100000 in
theorem w_X7_isFitting_b2 {p : Program} {l : Launch} {e : Env} {s : State} {m : MethodId} {args : Array Value} {below : List Frame} {meth : Method} {c : Code} {b0 : Nat} {D : va_G} {cy : Nat → ClassId} {S : Mem} {q : Int32} (C0 : Cx p m c cX7_isFitting 4 s args RX7 D cy) (hr : meth.sig.returnType = some .boolean) (hlocks : meth.locks = false) : ∀ (n : Nat) (a0 : Nat) (x1 : Int32) (x2 : Int32) (H : Heap) (locs : List Loc) (ls : Array Slot), Wd b0 D cy S s.heap H locs → lv_has ls 4 [(0, .ref (b0 + a0)), (1, .int x1), (2, .int x2)] → f_X7_isFitting_b2 S  n a0 x1 x2 = some q → W p l e rm_X7_isFitting s m args below meth c H locs 0 0 (MQ below (Qp b0 D cy (some (.int q)) S) args s 0 0 (fun q => b0 ≤ q)) (F0 m 2 ls []) := by
  intro n
  induction n with
  | zero => intro a0 x1 x2 H locs ls hw hl h; exact absurd h (by simp [f_X7_isFitting_b2])
  | succ n ih =>
    intro a0 x1 x2 H locs ls hw hl h
    rw [f_X7_isFitting_b2] at h
    refine lv_iload_n C0.hx C0.hb dX7_isFitting_2 rfl (lv_at hl 2 rfl) ?_
    refine lv_aload_n C0.hx C0.hb dX7_isFitting_3 rfl (lv_at hl 0 rfl) ?_
    obtain ⟨v1, hv1, h⟩ := Option.bind_eq_some_iff.mp h
    refine q_getI C0 hw hv1 rfl in_7 (by decide) kw_238 dX7_isFitting_4 ?_
    refine lv_icmp_ge (tgt := 91) C0.hx C0.hb dX7_isFitting_7 (by decide) (fun hc => ?_) (fun hc => ?_)
    · have h := (if_pos hc).symm.trans h
      refine lv_iconst (v := (1 : Int32)) C0.hx C0.hb dX7_isFitting_91 (by decide) ?_
      obtain rfl := Option.some.inj h
      exact q_retz C0 hw (Or.inr rfl) hr hlocks dX7_isFitting_92
    · have h := (if_neg hc).symm.trans h
      refine lv_iload_n C0.hx C0.hb dX7_isFitting_10 rfl (lv_at hl 1 rfl) ?_
      refine lv_aload_n C0.hx C0.hb dX7_isFitting_11 rfl (lv_at hl 0 rfl) ?_
      obtain ⟨r2, hr2, h⟩ := Option.bind_eq_some_iff.mp h
      refine q_getR C0 hw hr2 rfl in_7 (by decide) kw_242 dX7_isFitting_12 ?_
      refine lv_iload_n C0.hx C0.hb dX7_isFitting_15 rfl (lv_at hl 2 rfl) ?_
      obtain ⟨v3, hv3, h⟩ := Option.bind_eq_some_iff.mp h
      refine q_ldI C0 hw hv3 dX7_isFitting_16 ?_
      refine lv_sipush (v := (255 : Int32)) C0.hx C0.hb dX7_isFitting_17 (by decide) ?_
      refine lv_iand C0.hx C0.hb dX7_isFitting_20 ?_
      refine lv_aload_n C0.hx C0.hb dX7_isFitting_21 rfl (lv_at hl 0 rfl) ?_
      obtain ⟨r4, hr4, h⟩ := Option.bind_eq_some_iff.mp h
      refine q_getR C0 hw hr4 rfl in_7 (by decide) kw_243 dX7_isFitting_22 ?_
      refine lv_iload_n C0.hx C0.hb dX7_isFitting_25 rfl (lv_at hl 2 rfl) ?_
      obtain ⟨v5, hv5, h⟩ := Option.bind_eq_some_iff.mp h
      refine q_ldI C0 hw hv5 dX7_isFitting_26 ?_
      refine lv_aload_n C0.hx C0.hb dX7_isFitting_27 rfl (lv_at hl 0 rfl) ?_
      obtain ⟨r6, hr6, h⟩ := Option.bind_eq_some_iff.mp h
      refine q_getR C0 hw hr6 rfl in_7 (by decide) kw_242 dX7_isFitting_28 ?_
      refine lv_iload_n C0.hx C0.hb dX7_isFitting_31 rfl (lv_at hl 2 rfl) ?_
      obtain ⟨v7, hv7, h⟩ := Option.bind_eq_some_iff.mp h
      refine q_ldI C0 hw hv7 dX7_isFitting_32 ?_
      refine lv_bipush (v := (8 : Int32)) C0.hx C0.hb dX7_isFitting_33 (by decide) ?_
      refine lv_ishr C0.hx C0.hb dX7_isFitting_35 ?_
      refine lv_sipush (v := (255 : Int32)) C0.hx C0.hb dX7_isFitting_36 (by decide) ?_
      refine lv_iand C0.hx C0.hb dX7_isFitting_39 ?_
      refine lv_aload_n C0.hx C0.hb dX7_isFitting_40 rfl (lv_at hl 0 rfl) ?_
      obtain ⟨r8, hr8, h⟩ := Option.bind_eq_some_iff.mp h
      refine q_getR C0 hw hr8 rfl in_7 (by decide) kw_244 dX7_isFitting_41 ?_
      refine lv_iload_n C0.hx C0.hb dX7_isFitting_44 rfl (lv_at hl 2 rfl) ?_
      obtain ⟨v9, hv9, h⟩ := Option.bind_eq_some_iff.mp h
      refine q_ldI C0 hw hv9 dX7_isFitting_45 ?_
      refine lv_aload_n C0.hx C0.hb dX7_isFitting_46 rfl (lv_at hl 0 rfl) ?_
      obtain ⟨r10, hr10, h⟩ := Option.bind_eq_some_iff.mp h
      refine q_getR C0 hw hr10 rfl in_7 (by decide) kw_242 dX7_isFitting_47 ?_
      refine lv_iload_n C0.hx C0.hb dX7_isFitting_50 rfl (lv_at hl 2 rfl) ?_
      obtain ⟨v11, hv11, h⟩ := Option.bind_eq_some_iff.mp h
      refine q_ldI C0 hw hv11 dX7_isFitting_51 ?_
      refine lv_bipush (v := (16 : Int32)) C0.hx C0.hb dX7_isFitting_52 (by decide) ?_
      refine q_callSN (n := 2) (av := [.int v11, .int (16 : Int32)]) (rest := [.int v9, .int ((v7 >>> ((8 : Int32) &&& 31)) &&& (255 : Int32)), .int v5, .int (v3 &&& (255 : Int32)), .int x1]) (st1 := [.int (f_X8_bit v11 (16 : Int32)), .int v9, .int ((v7 >>> ((8 : Int32) &&& 31)) &&& (255 : Int32)), .int v5, .int (v3 &&& (255 : Int32)), .int x1]) C0 hw (m_X8_bit l b0 D cy S v11 (16 : Int32)) kw_776 kw_529 kw_63 kw_530 ⟨rfl, rfl⟩ (by decide +kernel) ⟨(Nat.le_of_ble_eq_true rfl), (Nat.le_of_ble_eq_true rfl)⟩ rfl hl.1 rfl (Nat.le_of_ble_eq_true rfl) dX7_isFitting_54 ⟨Nat.zero_le _, Nat.zero_le _⟩ rfl (fun H locs hw => ?_)
      refine lv_iconst (v := (1 : Int32)) C0.hx C0.hb dX7_isFitting_57 (by decide) ?_
      refine lv_icmp_ne (tgt := 65) C0.hx C0.hb dX7_isFitting_58 (by decide) (fun hc => ?_) (fun hc => ?_)
      · have h := (if_neg hc).symm.trans h
        refine lv_iconst (v := (0 : Int32)) C0.hx C0.hb dX7_isFitting_65 (by decide) ?_
        exact w_X7_isFitting_b66 C0 hr hlocks (fun a0 x1 x2 => f_X7_isFitting_b2 S  n a0 x1 x2) ih a0 x1 x2 (0 : Int32) v9 ((v7 >>> ((8 : Int32) &&& 31)) &&& (255 : Int32)) v5 (v3 &&& (255 : Int32)) x1 _ _ _ hw (lv_sub hl [0, 1, 2] rfl) h
      · have h := (if_pos hc).symm.trans h
        refine lv_iconst (v := (1 : Int32)) C0.hx C0.hb dX7_isFitting_61 (by decide) ?_
        refine lv_goto (tgt := 66) C0.hx C0.hb dX7_isFitting_62 (by decide) ?_
        exact w_X7_isFitting_b66 C0 hr hlocks (fun a0 x1 x2 => f_X7_isFitting_b2 S  n a0 x1 x2) ih a0 x1 x2 (1 : Int32) v9 ((v7 >>> ((8 : Int32) &&& 31)) &&& (255 : Int32)) v5 (v3 &&& (255 : Int32)) x1 _ _ _ hw (lv_sub hl [0, 1, 2] rfl) h
set_option maxHeartbeats 4000000 in
set_option maxRecDepth 100000 in
theorem m_X7_isFitting (l : Launch) (b0 : Nat) (D : va_G) (cy : Nat → ClassId) (S : Mem) (a0 : Nat) (x1 : Int32) {q : Int32} (h : f_X7_isFitting a0 x1 S = some q) : Met l yX7_isFitting [.code yX7_isFitting cX7_isFitting 4 (some .boolean)] rm_X7_isFitting (Pr b0 D cy S [.ref (b0 + a0), .int x1]) (Qp b0 D cy (some (.int q)) S) 0 0 (fun q => b0 ≤ q) := by
  refine Met.ofW (cc := cX7_isFitting) (maxL := 4) (ret := some .boolean) (by decide) rfl ?_
  intro p e s m args below meth c s₁ B hml hv
  obtain ⟨rfl, hP, hK, hT⟩ := hv
  have C0 : Cx p m c cX7_isFitting 4 s (List.toArray [.ref (b0 + a0), .int x1]) RX7 D cy := ⟨⟨B.exec, B.bytes, hml, findClass_of_methodNamed B.named, fun w h => hT w h _⟩, hK, hT⟩
  have hr : meth.sig.returnType = some .boolean := B.returns
  have hlocks := B.notSynchronized
  have hw : Wd b0 D cy S s.heap s.heap [] := ⟨hP, va_S.rf⟩
  have hl := lv_entry ([.ref (b0 + a0), .int x1]) (n := 4) (Nat.le_of_ble_eq_true rfl)
  rw [lg_entry_eq]
  generalize (lg_sl ([.ref (b0 + a0), .int x1]) ++ List.replicate (4 - (lg_sl ([.ref (b0 + a0), .int x1])).length) Slot.unset).toArray = ls at hl ⊢
  have hl : lv_has ls 4 [(0, .ref (b0 + a0)), (1, .int x1)] := hl
  rw [f_X7_isFitting] at h
  show W p l e rm_X7_isFitting s m _ below meth c s.heap [] 0 0 _ _
  refine lv_iconst (v := (0 : Int32)) C0.hx C0.hb dX7_isFitting_0 (by decide) ?_
  refine lv_istore_n (lv' := [(2, .int (0 : Int32)), (0, .ref (b0 + a0)), (1, .int x1)]) C0.hx C0.hb dX7_isFitting_1 rfl hl (by decide) rfl (fun ls hl => ?_)
  exact w_X7_isFitting_b2 C0 hr hlocks FU a0 x1 (0 : Int32) _ _ _ hw (lv_sub hl [1, 2, 0] rfl) h
abbrev rm_X7_fittingRules : Room := { frames := 4, cells := 0, slots := 0, locals := 101 }
def f_X7_fittingRules_b24 (S : Mem) (k4 : Nat → Int64 → Int32 → Option Int64) (a0 : Nat) (y1 : Int64) (x3 : Int32) : Option Int64 :=
    (some (x3 + (1 : Int32))).bind fun v3 =>
      k4 a0 y1 v3
def f_X7_fittingRules_b4 (S : Mem) : Nat → Nat → Int64 → Int32 → Option Int64
  | 0, _, _, _ => none
  | n + 1, a0, y1, x3 =>
    (if (64 : Int32) ≤ x3 then
      some y1
      else
      (ck 7 S a0).bind fun c1 =>
      (f_X7_isFitting a0 x3 S).bind fun v2 =>
      (if v2 = (0 : Int32) then
      f_X7_fittingRules_b24 S (fun a0 y1 x3 => f_X7_fittingRules_b4 S  n a0 y1 x3) a0 y1 x3
      else
      (some (y1 ||| ((1 : Int64) <<< (x3.toInt64 &&& 63)))).bind fun u4 =>
      f_X7_fittingRules_b24 S (fun a0 y1 x3 => f_X7_fittingRules_b4 S  n a0 y1 x3) a0 u4 x3))
def f_X7_fittingRules (a0 : Nat) (S : Mem) : Option Int64 :=
    f_X7_fittingRules_b4 S FU a0 (0 : Int64) (0 : Int32)
set_option maxHeartbeats 4000000 in
set_option maxRecDepth 100000 in
theorem w_X7_fittingRules_b24 {p : Program} {l : Launch} {e : Env} {s : State} {m : MethodId} {args : Array Value} {below : List Frame} {meth : Method} {c : Code} {b0 : Nat} {D : va_G} {cy : Nat → ClassId} {S : Mem} {q : Int64} (C0 : Cx p m c cX7_fittingRules 4 s args RX7 D cy) (hr : meth.sig.returnType = some .long) (hlocks : meth.locks = false) (k4 : Nat → Int64 → Int32 → Option Int64) (hk4 : ∀ (a0 : Nat) (y1 : Int64) (x3 : Int32) (H : Heap) (locs : List Loc) (ls : Array Slot), Wd b0 D cy S s.heap H locs → lv_has ls 4 [(0, .ref (b0 + a0)), (1, .long y1), (3, .int x3)] → k4 a0 y1 x3 = some q → W p l e rm_X7_fittingRules s m args below meth c H locs 0 0 (MQ below (Qp b0 D cy (some (.long q)) S) args s 0 0 (fun q => b0 ≤ q)) (F0 m 4 ls [])) : ∀ (a0 : Nat) (y1 : Int64) (x3 : Int32) (H : Heap) (locs : List Loc) (ls : Array Slot), Wd b0 D cy S s.heap H locs → lv_has ls 4 [(0, .ref (b0 + a0)), (1, .long y1), (3, .int x3)] → f_X7_fittingRules_b24 S k4 a0 y1 x3 = some q → W p l e rm_X7_fittingRules s m args below meth c H locs 0 0 (MQ below (Qp b0 D cy (some (.long q)) S) args s 0 0 (fun q => b0 ≤ q)) (F0 m 24 ls []) := by
  intro a0 y1 x3 H locs ls hw hl h
  rw [f_X7_fittingRules_b24] at h
  obtain ⟨v3, hv3, h⟩ := Option.bind_eq_some_iff.mp h
  refine lv_iinc (v := v3) (lv' := [(3, .int v3), (0, .ref (b0 + a0)), (1, .long y1)]) C0.hx C0.hb dX7_fittingRules_24 hl (k := 2) rfl (by rw [← Option.some.inj hv3]; rfl) (by decide) rfl (fun ls hl => ?_)
  refine lv_goto (tgt := 4) C0.hx C0.hb dX7_fittingRules_27 (by decide) ?_
  exact hk4 a0 y1 v3 _ _ _ hw (lv_sub hl [1, 2, 0] rfl) h
set_option maxHeartbeats 4000000 in
set_option maxRecDepth 100000 in
theorem w_X7_fittingRules_b4 {p : Program} {l : Launch} {e : Env} {s : State} {m : MethodId} {args : Array Value} {below : List Frame} {meth : Method} {c : Code} {b0 : Nat} {D : va_G} {cy : Nat → ClassId} {S : Mem} {q : Int64} (C0 : Cx p m c cX7_fittingRules 4 s args RX7 D cy) (hr : meth.sig.returnType = some .long) (hlocks : meth.locks = false) : ∀ (n : Nat) (a0 : Nat) (y1 : Int64) (x3 : Int32) (H : Heap) (locs : List Loc) (ls : Array Slot), Wd b0 D cy S s.heap H locs → lv_has ls 4 [(0, .ref (b0 + a0)), (1, .long y1), (3, .int x3)] → f_X7_fittingRules_b4 S  n a0 y1 x3 = some q → W p l e rm_X7_fittingRules s m args below meth c H locs 0 0 (MQ below (Qp b0 D cy (some (.long q)) S) args s 0 0 (fun q => b0 ≤ q)) (F0 m 4 ls []) := by
  intro n
  induction n with
  | zero => intro a0 y1 x3 H locs ls hw hl h; exact absurd h (by simp [f_X7_fittingRules_b4])
  | succ n ih =>
    intro a0 y1 x3 H locs ls hw hl h
    rw [f_X7_fittingRules_b4] at h
    refine lv_iload_n C0.hx C0.hb dX7_fittingRules_4 rfl (lv_at hl 2 rfl) ?_
    refine lv_bipush (v := (64 : Int32)) C0.hx C0.hb dX7_fittingRules_5 (by decide) ?_
    refine lv_icmp_ge (tgt := 30) C0.hx C0.hb dX7_fittingRules_7 (by decide) (fun hc => ?_) (fun hc => ?_)
    · have h := (if_pos hc).symm.trans h
      refine lv_lload_n C0.hx C0.hb dX7_fittingRules_30 rfl (lv_at hl 1 rfl) ?_
      obtain rfl := Option.some.inj h
      exact q_retl C0 hw hr hlocks dX7_fittingRules_31
    · have h := (if_neg hc).symm.trans h
      refine lv_aload_n C0.hx C0.hb dX7_fittingRules_10 rfl (lv_at hl 0 rfl) ?_
      refine lv_iload_n C0.hx C0.hb dX7_fittingRules_11 rfl (lv_at hl 2 rfl) ?_
      obtain ⟨c1, hc1, h⟩ := Option.bind_eq_some_iff.mp h
      obtain ⟨v2, hv2, h⟩ := Option.bind_eq_some_iff.mp h
      refine q_callV (n := 1) (av := [.int x3]) (rest := []) (st1 := [.int v2]) C0 hw (m_X7_isFitting l b0 D cy S a0 x3 hv2) hc1 rfl (by decide) (goodV kw_772 kw_774 kw_20 kw_68 kw_775) ⟨rfl, rfl⟩ (by decide +kernel) ⟨(Nat.le_of_ble_eq_true rfl), (Nat.le_of_ble_eq_true rfl)⟩ rfl hl.1 rfl (Nat.le_of_ble_eq_true rfl) dX7_fittingRules_12 ⟨Nat.zero_le _, Nat.zero_le _⟩ rfl (fun H locs hw => ?_)
      refine lv_if_eq (tgt := 24) C0.hx C0.hb dX7_fittingRules_15 (by decide) (fun hc => ?_) (fun hc => ?_)
      · have h := (if_pos hc).symm.trans h
        exact w_X7_fittingRules_b24 C0 hr hlocks (fun a0 y1 x3 => f_X7_fittingRules_b4 S  n a0 y1 x3) ih a0 y1 x3 _ _ _ hw (lv_sub hl [0, 1, 2] rfl) h
      · have h := (if_neg hc).symm.trans h
        refine lv_lload_n C0.hx C0.hb dX7_fittingRules_18 rfl (lv_at hl 1 rfl) ?_
        refine lv_lconst (v := (1 : Int64)) C0.hx C0.hb dX7_fittingRules_19 (by decide) ?_
        refine lv_iload_n C0.hx C0.hb dX7_fittingRules_20 rfl (lv_at hl 2 rfl) ?_
        refine lv_lshl C0.hx C0.hb dX7_fittingRules_21 rfl ?_
        refine lv_lor C0.hx C0.hb dX7_fittingRules_22 ?_
        obtain ⟨u4, hu4, h⟩ := Option.bind_eq_some_iff.mp h
        refine q_nmJ hu4 ?_
        refine lv_lstore_n (lv' := [(1, .long u4), (0, .ref (b0 + a0)), (3, .int x3)]) C0.hx C0.hb dX7_fittingRules_23 rfl hl (by decide) rfl (fun ls hl => ?_)
        exact w_X7_fittingRules_b24 C0 hr hlocks (fun a0 y1 x3 => f_X7_fittingRules_b4 S  n a0 y1 x3) ih a0 u4 x3 _ _ _ hw (lv_sub hl [1, 0, 2] rfl) h
set_option maxHeartbeats 4000000 in
set_option maxRecDepth 100000 in
theorem m_X7_fittingRules (l : Launch) (b0 : Nat) (D : va_G) (cy : Nat → ClassId) (S : Mem) (a0 : Nat) {q : Int64} (h : f_X7_fittingRules a0 S = some q) : Met l yX7_fittingRules [.code yX7_fittingRules cX7_fittingRules 4 (some .long)] rm_X7_fittingRules (Pr b0 D cy S [.ref (b0 + a0)]) (Qp b0 D cy (some (.long q)) S) 0 0 (fun q => b0 ≤ q) := by
  refine Met.ofW (cc := cX7_fittingRules) (maxL := 4) (ret := some .long) (by decide) rfl ?_
  intro p e s m args below meth c s₁ B hml hv
  obtain ⟨rfl, hP, hK, hT⟩ := hv
  have C0 : Cx p m c cX7_fittingRules 4 s (List.toArray [.ref (b0 + a0)]) RX7 D cy := ⟨⟨B.exec, B.bytes, hml, findClass_of_methodNamed B.named, fun w h => hT w h _⟩, hK, hT⟩
  have hr : meth.sig.returnType = some .long := B.returns
  have hlocks := B.notSynchronized
  have hw : Wd b0 D cy S s.heap s.heap [] := ⟨hP, va_S.rf⟩
  have hl := lv_entry ([.ref (b0 + a0)]) (n := 4) (Nat.le_of_ble_eq_true rfl)
  rw [lg_entry_eq]
  generalize (lg_sl ([.ref (b0 + a0)]) ++ List.replicate (4 - (lg_sl ([.ref (b0 + a0)])).length) Slot.unset).toArray = ls at hl ⊢
  have hl : lv_has ls 4 [(0, .ref (b0 + a0))] := hl
  rw [f_X7_fittingRules] at h
  show W p l e rm_X7_fittingRules s m _ below meth c s.heap [] 0 0 _ _
  refine lv_lconst (v := (0 : Int64)) C0.hx C0.hb dX7_fittingRules_0 (by decide) ?_
  refine lv_lstore_n (lv' := [(1, .long (0 : Int64)), (0, .ref (b0 + a0))]) C0.hx C0.hb dX7_fittingRules_1 rfl hl (by decide) rfl (fun ls hl => ?_)
  refine lv_iconst (v := (0 : Int32)) C0.hx C0.hb dX7_fittingRules_2 (by decide) ?_
  refine lv_istore_n (lv' := [(3, .int (0 : Int32)), (1, .long (0 : Int64)), (0, .ref (b0 + a0))]) C0.hx C0.hb dX7_fittingRules_3 rfl hl (by decide) rfl (fun ls hl => ?_)
  exact w_X7_fittingRules_b4 C0 hr hlocks FU a0 (0 : Int64) (0 : Int32) _ _ _ hw (lv_sub hl [2, 1, 0] rfl) h
abbrev rm_X8_feed : Room := { frames := 1, cells := 0, slots := 0, locals := 21 }
def f_X8_feed (a0 : Nat) (x1 : Int32) (S : Mem) : Option (Int32 × Mem) :=
    (if x1 < (0 : Int32) then
      some ((-1000000002 : Int32), S)
      else
      (if x1 ≤ (255 : Int32) then
      (gR 8 0 S a0).bind fun r1 =>
      (gI 6 0 S r1).bind fun v2 =>
      (if v2 < (240 : Int32) then
      (gR 8 0 S a0).bind fun r3 =>
      (ck 6 S r3).bind fun c4 =>
      (f_X6_add r3 x1 S).bind fun S5 =>
      (gR 8 0 S5 a0).bind fun r6 =>
      (gI 6 0 S5 r6).bind fun v7 =>
      some (v7, S5)
      else
      some ((-1000000004 : Int32), S))
      else
      some ((-1000000002 : Int32), S)))
set_option maxHeartbeats 4000000 in
set_option maxRecDepth 100000 in
theorem m_X8_feed (l : Launch) (b0 : Nat) (D : va_G) (cy : Nat → ClassId) (S : Mem) (a0 : Nat) (x1 : Int32) {q : (Int32 × Mem)} (h : f_X8_feed a0 x1 S = some q) : Met l yX8_feed [.code yX8_feed cX8_feed 2 (some .int)] rm_X8_feed (Pr b0 D cy S [.ref (b0 + a0), .int x1]) (Qp b0 D cy (some (.int q.1)) q.2) 0 0 (fun q => b0 ≤ q) := by
  refine Met.ofW (cc := cX8_feed) (maxL := 2) (ret := some .int) (by decide) rfl ?_
  intro p e s m args below meth c s₁ B hml hv
  obtain ⟨rfl, hP, hK, hT⟩ := hv
  have C0 : Cx p m c cX8_feed 2 s (List.toArray [.ref (b0 + a0), .int x1]) RX8 D cy := ⟨⟨B.exec, B.bytes, hml, findClass_of_methodNamed B.named, fun w h => hT w h _⟩, hK, hT⟩
  have hr : meth.sig.returnType = some .int := B.returns
  have hlocks := B.notSynchronized
  have hw : Wd b0 D cy S s.heap s.heap [] := ⟨hP, va_S.rf⟩
  have hl := lv_entry ([.ref (b0 + a0), .int x1]) (n := 2) (Nat.le_of_ble_eq_true rfl)
  rw [lg_entry_eq]
  generalize (lg_sl ([.ref (b0 + a0), .int x1]) ++ List.replicate (2 - (lg_sl ([.ref (b0 + a0), .int x1])).length) Slot.unset).toArray = ls at hl ⊢
  have hl : lv_has ls 2 [(0, .ref (b0 + a0)), (1, .int x1)] := hl
  rw [f_X8_feed] at h
  show W p l e rm_X8_feed s m _ below meth c s.heap [] 0 0 _ _
  refine lv_iload_n C0.hx C0.hb dX8_feed_0 rfl (lv_at hl 1 rfl) ?_
  refine lv_if_lt (tgt := 11) C0.hx C0.hb dX8_feed_1 (by decide) (fun hc => ?_) (fun hc => ?_)
  · have h := (if_pos hc).symm.trans h
    refine lv_ldc C0.hx C0.hb C0.ho (C0.w kw_385) dX8_feed_11 ?_
    obtain rfl := Option.some.inj h
    exact q_reti C0 hw hr hlocks dX8_feed_13
  · have h := (if_neg hc).symm.trans h
    refine lv_iload_n C0.hx C0.hb dX8_feed_4 rfl (lv_at hl 1 rfl) ?_
    refine lv_sipush (v := (255 : Int32)) C0.hx C0.hb dX8_feed_5 (by decide) ?_
    refine lv_icmp_le (tgt := 14) C0.hx C0.hb dX8_feed_8 (by decide) (fun hc => ?_) (fun hc => ?_)
    · have h := (if_pos hc).symm.trans h
      refine lv_aload_n C0.hx C0.hb dX8_feed_14 rfl (lv_at hl 0 rfl) ?_
      obtain ⟨r1, hr1, h⟩ := Option.bind_eq_some_iff.mp h
      refine q_getR C0 hw hr1 rfl in_8 (by decide) kw_350 dX8_feed_15 ?_
      obtain ⟨v2, hv2, h⟩ := Option.bind_eq_some_iff.mp h
      refine q_getI C0 hw hv2 rfl in_6 (by decide) kw_155 dX8_feed_18 ?_
      refine lv_sipush (v := (240 : Int32)) C0.hx C0.hb dX8_feed_21 (by decide) ?_
      refine lv_icmp_lt (tgt := 30) C0.hx C0.hb dX8_feed_24 (by decide) (fun hc => ?_) (fun hc => ?_)
      · have h := (if_pos hc).symm.trans h
        refine lv_aload_n C0.hx C0.hb dX8_feed_30 rfl (lv_at hl 0 rfl) ?_
        obtain ⟨r3, hr3, h⟩ := Option.bind_eq_some_iff.mp h
        refine q_getR C0 hw hr3 rfl in_8 (by decide) kw_350 dX8_feed_31 ?_
        refine lv_iload_n C0.hx C0.hb dX8_feed_34 rfl (lv_at hl 1 rfl) ?_
        obtain ⟨c4, hc4, h⟩ := Option.bind_eq_some_iff.mp h
        obtain ⟨S5, hS5, h⟩ := Option.bind_eq_some_iff.mp h
        refine q_callV (n := 1) (av := [.int x1]) (rest := []) (st1 := []) C0 hw (m_X6_add l b0 D cy S r3 x1 hS5) hc4 rfl (by decide) (goodV kw_387 kw_388 kw_389 kw_64 kw_390) ⟨rfl, rfl⟩ (by decide +kernel) ⟨(Nat.le_of_ble_eq_true rfl), (Nat.le_of_ble_eq_true rfl)⟩ rfl hl.1 rfl (Nat.le_of_ble_eq_true rfl) dX8_feed_35 ⟨Nat.zero_le _, Nat.zero_le _⟩ rfl (fun H locs hw => ?_)
        refine lv_aload_n C0.hx C0.hb dX8_feed_38 rfl (lv_at hl 0 rfl) ?_
        obtain ⟨r6, hr6, h⟩ := Option.bind_eq_some_iff.mp h
        refine q_getR C0 hw hr6 rfl in_8 (by decide) kw_350 dX8_feed_39 ?_
        obtain ⟨v7, hv7, h⟩ := Option.bind_eq_some_iff.mp h
        refine q_getI C0 hw hv7 rfl in_6 (by decide) kw_155 dX8_feed_42 ?_
        obtain rfl := Option.some.inj h
        exact q_reti C0 hw hr hlocks dX8_feed_45
      · have h := (if_neg hc).symm.trans h
        refine lv_ldc C0.hx C0.hb C0.ho (C0.w kw_386) dX8_feed_27 ?_
        obtain rfl := Option.some.inj h
        exact q_reti C0 hw hr hlocks dX8_feed_29
    · have h := (if_neg hc).symm.trans h
      refine lv_ldc C0.hx C0.hb C0.ho (C0.w kw_385) dX8_feed_11 ?_
      obtain rfl := Option.some.inj h
      exact q_reti C0 hw hr hlocks dX8_feed_13
abbrev rm_X8_palace : Room := { frames := 5, cells := 0, slots := 0, locals := 109 }
def f_X8_palace_b88 : Nat → Nat → Int32 → Mem → Option (Int32 × Mem)
  | 0, _, _, _ => none
  | n + 1, a0, x2, S =>
    (if (2 : Int32) ≤ x2 then
      (gR 8 1 S a0).bind fun r23 =>
      (gI 2 2 S r23).bind fun v24 =>
      some (v24, S)
      else
      (gR 8 4 S a0).bind fun r25 =>
      (ldR 13 S r25 x2).bind fun r26 =>
      (pZ 1 0 S r26 (0 : Int32)).bind fun S27 =>
      (some (x2 + (1 : Int32))).bind fun v28 =>
      f_X8_palace_b88  n a0 v28 S27)
def f_X8_palace (a0 : Nat) (S : Mem) : Option (Int32 × Mem) :=
    (gR 8 0 S a0).bind fun r1 =>
      (ck 6 S r1).bind fun c2 =>
      (f_X6_read r1 S).bind fun S3 =>
      (gR 8 0 S3 a0).bind fun r4 =>
      (pI 6 0 S3 r4 (0 : Int32)).bind fun S5 =>
      (gR 8 0 S5 a0).bind fun r6 =>
      (gI 6 1 S5 r6).bind fun v7 =>
      (if v7 = (0 : Int32) then
      (gR 8 1 S5 a0).bind fun r8 =>
      (gR 8 0 S5 a0).bind fun r9 =>
      (gR 6 3 S5 r9).bind fun r10 =>
      (pR 8 1 S5 a0 r10).bind fun S11 =>
      (gR 8 0 S11 a0).bind fun r12 =>
      (pR 6 3 S11 r12 r8).bind fun S13 =>
      (gR 8 2 S13 a0).bind fun r14 =>
      (gR 8 1 S13 a0).bind fun r15 =>
      (ck 5 S13 r14).bind fun c16 =>
      (f_X5_begin r14 r15 S13).bind fun S17 =>
      (gR 8 3 S17 a0).bind fun r18 =>
      (ck 3 S17 r18).bind fun c19 =>
      (f_X3_forget r18 S17).bind fun S20 =>
      (gR 8 5 S20 a0).bind fun r21 =>
      (pI 0 0 S20 r21 (0 : Int32)).bind fun S22 =>
      f_X8_palace_b88 FU a0 (0 : Int32) S22
      else
      (gR 8 0 S5 a0).bind fun r29 =>
      (gI 6 1 S5 r29).bind fun v30 =>
      some (((-10 : Int32) - v30), S5))
set_option maxHeartbeats 4000000 in
set_option maxRecDepth 100000 in
theorem w_X8_palace_b88 {p : Program} {l : Launch} {e : Env} {s : State} {m : MethodId} {args : Array Value} {below : List Frame} {meth : Method} {c : Code} {b0 : Nat} {D : va_G} {cy : Nat → ClassId} {q : (Int32 × Mem)} (C0 : Cx p m c cX8_palace 3 s args RX8 D cy) (hr : meth.sig.returnType = some .int) (hlocks : meth.locks = false) : ∀ (n : Nat) (a0 : Nat) (x2 : Int32) (S : Mem) (H : Heap) (locs : List Loc) (ls : Array Slot), Wd b0 D cy S s.heap H locs → lv_has ls 3 [(0, .ref (b0 + a0)), (2, .int x2)] → f_X8_palace_b88  n a0 x2 S = some q → W p l e rm_X8_palace s m args below meth c H locs 0 0 (MQ below (Qp b0 D cy (some (.int q.1)) q.2) args s 0 0 (fun q => b0 ≤ q)) (F0 m 88 ls []) := by
  intro n
  induction n with
  | zero => intro a0 x2 S H locs ls hw hl h; exact absurd h (by simp [f_X8_palace_b88])
  | succ n ih =>
    intro a0 x2 S H locs ls hw hl h
    rw [f_X8_palace_b88] at h
    refine lv_iload_n C0.hx C0.hb dX8_palace_88 rfl (lv_at hl 1 rfl) ?_
    refine lv_iconst (v := (2 : Int32)) C0.hx C0.hb dX8_palace_89 (by decide) ?_
    refine lv_icmp_ge (tgt := 109) C0.hx C0.hb dX8_palace_90 (by decide) (fun hc => ?_) (fun hc => ?_)
    · have h := (if_pos hc).symm.trans h
      refine lv_aload_n C0.hx C0.hb dX8_palace_109 rfl (lv_at hl 0 rfl) ?_
      obtain ⟨r23, hr23, h⟩ := Option.bind_eq_some_iff.mp h
      refine q_getR C0 hw hr23 rfl in_8 (by decide) kw_351 dX8_palace_110 ?_
      obtain ⟨v24, hv24, h⟩ := Option.bind_eq_some_iff.mp h
      refine q_getI C0 hw hv24 rfl in_2 (by decide) kw_105 dX8_palace_113 ?_
      obtain rfl := Option.some.inj h
      exact q_reti C0 hw hr hlocks dX8_palace_116
    · have h := (if_neg hc).symm.trans h
      refine lv_aload_n C0.hx C0.hb dX8_palace_93 rfl (lv_at hl 0 rfl) ?_
      obtain ⟨r25, hr25, h⟩ := Option.bind_eq_some_iff.mp h
      refine q_getR C0 hw hr25 rfl in_8 (by decide) kw_354 dX8_palace_94 ?_
      refine lv_iload_n C0.hx C0.hb dX8_palace_97 rfl (lv_at hl 1 rfl) ?_
      obtain ⟨r26, hr26, h⟩ := Option.bind_eq_some_iff.mp h
      refine q_ldR13 C0 hw hr26 dX8_palace_98 ?_
      refine lv_iconst (v := (0 : Int32)) C0.hx C0.hb dX8_palace_99 (by decide) ?_
      obtain ⟨S27, hS27, h⟩ := Option.bind_eq_some_iff.mp h
      refine q_putZ C0 hw hS27 rfl in_1 tyX1_ok nmX1 ⟨by decide, by decide, rfl, rfl⟩ rfl kw_339 dX8_palace_100 (fun H locs hw => ?_)
      obtain ⟨v28, hv28, h⟩ := Option.bind_eq_some_iff.mp h
      refine lv_iinc (v := v28) (lv' := [(2, .int v28), (0, .ref (b0 + a0))]) C0.hx C0.hb dX8_palace_103 hl (k := 1) rfl (by rw [← Option.some.inj hv28]; rfl) (by decide) rfl (fun ls hl => ?_)
      refine lv_goto (tgt := 88) C0.hx C0.hb dX8_palace_106 (by decide) ?_
      exact ih a0 v28 S27 _ _ _ hw (lv_sub hl [1, 0] rfl) h
set_option maxHeartbeats 4000000 in
set_option maxRecDepth 100000 in
theorem m_X8_palace (l : Launch) (b0 : Nat) (D : va_G) (cy : Nat → ClassId) (S : Mem) (a0 : Nat) {q : (Int32 × Mem)} (h : f_X8_palace a0 S = some q) : Met l yX8_palace [.code yX8_palace cX8_palace 3 (some .int)] rm_X8_palace (Pr b0 D cy S [.ref (b0 + a0)]) (Qp b0 D cy (some (.int q.1)) q.2) 0 0 (fun q => b0 ≤ q) := by
  refine Met.ofW (cc := cX8_palace) (maxL := 3) (ret := some .int) (by decide) rfl ?_
  intro p e s m args below meth c s₁ B hml hv
  obtain ⟨rfl, hP, hK, hT⟩ := hv
  have C0 : Cx p m c cX8_palace 3 s (List.toArray [.ref (b0 + a0)]) RX8 D cy := ⟨⟨B.exec, B.bytes, hml, findClass_of_methodNamed B.named, fun w h => hT w h _⟩, hK, hT⟩
  have hr : meth.sig.returnType = some .int := B.returns
  have hlocks := B.notSynchronized
  have hw : Wd b0 D cy S s.heap s.heap [] := ⟨hP, va_S.rf⟩
  have hl := lv_entry ([.ref (b0 + a0)]) (n := 3) (Nat.le_of_ble_eq_true rfl)
  rw [lg_entry_eq]
  generalize (lg_sl ([.ref (b0 + a0)]) ++ List.replicate (3 - (lg_sl ([.ref (b0 + a0)])).length) Slot.unset).toArray = ls at hl ⊢
  have hl : lv_has ls 3 [(0, .ref (b0 + a0))] := hl
  rw [f_X8_palace] at h
  show W p l e rm_X8_palace s m _ below meth c s.heap [] 0 0 _ _
  refine lv_aload_n C0.hx C0.hb dX8_palace_0 rfl (lv_at hl 0 rfl) ?_
  obtain ⟨r1, hr1, h⟩ := Option.bind_eq_some_iff.mp h
  refine q_getR C0 hw hr1 rfl in_8 (by decide) kw_350 dX8_palace_1 ?_
  obtain ⟨c2, hc2, h⟩ := Option.bind_eq_some_iff.mp h
  obtain ⟨S3, hS3, h⟩ := Option.bind_eq_some_iff.mp h
  refine q_callV (n := 0) (av := []) (rest := []) (st1 := []) C0 hw (m_X6_read l b0 D cy S r1 hS3) hc2 rfl (by decide) (goodV kw_395 kw_396 kw_397 kw_64 kw_398) ⟨rfl, rfl⟩ (by decide +kernel) ⟨(Nat.le_of_ble_eq_true rfl), (Nat.le_of_ble_eq_true rfl)⟩ rfl hl.1 rfl (Nat.le_of_ble_eq_true rfl) dX8_palace_4 ⟨Nat.zero_le _, Nat.zero_le _⟩ rfl (fun H locs hw => ?_)
  refine lv_aload_n C0.hx C0.hb dX8_palace_7 rfl (lv_at hl 0 rfl) ?_
  obtain ⟨r4, hr4, h⟩ := Option.bind_eq_some_iff.mp h
  refine q_getR C0 hw hr4 rfl in_8 (by decide) kw_350 dX8_palace_8 ?_
  refine lv_iconst (v := (0 : Int32)) C0.hx C0.hb dX8_palace_11 (by decide) ?_
  obtain ⟨S5, hS5, h⟩ := Option.bind_eq_some_iff.mp h
  refine q_putI C0 hw hS5 rfl in_6 tyX6_ok nmX6 ⟨by decide, by decide, rfl, rfl⟩ rfl kw_155 dX8_palace_12 (fun H locs hw => ?_)
  refine lv_aload_n C0.hx C0.hb dX8_palace_15 rfl (lv_at hl 0 rfl) ?_
  obtain ⟨r6, hr6, h⟩ := Option.bind_eq_some_iff.mp h
  refine q_getR C0 hw hr6 rfl in_8 (by decide) kw_350 dX8_palace_16 ?_
  obtain ⟨v7, hv7, h⟩ := Option.bind_eq_some_iff.mp h
  refine q_getI C0 hw hv7 rfl in_6 (by decide) kw_157 dX8_palace_19 ?_
  refine lv_if_eq (tgt := 36) C0.hx C0.hb dX8_palace_22 (by decide) (fun hc => ?_) (fun hc => ?_)
  · have h := (if_pos hc).symm.trans h
    refine lv_aload_n C0.hx C0.hb dX8_palace_36 rfl (lv_at hl 0 rfl) ?_
    obtain ⟨r8, hr8, h⟩ := Option.bind_eq_some_iff.mp h
    refine q_getR C0 hw hr8 rfl in_8 (by decide) kw_351 dX8_palace_37 ?_
    refine lv_astore_n (lv' := [(1, .ref (b0 + r8)), (0, .ref (b0 + a0))]) C0.hx C0.hb dX8_palace_40 rfl hl (by decide) rfl (fun ls hl => ?_)
    refine lv_aload_n C0.hx C0.hb dX8_palace_41 rfl (lv_at hl 1 rfl) ?_
    refine lv_aload_n C0.hx C0.hb dX8_palace_42 rfl (lv_at hl 1 rfl) ?_
    obtain ⟨r9, hr9, h⟩ := Option.bind_eq_some_iff.mp h
    refine q_getR C0 hw hr9 rfl in_8 (by decide) kw_350 dX8_palace_43 ?_
    obtain ⟨r10, hr10, h⟩ := Option.bind_eq_some_iff.mp h
    refine q_getR C0 hw hr10 rfl in_6 (by decide) kw_161 dX8_palace_46 ?_
    obtain ⟨S11, hS11, h⟩ := Option.bind_eq_some_iff.mp h
    refine q_putR C0 hw hS11 rfl in_8 tyX8_ok nmX8 ⟨by decide, by decide, rfl, rfl⟩ (fun _ => ⟨rfl, rfl⟩) kw_351 dX8_palace_49 (fun H locs hw => ?_)
    refine lv_aload_n C0.hx C0.hb dX8_palace_52 rfl (lv_at hl 1 rfl) ?_
    obtain ⟨r12, hr12, h⟩ := Option.bind_eq_some_iff.mp h
    refine q_getR C0 hw hr12 rfl in_8 (by decide) kw_350 dX8_palace_53 ?_
    refine lv_aload_n C0.hx C0.hb dX8_palace_56 rfl (lv_at hl 0 rfl) ?_
    obtain ⟨S13, hS13, h⟩ := Option.bind_eq_some_iff.mp h
    refine q_putR C0 hw hS13 rfl in_6 tyX6_ok nmX6 ⟨by decide, by decide, rfl, rfl⟩ (fun _ => ⟨rfl, rfl⟩) kw_161 dX8_palace_57 (fun H locs hw => ?_)
    refine lv_aload_n C0.hx C0.hb dX8_palace_60 rfl (lv_at hl 1 rfl) ?_
    obtain ⟨r14, hr14, h⟩ := Option.bind_eq_some_iff.mp h
    refine q_getR C0 hw hr14 rfl in_8 (by decide) kw_352 dX8_palace_61 ?_
    refine lv_aload_n C0.hx C0.hb dX8_palace_64 rfl (lv_at hl 1 rfl) ?_
    obtain ⟨r15, hr15, h⟩ := Option.bind_eq_some_iff.mp h
    refine q_getR C0 hw hr15 rfl in_8 (by decide) kw_351 dX8_palace_65 ?_
    obtain ⟨c16, hc16, h⟩ := Option.bind_eq_some_iff.mp h
    obtain ⟨S17, hS17, h⟩ := Option.bind_eq_some_iff.mp h
    refine q_callV (n := 1) (av := [.ref (b0 + r15)]) (rest := []) (st1 := []) C0 hw (m_X5_begin l b0 D cy S13 r14 r15 hS17) hc16 rfl (by decide) (goodV kw_465 kw_466 kw_467 kw_66 kw_468) ⟨rfl, rfl⟩ (by decide +kernel) ⟨(Nat.le_of_ble_eq_true rfl), (Nat.le_of_ble_eq_true rfl)⟩ rfl hl.1 rfl (Nat.le_of_ble_eq_true rfl) dX8_palace_68 ⟨Nat.zero_le _, Nat.zero_le _⟩ rfl (fun H locs hw => ?_)
    refine lv_aload_n C0.hx C0.hb dX8_palace_71 rfl (lv_at hl 1 rfl) ?_
    obtain ⟨r18, hr18, h⟩ := Option.bind_eq_some_iff.mp h
    refine q_getR C0 hw hr18 rfl in_8 (by decide) kw_353 dX8_palace_72 ?_
    obtain ⟨c19, hc19, h⟩ := Option.bind_eq_some_iff.mp h
    obtain ⟨S20, hS20, h⟩ := Option.bind_eq_some_iff.mp h
    refine q_callV (n := 0) (av := []) (rest := []) (st1 := []) C0 hw (m_X3_forget l b0 D cy S17 r18 hS20) hc19 rfl (by decide) (goodV kw_489 kw_490 kw_491 kw_69 kw_492) ⟨rfl, rfl⟩ (by decide +kernel) ⟨(Nat.le_of_ble_eq_true rfl), (Nat.le_of_ble_eq_true rfl)⟩ rfl hl.1 rfl (Nat.le_of_ble_eq_true rfl) dX8_palace_75 ⟨Nat.zero_le _, Nat.zero_le _⟩ rfl (fun H locs hw => ?_)
    refine lv_aload_n C0.hx C0.hb dX8_palace_78 rfl (lv_at hl 1 rfl) ?_
    obtain ⟨r21, hr21, h⟩ := Option.bind_eq_some_iff.mp h
    refine q_getR C0 hw hr21 rfl in_8 (by decide) kw_355 dX8_palace_79 ?_
    refine lv_iconst (v := (0 : Int32)) C0.hx C0.hb dX8_palace_82 (by decide) ?_
    obtain ⟨S22, hS22, h⟩ := Option.bind_eq_some_iff.mp h
    refine q_putI C0 hw hS22 rfl in_0 tyX0_ok nmX0 ⟨by decide, by decide, rfl, rfl⟩ rfl kw_320 dX8_palace_83 (fun H locs hw => ?_)
    refine lv_iconst (v := (0 : Int32)) C0.hx C0.hb dX8_palace_86 (by decide) ?_
    refine lv_istore_n (lv' := [(2, .int (0 : Int32)), (1, .ref (b0 + r8)), (0, .ref (b0 + a0))]) C0.hx C0.hb dX8_palace_87 rfl hl (by decide) rfl (fun ls hl => ?_)
    exact w_X8_palace_b88 C0 hr hlocks FU a0 (0 : Int32) S22 _ _ _ hw (lv_sub hl [2, 0] rfl) h
  · have h := (if_neg hc).symm.trans h
    refine lv_bipush (v := (-10 : Int32)) C0.hx C0.hb dX8_palace_25 (by decide) ?_
    refine lv_aload_n C0.hx C0.hb dX8_palace_27 rfl (lv_at hl 0 rfl) ?_
    obtain ⟨r29, hr29, h⟩ := Option.bind_eq_some_iff.mp h
    refine q_getR C0 hw hr29 rfl in_8 (by decide) kw_350 dX8_palace_28 ?_
    obtain ⟨v30, hv30, h⟩ := Option.bind_eq_some_iff.mp h
    refine q_getI C0 hw hv30 rfl in_6 (by decide) kw_157 dX8_palace_31 ?_
    refine lv_isub C0.hx C0.hb dX8_palace_34 ?_
    obtain rfl := Option.some.inj h
    exact q_reti C0 hw hr hlocks dX8_palace_35
abbrev rm_X8_fault : Room := { frames := 0, cells := 0, slots := 0, locals := 0 }
def f_X8_fault (a0 : Nat) (S : Mem) : Option Int32 :=
    (gR 8 0 S a0).bind fun r1 =>
      (gI 6 2 S r1).bind fun v2 =>
      some v2
set_option maxHeartbeats 4000000 in
set_option maxRecDepth 100000 in
theorem m_X8_fault (l : Launch) (b0 : Nat) (D : va_G) (cy : Nat → ClassId) (S : Mem) (a0 : Nat) {q : Int32} (h : f_X8_fault a0 S = some q) : Met l yX8_fault [.code yX8_fault cX8_fault 1 (some .int)] rm_X8_fault (Pr b0 D cy S [.ref (b0 + a0)]) (Qp b0 D cy (some (.int q)) S) 0 0 (fun q => b0 ≤ q) := by
  refine Met.ofW (cc := cX8_fault) (maxL := 1) (ret := some .int) (by decide) rfl ?_
  intro p e s m args below meth c s₁ B hml hv
  obtain ⟨rfl, hP, hK, hT⟩ := hv
  have C0 : Cx p m c cX8_fault 1 s (List.toArray [.ref (b0 + a0)]) RX8 D cy := ⟨⟨B.exec, B.bytes, hml, findClass_of_methodNamed B.named, fun w h => hT w h _⟩, hK, hT⟩
  have hr : meth.sig.returnType = some .int := B.returns
  have hlocks := B.notSynchronized
  have hw : Wd b0 D cy S s.heap s.heap [] := ⟨hP, va_S.rf⟩
  have hl := lv_entry ([.ref (b0 + a0)]) (n := 1) (Nat.le_of_ble_eq_true rfl)
  rw [lg_entry_eq]
  generalize (lg_sl ([.ref (b0 + a0)]) ++ List.replicate (1 - (lg_sl ([.ref (b0 + a0)])).length) Slot.unset).toArray = ls at hl ⊢
  have hl : lv_has ls 1 [(0, .ref (b0 + a0))] := hl
  rw [f_X8_fault] at h
  show W p l e rm_X8_fault s m _ below meth c s.heap [] 0 0 _ _
  refine lv_aload_n C0.hx C0.hb dX8_fault_0 rfl (lv_at hl 0 rfl) ?_
  obtain ⟨r1, hr1, h⟩ := Option.bind_eq_some_iff.mp h
  refine q_getR C0 hw hr1 rfl in_8 (by decide) kw_350 dX8_fault_1 ?_
  obtain ⟨v2, hv2, h⟩ := Option.bind_eq_some_iff.mp h
  refine q_getI C0 hw hv2 rfl in_6 (by decide) kw_159 dX8_fault_4 ?_
  obtain rfl := Option.some.inj h
  exact q_reti C0 hw hr hlocks dX8_fault_7
