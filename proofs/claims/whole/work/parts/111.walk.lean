abbrev rm_X9_readRoom : Room := { frames := 3, cells := 0, slots := 0, locals := 69 }
def f_X9_readRoom (a0 : Nat) (S : Mem) : Option Mem :=
    (gR 9 14 S a0).bind fun r1 =>
      (ldI S r1 (1 : Int32)).bind fun v2 =>
      (if v2 = (8 : Int32) then
      (ck 9 S a0).bind fun c23 =>
      (f_X9_faults a0 (3 : Int32) S).bind fun S24 =>
      some S24
      else
      (gI 9 11 S a0).bind fun v3 =>
      (pI 9 11 S a0 (v3 + (1 : Int32))).bind fun S4 =>
      (ck 9 S4 a0).bind fun c5 =>
      (f_X9_number a0 (9 : Int32) S4).bind fun q6 =>
      (ck 9 q6.2 a0).bind fun c7 =>
      (f_X9_number a0 (1 : Int32) q6.2).bind fun q8 =>
      (ck 9 q8.2 a0).bind fun c9 =>
      (f_X9_ends a0 q8.2).bind fun S10 =>
      (gI 9 12 S10 a0).bind fun v11 =>
      (if v11 = (0 : Int32) then
      (gR 9 14 S10 a0).bind fun r12 =>
      (gR 9 14 S10 a0).bind fun r13 =>
      (ldI S10 r13 (1 : Int32)).bind fun v14 =>
      (stI S10 r12 ((4 : Int32) + ((2 : Int32) * v14)) q6.1).bind fun S15 =>
      (gR 9 14 S15 a0).bind fun r16 =>
      (gR 9 14 S15 a0).bind fun r17 =>
      (ldI S15 r17 (1 : Int32)).bind fun v18 =>
      (stI S15 r16 ((5 : Int32) + ((2 : Int32) * v18)) q8.1).bind fun S19 =>
      (gR 9 14 S19 a0).bind fun r20 =>
      (ldI S19 r20 (1 : Int32)).bind fun v21 =>
      (stI S19 r20 (1 : Int32) (v21 + (1 : Int32))).bind fun S22 =>
      some S22
      else
      some S10))
set_option maxHeartbeats 4000000 in
set_option maxRecDepth 100000 in
theorem m_X9_readRoom (l : Launch) (b0 : Nat) (D : va_G) (cy : Nat → ClassId) (S : Mem) (a0 : Nat) {q : Mem} (h : f_X9_readRoom a0 S = some q) : Met l yX9_readRoom [.code yX9_readRoom cX9_readRoom 3 (none)] rm_X9_readRoom (Pr b0 D cy S [.ref (b0 + a0)]) (Qp b0 D cy none q) 0 0 (fun q => b0 ≤ q) := by
  refine Met.ofW (cc := cX9_readRoom) (maxL := 3) (ret := none) (by decide) rfl ?_
  intro p e s m args below meth c s₁ B hml hv
  obtain ⟨rfl, hP, hK, hT⟩ := hv
  have C0 : Cx p m c cX9_readRoom 3 s (List.toArray [.ref (b0 + a0)]) RX9 D cy := ⟨⟨B.exec, B.bytes, hml, findClass_of_methodNamed B.named, fun w h => hT w h _⟩, hK, hT⟩
  have hr : meth.sig.returnType = none := B.returns
  have hlocks := B.notSynchronized
  have hw : Wd b0 D cy S s.heap s.heap [] := ⟨hP, va_S.rf⟩
  have hl := lv_entry ([.ref (b0 + a0)]) (n := 3) (Nat.le_of_ble_eq_true rfl)
  rw [lg_entry_eq]
  generalize (lg_sl ([.ref (b0 + a0)]) ++ List.replicate (3 - (lg_sl ([.ref (b0 + a0)])).length) Slot.unset).toArray = ls at hl ⊢
  have hl : lv_has ls 3 [(0, .ref (b0 + a0))] := hl
  rw [f_X9_readRoom] at h
  show W p l e rm_X9_readRoom s m _ below meth c s.heap [] 0 0 _ _
  refine lv_aload_n C0.hx C0.hb dX9_readRoom_0 rfl (lv_at hl 0 rfl) ?_
  obtain ⟨r1, hr1, h⟩ := Option.bind_eq_some_iff.mp h
  refine q_getR C0 hw hr1 rfl in_9 (by decide) kw_876 dX9_readRoom_1 ?_
  refine lv_iconst (v := (1 : Int32)) C0.hx C0.hb dX9_readRoom_4 (by decide) ?_
  obtain ⟨v2, hv2, h⟩ := Option.bind_eq_some_iff.mp h
  refine q_ldI C0 hw hv2 dX9_readRoom_5 ?_
  refine lv_bipush (v := (8 : Int32)) C0.hx C0.hb dX9_readRoom_6 (by decide) ?_
  refine lv_icmp_ne (tgt := 17) C0.hx C0.hb dX9_readRoom_8 (by decide) (fun hc => ?_) (fun hc => ?_)
  · have h := (if_neg hc).symm.trans h
    refine lv_aload_n C0.hx C0.hb dX9_readRoom_17 rfl (lv_at hl 0 rfl) ?_
    refine lv_dup C0.hx C0.hb dX9_readRoom_18 rfl ?_
    obtain ⟨v3, hv3, h⟩ := Option.bind_eq_some_iff.mp h
    refine q_getI C0 hw hv3 rfl in_9 (by decide) kw_873 dX9_readRoom_19 ?_
    refine lv_iconst (v := (1 : Int32)) C0.hx C0.hb dX9_readRoom_22 (by decide) ?_
    refine lv_iadd C0.hx C0.hb dX9_readRoom_23 ?_
    obtain ⟨S4, hS4, h⟩ := Option.bind_eq_some_iff.mp h
    refine q_putI C0 hw hS4 rfl in_9 tyX9_ok nmX9 ⟨by decide, by decide, rfl, rfl⟩ rfl kw_873 dX9_readRoom_24 (fun H locs hw => ?_)
    refine lv_aload_n C0.hx C0.hb dX9_readRoom_27 rfl (lv_at hl 0 rfl) ?_
    refine lv_bipush (v := (9 : Int32)) C0.hx C0.hb dX9_readRoom_28 (by decide) ?_
    obtain ⟨c5, hc5, h⟩ := Option.bind_eq_some_iff.mp h
    obtain ⟨q6, hq6, h⟩ := Option.bind_eq_some_iff.mp h
    refine q_callV (n := 1) (av := [.int (9 : Int32)]) (rest := []) (st1 := [.int q6.1]) C0 hw (m_X9_number l b0 D cy S4 a0 (9 : Int32) hq6) hc5 rfl (by decide) (goodV kw_976 kw_978 kw_28 kw_72 kw_979) ⟨rfl, rfl⟩ (by decide +kernel) ⟨(Nat.le_of_ble_eq_true rfl), (Nat.le_of_ble_eq_true rfl)⟩ rfl hl.1 rfl (Nat.le_of_ble_eq_true rfl) dX9_readRoom_30 ⟨Nat.zero_le _, Nat.zero_le _⟩ rfl (fun H locs hw => ?_)
    refine lv_istore_n (lv' := [(1, .int q6.1), (0, .ref (b0 + a0))]) C0.hx C0.hb dX9_readRoom_33 rfl hl (by decide) rfl (fun ls hl => ?_)
    refine lv_aload_n C0.hx C0.hb dX9_readRoom_34 rfl (lv_at hl 1 rfl) ?_
    refine lv_iconst (v := (1 : Int32)) C0.hx C0.hb dX9_readRoom_35 (by decide) ?_
    obtain ⟨c7, hc7, h⟩ := Option.bind_eq_some_iff.mp h
    obtain ⟨q8, hq8, h⟩ := Option.bind_eq_some_iff.mp h
    refine q_callV (n := 1) (av := [.int (1 : Int32)]) (rest := []) (st1 := [.int q8.1]) C0 hw (m_X9_number l b0 D cy q6.2 a0 (1 : Int32) hq8) hc7 rfl (by decide) (goodV kw_976 kw_978 kw_28 kw_72 kw_979) ⟨rfl, rfl⟩ (by decide +kernel) ⟨(Nat.le_of_ble_eq_true rfl), (Nat.le_of_ble_eq_true rfl)⟩ rfl hl.1 rfl (Nat.le_of_ble_eq_true rfl) dX9_readRoom_36 ⟨Nat.zero_le _, Nat.zero_le _⟩ rfl (fun H locs hw => ?_)
    refine lv_istore_n (lv' := [(2, .int q8.1), (1, .int q6.1), (0, .ref (b0 + a0))]) C0.hx C0.hb dX9_readRoom_39 rfl hl (by decide) rfl (fun ls hl => ?_)
    refine lv_aload_n C0.hx C0.hb dX9_readRoom_40 rfl (lv_at hl 2 rfl) ?_
    obtain ⟨c9, hc9, h⟩ := Option.bind_eq_some_iff.mp h
    obtain ⟨S10, hS10, h⟩ := Option.bind_eq_some_iff.mp h
    refine q_callV (n := 0) (av := []) (rest := []) (st1 := []) C0 hw (m_X9_ends l b0 D cy q8.2 a0 hS10) hc9 rfl (by decide) (goodV kw_985 kw_987 kw_29 kw_72 kw_988) ⟨rfl, rfl⟩ (by decide +kernel) ⟨(Nat.le_of_ble_eq_true rfl), (Nat.le_of_ble_eq_true rfl)⟩ rfl hl.1 rfl (Nat.le_of_ble_eq_true rfl) dX9_readRoom_41 ⟨Nat.zero_le _, Nat.zero_le _⟩ rfl (fun H locs hw => ?_)
    refine lv_aload_n C0.hx C0.hb dX9_readRoom_44 rfl (lv_at hl 2 rfl) ?_
    obtain ⟨v11, hv11, h⟩ := Option.bind_eq_some_iff.mp h
    refine q_getI C0 hw hv11 rfl in_9 (by decide) kw_874 dX9_readRoom_45 ?_
    refine lv_if_ne (tgt := 93) C0.hx C0.hb dX9_readRoom_48 (by decide) (fun hc => ?_) (fun hc => ?_)
    · have h := (if_neg hc).symm.trans h
      obtain rfl := Option.some.inj h
      exact q_retv C0 hw hr hlocks dX9_readRoom_93
    · have h := (if_pos hc).symm.trans h
      refine lv_aload_n C0.hx C0.hb dX9_readRoom_51 rfl (lv_at hl 2 rfl) ?_
      obtain ⟨r12, hr12, h⟩ := Option.bind_eq_some_iff.mp h
      refine q_getR C0 hw hr12 rfl in_9 (by decide) kw_876 dX9_readRoom_52 ?_
      refine lv_iconst (v := (4 : Int32)) C0.hx C0.hb dX9_readRoom_55 (by decide) ?_
      refine lv_iconst (v := (2 : Int32)) C0.hx C0.hb dX9_readRoom_56 (by decide) ?_
      refine lv_aload_n C0.hx C0.hb dX9_readRoom_57 rfl (lv_at hl 2 rfl) ?_
      obtain ⟨r13, hr13, h⟩ := Option.bind_eq_some_iff.mp h
      refine q_getR C0 hw hr13 rfl in_9 (by decide) kw_876 dX9_readRoom_58 ?_
      refine lv_iconst (v := (1 : Int32)) C0.hx C0.hb dX9_readRoom_61 (by decide) ?_
      obtain ⟨v14, hv14, h⟩ := Option.bind_eq_some_iff.mp h
      refine q_ldI C0 hw hv14 dX9_readRoom_62 ?_
      refine lv_imul C0.hx C0.hb dX9_readRoom_63 ?_
      refine lv_iadd C0.hx C0.hb dX9_readRoom_64 ?_
      refine lv_iload_n C0.hx C0.hb dX9_readRoom_65 rfl (lv_at hl 1 rfl) ?_
      obtain ⟨S15, hS15, h⟩ := Option.bind_eq_some_iff.mp h
      refine q_stI C0 hw hS15 dX9_readRoom_66 (fun H locs hw => ?_)
      refine lv_aload_n C0.hx C0.hb dX9_readRoom_67 rfl (lv_at hl 2 rfl) ?_
      obtain ⟨r16, hr16, h⟩ := Option.bind_eq_some_iff.mp h
      refine q_getR C0 hw hr16 rfl in_9 (by decide) kw_876 dX9_readRoom_68 ?_
      refine lv_iconst (v := (5 : Int32)) C0.hx C0.hb dX9_readRoom_71 (by decide) ?_
      refine lv_iconst (v := (2 : Int32)) C0.hx C0.hb dX9_readRoom_72 (by decide) ?_
      refine lv_aload_n C0.hx C0.hb dX9_readRoom_73 rfl (lv_at hl 2 rfl) ?_
      obtain ⟨r17, hr17, h⟩ := Option.bind_eq_some_iff.mp h
      refine q_getR C0 hw hr17 rfl in_9 (by decide) kw_876 dX9_readRoom_74 ?_
      refine lv_iconst (v := (1 : Int32)) C0.hx C0.hb dX9_readRoom_77 (by decide) ?_
      obtain ⟨v18, hv18, h⟩ := Option.bind_eq_some_iff.mp h
      refine q_ldI C0 hw hv18 dX9_readRoom_78 ?_
      refine lv_imul C0.hx C0.hb dX9_readRoom_79 ?_
      refine lv_iadd C0.hx C0.hb dX9_readRoom_80 ?_
      refine lv_iload_n C0.hx C0.hb dX9_readRoom_81 rfl (lv_at hl 0 rfl) ?_
      obtain ⟨S19, hS19, h⟩ := Option.bind_eq_some_iff.mp h
      refine q_stI C0 hw hS19 dX9_readRoom_82 (fun H locs hw => ?_)
      refine lv_aload_n C0.hx C0.hb dX9_readRoom_83 rfl (lv_at hl 2 rfl) ?_
      obtain ⟨r20, hr20, h⟩ := Option.bind_eq_some_iff.mp h
      refine q_getR C0 hw hr20 rfl in_9 (by decide) kw_876 dX9_readRoom_84 ?_
      refine lv_iconst (v := (1 : Int32)) C0.hx C0.hb dX9_readRoom_87 (by decide) ?_
      refine lv_dup2_11 C0.hx C0.hb dX9_readRoom_88 rfl rfl ?_
      obtain ⟨v21, hv21, h⟩ := Option.bind_eq_some_iff.mp h
      refine q_ldI C0 hw hv21 dX9_readRoom_89 ?_
      refine lv_iconst (v := (1 : Int32)) C0.hx C0.hb dX9_readRoom_90 (by decide) ?_
      refine lv_iadd C0.hx C0.hb dX9_readRoom_91 ?_
      obtain ⟨S22, hS22, h⟩ := Option.bind_eq_some_iff.mp h
      refine q_stI C0 hw hS22 dX9_readRoom_92 (fun H locs hw => ?_)
      obtain rfl := Option.some.inj h
      exact q_retv C0 hw hr hlocks dX9_readRoom_93
  · have h := (if_pos hc).symm.trans h
    refine lv_aload_n C0.hx C0.hb dX9_readRoom_11 rfl (lv_at hl 0 rfl) ?_
    refine lv_iconst (v := (3 : Int32)) C0.hx C0.hb dX9_readRoom_12 (by decide) ?_
    obtain ⟨c23, hc23, h⟩ := Option.bind_eq_some_iff.mp h
    obtain ⟨S24, hS24, h⟩ := Option.bind_eq_some_iff.mp h
    refine q_callV (n := 1) (av := [.int (3 : Int32)]) (rest := []) (st1 := []) C0 hw (m_X9_faults l b0 D cy S a0 (3 : Int32) hS24) hc23 rfl (by decide) (goodV kw_972 kw_974 kw_27 kw_72 kw_975) ⟨rfl, rfl⟩ (by decide +kernel) ⟨(Nat.le_of_ble_eq_true rfl), (Nat.le_of_ble_eq_true rfl)⟩ rfl hl.1 rfl (Nat.le_of_ble_eq_true rfl) dX9_readRoom_13 ⟨Nat.zero_le _, Nat.zero_le _⟩ rfl (fun H locs hw => ?_)
    obtain rfl := Option.some.inj h
    exact q_retv C0 hw hr hlocks dX9_readRoom_16
abbrev rm_X9_readDoor : Room := { frames := 3, cells := 0, slots := 0, locals := 69 }
def f_X9_readDoor_b151 (k78 : Nat → Int32 → Int32 → Int32 → Int32 → Int32 → Mem → Option Mem) (a0 : Nat) (x1 : Int32) (x2 : Int32) (x3 : Int32) (x5 : Int32) (t0 : Int32) (S : Mem) : Option Mem :=
    (some (x5 + (1 : Int32))).bind fun v40 =>
      k78 a0 x1 x2 x3 t0 v40 S
def f_X9_readDoor_b146 (k78 : Nat → Int32 → Int32 → Int32 → Int32 → Int32 → Mem → Option Mem) (a0 : Nat) (x1 : Int32) (x2 : Int32) (x3 : Int32) (x5 : Int32) (S : Mem) : Option Mem :=
    f_X9_readDoor_b151 k78 a0 x1 x2 x3 x5 (1 : Int32) S
def f_X9_readDoor_b150 (k78 : Nat → Int32 → Int32 → Int32 → Int32 → Int32 → Mem → Option Mem) (a0 : Nat) (x1 : Int32) (x2 : Int32) (x3 : Int32) (x5 : Int32) (S : Mem) : Option Mem :=
    f_X9_readDoor_b151 k78 a0 x1 x2 x3 x5 (0 : Int32) S
def f_X9_readDoor_b134 (k78 : Nat → Int32 → Int32 → Int32 → Int32 → Int32 → Mem → Option Mem) (a0 : Nat) (x1 : Int32) (x2 : Int32) (x3 : Int32) (x5 : Int32) (x6 : Int32) (x7 : Int32) (S : Mem) : Option Mem :=
    (if x6 = x3 then
      (if x7 = x1 then
      f_X9_readDoor_b146 k78 a0 x1 x2 x3 x5 S
      else
      f_X9_readDoor_b150 k78 a0 x1 x2 x3 x5 S)
      else
      f_X9_readDoor_b150 k78 a0 x1 x2 x3 x5 S)
def f_X9_readDoor_b181 (a0 : Nat) (x1 : Int32) (x3 : Int32) (S : Mem) : Option Mem :=
    (ck 9 S a0).bind fun c19 =>
      (f_X9_ends a0 S).bind fun S20 =>
      (gI 9 12 S20 a0).bind fun v21 =>
      (if v21 = (0 : Int32) then
      (gR 9 14 S20 a0).bind fun r22 =>
      (gR 9 14 S20 a0).bind fun r23 =>
      (ldI S20 r23 (2 : Int32)).bind fun v24 =>
      (stI S20 r22 ((20 : Int32) + ((2 : Int32) * v24)) x1).bind fun S25 =>
      (gR 9 14 S25 a0).bind fun r26 =>
      (gR 9 14 S25 a0).bind fun r27 =>
      (ldI S25 r27 (2 : Int32)).bind fun v28 =>
      (stI S25 r26 ((21 : Int32) + ((2 : Int32) * v28)) x3).bind fun S29 =>
      (gR 9 14 S29 a0).bind fun r30 =>
      (ldI S29 r30 (2 : Int32)).bind fun v31 =>
      (stI S29 r30 (2 : Int32) (v31 + (1 : Int32))).bind fun S32 =>
      some S32
      else
      some S20)
def f_X9_readDoor_b78 : Nat → Nat → Int32 → Int32 → Int32 → Int32 → Int32 → Mem → Option Mem
  | 0, _, _, _, _, _, _, _ => none
  | n + 1, a0, x1, x2, x3, x4, x5, S =>
    (gR 9 14 S a0).bind fun r16 =>
      (ldI S r16 (2 : Int32)).bind fun v17 =>
      (if v17 ≤ x5 then
      (gI 9 12 S a0).bind fun v18 =>
      (if v18 = (0 : Int32) then
      (if x4 = (0 : Int32) then
      f_X9_readDoor_b181 a0 x1 x3 S
      else
      (ck 9 S a0).bind fun c33 =>
      (f_X9_faults a0 (4 : Int32) S).bind fun S34 =>
      (pI 9 11 S34 a0 x2).bind fun S35 =>
      f_X9_readDoor_b181 a0 x1 x3 S35)
      else
      f_X9_readDoor_b181 a0 x1 x3 S)
      else
      (gR 9 14 S a0).bind fun r36 =>
      (ldI S r36 ((20 : Int32) + ((2 : Int32) * x5))).bind fun v37 =>
      (gR 9 14 S a0).bind fun r38 =>
      (ldI S r38 ((21 : Int32) + ((2 : Int32) * x5))).bind fun v39 =>
      (if x4 = (0 : Int32) then
      (if v37 = x1 then
      (if v39 = x3 then
      f_X9_readDoor_b146 (fun a0 x1 x2 x3 x4 x5 S => f_X9_readDoor_b78  n a0 x1 x2 x3 x4 x5 S) a0 x1 x2 x3 x5 S
      else
      f_X9_readDoor_b134 (fun a0 x1 x2 x3 x4 x5 S => f_X9_readDoor_b78  n a0 x1 x2 x3 x4 x5 S) a0 x1 x2 x3 x5 v37 v39 S)
      else
      f_X9_readDoor_b134 (fun a0 x1 x2 x3 x4 x5 S => f_X9_readDoor_b78  n a0 x1 x2 x3 x4 x5 S) a0 x1 x2 x3 x5 v37 v39 S)
      else
      f_X9_readDoor_b146 (fun a0 x1 x2 x3 x4 x5 S => f_X9_readDoor_b78  n a0 x1 x2 x3 x4 x5 S) a0 x1 x2 x3 x5 S))
def f_X9_readDoor_b73 (a0 : Nat) (x1 : Int32) (x2 : Int32) (x3 : Int32) (t0 : Int32) (S : Mem) : Option Mem :=
    f_X9_readDoor_b78 FU a0 x1 x2 x3 t0 (0 : Int32) S
def f_X9_readDoor (a0 : Nat) (S : Mem) : Option Mem :=
    (gR 9 14 S a0).bind fun r1 =>
      (ldI S r1 (2 : Int32)).bind fun v2 =>
      (if v2 = (12 : Int32) then
      (ck 9 S a0).bind fun c41 =>
      (f_X9_faults a0 (3 : Int32) S).bind fun S42 =>
      some S42
      else
      (gI 9 11 S a0).bind fun v3 =>
      (pI 9 11 S a0 (v3 + (1 : Int32))).bind fun S4 =>
      (gR 9 14 S4 a0).bind fun r5 =>
      (ldI S4 r5 (1 : Int32)).bind fun v6 =>
      (ck 9 S4 a0).bind fun c7 =>
      (f_X9_number a0 (v6 - (1 : Int32)) S4).bind fun q8 =>
      (ck 9 q8.2 a0).bind fun c9 =>
      (f_X9_here a0 q8.2).bind fun q10 =>
      (gI 9 11 q10.2 a0).bind fun v11 =>
      (gR 9 14 q10.2 a0).bind fun r12 =>
      (ldI q10.2 r12 (1 : Int32)).bind fun v13 =>
      (ck 9 q10.2 a0).bind fun c14 =>
      (f_X9_number a0 (v13 - (1 : Int32)) q10.2).bind fun q15 =>
      (if q8.1 = q15.1 then
      f_X9_readDoor_b73 a0 q8.1 v11 q15.1 (1 : Int32) q15.2
      else
      f_X9_readDoor_b73 a0 q8.1 v11 q15.1 (0 : Int32) q15.2))
set_option maxHeartbeats 4000000 in
set_option maxRecDepth 100000 in
theorem w_X9_readDoor_b151 {p : Program} {l : Launch} {e : Env} {s : State} {m : MethodId} {args : Array Value} {below : List Frame} {meth : Method} {c : Code} {b0 : Nat} {D : va_G} {cy : Nat → ClassId} {q : Mem} (C0 : Cx p m c cX9_readDoor 8 s args RX9 D cy) (hr : meth.sig.returnType = none) (hlocks : meth.locks = false) (k78 : Nat → Int32 → Int32 → Int32 → Int32 → Int32 → Mem → Option Mem) (hk78 : ∀ (a0 : Nat) (x1 : Int32) (x2 : Int32) (x3 : Int32) (x4 : Int32) (x5 : Int32) (S : Mem) (H : Heap) (locs : List Loc) (ls : Array Slot), Wd b0 D cy S s.heap H locs → lv_has ls 8 [(0, .ref (b0 + a0)), (1, .int x1), (2, .int x2), (3, .int x3), (4, .int x4), (5, .int x5)] → k78 a0 x1 x2 x3 x4 x5 S = some q → W p l e rm_X9_readDoor s m args below meth c H locs 0 0 (MQ below (Qp b0 D cy none q) args s 0 0 (fun q => b0 ≤ q)) (F0 m 78 ls [])) : ∀ (a0 : Nat) (x1 : Int32) (x2 : Int32) (x3 : Int32) (x5 : Int32) (t0 : Int32) (S : Mem) (H : Heap) (locs : List Loc) (ls : Array Slot), Wd b0 D cy S s.heap H locs → lv_has ls 8 [(0, .ref (b0 + a0)), (1, .int x1), (2, .int x2), (3, .int x3), (5, .int x5)] → f_X9_readDoor_b151 k78 a0 x1 x2 x3 x5 t0 S = some q → W p l e rm_X9_readDoor s m args below meth c H locs 0 0 (MQ below (Qp b0 D cy none q) args s 0 0 (fun q => b0 ≤ q)) (F0 m 151 ls [.int t0]) := by
  intro a0 x1 x2 x3 x5 t0 S H locs ls hw hl h
  rw [f_X9_readDoor_b151] at h
  refine lv_istore (lv' := [(4, .int t0), (0, .ref (b0 + a0)), (1, .int x1), (2, .int x2), (3, .int x3), (5, .int x5)]) C0.hx C0.hb dX9_readDoor_151 hl (by decide) rfl (fun ls hl => ?_)
  obtain ⟨v40, hv40, h⟩ := Option.bind_eq_some_iff.mp h
  refine lv_iinc (v := v40) (lv' := [(5, .int v40), (4, .int t0), (0, .ref (b0 + a0)), (1, .int x1), (2, .int x2), (3, .int x3)]) C0.hx C0.hb dX9_readDoor_153 hl (k := 5) rfl (by rw [← Option.some.inj hv40]; rfl) (by decide) rfl (fun ls hl => ?_)
  refine lv_goto (tgt := 78) C0.hx C0.hb dX9_readDoor_156 (by decide) ?_
  exact hk78 a0 x1 x2 x3 t0 v40 S _ _ _ hw (lv_sub hl [2, 3, 4, 5, 1, 0] rfl) h
set_option maxHeartbeats 4000000 in
set_option maxRecDepth 100000 in
theorem w_X9_readDoor_b146 {p : Program} {l : Launch} {e : Env} {s : State} {m : MethodId} {args : Array Value} {below : List Frame} {meth : Method} {c : Code} {b0 : Nat} {D : va_G} {cy : Nat → ClassId} {q : Mem} (C0 : Cx p m c cX9_readDoor 8 s args RX9 D cy) (hr : meth.sig.returnType = none) (hlocks : meth.locks = false) (k78 : Nat → Int32 → Int32 → Int32 → Int32 → Int32 → Mem → Option Mem) (hk78 : ∀ (a0 : Nat) (x1 : Int32) (x2 : Int32) (x3 : Int32) (x4 : Int32) (x5 : Int32) (S : Mem) (H : Heap) (locs : List Loc) (ls : Array Slot), Wd b0 D cy S s.heap H locs → lv_has ls 8 [(0, .ref (b0 + a0)), (1, .int x1), (2, .int x2), (3, .int x3), (4, .int x4), (5, .int x5)] → k78 a0 x1 x2 x3 x4 x5 S = some q → W p l e rm_X9_readDoor s m args below meth c H locs 0 0 (MQ below (Qp b0 D cy none q) args s 0 0 (fun q => b0 ≤ q)) (F0 m 78 ls [])) : ∀ (a0 : Nat) (x1 : Int32) (x2 : Int32) (x3 : Int32) (x5 : Int32) (S : Mem) (H : Heap) (locs : List Loc) (ls : Array Slot), Wd b0 D cy S s.heap H locs → lv_has ls 8 [(0, .ref (b0 + a0)), (1, .int x1), (2, .int x2), (3, .int x3), (5, .int x5)] → f_X9_readDoor_b146 k78 a0 x1 x2 x3 x5 S = some q → W p l e rm_X9_readDoor s m args below meth c H locs 0 0 (MQ below (Qp b0 D cy none q) args s 0 0 (fun q => b0 ≤ q)) (F0 m 146 ls []) := by
  intro a0 x1 x2 x3 x5 S H locs ls hw hl h
  rw [f_X9_readDoor_b146] at h
  refine lv_iconst (v := (1 : Int32)) C0.hx C0.hb dX9_readDoor_146 (by decide) ?_
  refine lv_goto (tgt := 151) C0.hx C0.hb dX9_readDoor_147 (by decide) ?_
  exact w_X9_readDoor_b151 C0 hr hlocks k78 hk78 a0 x1 x2 x3 x5 (1 : Int32) S _ _ _ hw (lv_sub hl [0, 1, 2, 3, 4] rfl) h
set_option maxHeartbeats 4000000 in
set_option maxRecDepth 100000 in
theorem w_X9_readDoor_b150 {p : Program} {l : Launch} {e : Env} {s : State} {m : MethodId} {args : Array Value} {below : List Frame} {meth : Method} {c : Code} {b0 : Nat} {D : va_G} {cy : Nat → ClassId} {q : Mem} (C0 : Cx p m c cX9_readDoor 8 s args RX9 D cy) (hr : meth.sig.returnType = none) (hlocks : meth.locks = false) (k78 : Nat → Int32 → Int32 → Int32 → Int32 → Int32 → Mem → Option Mem) (hk78 : ∀ (a0 : Nat) (x1 : Int32) (x2 : Int32) (x3 : Int32) (x4 : Int32) (x5 : Int32) (S : Mem) (H : Heap) (locs : List Loc) (ls : Array Slot), Wd b0 D cy S s.heap H locs → lv_has ls 8 [(0, .ref (b0 + a0)), (1, .int x1), (2, .int x2), (3, .int x3), (4, .int x4), (5, .int x5)] → k78 a0 x1 x2 x3 x4 x5 S = some q → W p l e rm_X9_readDoor s m args below meth c H locs 0 0 (MQ below (Qp b0 D cy none q) args s 0 0 (fun q => b0 ≤ q)) (F0 m 78 ls [])) : ∀ (a0 : Nat) (x1 : Int32) (x2 : Int32) (x3 : Int32) (x5 : Int32) (S : Mem) (H : Heap) (locs : List Loc) (ls : Array Slot), Wd b0 D cy S s.heap H locs → lv_has ls 8 [(0, .ref (b0 + a0)), (1, .int x1), (2, .int x2), (3, .int x3), (5, .int x5)] → f_X9_readDoor_b150 k78 a0 x1 x2 x3 x5 S = some q → W p l e rm_X9_readDoor s m args below meth c H locs 0 0 (MQ below (Qp b0 D cy none q) args s 0 0 (fun q => b0 ≤ q)) (F0 m 150 ls []) := by
  intro a0 x1 x2 x3 x5 S H locs ls hw hl h
  rw [f_X9_readDoor_b150] at h
  refine lv_iconst (v := (0 : Int32)) C0.hx C0.hb dX9_readDoor_150 (by decide) ?_
  exact w_X9_readDoor_b151 C0 hr hlocks k78 hk78 a0 x1 x2 x3 x5 (0 : Int32) S _ _ _ hw (lv_sub hl [0, 1, 2, 3, 4] rfl) h
set_option maxHeartbeats 4000000 in
set_option maxRecDepth 100000 in
theorem w_X9_readDoor_b134 {p : Program} {l : Launch} {e : Env} {s : State} {m : MethodId} {args : Array Value} {below : List Frame} {meth : Method} {c : Code} {b0 : Nat} {D : va_G} {cy : Nat → ClassId} {q : Mem} (C0 : Cx p m c cX9_readDoor 8 s args RX9 D cy) (hr : meth.sig.returnType = none) (hlocks : meth.locks = false) (k78 : Nat → Int32 → Int32 → Int32 → Int32 → Int32 → Mem → Option Mem) (hk78 : ∀ (a0 : Nat) (x1 : Int32) (x2 : Int32) (x3 : Int32) (x4 : Int32) (x5 : Int32) (S : Mem) (H : Heap) (locs : List Loc) (ls : Array Slot), Wd b0 D cy S s.heap H locs → lv_has ls 8 [(0, .ref (b0 + a0)), (1, .int x1), (2, .int x2), (3, .int x3), (4, .int x4), (5, .int x5)] → k78 a0 x1 x2 x3 x4 x5 S = some q → W p l e rm_X9_readDoor s m args below meth c H locs 0 0 (MQ below (Qp b0 D cy none q) args s 0 0 (fun q => b0 ≤ q)) (F0 m 78 ls [])) : ∀ (a0 : Nat) (x1 : Int32) (x2 : Int32) (x3 : Int32) (x5 : Int32) (x6 : Int32) (x7 : Int32) (S : Mem) (H : Heap) (locs : List Loc) (ls : Array Slot), Wd b0 D cy S s.heap H locs → lv_has ls 8 [(0, .ref (b0 + a0)), (1, .int x1), (2, .int x2), (3, .int x3), (5, .int x5), (6, .int x6), (7, .int x7)] → f_X9_readDoor_b134 k78 a0 x1 x2 x3 x5 x6 x7 S = some q → W p l e rm_X9_readDoor s m args below meth c H locs 0 0 (MQ below (Qp b0 D cy none q) args s 0 0 (fun q => b0 ≤ q)) (F0 m 134 ls []) := by
  intro a0 x1 x2 x3 x5 x6 x7 S H locs ls hw hl h
  rw [f_X9_readDoor_b134] at h
  refine lv_iload C0.hx C0.hb dX9_readDoor_134 (lv_at hl 5 rfl) ?_
  refine lv_iload_n C0.hx C0.hb dX9_readDoor_136 rfl (lv_at hl 3 rfl) ?_
  refine lv_icmp_ne (tgt := 150) C0.hx C0.hb dX9_readDoor_137 (by decide) (fun hc => ?_) (fun hc => ?_)
  · have h := (if_neg hc).symm.trans h
    exact w_X9_readDoor_b150 C0 hr hlocks k78 hk78 a0 x1 x2 x3 x5 S _ _ _ hw (lv_sub hl [0, 1, 2, 3, 4] rfl) h
  · have h := (if_pos hc).symm.trans h
    refine lv_iload C0.hx C0.hb dX9_readDoor_140 (lv_at hl 6 rfl) ?_
    refine lv_iload_n C0.hx C0.hb dX9_readDoor_142 rfl (lv_at hl 1 rfl) ?_
    refine lv_icmp_ne (tgt := 150) C0.hx C0.hb dX9_readDoor_143 (by decide) (fun hc => ?_) (fun hc => ?_)
    · have h := (if_neg hc).symm.trans h
      exact w_X9_readDoor_b150 C0 hr hlocks k78 hk78 a0 x1 x2 x3 x5 S _ _ _ hw (lv_sub hl [0, 1, 2, 3, 4] rfl) h
    · have h := (if_pos hc).symm.trans h
      exact w_X9_readDoor_b146 C0 hr hlocks k78 hk78 a0 x1 x2 x3 x5 S _ _ _ hw (lv_sub hl [0, 1, 2, 3, 4] rfl) h
set_option maxHeartbeats 4000000 in
set_option maxRecDepth 100000 in
theorem w_X9_readDoor_b181 {p : Program} {l : Launch} {e : Env} {s : State} {m : MethodId} {args : Array Value} {below : List Frame} {meth : Method} {c : Code} {b0 : Nat} {D : va_G} {cy : Nat → ClassId} {q : Mem} (C0 : Cx p m c cX9_readDoor 8 s args RX9 D cy) (hr : meth.sig.returnType = none) (hlocks : meth.locks = false) : ∀ (a0 : Nat) (x1 : Int32) (x3 : Int32) (S : Mem) (H : Heap) (locs : List Loc) (ls : Array Slot), Wd b0 D cy S s.heap H locs → lv_has ls 8 [(0, .ref (b0 + a0)), (1, .int x1), (3, .int x3)] → f_X9_readDoor_b181  a0 x1 x3 S = some q → W p l e rm_X9_readDoor s m args below meth c H locs 0 0 (MQ below (Qp b0 D cy none q) args s 0 0 (fun q => b0 ≤ q)) (F0 m 181 ls []) := by
  intro a0 x1 x3 S H locs ls hw hl h
  rw [f_X9_readDoor_b181] at h
  refine lv_aload_n C0.hx C0.hb dX9_readDoor_181 rfl (lv_at hl 0 rfl) ?_
  obtain ⟨c19, hc19, h⟩ := Option.bind_eq_some_iff.mp h
  obtain ⟨S20, hS20, h⟩ := Option.bind_eq_some_iff.mp h
  refine q_callV (n := 0) (av := []) (rest := []) (st1 := []) C0 hw (m_X9_ends l b0 D cy S a0 hS20) hc19 rfl (by decide) (goodV kw_985 kw_987 kw_29 kw_72 kw_988) ⟨rfl, rfl⟩ (by decide +kernel) ⟨(Nat.le_of_ble_eq_true rfl), (Nat.le_of_ble_eq_true rfl)⟩ rfl hl.1 rfl (Nat.le_of_ble_eq_true rfl) dX9_readDoor_182 ⟨Nat.zero_le _, Nat.zero_le _⟩ rfl (fun H locs hw => ?_)
  refine lv_aload_n C0.hx C0.hb dX9_readDoor_185 rfl (lv_at hl 0 rfl) ?_
  obtain ⟨v21, hv21, h⟩ := Option.bind_eq_some_iff.mp h
  refine q_getI C0 hw hv21 rfl in_9 (by decide) kw_874 dX9_readDoor_186 ?_
  refine lv_if_ne (tgt := 236) C0.hx C0.hb dX9_readDoor_189 (by decide) (fun hc => ?_) (fun hc => ?_)
  · have h := (if_neg hc).symm.trans h
    obtain rfl := Option.some.inj h
    exact q_retv C0 hw hr hlocks dX9_readDoor_236
  · have h := (if_pos hc).symm.trans h
    refine lv_aload_n C0.hx C0.hb dX9_readDoor_192 rfl (lv_at hl 0 rfl) ?_
    obtain ⟨r22, hr22, h⟩ := Option.bind_eq_some_iff.mp h
    refine q_getR C0 hw hr22 rfl in_9 (by decide) kw_876 dX9_readDoor_193 ?_
    refine lv_bipush (v := (20 : Int32)) C0.hx C0.hb dX9_readDoor_196 (by decide) ?_
    refine lv_iconst (v := (2 : Int32)) C0.hx C0.hb dX9_readDoor_198 (by decide) ?_
    refine lv_aload_n C0.hx C0.hb dX9_readDoor_199 rfl (lv_at hl 0 rfl) ?_
    obtain ⟨r23, hr23, h⟩ := Option.bind_eq_some_iff.mp h
    refine q_getR C0 hw hr23 rfl in_9 (by decide) kw_876 dX9_readDoor_200 ?_
    refine lv_iconst (v := (2 : Int32)) C0.hx C0.hb dX9_readDoor_203 (by decide) ?_
    obtain ⟨v24, hv24, h⟩ := Option.bind_eq_some_iff.mp h
    refine q_ldI C0 hw hv24 dX9_readDoor_204 ?_
    refine lv_imul C0.hx C0.hb dX9_readDoor_205 ?_
    refine lv_iadd C0.hx C0.hb dX9_readDoor_206 ?_
    refine lv_iload_n C0.hx C0.hb dX9_readDoor_207 rfl (lv_at hl 1 rfl) ?_
    obtain ⟨S25, hS25, h⟩ := Option.bind_eq_some_iff.mp h
    refine q_stI C0 hw hS25 dX9_readDoor_208 (fun H locs hw => ?_)
    refine lv_aload_n C0.hx C0.hb dX9_readDoor_209 rfl (lv_at hl 0 rfl) ?_
    obtain ⟨r26, hr26, h⟩ := Option.bind_eq_some_iff.mp h
    refine q_getR C0 hw hr26 rfl in_9 (by decide) kw_876 dX9_readDoor_210 ?_
    refine lv_bipush (v := (21 : Int32)) C0.hx C0.hb dX9_readDoor_213 (by decide) ?_
    refine lv_iconst (v := (2 : Int32)) C0.hx C0.hb dX9_readDoor_215 (by decide) ?_
    refine lv_aload_n C0.hx C0.hb dX9_readDoor_216 rfl (lv_at hl 0 rfl) ?_
    obtain ⟨r27, hr27, h⟩ := Option.bind_eq_some_iff.mp h
    refine q_getR C0 hw hr27 rfl in_9 (by decide) kw_876 dX9_readDoor_217 ?_
    refine lv_iconst (v := (2 : Int32)) C0.hx C0.hb dX9_readDoor_220 (by decide) ?_
    obtain ⟨v28, hv28, h⟩ := Option.bind_eq_some_iff.mp h
    refine q_ldI C0 hw hv28 dX9_readDoor_221 ?_
    refine lv_imul C0.hx C0.hb dX9_readDoor_222 ?_
    refine lv_iadd C0.hx C0.hb dX9_readDoor_223 ?_
    refine lv_iload_n C0.hx C0.hb dX9_readDoor_224 rfl (lv_at hl 2 rfl) ?_
    obtain ⟨S29, hS29, h⟩ := Option.bind_eq_some_iff.mp h
    refine q_stI C0 hw hS29 dX9_readDoor_225 (fun H locs hw => ?_)
    refine lv_aload_n C0.hx C0.hb dX9_readDoor_226 rfl (lv_at hl 0 rfl) ?_
    obtain ⟨r30, hr30, h⟩ := Option.bind_eq_some_iff.mp h
    refine q_getR C0 hw hr30 rfl in_9 (by decide) kw_876 dX9_readDoor_227 ?_
    refine lv_iconst (v := (2 : Int32)) C0.hx C0.hb dX9_readDoor_230 (by decide) ?_
    refine lv_dup2_11 C0.hx C0.hb dX9_readDoor_231 rfl rfl ?_
    obtain ⟨v31, hv31, h⟩ := Option.bind_eq_some_iff.mp h
    refine q_ldI C0 hw hv31 dX9_readDoor_232 ?_
    refine lv_iconst (v := (1 : Int32)) C0.hx C0.hb dX9_readDoor_233 (by decide) ?_
    refine lv_iadd C0.hx C0.hb dX9_readDoor_234 ?_
    obtain ⟨S32, hS32, h⟩ := Option.bind_eq_some_iff.mp h
    refine q_stI C0 hw hS32 dX9_readDoor_235 (fun H locs hw => ?_)
    obtain rfl := Option.some.inj h
    exact q_retv C0 hw hr hlocks dX9_readDoor_236
set_option maxHeartbeats 4000000 in
set_option maxRecDepth 100000 in
theorem w_X9_readDoor_b78 {p : Program} {l : Launch} {e : Env} {s : State} {m : MethodId} {args : Array Value} {below : List Frame} {meth : Method} {c : Code} {b0 : Nat} {D : va_G} {cy : Nat → ClassId} {q : Mem} (C0 : Cx p m c cX9_readDoor 8 s args RX9 D cy) (hr : meth.sig.returnType = none) (hlocks : meth.locks = false) : ∀ (n : Nat) (a0 : Nat) (x1 : Int32) (x2 : Int32) (x3 : Int32) (x4 : Int32) (x5 : Int32) (S : Mem) (H : Heap) (locs : List Loc) (ls : Array Slot), Wd b0 D cy S s.heap H locs → lv_has ls 8 [(0, .ref (b0 + a0)), (1, .int x1), (2, .int x2), (3, .int x3), (4, .int x4), (5, .int x5)] → f_X9_readDoor_b78  n a0 x1 x2 x3 x4 x5 S = some q → W p l e rm_X9_readDoor s m args below meth c H locs 0 0 (MQ below (Qp b0 D cy none q) args s 0 0 (fun q => b0 ≤ q)) (F0 m 78 ls []) := by
  intro n
  induction n with
  | zero => intro a0 x1 x2 x3 x4 x5 S H locs ls hw hl h; exact absurd h (by simp [f_X9_readDoor_b78])
  | succ n ih =>
    intro a0 x1 x2 x3 x4 x5 S H locs ls hw hl h
    rw [f_X9_readDoor_b78] at h
    refine lv_iload C0.hx C0.hb dX9_readDoor_78 (lv_at hl 5 rfl) ?_
    refine lv_aload_n C0.hx C0.hb dX9_readDoor_80 rfl (lv_at hl 0 rfl) ?_
    obtain ⟨r16, hr16, h⟩ := Option.bind_eq_some_iff.mp h
    refine q_getR C0 hw hr16 rfl in_9 (by decide) kw_876 dX9_readDoor_81 ?_
    refine lv_iconst (v := (2 : Int32)) C0.hx C0.hb dX9_readDoor_84 (by decide) ?_
    obtain ⟨v17, hv17, h⟩ := Option.bind_eq_some_iff.mp h
    refine q_ldI C0 hw hv17 dX9_readDoor_85 ?_
    refine lv_icmp_ge (tgt := 159) C0.hx C0.hb dX9_readDoor_86 (by decide) (fun hc => ?_) (fun hc => ?_)
    · have h := (if_pos hc).symm.trans h
      refine lv_aload_n C0.hx C0.hb dX9_readDoor_159 rfl (lv_at hl 0 rfl) ?_
      obtain ⟨v18, hv18, h⟩ := Option.bind_eq_some_iff.mp h
      refine q_getI C0 hw hv18 rfl in_9 (by decide) kw_874 dX9_readDoor_160 ?_
      refine lv_if_ne (tgt := 181) C0.hx C0.hb dX9_readDoor_163 (by decide) (fun hc => ?_) (fun hc => ?_)
      · have h := (if_neg hc).symm.trans h
        exact w_X9_readDoor_b181 C0 hr hlocks a0 x1 x3 S _ _ _ hw (lv_sub hl [0, 1, 3] rfl) h
      · have h := (if_pos hc).symm.trans h
        refine lv_iload C0.hx C0.hb dX9_readDoor_166 (lv_at hl 4 rfl) ?_
        refine lv_if_eq (tgt := 181) C0.hx C0.hb dX9_readDoor_168 (by decide) (fun hc => ?_) (fun hc => ?_)
        · have h := (if_pos hc).symm.trans h
          exact w_X9_readDoor_b181 C0 hr hlocks a0 x1 x3 S _ _ _ hw (lv_sub hl [0, 1, 3] rfl) h
        · have h := (if_neg hc).symm.trans h
          refine lv_aload_n C0.hx C0.hb dX9_readDoor_171 rfl (lv_at hl 0 rfl) ?_
          refine lv_iconst (v := (4 : Int32)) C0.hx C0.hb dX9_readDoor_172 (by decide) ?_
          obtain ⟨c33, hc33, h⟩ := Option.bind_eq_some_iff.mp h
          obtain ⟨S34, hS34, h⟩ := Option.bind_eq_some_iff.mp h
          refine q_callV (n := 1) (av := [.int (4 : Int32)]) (rest := []) (st1 := []) C0 hw (m_X9_faults l b0 D cy S a0 (4 : Int32) hS34) hc33 rfl (by decide) (goodV kw_972 kw_974 kw_27 kw_72 kw_975) ⟨rfl, rfl⟩ (by decide +kernel) ⟨(Nat.le_of_ble_eq_true rfl), (Nat.le_of_ble_eq_true rfl)⟩ rfl hl.1 rfl (Nat.le_of_ble_eq_true rfl) dX9_readDoor_173 ⟨Nat.zero_le _, Nat.zero_le _⟩ rfl (fun H locs hw => ?_)
          refine lv_aload_n C0.hx C0.hb dX9_readDoor_176 rfl (lv_at hl 0 rfl) ?_
          refine lv_iload_n C0.hx C0.hb dX9_readDoor_177 rfl (lv_at hl 2 rfl) ?_
          obtain ⟨S35, hS35, h⟩ := Option.bind_eq_some_iff.mp h
          refine q_putI C0 hw hS35 rfl in_9 tyX9_ok nmX9 ⟨by decide, by decide, rfl, rfl⟩ rfl kw_873 dX9_readDoor_178 (fun H locs hw => ?_)
          exact w_X9_readDoor_b181 C0 hr hlocks a0 x1 x3 S35 _ _ _ hw (lv_sub hl [0, 1, 3] rfl) h
    · have h := (if_neg hc).symm.trans h
      refine lv_aload_n C0.hx C0.hb dX9_readDoor_89 rfl (lv_at hl 0 rfl) ?_
      obtain ⟨r36, hr36, h⟩ := Option.bind_eq_some_iff.mp h
      refine q_getR C0 hw hr36 rfl in_9 (by decide) kw_876 dX9_readDoor_90 ?_
      refine lv_bipush (v := (20 : Int32)) C0.hx C0.hb dX9_readDoor_93 (by decide) ?_
      refine lv_iconst (v := (2 : Int32)) C0.hx C0.hb dX9_readDoor_95 (by decide) ?_
      refine lv_iload C0.hx C0.hb dX9_readDoor_96 (lv_at hl 5 rfl) ?_
      refine lv_imul C0.hx C0.hb dX9_readDoor_98 ?_
      refine lv_iadd C0.hx C0.hb dX9_readDoor_99 ?_
      obtain ⟨v37, hv37, h⟩ := Option.bind_eq_some_iff.mp h
      refine q_ldI C0 hw hv37 dX9_readDoor_100 ?_
      refine lv_istore (lv' := [(6, .int v37), (0, .ref (b0 + a0)), (1, .int x1), (2, .int x2), (3, .int x3), (4, .int x4), (5, .int x5)]) C0.hx C0.hb dX9_readDoor_101 hl (by decide) rfl (fun ls hl => ?_)
      refine lv_aload_n C0.hx C0.hb dX9_readDoor_103 rfl (lv_at hl 1 rfl) ?_
      obtain ⟨r38, hr38, h⟩ := Option.bind_eq_some_iff.mp h
      refine q_getR C0 hw hr38 rfl in_9 (by decide) kw_876 dX9_readDoor_104 ?_
      refine lv_bipush (v := (21 : Int32)) C0.hx C0.hb dX9_readDoor_107 (by decide) ?_
      refine lv_iconst (v := (2 : Int32)) C0.hx C0.hb dX9_readDoor_109 (by decide) ?_
      refine lv_iload C0.hx C0.hb dX9_readDoor_110 (lv_at hl 6 rfl) ?_
      refine lv_imul C0.hx C0.hb dX9_readDoor_112 ?_
      refine lv_iadd C0.hx C0.hb dX9_readDoor_113 ?_
      obtain ⟨v39, hv39, h⟩ := Option.bind_eq_some_iff.mp h
      refine q_ldI C0 hw hv39 dX9_readDoor_114 ?_
      refine lv_istore (lv' := [(7, .int v39), (6, .int v37), (0, .ref (b0 + a0)), (1, .int x1), (2, .int x2), (3, .int x3), (4, .int x4), (5, .int x5)]) C0.hx C0.hb dX9_readDoor_115 hl (by decide) rfl (fun ls hl => ?_)
      refine lv_iload C0.hx C0.hb dX9_readDoor_117 (lv_at hl 6 rfl) ?_
      refine lv_if_ne (tgt := 146) C0.hx C0.hb dX9_readDoor_119 (by decide) (fun hc => ?_) (fun hc => ?_)
      · have h := (if_neg hc).symm.trans h
        exact w_X9_readDoor_b146 C0 hr hlocks (fun a0 x1 x2 x3 x4 x5 S => f_X9_readDoor_b78  n a0 x1 x2 x3 x4 x5 S) ih a0 x1 x2 x3 x5 S _ _ _ hw (lv_sub hl [2, 3, 4, 5, 7] rfl) h
      · have h := (if_pos hc).symm.trans h
        refine lv_iload C0.hx C0.hb dX9_readDoor_122 (lv_at hl 1 rfl) ?_
        refine lv_iload_n C0.hx C0.hb dX9_readDoor_124 rfl (lv_at hl 3 rfl) ?_
        refine lv_icmp_ne (tgt := 134) C0.hx C0.hb dX9_readDoor_125 (by decide) (fun hc => ?_) (fun hc => ?_)
        · have h := (if_neg hc).symm.trans h
          exact w_X9_readDoor_b134 C0 hr hlocks (fun a0 x1 x2 x3 x4 x5 S => f_X9_readDoor_b78  n a0 x1 x2 x3 x4 x5 S) ih a0 x1 x2 x3 x5 v37 v39 S _ _ _ hw (lv_sub hl [2, 3, 4, 5, 7, 1, 0] rfl) h
        · have h := (if_pos hc).symm.trans h
          refine lv_iload C0.hx C0.hb dX9_readDoor_128 (lv_at hl 0 rfl) ?_
          refine lv_iload_n C0.hx C0.hb dX9_readDoor_130 rfl (lv_at hl 5 rfl) ?_
          refine lv_icmp_eq (tgt := 146) C0.hx C0.hb dX9_readDoor_131 (by decide) (fun hc => ?_) (fun hc => ?_)
          · have h := (if_pos hc).symm.trans h
            exact w_X9_readDoor_b146 C0 hr hlocks (fun a0 x1 x2 x3 x4 x5 S => f_X9_readDoor_b78  n a0 x1 x2 x3 x4 x5 S) ih a0 x1 x2 x3 x5 S _ _ _ hw (lv_sub hl [2, 3, 4, 5, 7] rfl) h
          · have h := (if_neg hc).symm.trans h
            exact w_X9_readDoor_b134 C0 hr hlocks (fun a0 x1 x2 x3 x4 x5 S => f_X9_readDoor_b78  n a0 x1 x2 x3 x4 x5 S) ih a0 x1 x2 x3 x5 v37 v39 S _ _ _ hw (lv_sub hl [2, 3, 4, 5, 7, 1, 0] rfl) h
set_option maxHeartbeats 4000000 in
set_option maxRecDepth 100000 in
theorem w_X9_readDoor_b73 {p : Program} {l : Launch} {e : Env} {s : State} {m : MethodId} {args : Array Value} {below : List Frame} {meth : Method} {c : Code} {b0 : Nat} {D : va_G} {cy : Nat → ClassId} {q : Mem} (C0 : Cx p m c cX9_readDoor 8 s args RX9 D cy) (hr : meth.sig.returnType = none) (hlocks : meth.locks = false) : ∀ (a0 : Nat) (x1 : Int32) (x2 : Int32) (x3 : Int32) (t0 : Int32) (S : Mem) (H : Heap) (locs : List Loc) (ls : Array Slot), Wd b0 D cy S s.heap H locs → lv_has ls 8 [(0, .ref (b0 + a0)), (1, .int x1), (2, .int x2), (3, .int x3)] → f_X9_readDoor_b73  a0 x1 x2 x3 t0 S = some q → W p l e rm_X9_readDoor s m args below meth c H locs 0 0 (MQ below (Qp b0 D cy none q) args s 0 0 (fun q => b0 ≤ q)) (F0 m 73 ls [.int t0]) := by
  intro a0 x1 x2 x3 t0 S H locs ls hw hl h
  rw [f_X9_readDoor_b73] at h
  refine lv_istore (lv' := [(4, .int t0), (0, .ref (b0 + a0)), (1, .int x1), (2, .int x2), (3, .int x3)]) C0.hx C0.hb dX9_readDoor_73 hl (by decide) rfl (fun ls hl => ?_)
  refine lv_iconst (v := (0 : Int32)) C0.hx C0.hb dX9_readDoor_75 (by decide) ?_
  refine lv_istore (lv' := [(5, .int (0 : Int32)), (4, .int t0), (0, .ref (b0 + a0)), (1, .int x1), (2, .int x2), (3, .int x3)]) C0.hx C0.hb dX9_readDoor_76 hl (by decide) rfl (fun ls hl => ?_)
  exact w_X9_readDoor_b78 C0 hr hlocks FU a0 x1 x2 x3 t0 (0 : Int32) S _ _ _ hw (lv_sub hl [2, 3, 4, 5, 1, 0] rfl) h
set_option maxHeartbeats 4000000 in
set_option maxRecDepth 100000 in
theorem m_X9_readDoor (l : Launch) (b0 : Nat) (D : va_G) (cy : Nat → ClassId) (S : Mem) (a0 : Nat) {q : Mem} (h : f_X9_readDoor a0 S = some q) : Met l yX9_readDoor [.code yX9_readDoor cX9_readDoor 8 (none)] rm_X9_readDoor (Pr b0 D cy S [.ref (b0 + a0)]) (Qp b0 D cy none q) 0 0 (fun q => b0 ≤ q) := by
  refine Met.ofW (cc := cX9_readDoor) (maxL := 8) (ret := none) (by decide) rfl ?_
  intro p e s m args below meth c s₁ B hml hv
  obtain ⟨rfl, hP, hK, hT⟩ := hv
  have C0 : Cx p m c cX9_readDoor 8 s (List.toArray [.ref (b0 + a0)]) RX9 D cy := ⟨⟨B.exec, B.bytes, hml, findClass_of_methodNamed B.named, fun w h => hT w h _⟩, hK, hT⟩
  have hr : meth.sig.returnType = none := B.returns
  have hlocks := B.notSynchronized
  have hw : Wd b0 D cy S s.heap s.heap [] := ⟨hP, va_S.rf⟩
  have hl := lv_entry ([.ref (b0 + a0)]) (n := 8) (Nat.le_of_ble_eq_true rfl)
  rw [lg_entry_eq]
  generalize (lg_sl ([.ref (b0 + a0)]) ++ List.replicate (8 - (lg_sl ([.ref (b0 + a0)])).length) Slot.unset).toArray = ls at hl ⊢
  have hl : lv_has ls 8 [(0, .ref (b0 + a0))] := hl
  rw [f_X9_readDoor] at h
  show W p l e rm_X9_readDoor s m _ below meth c s.heap [] 0 0 _ _
  refine lv_aload_n C0.hx C0.hb dX9_readDoor_0 rfl (lv_at hl 0 rfl) ?_
  obtain ⟨r1, hr1, h⟩ := Option.bind_eq_some_iff.mp h
  refine q_getR C0 hw hr1 rfl in_9 (by decide) kw_876 dX9_readDoor_1 ?_
  refine lv_iconst (v := (2 : Int32)) C0.hx C0.hb dX9_readDoor_4 (by decide) ?_
  obtain ⟨v2, hv2, h⟩ := Option.bind_eq_some_iff.mp h
  refine q_ldI C0 hw hv2 dX9_readDoor_5 ?_
  refine lv_bipush (v := (12 : Int32)) C0.hx C0.hb dX9_readDoor_6 (by decide) ?_
  refine lv_icmp_ne (tgt := 17) C0.hx C0.hb dX9_readDoor_8 (by decide) (fun hc => ?_) (fun hc => ?_)
  · have h := (if_neg hc).symm.trans h
    refine lv_aload_n C0.hx C0.hb dX9_readDoor_17 rfl (lv_at hl 0 rfl) ?_
    refine lv_dup C0.hx C0.hb dX9_readDoor_18 rfl ?_
    obtain ⟨v3, hv3, h⟩ := Option.bind_eq_some_iff.mp h
    refine q_getI C0 hw hv3 rfl in_9 (by decide) kw_873 dX9_readDoor_19 ?_
    refine lv_iconst (v := (1 : Int32)) C0.hx C0.hb dX9_readDoor_22 (by decide) ?_
    refine lv_iadd C0.hx C0.hb dX9_readDoor_23 ?_
    obtain ⟨S4, hS4, h⟩ := Option.bind_eq_some_iff.mp h
    refine q_putI C0 hw hS4 rfl in_9 tyX9_ok nmX9 ⟨by decide, by decide, rfl, rfl⟩ rfl kw_873 dX9_readDoor_24 (fun H locs hw => ?_)
    refine lv_aload_n C0.hx C0.hb dX9_readDoor_27 rfl (lv_at hl 0 rfl) ?_
    refine lv_aload_n C0.hx C0.hb dX9_readDoor_28 rfl (lv_at hl 0 rfl) ?_
    obtain ⟨r5, hr5, h⟩ := Option.bind_eq_some_iff.mp h
    refine q_getR C0 hw hr5 rfl in_9 (by decide) kw_876 dX9_readDoor_29 ?_
    refine lv_iconst (v := (1 : Int32)) C0.hx C0.hb dX9_readDoor_32 (by decide) ?_
    obtain ⟨v6, hv6, h⟩ := Option.bind_eq_some_iff.mp h
    refine q_ldI C0 hw hv6 dX9_readDoor_33 ?_
    refine lv_iconst (v := (1 : Int32)) C0.hx C0.hb dX9_readDoor_34 (by decide) ?_
    refine lv_isub C0.hx C0.hb dX9_readDoor_35 ?_
    obtain ⟨c7, hc7, h⟩ := Option.bind_eq_some_iff.mp h
    obtain ⟨q8, hq8, h⟩ := Option.bind_eq_some_iff.mp h
    refine q_callV (n := 1) (av := [.int (v6 - (1 : Int32))]) (rest := []) (st1 := [.int q8.1]) C0 hw (m_X9_number l b0 D cy S4 a0 (v6 - (1 : Int32)) hq8) hc7 rfl (by decide) (goodV kw_976 kw_978 kw_28 kw_72 kw_979) ⟨rfl, rfl⟩ (by decide +kernel) ⟨(Nat.le_of_ble_eq_true rfl), (Nat.le_of_ble_eq_true rfl)⟩ rfl hl.1 rfl (Nat.le_of_ble_eq_true rfl) dX9_readDoor_36 ⟨Nat.zero_le _, Nat.zero_le _⟩ rfl (fun H locs hw => ?_)
    refine lv_istore_n (lv' := [(1, .int q8.1), (0, .ref (b0 + a0))]) C0.hx C0.hb dX9_readDoor_39 rfl hl (by decide) rfl (fun ls hl => ?_)
    refine lv_aload_n C0.hx C0.hb dX9_readDoor_40 rfl (lv_at hl 1 rfl) ?_
    obtain ⟨c9, hc9, h⟩ := Option.bind_eq_some_iff.mp h
    obtain ⟨q10, hq10, h⟩ := Option.bind_eq_some_iff.mp h
    refine q_callV (n := 0) (av := []) (rest := []) (st1 := [.int q10.1]) C0 hw (m_X9_here l b0 D cy q8.2 a0 hq10) hc9 rfl (by decide) (goodV kw_960 kw_962 kw_24 kw_72 kw_963) ⟨rfl, rfl⟩ (by decide +kernel) ⟨(Nat.le_of_ble_eq_true rfl), (Nat.le_of_ble_eq_true rfl)⟩ rfl hl.1 rfl (Nat.le_of_ble_eq_true rfl) dX9_readDoor_41 ⟨Nat.zero_le _, Nat.zero_le _⟩ rfl (fun H locs hw => ?_)
    refine lv_pop C0.hx C0.hb dX9_readDoor_44 rfl ?_
    refine lv_aload_n C0.hx C0.hb dX9_readDoor_45 rfl (lv_at hl 1 rfl) ?_
    obtain ⟨v11, hv11, h⟩ := Option.bind_eq_some_iff.mp h
    refine q_getI C0 hw hv11 rfl in_9 (by decide) kw_873 dX9_readDoor_46 ?_
    refine lv_istore_n (lv' := [(2, .int v11), (1, .int q8.1), (0, .ref (b0 + a0))]) C0.hx C0.hb dX9_readDoor_49 rfl hl (by decide) rfl (fun ls hl => ?_)
    refine lv_aload_n C0.hx C0.hb dX9_readDoor_50 rfl (lv_at hl 2 rfl) ?_
    refine lv_aload_n C0.hx C0.hb dX9_readDoor_51 rfl (lv_at hl 2 rfl) ?_
    obtain ⟨r12, hr12, h⟩ := Option.bind_eq_some_iff.mp h
    refine q_getR C0 hw hr12 rfl in_9 (by decide) kw_876 dX9_readDoor_52 ?_
    refine lv_iconst (v := (1 : Int32)) C0.hx C0.hb dX9_readDoor_55 (by decide) ?_
    obtain ⟨v13, hv13, h⟩ := Option.bind_eq_some_iff.mp h
    refine q_ldI C0 hw hv13 dX9_readDoor_56 ?_
    refine lv_iconst (v := (1 : Int32)) C0.hx C0.hb dX9_readDoor_57 (by decide) ?_
    refine lv_isub C0.hx C0.hb dX9_readDoor_58 ?_
    obtain ⟨c14, hc14, h⟩ := Option.bind_eq_some_iff.mp h
    obtain ⟨q15, hq15, h⟩ := Option.bind_eq_some_iff.mp h
    refine q_callV (n := 1) (av := [.int (v13 - (1 : Int32))]) (rest := []) (st1 := [.int q15.1]) C0 hw (m_X9_number l b0 D cy q10.2 a0 (v13 - (1 : Int32)) hq15) hc14 rfl (by decide) (goodV kw_976 kw_978 kw_28 kw_72 kw_979) ⟨rfl, rfl⟩ (by decide +kernel) ⟨(Nat.le_of_ble_eq_true rfl), (Nat.le_of_ble_eq_true rfl)⟩ rfl hl.1 rfl (Nat.le_of_ble_eq_true rfl) dX9_readDoor_59 ⟨Nat.zero_le _, Nat.zero_le _⟩ rfl (fun H locs hw => ?_)
    refine lv_istore_n (lv' := [(3, .int q15.1), (2, .int v11), (1, .int q8.1), (0, .ref (b0 + a0))]) C0.hx C0.hb dX9_readDoor_62 rfl hl (by decide) rfl (fun ls hl => ?_)
    refine lv_iload_n C0.hx C0.hb dX9_readDoor_63 rfl (lv_at hl 2 rfl) ?_
    refine lv_iload_n C0.hx C0.hb dX9_readDoor_64 rfl (lv_at hl 0 rfl) ?_
    refine lv_icmp_ne (tgt := 72) C0.hx C0.hb dX9_readDoor_65 (by decide) (fun hc => ?_) (fun hc => ?_)
    · have h := (if_neg hc).symm.trans h
      refine lv_iconst (v := (0 : Int32)) C0.hx C0.hb dX9_readDoor_72 (by decide) ?_
      exact w_X9_readDoor_b73 C0 hr hlocks a0 q8.1 v11 q15.1 (0 : Int32) q15.2 _ _ _ hw (lv_sub hl [3, 2, 1, 0] rfl) h
    · have h := (if_pos hc).symm.trans h
      refine lv_iconst (v := (1 : Int32)) C0.hx C0.hb dX9_readDoor_68 (by decide) ?_
      refine lv_goto (tgt := 73) C0.hx C0.hb dX9_readDoor_69 (by decide) ?_
      exact w_X9_readDoor_b73 C0 hr hlocks a0 q8.1 v11 q15.1 (1 : Int32) q15.2 _ _ _ hw (lv_sub hl [3, 2, 1, 0] rfl) h
  · have h := (if_pos hc).symm.trans h
    refine lv_aload_n C0.hx C0.hb dX9_readDoor_11 rfl (lv_at hl 0 rfl) ?_
    refine lv_iconst (v := (3 : Int32)) C0.hx C0.hb dX9_readDoor_12 (by decide) ?_
    obtain ⟨c41, hc41, h⟩ := Option.bind_eq_some_iff.mp h
    obtain ⟨S42, hS42, h⟩ := Option.bind_eq_some_iff.mp h
    refine q_callV (n := 1) (av := [.int (3 : Int32)]) (rest := []) (st1 := []) C0 hw (m_X9_faults l b0 D cy S a0 (3 : Int32) hS42) hc41 rfl (by decide) (goodV kw_972 kw_974 kw_27 kw_72 kw_975) ⟨rfl, rfl⟩ (by decide +kernel) ⟨(Nat.le_of_ble_eq_true rfl), (Nat.le_of_ble_eq_true rfl)⟩ rfl hl.1 rfl (Nat.le_of_ble_eq_true rfl) dX9_readDoor_13 ⟨Nat.zero_le _, Nat.zero_le _⟩ rfl (fun H locs hw => ?_)
    obtain rfl := Option.some.inj h
    exact q_retv C0 hw hr hlocks dX9_readDoor_16
abbrev rm_X9_readPetition : Room := { frames := 3, cells := 0, slots := 0, locals := 69 }
def f_X9_readPetition (a0 : Nat) (S : Mem) : Option Mem :=
    (gR 9 14 S a0).bind fun r1 =>
      (ldI S r1 (3 : Int32)).bind fun v2 =>
      (if v2 = (6 : Int32) then
      (ck 9 S a0).bind fun c25 =>
      (f_X9_faults a0 (3 : Int32) S).bind fun S26 =>
      some S26
      else
      (gI 9 11 S a0).bind fun v3 =>
      (pI 9 11 S a0 (v3 + (1 : Int32))).bind fun S4 =>
      (gR 9 14 S4 a0).bind fun r5 =>
      (ldI S4 r5 (1 : Int32)).bind fun v6 =>
      (ck 9 S4 a0).bind fun c7 =>
      (f_X9_number a0 (v6 - (1 : Int32)) S4).bind fun q8 =>
      (ck 9 q8.2 a0).bind fun c9 =>
      (f_X9_number a0 (99 : Int32) q8.2).bind fun q10 =>
      (ck 9 q10.2 a0).bind fun c11 =>
      (f_X9_ends a0 q10.2).bind fun S12 =>
      (gI 9 12 S12 a0).bind fun v13 =>
      (if v13 = (0 : Int32) then
      (gR 9 14 S12 a0).bind fun r14 =>
      (gR 9 14 S12 a0).bind fun r15 =>
      (ldI S12 r15 (3 : Int32)).bind fun v16 =>
      (stI S12 r14 ((44 : Int32) + ((2 : Int32) * v16)) q8.1).bind fun S17 =>
      (gR 9 14 S17 a0).bind fun r18 =>
      (gR 9 14 S17 a0).bind fun r19 =>
      (ldI S17 r19 (3 : Int32)).bind fun v20 =>
      (stI S17 r18 ((45 : Int32) + ((2 : Int32) * v20)) q10.1).bind fun S21 =>
      (gR 9 14 S21 a0).bind fun r22 =>
      (ldI S21 r22 (3 : Int32)).bind fun v23 =>
      (stI S21 r22 (3 : Int32) (v23 + (1 : Int32))).bind fun S24 =>
      some S24
      else
      some S12))
set_option maxHeartbeats 4000000 in
set_option maxRecDepth 100000 in
theorem m_X9_readPetition (l : Launch) (b0 : Nat) (D : va_G) (cy : Nat → ClassId) (S : Mem) (a0 : Nat) {q : Mem} (h : f_X9_readPetition a0 S = some q) : Met l yX9_readPetition [.code yX9_readPetition cX9_readPetition 3 (none)] rm_X9_readPetition (Pr b0 D cy S [.ref (b0 + a0)]) (Qp b0 D cy none q) 0 0 (fun q => b0 ≤ q) := by
  refine Met.ofW (cc := cX9_readPetition) (maxL := 3) (ret := none) (by decide) rfl ?_
  intro p e s m args below meth c s₁ B hml hv
  obtain ⟨rfl, hP, hK, hT⟩ := hv
  have C0 : Cx p m c cX9_readPetition 3 s (List.toArray [.ref (b0 + a0)]) RX9 D cy := ⟨⟨B.exec, B.bytes, hml, findClass_of_methodNamed B.named, fun w h => hT w h _⟩, hK, hT⟩
  have hr : meth.sig.returnType = none := B.returns
  have hlocks := B.notSynchronized
  have hw : Wd b0 D cy S s.heap s.heap [] := ⟨hP, va_S.rf⟩
  have hl := lv_entry ([.ref (b0 + a0)]) (n := 3) (Nat.le_of_ble_eq_true rfl)
  rw [lg_entry_eq]
  generalize (lg_sl ([.ref (b0 + a0)]) ++ List.replicate (3 - (lg_sl ([.ref (b0 + a0)])).length) Slot.unset).toArray = ls at hl ⊢
  have hl : lv_has ls 3 [(0, .ref (b0 + a0))] := hl
  rw [f_X9_readPetition] at h
  show W p l e rm_X9_readPetition s m _ below meth c s.heap [] 0 0 _ _
  refine lv_aload_n C0.hx C0.hb dX9_readPetition_0 rfl (lv_at hl 0 rfl) ?_
  obtain ⟨r1, hr1, h⟩ := Option.bind_eq_some_iff.mp h
  refine q_getR C0 hw hr1 rfl in_9 (by decide) kw_876 dX9_readPetition_1 ?_
  refine lv_iconst (v := (3 : Int32)) C0.hx C0.hb dX9_readPetition_4 (by decide) ?_
  obtain ⟨v2, hv2, h⟩ := Option.bind_eq_some_iff.mp h
  refine q_ldI C0 hw hv2 dX9_readPetition_5 ?_
  refine lv_bipush (v := (6 : Int32)) C0.hx C0.hb dX9_readPetition_6 (by decide) ?_
  refine lv_icmp_ne (tgt := 17) C0.hx C0.hb dX9_readPetition_8 (by decide) (fun hc => ?_) (fun hc => ?_)
  · have h := (if_neg hc).symm.trans h
    refine lv_aload_n C0.hx C0.hb dX9_readPetition_17 rfl (lv_at hl 0 rfl) ?_
    refine lv_dup C0.hx C0.hb dX9_readPetition_18 rfl ?_
    obtain ⟨v3, hv3, h⟩ := Option.bind_eq_some_iff.mp h
    refine q_getI C0 hw hv3 rfl in_9 (by decide) kw_873 dX9_readPetition_19 ?_
    refine lv_iconst (v := (1 : Int32)) C0.hx C0.hb dX9_readPetition_22 (by decide) ?_
    refine lv_iadd C0.hx C0.hb dX9_readPetition_23 ?_
    obtain ⟨S4, hS4, h⟩ := Option.bind_eq_some_iff.mp h
    refine q_putI C0 hw hS4 rfl in_9 tyX9_ok nmX9 ⟨by decide, by decide, rfl, rfl⟩ rfl kw_873 dX9_readPetition_24 (fun H locs hw => ?_)
    refine lv_aload_n C0.hx C0.hb dX9_readPetition_27 rfl (lv_at hl 0 rfl) ?_
    refine lv_aload_n C0.hx C0.hb dX9_readPetition_28 rfl (lv_at hl 0 rfl) ?_
    obtain ⟨r5, hr5, h⟩ := Option.bind_eq_some_iff.mp h
    refine q_getR C0 hw hr5 rfl in_9 (by decide) kw_876 dX9_readPetition_29 ?_
    refine lv_iconst (v := (1 : Int32)) C0.hx C0.hb dX9_readPetition_32 (by decide) ?_
    obtain ⟨v6, hv6, h⟩ := Option.bind_eq_some_iff.mp h
    refine q_ldI C0 hw hv6 dX9_readPetition_33 ?_
    refine lv_iconst (v := (1 : Int32)) C0.hx C0.hb dX9_readPetition_34 (by decide) ?_
    refine lv_isub C0.hx C0.hb dX9_readPetition_35 ?_
    obtain ⟨c7, hc7, h⟩ := Option.bind_eq_some_iff.mp h
    obtain ⟨q8, hq8, h⟩ := Option.bind_eq_some_iff.mp h
    refine q_callV (n := 1) (av := [.int (v6 - (1 : Int32))]) (rest := []) (st1 := [.int q8.1]) C0 hw (m_X9_number l b0 D cy S4 a0 (v6 - (1 : Int32)) hq8) hc7 rfl (by decide) (goodV kw_976 kw_978 kw_28 kw_72 kw_979) ⟨rfl, rfl⟩ (by decide +kernel) ⟨(Nat.le_of_ble_eq_true rfl), (Nat.le_of_ble_eq_true rfl)⟩ rfl hl.1 rfl (Nat.le_of_ble_eq_true rfl) dX9_readPetition_36 ⟨Nat.zero_le _, Nat.zero_le _⟩ rfl (fun H locs hw => ?_)
    refine lv_istore_n (lv' := [(1, .int q8.1), (0, .ref (b0 + a0))]) C0.hx C0.hb dX9_readPetition_39 rfl hl (by decide) rfl (fun ls hl => ?_)
    refine lv_aload_n C0.hx C0.hb dX9_readPetition_40 rfl (lv_at hl 1 rfl) ?_
    refine lv_bipush (v := (99 : Int32)) C0.hx C0.hb dX9_readPetition_41 (by decide) ?_
    obtain ⟨c9, hc9, h⟩ := Option.bind_eq_some_iff.mp h
    obtain ⟨q10, hq10, h⟩ := Option.bind_eq_some_iff.mp h
    refine q_callV (n := 1) (av := [.int (99 : Int32)]) (rest := []) (st1 := [.int q10.1]) C0 hw (m_X9_number l b0 D cy q8.2 a0 (99 : Int32) hq10) hc9 rfl (by decide) (goodV kw_976 kw_978 kw_28 kw_72 kw_979) ⟨rfl, rfl⟩ (by decide +kernel) ⟨(Nat.le_of_ble_eq_true rfl), (Nat.le_of_ble_eq_true rfl)⟩ rfl hl.1 rfl (Nat.le_of_ble_eq_true rfl) dX9_readPetition_43 ⟨Nat.zero_le _, Nat.zero_le _⟩ rfl (fun H locs hw => ?_)
    refine lv_istore_n (lv' := [(2, .int q10.1), (1, .int q8.1), (0, .ref (b0 + a0))]) C0.hx C0.hb dX9_readPetition_46 rfl hl (by decide) rfl (fun ls hl => ?_)
    refine lv_aload_n C0.hx C0.hb dX9_readPetition_47 rfl (lv_at hl 2 rfl) ?_
    obtain ⟨c11, hc11, h⟩ := Option.bind_eq_some_iff.mp h
    obtain ⟨S12, hS12, h⟩ := Option.bind_eq_some_iff.mp h
    refine q_callV (n := 0) (av := []) (rest := []) (st1 := []) C0 hw (m_X9_ends l b0 D cy q10.2 a0 hS12) hc11 rfl (by decide) (goodV kw_985 kw_987 kw_29 kw_72 kw_988) ⟨rfl, rfl⟩ (by decide +kernel) ⟨(Nat.le_of_ble_eq_true rfl), (Nat.le_of_ble_eq_true rfl)⟩ rfl hl.1 rfl (Nat.le_of_ble_eq_true rfl) dX9_readPetition_48 ⟨Nat.zero_le _, Nat.zero_le _⟩ rfl (fun H locs hw => ?_)
    refine lv_aload_n C0.hx C0.hb dX9_readPetition_51 rfl (lv_at hl 2 rfl) ?_
    obtain ⟨v13, hv13, h⟩ := Option.bind_eq_some_iff.mp h
    refine q_getI C0 hw hv13 rfl in_9 (by decide) kw_874 dX9_readPetition_52 ?_
    refine lv_if_ne (tgt := 102) C0.hx C0.hb dX9_readPetition_55 (by decide) (fun hc => ?_) (fun hc => ?_)
    · have h := (if_neg hc).symm.trans h
      obtain rfl := Option.some.inj h
      exact q_retv C0 hw hr hlocks dX9_readPetition_102
    · have h := (if_pos hc).symm.trans h
      refine lv_aload_n C0.hx C0.hb dX9_readPetition_58 rfl (lv_at hl 2 rfl) ?_
      obtain ⟨r14, hr14, h⟩ := Option.bind_eq_some_iff.mp h
      refine q_getR C0 hw hr14 rfl in_9 (by decide) kw_876 dX9_readPetition_59 ?_
      refine lv_bipush (v := (44 : Int32)) C0.hx C0.hb dX9_readPetition_62 (by decide) ?_
      refine lv_iconst (v := (2 : Int32)) C0.hx C0.hb dX9_readPetition_64 (by decide) ?_
      refine lv_aload_n C0.hx C0.hb dX9_readPetition_65 rfl (lv_at hl 2 rfl) ?_
      obtain ⟨r15, hr15, h⟩ := Option.bind_eq_some_iff.mp h
      refine q_getR C0 hw hr15 rfl in_9 (by decide) kw_876 dX9_readPetition_66 ?_
      refine lv_iconst (v := (3 : Int32)) C0.hx C0.hb dX9_readPetition_69 (by decide) ?_
      obtain ⟨v16, hv16, h⟩ := Option.bind_eq_some_iff.mp h
      refine q_ldI C0 hw hv16 dX9_readPetition_70 ?_
      refine lv_imul C0.hx C0.hb dX9_readPetition_71 ?_
      refine lv_iadd C0.hx C0.hb dX9_readPetition_72 ?_
      refine lv_iload_n C0.hx C0.hb dX9_readPetition_73 rfl (lv_at hl 1 rfl) ?_
      obtain ⟨S17, hS17, h⟩ := Option.bind_eq_some_iff.mp h
      refine q_stI C0 hw hS17 dX9_readPetition_74 (fun H locs hw => ?_)
      refine lv_aload_n C0.hx C0.hb dX9_readPetition_75 rfl (lv_at hl 2 rfl) ?_
      obtain ⟨r18, hr18, h⟩ := Option.bind_eq_some_iff.mp h
      refine q_getR C0 hw hr18 rfl in_9 (by decide) kw_876 dX9_readPetition_76 ?_
      refine lv_bipush (v := (45 : Int32)) C0.hx C0.hb dX9_readPetition_79 (by decide) ?_
      refine lv_iconst (v := (2 : Int32)) C0.hx C0.hb dX9_readPetition_81 (by decide) ?_
      refine lv_aload_n C0.hx C0.hb dX9_readPetition_82 rfl (lv_at hl 2 rfl) ?_
      obtain ⟨r19, hr19, h⟩ := Option.bind_eq_some_iff.mp h
      refine q_getR C0 hw hr19 rfl in_9 (by decide) kw_876 dX9_readPetition_83 ?_
      refine lv_iconst (v := (3 : Int32)) C0.hx C0.hb dX9_readPetition_86 (by decide) ?_
      obtain ⟨v20, hv20, h⟩ := Option.bind_eq_some_iff.mp h
      refine q_ldI C0 hw hv20 dX9_readPetition_87 ?_
      refine lv_imul C0.hx C0.hb dX9_readPetition_88 ?_
      refine lv_iadd C0.hx C0.hb dX9_readPetition_89 ?_
      refine lv_iload_n C0.hx C0.hb dX9_readPetition_90 rfl (lv_at hl 0 rfl) ?_
      obtain ⟨S21, hS21, h⟩ := Option.bind_eq_some_iff.mp h
      refine q_stI C0 hw hS21 dX9_readPetition_91 (fun H locs hw => ?_)
      refine lv_aload_n C0.hx C0.hb dX9_readPetition_92 rfl (lv_at hl 2 rfl) ?_
      obtain ⟨r22, hr22, h⟩ := Option.bind_eq_some_iff.mp h
      refine q_getR C0 hw hr22 rfl in_9 (by decide) kw_876 dX9_readPetition_93 ?_
      refine lv_iconst (v := (3 : Int32)) C0.hx C0.hb dX9_readPetition_96 (by decide) ?_
      refine lv_dup2_11 C0.hx C0.hb dX9_readPetition_97 rfl rfl ?_
      obtain ⟨v23, hv23, h⟩ := Option.bind_eq_some_iff.mp h
      refine q_ldI C0 hw hv23 dX9_readPetition_98 ?_
      refine lv_iconst (v := (1 : Int32)) C0.hx C0.hb dX9_readPetition_99 (by decide) ?_
      refine lv_iadd C0.hx C0.hb dX9_readPetition_100 ?_
      obtain ⟨S24, hS24, h⟩ := Option.bind_eq_some_iff.mp h
      refine q_stI C0 hw hS24 dX9_readPetition_101 (fun H locs hw => ?_)
      obtain rfl := Option.some.inj h
      exact q_retv C0 hw hr hlocks dX9_readPetition_102
  · have h := (if_pos hc).symm.trans h
    refine lv_aload_n C0.hx C0.hb dX9_readPetition_11 rfl (lv_at hl 0 rfl) ?_
    refine lv_iconst (v := (3 : Int32)) C0.hx C0.hb dX9_readPetition_12 (by decide) ?_
    obtain ⟨c25, hc25, h⟩ := Option.bind_eq_some_iff.mp h
    obtain ⟨S26, hS26, h⟩ := Option.bind_eq_some_iff.mp h
    refine q_callV (n := 1) (av := [.int (3 : Int32)]) (rest := []) (st1 := []) C0 hw (m_X9_faults l b0 D cy S a0 (3 : Int32) hS26) hc25 rfl (by decide) (goodV kw_972 kw_974 kw_27 kw_72 kw_975) ⟨rfl, rfl⟩ (by decide +kernel) ⟨(Nat.le_of_ble_eq_true rfl), (Nat.le_of_ble_eq_true rfl)⟩ rfl hl.1 rfl (Nat.le_of_ble_eq_true rfl) dX9_readPetition_13 ⟨Nat.zero_le _, Nat.zero_le _⟩ rfl (fun H locs hw => ?_)
    obtain rfl := Option.some.inj h
    exact q_retv C0 hw hr hlocks dX9_readPetition_16
abbrev rm_X9_readClause : Room := { frames := 4, cells := 0, slots := 0, locals := 96 }
def f_X9_readClause_b46 (a0 : Nat) (S : Mem) : Option Mem :=
    (ck 9 S a0).bind fun c5 =>
      (f_X9_faults a0 (1 : Int32) S).bind fun S6 =>
      some S6
def f_X9_readClause_b54 (a0 : Nat) (x1 : Int32) (S : Mem) : Option Mem :=
    (if x1 = (114 : Int32) then
      (ck 9 S a0).bind fun c11 =>
      (f_X9_readRoom a0 S).bind fun S12 =>
      some S12
      else
      (if x1 = (100 : Int32) then
      (ck 9 S a0).bind fun c9 =>
      (f_X9_readDoor a0 S).bind fun S10 =>
      some S10
      else
      (ck 9 S a0).bind fun c7 =>
      (f_X9_readPetition a0 S).bind fun S8 =>
      some S8))
def f_X9_readClause (a0 : Nat) (S : Mem) : Option Mem :=
    (ck 9 S a0).bind fun c1 =>
      (f_X9_here a0 S).bind fun q2 =>
      (if q2.1 = (115 : Int32) then
      (ck 9 q2.2 a0).bind fun c13 =>
      (f_X9_readRule a0 q2.2).bind fun S14 =>
      some S14
      else
      (gR 9 14 q2.2 a0).bind fun r3 =>
      (ldI q2.2 r3 (0 : Int32)).bind fun v4 =>
      (if v4 = (-1 : Int32) then
      f_X9_readClause_b46 a0 q2.2
      else
      (if q2.1 = (114 : Int32) then
      f_X9_readClause_b54 a0 q2.1 q2.2
      else
      (if q2.1 = (100 : Int32) then
      f_X9_readClause_b54 a0 q2.1 q2.2
      else
      (if q2.1 = (112 : Int32) then
      f_X9_readClause_b54 a0 q2.1 q2.2
      else
      f_X9_readClause_b46 a0 q2.2)))))
set_option maxHeartbeats 4000000 in
set_option maxRecDepth 100000 in
theorem w_X9_readClause_b46 {p : Program} {l : Launch} {e : Env} {s : State} {m : MethodId} {args : Array Value} {below : List Frame} {meth : Method} {c : Code} {b0 : Nat} {D : va_G} {cy : Nat → ClassId} {q : Mem} (C0 : Cx p m c cX9_readClause 2 s args RX9 D cy) (hr : meth.sig.returnType = none) (hlocks : meth.locks = false) : ∀ (a0 : Nat) (S : Mem) (H : Heap) (locs : List Loc) (ls : Array Slot), Wd b0 D cy S s.heap H locs → lv_has ls 2 [(0, .ref (b0 + a0))] → f_X9_readClause_b46  a0 S = some q → W p l e rm_X9_readClause s m args below meth c H locs 0 0 (MQ below (Qp b0 D cy none q) args s 0 0 (fun q => b0 ≤ q)) (F0 m 46 ls []) := by
  intro a0 S H locs ls hw hl h
  rw [f_X9_readClause_b46] at h
  refine lv_aload_n C0.hx C0.hb dX9_readClause_46 rfl (lv_at hl 0 rfl) ?_
  refine lv_iconst (v := (1 : Int32)) C0.hx C0.hb dX9_readClause_47 (by decide) ?_
  obtain ⟨c5, hc5, h⟩ := Option.bind_eq_some_iff.mp h
  obtain ⟨S6, hS6, h⟩ := Option.bind_eq_some_iff.mp h
  refine q_callV (n := 1) (av := [.int (1 : Int32)]) (rest := []) (st1 := []) C0 hw (m_X9_faults l b0 D cy S a0 (1 : Int32) hS6) hc5 rfl (by decide) (goodV kw_972 kw_974 kw_27 kw_72 kw_975) ⟨rfl, rfl⟩ (by decide +kernel) ⟨(Nat.le_of_ble_eq_true rfl), (Nat.le_of_ble_eq_true rfl)⟩ rfl hl.1 rfl (Nat.le_of_ble_eq_true rfl) dX9_readClause_48 ⟨Nat.zero_le _, Nat.zero_le _⟩ rfl (fun H locs hw => ?_)
  refine lv_goto (tgt := 84) C0.hx C0.hb dX9_readClause_51 (by decide) ?_
  obtain rfl := Option.some.inj h
  exact q_retv C0 hw hr hlocks dX9_readClause_84
set_option maxHeartbeats 4000000 in
set_option maxRecDepth 100000 in
theorem w_X9_readClause_b54 {p : Program} {l : Launch} {e : Env} {s : State} {m : MethodId} {args : Array Value} {below : List Frame} {meth : Method} {c : Code} {b0 : Nat} {D : va_G} {cy : Nat → ClassId} {q : Mem} (C0 : Cx p m c cX9_readClause 2 s args RX9 D cy) (hr : meth.sig.returnType = none) (hlocks : meth.locks = false) : ∀ (a0 : Nat) (x1 : Int32) (S : Mem) (H : Heap) (locs : List Loc) (ls : Array Slot), Wd b0 D cy S s.heap H locs → lv_has ls 2 [(0, .ref (b0 + a0)), (1, .int x1)] → f_X9_readClause_b54  a0 x1 S = some q → W p l e rm_X9_readClause s m args below meth c H locs 0 0 (MQ below (Qp b0 D cy none q) args s 0 0 (fun q => b0 ≤ q)) (F0 m 54 ls []) := by
  intro a0 x1 S H locs ls hw hl h
  rw [f_X9_readClause_b54] at h
  refine lv_iload_n C0.hx C0.hb dX9_readClause_54 rfl (lv_at hl 1 rfl) ?_
  refine lv_bipush (v := (114 : Int32)) C0.hx C0.hb dX9_readClause_55 (by decide) ?_
  refine lv_icmp_ne (tgt := 67) C0.hx C0.hb dX9_readClause_57 (by decide) (fun hc => ?_) (fun hc => ?_)
  · have h := (if_neg hc).symm.trans h
    refine lv_iload_n C0.hx C0.hb dX9_readClause_67 rfl (lv_at hl 1 rfl) ?_
    refine lv_bipush (v := (100 : Int32)) C0.hx C0.hb dX9_readClause_68 (by decide) ?_
    refine lv_icmp_ne (tgt := 80) C0.hx C0.hb dX9_readClause_70 (by decide) (fun hc => ?_) (fun hc => ?_)
    · have h := (if_neg hc).symm.trans h
      refine lv_aload_n C0.hx C0.hb dX9_readClause_80 rfl (lv_at hl 0 rfl) ?_
      obtain ⟨c7, hc7, h⟩ := Option.bind_eq_some_iff.mp h
      obtain ⟨S8, hS8, h⟩ := Option.bind_eq_some_iff.mp h
      refine q_callV (n := 0) (av := []) (rest := []) (st1 := []) C0 hw (m_X9_readPetition l b0 D cy S a0 hS8) hc7 rfl (by decide) (goodV kw_997 kw_999 kw_32 kw_72 kw_1000) ⟨rfl, rfl⟩ (by decide +kernel) ⟨(Nat.le_of_ble_eq_true rfl), (Nat.le_of_ble_eq_true rfl)⟩ rfl hl.1 rfl (Nat.le_of_ble_eq_true rfl) dX9_readClause_81 ⟨Nat.zero_le _, Nat.zero_le _⟩ rfl (fun H locs hw => ?_)
      obtain rfl := Option.some.inj h
      exact q_retv C0 hw hr hlocks dX9_readClause_84
    · have h := (if_pos hc).symm.trans h
      refine lv_aload_n C0.hx C0.hb dX9_readClause_73 rfl (lv_at hl 0 rfl) ?_
      obtain ⟨c9, hc9, h⟩ := Option.bind_eq_some_iff.mp h
      obtain ⟨S10, hS10, h⟩ := Option.bind_eq_some_iff.mp h
      refine q_callV (n := 0) (av := []) (rest := []) (st1 := []) C0 hw (m_X9_readDoor l b0 D cy S a0 hS10) hc9 rfl (by decide) (goodV kw_993 kw_995 kw_31 kw_72 kw_996) ⟨rfl, rfl⟩ (by decide +kernel) ⟨(Nat.le_of_ble_eq_true rfl), (Nat.le_of_ble_eq_true rfl)⟩ rfl hl.1 rfl (Nat.le_of_ble_eq_true rfl) dX9_readClause_74 ⟨Nat.zero_le _, Nat.zero_le _⟩ rfl (fun H locs hw => ?_)
      refine lv_goto (tgt := 84) C0.hx C0.hb dX9_readClause_77 (by decide) ?_
      obtain rfl := Option.some.inj h
      exact q_retv C0 hw hr hlocks dX9_readClause_84
  · have h := (if_pos hc).symm.trans h
    refine lv_aload_n C0.hx C0.hb dX9_readClause_60 rfl (lv_at hl 0 rfl) ?_
    obtain ⟨c11, hc11, h⟩ := Option.bind_eq_some_iff.mp h
    obtain ⟨S12, hS12, h⟩ := Option.bind_eq_some_iff.mp h
    refine q_callV (n := 0) (av := []) (rest := []) (st1 := []) C0 hw (m_X9_readRoom l b0 D cy S a0 hS12) hc11 rfl (by decide) (goodV kw_989 kw_991 kw_30 kw_72 kw_992) ⟨rfl, rfl⟩ (by decide +kernel) ⟨(Nat.le_of_ble_eq_true rfl), (Nat.le_of_ble_eq_true rfl)⟩ rfl hl.1 rfl (Nat.le_of_ble_eq_true rfl) dX9_readClause_61 ⟨Nat.zero_le _, Nat.zero_le _⟩ rfl (fun H locs hw => ?_)
    refine lv_goto (tgt := 84) C0.hx C0.hb dX9_readClause_64 (by decide) ?_
    obtain rfl := Option.some.inj h
    exact q_retv C0 hw hr hlocks dX9_readClause_84
set_option maxHeartbeats 4000000 in
set_option maxRecDepth 100000 in
theorem m_X9_readClause (l : Launch) (b0 : Nat) (D : va_G) (cy : Nat → ClassId) (S : Mem) (a0 : Nat) {q : Mem} (h : f_X9_readClause a0 S = some q) : Met l yX9_readClause [.code yX9_readClause cX9_readClause 2 (none)] rm_X9_readClause (Pr b0 D cy S [.ref (b0 + a0)]) (Qp b0 D cy none q) 0 0 (fun q => b0 ≤ q) := by
  refine Met.ofW (cc := cX9_readClause) (maxL := 2) (ret := none) (by decide) rfl ?_
  intro p e s m args below meth c s₁ B hml hv
  obtain ⟨rfl, hP, hK, hT⟩ := hv
  have C0 : Cx p m c cX9_readClause 2 s (List.toArray [.ref (b0 + a0)]) RX9 D cy := ⟨⟨B.exec, B.bytes, hml, findClass_of_methodNamed B.named, fun w h => hT w h _⟩, hK, hT⟩
  have hr : meth.sig.returnType = none := B.returns
  have hlocks := B.notSynchronized
  have hw : Wd b0 D cy S s.heap s.heap [] := ⟨hP, va_S.rf⟩
  have hl := lv_entry ([.ref (b0 + a0)]) (n := 2) (Nat.le_of_ble_eq_true rfl)
  rw [lg_entry_eq]
  generalize (lg_sl ([.ref (b0 + a0)]) ++ List.replicate (2 - (lg_sl ([.ref (b0 + a0)])).length) Slot.unset).toArray = ls at hl ⊢
  have hl : lv_has ls 2 [(0, .ref (b0 + a0))] := hl
  rw [f_X9_readClause] at h
  show W p l e rm_X9_readClause s m _ below meth c s.heap [] 0 0 _ _
  refine lv_aload_n C0.hx C0.hb dX9_readClause_0 rfl (lv_at hl 0 rfl) ?_
  obtain ⟨c1, hc1, h⟩ := Option.bind_eq_some_iff.mp h
  obtain ⟨q2, hq2, h⟩ := Option.bind_eq_some_iff.mp h
  refine q_callV (n := 0) (av := []) (rest := []) (st1 := [.int q2.1]) C0 hw (m_X9_here l b0 D cy S a0 hq2) hc1 rfl (by decide) (goodV kw_960 kw_962 kw_24 kw_72 kw_963) ⟨rfl, rfl⟩ (by decide +kernel) ⟨(Nat.le_of_ble_eq_true rfl), (Nat.le_of_ble_eq_true rfl)⟩ rfl hl.1 rfl (Nat.le_of_ble_eq_true rfl) dX9_readClause_1 ⟨Nat.zero_le _, Nat.zero_le _⟩ rfl (fun H locs hw => ?_)
  refine lv_istore_n (lv' := [(1, .int q2.1), (0, .ref (b0 + a0))]) C0.hx C0.hb dX9_readClause_4 rfl hl (by decide) rfl (fun ls hl => ?_)
  refine lv_iload_n C0.hx C0.hb dX9_readClause_5 rfl (lv_at hl 0 rfl) ?_
  refine lv_bipush (v := (115 : Int32)) C0.hx C0.hb dX9_readClause_6 (by decide) ?_
  refine lv_icmp_ne (tgt := 18) C0.hx C0.hb dX9_readClause_8 (by decide) (fun hc => ?_) (fun hc => ?_)
  · have h := (if_neg hc).symm.trans h
    refine lv_aload_n C0.hx C0.hb dX9_readClause_18 rfl (lv_at hl 1 rfl) ?_
    obtain ⟨r3, hr3, h⟩ := Option.bind_eq_some_iff.mp h
    refine q_getR C0 hw hr3 rfl in_9 (by decide) kw_876 dX9_readClause_19 ?_
    refine lv_iconst (v := (0 : Int32)) C0.hx C0.hb dX9_readClause_22 (by decide) ?_
    obtain ⟨v4, hv4, h⟩ := Option.bind_eq_some_iff.mp h
    refine q_ldI C0 hw hv4 dX9_readClause_23 ?_
    refine lv_iconst (v := (-1 : Int32)) C0.hx C0.hb dX9_readClause_24 (by decide) ?_
    refine lv_icmp_eq (tgt := 46) C0.hx C0.hb dX9_readClause_25 (by decide) (fun hc => ?_) (fun hc => ?_)
    · have h := (if_pos hc).symm.trans h
      exact w_X9_readClause_b46 C0 hr hlocks a0 q2.2 _ _ _ hw (lv_sub hl [1] rfl) h
    · have h := (if_neg hc).symm.trans h
      refine lv_iload_n C0.hx C0.hb dX9_readClause_28 rfl (lv_at hl 0 rfl) ?_
      refine lv_bipush (v := (114 : Int32)) C0.hx C0.hb dX9_readClause_29 (by decide) ?_
      refine lv_icmp_eq (tgt := 54) C0.hx C0.hb dX9_readClause_31 (by decide) (fun hc => ?_) (fun hc => ?_)
      · have h := (if_pos hc).symm.trans h
        exact w_X9_readClause_b54 C0 hr hlocks a0 q2.1 q2.2 _ _ _ hw (lv_sub hl [1, 0] rfl) h
      · have h := (if_neg hc).symm.trans h
        refine lv_iload_n C0.hx C0.hb dX9_readClause_34 rfl (lv_at hl 0 rfl) ?_
        refine lv_bipush (v := (100 : Int32)) C0.hx C0.hb dX9_readClause_35 (by decide) ?_
        refine lv_icmp_eq (tgt := 54) C0.hx C0.hb dX9_readClause_37 (by decide) (fun hc => ?_) (fun hc => ?_)
        · have h := (if_pos hc).symm.trans h
          exact w_X9_readClause_b54 C0 hr hlocks a0 q2.1 q2.2 _ _ _ hw (lv_sub hl [1, 0] rfl) h
        · have h := (if_neg hc).symm.trans h
          refine lv_iload_n C0.hx C0.hb dX9_readClause_40 rfl (lv_at hl 0 rfl) ?_
          refine lv_bipush (v := (112 : Int32)) C0.hx C0.hb dX9_readClause_41 (by decide) ?_
          refine lv_icmp_eq (tgt := 54) C0.hx C0.hb dX9_readClause_43 (by decide) (fun hc => ?_) (fun hc => ?_)
          · have h := (if_pos hc).symm.trans h
            exact w_X9_readClause_b54 C0 hr hlocks a0 q2.1 q2.2 _ _ _ hw (lv_sub hl [1, 0] rfl) h
          · have h := (if_neg hc).symm.trans h
            exact w_X9_readClause_b46 C0 hr hlocks a0 q2.2 _ _ _ hw (lv_sub hl [1] rfl) h
  · have h := (if_pos hc).symm.trans h
    refine lv_aload_n C0.hx C0.hb dX9_readClause_11 rfl (lv_at hl 1 rfl) ?_
    obtain ⟨c13, hc13, h⟩ := Option.bind_eq_some_iff.mp h
    obtain ⟨S14, hS14, h⟩ := Option.bind_eq_some_iff.mp h
    refine q_callV (n := 0) (av := []) (rest := []) (st1 := []) C0 hw (m_X9_readRule l b0 D cy q2.2 a0 hS14) hc13 rfl (by decide) (goodV kw_968 kw_970 kw_26 kw_72 kw_971) ⟨rfl, rfl⟩ (by decide +kernel) ⟨(Nat.le_of_ble_eq_true rfl), (Nat.le_of_ble_eq_true rfl)⟩ rfl hl.1 rfl (Nat.le_of_ble_eq_true rfl) dX9_readClause_12 ⟨Nat.zero_le _, Nat.zero_le _⟩ rfl (fun H locs hw => ?_)
    refine lv_goto (tgt := 84) C0.hx C0.hb dX9_readClause_15 (by decide) ?_
    obtain rfl := Option.some.inj h
    exact q_retv C0 hw hr hlocks dX9_readClause_84
