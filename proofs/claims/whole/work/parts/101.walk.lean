abbrev rm_X3_giveBack : Room := { frames := 3, cells := 0, slots := 0, locals := 82 }
def f_X3_giveBack (a0 : Nat) (a1 : Nat) (S : Mem) : Option Mem :=
    (gI 3 0 S a0).bind fun v1 =>
      (if v1 ≤ (0 : Int32) then
      some S
      else
      (gI 3 1 S a0).bind fun v2 =>
      (pI 3 1 S a0 (irI ((v2 + (16 : Int32)) - (1 : Int32)) (16 : Int32))).bind fun S3 =>
      (gI 3 0 S3 a0).bind fun v4 =>
      (pI 3 0 S3 a0 (v4 - (1 : Int32))).bind fun S5 =>
      (gR 3 2 S5 a0).bind fun r6 =>
      (gI 3 1 S5 a0).bind fun v7 =>
      (ldR 14 S5 r6 v7).bind fun r8 =>
      (ck 5 S5 a1).bind fun c9 =>
      (f_X5_copyFrom a1 r8 S5).bind fun S10 =>
      some S10)
set_option maxHeartbeats 4000000 in
set_option maxRecDepth 100000 in
theorem m_X3_giveBack (l : Launch) (b0 : Nat) (D : va_G) (cy : Nat → ClassId) (S : Mem) (a0 : Nat) (a1 : Nat) {q : Mem} (h : f_X3_giveBack a0 a1 S = some q) : Met l yX3_giveBack [.code yX3_giveBack cX3_giveBack 2 (none)] rm_X3_giveBack (Pr b0 D cy S [.ref (b0 + a0), .ref (b0 + a1)]) (Qp b0 D cy none q) 0 0 (fun q => b0 ≤ q) := by
  refine Met.ofW (cc := cX3_giveBack) (maxL := 2) (ret := none) (by decide) rfl ?_
  intro p e s m args below meth c s₁ B hml hv
  obtain ⟨rfl, hP, hK, hT⟩ := hv
  have C0 : Cx p m c cX3_giveBack 2 s (List.toArray [.ref (b0 + a0), .ref (b0 + a1)]) RX3 D cy := ⟨⟨B.exec, B.bytes, hml, findClass_of_methodNamed B.named, fun w h => hT w h _⟩, hK, hT⟩
  have hr : meth.sig.returnType = none := B.returns
  have hlocks := B.notSynchronized
  have hw : Wd b0 D cy S s.heap s.heap [] := ⟨hP, va_S.rf⟩
  have hl := lv_entry ([.ref (b0 + a0), .ref (b0 + a1)]) (n := 2) (Nat.le_of_ble_eq_true rfl)
  rw [lg_entry_eq]
  generalize (lg_sl ([.ref (b0 + a0), .ref (b0 + a1)]) ++ List.replicate (2 - (lg_sl ([.ref (b0 + a0), .ref (b0 + a1)])).length) Slot.unset).toArray = ls at hl ⊢
  have hl : lv_has ls 2 [(0, .ref (b0 + a0)), (1, .ref (b0 + a1))] := hl
  rw [f_X3_giveBack] at h
  show W p l e rm_X3_giveBack s m _ below meth c s.heap [] 0 0 _ _
  refine lv_aload_n C0.hx C0.hb dX3_giveBack_0 rfl (lv_at hl 0 rfl) ?_
  obtain ⟨v1, hv1, h⟩ := Option.bind_eq_some_iff.mp h
  refine q_getI C0 hw hv1 rfl in_3 (by decide) kw_300 dX3_giveBack_1 ?_
  refine lv_if_le (tgt := 46) C0.hx C0.hb dX3_giveBack_4 (by decide) (fun hc => ?_) (fun hc => ?_)
  · have h := (if_pos hc).symm.trans h
    obtain rfl := Option.some.inj h
    exact q_retv C0 hw hr hlocks dX3_giveBack_46
  · have h := (if_neg hc).symm.trans h
    refine lv_aload_n C0.hx C0.hb dX3_giveBack_7 rfl (lv_at hl 0 rfl) ?_
    refine lv_aload_n C0.hx C0.hb dX3_giveBack_8 rfl (lv_at hl 0 rfl) ?_
    obtain ⟨v2, hv2, h⟩ := Option.bind_eq_some_iff.mp h
    refine q_getI C0 hw hv2 rfl in_3 (by decide) kw_302 dX3_giveBack_9 ?_
    refine lv_bipush (v := (16 : Int32)) C0.hx C0.hb dX3_giveBack_12 (by decide) ?_
    refine lv_iadd C0.hx C0.hb dX3_giveBack_14 ?_
    refine lv_iconst (v := (1 : Int32)) C0.hx C0.hb dX3_giveBack_15 (by decide) ?_
    refine lv_isub C0.hx C0.hb dX3_giveBack_16 ?_
    refine lv_bipush (v := (16 : Int32)) C0.hx C0.hb dX3_giveBack_17 (by decide) ?_
    refine lv_irem C0.hx C0.hb dX3_giveBack_19 (by decide) ?_
    obtain ⟨S3, hS3, h⟩ := Option.bind_eq_some_iff.mp h
    refine q_putI C0 hw hS3 rfl in_3 tyX3_ok nmX3 ⟨by decide, by decide, rfl, rfl⟩ rfl kw_302 dX3_giveBack_20 (fun H locs hw => ?_)
    refine lv_aload_n C0.hx C0.hb dX3_giveBack_23 rfl (lv_at hl 0 rfl) ?_
    refine lv_dup C0.hx C0.hb dX3_giveBack_24 rfl ?_
    obtain ⟨v4, hv4, h⟩ := Option.bind_eq_some_iff.mp h
    refine q_getI C0 hw hv4 rfl in_3 (by decide) kw_300 dX3_giveBack_25 ?_
    refine lv_iconst (v := (1 : Int32)) C0.hx C0.hb dX3_giveBack_28 (by decide) ?_
    refine lv_isub C0.hx C0.hb dX3_giveBack_29 ?_
    obtain ⟨S5, hS5, h⟩ := Option.bind_eq_some_iff.mp h
    refine q_putI C0 hw hS5 rfl in_3 tyX3_ok nmX3 ⟨by decide, by decide, rfl, rfl⟩ rfl kw_300 dX3_giveBack_30 (fun H locs hw => ?_)
    refine lv_aload_n C0.hx C0.hb dX3_giveBack_33 rfl (lv_at hl 1 rfl) ?_
    refine lv_aload_n C0.hx C0.hb dX3_giveBack_34 rfl (lv_at hl 0 rfl) ?_
    obtain ⟨r6, hr6, h⟩ := Option.bind_eq_some_iff.mp h
    refine q_getR C0 hw hr6 rfl in_3 (by decide) kw_303 dX3_giveBack_35 ?_
    refine lv_aload_n C0.hx C0.hb dX3_giveBack_38 rfl (lv_at hl 0 rfl) ?_
    obtain ⟨v7, hv7, h⟩ := Option.bind_eq_some_iff.mp h
    refine q_getI C0 hw hv7 rfl in_3 (by decide) kw_302 dX3_giveBack_39 ?_
    obtain ⟨r8, hr8, h⟩ := Option.bind_eq_some_iff.mp h
    refine q_ldR14 C0 hw hr8 dX3_giveBack_42 ?_
    obtain ⟨c9, hc9, h⟩ := Option.bind_eq_some_iff.mp h
    obtain ⟨S10, hS10, h⟩ := Option.bind_eq_some_iff.mp h
    refine q_callV (n := 1) (av := [.ref (b0 + r8)]) (rest := []) (st1 := []) C0 hw (m_X5_copyFrom l b0 D cy S5 a1 r8 hS10) hc9 rfl (by decide) (goodV kw_567 kw_568 kw_569 kw_66 kw_570) ⟨rfl, rfl⟩ (by decide +kernel) ⟨(Nat.le_of_ble_eq_true rfl), (Nat.le_of_ble_eq_true rfl)⟩ rfl hl.1 rfl (Nat.le_of_ble_eq_true rfl) dX3_giveBack_43 ⟨Nat.zero_le _, Nat.zero_le _⟩ rfl (fun H locs hw => ?_)
    obtain rfl := Option.some.inj h
    exact q_retv C0 hw hr hlocks dX3_giveBack_46
abbrev rm_J7_fill_53178 : Room := { frames := 0, cells := 0, slots := 0, locals := 0 }
def f_J7_fill_53178_b5 : Nat → Nat → Int32 → Int32 → Int32 → Mem → Option Mem
  | 0, _, _, _, _, _ => none
  | n + 1, a0, x1, x2, x3, S =>
    (if x3 ≤ x2 then
      some S
      else
      (stI S a0 x2 x1).bind fun S2 =>
      (some (x2 + (1 : Int32))).bind fun v3 =>
      f_J7_fill_53178_b5  n a0 x1 v3 x3 S2)
def f_J7_fill_53178 (a0 : Nat) (x1 : Int32) (S : Mem) : Option Mem :=
    (lnI S a0).bind fun v1 =>
      f_J7_fill_53178_b5 FU a0 x1 (0 : Int32) v1 S
set_option maxHeartbeats 4000000 in
set_option maxRecDepth 100000 in
theorem w_J7_fill_53178_b5 {p : Program} {l : Launch} {e : Env} {s : State} {m : MethodId} {args : Array Value} {below : List Frame} {meth : Method} {c : Code} {b0 : Nat} {D : va_G} {cy : Nat → ClassId} {q : Mem} (C0 : Cx p m c cJ7_fill_53178 4 s args RJ7 D cy) (hr : meth.sig.returnType = none) (hlocks : meth.locks = false) : ∀ (n : Nat) (a0 : Nat) (x1 : Int32) (x2 : Int32) (x3 : Int32) (S : Mem) (H : Heap) (locs : List Loc) (ls : Array Slot), Wd b0 D cy S s.heap H locs → lv_has ls 4 [(0, .ref (b0 + a0)), (1, .int x1), (2, .int x2), (3, .int x3)] → f_J7_fill_53178_b5  n a0 x1 x2 x3 S = some q → W p l e rm_J7_fill_53178 s m args below meth c H locs 0 0 (MQ below (Qp b0 D cy none q) args s 0 0 (fun q => b0 ≤ q)) (F0 m 5 ls []) := by
  intro n
  induction n with
  | zero => intro a0 x1 x2 x3 S H locs ls hw hl h; exact absurd h (by simp [f_J7_fill_53178_b5])
  | succ n ih =>
    intro a0 x1 x2 x3 S H locs ls hw hl h
    rw [f_J7_fill_53178_b5] at h
    refine lv_iload_n C0.hx C0.hb dJ7_fill_53178_5 rfl (lv_at hl 2 rfl) ?_
    refine lv_iload_n C0.hx C0.hb dJ7_fill_53178_6 rfl (lv_at hl 3 rfl) ?_
    refine lv_icmp_ge (tgt := 20) C0.hx C0.hb dJ7_fill_53178_7 (by decide) (fun hc => ?_) (fun hc => ?_)
    · have h := (if_pos hc).symm.trans h
      obtain rfl := Option.some.inj h
      exact q_retv C0 hw hr hlocks dJ7_fill_53178_20
    · have h := (if_neg hc).symm.trans h
      refine lv_aload_n C0.hx C0.hb dJ7_fill_53178_10 rfl (lv_at hl 0 rfl) ?_
      refine lv_iload_n C0.hx C0.hb dJ7_fill_53178_11 rfl (lv_at hl 2 rfl) ?_
      refine lv_iload_n C0.hx C0.hb dJ7_fill_53178_12 rfl (lv_at hl 1 rfl) ?_
      obtain ⟨S2, hS2, h⟩ := Option.bind_eq_some_iff.mp h
      refine q_stI C0 hw hS2 dJ7_fill_53178_13 (fun H locs hw => ?_)
      obtain ⟨v3, hv3, h⟩ := Option.bind_eq_some_iff.mp h
      refine lv_iinc (v := v3) (lv' := [(2, .int v3), (0, .ref (b0 + a0)), (1, .int x1), (3, .int x3)]) C0.hx C0.hb dJ7_fill_53178_14 hl (k := 2) rfl (by rw [← Option.some.inj hv3]; rfl) (by decide) rfl (fun ls hl => ?_)
      refine lv_goto (tgt := 5) C0.hx C0.hb dJ7_fill_53178_17 (by decide) ?_
      exact ih a0 x1 v3 x3 S2 _ _ _ hw (lv_sub hl [1, 2, 0, 3] rfl) h
set_option maxHeartbeats 4000000 in
set_option maxRecDepth 100000 in
theorem m_J7_fill_53178 (l : Launch) (b0 : Nat) (D : va_G) (cy : Nat → ClassId) (S : Mem) (a0 : Nat) (x1 : Int32) {q : Mem} (h : f_J7_fill_53178 a0 x1 S = some q) : Met l yJ7_fill_53178 [.code yJ7_fill_53178 cJ7_fill_53178 4 (none)] rm_J7_fill_53178 (Pr b0 D cy S [.ref (b0 + a0), .int x1]) (Qp b0 D cy none q) 0 0 (fun q => b0 ≤ q) := by
  refine Met.ofW (cc := cJ7_fill_53178) (maxL := 4) (ret := none) (by decide) rfl ?_
  intro p e s m args below meth c s₁ B hml hv
  obtain ⟨rfl, hP, hK, hT⟩ := hv
  have C0 : Cx p m c cJ7_fill_53178 4 s (List.toArray [.ref (b0 + a0), .int x1]) RJ7 D cy := ⟨⟨B.exec, B.bytes, hml, findClass_of_methodNamed B.named, fun w h => hT w h _⟩, hK, hT⟩
  have hr : meth.sig.returnType = none := B.returns
  have hlocks := B.notSynchronized
  have hw : Wd b0 D cy S s.heap s.heap [] := ⟨hP, va_S.rf⟩
  have hl := lv_entry ([.ref (b0 + a0), .int x1]) (n := 4) (Nat.le_of_ble_eq_true rfl)
  rw [lg_entry_eq]
  generalize (lg_sl ([.ref (b0 + a0), .int x1]) ++ List.replicate (4 - (lg_sl ([.ref (b0 + a0), .int x1])).length) Slot.unset).toArray = ls at hl ⊢
  have hl : lv_has ls 4 [(0, .ref (b0 + a0)), (1, .int x1)] := hl
  rw [f_J7_fill_53178] at h
  show W p l e rm_J7_fill_53178 s m _ below meth c s.heap [] 0 0 _ _
  refine lv_iconst (v := (0 : Int32)) C0.hx C0.hb dJ7_fill_53178_0 (by decide) ?_
  refine lv_istore_n (lv' := [(2, .int (0 : Int32)), (0, .ref (b0 + a0)), (1, .int x1)]) C0.hx C0.hb dJ7_fill_53178_1 rfl hl (by decide) rfl (fun ls hl => ?_)
  refine lv_aload_n C0.hx C0.hb dJ7_fill_53178_2 rfl (lv_at hl 1 rfl) ?_
  obtain ⟨v1, hv1, h⟩ := Option.bind_eq_some_iff.mp h
  refine q_len C0 hw hv1 dJ7_fill_53178_3 ?_
  refine lv_istore_n (lv' := [(3, .int v1), (2, .int (0 : Int32)), (0, .ref (b0 + a0)), (1, .int x1)]) C0.hx C0.hb dJ7_fill_53178_4 rfl hl (by decide) rfl (fun ls hl => ?_)
  exact w_J7_fill_53178_b5 C0 hr hlocks FU a0 x1 (0 : Int32) v1 S _ _ _ hw (lv_sub hl [2, 3, 1, 0] rfl) h
abbrev rm_X4_openDoor : Room := { frames := 1, cells := 0, slots := 0, locals := 22 }
def f_X4_openDoor (a0 : Nat) (x1 : Int32) (x2 : Int32) (x3 : Int32) (S : Mem) : Option Mem :=
    (gR 4 7 S a0).bind fun r1 =>
      (gR 4 7 S a0).bind fun r2 =>
      (ldI S r2 x1).bind fun v3 =>
      (f_X8_withBit v3 x2 x3).bind fun v4 =>
      (stI S r1 x1 v4).bind fun S5 =>
      (gR 4 7 S5 a0).bind fun r6 =>
      (gR 4 7 S5 a0).bind fun r7 =>
      (ldI S5 r7 x2).bind fun v8 =>
      (f_X8_withBit v8 x1 x3).bind fun v9 =>
      (stI S5 r6 x2 v9).bind fun S10 =>
      some S10
set_option maxHeartbeats 4000000 in
set_option maxRecDepth 100000 in
theorem m_X4_openDoor (l : Launch) (b0 : Nat) (D : va_G) (cy : Nat → ClassId) (S : Mem) (a0 : Nat) (x1 : Int32) (x2 : Int32) (x3 : Int32) {q : Mem} (h : f_X4_openDoor a0 x1 x2 x3 S = some q) : Met l yX4_openDoor [.code yX4_openDoor cX4_openDoor 4 (none)] rm_X4_openDoor (Pr b0 D cy S [.ref (b0 + a0), .int x1, .int x2, .int x3]) (Qp b0 D cy none q) 0 0 (fun q => b0 ≤ q) := by
  refine Met.ofW (cc := cX4_openDoor) (maxL := 4) (ret := none) (by decide) rfl ?_
  intro p e s m args below meth c s₁ B hml hv
  obtain ⟨rfl, hP, hK, hT⟩ := hv
  have C0 : Cx p m c cX4_openDoor 4 s (List.toArray [.ref (b0 + a0), .int x1, .int x2, .int x3]) RX4 D cy := ⟨⟨B.exec, B.bytes, hml, findClass_of_methodNamed B.named, fun w h => hT w h _⟩, hK, hT⟩
  have hr : meth.sig.returnType = none := B.returns
  have hlocks := B.notSynchronized
  have hw : Wd b0 D cy S s.heap s.heap [] := ⟨hP, va_S.rf⟩
  have hl := lv_entry ([.ref (b0 + a0), .int x1, .int x2, .int x3]) (n := 4) (Nat.le_of_ble_eq_true rfl)
  rw [lg_entry_eq]
  generalize (lg_sl ([.ref (b0 + a0), .int x1, .int x2, .int x3]) ++ List.replicate (4 - (lg_sl ([.ref (b0 + a0), .int x1, .int x2, .int x3])).length) Slot.unset).toArray = ls at hl ⊢
  have hl : lv_has ls 4 [(0, .ref (b0 + a0)), (1, .int x1), (2, .int x2), (3, .int x3)] := hl
  rw [f_X4_openDoor] at h
  show W p l e rm_X4_openDoor s m _ below meth c s.heap [] 0 0 _ _
  refine lv_aload_n C0.hx C0.hb dX4_openDoor_0 rfl (lv_at hl 0 rfl) ?_
  obtain ⟨r1, hr1, h⟩ := Option.bind_eq_some_iff.mp h
  refine q_getR C0 hw hr1 rfl in_4 (by decide) kw_213 dX4_openDoor_1 ?_
  refine lv_iload_n C0.hx C0.hb dX4_openDoor_4 rfl (lv_at hl 1 rfl) ?_
  refine lv_aload_n C0.hx C0.hb dX4_openDoor_5 rfl (lv_at hl 0 rfl) ?_
  obtain ⟨r2, hr2, h⟩ := Option.bind_eq_some_iff.mp h
  refine q_getR C0 hw hr2 rfl in_4 (by decide) kw_213 dX4_openDoor_6 ?_
  refine lv_iload_n C0.hx C0.hb dX4_openDoor_9 rfl (lv_at hl 1 rfl) ?_
  obtain ⟨v3, hv3, h⟩ := Option.bind_eq_some_iff.mp h
  refine q_ldI C0 hw hv3 dX4_openDoor_10 ?_
  refine lv_iload_n C0.hx C0.hb dX4_openDoor_11 rfl (lv_at hl 2 rfl) ?_
  refine lv_iload_n C0.hx C0.hb dX4_openDoor_12 rfl (lv_at hl 3 rfl) ?_
  obtain ⟨v4, hv4, h⟩ := Option.bind_eq_some_iff.mp h
  refine q_callSN (n := 3) (av := [.int v3, .int x2, .int x3]) (rest := [.int x1, .ref (b0 + r1)]) (st1 := [.int v4, .int x1, .ref (b0 + r1)]) C0 hw (m_X8_withBit l b0 D cy S v3 x2 x3 hv4) kw_480 kw_443 kw_63 kw_444 ⟨rfl, rfl⟩ (by decide +kernel) ⟨(Nat.le_of_ble_eq_true rfl), (Nat.le_of_ble_eq_true rfl)⟩ rfl hl.1 rfl (Nat.le_of_ble_eq_true rfl) dX4_openDoor_13 ⟨Nat.zero_le _, Nat.zero_le _⟩ rfl (fun H locs hw => ?_)
  obtain ⟨S5, hS5, h⟩ := Option.bind_eq_some_iff.mp h
  refine q_stI C0 hw hS5 dX4_openDoor_16 (fun H locs hw => ?_)
  refine lv_aload_n C0.hx C0.hb dX4_openDoor_17 rfl (lv_at hl 0 rfl) ?_
  obtain ⟨r6, hr6, h⟩ := Option.bind_eq_some_iff.mp h
  refine q_getR C0 hw hr6 rfl in_4 (by decide) kw_213 dX4_openDoor_18 ?_
  refine lv_iload_n C0.hx C0.hb dX4_openDoor_21 rfl (lv_at hl 2 rfl) ?_
  refine lv_aload_n C0.hx C0.hb dX4_openDoor_22 rfl (lv_at hl 0 rfl) ?_
  obtain ⟨r7, hr7, h⟩ := Option.bind_eq_some_iff.mp h
  refine q_getR C0 hw hr7 rfl in_4 (by decide) kw_213 dX4_openDoor_23 ?_
  refine lv_iload_n C0.hx C0.hb dX4_openDoor_26 rfl (lv_at hl 2 rfl) ?_
  obtain ⟨v8, hv8, h⟩ := Option.bind_eq_some_iff.mp h
  refine q_ldI C0 hw hv8 dX4_openDoor_27 ?_
  refine lv_iload_n C0.hx C0.hb dX4_openDoor_28 rfl (lv_at hl 1 rfl) ?_
  refine lv_iload_n C0.hx C0.hb dX4_openDoor_29 rfl (lv_at hl 3 rfl) ?_
  obtain ⟨v9, hv9, h⟩ := Option.bind_eq_some_iff.mp h
  refine q_callSN (n := 3) (av := [.int v8, .int x1, .int x3]) (rest := [.int x2, .ref (b0 + r6)]) (st1 := [.int v9, .int x2, .ref (b0 + r6)]) C0 hw (m_X8_withBit l b0 D cy S5 v8 x1 x3 hv9) kw_480 kw_443 kw_63 kw_444 ⟨rfl, rfl⟩ (by decide +kernel) ⟨(Nat.le_of_ble_eq_true rfl), (Nat.le_of_ble_eq_true rfl)⟩ rfl hl.1 rfl (Nat.le_of_ble_eq_true rfl) dX4_openDoor_30 ⟨Nat.zero_le _, Nat.zero_le _⟩ rfl (fun H locs hw => ?_)
  obtain ⟨S10, hS10, h⟩ := Option.bind_eq_some_iff.mp h
  refine q_stI C0 hw hS10 dX4_openDoor_33 (fun H locs hw => ?_)
  obtain rfl := Option.some.inj h
  exact q_retv C0 hw hr hlocks dX4_openDoor_34
abbrev rm_X4_begin : Room := { frames := 2, cells := 0, slots := 0, locals := 45 }
def f_X4_begin_b54 : Nat → Nat → Nat → Int32 → Mem → Option Mem
  | 0, _, _, _, _ => none
  | n + 1, a0, a1, x2, S =>
    (gI 2 3 S a1).bind fun v13 =>
      (if v13 ≤ x2 then
      some S
      else
      (gR 2 7 S a1).bind fun r14 =>
      (ldI S r14 x2).bind fun v15 =>
      (gR 2 8 S a1).bind fun r16 =>
      (ldI S r16 x2).bind fun v17 =>
      (ck 4 S a0).bind fun c18 =>
      (f_X4_openDoor a0 v15 v17 (1 : Int32) S).bind fun S19 =>
      (some (x2 + (1 : Int32))).bind fun v20 =>
      f_X4_begin_b54  n a0 a1 v20 S19)
def f_X4_begin (a0 : Nat) (a1 : Nat) (S : Mem) : Option Mem :=
    (gI 2 1 S a1).bind fun v1 =>
      (pI 4 0 S a0 v1).bind fun S2 =>
      (pI 4 1 S2 a0 (0 : Int32)).bind fun S3 =>
      (pI 4 2 S3 a0 (0 : Int32)).bind fun S4 =>
      (gI 2 5 S4 a1).bind fun v5 =>
      (pI 4 3 S4 a0 v5).bind fun S6 =>
      (pI 4 4 S6 a0 (0 : Int32)).bind fun S7 =>
      (gI 2 6 S7 a1).bind fun v8 =>
      (pI 4 5 S7 a0 v8).bind fun S9 =>
      (pI 4 6 S9 a0 (0 : Int32)).bind fun S10 =>
      (gR 4 7 S10 a0).bind fun r11 =>
      (f_J7_fill_53178 r11 (0 : Int32) S10).bind fun S12 =>
      f_X4_begin_b54 FU a0 a1 (0 : Int32) S12
set_option maxHeartbeats 4000000 in
set_option maxRecDepth 100000 in
theorem w_X4_begin_b54 {p : Program} {l : Launch} {e : Env} {s : State} {m : MethodId} {args : Array Value} {below : List Frame} {meth : Method} {c : Code} {b0 : Nat} {D : va_G} {cy : Nat → ClassId} {q : Mem} (C0 : Cx p m c cX4_begin 3 s args RX4 D cy) (hr : meth.sig.returnType = none) (hlocks : meth.locks = false) : ∀ (n : Nat) (a0 : Nat) (a1 : Nat) (x2 : Int32) (S : Mem) (H : Heap) (locs : List Loc) (ls : Array Slot), Wd b0 D cy S s.heap H locs → lv_has ls 3 [(0, .ref (b0 + a0)), (1, .ref (b0 + a1)), (2, .int x2)] → f_X4_begin_b54  n a0 a1 x2 S = some q → W p l e rm_X4_begin s m args below meth c H locs 0 0 (MQ below (Qp b0 D cy none q) args s 0 0 (fun q => b0 ≤ q)) (F0 m 54 ls []) := by
  intro n
  induction n with
  | zero => intro a0 a1 x2 S H locs ls hw hl h; exact absurd h (by simp [f_X4_begin_b54])
  | succ n ih =>
    intro a0 a1 x2 S H locs ls hw hl h
    rw [f_X4_begin_b54] at h
    refine lv_iload_n C0.hx C0.hb dX4_begin_54 rfl (lv_at hl 2 rfl) ?_
    refine lv_aload_n C0.hx C0.hb dX4_begin_55 rfl (lv_at hl 1 rfl) ?_
    obtain ⟨v13, hv13, h⟩ := Option.bind_eq_some_iff.mp h
    refine q_getI C0 hw hv13 rfl in_2 (by decide) kw_108 dX4_begin_56 ?_
    refine lv_icmp_ge (tgt := 85) C0.hx C0.hb dX4_begin_59 (by decide) (fun hc => ?_) (fun hc => ?_)
    · have h := (if_pos hc).symm.trans h
      obtain rfl := Option.some.inj h
      exact q_retv C0 hw hr hlocks dX4_begin_85
    · have h := (if_neg hc).symm.trans h
      refine lv_aload_n C0.hx C0.hb dX4_begin_62 rfl (lv_at hl 0 rfl) ?_
      refine lv_aload_n C0.hx C0.hb dX4_begin_63 rfl (lv_at hl 1 rfl) ?_
      obtain ⟨r14, hr14, h⟩ := Option.bind_eq_some_iff.mp h
      refine q_getR C0 hw hr14 rfl in_2 (by decide) kw_120 dX4_begin_64 ?_
      refine lv_iload_n C0.hx C0.hb dX4_begin_67 rfl (lv_at hl 2 rfl) ?_
      obtain ⟨v15, hv15, h⟩ := Option.bind_eq_some_iff.mp h
      refine q_ldI C0 hw hv15 dX4_begin_68 ?_
      refine lv_aload_n C0.hx C0.hb dX4_begin_69 rfl (lv_at hl 1 rfl) ?_
      obtain ⟨r16, hr16, h⟩ := Option.bind_eq_some_iff.mp h
      refine q_getR C0 hw hr16 rfl in_2 (by decide) kw_123 dX4_begin_70 ?_
      refine lv_iload_n C0.hx C0.hb dX4_begin_73 rfl (lv_at hl 2 rfl) ?_
      obtain ⟨v17, hv17, h⟩ := Option.bind_eq_some_iff.mp h
      refine q_ldI C0 hw hv17 dX4_begin_74 ?_
      refine lv_iconst (v := (1 : Int32)) C0.hx C0.hb dX4_begin_75 (by decide) ?_
      obtain ⟨c18, hc18, h⟩ := Option.bind_eq_some_iff.mp h
      obtain ⟨S19, hS19, h⟩ := Option.bind_eq_some_iff.mp h
      refine q_callV (n := 3) (av := [.int v15, .int v17, .int (1 : Int32)]) (rest := []) (st1 := []) C0 hw (m_X4_openDoor l b0 D cy S a0 v15 v17 (1 : Int32) hS19) hc18 rfl (by decide) (goodV kw_476 kw_477 kw_478 kw_67 kw_479) ⟨rfl, rfl⟩ (by decide +kernel) ⟨(Nat.le_of_ble_eq_true rfl), (Nat.le_of_ble_eq_true rfl)⟩ rfl hl.1 rfl (Nat.le_of_ble_eq_true rfl) dX4_begin_76 ⟨Nat.zero_le _, Nat.zero_le _⟩ rfl (fun H locs hw => ?_)
      obtain ⟨v20, hv20, h⟩ := Option.bind_eq_some_iff.mp h
      refine lv_iinc (v := v20) (lv' := [(2, .int v20), (0, .ref (b0 + a0)), (1, .ref (b0 + a1))]) C0.hx C0.hb dX4_begin_79 hl (k := 2) rfl (by rw [← Option.some.inj hv20]; rfl) (by decide) rfl (fun ls hl => ?_)
      refine lv_goto (tgt := 54) C0.hx C0.hb dX4_begin_82 (by decide) ?_
      exact ih a0 a1 v20 S19 _ _ _ hw (lv_sub hl [1, 2, 0] rfl) h
set_option maxHeartbeats 4000000 in
set_option maxRecDepth 100000 in
theorem m_X4_begin (l : Launch) (b0 : Nat) (D : va_G) (cy : Nat → ClassId) (S : Mem) (a0 : Nat) (a1 : Nat) {q : Mem} (h : f_X4_begin a0 a1 S = some q) : Met l yX4_begin [.code yX4_begin cX4_begin 3 (none)] rm_X4_begin (Pr b0 D cy S [.ref (b0 + a0), .ref (b0 + a1)]) (Qp b0 D cy none q) 0 0 (fun q => b0 ≤ q) := by
  refine Met.ofW (cc := cX4_begin) (maxL := 3) (ret := none) (by decide) rfl ?_
  intro p e s m args below meth c s₁ B hml hv
  obtain ⟨rfl, hP, hK, hT⟩ := hv
  have C0 : Cx p m c cX4_begin 3 s (List.toArray [.ref (b0 + a0), .ref (b0 + a1)]) RX4 D cy := ⟨⟨B.exec, B.bytes, hml, findClass_of_methodNamed B.named, fun w h => hT w h _⟩, hK, hT⟩
  have hr : meth.sig.returnType = none := B.returns
  have hlocks := B.notSynchronized
  have hw : Wd b0 D cy S s.heap s.heap [] := ⟨hP, va_S.rf⟩
  have hl := lv_entry ([.ref (b0 + a0), .ref (b0 + a1)]) (n := 3) (Nat.le_of_ble_eq_true rfl)
  rw [lg_entry_eq]
  generalize (lg_sl ([.ref (b0 + a0), .ref (b0 + a1)]) ++ List.replicate (3 - (lg_sl ([.ref (b0 + a0), .ref (b0 + a1)])).length) Slot.unset).toArray = ls at hl ⊢
  have hl : lv_has ls 3 [(0, .ref (b0 + a0)), (1, .ref (b0 + a1))] := hl
  rw [f_X4_begin] at h
  show W p l e rm_X4_begin s m _ below meth c s.heap [] 0 0 _ _
  refine lv_aload_n C0.hx C0.hb dX4_begin_0 rfl (lv_at hl 0 rfl) ?_
  refine lv_aload_n C0.hx C0.hb dX4_begin_1 rfl (lv_at hl 1 rfl) ?_
  obtain ⟨v1, hv1, h⟩ := Option.bind_eq_some_iff.mp h
  refine q_getI C0 hw hv1 rfl in_2 (by decide) kw_101 dX4_begin_2 ?_
  obtain ⟨S2, hS2, h⟩ := Option.bind_eq_some_iff.mp h
  refine q_putI C0 hw hS2 rfl in_4 tyX4_ok nmX4 ⟨by decide, by decide, rfl, rfl⟩ rfl kw_194 dX4_begin_5 (fun H locs hw => ?_)
  refine lv_aload_n C0.hx C0.hb dX4_begin_8 rfl (lv_at hl 0 rfl) ?_
  refine lv_iconst (v := (0 : Int32)) C0.hx C0.hb dX4_begin_9 (by decide) ?_
  obtain ⟨S3, hS3, h⟩ := Option.bind_eq_some_iff.mp h
  refine q_putI C0 hw hS3 rfl in_4 tyX4_ok nmX4 ⟨by decide, by decide, rfl, rfl⟩ rfl kw_197 dX4_begin_10 (fun H locs hw => ?_)
  refine lv_aload_n C0.hx C0.hb dX4_begin_13 rfl (lv_at hl 0 rfl) ?_
  refine lv_iconst (v := (0 : Int32)) C0.hx C0.hb dX4_begin_14 (by decide) ?_
  obtain ⟨S4, hS4, h⟩ := Option.bind_eq_some_iff.mp h
  refine q_putI C0 hw hS4 rfl in_4 tyX4_ok nmX4 ⟨by decide, by decide, rfl, rfl⟩ rfl kw_201 dX4_begin_15 (fun H locs hw => ?_)
  refine lv_aload_n C0.hx C0.hb dX4_begin_18 rfl (lv_at hl 0 rfl) ?_
  refine lv_aload_n C0.hx C0.hb dX4_begin_19 rfl (lv_at hl 1 rfl) ?_
  obtain ⟨v5, hv5, h⟩ := Option.bind_eq_some_iff.mp h
  refine q_getI C0 hw hv5 rfl in_2 (by decide) kw_115 dX4_begin_20 ?_
  obtain ⟨S6, hS6, h⟩ := Option.bind_eq_some_iff.mp h
  refine q_putI C0 hw hS6 rfl in_4 tyX4_ok nmX4 ⟨by decide, by decide, rfl, rfl⟩ rfl kw_203 dX4_begin_23 (fun H locs hw => ?_)
  refine lv_aload_n C0.hx C0.hb dX4_begin_26 rfl (lv_at hl 0 rfl) ?_
  refine lv_iconst (v := (0 : Int32)) C0.hx C0.hb dX4_begin_27 (by decide) ?_
  obtain ⟨S7, hS7, h⟩ := Option.bind_eq_some_iff.mp h
  refine q_putI C0 hw hS7 rfl in_4 tyX4_ok nmX4 ⟨by decide, by decide, rfl, rfl⟩ rfl kw_206 dX4_begin_28 (fun H locs hw => ?_)
  refine lv_aload_n C0.hx C0.hb dX4_begin_31 rfl (lv_at hl 0 rfl) ?_
  refine lv_aload_n C0.hx C0.hb dX4_begin_32 rfl (lv_at hl 1 rfl) ?_
  obtain ⟨v8, hv8, h⟩ := Option.bind_eq_some_iff.mp h
  refine q_getI C0 hw hv8 rfl in_2 (by decide) kw_118 dX4_begin_33 ?_
  obtain ⟨S9, hS9, h⟩ := Option.bind_eq_some_iff.mp h
  refine q_putI C0 hw hS9 rfl in_4 tyX4_ok nmX4 ⟨by decide, by decide, rfl, rfl⟩ rfl kw_208 dX4_begin_36 (fun H locs hw => ?_)
  refine lv_aload_n C0.hx C0.hb dX4_begin_39 rfl (lv_at hl 0 rfl) ?_
  refine lv_iconst (v := (0 : Int32)) C0.hx C0.hb dX4_begin_40 (by decide) ?_
  obtain ⟨S10, hS10, h⟩ := Option.bind_eq_some_iff.mp h
  refine q_putI C0 hw hS10 rfl in_4 tyX4_ok nmX4 ⟨by decide, by decide, rfl, rfl⟩ rfl kw_211 dX4_begin_41 (fun H locs hw => ?_)
  refine lv_aload_n C0.hx C0.hb dX4_begin_44 rfl (lv_at hl 0 rfl) ?_
  obtain ⟨r11, hr11, h⟩ := Option.bind_eq_some_iff.mp h
  refine q_getR C0 hw hr11 rfl in_4 (by decide) kw_213 dX4_begin_45 ?_
  refine lv_iconst (v := (0 : Int32)) C0.hx C0.hb dX4_begin_48 (by decide) ?_
  obtain ⟨S12, hS12, h⟩ := Option.bind_eq_some_iff.mp h
  refine q_callS (n := 2) (av := [.ref (b0 + r11), .int (0 : Int32)]) (rest := []) (st1 := []) C0 hw (m_J7_fill_53178 l b0 D cy S10 r11 (0 : Int32) hS12) (goodS kw_473 kw_474 kw_73 kw_475) ⟨rfl, rfl⟩ (by decide +kernel) ⟨(Nat.le_of_ble_eq_true rfl), (Nat.le_of_ble_eq_true rfl)⟩ rfl hl.1 rfl (Nat.le_of_ble_eq_true rfl) dX4_begin_49 ⟨Nat.zero_le _, Nat.zero_le _⟩ rfl (fun H locs hw => ?_)
  refine lv_iconst (v := (0 : Int32)) C0.hx C0.hb dX4_begin_52 (by decide) ?_
  refine lv_istore_n (lv' := [(2, .int (0 : Int32)), (0, .ref (b0 + a0)), (1, .ref (b0 + a1))]) C0.hx C0.hb dX4_begin_53 rfl hl (by decide) rfl (fun ls hl => ?_)
  exact w_X4_begin_b54 C0 hr hlocks FU a0 a1 (0 : Int32) S12 _ _ _ hw (lv_sub hl [1, 2, 0] rfl) h
abbrev rm_X4_isWorn : Room := { frames := 0, cells := 0, slots := 0, locals := 0 }
def f_X4_isWorn (a0 : Nat) (S : Mem) : Option Int32 :=
    (gI 4 2 S a0).bind fun v1 =>
      (if v1 < (50 : Int32) then
      some (0 : Int32)
      else
      some (1 : Int32))
set_option maxHeartbeats 4000000 in
set_option maxRecDepth 100000 in
theorem m_X4_isWorn (l : Launch) (b0 : Nat) (D : va_G) (cy : Nat → ClassId) (S : Mem) (a0 : Nat) {q : Int32} (h : f_X4_isWorn a0 S = some q) : Met l yX4_isWorn [.code yX4_isWorn cX4_isWorn 1 (some .boolean)] rm_X4_isWorn (Pr b0 D cy S [.ref (b0 + a0)]) (Qp b0 D cy (some (.int q)) S) 0 0 (fun q => b0 ≤ q) := by
  refine Met.ofW (cc := cX4_isWorn) (maxL := 1) (ret := some .boolean) (by decide) rfl ?_
  intro p e s m args below meth c s₁ B hml hv
  obtain ⟨rfl, hP, hK, hT⟩ := hv
  have C0 : Cx p m c cX4_isWorn 1 s (List.toArray [.ref (b0 + a0)]) RX4 D cy := ⟨⟨B.exec, B.bytes, hml, findClass_of_methodNamed B.named, fun w h => hT w h _⟩, hK, hT⟩
  have hr : meth.sig.returnType = some .boolean := B.returns
  have hlocks := B.notSynchronized
  have hw : Wd b0 D cy S s.heap s.heap [] := ⟨hP, va_S.rf⟩
  have hl := lv_entry ([.ref (b0 + a0)]) (n := 1) (Nat.le_of_ble_eq_true rfl)
  rw [lg_entry_eq]
  generalize (lg_sl ([.ref (b0 + a0)]) ++ List.replicate (1 - (lg_sl ([.ref (b0 + a0)])).length) Slot.unset).toArray = ls at hl ⊢
  have hl : lv_has ls 1 [(0, .ref (b0 + a0))] := hl
  rw [f_X4_isWorn] at h
  show W p l e rm_X4_isWorn s m _ below meth c s.heap [] 0 0 _ _
  refine lv_aload_n C0.hx C0.hb dX4_isWorn_0 rfl (lv_at hl 0 rfl) ?_
  obtain ⟨v1, hv1, h⟩ := Option.bind_eq_some_iff.mp h
  refine q_getI C0 hw hv1 rfl in_4 (by decide) kw_201 dX4_isWorn_1 ?_
  refine lv_bipush (v := (50 : Int32)) C0.hx C0.hb dX4_isWorn_4 (by decide) ?_
  refine lv_icmp_lt (tgt := 13) C0.hx C0.hb dX4_isWorn_6 (by decide) (fun hc => ?_) (fun hc => ?_)
  · have h := (if_pos hc).symm.trans h
    refine lv_iconst (v := (0 : Int32)) C0.hx C0.hb dX4_isWorn_13 (by decide) ?_
    obtain rfl := Option.some.inj h
    exact q_retz C0 hw (Or.inl rfl) hr hlocks dX4_isWorn_14
  · have h := (if_neg hc).symm.trans h
    refine lv_iconst (v := (1 : Int32)) C0.hx C0.hb dX4_isWorn_9 (by decide) ?_
    refine lv_goto (tgt := 14) C0.hx C0.hb dX4_isWorn_10 (by decide) ?_
    obtain rfl := Option.some.inj h
    exact q_retz C0 hw (Or.inr rfl) hr hlocks dX4_isWorn_14
abbrev rm_X4_roomsAhead : Room := { frames := 0, cells := 0, slots := 0, locals := 0 }
def f_X4_roomsAhead (a0 : Nat) (S : Mem) : Option Int32 :=
    (gR 4 7 S a0).bind fun r1 =>
      (gI 4 1 S a0).bind fun v2 =>
      (ldI S r1 v2).bind fun v3 =>
      (gI 4 6 S a0).bind fun v4 =>
      some (v3 &&& (v4 ^^^ (-1 : Int32)))
set_option maxHeartbeats 4000000 in
set_option maxRecDepth 100000 in
theorem m_X4_roomsAhead (l : Launch) (b0 : Nat) (D : va_G) (cy : Nat → ClassId) (S : Mem) (a0 : Nat) {q : Int32} (h : f_X4_roomsAhead a0 S = some q) : Met l yX4_roomsAhead [.code yX4_roomsAhead cX4_roomsAhead 1 (some .int)] rm_X4_roomsAhead (Pr b0 D cy S [.ref (b0 + a0)]) (Qp b0 D cy (some (.int q)) S) 0 0 (fun q => b0 ≤ q) := by
  refine Met.ofW (cc := cX4_roomsAhead) (maxL := 1) (ret := some .int) (by decide) rfl ?_
  intro p e s m args below meth c s₁ B hml hv
  obtain ⟨rfl, hP, hK, hT⟩ := hv
  have C0 : Cx p m c cX4_roomsAhead 1 s (List.toArray [.ref (b0 + a0)]) RX4 D cy := ⟨⟨B.exec, B.bytes, hml, findClass_of_methodNamed B.named, fun w h => hT w h _⟩, hK, hT⟩
  have hr : meth.sig.returnType = some .int := B.returns
  have hlocks := B.notSynchronized
  have hw : Wd b0 D cy S s.heap s.heap [] := ⟨hP, va_S.rf⟩
  have hl := lv_entry ([.ref (b0 + a0)]) (n := 1) (Nat.le_of_ble_eq_true rfl)
  rw [lg_entry_eq]
  generalize (lg_sl ([.ref (b0 + a0)]) ++ List.replicate (1 - (lg_sl ([.ref (b0 + a0)])).length) Slot.unset).toArray = ls at hl ⊢
  have hl : lv_has ls 1 [(0, .ref (b0 + a0))] := hl
  rw [f_X4_roomsAhead] at h
  show W p l e rm_X4_roomsAhead s m _ below meth c s.heap [] 0 0 _ _
  refine lv_aload_n C0.hx C0.hb dX4_roomsAhead_0 rfl (lv_at hl 0 rfl) ?_
  obtain ⟨r1, hr1, h⟩ := Option.bind_eq_some_iff.mp h
  refine q_getR C0 hw hr1 rfl in_4 (by decide) kw_213 dX4_roomsAhead_1 ?_
  refine lv_aload_n C0.hx C0.hb dX4_roomsAhead_4 rfl (lv_at hl 0 rfl) ?_
  obtain ⟨v2, hv2, h⟩ := Option.bind_eq_some_iff.mp h
  refine q_getI C0 hw hv2 rfl in_4 (by decide) kw_197 dX4_roomsAhead_5 ?_
  obtain ⟨v3, hv3, h⟩ := Option.bind_eq_some_iff.mp h
  refine q_ldI C0 hw hv3 dX4_roomsAhead_8 ?_
  refine lv_aload_n C0.hx C0.hb dX4_roomsAhead_9 rfl (lv_at hl 0 rfl) ?_
  obtain ⟨v4, hv4, h⟩ := Option.bind_eq_some_iff.mp h
  refine q_getI C0 hw hv4 rfl in_4 (by decide) kw_211 dX4_roomsAhead_10 ?_
  refine lv_iconst (v := (-1 : Int32)) C0.hx C0.hb dX4_roomsAhead_13 (by decide) ?_
  refine lv_ixor C0.hx C0.hb dX4_roomsAhead_14 ?_
  refine lv_iand C0.hx C0.hb dX4_roomsAhead_15 ?_
  obtain rfl := Option.some.inj h
  exact q_reti C0 hw hr hlocks dX4_roomsAhead_16
abbrev rm_X8_quietOf : Room := { frames := 0, cells := 0, slots := 0, locals := 0 }
def f_X8_quietOf (x0 : Int32) : Int32 :=
    (x0 / (16 : Int32))
set_option maxHeartbeats 4000000 in
set_option maxRecDepth 100000 in
theorem m_X8_quietOf (l : Launch) (b0 : Nat) (D : va_G) (cy : Nat → ClassId) (S : Mem) (x0 : Int32) : Met l yX8_quietOf [.code yX8_quietOf cX8_quietOf 1 (some .int)] rm_X8_quietOf (Pr b0 D cy S [.int x0]) (Qp b0 D cy (some (.int (f_X8_quietOf x0))) S) 0 0 (fun q => b0 ≤ q) := by
  refine Met.ofW (cc := cX8_quietOf) (maxL := 1) (ret := some .int) (by decide) rfl ?_
  intro p e s m args below meth c s₁ B hml hv
  obtain ⟨rfl, hP, hK, hT⟩ := hv
  have C0 : Cx p m c cX8_quietOf 1 s (List.toArray [.int x0]) RX8 D cy := ⟨⟨B.exec, B.bytes, hml, findClass_of_methodNamed B.named, fun w h => hT w h _⟩, hK, hT⟩
  have hr : meth.sig.returnType = some .int := B.returns
  have hlocks := B.notSynchronized
  have hw : Wd b0 D cy S s.heap s.heap [] := ⟨hP, va_S.rf⟩
  have hl := lv_entry ([.int x0]) (n := 1) (Nat.le_of_ble_eq_true rfl)
  rw [lg_entry_eq]
  generalize (lg_sl ([.int x0]) ++ List.replicate (1 - (lg_sl ([.int x0])).length) Slot.unset).toArray = ls at hl ⊢
  have hl : lv_has ls 1 [(0, .int x0)] := hl
  show W p l e rm_X8_quietOf s m _ below meth c s.heap [] 0 0 _ _
  refine lv_iload_n C0.hx C0.hb dX8_quietOf_0 rfl (lv_at hl 0 rfl) ?_
  refine lv_bipush (v := (16 : Int32)) C0.hx C0.hb dX8_quietOf_1 (by decide) ?_
  refine lv_idiv C0.hx C0.hb dX8_quietOf_3 (by decide) ?_
  exact q_reti C0 hw hr hlocks dX8_quietOf_4
abbrev rm_X8_packedAt : Room := { frames := 0, cells := 0, slots := 0, locals := 0 }
def f_X8_packedAt (x0 : Int32) (x1 : Int32) : Int32 :=
    ((usI x0 ((4 : Int32) * x1)) &&& (15 : Int32))
set_option maxHeartbeats 4000000 in
set_option maxRecDepth 100000 in
theorem m_X8_packedAt (l : Launch) (b0 : Nat) (D : va_G) (cy : Nat → ClassId) (S : Mem) (x0 : Int32) (x1 : Int32) : Met l yX8_packedAt [.code yX8_packedAt cX8_packedAt 2 (some .int)] rm_X8_packedAt (Pr b0 D cy S [.int x0, .int x1]) (Qp b0 D cy (some (.int (f_X8_packedAt x0 x1))) S) 0 0 (fun q => b0 ≤ q) := by
  refine Met.ofW (cc := cX8_packedAt) (maxL := 2) (ret := some .int) (by decide) rfl ?_
  intro p e s m args below meth c s₁ B hml hv
  obtain ⟨rfl, hP, hK, hT⟩ := hv
  have C0 : Cx p m c cX8_packedAt 2 s (List.toArray [.int x0, .int x1]) RX8 D cy := ⟨⟨B.exec, B.bytes, hml, findClass_of_methodNamed B.named, fun w h => hT w h _⟩, hK, hT⟩
  have hr : meth.sig.returnType = some .int := B.returns
  have hlocks := B.notSynchronized
  have hw : Wd b0 D cy S s.heap s.heap [] := ⟨hP, va_S.rf⟩
  have hl := lv_entry ([.int x0, .int x1]) (n := 2) (Nat.le_of_ble_eq_true rfl)
  rw [lg_entry_eq]
  generalize (lg_sl ([.int x0, .int x1]) ++ List.replicate (2 - (lg_sl ([.int x0, .int x1])).length) Slot.unset).toArray = ls at hl ⊢
  have hl : lv_has ls 2 [(0, .int x0), (1, .int x1)] := hl
  show W p l e rm_X8_packedAt s m _ below meth c s.heap [] 0 0 _ _
  refine lv_iload_n C0.hx C0.hb dX8_packedAt_0 rfl (lv_at hl 0 rfl) ?_
  refine lv_iconst (v := (4 : Int32)) C0.hx C0.hb dX8_packedAt_1 (by decide) ?_
  refine lv_iload_n C0.hx C0.hb dX8_packedAt_2 rfl (lv_at hl 1 rfl) ?_
  refine lv_imul C0.hx C0.hb dX8_packedAt_3 ?_
  refine lv_iushr (v := usI x0 ((4 : Int32) * x1)) C0.hx C0.hb dX8_packedAt_4 rfl ?_
  refine lv_bipush (v := (15 : Int32)) C0.hx C0.hb dX8_packedAt_5 (by decide) ?_
  refine lv_iand C0.hx C0.hb dX8_packedAt_7 ?_
  exact q_reti C0 hw hr hlocks dX8_packedAt_8
abbrev rm_X8_softOf : Room := { frames := 0, cells := 0, slots := 0, locals := 0 }
def f_X8_softOf (x0 : Int32) : Int32 :=
    (irI (x0 / (4 : Int32)) (4 : Int32))
set_option maxHeartbeats 4000000 in
set_option maxRecDepth 100000 in
theorem m_X8_softOf (l : Launch) (b0 : Nat) (D : va_G) (cy : Nat → ClassId) (S : Mem) (x0 : Int32) : Met l yX8_softOf [.code yX8_softOf cX8_softOf 1 (some .int)] rm_X8_softOf (Pr b0 D cy S [.int x0]) (Qp b0 D cy (some (.int (f_X8_softOf x0))) S) 0 0 (fun q => b0 ≤ q) := by
  refine Met.ofW (cc := cX8_softOf) (maxL := 1) (ret := some .int) (by decide) rfl ?_
  intro p e s m args below meth c s₁ B hml hv
  obtain ⟨rfl, hP, hK, hT⟩ := hv
  have C0 : Cx p m c cX8_softOf 1 s (List.toArray [.int x0]) RX8 D cy := ⟨⟨B.exec, B.bytes, hml, findClass_of_methodNamed B.named, fun w h => hT w h _⟩, hK, hT⟩
  have hr : meth.sig.returnType = some .int := B.returns
  have hlocks := B.notSynchronized
  have hw : Wd b0 D cy S s.heap s.heap [] := ⟨hP, va_S.rf⟩
  have hl := lv_entry ([.int x0]) (n := 1) (Nat.le_of_ble_eq_true rfl)
  rw [lg_entry_eq]
  generalize (lg_sl ([.int x0]) ++ List.replicate (1 - (lg_sl ([.int x0])).length) Slot.unset).toArray = ls at hl ⊢
  have hl : lv_has ls 1 [(0, .int x0)] := hl
  show W p l e rm_X8_softOf s m _ below meth c s.heap [] 0 0 _ _
  refine lv_iload_n C0.hx C0.hb dX8_softOf_0 rfl (lv_at hl 0 rfl) ?_
  refine lv_iconst (v := (4 : Int32)) C0.hx C0.hb dX8_softOf_1 (by decide) ?_
  refine lv_idiv C0.hx C0.hb dX8_softOf_2 (by decide) ?_
  refine lv_iconst (v := (4 : Int32)) C0.hx C0.hb dX8_softOf_3 (by decide) ?_
  refine lv_irem C0.hx C0.hb dX8_softOf_4 (by decide) ?_
  exact q_reti C0 hw hr hlocks dX8_softOf_5
abbrev rm_X8_newOf : Room := { frames := 0, cells := 0, slots := 0, locals := 0 }
def f_X8_newOf (x0 : Int32) : Int32 :=
    (irI x0 (4 : Int32))
set_option maxHeartbeats 4000000 in
set_option maxRecDepth 100000 in
theorem m_X8_newOf (l : Launch) (b0 : Nat) (D : va_G) (cy : Nat → ClassId) (S : Mem) (x0 : Int32) : Met l yX8_newOf [.code yX8_newOf cX8_newOf 1 (some .int)] rm_X8_newOf (Pr b0 D cy S [.int x0]) (Qp b0 D cy (some (.int (f_X8_newOf x0))) S) 0 0 (fun q => b0 ≤ q) := by
  refine Met.ofW (cc := cX8_newOf) (maxL := 1) (ret := some .int) (by decide) rfl ?_
  intro p e s m args below meth c s₁ B hml hv
  obtain ⟨rfl, hP, hK, hT⟩ := hv
  have C0 : Cx p m c cX8_newOf 1 s (List.toArray [.int x0]) RX8 D cy := ⟨⟨B.exec, B.bytes, hml, findClass_of_methodNamed B.named, fun w h => hT w h _⟩, hK, hT⟩
  have hr : meth.sig.returnType = some .int := B.returns
  have hlocks := B.notSynchronized
  have hw : Wd b0 D cy S s.heap s.heap [] := ⟨hP, va_S.rf⟩
  have hl := lv_entry ([.int x0]) (n := 1) (Nat.le_of_ble_eq_true rfl)
  rw [lg_entry_eq]
  generalize (lg_sl ([.int x0]) ++ List.replicate (1 - (lg_sl ([.int x0])).length) Slot.unset).toArray = ls at hl ⊢
  have hl : lv_has ls 1 [(0, .int x0)] := hl
  show W p l e rm_X8_newOf s m _ below meth c s.heap [] 0 0 _ _
  refine lv_iload_n C0.hx C0.hb dX8_newOf_0 rfl (lv_at hl 0 rfl) ?_
  refine lv_iconst (v := (4 : Int32)) C0.hx C0.hb dX8_newOf_1 (by decide) ?_
  refine lv_irem C0.hx C0.hb dX8_newOf_2 (by decide) ?_
  exact q_reti C0 hw hr hlocks dX8_newOf_3
abbrev rm_X4_pullOf : Room := { frames := 1, cells := 0, slots := 0, locals := 21 }
def f_X4_pullOf_b60 (x7 : Int32) (x8 : Int32) (t0 : Int32) : Option Int32 :=
    some ((t0 + x7) + x8)
def f_X4_pullOf_b31 (x0 : Int32) (x1 : Int32) (x4 : Int32) (x5 : Int32) (x6 : Int32) (t0 : Int32) : Option Int32 :=
    (some ((f_X8_newOf x0) * (f_X8_packedAt x4 x1))).bind fun v2 =>
      (if x5 = (0 : Int32) then
      f_X4_pullOf_b60 t0 v2 x6
      else
      f_X4_pullOf_b60 t0 v2 (x6 * (2 : Int32)))
def f_X4_pullOf (x0 : Int32) (x1 : Int32) (x2 : Int32) (x3 : Int32) (x4 : Int32) (x5 : Int32) : Option Int32 :=
    (some ((f_X8_quietOf x0) * (f_X8_packedAt x2 x1))).bind fun v1 =>
      (if (f_X8_bit x3 x1) = (1 : Int32) then
      f_X4_pullOf_b31 x0 x1 x4 x5 v1 (0 : Int32)
      else
      f_X4_pullOf_b31 x0 x1 x4 x5 v1 ((f_X8_softOf x0) * (3 : Int32)))
set_option maxHeartbeats 4000000 in
set_option maxRecDepth 100000 in
theorem w_X4_pullOf_b60 {p : Program} {l : Launch} {e : Env} {s : State} {m : MethodId} {args : Array Value} {below : List Frame} {meth : Method} {c : Code} {b0 : Nat} {D : va_G} {cy : Nat → ClassId} {S : Mem} {q : Int32} (C0 : Cx p m c cX4_pullOf 9 s args RX4 D cy) (hr : meth.sig.returnType = some .int) (hlocks : meth.locks = false) : ∀ (x7 : Int32) (x8 : Int32) (t0 : Int32) (H : Heap) (locs : List Loc) (ls : Array Slot), Wd b0 D cy S s.heap H locs → lv_has ls 9 [(7, .int x7), (8, .int x8)] → f_X4_pullOf_b60  x7 x8 t0 = some q → W p l e rm_X4_pullOf s m args below meth c H locs 0 0 (MQ below (Qp b0 D cy (some (.int q)) S) args s 0 0 (fun q => b0 ≤ q)) (F0 m 60 ls [.int t0]) := by
  intro x7 x8 t0 H locs ls hw hl h
  rw [f_X4_pullOf_b60] at h
  refine lv_iload C0.hx C0.hb dX4_pullOf_60 (lv_at hl 0 rfl) ?_
  refine lv_iadd C0.hx C0.hb dX4_pullOf_62 ?_
  refine lv_iload C0.hx C0.hb dX4_pullOf_63 (lv_at hl 1 rfl) ?_
  refine lv_iadd C0.hx C0.hb dX4_pullOf_65 ?_
  obtain rfl := Option.some.inj h
  exact q_reti C0 hw hr hlocks dX4_pullOf_66
set_option maxHeartbeats 4000000 in
set_option maxRecDepth 100000 in
theorem w_X4_pullOf_b31 {p : Program} {l : Launch} {e : Env} {s : State} {m : MethodId} {args : Array Value} {below : List Frame} {meth : Method} {c : Code} {b0 : Nat} {D : va_G} {cy : Nat → ClassId} {S : Mem} {q : Int32} (C0 : Cx p m c cX4_pullOf 9 s args RX4 D cy) (hr : meth.sig.returnType = some .int) (hlocks : meth.locks = false) : ∀ (x0 : Int32) (x1 : Int32) (x4 : Int32) (x5 : Int32) (x6 : Int32) (t0 : Int32) (H : Heap) (locs : List Loc) (ls : Array Slot), Wd b0 D cy S s.heap H locs → lv_has ls 9 [(0, .int x0), (1, .int x1), (4, .int x4), (5, .int x5), (6, .int x6)] → f_X4_pullOf_b31  x0 x1 x4 x5 x6 t0 = some q → W p l e rm_X4_pullOf s m args below meth c H locs 0 0 (MQ below (Qp b0 D cy (some (.int q)) S) args s 0 0 (fun q => b0 ≤ q)) (F0 m 31 ls [.int t0]) := by
  intro x0 x1 x4 x5 x6 t0 H locs ls hw hl h
  rw [f_X4_pullOf_b31] at h
  refine lv_istore (lv' := [(7, .int t0), (0, .int x0), (1, .int x1), (4, .int x4), (5, .int x5), (6, .int x6)]) C0.hx C0.hb dX4_pullOf_31 hl (by decide) rfl (fun ls hl => ?_)
  refine lv_iload_n C0.hx C0.hb dX4_pullOf_33 rfl (lv_at hl 1 rfl) ?_
  refine q_callSN (n := 1) (av := [.int x0]) (rest := []) (st1 := [.int (f_X8_newOf x0)]) C0 hw (m_X8_newOf l b0 D cy S x0) kw_534 kw_535 kw_63 kw_536 ⟨rfl, rfl⟩ (by decide +kernel) ⟨(Nat.le_of_ble_eq_true rfl), (Nat.le_of_ble_eq_true rfl)⟩ rfl hl.1 rfl (Nat.le_of_ble_eq_true rfl) dX4_pullOf_34 ⟨Nat.zero_le _, Nat.zero_le _⟩ rfl (fun H locs hw => ?_)
  refine lv_iload C0.hx C0.hb dX4_pullOf_37 (lv_at hl 3 rfl) ?_
  refine lv_iload_n C0.hx C0.hb dX4_pullOf_39 rfl (lv_at hl 2 rfl) ?_
  refine q_callSN (n := 2) (av := [.int x4, .int x1]) (rest := [.int (f_X8_newOf x0)]) (st1 := [.int (f_X8_packedAt x4 x1), .int (f_X8_newOf x0)]) C0 hw (m_X8_packedAt l b0 D cy S x4 x1) kw_527 kw_511 kw_63 kw_512 ⟨rfl, rfl⟩ (by decide +kernel) ⟨(Nat.le_of_ble_eq_true rfl), (Nat.le_of_ble_eq_true rfl)⟩ rfl hl.1 rfl (Nat.le_of_ble_eq_true rfl) dX4_pullOf_40 ⟨Nat.zero_le _, Nat.zero_le _⟩ rfl (fun H locs hw => ?_)
  refine lv_imul C0.hx C0.hb dX4_pullOf_43 ?_
  obtain ⟨v2, hv2, h⟩ := Option.bind_eq_some_iff.mp h
  refine q_nmI hv2 ?_
  refine lv_istore (lv' := [(8, .int v2), (7, .int t0), (0, .int x0), (1, .int x1), (4, .int x4), (5, .int x5), (6, .int x6)]) C0.hx C0.hb dX4_pullOf_44 hl (by decide) rfl (fun ls hl => ?_)
  refine lv_iload C0.hx C0.hb dX4_pullOf_46 (lv_at hl 5 rfl) ?_
  refine lv_if_eq (tgt := 58) C0.hx C0.hb dX4_pullOf_48 (by decide) (fun hc => ?_) (fun hc => ?_)
  · have h := (if_pos hc).symm.trans h
    refine lv_iload C0.hx C0.hb dX4_pullOf_58 (lv_at hl 6 rfl) ?_
    exact w_X4_pullOf_b60 C0 hr hlocks t0 v2 x6 _ _ _ hw (lv_sub hl [1, 0] rfl) h
  · have h := (if_neg hc).symm.trans h
    refine lv_iload C0.hx C0.hb dX4_pullOf_51 (lv_at hl 6 rfl) ?_
    refine lv_iconst (v := (2 : Int32)) C0.hx C0.hb dX4_pullOf_53 (by decide) ?_
    refine lv_imul C0.hx C0.hb dX4_pullOf_54 ?_
    refine lv_goto (tgt := 60) C0.hx C0.hb dX4_pullOf_55 (by decide) ?_
    exact w_X4_pullOf_b60 C0 hr hlocks t0 v2 (x6 * (2 : Int32)) _ _ _ hw (lv_sub hl [1, 0] rfl) h
set_option maxHeartbeats 4000000 in
set_option maxRecDepth 100000 in
theorem m_X4_pullOf (l : Launch) (b0 : Nat) (D : va_G) (cy : Nat → ClassId) (S : Mem) (x0 : Int32) (x1 : Int32) (x2 : Int32) (x3 : Int32) (x4 : Int32) (x5 : Int32) {q : Int32} (h : f_X4_pullOf x0 x1 x2 x3 x4 x5 = some q) : Met l yX4_pullOf [.code yX4_pullOf cX4_pullOf 9 (some .int)] rm_X4_pullOf (Pr b0 D cy S [.int x0, .int x1, .int x2, .int x3, .int x4, .int x5]) (Qp b0 D cy (some (.int q)) S) 0 0 (fun q => b0 ≤ q) := by
  refine Met.ofW (cc := cX4_pullOf) (maxL := 9) (ret := some .int) (by decide) rfl ?_
  intro p e s m args below meth c s₁ B hml hv
  obtain ⟨rfl, hP, hK, hT⟩ := hv
  have C0 : Cx p m c cX4_pullOf 9 s (List.toArray [.int x0, .int x1, .int x2, .int x3, .int x4, .int x5]) RX4 D cy := ⟨⟨B.exec, B.bytes, hml, findClass_of_methodNamed B.named, fun w h => hT w h _⟩, hK, hT⟩
  have hr : meth.sig.returnType = some .int := B.returns
  have hlocks := B.notSynchronized
  have hw : Wd b0 D cy S s.heap s.heap [] := ⟨hP, va_S.rf⟩
  have hl := lv_entry ([.int x0, .int x1, .int x2, .int x3, .int x4, .int x5]) (n := 9) (Nat.le_of_ble_eq_true rfl)
  rw [lg_entry_eq]
  generalize (lg_sl ([.int x0, .int x1, .int x2, .int x3, .int x4, .int x5]) ++ List.replicate (9 - (lg_sl ([.int x0, .int x1, .int x2, .int x3, .int x4, .int x5])).length) Slot.unset).toArray = ls at hl ⊢
  have hl : lv_has ls 9 [(0, .int x0), (1, .int x1), (2, .int x2), (3, .int x3), (4, .int x4), (5, .int x5)] := hl
  rw [f_X4_pullOf] at h
  show W p l e rm_X4_pullOf s m _ below meth c s.heap [] 0 0 _ _
  refine lv_iload_n C0.hx C0.hb dX4_pullOf_0 rfl (lv_at hl 0 rfl) ?_
  refine q_callSN (n := 1) (av := [.int x0]) (rest := []) (st1 := [.int (f_X8_quietOf x0)]) C0 hw (m_X8_quietOf l b0 D cy S x0) kw_524 kw_525 kw_63 kw_526 ⟨rfl, rfl⟩ (by decide +kernel) ⟨(Nat.le_of_ble_eq_true rfl), (Nat.le_of_ble_eq_true rfl)⟩ rfl hl.1 rfl (Nat.le_of_ble_eq_true rfl) dX4_pullOf_1 ⟨Nat.zero_le _, Nat.zero_le _⟩ rfl (fun H locs hw => ?_)
  refine lv_iload_n C0.hx C0.hb dX4_pullOf_4 rfl (lv_at hl 2 rfl) ?_
  refine lv_iload_n C0.hx C0.hb dX4_pullOf_5 rfl (lv_at hl 1 rfl) ?_
  refine q_callSN (n := 2) (av := [.int x2, .int x1]) (rest := [.int (f_X8_quietOf x0)]) (st1 := [.int (f_X8_packedAt x2 x1), .int (f_X8_quietOf x0)]) C0 hw (m_X8_packedAt l b0 D cy S x2 x1) kw_527 kw_511 kw_63 kw_512 ⟨rfl, rfl⟩ (by decide +kernel) ⟨(Nat.le_of_ble_eq_true rfl), (Nat.le_of_ble_eq_true rfl)⟩ rfl hl.1 rfl (Nat.le_of_ble_eq_true rfl) dX4_pullOf_6 ⟨Nat.zero_le _, Nat.zero_le _⟩ rfl (fun H locs hw => ?_)
  refine lv_imul C0.hx C0.hb dX4_pullOf_9 ?_
  obtain ⟨v1, hv1, h⟩ := Option.bind_eq_some_iff.mp h
  refine q_nmI hv1 ?_
  refine lv_istore (lv' := [(6, .int v1), (0, .int x0), (1, .int x1), (2, .int x2), (3, .int x3), (4, .int x4), (5, .int x5)]) C0.hx C0.hb dX4_pullOf_10 hl (by decide) rfl (fun ls hl => ?_)
  refine lv_iload_n C0.hx C0.hb dX4_pullOf_12 rfl (lv_at hl 4 rfl) ?_
  refine lv_iload_n C0.hx C0.hb dX4_pullOf_13 rfl (lv_at hl 2 rfl) ?_
  refine q_callSN (n := 2) (av := [.int x3, .int x1]) (rest := []) (st1 := [.int (f_X8_bit x3 x1)]) C0 hw (m_X8_bit l b0 D cy S x3 x1) kw_528 kw_529 kw_63 kw_530 ⟨rfl, rfl⟩ (by decide +kernel) ⟨(Nat.le_of_ble_eq_true rfl), (Nat.le_of_ble_eq_true rfl)⟩ rfl hl.1 rfl (Nat.le_of_ble_eq_true rfl) dX4_pullOf_14 ⟨Nat.zero_le _, Nat.zero_le _⟩ rfl (fun H locs hw => ?_)
  refine lv_iconst (v := (1 : Int32)) C0.hx C0.hb dX4_pullOf_17 (by decide) ?_
  refine lv_icmp_ne (tgt := 25) C0.hx C0.hb dX4_pullOf_18 (by decide) (fun hc => ?_) (fun hc => ?_)
  · have h := (if_neg hc).symm.trans h
    refine lv_iload_n C0.hx C0.hb dX4_pullOf_25 rfl (lv_at hl 1 rfl) ?_
    refine q_callSN (n := 1) (av := [.int x0]) (rest := []) (st1 := [.int (f_X8_softOf x0)]) C0 hw (m_X8_softOf l b0 D cy S x0) kw_531 kw_532 kw_63 kw_533 ⟨rfl, rfl⟩ (by decide +kernel) ⟨(Nat.le_of_ble_eq_true rfl), (Nat.le_of_ble_eq_true rfl)⟩ rfl hl.1 rfl (Nat.le_of_ble_eq_true rfl) dX4_pullOf_26 ⟨Nat.zero_le _, Nat.zero_le _⟩ rfl (fun H locs hw => ?_)
    refine lv_iconst (v := (3 : Int32)) C0.hx C0.hb dX4_pullOf_29 (by decide) ?_
    refine lv_imul C0.hx C0.hb dX4_pullOf_30 ?_
    exact w_X4_pullOf_b31 C0 hr hlocks x0 x1 x4 x5 v1 ((f_X8_softOf x0) * (3 : Int32)) _ _ _ hw (lv_sub hl [1, 2, 5, 6, 0] rfl) h
  · have h := (if_pos hc).symm.trans h
    refine lv_iconst (v := (0 : Int32)) C0.hx C0.hb dX4_pullOf_21 (by decide) ?_
    refine lv_goto (tgt := 31) C0.hx C0.hb dX4_pullOf_22 (by decide) ?_
    exact w_X4_pullOf_b31 C0 hr hlocks x0 x1 x4 x5 v1 (0 : Int32) _ _ _ hw (lv_sub hl [1, 2, 5, 6, 0] rfl) h
abbrev rm_X4_pullNow : Room := { frames := 2, cells := 0, slots := 0, locals := 49 }
def f_X4_pullNow (a0 : Nat) (x1 : Int32) (S : Mem) : Option Int32 :=
    (gI 4 0 S a0).bind fun v1 =>
      (gI 4 3 S a0).bind fun v2 =>
      (gI 4 5 S a0).bind fun v3 =>
      (gI 4 4 S a0).bind fun v4 =>
      (ck 4 S a0).bind fun c5 =>
      (f_X4_isWorn a0 S).bind fun v6 =>
      (f_X4_pullOf v1 x1 v2 v3 v4 v6).bind fun v7 =>
      some v7
set_option maxHeartbeats 4000000 in
set_option maxRecDepth 100000 in
theorem m_X4_pullNow (l : Launch) (b0 : Nat) (D : va_G) (cy : Nat → ClassId) (S : Mem) (a0 : Nat) (x1 : Int32) {q : Int32} (h : f_X4_pullNow a0 x1 S = some q) : Met l yX4_pullNow [.code yX4_pullNow cX4_pullNow 2 (some .int)] rm_X4_pullNow (Pr b0 D cy S [.ref (b0 + a0), .int x1]) (Qp b0 D cy (some (.int q)) S) 0 0 (fun q => b0 ≤ q) := by
  refine Met.ofW (cc := cX4_pullNow) (maxL := 2) (ret := some .int) (by decide) rfl ?_
  intro p e s m args below meth c s₁ B hml hv
  obtain ⟨rfl, hP, hK, hT⟩ := hv
  have C0 : Cx p m c cX4_pullNow 2 s (List.toArray [.ref (b0 + a0), .int x1]) RX4 D cy := ⟨⟨B.exec, B.bytes, hml, findClass_of_methodNamed B.named, fun w h => hT w h _⟩, hK, hT⟩
  have hr : meth.sig.returnType = some .int := B.returns
  have hlocks := B.notSynchronized
  have hw : Wd b0 D cy S s.heap s.heap [] := ⟨hP, va_S.rf⟩
  have hl := lv_entry ([.ref (b0 + a0), .int x1]) (n := 2) (Nat.le_of_ble_eq_true rfl)
  rw [lg_entry_eq]
  generalize (lg_sl ([.ref (b0 + a0), .int x1]) ++ List.replicate (2 - (lg_sl ([.ref (b0 + a0), .int x1])).length) Slot.unset).toArray = ls at hl ⊢
  have hl : lv_has ls 2 [(0, .ref (b0 + a0)), (1, .int x1)] := hl
  rw [f_X4_pullNow] at h
  show W p l e rm_X4_pullNow s m _ below meth c s.heap [] 0 0 _ _
  refine lv_aload_n C0.hx C0.hb dX4_pullNow_0 rfl (lv_at hl 0 rfl) ?_
  obtain ⟨v1, hv1, h⟩ := Option.bind_eq_some_iff.mp h
  refine q_getI C0 hw hv1 rfl in_4 (by decide) kw_194 dX4_pullNow_1 ?_
  refine lv_iload_n C0.hx C0.hb dX4_pullNow_4 rfl (lv_at hl 1 rfl) ?_
  refine lv_aload_n C0.hx C0.hb dX4_pullNow_5 rfl (lv_at hl 0 rfl) ?_
  obtain ⟨v2, hv2, h⟩ := Option.bind_eq_some_iff.mp h
  refine q_getI C0 hw hv2 rfl in_4 (by decide) kw_203 dX4_pullNow_6 ?_
  refine lv_aload_n C0.hx C0.hb dX4_pullNow_9 rfl (lv_at hl 0 rfl) ?_
  obtain ⟨v3, hv3, h⟩ := Option.bind_eq_some_iff.mp h
  refine q_getI C0 hw hv3 rfl in_4 (by decide) kw_208 dX4_pullNow_10 ?_
  refine lv_aload_n C0.hx C0.hb dX4_pullNow_13 rfl (lv_at hl 0 rfl) ?_
  obtain ⟨v4, hv4, h⟩ := Option.bind_eq_some_iff.mp h
  refine q_getI C0 hw hv4 rfl in_4 (by decide) kw_206 dX4_pullNow_14 ?_
  refine lv_aload_n C0.hx C0.hb dX4_pullNow_17 rfl (lv_at hl 0 rfl) ?_
  obtain ⟨c5, hc5, h⟩ := Option.bind_eq_some_iff.mp h
  obtain ⟨v6, hv6, h⟩ := Option.bind_eq_some_iff.mp h
  refine q_callV (n := 0) (av := []) (rest := [.int v4, .int v3, .int v2, .int x1, .int v1]) (st1 := [.int v6, .int v4, .int v3, .int v2, .int x1, .int v1]) C0 hw (m_X4_isWorn l b0 D cy S a0 hv6) hc5 rfl (by decide) (goodV kw_517 kw_518 kw_519 kw_67 kw_520) ⟨rfl, rfl⟩ (by decide +kernel) ⟨(Nat.le_of_ble_eq_true rfl), (Nat.le_of_ble_eq_true rfl)⟩ rfl hl.1 rfl (Nat.le_of_ble_eq_true rfl) dX4_pullNow_18 ⟨Nat.zero_le _, Nat.zero_le _⟩ rfl (fun H locs hw => ?_)
  obtain ⟨v7, hv7, h⟩ := Option.bind_eq_some_iff.mp h
  refine q_callS (n := 6) (av := [.int v1, .int x1, .int v2, .int v3, .int v4, .int v6]) (rest := []) (st1 := [.int v7]) C0 hw (m_X4_pullOf l b0 D cy S v1 x1 v2 v3 v4 v6 hv7) (goodS kw_521 kw_522 kw_67 kw_523) ⟨rfl, rfl⟩ (by decide +kernel) ⟨(Nat.le_of_ble_eq_true rfl), (Nat.le_of_ble_eq_true rfl)⟩ rfl hl.1 rfl (Nat.le_of_ble_eq_true rfl) dX4_pullNow_21 ⟨Nat.zero_le _, Nat.zero_le _⟩ rfl (fun H locs hw => ?_)
  obtain rfl := Option.some.inj h
  exact q_reti C0 hw hr hlocks dX4_pullNow_24
abbrev rm_X4_liked : Room := { frames := 2, cells := 0, slots := 0, locals := 49 }
def f_X4_liked_b61 (k9 : Int32 → Int32 → Int32 → Int32 → Int32 → Int32 → Int32 → Int32 → Int32 → Option Int32) (x0 : Int32) (x1 : Int32) (x2 : Int32) (x3 : Int32) (x4 : Int32) (x5 : Int32) (x6 : Int32) (x7 : Int32) (x8 : Int32) : Option Int32 :=
    (some (x8 + (1 : Int32))).bind fun v1 =>
      k9 x0 x1 x2 x3 x4 x5 x6 x7 v1
def f_X4_liked_b53 (k9 : Int32 → Int32 → Int32 → Int32 → Int32 → Int32 → Int32 → Int32 → Int32 → Option Int32) (x0 : Int32) (x1 : Int32) (x2 : Int32) (x3 : Int32) (x4 : Int32) (x5 : Int32) (x8 : Int32) (x9 : Int32) : Option Int32 :=
    f_X4_liked_b61 k9 x0 x1 x2 x3 x4 x5 x8 x9 x8
def f_X4_liked_b9 : Nat → Int32 → Int32 → Int32 → Int32 → Int32 → Int32 → Int32 → Int32 → Int32 → Option Int32
  | 0, _, _, _, _, _, _, _, _, _ => none
  | n + 1, x0, x1, x2, x3, x4, x5, x6, x7, x8 =>
    (if (8 : Int32) ≤ x8 then
      some x6
      else
      (if (f_X8_bit x1 x8) = (1 : Int32) then
      (f_X4_pullOf x0 x8 x2 x3 x4 x5).bind fun v2 =>
      (if x6 = (-1 : Int32) then
      f_X4_liked_b53 (fun x0 x1 x2 x3 x4 x5 x6 x7 x8 => f_X4_liked_b9  n x0 x1 x2 x3 x4 x5 x6 x7 x8) x0 x1 x2 x3 x4 x5 x8 v2
      else
      (if x7 ≤ v2 then
      f_X4_liked_b61 (fun x0 x1 x2 x3 x4 x5 x6 x7 x8 => f_X4_liked_b9  n x0 x1 x2 x3 x4 x5 x6 x7 x8) x0 x1 x2 x3 x4 x5 x6 x7 x8
      else
      f_X4_liked_b53 (fun x0 x1 x2 x3 x4 x5 x6 x7 x8 => f_X4_liked_b9  n x0 x1 x2 x3 x4 x5 x6 x7 x8) x0 x1 x2 x3 x4 x5 x8 v2))
      else
      f_X4_liked_b61 (fun x0 x1 x2 x3 x4 x5 x6 x7 x8 => f_X4_liked_b9  n x0 x1 x2 x3 x4 x5 x6 x7 x8) x0 x1 x2 x3 x4 x5 x6 x7 x8))
def f_X4_liked (x0 : Int32) (x1 : Int32) (x2 : Int32) (x3 : Int32) (x4 : Int32) (x5 : Int32) : Option Int32 :=
    f_X4_liked_b9 FU x0 x1 x2 x3 x4 x5 (-1 : Int32) (0 : Int32) (0 : Int32)
set_option maxHeartbeats 4000000 in
set_option maxRecDepth 100000 in
theorem w_X4_liked_b61 {p : Program} {l : Launch} {e : Env} {s : State} {m : MethodId} {args : Array Value} {below : List Frame} {meth : Method} {c : Code} {b0 : Nat} {D : va_G} {cy : Nat → ClassId} {S : Mem} {q : Int32} (C0 : Cx p m c cX4_liked 10 s args RX4 D cy) (hr : meth.sig.returnType = some .int) (hlocks : meth.locks = false) (k9 : Int32 → Int32 → Int32 → Int32 → Int32 → Int32 → Int32 → Int32 → Int32 → Option Int32) (hk9 : ∀ (x0 : Int32) (x1 : Int32) (x2 : Int32) (x3 : Int32) (x4 : Int32) (x5 : Int32) (x6 : Int32) (x7 : Int32) (x8 : Int32) (H : Heap) (locs : List Loc) (ls : Array Slot), Wd b0 D cy S s.heap H locs → lv_has ls 10 [(0, .int x0), (1, .int x1), (2, .int x2), (3, .int x3), (4, .int x4), (5, .int x5), (6, .int x6), (7, .int x7), (8, .int x8)] → k9 x0 x1 x2 x3 x4 x5 x6 x7 x8 = some q → W p l e rm_X4_liked s m args below meth c H locs 0 0 (MQ below (Qp b0 D cy (some (.int q)) S) args s 0 0 (fun q => b0 ≤ q)) (F0 m 9 ls [])) : ∀ (x0 : Int32) (x1 : Int32) (x2 : Int32) (x3 : Int32) (x4 : Int32) (x5 : Int32) (x6 : Int32) (x7 : Int32) (x8 : Int32) (H : Heap) (locs : List Loc) (ls : Array Slot), Wd b0 D cy S s.heap H locs → lv_has ls 10 [(0, .int x0), (1, .int x1), (2, .int x2), (3, .int x3), (4, .int x4), (5, .int x5), (6, .int x6), (7, .int x7), (8, .int x8)] → f_X4_liked_b61 k9 x0 x1 x2 x3 x4 x5 x6 x7 x8 = some q → W p l e rm_X4_liked s m args below meth c H locs 0 0 (MQ below (Qp b0 D cy (some (.int q)) S) args s 0 0 (fun q => b0 ≤ q)) (F0 m 61 ls []) := by
  intro x0 x1 x2 x3 x4 x5 x6 x7 x8 H locs ls hw hl h
  rw [f_X4_liked_b61] at h
  obtain ⟨v1, hv1, h⟩ := Option.bind_eq_some_iff.mp h
  refine lv_iinc (v := v1) (lv' := [(8, .int v1), (0, .int x0), (1, .int x1), (2, .int x2), (3, .int x3), (4, .int x4), (5, .int x5), (6, .int x6), (7, .int x7)]) C0.hx C0.hb dX4_liked_61 hl (k := 8) rfl (by rw [← Option.some.inj hv1]; rfl) (by decide) rfl (fun ls hl => ?_)
  refine lv_goto (tgt := 9) C0.hx C0.hb dX4_liked_64 (by decide) ?_
  exact hk9 x0 x1 x2 x3 x4 x5 x6 x7 v1 _ _ _ hw (lv_sub hl [1, 2, 3, 4, 5, 6, 7, 8, 0] rfl) h
set_option maxHeartbeats 4000000 in
set_option maxRecDepth 100000 in
theorem w_X4_liked_b53 {p : Program} {l : Launch} {e : Env} {s : State} {m : MethodId} {args : Array Value} {below : List Frame} {meth : Method} {c : Code} {b0 : Nat} {D : va_G} {cy : Nat → ClassId} {S : Mem} {q : Int32} (C0 : Cx p m c cX4_liked 10 s args RX4 D cy) (hr : meth.sig.returnType = some .int) (hlocks : meth.locks = false) (k9 : Int32 → Int32 → Int32 → Int32 → Int32 → Int32 → Int32 → Int32 → Int32 → Option Int32) (hk9 : ∀ (x0 : Int32) (x1 : Int32) (x2 : Int32) (x3 : Int32) (x4 : Int32) (x5 : Int32) (x6 : Int32) (x7 : Int32) (x8 : Int32) (H : Heap) (locs : List Loc) (ls : Array Slot), Wd b0 D cy S s.heap H locs → lv_has ls 10 [(0, .int x0), (1, .int x1), (2, .int x2), (3, .int x3), (4, .int x4), (5, .int x5), (6, .int x6), (7, .int x7), (8, .int x8)] → k9 x0 x1 x2 x3 x4 x5 x6 x7 x8 = some q → W p l e rm_X4_liked s m args below meth c H locs 0 0 (MQ below (Qp b0 D cy (some (.int q)) S) args s 0 0 (fun q => b0 ≤ q)) (F0 m 9 ls [])) : ∀ (x0 : Int32) (x1 : Int32) (x2 : Int32) (x3 : Int32) (x4 : Int32) (x5 : Int32) (x8 : Int32) (x9 : Int32) (H : Heap) (locs : List Loc) (ls : Array Slot), Wd b0 D cy S s.heap H locs → lv_has ls 10 [(0, .int x0), (1, .int x1), (2, .int x2), (3, .int x3), (4, .int x4), (5, .int x5), (8, .int x8), (9, .int x9)] → f_X4_liked_b53 k9 x0 x1 x2 x3 x4 x5 x8 x9 = some q → W p l e rm_X4_liked s m args below meth c H locs 0 0 (MQ below (Qp b0 D cy (some (.int q)) S) args s 0 0 (fun q => b0 ≤ q)) (F0 m 53 ls []) := by
  intro x0 x1 x2 x3 x4 x5 x8 x9 H locs ls hw hl h
  rw [f_X4_liked_b53] at h
  refine lv_iload C0.hx C0.hb dX4_liked_53 (lv_at hl 6 rfl) ?_
  refine lv_istore (lv' := [(6, .int x8), (0, .int x0), (1, .int x1), (2, .int x2), (3, .int x3), (4, .int x4), (5, .int x5), (8, .int x8), (9, .int x9)]) C0.hx C0.hb dX4_liked_55 hl (by decide) rfl (fun ls hl => ?_)
  refine lv_iload C0.hx C0.hb dX4_liked_57 (lv_at hl 8 rfl) ?_
  refine lv_istore (lv' := [(7, .int x9), (6, .int x8), (0, .int x0), (1, .int x1), (2, .int x2), (3, .int x3), (4, .int x4), (5, .int x5), (8, .int x8), (9, .int x9)]) C0.hx C0.hb dX4_liked_59 hl (by decide) rfl (fun ls hl => ?_)
  exact w_X4_liked_b61 C0 hr hlocks k9 hk9 x0 x1 x2 x3 x4 x5 x8 x9 x8 _ _ _ hw (lv_sub hl [2, 3, 4, 5, 6, 7, 1, 0, 8] rfl) h
set_option maxHeartbeats 4000000 in
set_option maxRecDepth 100000 in
theorem w_X4_liked_b9 {p : Program} {l : Launch} {e : Env} {s : State} {m : MethodId} {args : Array Value} {below : List Frame} {meth : Method} {c : Code} {b0 : Nat} {D : va_G} {cy : Nat → ClassId} {S : Mem} {q : Int32} (C0 : Cx p m c cX4_liked 10 s args RX4 D cy) (hr : meth.sig.returnType = some .int) (hlocks : meth.locks = false) : ∀ (n : Nat) (x0 : Int32) (x1 : Int32) (x2 : Int32) (x3 : Int32) (x4 : Int32) (x5 : Int32) (x6 : Int32) (x7 : Int32) (x8 : Int32) (H : Heap) (locs : List Loc) (ls : Array Slot), Wd b0 D cy S s.heap H locs → lv_has ls 10 [(0, .int x0), (1, .int x1), (2, .int x2), (3, .int x3), (4, .int x4), (5, .int x5), (6, .int x6), (7, .int x7), (8, .int x8)] → f_X4_liked_b9  n x0 x1 x2 x3 x4 x5 x6 x7 x8 = some q → W p l e rm_X4_liked s m args below meth c H locs 0 0 (MQ below (Qp b0 D cy (some (.int q)) S) args s 0 0 (fun q => b0 ≤ q)) (F0 m 9 ls []) := by
  intro n
  induction n with
  | zero => intro x0 x1 x2 x3 x4 x5 x6 x7 x8 H locs ls hw hl h; exact absurd h (by simp [f_X4_liked_b9])
  | succ n ih =>
    intro x0 x1 x2 x3 x4 x5 x6 x7 x8 H locs ls hw hl h
    rw [f_X4_liked_b9] at h
    refine lv_iload C0.hx C0.hb dX4_liked_9 (lv_at hl 8 rfl) ?_
    refine lv_bipush (v := (8 : Int32)) C0.hx C0.hb dX4_liked_11 (by decide) ?_
    refine lv_icmp_ge (tgt := 67) C0.hx C0.hb dX4_liked_13 (by decide) (fun hc => ?_) (fun hc => ?_)
    · have h := (if_pos hc).symm.trans h
      refine lv_iload C0.hx C0.hb dX4_liked_67 (lv_at hl 6 rfl) ?_
      obtain rfl := Option.some.inj h
      exact q_reti C0 hw hr hlocks dX4_liked_69
    · have h := (if_neg hc).symm.trans h
      refine lv_iload_n C0.hx C0.hb dX4_liked_16 rfl (lv_at hl 1 rfl) ?_
      refine lv_iload C0.hx C0.hb dX4_liked_17 (lv_at hl 8 rfl) ?_
      refine q_callSN (n := 2) (av := [.int x1, .int x8]) (rest := []) (st1 := [.int (f_X8_bit x1 x8)]) C0 hw (m_X8_bit l b0 D cy S x1 x8) kw_528 kw_529 kw_63 kw_530 ⟨rfl, rfl⟩ (by decide +kernel) ⟨(Nat.le_of_ble_eq_true rfl), (Nat.le_of_ble_eq_true rfl)⟩ rfl hl.1 rfl (Nat.le_of_ble_eq_true rfl) dX4_liked_19 ⟨Nat.zero_le _, Nat.zero_le _⟩ rfl (fun H locs hw => ?_)
      refine lv_iconst (v := (1 : Int32)) C0.hx C0.hb dX4_liked_22 (by decide) ?_
      refine lv_icmp_ne (tgt := 61) C0.hx C0.hb dX4_liked_23 (by decide) (fun hc => ?_) (fun hc => ?_)
      · have h := (if_neg hc).symm.trans h
        exact w_X4_liked_b61 C0 hr hlocks (fun x0 x1 x2 x3 x4 x5 x6 x7 x8 => f_X4_liked_b9  n x0 x1 x2 x3 x4 x5 x6 x7 x8) ih x0 x1 x2 x3 x4 x5 x6 x7 x8 _ _ _ hw (lv_sub hl [0, 1, 2, 3, 4, 5, 6, 7, 8] rfl) h
      · have h := (if_pos hc).symm.trans h
        refine lv_iload_n C0.hx C0.hb dX4_liked_26 rfl (lv_at hl 0 rfl) ?_
        refine lv_iload C0.hx C0.hb dX4_liked_27 (lv_at hl 8 rfl) ?_
        refine lv_iload_n C0.hx C0.hb dX4_liked_29 rfl (lv_at hl 2 rfl) ?_
        refine lv_iload_n C0.hx C0.hb dX4_liked_30 rfl (lv_at hl 3 rfl) ?_
        refine lv_iload C0.hx C0.hb dX4_liked_31 (lv_at hl 4 rfl) ?_
        refine lv_iload C0.hx C0.hb dX4_liked_33 (lv_at hl 5 rfl) ?_
        obtain ⟨v2, hv2, h⟩ := Option.bind_eq_some_iff.mp h
        refine q_callS (n := 6) (av := [.int x0, .int x8, .int x2, .int x3, .int x4, .int x5]) (rest := []) (st1 := [.int v2]) C0 hw (m_X4_pullOf l b0 D cy S x0 x8 x2 x3 x4 x5 hv2) (goodS kw_521 kw_522 kw_67 kw_523) ⟨rfl, rfl⟩ (by decide +kernel) ⟨(Nat.le_of_ble_eq_true rfl), (Nat.le_of_ble_eq_true rfl)⟩ rfl hl.1 rfl (Nat.le_of_ble_eq_true rfl) dX4_liked_35 ⟨Nat.zero_le _, Nat.zero_le _⟩ rfl (fun H locs hw => ?_)
        refine lv_istore (lv' := [(9, .int v2), (0, .int x0), (1, .int x1), (2, .int x2), (3, .int x3), (4, .int x4), (5, .int x5), (6, .int x6), (7, .int x7), (8, .int x8)]) C0.hx C0.hb dX4_liked_38 hl (by decide) rfl (fun ls hl => ?_)
        refine lv_iload C0.hx C0.hb dX4_liked_40 (lv_at hl 7 rfl) ?_
        refine lv_iconst (v := (-1 : Int32)) C0.hx C0.hb dX4_liked_42 (by decide) ?_
        refine lv_icmp_eq (tgt := 53) C0.hx C0.hb dX4_liked_43 (by decide) (fun hc => ?_) (fun hc => ?_)
        · have h := (if_pos hc).symm.trans h
          exact w_X4_liked_b53 C0 hr hlocks (fun x0 x1 x2 x3 x4 x5 x6 x7 x8 => f_X4_liked_b9  n x0 x1 x2 x3 x4 x5 x6 x7 x8) ih x0 x1 x2 x3 x4 x5 x8 v2 _ _ _ hw (lv_sub hl [1, 2, 3, 4, 5, 6, 9, 0] rfl) h
        · have h := (if_neg hc).symm.trans h
          refine lv_iload C0.hx C0.hb dX4_liked_46 (lv_at hl 0 rfl) ?_
          refine lv_iload C0.hx C0.hb dX4_liked_48 (lv_at hl 8 rfl) ?_
          refine lv_icmp_ge (tgt := 61) C0.hx C0.hb dX4_liked_50 (by decide) (fun hc => ?_) (fun hc => ?_)
          · have h := (if_pos hc).symm.trans h
            exact w_X4_liked_b61 C0 hr hlocks (fun x0 x1 x2 x3 x4 x5 x6 x7 x8 => f_X4_liked_b9  n x0 x1 x2 x3 x4 x5 x6 x7 x8) ih x0 x1 x2 x3 x4 x5 x6 x7 x8 _ _ _ hw (lv_sub hl [1, 2, 3, 4, 5, 6, 7, 8, 9] rfl) h
          · have h := (if_neg hc).symm.trans h
            exact w_X4_liked_b53 C0 hr hlocks (fun x0 x1 x2 x3 x4 x5 x6 x7 x8 => f_X4_liked_b9  n x0 x1 x2 x3 x4 x5 x6 x7 x8) ih x0 x1 x2 x3 x4 x5 x8 v2 _ _ _ hw (lv_sub hl [1, 2, 3, 4, 5, 6, 9, 0] rfl) h
set_option maxHeartbeats 4000000 in
set_option maxRecDepth 100000 in
theorem m_X4_liked (l : Launch) (b0 : Nat) (D : va_G) (cy : Nat → ClassId) (S : Mem) (x0 : Int32) (x1 : Int32) (x2 : Int32) (x3 : Int32) (x4 : Int32) (x5 : Int32) {q : Int32} (h : f_X4_liked x0 x1 x2 x3 x4 x5 = some q) : Met l yX4_liked [.code yX4_liked cX4_liked 10 (some .int)] rm_X4_liked (Pr b0 D cy S [.int x0, .int x1, .int x2, .int x3, .int x4, .int x5]) (Qp b0 D cy (some (.int q)) S) 0 0 (fun q => b0 ≤ q) := by
  refine Met.ofW (cc := cX4_liked) (maxL := 10) (ret := some .int) (by decide) rfl ?_
  intro p e s m args below meth c s₁ B hml hv
  obtain ⟨rfl, hP, hK, hT⟩ := hv
  have C0 : Cx p m c cX4_liked 10 s (List.toArray [.int x0, .int x1, .int x2, .int x3, .int x4, .int x5]) RX4 D cy := ⟨⟨B.exec, B.bytes, hml, findClass_of_methodNamed B.named, fun w h => hT w h _⟩, hK, hT⟩
  have hr : meth.sig.returnType = some .int := B.returns
  have hlocks := B.notSynchronized
  have hw : Wd b0 D cy S s.heap s.heap [] := ⟨hP, va_S.rf⟩
  have hl := lv_entry ([.int x0, .int x1, .int x2, .int x3, .int x4, .int x5]) (n := 10) (Nat.le_of_ble_eq_true rfl)
  rw [lg_entry_eq]
  generalize (lg_sl ([.int x0, .int x1, .int x2, .int x3, .int x4, .int x5]) ++ List.replicate (10 - (lg_sl ([.int x0, .int x1, .int x2, .int x3, .int x4, .int x5])).length) Slot.unset).toArray = ls at hl ⊢
  have hl : lv_has ls 10 [(0, .int x0), (1, .int x1), (2, .int x2), (3, .int x3), (4, .int x4), (5, .int x5)] := hl
  rw [f_X4_liked] at h
  show W p l e rm_X4_liked s m _ below meth c s.heap [] 0 0 _ _
  refine lv_iconst (v := (-1 : Int32)) C0.hx C0.hb dX4_liked_0 (by decide) ?_
  refine lv_istore (lv' := [(6, .int (-1 : Int32)), (0, .int x0), (1, .int x1), (2, .int x2), (3, .int x3), (4, .int x4), (5, .int x5)]) C0.hx C0.hb dX4_liked_1 hl (by decide) rfl (fun ls hl => ?_)
  refine lv_iconst (v := (0 : Int32)) C0.hx C0.hb dX4_liked_3 (by decide) ?_
  refine lv_istore (lv' := [(7, .int (0 : Int32)), (6, .int (-1 : Int32)), (0, .int x0), (1, .int x1), (2, .int x2), (3, .int x3), (4, .int x4), (5, .int x5)]) C0.hx C0.hb dX4_liked_4 hl (by decide) rfl (fun ls hl => ?_)
  refine lv_iconst (v := (0 : Int32)) C0.hx C0.hb dX4_liked_6 (by decide) ?_
  refine lv_istore (lv' := [(8, .int (0 : Int32)), (7, .int (0 : Int32)), (6, .int (-1 : Int32)), (0, .int x0), (1, .int x1), (2, .int x2), (3, .int x3), (4, .int x4), (5, .int x5)]) C0.hx C0.hb dX4_liked_7 hl (by decide) rfl (fun ls hl => ?_)
  exact w_X4_liked_b9 C0 hr hlocks FU x0 x1 x2 x3 x4 x5 (-1 : Int32) (0 : Int32) (0 : Int32) _ _ _ hw (lv_sub hl [3, 4, 5, 6, 7, 8, 2, 1, 0] rfl) h
abbrev rm_X4_nextBy : Room := { frames := 3, cells := 0, slots := 0, locals := 78 }
def f_X4_nextBy (a0 : Nat) (x1 : Int32) (S : Mem) : Option Int32 :=
    (ck 4 S a0).bind fun c1 =>
      (f_X4_roomsAhead a0 S).bind fun v2 =>
      (gI 4 3 S a0).bind fun v3 =>
      (gI 4 5 S a0).bind fun v4 =>
      (gI 4 4 S a0).bind fun v5 =>
      (ck 4 S a0).bind fun c6 =>
      (f_X4_isWorn a0 S).bind fun v7 =>
      (f_X4_liked x1 v2 v3 v4 v5 v7).bind fun v8 =>
      (if v8 = (-1 : Int32) then
      (gI 4 1 S a0).bind fun v9 =>
      some v9
      else
      some v8)
set_option maxHeartbeats 4000000 in
set_option maxRecDepth 100000 in
theorem m_X4_nextBy (l : Launch) (b0 : Nat) (D : va_G) (cy : Nat → ClassId) (S : Mem) (a0 : Nat) (x1 : Int32) {q : Int32} (h : f_X4_nextBy a0 x1 S = some q) : Met l yX4_nextBy [.code yX4_nextBy cX4_nextBy 3 (some .int)] rm_X4_nextBy (Pr b0 D cy S [.ref (b0 + a0), .int x1]) (Qp b0 D cy (some (.int q)) S) 0 0 (fun q => b0 ≤ q) := by
  refine Met.ofW (cc := cX4_nextBy) (maxL := 3) (ret := some .int) (by decide) rfl ?_
  intro p e s m args below meth c s₁ B hml hv
  obtain ⟨rfl, hP, hK, hT⟩ := hv
  have C0 : Cx p m c cX4_nextBy 3 s (List.toArray [.ref (b0 + a0), .int x1]) RX4 D cy := ⟨⟨B.exec, B.bytes, hml, findClass_of_methodNamed B.named, fun w h => hT w h _⟩, hK, hT⟩
  have hr : meth.sig.returnType = some .int := B.returns
  have hlocks := B.notSynchronized
  have hw : Wd b0 D cy S s.heap s.heap [] := ⟨hP, va_S.rf⟩
  have hl := lv_entry ([.ref (b0 + a0), .int x1]) (n := 3) (Nat.le_of_ble_eq_true rfl)
  rw [lg_entry_eq]
  generalize (lg_sl ([.ref (b0 + a0), .int x1]) ++ List.replicate (3 - (lg_sl ([.ref (b0 + a0), .int x1])).length) Slot.unset).toArray = ls at hl ⊢
  have hl : lv_has ls 3 [(0, .ref (b0 + a0)), (1, .int x1)] := hl
  rw [f_X4_nextBy] at h
  show W p l e rm_X4_nextBy s m _ below meth c s.heap [] 0 0 _ _
  refine lv_iload_n C0.hx C0.hb dX4_nextBy_0 rfl (lv_at hl 1 rfl) ?_
  refine lv_aload_n C0.hx C0.hb dX4_nextBy_1 rfl (lv_at hl 0 rfl) ?_
  obtain ⟨c1, hc1, h⟩ := Option.bind_eq_some_iff.mp h
  obtain ⟨v2, hv2, h⟩ := Option.bind_eq_some_iff.mp h
  refine q_callV (n := 0) (av := []) (rest := [.int x1]) (st1 := [.int v2, .int x1]) C0 hw (m_X4_roomsAhead l b0 D cy S a0 hv2) hc1 rfl (by decide) (goodV kw_605 kw_606 kw_607 kw_67 kw_608) ⟨rfl, rfl⟩ (by decide +kernel) ⟨(Nat.le_of_ble_eq_true rfl), (Nat.le_of_ble_eq_true rfl)⟩ rfl hl.1 rfl (Nat.le_of_ble_eq_true rfl) dX4_nextBy_2 ⟨Nat.zero_le _, Nat.zero_le _⟩ rfl (fun H locs hw => ?_)
  refine lv_aload_n C0.hx C0.hb dX4_nextBy_5 rfl (lv_at hl 0 rfl) ?_
  obtain ⟨v3, hv3, h⟩ := Option.bind_eq_some_iff.mp h
  refine q_getI C0 hw hv3 rfl in_4 (by decide) kw_203 dX4_nextBy_6 ?_
  refine lv_aload_n C0.hx C0.hb dX4_nextBy_9 rfl (lv_at hl 0 rfl) ?_
  obtain ⟨v4, hv4, h⟩ := Option.bind_eq_some_iff.mp h
  refine q_getI C0 hw hv4 rfl in_4 (by decide) kw_208 dX4_nextBy_10 ?_
  refine lv_aload_n C0.hx C0.hb dX4_nextBy_13 rfl (lv_at hl 0 rfl) ?_
  obtain ⟨v5, hv5, h⟩ := Option.bind_eq_some_iff.mp h
  refine q_getI C0 hw hv5 rfl in_4 (by decide) kw_206 dX4_nextBy_14 ?_
  refine lv_aload_n C0.hx C0.hb dX4_nextBy_17 rfl (lv_at hl 0 rfl) ?_
  obtain ⟨c6, hc6, h⟩ := Option.bind_eq_some_iff.mp h
  obtain ⟨v7, hv7, h⟩ := Option.bind_eq_some_iff.mp h
  refine q_callV (n := 0) (av := []) (rest := [.int v5, .int v4, .int v3, .int v2, .int x1]) (st1 := [.int v7, .int v5, .int v4, .int v3, .int v2, .int x1]) C0 hw (m_X4_isWorn l b0 D cy S a0 hv7) hc6 rfl (by decide) (goodV kw_517 kw_518 kw_519 kw_67 kw_520) ⟨rfl, rfl⟩ (by decide +kernel) ⟨(Nat.le_of_ble_eq_true rfl), (Nat.le_of_ble_eq_true rfl)⟩ rfl hl.1 rfl (Nat.le_of_ble_eq_true rfl) dX4_nextBy_18 ⟨Nat.zero_le _, Nat.zero_le _⟩ rfl (fun H locs hw => ?_)
  obtain ⟨v8, hv8, h⟩ := Option.bind_eq_some_iff.mp h
  refine q_callS (n := 6) (av := [.int x1, .int v2, .int v3, .int v4, .int v5, .int v7]) (rest := []) (st1 := [.int v8]) C0 hw (m_X4_liked l b0 D cy S x1 v2 v3 v4 v5 v7 hv8) (goodS kw_609 kw_610 kw_67 kw_611) ⟨rfl, rfl⟩ (by decide +kernel) ⟨(Nat.le_of_ble_eq_true rfl), (Nat.le_of_ble_eq_true rfl)⟩ rfl hl.1 rfl (Nat.le_of_ble_eq_true rfl) dX4_nextBy_21 ⟨Nat.zero_le _, Nat.zero_le _⟩ rfl (fun H locs hw => ?_)
  refine lv_istore_n (lv' := [(2, .int v8), (0, .ref (b0 + a0)), (1, .int x1)]) C0.hx C0.hb dX4_nextBy_24 rfl hl (by decide) rfl (fun ls hl => ?_)
  refine lv_iload_n C0.hx C0.hb dX4_nextBy_25 rfl (lv_at hl 0 rfl) ?_
  refine lv_iconst (v := (-1 : Int32)) C0.hx C0.hb dX4_nextBy_26 (by decide) ?_
  refine lv_icmp_ne (tgt := 37) C0.hx C0.hb dX4_nextBy_27 (by decide) (fun hc => ?_) (fun hc => ?_)
  · have h := (if_neg hc).symm.trans h
    refine lv_iload_n C0.hx C0.hb dX4_nextBy_37 rfl (lv_at hl 0 rfl) ?_
    obtain rfl := Option.some.inj h
    exact q_reti C0 hw hr hlocks dX4_nextBy_38
  · have h := (if_pos hc).symm.trans h
    refine lv_aload_n C0.hx C0.hb dX4_nextBy_30 rfl (lv_at hl 1 rfl) ?_
    obtain ⟨v9, hv9, h⟩ := Option.bind_eq_some_iff.mp h
    refine q_getI C0 hw hv9 rfl in_4 (by decide) kw_197 dX4_nextBy_31 ?_
    refine lv_goto (tgt := 38) C0.hx C0.hb dX4_nextBy_34 (by decide) ?_
    obtain rfl := Option.some.inj h
    exact q_reti C0 hw hr hlocks dX4_nextBy_38
abbrev rm_X4_feelGoverned : Room := { frames := 1, cells := 0, slots := 0, locals := 22 }
def f_X4_feelGoverned (a0 : Nat) (S : Mem) : Option Mem :=
    (gI 4 4 S a0).bind fun v1 =>
      (gI 4 1 S a0).bind fun v2 =>
      (some (f_X8_packedAt v1 v2)).bind fun v3 =>
      (if (9 : Int32) ≤ v3 then
      some S
      else
      (gI 4 4 S a0).bind fun v4 =>
      (gI 4 1 S a0).bind fun v5 =>
      (pI 4 4 S a0 (f_X8_withPacked v4 v5 (v3 + (1 : Int32)))).bind fun S6 =>
      some S6)
set_option maxHeartbeats 4000000 in
set_option maxRecDepth 100000 in
theorem m_X4_feelGoverned (l : Launch) (b0 : Nat) (D : va_G) (cy : Nat → ClassId) (S : Mem) (a0 : Nat) {q : Mem} (h : f_X4_feelGoverned a0 S = some q) : Met l yX4_feelGoverned [.code yX4_feelGoverned cX4_feelGoverned 2 (none)] rm_X4_feelGoverned (Pr b0 D cy S [.ref (b0 + a0)]) (Qp b0 D cy none q) 0 0 (fun q => b0 ≤ q) := by
  refine Met.ofW (cc := cX4_feelGoverned) (maxL := 2) (ret := none) (by decide) rfl ?_
  intro p e s m args below meth c s₁ B hml hv
  obtain ⟨rfl, hP, hK, hT⟩ := hv
  have C0 : Cx p m c cX4_feelGoverned 2 s (List.toArray [.ref (b0 + a0)]) RX4 D cy := ⟨⟨B.exec, B.bytes, hml, findClass_of_methodNamed B.named, fun w h => hT w h _⟩, hK, hT⟩
  have hr : meth.sig.returnType = none := B.returns
  have hlocks := B.notSynchronized
  have hw : Wd b0 D cy S s.heap s.heap [] := ⟨hP, va_S.rf⟩
  have hl := lv_entry ([.ref (b0 + a0)]) (n := 2) (Nat.le_of_ble_eq_true rfl)
  rw [lg_entry_eq]
  generalize (lg_sl ([.ref (b0 + a0)]) ++ List.replicate (2 - (lg_sl ([.ref (b0 + a0)])).length) Slot.unset).toArray = ls at hl ⊢
  have hl : lv_has ls 2 [(0, .ref (b0 + a0))] := hl
  rw [f_X4_feelGoverned] at h
  show W p l e rm_X4_feelGoverned s m _ below meth c s.heap [] 0 0 _ _
  refine lv_aload_n C0.hx C0.hb dX4_feelGoverned_0 rfl (lv_at hl 0 rfl) ?_
  obtain ⟨v1, hv1, h⟩ := Option.bind_eq_some_iff.mp h
  refine q_getI C0 hw hv1 rfl in_4 (by decide) kw_206 dX4_feelGoverned_1 ?_
  refine lv_aload_n C0.hx C0.hb dX4_feelGoverned_4 rfl (lv_at hl 0 rfl) ?_
  obtain ⟨v2, hv2, h⟩ := Option.bind_eq_some_iff.mp h
  refine q_getI C0 hw hv2 rfl in_4 (by decide) kw_197 dX4_feelGoverned_5 ?_
  refine q_callSN (n := 2) (av := [.int v1, .int v2]) (rest := []) (st1 := [.int (f_X8_packedAt v1 v2)]) C0 hw (m_X8_packedAt l b0 D cy S v1 v2) kw_527 kw_511 kw_63 kw_512 ⟨rfl, rfl⟩ (by decide +kernel) ⟨(Nat.le_of_ble_eq_true rfl), (Nat.le_of_ble_eq_true rfl)⟩ rfl hl.1 rfl (Nat.le_of_ble_eq_true rfl) dX4_feelGoverned_8 ⟨Nat.zero_le _, Nat.zero_le _⟩ rfl (fun H locs hw => ?_)
  obtain ⟨v3, hv3, h⟩ := Option.bind_eq_some_iff.mp h
  refine q_nmI hv3 ?_
  refine lv_istore_n (lv' := [(1, .int v3), (0, .ref (b0 + a0))]) C0.hx C0.hb dX4_feelGoverned_11 rfl hl (by decide) rfl (fun ls hl => ?_)
  refine lv_iload_n C0.hx C0.hb dX4_feelGoverned_12 rfl (lv_at hl 0 rfl) ?_
  refine lv_bipush (v := (9 : Int32)) C0.hx C0.hb dX4_feelGoverned_13 (by decide) ?_
  refine lv_icmp_ge (tgt := 36) C0.hx C0.hb dX4_feelGoverned_15 (by decide) (fun hc => ?_) (fun hc => ?_)
  · have h := (if_pos hc).symm.trans h
    obtain rfl := Option.some.inj h
    exact q_retv C0 hw hr hlocks dX4_feelGoverned_36
  · have h := (if_neg hc).symm.trans h
    refine lv_aload_n C0.hx C0.hb dX4_feelGoverned_18 rfl (lv_at hl 1 rfl) ?_
    refine lv_aload_n C0.hx C0.hb dX4_feelGoverned_19 rfl (lv_at hl 1 rfl) ?_
    obtain ⟨v4, hv4, h⟩ := Option.bind_eq_some_iff.mp h
    refine q_getI C0 hw hv4 rfl in_4 (by decide) kw_206 dX4_feelGoverned_20 ?_
    refine lv_aload_n C0.hx C0.hb dX4_feelGoverned_23 rfl (lv_at hl 1 rfl) ?_
    obtain ⟨v5, hv5, h⟩ := Option.bind_eq_some_iff.mp h
    refine q_getI C0 hw hv5 rfl in_4 (by decide) kw_197 dX4_feelGoverned_24 ?_
    refine lv_iload_n C0.hx C0.hb dX4_feelGoverned_27 rfl (lv_at hl 0 rfl) ?_
    refine lv_iconst (v := (1 : Int32)) C0.hx C0.hb dX4_feelGoverned_28 (by decide) ?_
    refine lv_iadd C0.hx C0.hb dX4_feelGoverned_29 ?_
    refine q_callSN (n := 3) (av := [.int v4, .int v5, .int (v3 + (1 : Int32))]) (rest := [.ref (b0 + a0)]) (st1 := [.int (f_X8_withPacked v4 v5 (v3 + (1 : Int32))), .ref (b0 + a0)]) C0 hw (m_X8_withPacked l b0 D cy S v4 v5 (v3 + (1 : Int32))) kw_592 kw_440 kw_63 kw_441 ⟨rfl, rfl⟩ (by decide +kernel) ⟨(Nat.le_of_ble_eq_true rfl), (Nat.le_of_ble_eq_true rfl)⟩ rfl hl.1 rfl (Nat.le_of_ble_eq_true rfl) dX4_feelGoverned_30 ⟨Nat.zero_le _, Nat.zero_le _⟩ rfl (fun H locs hw => ?_)
    obtain ⟨S6, hS6, h⟩ := Option.bind_eq_some_iff.mp h
    refine q_putI C0 hw hS6 rfl in_4 tyX4_ok nmX4 ⟨by decide, by decide, rfl, rfl⟩ rfl kw_206 dX4_feelGoverned_33 (fun H locs hw => ?_)
    obtain rfl := Option.some.inj h
    exact q_retv C0 hw hr hlocks dX4_feelGoverned_36
abbrev rm_X4_stepTo : Room := { frames := 1, cells := 0, slots := 0, locals := 21 }
def f_X4_stepTo (a0 : Nat) (x1 : Int32) (S : Mem) : Option Mem :=
    (gI 4 1 S a0).bind fun v1 =>
      (if x1 = v1 then
      some S
      else
      (pI 4 1 S a0 x1).bind fun S2 =>
      (gI 4 2 S2 a0).bind fun v3 =>
      (pI 4 2 S2 a0 (if (v3 + (1 : Int32)) < (999 : Int32) then (v3 + (1 : Int32)) else (999 : Int32))).bind fun S4 =>
      some S4)
set_option maxHeartbeats 4000000 in
set_option maxRecDepth 100000 in
theorem m_X4_stepTo (l : Launch) (b0 : Nat) (D : va_G) (cy : Nat → ClassId) (S : Mem) (a0 : Nat) (x1 : Int32) {q : Mem} (h : f_X4_stepTo a0 x1 S = some q) : Met l yX4_stepTo [.code yX4_stepTo cX4_stepTo 2 (none)] rm_X4_stepTo (Pr b0 D cy S [.ref (b0 + a0), .int x1]) (Qp b0 D cy none q) 0 0 (fun q => b0 ≤ q) := by
  refine Met.ofW (cc := cX4_stepTo) (maxL := 2) (ret := none) (by decide) rfl ?_
  intro p e s m args below meth c s₁ B hml hv
  obtain ⟨rfl, hP, hK, hT⟩ := hv
  have C0 : Cx p m c cX4_stepTo 2 s (List.toArray [.ref (b0 + a0), .int x1]) RX4 D cy := ⟨⟨B.exec, B.bytes, hml, findClass_of_methodNamed B.named, fun w h => hT w h _⟩, hK, hT⟩
  have hr : meth.sig.returnType = none := B.returns
  have hlocks := B.notSynchronized
  have hw : Wd b0 D cy S s.heap s.heap [] := ⟨hP, va_S.rf⟩
  have hl := lv_entry ([.ref (b0 + a0), .int x1]) (n := 2) (Nat.le_of_ble_eq_true rfl)
  rw [lg_entry_eq]
  generalize (lg_sl ([.ref (b0 + a0), .int x1]) ++ List.replicate (2 - (lg_sl ([.ref (b0 + a0), .int x1])).length) Slot.unset).toArray = ls at hl ⊢
  have hl : lv_has ls 2 [(0, .ref (b0 + a0)), (1, .int x1)] := hl
  rw [f_X4_stepTo] at h
  show W p l e rm_X4_stepTo s m _ below meth c s.heap [] 0 0 _ _
  refine lv_iload_n C0.hx C0.hb dX4_stepTo_0 rfl (lv_at hl 1 rfl) ?_
  refine lv_aload_n C0.hx C0.hb dX4_stepTo_1 rfl (lv_at hl 0 rfl) ?_
  obtain ⟨v1, hv1, h⟩ := Option.bind_eq_some_iff.mp h
  refine q_getI C0 hw hv1 rfl in_4 (by decide) kw_197 dX4_stepTo_2 ?_
  refine lv_icmp_eq (tgt := 29) C0.hx C0.hb dX4_stepTo_5 (by decide) (fun hc => ?_) (fun hc => ?_)
  · have h := (if_pos hc).symm.trans h
    obtain rfl := Option.some.inj h
    exact q_retv C0 hw hr hlocks dX4_stepTo_29
  · have h := (if_neg hc).symm.trans h
    refine lv_aload_n C0.hx C0.hb dX4_stepTo_8 rfl (lv_at hl 0 rfl) ?_
    refine lv_iload_n C0.hx C0.hb dX4_stepTo_9 rfl (lv_at hl 1 rfl) ?_
    obtain ⟨S2, hS2, h⟩ := Option.bind_eq_some_iff.mp h
    refine q_putI C0 hw hS2 rfl in_4 tyX4_ok nmX4 ⟨by decide, by decide, rfl, rfl⟩ rfl kw_197 dX4_stepTo_10 (fun H locs hw => ?_)
    refine lv_aload_n C0.hx C0.hb dX4_stepTo_13 rfl (lv_at hl 0 rfl) ?_
    refine lv_sipush (v := (999 : Int32)) C0.hx C0.hb dX4_stepTo_14 (by decide) ?_
    refine lv_aload_n C0.hx C0.hb dX4_stepTo_17 rfl (lv_at hl 0 rfl) ?_
    obtain ⟨v3, hv3, h⟩ := Option.bind_eq_some_iff.mp h
    refine q_getI C0 hw hv3 rfl in_4 (by decide) kw_201 dX4_stepTo_18 ?_
    refine lv_iconst (v := (1 : Int32)) C0.hx C0.hb dX4_stepTo_21 (by decide) ?_
    refine lv_iadd C0.hx C0.hb dX4_stepTo_22 ?_
    refine va_mmin C0.hx C0.hb (C0.1.2.2.1.trans hl.1.symm) C0.ho (C0.w kw_624) (C0.w kw_582) (C0.w kw_75) (C0.w kw_583) (Nat.le_of_ble_eq_true rfl) (Nat.le_of_ble_eq_true rfl) (Nat.zero_le _) (Nat.zero_le _) dX4_stepTo_23 ?_
    obtain ⟨S4, hS4, h⟩ := Option.bind_eq_some_iff.mp h
    refine q_putI C0 hw hS4 rfl in_4 tyX4_ok nmX4 ⟨by decide, by decide, rfl, rfl⟩ rfl kw_201 dX4_stepTo_26 (fun H locs hw => ?_)
    obtain rfl := Option.some.inj h
    exact q_retv C0 hw hr hlocks dX4_stepTo_29
abbrev rm_X4_tryHour : Room := { frames := 4, cells := 0, slots := 0, locals := 100 }
def f_X4_tryHour (a0 : Nat) (S : Mem) : Option Mem :=
    (ck 4 S a0).bind fun c1 =>
      (f_X4_feelGoverned a0 S).bind fun S2 =>
      (gI 4 0 S2 a0).bind fun v3 =>
      (ck 4 S2 a0).bind fun c4 =>
      (f_X4_nextBy a0 v3 S2).bind fun v5 =>
      (ck 4 S2 a0).bind fun c6 =>
      (f_X4_stepTo a0 v5 S2).bind fun S7 =>
      some S7
set_option maxHeartbeats 4000000 in
set_option maxRecDepth 100000 in
theorem m_X4_tryHour (l : Launch) (b0 : Nat) (D : va_G) (cy : Nat → ClassId) (S : Mem) (a0 : Nat) {q : Mem} (h : f_X4_tryHour a0 S = some q) : Met l yX4_tryHour [.code yX4_tryHour cX4_tryHour 1 (none)] rm_X4_tryHour (Pr b0 D cy S [.ref (b0 + a0)]) (Qp b0 D cy none q) 0 0 (fun q => b0 ≤ q) := by
  refine Met.ofW (cc := cX4_tryHour) (maxL := 1) (ret := none) (by decide) rfl ?_
  intro p e s m args below meth c s₁ B hml hv
  obtain ⟨rfl, hP, hK, hT⟩ := hv
  have C0 : Cx p m c cX4_tryHour 1 s (List.toArray [.ref (b0 + a0)]) RX4 D cy := ⟨⟨B.exec, B.bytes, hml, findClass_of_methodNamed B.named, fun w h => hT w h _⟩, hK, hT⟩
  have hr : meth.sig.returnType = none := B.returns
  have hlocks := B.notSynchronized
  have hw : Wd b0 D cy S s.heap s.heap [] := ⟨hP, va_S.rf⟩
  have hl := lv_entry ([.ref (b0 + a0)]) (n := 1) (Nat.le_of_ble_eq_true rfl)
  rw [lg_entry_eq]
  generalize (lg_sl ([.ref (b0 + a0)]) ++ List.replicate (1 - (lg_sl ([.ref (b0 + a0)])).length) Slot.unset).toArray = ls at hl ⊢
  have hl : lv_has ls 1 [(0, .ref (b0 + a0))] := hl
  rw [f_X4_tryHour] at h
  show W p l e rm_X4_tryHour s m _ below meth c s.heap [] 0 0 _ _
  refine lv_aload_n C0.hx C0.hb dX4_tryHour_0 rfl (lv_at hl 0 rfl) ?_
  obtain ⟨c1, hc1, h⟩ := Option.bind_eq_some_iff.mp h
  obtain ⟨S2, hS2, h⟩ := Option.bind_eq_some_iff.mp h
  refine q_callV (n := 0) (av := []) (rest := []) (st1 := []) C0 hw (m_X4_feelGoverned l b0 D cy S a0 hS2) hc1 rfl (by decide) (goodV kw_692 kw_589 kw_590 kw_67 kw_591) ⟨rfl, rfl⟩ (by decide +kernel) ⟨(Nat.le_of_ble_eq_true rfl), (Nat.le_of_ble_eq_true rfl)⟩ rfl hl.1 rfl (Nat.le_of_ble_eq_true rfl) dX4_tryHour_1 ⟨Nat.zero_le _, Nat.zero_le _⟩ rfl (fun H locs hw => ?_)
  refine lv_aload_n C0.hx C0.hb dX4_tryHour_4 rfl (lv_at hl 0 rfl) ?_
  refine lv_aload_n C0.hx C0.hb dX4_tryHour_5 rfl (lv_at hl 0 rfl) ?_
  refine lv_aload_n C0.hx C0.hb dX4_tryHour_6 rfl (lv_at hl 0 rfl) ?_
  obtain ⟨v3, hv3, h⟩ := Option.bind_eq_some_iff.mp h
  refine q_getI C0 hw hv3 rfl in_4 (by decide) kw_194 dX4_tryHour_7 ?_
  obtain ⟨c4, hc4, h⟩ := Option.bind_eq_some_iff.mp h
  obtain ⟨v5, hv5, h⟩ := Option.bind_eq_some_iff.mp h
  refine q_callV (n := 1) (av := [.int v3]) (rest := [.ref (b0 + a0)]) (st1 := [.int v5, .ref (b0 + a0)]) C0 hw (m_X4_nextBy l b0 D cy S2 a0 v3 hv5) hc4 rfl (by decide) (goodV kw_693 kw_602 kw_603 kw_67 kw_604) ⟨rfl, rfl⟩ (by decide +kernel) ⟨(Nat.le_of_ble_eq_true rfl), (Nat.le_of_ble_eq_true rfl)⟩ rfl hl.1 rfl (Nat.le_of_ble_eq_true rfl) dX4_tryHour_10 ⟨Nat.zero_le _, Nat.zero_le _⟩ rfl (fun H locs hw => ?_)
  obtain ⟨c6, hc6, h⟩ := Option.bind_eq_some_iff.mp h
  obtain ⟨S7, hS7, h⟩ := Option.bind_eq_some_iff.mp h
  refine q_callV (n := 1) (av := [.int v5]) (rest := []) (st1 := []) C0 hw (m_X4_stepTo l b0 D cy S2 a0 v5 hS7) hc6 rfl (by decide) (goodV kw_694 kw_621 kw_622 kw_67 kw_623) ⟨rfl, rfl⟩ (by decide +kernel) ⟨(Nat.le_of_ble_eq_true rfl), (Nat.le_of_ble_eq_true rfl)⟩ rfl hl.1 rfl (Nat.le_of_ble_eq_true rfl) dX4_tryHour_13 ⟨Nat.zero_le _, Nat.zero_le _⟩ rfl (fun H locs hw => ?_)
  obtain rfl := Option.some.inj h
  exact q_retv C0 hw hr hlocks dX4_tryHour_16
abbrev rm_X7_clear : Room := { frames := 0, cells := 0, slots := 0, locals := 0 }
def f_X7_clear (a0 : Nat) (S : Mem) : Option Mem :=
    (pI 7 0 S a0 (0 : Int32)).bind fun S1 =>
      (pI 7 1 S1 a0 (0 : Int32)).bind fun S2 =>
      some S2
set_option maxHeartbeats 4000000 in
set_option maxRecDepth 100000 in
theorem m_X7_clear (l : Launch) (b0 : Nat) (D : va_G) (cy : Nat → ClassId) (S : Mem) (a0 : Nat) {q : Mem} (h : f_X7_clear a0 S = some q) : Met l yX7_clear [.code yX7_clear cX7_clear 1 (none)] rm_X7_clear (Pr b0 D cy S [.ref (b0 + a0)]) (Qp b0 D cy none q) 0 0 (fun q => b0 ≤ q) := by
  refine Met.ofW (cc := cX7_clear) (maxL := 1) (ret := none) (by decide) rfl ?_
  intro p e s m args below meth c s₁ B hml hv
  obtain ⟨rfl, hP, hK, hT⟩ := hv
  have C0 : Cx p m c cX7_clear 1 s (List.toArray [.ref (b0 + a0)]) RX7 D cy := ⟨⟨B.exec, B.bytes, hml, findClass_of_methodNamed B.named, fun w h => hT w h _⟩, hK, hT⟩
  have hr : meth.sig.returnType = none := B.returns
  have hlocks := B.notSynchronized
  have hw : Wd b0 D cy S s.heap s.heap [] := ⟨hP, va_S.rf⟩
  have hl := lv_entry ([.ref (b0 + a0)]) (n := 1) (Nat.le_of_ble_eq_true rfl)
  rw [lg_entry_eq]
  generalize (lg_sl ([.ref (b0 + a0)]) ++ List.replicate (1 - (lg_sl ([.ref (b0 + a0)])).length) Slot.unset).toArray = ls at hl ⊢
  have hl : lv_has ls 1 [(0, .ref (b0 + a0))] := hl
  rw [f_X7_clear] at h
  show W p l e rm_X7_clear s m _ below meth c s.heap [] 0 0 _ _
  refine lv_aload_n C0.hx C0.hb dX7_clear_0 rfl (lv_at hl 0 rfl) ?_
  refine lv_iconst (v := (0 : Int32)) C0.hx C0.hb dX7_clear_1 (by decide) ?_
  obtain ⟨S1, hS1, h⟩ := Option.bind_eq_some_iff.mp h
  refine q_putI C0 hw hS1 rfl in_7 tyX7_ok nmX7 ⟨by decide, by decide, rfl, rfl⟩ rfl kw_238 dX7_clear_2 (fun H locs hw => ?_)
  refine lv_aload_n C0.hx C0.hb dX7_clear_5 rfl (lv_at hl 0 rfl) ?_
  refine lv_iconst (v := (0 : Int32)) C0.hx C0.hb dX7_clear_6 (by decide) ?_
  obtain ⟨S2, hS2, h⟩ := Option.bind_eq_some_iff.mp h
  refine q_putI C0 hw hS2 rfl in_7 tyX7_ok nmX7 ⟨by decide, by decide, rfl, rfl⟩ rfl kw_240 dX7_clear_7 (fun H locs hw => ?_)
  obtain rfl := Option.some.inj h
  exact q_retv C0 hw hr hlocks dX7_clear_10
abbrev rm_X5_begin : Room := { frames := 3, cells := 0, slots := 0, locals := 67 }
def f_X5_begin (a0 : Nat) (a1 : Nat) (S : Mem) : Option Mem :=
    (gR 5 0 S a0).bind fun r1 =>
      (ck 4 S r1).bind fun c2 =>
      (f_X4_begin r1 a1 S).bind fun S3 =>
      (gR 5 1 S3 a0).bind fun r4 =>
      (ck 7 S3 r4).bind fun c5 =>
      (f_X7_clear r4 S3).bind fun S6 =>
      (pI 5 2 S6 a0 (0 : Int32)).bind fun S7 =>
      (pI 5 3 S7 a0 (0 : Int32)).bind fun S8 =>
      (pI 5 4 S8 a0 (0 : Int32)).bind fun S9 =>
      (pI 5 5 S9 a0 (0 : Int32)).bind fun S10 =>
      (gR 5 6 S10 a0).bind fun r11 =>
      (f_J7_fill_53178 r11 (0 : Int32) S10).bind fun S12 =>
      (gR 2 9 S12 a1).bind fun r13 =>
      (gR 5 7 S12 a0).bind fun r14 =>
      (cpI S12 r13 (0 : Int32) r14 (0 : Int32) (6 : Int32)).bind fun S15 =>
      some S15
set_option maxHeartbeats 4000000 in
set_option maxRecDepth 100000 in
theorem m_X5_begin (l : Launch) (b0 : Nat) (D : va_G) (cy : Nat → ClassId) (S : Mem) (a0 : Nat) (a1 : Nat) {q : Mem} (h : f_X5_begin a0 a1 S = some q) : Met l yX5_begin [.code yX5_begin cX5_begin 2 (none)] rm_X5_begin (Pr b0 D cy S [.ref (b0 + a0), .ref (b0 + a1)]) (Qp b0 D cy none q) 0 0 (fun q => b0 ≤ q) := by
  refine Met.ofW (cc := cX5_begin) (maxL := 2) (ret := none) (by decide) rfl ?_
  intro p e s m args below meth c s₁ B hml hv
  obtain ⟨rfl, hP, hK, hT⟩ := hv
  have C0 : Cx p m c cX5_begin 2 s (List.toArray [.ref (b0 + a0), .ref (b0 + a1)]) RX5 D cy := ⟨⟨B.exec, B.bytes, hml, findClass_of_methodNamed B.named, fun w h => hT w h _⟩, hK, hT⟩
  have hr : meth.sig.returnType = none := B.returns
  have hlocks := B.notSynchronized
  have hw : Wd b0 D cy S s.heap s.heap [] := ⟨hP, va_S.rf⟩
  have hl := lv_entry ([.ref (b0 + a0), .ref (b0 + a1)]) (n := 2) (Nat.le_of_ble_eq_true rfl)
  rw [lg_entry_eq]
  generalize (lg_sl ([.ref (b0 + a0), .ref (b0 + a1)]) ++ List.replicate (2 - (lg_sl ([.ref (b0 + a0), .ref (b0 + a1)])).length) Slot.unset).toArray = ls at hl ⊢
  have hl : lv_has ls 2 [(0, .ref (b0 + a0)), (1, .ref (b0 + a1))] := hl
  rw [f_X5_begin] at h
  show W p l e rm_X5_begin s m _ below meth c s.heap [] 0 0 _ _
  refine lv_aload_n C0.hx C0.hb dX5_begin_0 rfl (lv_at hl 0 rfl) ?_
  obtain ⟨r1, hr1, h⟩ := Option.bind_eq_some_iff.mp h
  refine q_getR C0 hw hr1 rfl in_5 (by decide) kw_258 dX5_begin_1 ?_
  refine lv_aload_n C0.hx C0.hb dX5_begin_4 rfl (lv_at hl 1 rfl) ?_
  obtain ⟨c2, hc2, h⟩ := Option.bind_eq_some_iff.mp h
  obtain ⟨S3, hS3, h⟩ := Option.bind_eq_some_iff.mp h
  refine q_callV (n := 1) (av := [.ref (b0 + a1)]) (rest := []) (st1 := []) C0 hw (m_X4_begin l b0 D cy S r1 a1 hS3) hc2 rfl (by decide) (goodV kw_469 kw_470 kw_471 kw_67 kw_472) ⟨rfl, rfl⟩ (by decide +kernel) ⟨(Nat.le_of_ble_eq_true rfl), (Nat.le_of_ble_eq_true rfl)⟩ rfl hl.1 rfl (Nat.le_of_ble_eq_true rfl) dX5_begin_5 ⟨Nat.zero_le _, Nat.zero_le _⟩ rfl (fun H locs hw => ?_)
  refine lv_aload_n C0.hx C0.hb dX5_begin_8 rfl (lv_at hl 0 rfl) ?_
  obtain ⟨r4, hr4, h⟩ := Option.bind_eq_some_iff.mp h
  refine q_getR C0 hw hr4 rfl in_5 (by decide) kw_260 dX5_begin_9 ?_
  obtain ⟨c5, hc5, h⟩ := Option.bind_eq_some_iff.mp h
  obtain ⟨S6, hS6, h⟩ := Option.bind_eq_some_iff.mp h
  refine q_callV (n := 0) (av := []) (rest := []) (st1 := []) C0 hw (m_X7_clear l b0 D cy S3 r4 hS6) hc5 rfl (by decide) (goodV kw_481 kw_482 kw_483 kw_68 kw_484) ⟨rfl, rfl⟩ (by decide +kernel) ⟨(Nat.le_of_ble_eq_true rfl), (Nat.le_of_ble_eq_true rfl)⟩ rfl hl.1 rfl (Nat.le_of_ble_eq_true rfl) dX5_begin_12 ⟨Nat.zero_le _, Nat.zero_le _⟩ rfl (fun H locs hw => ?_)
  refine lv_aload_n C0.hx C0.hb dX5_begin_15 rfl (lv_at hl 0 rfl) ?_
  refine lv_iconst (v := (0 : Int32)) C0.hx C0.hb dX5_begin_16 (by decide) ?_
  obtain ⟨S7, hS7, h⟩ := Option.bind_eq_some_iff.mp h
  refine q_putI C0 hw hS7 rfl in_5 tyX5_ok nmX5 ⟨by decide, by decide, rfl, rfl⟩ rfl kw_262 dX5_begin_17 (fun H locs hw => ?_)
  refine lv_aload_n C0.hx C0.hb dX5_begin_20 rfl (lv_at hl 0 rfl) ?_
  refine lv_iconst (v := (0 : Int32)) C0.hx C0.hb dX5_begin_21 (by decide) ?_
  obtain ⟨S8, hS8, h⟩ := Option.bind_eq_some_iff.mp h
  refine q_putI C0 hw hS8 rfl in_5 tyX5_ok nmX5 ⟨by decide, by decide, rfl, rfl⟩ rfl kw_264 dX5_begin_22 (fun H locs hw => ?_)
  refine lv_aload_n C0.hx C0.hb dX5_begin_25 rfl (lv_at hl 0 rfl) ?_
  refine lv_iconst (v := (0 : Int32)) C0.hx C0.hb dX5_begin_26 (by decide) ?_
  obtain ⟨S9, hS9, h⟩ := Option.bind_eq_some_iff.mp h
  refine q_putI C0 hw hS9 rfl in_5 tyX5_ok nmX5 ⟨by decide, by decide, rfl, rfl⟩ rfl kw_266 dX5_begin_27 (fun H locs hw => ?_)
  refine lv_aload_n C0.hx C0.hb dX5_begin_30 rfl (lv_at hl 0 rfl) ?_
  refine lv_iconst (v := (0 : Int32)) C0.hx C0.hb dX5_begin_31 (by decide) ?_
  obtain ⟨S10, hS10, h⟩ := Option.bind_eq_some_iff.mp h
  refine q_putI C0 hw hS10 rfl in_5 tyX5_ok nmX5 ⟨by decide, by decide, rfl, rfl⟩ rfl kw_268 dX5_begin_32 (fun H locs hw => ?_)
  refine lv_aload_n C0.hx C0.hb dX5_begin_35 rfl (lv_at hl 0 rfl) ?_
  obtain ⟨r11, hr11, h⟩ := Option.bind_eq_some_iff.mp h
  refine q_getR C0 hw hr11 rfl in_5 (by decide) kw_270 dX5_begin_36 ?_
  refine lv_iconst (v := (0 : Int32)) C0.hx C0.hb dX5_begin_39 (by decide) ?_
  obtain ⟨S12, hS12, h⟩ := Option.bind_eq_some_iff.mp h
  refine q_callS (n := 2) (av := [.ref (b0 + r11), .int (0 : Int32)]) (rest := []) (st1 := []) C0 hw (m_J7_fill_53178 l b0 D cy S10 r11 (0 : Int32) hS12) (goodS kw_485 kw_474 kw_73 kw_475) ⟨rfl, rfl⟩ (by decide +kernel) ⟨(Nat.le_of_ble_eq_true rfl), (Nat.le_of_ble_eq_true rfl)⟩ rfl hl.1 rfl (Nat.le_of_ble_eq_true rfl) dX5_begin_40 ⟨Nat.zero_le _, Nat.zero_le _⟩ rfl (fun H locs hw => ?_)
  refine lv_aload_n C0.hx C0.hb dX5_begin_43 rfl (lv_at hl 1 rfl) ?_
  obtain ⟨r13, hr13, h⟩ := Option.bind_eq_some_iff.mp h
  refine q_getR C0 hw hr13 rfl in_2 (by decide) kw_126 dX5_begin_44 ?_
  refine lv_iconst (v := (0 : Int32)) C0.hx C0.hb dX5_begin_47 (by decide) ?_
  refine lv_aload_n C0.hx C0.hb dX5_begin_48 rfl (lv_at hl 0 rfl) ?_
  obtain ⟨r14, hr14, h⟩ := Option.bind_eq_some_iff.mp h
  refine q_getR C0 hw hr14 rfl in_5 (by decide) kw_272 dX5_begin_49 ?_
  refine lv_iconst (v := (0 : Int32)) C0.hx C0.hb dX5_begin_52 (by decide) ?_
  refine lv_bipush (v := (6 : Int32)) C0.hx C0.hb dX5_begin_53 (by decide) ?_
  obtain ⟨S15, hS15, h⟩ := Option.bind_eq_some_iff.mp h
  refine q_cp C0 hw hS15 kw_486 kw_488 kw_487 kw_74 hl.1 (Nat.le_of_ble_eq_true rfl) (Nat.le_of_ble_eq_true rfl) dX5_begin_55 (fun H locs hw => ?_)
  obtain rfl := Option.some.inj h
  exact q_retv C0 hw hr hlocks dX5_begin_58
