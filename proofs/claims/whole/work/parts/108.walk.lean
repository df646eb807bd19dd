abbrev rm_X8_isOfRooms : Room := { frames := 0, cells := 0, slots := 0, locals := 0 }
def f_X8_isOfRooms_b2 (S : Mem) : Nat → Nat → Int32 → Option Int32
  | 0, _, _ => none
  | n + 1, a0, x2 =>
    (if x2 ≤ (0 : Int32) then
      some (1 : Int32)
      else
      (some (irI x2 (10 : Int32))).bind fun v1 =>
      (if v1 = (0 : Int32) then
      some (0 : Int32)
      else
      (gR 8 1 S a0).bind fun r2 =>
      (gI 2 2 S r2).bind fun v3 =>
      (if v1 ≤ v3 then
      (some (x2 / (10 : Int32))).bind fun v4 =>
      f_X8_isOfRooms_b2 S  n a0 v4
      else
      some (0 : Int32))))
def f_X8_isOfRooms (a0 : Nat) (x1 : Int32) (S : Mem) : Option Int32 :=
    f_X8_isOfRooms_b2 S FU a0 x1
set_option maxHeartbeats 4000000 in
set_option maxRecDepth 100000 in
theorem w_X8_isOfRooms_b2 {p : Program} {l : Launch} {e : Env} {s : State} {m : MethodId} {args : Array Value} {below : List Frame} {meth : Method} {c : Code} {b0 : Nat} {D : va_G} {cy : Nat → ClassId} {S : Mem} {q : Int32} (C0 : Cx p m c cX8_isOfRooms 4 s args RX8 D cy) (hr : meth.sig.returnType = some .boolean) (hlocks : meth.locks = false) : ∀ (n : Nat) (a0 : Nat) (x2 : Int32) (H : Heap) (locs : List Loc) (ls : Array Slot), Wd b0 D cy S s.heap H locs → lv_has ls 4 [(0, .ref (b0 + a0)), (2, .int x2)] → f_X8_isOfRooms_b2 S  n a0 x2 = some q → W p l e rm_X8_isOfRooms s m args below meth c H locs 0 0 (MQ below (Qp b0 D cy (some (.int q)) S) args s 0 0 (fun q => b0 ≤ q)) (F0 m 2 ls []) := by
  intro n
  induction n with
  | zero => intro a0 x2 H locs ls hw hl h; exact absurd h (by simp [f_X8_isOfRooms_b2])
  | succ n ih =>
    intro a0 x2 H locs ls hw hl h
    rw [f_X8_isOfRooms_b2] at h
    refine lv_iload_n C0.hx C0.hb dX8_isOfRooms_2 rfl (lv_at hl 1 rfl) ?_
    refine lv_if_le (tgt := 36) C0.hx C0.hb dX8_isOfRooms_3 (by decide) (fun hc => ?_) (fun hc => ?_)
    · have h := (if_pos hc).symm.trans h
      refine lv_iconst (v := (1 : Int32)) C0.hx C0.hb dX8_isOfRooms_36 (by decide) ?_
      obtain rfl := Option.some.inj h
      exact q_retz C0 hw (Or.inr rfl) hr hlocks dX8_isOfRooms_37
    · have h := (if_neg hc).symm.trans h
      refine lv_iload_n C0.hx C0.hb dX8_isOfRooms_6 rfl (lv_at hl 1 rfl) ?_
      refine lv_bipush (v := (10 : Int32)) C0.hx C0.hb dX8_isOfRooms_7 (by decide) ?_
      refine lv_irem C0.hx C0.hb dX8_isOfRooms_9 (by decide) ?_
      obtain ⟨v1, hv1, h⟩ := Option.bind_eq_some_iff.mp h
      refine q_nmI hv1 ?_
      refine lv_istore_n (lv' := [(3, .int v1), (0, .ref (b0 + a0)), (2, .int x2)]) C0.hx C0.hb dX8_isOfRooms_10 rfl hl (by decide) rfl (fun ls hl => ?_)
      refine lv_iload_n C0.hx C0.hb dX8_isOfRooms_11 rfl (lv_at hl 0 rfl) ?_
      refine lv_if_eq (tgt := 26) C0.hx C0.hb dX8_isOfRooms_12 (by decide) (fun hc => ?_) (fun hc => ?_)
      · have h := (if_pos hc).symm.trans h
        refine lv_iconst (v := (0 : Int32)) C0.hx C0.hb dX8_isOfRooms_26 (by decide) ?_
        obtain rfl := Option.some.inj h
        exact q_retz C0 hw (Or.inl rfl) hr hlocks dX8_isOfRooms_27
      · have h := (if_neg hc).symm.trans h
        refine lv_iload_n C0.hx C0.hb dX8_isOfRooms_15 rfl (lv_at hl 0 rfl) ?_
        refine lv_aload_n C0.hx C0.hb dX8_isOfRooms_16 rfl (lv_at hl 1 rfl) ?_
        obtain ⟨r2, hr2, h⟩ := Option.bind_eq_some_iff.mp h
        refine q_getR C0 hw hr2 rfl in_8 (by decide) kw_351 dX8_isOfRooms_17 ?_
        obtain ⟨v3, hv3, h⟩ := Option.bind_eq_some_iff.mp h
        refine q_getI C0 hw hv3 rfl in_2 (by decide) kw_105 dX8_isOfRooms_20 ?_
        refine lv_icmp_le (tgt := 28) C0.hx C0.hb dX8_isOfRooms_23 (by decide) (fun hc => ?_) (fun hc => ?_)
        · have h := (if_pos hc).symm.trans h
          refine lv_iload_n C0.hx C0.hb dX8_isOfRooms_28 rfl (lv_at hl 2 rfl) ?_
          refine lv_bipush (v := (10 : Int32)) C0.hx C0.hb dX8_isOfRooms_29 (by decide) ?_
          refine lv_idiv C0.hx C0.hb dX8_isOfRooms_31 (by decide) ?_
          obtain ⟨v4, hv4, h⟩ := Option.bind_eq_some_iff.mp h
          refine q_nmI hv4 ?_
          refine lv_istore_n (lv' := [(2, .int v4), (3, .int v1), (0, .ref (b0 + a0))]) C0.hx C0.hb dX8_isOfRooms_32 rfl hl (by decide) rfl (fun ls hl => ?_)
          refine lv_goto (tgt := 2) C0.hx C0.hb dX8_isOfRooms_33 (by decide) ?_
          exact ih a0 v4 _ _ _ hw (lv_sub hl [2, 0] rfl) h
        · have h := (if_neg hc).symm.trans h
          refine lv_iconst (v := (0 : Int32)) C0.hx C0.hb dX8_isOfRooms_26 (by decide) ?_
          obtain rfl := Option.some.inj h
          exact q_retz C0 hw (Or.inl rfl) hr hlocks dX8_isOfRooms_27
set_option maxHeartbeats 4000000 in
set_option maxRecDepth 100000 in
theorem m_X8_isOfRooms (l : Launch) (b0 : Nat) (D : va_G) (cy : Nat → ClassId) (S : Mem) (a0 : Nat) (x1 : Int32) {q : Int32} (h : f_X8_isOfRooms a0 x1 S = some q) : Met l yX8_isOfRooms [.code yX8_isOfRooms cX8_isOfRooms 4 (some .boolean)] rm_X8_isOfRooms (Pr b0 D cy S [.ref (b0 + a0), .int x1]) (Qp b0 D cy (some (.int q)) S) 0 0 (fun q => b0 ≤ q) := by
  refine Met.ofW (cc := cX8_isOfRooms) (maxL := 4) (ret := some .boolean) (by decide) rfl ?_
  intro p e s m args below meth c s₁ B hml hv
  obtain ⟨rfl, hP, hK, hT⟩ := hv
  have C0 : Cx p m c cX8_isOfRooms 4 s (List.toArray [.ref (b0 + a0), .int x1]) RX8 D cy := ⟨⟨B.exec, B.bytes, hml, findClass_of_methodNamed B.named, fun w h => hT w h _⟩, hK, hT⟩
  have hr : meth.sig.returnType = some .boolean := B.returns
  have hlocks := B.notSynchronized
  have hw : Wd b0 D cy S s.heap s.heap [] := ⟨hP, va_S.rf⟩
  have hl := lv_entry ([.ref (b0 + a0), .int x1]) (n := 4) (Nat.le_of_ble_eq_true rfl)
  rw [lg_entry_eq]
  generalize (lg_sl ([.ref (b0 + a0), .int x1]) ++ List.replicate (4 - (lg_sl ([.ref (b0 + a0), .int x1])).length) Slot.unset).toArray = ls at hl ⊢
  have hl : lv_has ls 4 [(0, .ref (b0 + a0)), (1, .int x1)] := hl
  rw [f_X8_isOfRooms] at h
  show W p l e rm_X8_isOfRooms s m _ below meth c s.heap [] 0 0 _ _
  refine lv_iload_n C0.hx C0.hb dX8_isOfRooms_0 rfl (lv_at hl 1 rfl) ?_
  refine lv_istore_n (lv' := [(2, .int x1), (0, .ref (b0 + a0)), (1, .int x1)]) C0.hx C0.hb dX8_isOfRooms_1 rfl hl (by decide) rfl (fun ls hl => ?_)
  exact w_X8_isOfRooms_b2 C0 hr hlocks FU a0 x1 _ _ _ hw (lv_sub hl [1, 0] rfl) h
abbrev rm_X8_apart : Room := { frames := 1, cells := 0, slots := 0, locals := 21 }
def f_X8_apart (x0 : Int32) (x1 : Int32) : Int32 :=
    (((if 0 ≤ ((f_X8_quietOf x0) - (f_X8_quietOf x1)) then ((f_X8_quietOf x0) - (f_X8_quietOf x1)) else 0 - ((f_X8_quietOf x0) - (f_X8_quietOf x1))) + (if 0 ≤ ((f_X8_softOf x0) - (f_X8_softOf x1)) then ((f_X8_softOf x0) - (f_X8_softOf x1)) else 0 - ((f_X8_softOf x0) - (f_X8_softOf x1)))) + (if 0 ≤ ((f_X8_newOf x0) - (f_X8_newOf x1)) then ((f_X8_newOf x0) - (f_X8_newOf x1)) else 0 - ((f_X8_newOf x0) - (f_X8_newOf x1))))
set_option maxHeartbeats 4000000 in
set_option maxRecDepth 100000 in
theorem m_X8_apart (l : Launch) (b0 : Nat) (D : va_G) (cy : Nat → ClassId) (S : Mem) (x0 : Int32) (x1 : Int32) : Met l yX8_apart [.code yX8_apart cX8_apart 2 (some .int)] rm_X8_apart (Pr b0 D cy S [.int x0, .int x1]) (Qp b0 D cy (some (.int (f_X8_apart x0 x1))) S) 0 0 (fun q => b0 ≤ q) := by
  refine Met.ofW (cc := cX8_apart) (maxL := 2) (ret := some .int) (by decide) rfl ?_
  intro p e s m args below meth c s₁ B hml hv
  obtain ⟨rfl, hP, hK, hT⟩ := hv
  have C0 : Cx p m c cX8_apart 2 s (List.toArray [.int x0, .int x1]) RX8 D cy := ⟨⟨B.exec, B.bytes, hml, findClass_of_methodNamed B.named, fun w h => hT w h _⟩, hK, hT⟩
  have hr : meth.sig.returnType = some .int := B.returns
  have hlocks := B.notSynchronized
  have hw : Wd b0 D cy S s.heap s.heap [] := ⟨hP, va_S.rf⟩
  have hl := lv_entry ([.int x0, .int x1]) (n := 2) (Nat.le_of_ble_eq_true rfl)
  rw [lg_entry_eq]
  generalize (lg_sl ([.int x0, .int x1]) ++ List.replicate (2 - (lg_sl ([.int x0, .int x1])).length) Slot.unset).toArray = ls at hl ⊢
  have hl : lv_has ls 2 [(0, .int x0), (1, .int x1)] := hl
  show W p l e rm_X8_apart s m _ below meth c s.heap [] 0 0 _ _
  refine lv_iload_n C0.hx C0.hb dX8_apart_0 rfl (lv_at hl 0 rfl) ?_
  refine q_callS (n := 1) (av := [.int x0]) (rest := []) (st1 := [.int (f_X8_quietOf x0)]) C0 hw (m_X8_quietOf l b0 D cy S x0) (goodS kw_808 kw_525 kw_63 kw_526) ⟨rfl, rfl⟩ (by decide +kernel) ⟨(Nat.le_of_ble_eq_true rfl), (Nat.le_of_ble_eq_true rfl)⟩ rfl hl.1 rfl (Nat.le_of_ble_eq_true rfl) dX8_apart_1 ⟨Nat.zero_le _, Nat.zero_le _⟩ rfl (fun H locs hw => ?_)
  refine lv_iload_n C0.hx C0.hb dX8_apart_4 rfl (lv_at hl 1 rfl) ?_
  refine q_callS (n := 1) (av := [.int x1]) (rest := [.int (f_X8_quietOf x0)]) (st1 := [.int (f_X8_quietOf x1), .int (f_X8_quietOf x0)]) C0 hw (m_X8_quietOf l b0 D cy S x1) (goodS kw_808 kw_525 kw_63 kw_526) ⟨rfl, rfl⟩ (by decide +kernel) ⟨(Nat.le_of_ble_eq_true rfl), (Nat.le_of_ble_eq_true rfl)⟩ rfl hl.1 rfl (Nat.le_of_ble_eq_true rfl) dX8_apart_5 ⟨Nat.zero_le _, Nat.zero_le _⟩ rfl (fun H locs hw => ?_)
  refine lv_isub C0.hx C0.hb dX8_apart_8 ?_
  refine va_mabs C0.hx C0.hb (C0.1.2.2.1.trans hl.1.symm) C0.ho (C0.w kw_809) (C0.w kw_810) (C0.w kw_75) (C0.w kw_811) (Nat.le_of_ble_eq_true rfl) (Nat.le_of_ble_eq_true rfl) (Nat.zero_le _) (Nat.zero_le _) dX8_apart_9 ?_
  refine lv_iload_n C0.hx C0.hb dX8_apart_12 rfl (lv_at hl 0 rfl) ?_
  refine q_callS (n := 1) (av := [.int x0]) (rest := [.int (if 0 ≤ ((f_X8_quietOf x0) - (f_X8_quietOf x1)) then ((f_X8_quietOf x0) - (f_X8_quietOf x1)) else 0 - ((f_X8_quietOf x0) - (f_X8_quietOf x1)))]) (st1 := [.int (f_X8_softOf x0), .int (if 0 ≤ ((f_X8_quietOf x0) - (f_X8_quietOf x1)) then ((f_X8_quietOf x0) - (f_X8_quietOf x1)) else 0 - ((f_X8_quietOf x0) - (f_X8_quietOf x1)))]) C0 hw (m_X8_softOf l b0 D cy S x0) (goodS kw_812 kw_532 kw_63 kw_533) ⟨rfl, rfl⟩ (by decide +kernel) ⟨(Nat.le_of_ble_eq_true rfl), (Nat.le_of_ble_eq_true rfl)⟩ rfl hl.1 rfl (Nat.le_of_ble_eq_true rfl) dX8_apart_13 ⟨Nat.zero_le _, Nat.zero_le _⟩ rfl (fun H locs hw => ?_)
  refine lv_iload_n C0.hx C0.hb dX8_apart_16 rfl (lv_at hl 1 rfl) ?_
  refine q_callS (n := 1) (av := [.int x1]) (rest := [.int (f_X8_softOf x0), .int (if 0 ≤ ((f_X8_quietOf x0) - (f_X8_quietOf x1)) then ((f_X8_quietOf x0) - (f_X8_quietOf x1)) else 0 - ((f_X8_quietOf x0) - (f_X8_quietOf x1)))]) (st1 := [.int (f_X8_softOf x1), .int (f_X8_softOf x0), .int (if 0 ≤ ((f_X8_quietOf x0) - (f_X8_quietOf x1)) then ((f_X8_quietOf x0) - (f_X8_quietOf x1)) else 0 - ((f_X8_quietOf x0) - (f_X8_quietOf x1)))]) C0 hw (m_X8_softOf l b0 D cy S x1) (goodS kw_812 kw_532 kw_63 kw_533) ⟨rfl, rfl⟩ (by decide +kernel) ⟨(Nat.le_of_ble_eq_true rfl), (Nat.le_of_ble_eq_true rfl)⟩ rfl hl.1 rfl (Nat.le_of_ble_eq_true rfl) dX8_apart_17 ⟨Nat.zero_le _, Nat.zero_le _⟩ rfl (fun H locs hw => ?_)
  refine lv_isub C0.hx C0.hb dX8_apart_20 ?_
  refine va_mabs C0.hx C0.hb (C0.1.2.2.1.trans hl.1.symm) C0.ho (C0.w kw_809) (C0.w kw_810) (C0.w kw_75) (C0.w kw_811) (Nat.le_of_ble_eq_true rfl) (Nat.le_of_ble_eq_true rfl) (Nat.zero_le _) (Nat.zero_le _) dX8_apart_21 ?_
  refine lv_iadd C0.hx C0.hb dX8_apart_24 ?_
  refine lv_iload_n C0.hx C0.hb dX8_apart_25 rfl (lv_at hl 0 rfl) ?_
  refine q_callS (n := 1) (av := [.int x0]) (rest := [.int ((if 0 ≤ ((f_X8_quietOf x0) - (f_X8_quietOf x1)) then ((f_X8_quietOf x0) - (f_X8_quietOf x1)) else 0 - ((f_X8_quietOf x0) - (f_X8_quietOf x1))) + (if 0 ≤ ((f_X8_softOf x0) - (f_X8_softOf x1)) then ((f_X8_softOf x0) - (f_X8_softOf x1)) else 0 - ((f_X8_softOf x0) - (f_X8_softOf x1))))]) (st1 := [.int (f_X8_newOf x0), .int ((if 0 ≤ ((f_X8_quietOf x0) - (f_X8_quietOf x1)) then ((f_X8_quietOf x0) - (f_X8_quietOf x1)) else 0 - ((f_X8_quietOf x0) - (f_X8_quietOf x1))) + (if 0 ≤ ((f_X8_softOf x0) - (f_X8_softOf x1)) then ((f_X8_softOf x0) - (f_X8_softOf x1)) else 0 - ((f_X8_softOf x0) - (f_X8_softOf x1))))]) C0 hw (m_X8_newOf l b0 D cy S x0) (goodS kw_813 kw_535 kw_63 kw_536) ⟨rfl, rfl⟩ (by decide +kernel) ⟨(Nat.le_of_ble_eq_true rfl), (Nat.le_of_ble_eq_true rfl)⟩ rfl hl.1 rfl (Nat.le_of_ble_eq_true rfl) dX8_apart_26 ⟨Nat.zero_le _, Nat.zero_le _⟩ rfl (fun H locs hw => ?_)
  refine lv_iload_n C0.hx C0.hb dX8_apart_29 rfl (lv_at hl 1 rfl) ?_
  refine q_callS (n := 1) (av := [.int x1]) (rest := [.int (f_X8_newOf x0), .int ((if 0 ≤ ((f_X8_quietOf x0) - (f_X8_quietOf x1)) then ((f_X8_quietOf x0) - (f_X8_quietOf x1)) else 0 - ((f_X8_quietOf x0) - (f_X8_quietOf x1))) + (if 0 ≤ ((f_X8_softOf x0) - (f_X8_softOf x1)) then ((f_X8_softOf x0) - (f_X8_softOf x1)) else 0 - ((f_X8_softOf x0) - (f_X8_softOf x1))))]) (st1 := [.int (f_X8_newOf x1), .int (f_X8_newOf x0), .int ((if 0 ≤ ((f_X8_quietOf x0) - (f_X8_quietOf x1)) then ((f_X8_quietOf x0) - (f_X8_quietOf x1)) else 0 - ((f_X8_quietOf x0) - (f_X8_quietOf x1))) + (if 0 ≤ ((f_X8_softOf x0) - (f_X8_softOf x1)) then ((f_X8_softOf x0) - (f_X8_softOf x1)) else 0 - ((f_X8_softOf x0) - (f_X8_softOf x1))))]) C0 hw (m_X8_newOf l b0 D cy S x1) (goodS kw_813 kw_535 kw_63 kw_536) ⟨rfl, rfl⟩ (by decide +kernel) ⟨(Nat.le_of_ble_eq_true rfl), (Nat.le_of_ble_eq_true rfl)⟩ rfl hl.1 rfl (Nat.le_of_ble_eq_true rfl) dX8_apart_30 ⟨Nat.zero_le _, Nat.zero_le _⟩ rfl (fun H locs hw => ?_)
  refine lv_isub C0.hx C0.hb dX8_apart_33 ?_
  refine va_mabs C0.hx C0.hb (C0.1.2.2.1.trans hl.1.symm) C0.ho (C0.w kw_809) (C0.w kw_810) (C0.w kw_75) (C0.w kw_811) (Nat.le_of_ble_eq_true rfl) (Nat.le_of_ble_eq_true rfl) (Nat.zero_le _) (Nat.zero_le _) dX8_apart_34 ?_
  refine lv_iadd C0.hx C0.hb dX8_apart_37 ?_
  exact q_reti C0 hw hr hlocks dX8_apart_38
abbrev rm_X8_goesSo : Room := { frames := 5, cells := 0, slots := 0, locals := 120 }
def f_X8_goesSo_b66 (k26 : Nat → Int32 → Int32 → Mem → Option (Int32 × Mem)) (a0 : Nat) (x2 : Int32) (x3 : Int32) (S : Mem) : Option (Int32 × Mem) :=
    (some (x3 / (10 : Int32))).bind fun v9 =>
      k26 a0 x2 v9 S
def f_X8_goesSo_b26 : Nat → Nat → Int32 → Int32 → Mem → Option (Int32 × Mem)
  | 0, _, _, _, _ => none
  | n + 1, a0, x2, x3, S =>
    (if x3 ≤ (0 : Int32) then
      some ((1 : Int32), S)
      else
      (dvI x2 x3).bind fun v8 =>
      (if v8 ≤ (0 : Int32) then
      f_X8_goesSo_b66 (fun a0 x2 x3 S => f_X8_goesSo_b26  n a0 x2 x3 S) a0 x2 x3 S
      else
      (gR 8 7 S a0).bind fun r10 =>
      (ck 4 S r10).bind fun c11 =>
      (f_X4_tryHour r10 S).bind fun S12 =>
      (gR 8 7 S12 a0).bind fun r13 =>
      (gI 4 1 S12 r13).bind fun v14 =>
      (if (v14 + (1 : Int32)) = (irI v8 (10 : Int32)) then
      f_X8_goesSo_b66 (fun a0 x2 x3 S => f_X8_goesSo_b26  n a0 x2 x3 S) a0 x2 x3 S12
      else
      some ((0 : Int32), S12))))
def f_X8_goesSo (a0 : Nat) (x1 : Int32) (x2 : Int32) (S : Mem) : Option (Int32 × Mem) :=
    (gR 8 7 S a0).bind fun r1 =>
      (gR 8 2 S a0).bind fun r2 =>
      (gR 5 0 S r2).bind fun r3 =>
      (ck 4 S r1).bind fun c4 =>
      (f_X4_copyFrom r1 r3 S).bind fun S5 =>
      (gR 8 7 S5 a0).bind fun r6 =>
      (pI 4 0 S5 r6 x1).bind fun S7 =>
      f_X8_goesSo_b26 FU a0 x2 (10000000 : Int32) S7
set_option maxHeartbeats 4000000 in
set_option maxRecDepth 100000 in
theorem w_X8_goesSo_b66 {p : Program} {l : Launch} {e : Env} {s : State} {m : MethodId} {args : Array Value} {below : List Frame} {meth : Method} {c : Code} {b0 : Nat} {D : va_G} {cy : Nat → ClassId} {q : (Int32 × Mem)} (C0 : Cx p m c cX8_goesSo 5 s args RX8 D cy) (hr : meth.sig.returnType = some .boolean) (hlocks : meth.locks = false) (k26 : Nat → Int32 → Int32 → Mem → Option (Int32 × Mem)) (hk26 : ∀ (a0 : Nat) (x2 : Int32) (x3 : Int32) (S : Mem) (H : Heap) (locs : List Loc) (ls : Array Slot), Wd b0 D cy S s.heap H locs → lv_has ls 5 [(0, .ref (b0 + a0)), (2, .int x2), (3, .int x3)] → k26 a0 x2 x3 S = some q → W p l e rm_X8_goesSo s m args below meth c H locs 0 0 (MQ below (Qp b0 D cy (some (.int q.1)) q.2) args s 0 0 (fun q => b0 ≤ q)) (F0 m 26 ls [])) : ∀ (a0 : Nat) (x2 : Int32) (x3 : Int32) (S : Mem) (H : Heap) (locs : List Loc) (ls : Array Slot), Wd b0 D cy S s.heap H locs → lv_has ls 5 [(0, .ref (b0 + a0)), (2, .int x2), (3, .int x3)] → f_X8_goesSo_b66 k26 a0 x2 x3 S = some q → W p l e rm_X8_goesSo s m args below meth c H locs 0 0 (MQ below (Qp b0 D cy (some (.int q.1)) q.2) args s 0 0 (fun q => b0 ≤ q)) (F0 m 66 ls []) := by
  intro a0 x2 x3 S H locs ls hw hl h
  rw [f_X8_goesSo_b66] at h
  refine lv_iload_n C0.hx C0.hb dX8_goesSo_66 rfl (lv_at hl 2 rfl) ?_
  refine lv_bipush (v := (10 : Int32)) C0.hx C0.hb dX8_goesSo_67 (by decide) ?_
  refine lv_idiv C0.hx C0.hb dX8_goesSo_69 (by decide) ?_
  obtain ⟨v9, hv9, h⟩ := Option.bind_eq_some_iff.mp h
  refine q_nmI hv9 ?_
  refine lv_istore_n (lv' := [(3, .int v9), (0, .ref (b0 + a0)), (2, .int x2)]) C0.hx C0.hb dX8_goesSo_70 rfl hl (by decide) rfl (fun ls hl => ?_)
  refine lv_goto (tgt := 26) C0.hx C0.hb dX8_goesSo_71 (by decide) ?_
  exact hk26 a0 x2 v9 S _ _ _ hw (lv_sub hl [1, 2, 0] rfl) h
set_option maxHeartbeats 4000000 in
set_option maxRecDepth 100000 in
theorem w_X8_goesSo_b26 {p : Program} {l : Launch} {e : Env} {s : State} {m : MethodId} {args : Array Value} {below : List Frame} {meth : Method} {c : Code} {b0 : Nat} {D : va_G} {cy : Nat → ClassId} {q : (Int32 × Mem)} (C0 : Cx p m c cX8_goesSo 5 s args RX8 D cy) (hr : meth.sig.returnType = some .boolean) (hlocks : meth.locks = false) : ∀ (n : Nat) (a0 : Nat) (x2 : Int32) (x3 : Int32) (S : Mem) (H : Heap) (locs : List Loc) (ls : Array Slot), Wd b0 D cy S s.heap H locs → lv_has ls 5 [(0, .ref (b0 + a0)), (2, .int x2), (3, .int x3)] → f_X8_goesSo_b26  n a0 x2 x3 S = some q → W p l e rm_X8_goesSo s m args below meth c H locs 0 0 (MQ below (Qp b0 D cy (some (.int q.1)) q.2) args s 0 0 (fun q => b0 ≤ q)) (F0 m 26 ls []) := by
  intro n
  induction n with
  | zero => intro a0 x2 x3 S H locs ls hw hl h; exact absurd h (by simp [f_X8_goesSo_b26])
  | succ n ih =>
    intro a0 x2 x3 S H locs ls hw hl h
    rw [f_X8_goesSo_b26] at h
    refine lv_iload_n C0.hx C0.hb dX8_goesSo_26 rfl (lv_at hl 2 rfl) ?_
    refine lv_if_le (tgt := 74) C0.hx C0.hb dX8_goesSo_27 (by decide) (fun hc => ?_) (fun hc => ?_)
    · have h := (if_pos hc).symm.trans h
      refine lv_iconst (v := (1 : Int32)) C0.hx C0.hb dX8_goesSo_74 (by decide) ?_
      obtain rfl := Option.some.inj h
      exact q_retz C0 hw (Or.inr rfl) hr hlocks dX8_goesSo_75
    · have h := (if_neg hc).symm.trans h
      refine lv_iload_n C0.hx C0.hb dX8_goesSo_30 rfl (lv_at hl 1 rfl) ?_
      refine lv_iload_n C0.hx C0.hb dX8_goesSo_31 rfl (lv_at hl 2 rfl) ?_
      obtain ⟨v8, hv8, h⟩ := Option.bind_eq_some_iff.mp h
      refine q_dvI C0 hv8 dX8_goesSo_32 ?_
      refine lv_istore (lv' := [(4, .int v8), (0, .ref (b0 + a0)), (2, .int x2), (3, .int x3)]) C0.hx C0.hb dX8_goesSo_33 hl (by decide) rfl (fun ls hl => ?_)
      refine lv_iload C0.hx C0.hb dX8_goesSo_35 (lv_at hl 0 rfl) ?_
      refine lv_if_le (tgt := 66) C0.hx C0.hb dX8_goesSo_37 (by decide) (fun hc => ?_) (fun hc => ?_)
      · have h := (if_pos hc).symm.trans h
        exact w_X8_goesSo_b66 C0 hr hlocks (fun a0 x2 x3 S => f_X8_goesSo_b26  n a0 x2 x3 S) ih a0 x2 x3 S _ _ _ hw (lv_sub hl [1, 2, 3] rfl) h
      · have h := (if_neg hc).symm.trans h
        refine lv_aload_n C0.hx C0.hb dX8_goesSo_40 rfl (lv_at hl 1 rfl) ?_
        obtain ⟨r10, hr10, h⟩ := Option.bind_eq_some_iff.mp h
        refine q_getR C0 hw hr10 rfl in_8 (by decide) kw_357 dX8_goesSo_41 ?_
        obtain ⟨c11, hc11, h⟩ := Option.bind_eq_some_iff.mp h
        obtain ⟨S12, hS12, h⟩ := Option.bind_eq_some_iff.mp h
        refine q_callV (n := 0) (av := []) (rest := []) (st1 := []) C0 hw (m_X4_tryHour l b0 D cy S r10 hS12) hc11 rfl (by decide) (goodV kw_688 kw_689 kw_690 kw_67 kw_691) ⟨rfl, rfl⟩ (by decide +kernel) ⟨(Nat.le_of_ble_eq_true rfl), (Nat.le_of_ble_eq_true rfl)⟩ rfl hl.1 rfl (Nat.le_of_ble_eq_true rfl) dX8_goesSo_44 ⟨Nat.zero_le _, Nat.zero_le _⟩ rfl (fun H locs hw => ?_)
        refine lv_aload_n C0.hx C0.hb dX8_goesSo_47 rfl (lv_at hl 1 rfl) ?_
        obtain ⟨r13, hr13, h⟩ := Option.bind_eq_some_iff.mp h
        refine q_getR C0 hw hr13 rfl in_8 (by decide) kw_357 dX8_goesSo_48 ?_
        obtain ⟨v14, hv14, h⟩ := Option.bind_eq_some_iff.mp h
        refine q_getI C0 hw hv14 rfl in_4 (by decide) kw_200 dX8_goesSo_51 ?_
        refine lv_iconst (v := (1 : Int32)) C0.hx C0.hb dX8_goesSo_54 (by decide) ?_
        refine lv_iadd C0.hx C0.hb dX8_goesSo_55 ?_
        refine lv_iload C0.hx C0.hb dX8_goesSo_56 (lv_at hl 0 rfl) ?_
        refine lv_bipush (v := (10 : Int32)) C0.hx C0.hb dX8_goesSo_58 (by decide) ?_
        refine lv_irem C0.hx C0.hb dX8_goesSo_60 (by decide) ?_
        refine lv_icmp_eq (tgt := 66) C0.hx C0.hb dX8_goesSo_61 (by decide) (fun hc => ?_) (fun hc => ?_)
        · have h := (if_pos hc).symm.trans h
          exact w_X8_goesSo_b66 C0 hr hlocks (fun a0 x2 x3 S => f_X8_goesSo_b26  n a0 x2 x3 S) ih a0 x2 x3 S12 _ _ _ hw (lv_sub hl [1, 2, 3] rfl) h
        · have h := (if_neg hc).symm.trans h
          refine lv_iconst (v := (0 : Int32)) C0.hx C0.hb dX8_goesSo_64 (by decide) ?_
          obtain rfl := Option.some.inj h
          exact q_retz C0 hw (Or.inl rfl) hr hlocks dX8_goesSo_65
set_option maxHeartbeats 4000000 in
set_option maxRecDepth 100000 in
theorem m_X8_goesSo (l : Launch) (b0 : Nat) (D : va_G) (cy : Nat → ClassId) (S : Mem) (a0 : Nat) (x1 : Int32) (x2 : Int32) {q : (Int32 × Mem)} (h : f_X8_goesSo a0 x1 x2 S = some q) : Met l yX8_goesSo [.code yX8_goesSo cX8_goesSo 5 (some .boolean)] rm_X8_goesSo (Pr b0 D cy S [.ref (b0 + a0), .int x1, .int x2]) (Qp b0 D cy (some (.int q.1)) q.2) 0 0 (fun q => b0 ≤ q) := by
  refine Met.ofW (cc := cX8_goesSo) (maxL := 5) (ret := some .boolean) (by decide) rfl ?_
  intro p e s m args below meth c s₁ B hml hv
  obtain ⟨rfl, hP, hK, hT⟩ := hv
  have C0 : Cx p m c cX8_goesSo 5 s (List.toArray [.ref (b0 + a0), .int x1, .int x2]) RX8 D cy := ⟨⟨B.exec, B.bytes, hml, findClass_of_methodNamed B.named, fun w h => hT w h _⟩, hK, hT⟩
  have hr : meth.sig.returnType = some .boolean := B.returns
  have hlocks := B.notSynchronized
  have hw : Wd b0 D cy S s.heap s.heap [] := ⟨hP, va_S.rf⟩
  have hl := lv_entry ([.ref (b0 + a0), .int x1, .int x2]) (n := 5) (Nat.le_of_ble_eq_true rfl)
  rw [lg_entry_eq]
  generalize (lg_sl ([.ref (b0 + a0), .int x1, .int x2]) ++ List.replicate (5 - (lg_sl ([.ref (b0 + a0), .int x1, .int x2])).length) Slot.unset).toArray = ls at hl ⊢
  have hl : lv_has ls 5 [(0, .ref (b0 + a0)), (1, .int x1), (2, .int x2)] := hl
  rw [f_X8_goesSo] at h
  show W p l e rm_X8_goesSo s m _ below meth c s.heap [] 0 0 _ _
  refine lv_aload_n C0.hx C0.hb dX8_goesSo_0 rfl (lv_at hl 0 rfl) ?_
  obtain ⟨r1, hr1, h⟩ := Option.bind_eq_some_iff.mp h
  refine q_getR C0 hw hr1 rfl in_8 (by decide) kw_357 dX8_goesSo_1 ?_
  refine lv_aload_n C0.hx C0.hb dX8_goesSo_4 rfl (lv_at hl 0 rfl) ?_
  obtain ⟨r2, hr2, h⟩ := Option.bind_eq_some_iff.mp h
  refine q_getR C0 hw hr2 rfl in_8 (by decide) kw_352 dX8_goesSo_5 ?_
  obtain ⟨r3, hr3, h⟩ := Option.bind_eq_some_iff.mp h
  refine q_getR C0 hw hr3 rfl in_5 (by decide) kw_259 dX8_goesSo_8 ?_
  obtain ⟨c4, hc4, h⟩ := Option.bind_eq_some_iff.mp h
  obtain ⟨S5, hS5, h⟩ := Option.bind_eq_some_iff.mp h
  refine q_callV (n := 1) (av := [.ref (b0 + r3)]) (rest := []) (st1 := []) C0 hw (m_X4_copyFrom l b0 D cy S r1 r3 hS5) hc4 rfl (by decide) (goodV kw_687 kw_572 kw_573 kw_67 kw_574) ⟨rfl, rfl⟩ (by decide +kernel) ⟨(Nat.le_of_ble_eq_true rfl), (Nat.le_of_ble_eq_true rfl)⟩ rfl hl.1 rfl (Nat.le_of_ble_eq_true rfl) dX8_goesSo_11 ⟨Nat.zero_le _, Nat.zero_le _⟩ rfl (fun H locs hw => ?_)
  refine lv_aload_n C0.hx C0.hb dX8_goesSo_14 rfl (lv_at hl 0 rfl) ?_
  obtain ⟨r6, hr6, h⟩ := Option.bind_eq_some_iff.mp h
  refine q_getR C0 hw hr6 rfl in_8 (by decide) kw_357 dX8_goesSo_15 ?_
  refine lv_iload_n C0.hx C0.hb dX8_goesSo_18 rfl (lv_at hl 1 rfl) ?_
  obtain ⟨S7, hS7, h⟩ := Option.bind_eq_some_iff.mp h
  refine q_putI C0 hw hS7 rfl in_4 tyX4_ok nmX4 ⟨by decide, by decide, rfl, rfl⟩ rfl kw_196 dX8_goesSo_19 (fun H locs hw => ?_)
  refine lv_ldcw C0.hx C0.hb C0.ho (C0.w kw_818) dX8_goesSo_22 ?_
  refine lv_istore_n (lv' := [(3, .int (10000000 : Int32)), (0, .ref (b0 + a0)), (1, .int x1), (2, .int x2)]) C0.hx C0.hb dX8_goesSo_25 rfl hl (by decide) rfl (fun ls hl => ?_)
  exact w_X8_goesSo_b26 C0 hr hlocks FU a0 x2 (10000000 : Int32) S7 _ _ _ hw (lv_sub hl [1, 3, 0] rfl) h
abbrev rm_X8_teachFor : Room := { frames := 6, cells := 0, slots := 0, locals := 144 }
def f_X8_teachFor_b93 (k42 : Nat → Int32 → Int32 → Int32 → Int32 → Mem → Option (Int32 × Mem)) (a0 : Nat) (x1 : Int32) (x2 : Int32) (x3 : Int32) (x4 : Int32) (S : Mem) : Option (Int32 × Mem) :=
    (some (x4 + (1 : Int32))).bind fun v11 =>
      k42 a0 x1 x2 x3 v11 S
def f_X8_teachFor_b77 (k42 : Nat → Int32 → Int32 → Int32 → Int32 → Mem → Option (Int32 × Mem)) (a0 : Nat) (x1 : Int32) (x2 : Int32) (x3 : Int32) (x4 : Int32) (x5 : Int32) (S : Mem) : Option (Int32 × Mem) :=
    (ck 8 S a0).bind fun c9 =>
      (f_X8_goesSo a0 x4 x1 S).bind fun q10 =>
      (if q10.1 = (0 : Int32) then
      f_X8_teachFor_b93 k42 a0 x1 x2 x3 x4 q10.2
      else
      f_X8_teachFor_b93 k42 a0 x1 x4 x5 x4 q10.2)
def f_X8_teachFor_b42 : Nat → Nat → Int32 → Int32 → Int32 → Int32 → Mem → Option (Int32 × Mem)
  | 0, _, _, _, _, _, _ => none
  | n + 1, a0, x1, x2, x3, x4, S =>
    (if (64 : Int32) ≤ x4 then
      some (x2, S)
      else
      (gR 8 2 S a0).bind fun r5 =>
      (gR 5 0 S r5).bind fun r6 =>
      (gI 4 0 S r6).bind fun v7 =>
      (some (f_X8_apart x4 v7)).bind fun v8 =>
      (if x2 = (-1 : Int32) then
      f_X8_teachFor_b77 (fun a0 x1 x2 x3 x4 S => f_X8_teachFor_b42  n a0 x1 x2 x3 x4 S) a0 x1 x2 x3 x4 v8 S
      else
      (if x3 ≤ v8 then
      f_X8_teachFor_b93 (fun a0 x1 x2 x3 x4 S => f_X8_teachFor_b42  n a0 x1 x2 x3 x4 S) a0 x1 x2 x3 x4 S
      else
      f_X8_teachFor_b77 (fun a0 x1 x2 x3 x4 S => f_X8_teachFor_b42  n a0 x1 x2 x3 x4 S) a0 x1 x2 x3 x4 v8 S)))
def f_X8_teachFor (a0 : Nat) (x1 : Int32) (S : Mem) : Option (Int32 × Mem) :=
    (if x1 < (0 : Int32) then
      some ((-1000000002 : Int32), S)
      else
      (if (99999999 : Int32) < x1 then
      some ((-1000000002 : Int32), S)
      else
      (ck 8 S a0).bind fun c1 =>
      (f_X8_isOfRooms a0 x1 S).bind fun v2 =>
      (if v2 = (0 : Int32) then
      some ((-1000000002 : Int32), S)
      else
      (gR 8 1 S a0).bind fun r3 =>
      (gI 2 2 S r3).bind fun v4 =>
      (if v4 = (0 : Int32) then
      some ((-1000000003 : Int32), S)
      else
      f_X8_teachFor_b42 FU a0 x1 (-1 : Int32) (0 : Int32) (0 : Int32) S))))
set_option maxHeartbeats 4000000 in
set_option maxRecDepth 100000 in
theorem w_X8_teachFor_b93 {p : Program} {l : Launch} {e : Env} {s : State} {m : MethodId} {args : Array Value} {below : List Frame} {meth : Method} {c : Code} {b0 : Nat} {D : va_G} {cy : Nat → ClassId} {q : (Int32 × Mem)} (C0 : Cx p m c cX8_teachFor 6 s args RX8 D cy) (hr : meth.sig.returnType = some .int) (hlocks : meth.locks = false) (k42 : Nat → Int32 → Int32 → Int32 → Int32 → Mem → Option (Int32 × Mem)) (hk42 : ∀ (a0 : Nat) (x1 : Int32) (x2 : Int32) (x3 : Int32) (x4 : Int32) (S : Mem) (H : Heap) (locs : List Loc) (ls : Array Slot), Wd b0 D cy S s.heap H locs → lv_has ls 6 [(0, .ref (b0 + a0)), (1, .int x1), (2, .int x2), (3, .int x3), (4, .int x4)] → k42 a0 x1 x2 x3 x4 S = some q → W p l e rm_X8_teachFor s m args below meth c H locs 0 0 (MQ below (Qp b0 D cy (some (.int q.1)) q.2) args s 0 0 (fun q => b0 ≤ q)) (F0 m 42 ls [])) : ∀ (a0 : Nat) (x1 : Int32) (x2 : Int32) (x3 : Int32) (x4 : Int32) (S : Mem) (H : Heap) (locs : List Loc) (ls : Array Slot), Wd b0 D cy S s.heap H locs → lv_has ls 6 [(0, .ref (b0 + a0)), (1, .int x1), (2, .int x2), (3, .int x3), (4, .int x4)] → f_X8_teachFor_b93 k42 a0 x1 x2 x3 x4 S = some q → W p l e rm_X8_teachFor s m args below meth c H locs 0 0 (MQ below (Qp b0 D cy (some (.int q.1)) q.2) args s 0 0 (fun q => b0 ≤ q)) (F0 m 93 ls []) := by
  intro a0 x1 x2 x3 x4 S H locs ls hw hl h
  rw [f_X8_teachFor_b93] at h
  obtain ⟨v11, hv11, h⟩ := Option.bind_eq_some_iff.mp h
  refine lv_iinc (v := v11) (lv' := [(4, .int v11), (0, .ref (b0 + a0)), (1, .int x1), (2, .int x2), (3, .int x3)]) C0.hx C0.hb dX8_teachFor_93 hl (k := 4) rfl (by rw [← Option.some.inj hv11]; rfl) (by decide) rfl (fun ls hl => ?_)
  refine lv_goto (tgt := 42) C0.hx C0.hb dX8_teachFor_96 (by decide) ?_
  exact hk42 a0 x1 x2 x3 v11 S _ _ _ hw (lv_sub hl [1, 2, 3, 4, 0] rfl) h
set_option maxHeartbeats 4000000 in
set_option maxRecDepth 100000 in
theorem w_X8_teachFor_b77 {p : Program} {l : Launch} {e : Env} {s : State} {m : MethodId} {args : Array Value} {below : List Frame} {meth : Method} {c : Code} {b0 : Nat} {D : va_G} {cy : Nat → ClassId} {q : (Int32 × Mem)} (C0 : Cx p m c cX8_teachFor 6 s args RX8 D cy) (hr : meth.sig.returnType = some .int) (hlocks : meth.locks = false) (k42 : Nat → Int32 → Int32 → Int32 → Int32 → Mem → Option (Int32 × Mem)) (hk42 : ∀ (a0 : Nat) (x1 : Int32) (x2 : Int32) (x3 : Int32) (x4 : Int32) (S : Mem) (H : Heap) (locs : List Loc) (ls : Array Slot), Wd b0 D cy S s.heap H locs → lv_has ls 6 [(0, .ref (b0 + a0)), (1, .int x1), (2, .int x2), (3, .int x3), (4, .int x4)] → k42 a0 x1 x2 x3 x4 S = some q → W p l e rm_X8_teachFor s m args below meth c H locs 0 0 (MQ below (Qp b0 D cy (some (.int q.1)) q.2) args s 0 0 (fun q => b0 ≤ q)) (F0 m 42 ls [])) : ∀ (a0 : Nat) (x1 : Int32) (x2 : Int32) (x3 : Int32) (x4 : Int32) (x5 : Int32) (S : Mem) (H : Heap) (locs : List Loc) (ls : Array Slot), Wd b0 D cy S s.heap H locs → lv_has ls 6 [(0, .ref (b0 + a0)), (1, .int x1), (2, .int x2), (3, .int x3), (4, .int x4), (5, .int x5)] → f_X8_teachFor_b77 k42 a0 x1 x2 x3 x4 x5 S = some q → W p l e rm_X8_teachFor s m args below meth c H locs 0 0 (MQ below (Qp b0 D cy (some (.int q.1)) q.2) args s 0 0 (fun q => b0 ≤ q)) (F0 m 77 ls []) := by
  intro a0 x1 x2 x3 x4 x5 S H locs ls hw hl h
  rw [f_X8_teachFor_b77] at h
  refine lv_aload_n C0.hx C0.hb dX8_teachFor_77 rfl (lv_at hl 0 rfl) ?_
  refine lv_iload C0.hx C0.hb dX8_teachFor_78 (lv_at hl 4 rfl) ?_
  refine lv_iload_n C0.hx C0.hb dX8_teachFor_80 rfl (lv_at hl 1 rfl) ?_
  obtain ⟨c9, hc9, h⟩ := Option.bind_eq_some_iff.mp h
  obtain ⟨q10, hq10, h⟩ := Option.bind_eq_some_iff.mp h
  refine q_callV (n := 2) (av := [.int x4, .int x1]) (rest := []) (st1 := [.int q10.1]) C0 hw (m_X8_goesSo l b0 D cy S a0 x4 x1 hq10) hc9 rfl (by decide) (goodV kw_814 kw_816 kw_23 kw_63 kw_817) ⟨rfl, rfl⟩ (by decide +kernel) ⟨(Nat.le_of_ble_eq_true rfl), (Nat.le_of_ble_eq_true rfl)⟩ rfl hl.1 rfl (Nat.le_of_ble_eq_true rfl) dX8_teachFor_81 ⟨Nat.zero_le _, Nat.zero_le _⟩ rfl (fun H locs hw => ?_)
  refine lv_if_eq (tgt := 93) C0.hx C0.hb dX8_teachFor_84 (by decide) (fun hc => ?_) (fun hc => ?_)
  · have h := (if_pos hc).symm.trans h
    exact w_X8_teachFor_b93 C0 hr hlocks k42 hk42 a0 x1 x2 x3 x4 q10.2 _ _ _ hw (lv_sub hl [0, 1, 2, 3, 4] rfl) h
  · have h := (if_neg hc).symm.trans h
    refine lv_iload C0.hx C0.hb dX8_teachFor_87 (lv_at hl 4 rfl) ?_
    refine lv_istore_n (lv' := [(2, .int x4), (0, .ref (b0 + a0)), (1, .int x1), (3, .int x3), (4, .int x4), (5, .int x5)]) C0.hx C0.hb dX8_teachFor_89 rfl hl (by decide) rfl (fun ls hl => ?_)
    refine lv_iload C0.hx C0.hb dX8_teachFor_90 (lv_at hl 5 rfl) ?_
    refine lv_istore_n (lv' := [(3, .int x5), (2, .int x4), (0, .ref (b0 + a0)), (1, .int x1), (4, .int x4), (5, .int x5)]) C0.hx C0.hb dX8_teachFor_92 rfl hl (by decide) rfl (fun ls hl => ?_)
    exact w_X8_teachFor_b93 C0 hr hlocks k42 hk42 a0 x1 x4 x5 x4 q10.2 _ _ _ hw (lv_sub hl [2, 3, 1, 0, 4] rfl) h
set_option maxHeartbeats 4000000 in
set_option maxRecDepth 100000 in
theorem w_X8_teachFor_b42 {p : Program} {l : Launch} {e : Env} {s : State} {m : MethodId} {args : Array Value} {below : List Frame} {meth : Method} {c : Code} {b0 : Nat} {D : va_G} {cy : Nat → ClassId} {q : (Int32 × Mem)} (C0 : Cx p m c cX8_teachFor 6 s args RX8 D cy) (hr : meth.sig.returnType = some .int) (hlocks : meth.locks = false) : ∀ (n : Nat) (a0 : Nat) (x1 : Int32) (x2 : Int32) (x3 : Int32) (x4 : Int32) (S : Mem) (H : Heap) (locs : List Loc) (ls : Array Slot), Wd b0 D cy S s.heap H locs → lv_has ls 6 [(0, .ref (b0 + a0)), (1, .int x1), (2, .int x2), (3, .int x3), (4, .int x4)] → f_X8_teachFor_b42  n a0 x1 x2 x3 x4 S = some q → W p l e rm_X8_teachFor s m args below meth c H locs 0 0 (MQ below (Qp b0 D cy (some (.int q.1)) q.2) args s 0 0 (fun q => b0 ≤ q)) (F0 m 42 ls []) := by
  intro n
  induction n with
  | zero => intro a0 x1 x2 x3 x4 S H locs ls hw hl h; exact absurd h (by simp [f_X8_teachFor_b42])
  | succ n ih =>
    intro a0 x1 x2 x3 x4 S H locs ls hw hl h
    rw [f_X8_teachFor_b42] at h
    refine lv_iload C0.hx C0.hb dX8_teachFor_42 (lv_at hl 4 rfl) ?_
    refine lv_bipush (v := (64 : Int32)) C0.hx C0.hb dX8_teachFor_44 (by decide) ?_
    refine lv_icmp_ge (tgt := 99) C0.hx C0.hb dX8_teachFor_46 (by decide) (fun hc => ?_) (fun hc => ?_)
    · have h := (if_pos hc).symm.trans h
      refine lv_iload_n C0.hx C0.hb dX8_teachFor_99 rfl (lv_at hl 2 rfl) ?_
      obtain rfl := Option.some.inj h
      exact q_reti C0 hw hr hlocks dX8_teachFor_100
    · have h := (if_neg hc).symm.trans h
      refine lv_iload C0.hx C0.hb dX8_teachFor_49 (lv_at hl 4 rfl) ?_
      refine lv_aload_n C0.hx C0.hb dX8_teachFor_51 rfl (lv_at hl 0 rfl) ?_
      obtain ⟨r5, hr5, h⟩ := Option.bind_eq_some_iff.mp h
      refine q_getR C0 hw hr5 rfl in_8 (by decide) kw_352 dX8_teachFor_52 ?_
      obtain ⟨r6, hr6, h⟩ := Option.bind_eq_some_iff.mp h
      refine q_getR C0 hw hr6 rfl in_5 (by decide) kw_259 dX8_teachFor_55 ?_
      obtain ⟨v7, hv7, h⟩ := Option.bind_eq_some_iff.mp h
      refine q_getI C0 hw hv7 rfl in_4 (by decide) kw_196 dX8_teachFor_58 ?_
      refine q_callS (n := 2) (av := [.int x4, .int v7]) (rest := []) (st1 := [.int (f_X8_apart x4 v7)]) C0 hw (m_X8_apart l b0 D cy S x4 v7) (goodS kw_805 kw_806 kw_63 kw_807) ⟨rfl, rfl⟩ (by decide +kernel) ⟨(Nat.le_of_ble_eq_true rfl), (Nat.le_of_ble_eq_true rfl)⟩ rfl hl.1 rfl (Nat.le_of_ble_eq_true rfl) dX8_teachFor_61 ⟨Nat.zero_le _, Nat.zero_le _⟩ rfl (fun H locs hw => ?_)
      obtain ⟨v8, hv8, h⟩ := Option.bind_eq_some_iff.mp h
      refine q_nmI hv8 ?_
      refine lv_istore (lv' := [(5, .int v8), (0, .ref (b0 + a0)), (1, .int x1), (2, .int x2), (3, .int x3), (4, .int x4)]) C0.hx C0.hb dX8_teachFor_64 hl (by decide) rfl (fun ls hl => ?_)
      refine lv_iload_n C0.hx C0.hb dX8_teachFor_66 rfl (lv_at hl 3 rfl) ?_
      refine lv_iconst (v := (-1 : Int32)) C0.hx C0.hb dX8_teachFor_67 (by decide) ?_
      refine lv_icmp_eq (tgt := 77) C0.hx C0.hb dX8_teachFor_68 (by decide) (fun hc => ?_) (fun hc => ?_)
      · have h := (if_pos hc).symm.trans h
        exact w_X8_teachFor_b77 C0 hr hlocks (fun a0 x1 x2 x3 x4 S => f_X8_teachFor_b42  n a0 x1 x2 x3 x4 S) ih a0 x1 x2 x3 x4 v8 S _ _ _ hw (lv_sub hl [1, 2, 3, 4, 5, 0] rfl) h
      · have h := (if_neg hc).symm.trans h
        refine lv_iload C0.hx C0.hb dX8_teachFor_71 (lv_at hl 0 rfl) ?_
        refine lv_iload_n C0.hx C0.hb dX8_teachFor_73 rfl (lv_at hl 4 rfl) ?_
        refine lv_icmp_ge (tgt := 93) C0.hx C0.hb dX8_teachFor_74 (by decide) (fun hc => ?_) (fun hc => ?_)
        · have h := (if_pos hc).symm.trans h
          exact w_X8_teachFor_b93 C0 hr hlocks (fun a0 x1 x2 x3 x4 S => f_X8_teachFor_b42  n a0 x1 x2 x3 x4 S) ih a0 x1 x2 x3 x4 S _ _ _ hw (lv_sub hl [1, 2, 3, 4, 5] rfl) h
        · have h := (if_neg hc).symm.trans h
          exact w_X8_teachFor_b77 C0 hr hlocks (fun a0 x1 x2 x3 x4 S => f_X8_teachFor_b42  n a0 x1 x2 x3 x4 S) ih a0 x1 x2 x3 x4 v8 S _ _ _ hw (lv_sub hl [1, 2, 3, 4, 5, 0] rfl) h
set_option maxHeartbeats 4000000 in
set_option maxRecDepth 100000 in
theorem m_X8_teachFor (l : Launch) (b0 : Nat) (D : va_G) (cy : Nat → ClassId) (S : Mem) (a0 : Nat) (x1 : Int32) {q : (Int32 × Mem)} (h : f_X8_teachFor a0 x1 S = some q) : Met l yX8_teachFor [.code yX8_teachFor cX8_teachFor 6 (some .int)] rm_X8_teachFor (Pr b0 D cy S [.ref (b0 + a0), .int x1]) (Qp b0 D cy (some (.int q.1)) q.2) 0 0 (fun q => b0 ≤ q) := by
  refine Met.ofW (cc := cX8_teachFor) (maxL := 6) (ret := some .int) (by decide) rfl ?_
  intro p e s m args below meth c s₁ B hml hv
  obtain ⟨rfl, hP, hK, hT⟩ := hv
  have C0 : Cx p m c cX8_teachFor 6 s (List.toArray [.ref (b0 + a0), .int x1]) RX8 D cy := ⟨⟨B.exec, B.bytes, hml, findClass_of_methodNamed B.named, fun w h => hT w h _⟩, hK, hT⟩
  have hr : meth.sig.returnType = some .int := B.returns
  have hlocks := B.notSynchronized
  have hw : Wd b0 D cy S s.heap s.heap [] := ⟨hP, va_S.rf⟩
  have hl := lv_entry ([.ref (b0 + a0), .int x1]) (n := 6) (Nat.le_of_ble_eq_true rfl)
  rw [lg_entry_eq]
  generalize (lg_sl ([.ref (b0 + a0), .int x1]) ++ List.replicate (6 - (lg_sl ([.ref (b0 + a0), .int x1])).length) Slot.unset).toArray = ls at hl ⊢
  have hl : lv_has ls 6 [(0, .ref (b0 + a0)), (1, .int x1)] := hl
  rw [f_X8_teachFor] at h
  show W p l e rm_X8_teachFor s m _ below meth c s.heap [] 0 0 _ _
  refine lv_iload_n C0.hx C0.hb dX8_teachFor_0 rfl (lv_at hl 1 rfl) ?_
  refine lv_if_lt (tgt := 19) C0.hx C0.hb dX8_teachFor_1 (by decide) (fun hc => ?_) (fun hc => ?_)
  · have h := (if_pos hc).symm.trans h
    refine lv_ldc C0.hx C0.hb C0.ho (C0.w kw_385) dX8_teachFor_19 ?_
    obtain rfl := Option.some.inj h
    exact q_reti C0 hw hr hlocks dX8_teachFor_21
  · have h := (if_neg hc).symm.trans h
    refine lv_iload_n C0.hx C0.hb dX8_teachFor_4 rfl (lv_at hl 1 rfl) ?_
    refine lv_ldcw C0.hx C0.hb C0.ho (C0.w kw_800) dX8_teachFor_5 ?_
    refine lv_icmp_gt (tgt := 19) C0.hx C0.hb dX8_teachFor_8 (by decide) (fun hc => ?_) (fun hc => ?_)
    · have h := (if_pos hc).symm.trans h
      refine lv_ldc C0.hx C0.hb C0.ho (C0.w kw_385) dX8_teachFor_19 ?_
      obtain rfl := Option.some.inj h
      exact q_reti C0 hw hr hlocks dX8_teachFor_21
    · have h := (if_neg hc).symm.trans h
      refine lv_aload_n C0.hx C0.hb dX8_teachFor_11 rfl (lv_at hl 0 rfl) ?_
      refine lv_iload_n C0.hx C0.hb dX8_teachFor_12 rfl (lv_at hl 1 rfl) ?_
      obtain ⟨c1, hc1, h⟩ := Option.bind_eq_some_iff.mp h
      obtain ⟨v2, hv2, h⟩ := Option.bind_eq_some_iff.mp h
      refine q_callV (n := 1) (av := [.int x1]) (rest := []) (st1 := [.int v2]) C0 hw (m_X8_isOfRooms l b0 D cy S a0 x1 hv2) hc1 rfl (by decide) (goodV kw_801 kw_803 kw_22 kw_63 kw_804) ⟨rfl, rfl⟩ (by decide +kernel) ⟨(Nat.le_of_ble_eq_true rfl), (Nat.le_of_ble_eq_true rfl)⟩ rfl hl.1 rfl (Nat.le_of_ble_eq_true rfl) dX8_teachFor_13 ⟨Nat.zero_le _, Nat.zero_le _⟩ rfl (fun H locs hw => ?_)
      refine lv_if_ne (tgt := 22) C0.hx C0.hb dX8_teachFor_16 (by decide) (fun hc => ?_) (fun hc => ?_)
      · have h := (if_neg hc).symm.trans h
        refine lv_aload_n C0.hx C0.hb dX8_teachFor_22 rfl (lv_at hl 0 rfl) ?_
        obtain ⟨r3, hr3, h⟩ := Option.bind_eq_some_iff.mp h
        refine q_getR C0 hw hr3 rfl in_8 (by decide) kw_351 dX8_teachFor_23 ?_
        obtain ⟨v4, hv4, h⟩ := Option.bind_eq_some_iff.mp h
        refine q_getI C0 hw hv4 rfl in_2 (by decide) kw_105 dX8_teachFor_26 ?_
        refine lv_if_ne (tgt := 35) C0.hx C0.hb dX8_teachFor_29 (by decide) (fun hc => ?_) (fun hc => ?_)
        · have h := (if_neg hc).symm.trans h
          refine lv_iconst (v := (-1 : Int32)) C0.hx C0.hb dX8_teachFor_35 (by decide) ?_
          refine lv_istore_n (lv' := [(2, .int (-1 : Int32)), (0, .ref (b0 + a0)), (1, .int x1)]) C0.hx C0.hb dX8_teachFor_36 rfl hl (by decide) rfl (fun ls hl => ?_)
          refine lv_iconst (v := (0 : Int32)) C0.hx C0.hb dX8_teachFor_37 (by decide) ?_
          refine lv_istore_n (lv' := [(3, .int (0 : Int32)), (2, .int (-1 : Int32)), (0, .ref (b0 + a0)), (1, .int x1)]) C0.hx C0.hb dX8_teachFor_38 rfl hl (by decide) rfl (fun ls hl => ?_)
          refine lv_iconst (v := (0 : Int32)) C0.hx C0.hb dX8_teachFor_39 (by decide) ?_
          refine lv_istore (lv' := [(4, .int (0 : Int32)), (3, .int (0 : Int32)), (2, .int (-1 : Int32)), (0, .ref (b0 + a0)), (1, .int x1)]) C0.hx C0.hb dX8_teachFor_40 hl (by decide) rfl (fun ls hl => ?_)
          exact w_X8_teachFor_b42 C0 hr hlocks FU a0 x1 (-1 : Int32) (0 : Int32) (0 : Int32) S _ _ _ hw (lv_sub hl [3, 4, 2, 1, 0] rfl) h
        · have h := (if_pos hc).symm.trans h
          refine lv_ldc C0.hx C0.hb C0.ho (C0.w kw_562) dX8_teachFor_32 ?_
          obtain rfl := Option.some.inj h
          exact q_reti C0 hw hr hlocks dX8_teachFor_34
      · have h := (if_pos hc).symm.trans h
        refine lv_ldc C0.hx C0.hb C0.ho (C0.w kw_385) dX8_teachFor_19 ?_
        obtain rfl := Option.some.inj h
        exact q_reti C0 hw hr hlocks dX8_teachFor_21
abbrev rm_X8_otherwise : Room := { frames := 5, cells := 0, slots := 0, locals := 120 }
def f_X8_otherwise_b61 : Nat → Nat → Int32 → Mem → Option (Int32 × Mem)
  | 0, _, _, _ => none
  | n + 1, a0, x2, S =>
    (if (100 : Int32) < x2 then
      some ((-1 : Int32), S)
      else
      (gR 8 7 S a0).bind fun r16 =>
      (ck 4 S r16).bind fun c17 =>
      (f_X4_tryHour r16 S).bind fun S18 =>
      (gR 8 8 S18 a0).bind fun r19 =>
      (ck 4 S18 r19).bind fun c20 =>
      (f_X4_tryHour r19 S18).bind fun S21 =>
      (gR 8 7 S21 a0).bind fun r22 =>
      (gI 4 1 S21 r22).bind fun v23 =>
      (gR 8 8 S21 a0).bind fun r24 =>
      (gI 4 1 S21 r24).bind fun v25 =>
      (if v23 = v25 then
      (some (x2 + (1 : Int32))).bind fun v26 =>
      f_X8_otherwise_b61  n a0 v26 S21
      else
      some (x2, S21)))
def f_X8_otherwise (a0 : Nat) (x1 : Int32) (S : Mem) : Option (Int32 × Mem) :=
    (f_X8_isNoRule x1).bind fun v1 =>
      (if v1 = (0 : Int32) then
      (gR 8 1 S a0).bind fun r2 =>
      (gI 2 2 S r2).bind fun v3 =>
      (if v3 = (0 : Int32) then
      some ((-1000000003 : Int32), S)
      else
      (gR 8 7 S a0).bind fun r4 =>
      (gR 8 2 S a0).bind fun r5 =>
      (gR 5 0 S r5).bind fun r6 =>
      (ck 4 S r4).bind fun c7 =>
      (f_X4_copyFrom r4 r6 S).bind fun S8 =>
      (gR 8 8 S8 a0).bind fun r9 =>
      (gR 8 2 S8 a0).bind fun r10 =>
      (gR 5 0 S8 r10).bind fun r11 =>
      (ck 4 S8 r9).bind fun c12 =>
      (f_X4_copyFrom r9 r11 S8).bind fun S13 =>
      (gR 8 8 S13 a0).bind fun r14 =>
      (pI 4 0 S13 r14 x1).bind fun S15 =>
      f_X8_otherwise_b61 FU a0 (1 : Int32) S15)
      else
      some ((-1000000001 : Int32), S))
set_option maxHeartbeats 4000000 in
set_option maxRecDepth 100000 in
theorem w_X8_otherwise_b61 {p : Program} {l : Launch} {e : Env} {s : State} {m : MethodId} {args : Array Value} {below : List Frame} {meth : Method} {c : Code} {b0 : Nat} {D : va_G} {cy : Nat → ClassId} {q : (Int32 × Mem)} (C0 : Cx p m c cX8_otherwise 3 s args RX8 D cy) (hr : meth.sig.returnType = some .int) (hlocks : meth.locks = false) : ∀ (n : Nat) (a0 : Nat) (x2 : Int32) (S : Mem) (H : Heap) (locs : List Loc) (ls : Array Slot), Wd b0 D cy S s.heap H locs → lv_has ls 3 [(0, .ref (b0 + a0)), (2, .int x2)] → f_X8_otherwise_b61  n a0 x2 S = some q → W p l e rm_X8_otherwise s m args below meth c H locs 0 0 (MQ below (Qp b0 D cy (some (.int q.1)) q.2) args s 0 0 (fun q => b0 ≤ q)) (F0 m 61 ls []) := by
  intro n
  induction n with
  | zero => intro a0 x2 S H locs ls hw hl h; exact absurd h (by simp [f_X8_otherwise_b61])
  | succ n ih =>
    intro a0 x2 S H locs ls hw hl h
    rw [f_X8_otherwise_b61] at h
    refine lv_iload_n C0.hx C0.hb dX8_otherwise_61 rfl (lv_at hl 1 rfl) ?_
    refine lv_bipush (v := (100 : Int32)) C0.hx C0.hb dX8_otherwise_62 (by decide) ?_
    refine lv_icmp_gt (tgt := 106) C0.hx C0.hb dX8_otherwise_64 (by decide) (fun hc => ?_) (fun hc => ?_)
    · have h := (if_pos hc).symm.trans h
      refine lv_iconst (v := (-1 : Int32)) C0.hx C0.hb dX8_otherwise_106 (by decide) ?_
      obtain rfl := Option.some.inj h
      exact q_reti C0 hw hr hlocks dX8_otherwise_107
    · have h := (if_neg hc).symm.trans h
      refine lv_aload_n C0.hx C0.hb dX8_otherwise_67 rfl (lv_at hl 0 rfl) ?_
      obtain ⟨r16, hr16, h⟩ := Option.bind_eq_some_iff.mp h
      refine q_getR C0 hw hr16 rfl in_8 (by decide) kw_357 dX8_otherwise_68 ?_
      obtain ⟨c17, hc17, h⟩ := Option.bind_eq_some_iff.mp h
      obtain ⟨S18, hS18, h⟩ := Option.bind_eq_some_iff.mp h
      refine q_callV (n := 0) (av := []) (rest := []) (st1 := []) C0 hw (m_X4_tryHour l b0 D cy S r16 hS18) hc17 rfl (by decide) (goodV kw_688 kw_689 kw_690 kw_67 kw_691) ⟨rfl, rfl⟩ (by decide +kernel) ⟨(Nat.le_of_ble_eq_true rfl), (Nat.le_of_ble_eq_true rfl)⟩ rfl hl.1 rfl (Nat.le_of_ble_eq_true rfl) dX8_otherwise_71 ⟨Nat.zero_le _, Nat.zero_le _⟩ rfl (fun H locs hw => ?_)
      refine lv_aload_n C0.hx C0.hb dX8_otherwise_74 rfl (lv_at hl 0 rfl) ?_
      obtain ⟨r19, hr19, h⟩ := Option.bind_eq_some_iff.mp h
      refine q_getR C0 hw hr19 rfl in_8 (by decide) kw_358 dX8_otherwise_75 ?_
      obtain ⟨c20, hc20, h⟩ := Option.bind_eq_some_iff.mp h
      obtain ⟨S21, hS21, h⟩ := Option.bind_eq_some_iff.mp h
      refine q_callV (n := 0) (av := []) (rest := []) (st1 := []) C0 hw (m_X4_tryHour l b0 D cy S18 r19 hS21) hc20 rfl (by decide) (goodV kw_688 kw_689 kw_690 kw_67 kw_691) ⟨rfl, rfl⟩ (by decide +kernel) ⟨(Nat.le_of_ble_eq_true rfl), (Nat.le_of_ble_eq_true rfl)⟩ rfl hl.1 rfl (Nat.le_of_ble_eq_true rfl) dX8_otherwise_78 ⟨Nat.zero_le _, Nat.zero_le _⟩ rfl (fun H locs hw => ?_)
      refine lv_aload_n C0.hx C0.hb dX8_otherwise_81 rfl (lv_at hl 0 rfl) ?_
      obtain ⟨r22, hr22, h⟩ := Option.bind_eq_some_iff.mp h
      refine q_getR C0 hw hr22 rfl in_8 (by decide) kw_357 dX8_otherwise_82 ?_
      obtain ⟨v23, hv23, h⟩ := Option.bind_eq_some_iff.mp h
      refine q_getI C0 hw hv23 rfl in_4 (by decide) kw_200 dX8_otherwise_85 ?_
      refine lv_aload_n C0.hx C0.hb dX8_otherwise_88 rfl (lv_at hl 0 rfl) ?_
      obtain ⟨r24, hr24, h⟩ := Option.bind_eq_some_iff.mp h
      refine q_getR C0 hw hr24 rfl in_8 (by decide) kw_358 dX8_otherwise_89 ?_
      obtain ⟨v25, hv25, h⟩ := Option.bind_eq_some_iff.mp h
      refine q_getI C0 hw hv25 rfl in_4 (by decide) kw_200 dX8_otherwise_92 ?_
      refine lv_icmp_eq (tgt := 100) C0.hx C0.hb dX8_otherwise_95 (by decide) (fun hc => ?_) (fun hc => ?_)
      · have h := (if_pos hc).symm.trans h
        obtain ⟨v26, hv26, h⟩ := Option.bind_eq_some_iff.mp h
        refine lv_iinc (v := v26) (lv' := [(2, .int v26), (0, .ref (b0 + a0))]) C0.hx C0.hb dX8_otherwise_100 hl (k := 1) rfl (by rw [← Option.some.inj hv26]; rfl) (by decide) rfl (fun ls hl => ?_)
        refine lv_goto (tgt := 61) C0.hx C0.hb dX8_otherwise_103 (by decide) ?_
        exact ih a0 v26 S21 _ _ _ hw (lv_sub hl [1, 0] rfl) h
      · have h := (if_neg hc).symm.trans h
        refine lv_iload_n C0.hx C0.hb dX8_otherwise_98 rfl (lv_at hl 1 rfl) ?_
        obtain rfl := Option.some.inj h
        exact q_reti C0 hw hr hlocks dX8_otherwise_99
set_option maxHeartbeats 4000000 in
set_option maxRecDepth 100000 in
theorem m_X8_otherwise (l : Launch) (b0 : Nat) (D : va_G) (cy : Nat → ClassId) (S : Mem) (a0 : Nat) (x1 : Int32) {q : (Int32 × Mem)} (h : f_X8_otherwise a0 x1 S = some q) : Met l yX8_otherwise [.code yX8_otherwise cX8_otherwise 3 (some .int)] rm_X8_otherwise (Pr b0 D cy S [.ref (b0 + a0), .int x1]) (Qp b0 D cy (some (.int q.1)) q.2) 0 0 (fun q => b0 ≤ q) := by
  refine Met.ofW (cc := cX8_otherwise) (maxL := 3) (ret := some .int) (by decide) rfl ?_
  intro p e s m args below meth c s₁ B hml hv
  obtain ⟨rfl, hP, hK, hT⟩ := hv
  have C0 : Cx p m c cX8_otherwise 3 s (List.toArray [.ref (b0 + a0), .int x1]) RX8 D cy := ⟨⟨B.exec, B.bytes, hml, findClass_of_methodNamed B.named, fun w h => hT w h _⟩, hK, hT⟩
  have hr : meth.sig.returnType = some .int := B.returns
  have hlocks := B.notSynchronized
  have hw : Wd b0 D cy S s.heap s.heap [] := ⟨hP, va_S.rf⟩
  have hl := lv_entry ([.ref (b0 + a0), .int x1]) (n := 3) (Nat.le_of_ble_eq_true rfl)
  rw [lg_entry_eq]
  generalize (lg_sl ([.ref (b0 + a0), .int x1]) ++ List.replicate (3 - (lg_sl ([.ref (b0 + a0), .int x1])).length) Slot.unset).toArray = ls at hl ⊢
  have hl : lv_has ls 3 [(0, .ref (b0 + a0)), (1, .int x1)] := hl
  rw [f_X8_otherwise] at h
  show W p l e rm_X8_otherwise s m _ below meth c s.heap [] 0 0 _ _
  refine lv_iload_n C0.hx C0.hb dX8_otherwise_0 rfl (lv_at hl 1 rfl) ?_
  obtain ⟨v1, hv1, h⟩ := Option.bind_eq_some_iff.mp h
  refine q_callS (n := 1) (av := [.int x1]) (rest := []) (st1 := [.int v1]) C0 hw (m_X8_isNoRule l b0 D cy S x1 hv1) (goodS kw_656 kw_657 kw_63 kw_658) ⟨rfl, rfl⟩ (by decide +kernel) ⟨(Nat.le_of_ble_eq_true rfl), (Nat.le_of_ble_eq_true rfl)⟩ rfl hl.1 rfl (Nat.le_of_ble_eq_true rfl) dX8_otherwise_1 ⟨Nat.zero_le _, Nat.zero_le _⟩ rfl (fun H locs hw => ?_)
  refine lv_if_eq (tgt := 10) C0.hx C0.hb dX8_otherwise_4 (by decide) (fun hc => ?_) (fun hc => ?_)
  · have h := (if_pos hc).symm.trans h
    refine lv_aload_n C0.hx C0.hb dX8_otherwise_10 rfl (lv_at hl 0 rfl) ?_
    obtain ⟨r2, hr2, h⟩ := Option.bind_eq_some_iff.mp h
    refine q_getR C0 hw hr2 rfl in_8 (by decide) kw_351 dX8_otherwise_11 ?_
    obtain ⟨v3, hv3, h⟩ := Option.bind_eq_some_iff.mp h
    refine q_getI C0 hw hv3 rfl in_2 (by decide) kw_105 dX8_otherwise_14 ?_
    refine lv_if_ne (tgt := 23) C0.hx C0.hb dX8_otherwise_17 (by decide) (fun hc => ?_) (fun hc => ?_)
    · have h := (if_neg hc).symm.trans h
      refine lv_aload_n C0.hx C0.hb dX8_otherwise_23 rfl (lv_at hl 0 rfl) ?_
      obtain ⟨r4, hr4, h⟩ := Option.bind_eq_some_iff.mp h
      refine q_getR C0 hw hr4 rfl in_8 (by decide) kw_357 dX8_otherwise_24 ?_
      refine lv_aload_n C0.hx C0.hb dX8_otherwise_27 rfl (lv_at hl 0 rfl) ?_
      obtain ⟨r5, hr5, h⟩ := Option.bind_eq_some_iff.mp h
      refine q_getR C0 hw hr5 rfl in_8 (by decide) kw_352 dX8_otherwise_28 ?_
      obtain ⟨r6, hr6, h⟩ := Option.bind_eq_some_iff.mp h
      refine q_getR C0 hw hr6 rfl in_5 (by decide) kw_259 dX8_otherwise_31 ?_
      obtain ⟨c7, hc7, h⟩ := Option.bind_eq_some_iff.mp h
      obtain ⟨S8, hS8, h⟩ := Option.bind_eq_some_iff.mp h
      refine q_callV (n := 1) (av := [.ref (b0 + r6)]) (rest := []) (st1 := []) C0 hw (m_X4_copyFrom l b0 D cy S r4 r6 hS8) hc7 rfl (by decide) (goodV kw_687 kw_572 kw_573 kw_67 kw_574) ⟨rfl, rfl⟩ (by decide +kernel) ⟨(Nat.le_of_ble_eq_true rfl), (Nat.le_of_ble_eq_true rfl)⟩ rfl hl.1 rfl (Nat.le_of_ble_eq_true rfl) dX8_otherwise_34 ⟨Nat.zero_le _, Nat.zero_le _⟩ rfl (fun H locs hw => ?_)
      refine lv_aload_n C0.hx C0.hb dX8_otherwise_37 rfl (lv_at hl 0 rfl) ?_
      obtain ⟨r9, hr9, h⟩ := Option.bind_eq_some_iff.mp h
      refine q_getR C0 hw hr9 rfl in_8 (by decide) kw_358 dX8_otherwise_38 ?_
      refine lv_aload_n C0.hx C0.hb dX8_otherwise_41 rfl (lv_at hl 0 rfl) ?_
      obtain ⟨r10, hr10, h⟩ := Option.bind_eq_some_iff.mp h
      refine q_getR C0 hw hr10 rfl in_8 (by decide) kw_352 dX8_otherwise_42 ?_
      obtain ⟨r11, hr11, h⟩ := Option.bind_eq_some_iff.mp h
      refine q_getR C0 hw hr11 rfl in_5 (by decide) kw_259 dX8_otherwise_45 ?_
      obtain ⟨c12, hc12, h⟩ := Option.bind_eq_some_iff.mp h
      obtain ⟨S13, hS13, h⟩ := Option.bind_eq_some_iff.mp h
      refine q_callV (n := 1) (av := [.ref (b0 + r11)]) (rest := []) (st1 := []) C0 hw (m_X4_copyFrom l b0 D cy S8 r9 r11 hS13) hc12 rfl (by decide) (goodV kw_687 kw_572 kw_573 kw_67 kw_574) ⟨rfl, rfl⟩ (by decide +kernel) ⟨(Nat.le_of_ble_eq_true rfl), (Nat.le_of_ble_eq_true rfl)⟩ rfl hl.1 rfl (Nat.le_of_ble_eq_true rfl) dX8_otherwise_48 ⟨Nat.zero_le _, Nat.zero_le _⟩ rfl (fun H locs hw => ?_)
      refine lv_aload_n C0.hx C0.hb dX8_otherwise_51 rfl (lv_at hl 0 rfl) ?_
      obtain ⟨r14, hr14, h⟩ := Option.bind_eq_some_iff.mp h
      refine q_getR C0 hw hr14 rfl in_8 (by decide) kw_358 dX8_otherwise_52 ?_
      refine lv_iload_n C0.hx C0.hb dX8_otherwise_55 rfl (lv_at hl 1 rfl) ?_
      obtain ⟨S15, hS15, h⟩ := Option.bind_eq_some_iff.mp h
      refine q_putI C0 hw hS15 rfl in_4 tyX4_ok nmX4 ⟨by decide, by decide, rfl, rfl⟩ rfl kw_196 dX8_otherwise_56 (fun H locs hw => ?_)
      refine lv_iconst (v := (1 : Int32)) C0.hx C0.hb dX8_otherwise_59 (by decide) ?_
      refine lv_istore_n (lv' := [(2, .int (1 : Int32)), (0, .ref (b0 + a0)), (1, .int x1)]) C0.hx C0.hb dX8_otherwise_60 rfl hl (by decide) rfl (fun ls hl => ?_)
      exact w_X8_otherwise_b61 C0 hr hlocks FU a0 (1 : Int32) S15 _ _ _ hw (lv_sub hl [1, 0] rfl) h
    · have h := (if_pos hc).symm.trans h
      refine lv_ldc C0.hx C0.hb C0.ho (C0.w kw_562) dX8_otherwise_20 ?_
      obtain rfl := Option.some.inj h
      exact q_reti C0 hw hr hlocks dX8_otherwise_22
  · have h := (if_neg hc).symm.trans h
    refine lv_ldc C0.hx C0.hb C0.ho (C0.w kw_509) dX8_otherwise_7 ?_
    obtain rfl := Option.some.inj h
    exact q_reti C0 hw hr hlocks dX8_otherwise_9
abbrev rm_X8_write : Room := { frames := 1, cells := 0, slots := 0, locals := 22 }
def f_X8_write (a0 : Nat) (x1 : Int32) (x2 : Int32) (S : Mem) : Option (Int32 × Mem) :=
    (ck 8 S a0).bind fun c1 =>
      (f_X8_isNoRoom a0 x1 S).bind fun v2 =>
      (if v2 = (0 : Int32) then
      (if x2 < (0 : Int32) then
      some ((-1000000002 : Int32), S)
      else
      (if x2 ≤ (9999 : Int32) then
      (gR 8 5 S a0).bind fun r3 =>
      (gI 0 0 S r3).bind fun v4 =>
      (if v4 < (15 : Int32) then
      (gR 8 5 S a0).bind fun r5 =>
      (ck 0 S r5).bind fun c6 =>
      (f_X0_add r5 x1 x2 S).bind fun S7 =>
      (gR 8 5 S7 a0).bind fun r8 =>
      (gI 0 0 S7 r8).bind fun v9 =>
      some (v9, S7)
      else
      some ((-1000000004 : Int32), S))
      else
      some ((-1000000002 : Int32), S)))
      else
      some ((-1000000001 : Int32), S))
set_option maxHeartbeats 4000000 in
set_option maxRecDepth 100000 in
theorem m_X8_write (l : Launch) (b0 : Nat) (D : va_G) (cy : Nat → ClassId) (S : Mem) (a0 : Nat) (x1 : Int32) (x2 : Int32) {q : (Int32 × Mem)} (h : f_X8_write a0 x1 x2 S = some q) : Met l yX8_write [.code yX8_write cX8_write 3 (some .int)] rm_X8_write (Pr b0 D cy S [.ref (b0 + a0), .int x1, .int x2]) (Qp b0 D cy (some (.int q.1)) q.2) 0 0 (fun q => b0 ≤ q) := by
  refine Met.ofW (cc := cX8_write) (maxL := 3) (ret := some .int) (by decide) rfl ?_
  intro p e s m args below meth c s₁ B hml hv
  obtain ⟨rfl, hP, hK, hT⟩ := hv
  have C0 : Cx p m c cX8_write 3 s (List.toArray [.ref (b0 + a0), .int x1, .int x2]) RX8 D cy := ⟨⟨B.exec, B.bytes, hml, findClass_of_methodNamed B.named, fun w h => hT w h _⟩, hK, hT⟩
  have hr : meth.sig.returnType = some .int := B.returns
  have hlocks := B.notSynchronized
  have hw : Wd b0 D cy S s.heap s.heap [] := ⟨hP, va_S.rf⟩
  have hl := lv_entry ([.ref (b0 + a0), .int x1, .int x2]) (n := 3) (Nat.le_of_ble_eq_true rfl)
  rw [lg_entry_eq]
  generalize (lg_sl ([.ref (b0 + a0), .int x1, .int x2]) ++ List.replicate (3 - (lg_sl ([.ref (b0 + a0), .int x1, .int x2])).length) Slot.unset).toArray = ls at hl ⊢
  have hl : lv_has ls 3 [(0, .ref (b0 + a0)), (1, .int x1), (2, .int x2)] := hl
  rw [f_X8_write] at h
  show W p l e rm_X8_write s m _ below meth c s.heap [] 0 0 _ _
  refine lv_aload_n C0.hx C0.hb dX8_write_0 rfl (lv_at hl 0 rfl) ?_
  refine lv_iload_n C0.hx C0.hb dX8_write_1 rfl (lv_at hl 1 rfl) ?_
  obtain ⟨c1, hc1, h⟩ := Option.bind_eq_some_iff.mp h
  obtain ⟨v2, hv2, h⟩ := Option.bind_eq_some_iff.mp h
  refine q_callV (n := 1) (av := [.int x1]) (rest := []) (st1 := [.int v2]) C0 hw (m_X8_isNoRoom l b0 D cy S a0 x1 hv2) hc1 rfl (by decide) (goodV kw_505 kw_507 kw_10 kw_63 kw_508) ⟨rfl, rfl⟩ (by decide +kernel) ⟨(Nat.le_of_ble_eq_true rfl), (Nat.le_of_ble_eq_true rfl)⟩ rfl hl.1 rfl (Nat.le_of_ble_eq_true rfl) dX8_write_2 ⟨Nat.zero_le _, Nat.zero_le _⟩ rfl (fun H locs hw => ?_)
  refine lv_if_eq (tgt := 11) C0.hx C0.hb dX8_write_5 (by decide) (fun hc => ?_) (fun hc => ?_)
  · have h := (if_pos hc).symm.trans h
    refine lv_iload_n C0.hx C0.hb dX8_write_11 rfl (lv_at hl 2 rfl) ?_
    refine lv_if_lt (tgt := 22) C0.hx C0.hb dX8_write_12 (by decide) (fun hc => ?_) (fun hc => ?_)
    · have h := (if_pos hc).symm.trans h
      refine lv_ldc C0.hx C0.hb C0.ho (C0.w kw_385) dX8_write_22 ?_
      obtain rfl := Option.some.inj h
      exact q_reti C0 hw hr hlocks dX8_write_24
    · have h := (if_neg hc).symm.trans h
      refine lv_iload_n C0.hx C0.hb dX8_write_15 rfl (lv_at hl 2 rfl) ?_
      refine lv_sipush (v := (9999 : Int32)) C0.hx C0.hb dX8_write_16 (by decide) ?_
      refine lv_icmp_le (tgt := 25) C0.hx C0.hb dX8_write_19 (by decide) (fun hc => ?_) (fun hc => ?_)
      · have h := (if_pos hc).symm.trans h
        refine lv_aload_n C0.hx C0.hb dX8_write_25 rfl (lv_at hl 0 rfl) ?_
        obtain ⟨r3, hr3, h⟩ := Option.bind_eq_some_iff.mp h
        refine q_getR C0 hw hr3 rfl in_8 (by decide) kw_355 dX8_write_26 ?_
        obtain ⟨v4, hv4, h⟩ := Option.bind_eq_some_iff.mp h
        refine q_getI C0 hw hv4 rfl in_0 (by decide) kw_320 dX8_write_29 ?_
        refine lv_bipush (v := (15 : Int32)) C0.hx C0.hb dX8_write_32 (by decide) ?_
        refine lv_icmp_lt (tgt := 40) C0.hx C0.hb dX8_write_34 (by decide) (fun hc => ?_) (fun hc => ?_)
        · have h := (if_pos hc).symm.trans h
          refine lv_aload_n C0.hx C0.hb dX8_write_40 rfl (lv_at hl 0 rfl) ?_
          obtain ⟨r5, hr5, h⟩ := Option.bind_eq_some_iff.mp h
          refine q_getR C0 hw hr5 rfl in_8 (by decide) kw_355 dX8_write_41 ?_
          refine lv_iload_n C0.hx C0.hb dX8_write_44 rfl (lv_at hl 1 rfl) ?_
          refine lv_iload_n C0.hx C0.hb dX8_write_45 rfl (lv_at hl 2 rfl) ?_
          obtain ⟨c6, hc6, h⟩ := Option.bind_eq_some_iff.mp h
          obtain ⟨S7, hS7, h⟩ := Option.bind_eq_some_iff.mp h
          refine q_callV (n := 2) (av := [.int x1, .int x2]) (rest := []) (st1 := []) C0 hw (m_X0_add l b0 D cy S r5 x1 x2 hS7) hc6 rfl (by decide) (goodV kw_827 kw_828 kw_829 kw_70 kw_830) ⟨rfl, rfl⟩ (by decide +kernel) ⟨(Nat.le_of_ble_eq_true rfl), (Nat.le_of_ble_eq_true rfl)⟩ rfl hl.1 rfl (Nat.le_of_ble_eq_true rfl) dX8_write_46 ⟨Nat.zero_le _, Nat.zero_le _⟩ rfl (fun H locs hw => ?_)
          refine lv_aload_n C0.hx C0.hb dX8_write_49 rfl (lv_at hl 0 rfl) ?_
          obtain ⟨r8, hr8, h⟩ := Option.bind_eq_some_iff.mp h
          refine q_getR C0 hw hr8 rfl in_8 (by decide) kw_355 dX8_write_50 ?_
          obtain ⟨v9, hv9, h⟩ := Option.bind_eq_some_iff.mp h
          refine q_getI C0 hw hv9 rfl in_0 (by decide) kw_320 dX8_write_53 ?_
          obtain rfl := Option.some.inj h
          exact q_reti C0 hw hr hlocks dX8_write_56
        · have h := (if_neg hc).symm.trans h
          refine lv_ldc C0.hx C0.hb C0.ho (C0.w kw_386) dX8_write_37 ?_
          obtain rfl := Option.some.inj h
          exact q_reti C0 hw hr hlocks dX8_write_39
      · have h := (if_neg hc).symm.trans h
        refine lv_ldc C0.hx C0.hb C0.ho (C0.w kw_385) dX8_write_22 ?_
        obtain rfl := Option.some.inj h
        exact q_reti C0 hw hr hlocks dX8_write_24
  · have h := (if_neg hc).symm.trans h
    refine lv_ldc C0.hx C0.hb C0.ho (C0.w kw_509) dX8_write_8 ?_
    obtain rfl := Option.some.inj h
    exact q_reti C0 hw hr hlocks dX8_write_10
abbrev rm_X8_tear : Room := { frames := 0, cells := 0, slots := 0, locals := 0 }
def f_X8_tear (a0 : Nat) (S : Mem) : Option (Int32 × Mem) :=
    (gR 8 5 S a0).bind fun r1 =>
      (gI 0 0 S r1).bind fun v2 =>
      (gR 8 5 S a0).bind fun r3 =>
      (pI 0 0 S r3 (0 : Int32)).bind fun S4 =>
      some (v2, S4)
set_option maxHeartbeats 4000000 in
set_option maxRecDepth 100000 in
theorem m_X8_tear (l : Launch) (b0 : Nat) (D : va_G) (cy : Nat → ClassId) (S : Mem) (a0 : Nat) {q : (Int32 × Mem)} (h : f_X8_tear a0 S = some q) : Met l yX8_tear [.code yX8_tear cX8_tear 2 (some .int)] rm_X8_tear (Pr b0 D cy S [.ref (b0 + a0)]) (Qp b0 D cy (some (.int q.1)) q.2) 0 0 (fun q => b0 ≤ q) := by
  refine Met.ofW (cc := cX8_tear) (maxL := 2) (ret := some .int) (by decide) rfl ?_
  intro p e s m args below meth c s₁ B hml hv
  obtain ⟨rfl, hP, hK, hT⟩ := hv
  have C0 : Cx p m c cX8_tear 2 s (List.toArray [.ref (b0 + a0)]) RX8 D cy := ⟨⟨B.exec, B.bytes, hml, findClass_of_methodNamed B.named, fun w h => hT w h _⟩, hK, hT⟩
  have hr : meth.sig.returnType = some .int := B.returns
  have hlocks := B.notSynchronized
  have hw : Wd b0 D cy S s.heap s.heap [] := ⟨hP, va_S.rf⟩
  have hl := lv_entry ([.ref (b0 + a0)]) (n := 2) (Nat.le_of_ble_eq_true rfl)
  rw [lg_entry_eq]
  generalize (lg_sl ([.ref (b0 + a0)]) ++ List.replicate (2 - (lg_sl ([.ref (b0 + a0)])).length) Slot.unset).toArray = ls at hl ⊢
  have hl : lv_has ls 2 [(0, .ref (b0 + a0))] := hl
  rw [f_X8_tear] at h
  show W p l e rm_X8_tear s m _ below meth c s.heap [] 0 0 _ _
  refine lv_aload_n C0.hx C0.hb dX8_tear_0 rfl (lv_at hl 0 rfl) ?_
  obtain ⟨r1, hr1, h⟩ := Option.bind_eq_some_iff.mp h
  refine q_getR C0 hw hr1 rfl in_8 (by decide) kw_355 dX8_tear_1 ?_
  obtain ⟨v2, hv2, h⟩ := Option.bind_eq_some_iff.mp h
  refine q_getI C0 hw hv2 rfl in_0 (by decide) kw_320 dX8_tear_4 ?_
  refine lv_istore_n (lv' := [(1, .int v2), (0, .ref (b0 + a0))]) C0.hx C0.hb dX8_tear_7 rfl hl (by decide) rfl (fun ls hl => ?_)
  refine lv_aload_n C0.hx C0.hb dX8_tear_8 rfl (lv_at hl 1 rfl) ?_
  obtain ⟨r3, hr3, h⟩ := Option.bind_eq_some_iff.mp h
  refine q_getR C0 hw hr3 rfl in_8 (by decide) kw_355 dX8_tear_9 ?_
  refine lv_iconst (v := (0 : Int32)) C0.hx C0.hb dX8_tear_12 (by decide) ?_
  obtain ⟨S4, hS4, h⟩ := Option.bind_eq_some_iff.mp h
  refine q_putI C0 hw hS4 rfl in_0 tyX0_ok nmX0 ⟨by decide, by decide, rfl, rfl⟩ rfl kw_320 dX8_tear_13 (fun H locs hw => ?_)
  refine lv_iload_n C0.hx C0.hb dX8_tear_16 rfl (lv_at hl 0 rfl) ?_
  obtain rfl := Option.some.inj h
  exact q_reti C0 hw hr hlocks dX8_tear_17
abbrev rm_X8_judge : Room := { frames := 1, cells := 0, slots := 0, locals := 22 }
def f_X8_judge (a0 : Nat) (S : Mem) : Option Int32 :=
    (gR 8 5 S a0).bind fun r1 =>
      (gR 8 2 S a0).bind fun r2 =>
      (gR 5 6 S r2).bind fun r3 =>
      (ck 0 S r1).bind fun c4 =>
      (f_X0_firstWrong r1 r3 S).bind fun v5 =>
      some v5
set_option maxHeartbeats 4000000 in
set_option maxRecDepth 100000 in
theorem m_X8_judge (l : Launch) (b0 : Nat) (D : va_G) (cy : Nat → ClassId) (S : Mem) (a0 : Nat) {q : Int32} (h : f_X8_judge a0 S = some q) : Met l yX8_judge [.code yX8_judge cX8_judge 1 (some .int)] rm_X8_judge (Pr b0 D cy S [.ref (b0 + a0)]) (Qp b0 D cy (some (.int q)) S) 0 0 (fun q => b0 ≤ q) := by
  refine Met.ofW (cc := cX8_judge) (maxL := 1) (ret := some .int) (by decide) rfl ?_
  intro p e s m args below meth c s₁ B hml hv
  obtain ⟨rfl, hP, hK, hT⟩ := hv
  have C0 : Cx p m c cX8_judge 1 s (List.toArray [.ref (b0 + a0)]) RX8 D cy := ⟨⟨B.exec, B.bytes, hml, findClass_of_methodNamed B.named, fun w h => hT w h _⟩, hK, hT⟩
  have hr : meth.sig.returnType = some .int := B.returns
  have hlocks := B.notSynchronized
  have hw : Wd b0 D cy S s.heap s.heap [] := ⟨hP, va_S.rf⟩
  have hl := lv_entry ([.ref (b0 + a0)]) (n := 1) (Nat.le_of_ble_eq_true rfl)
  rw [lg_entry_eq]
  generalize (lg_sl ([.ref (b0 + a0)]) ++ List.replicate (1 - (lg_sl ([.ref (b0 + a0)])).length) Slot.unset).toArray = ls at hl ⊢
  have hl : lv_has ls 1 [(0, .ref (b0 + a0))] := hl
  rw [f_X8_judge] at h
  show W p l e rm_X8_judge s m _ below meth c s.heap [] 0 0 _ _
  refine lv_aload_n C0.hx C0.hb dX8_judge_0 rfl (lv_at hl 0 rfl) ?_
  obtain ⟨r1, hr1, h⟩ := Option.bind_eq_some_iff.mp h
  refine q_getR C0 hw hr1 rfl in_8 (by decide) kw_355 dX8_judge_1 ?_
  refine lv_aload_n C0.hx C0.hb dX8_judge_4 rfl (lv_at hl 0 rfl) ?_
  obtain ⟨r2, hr2, h⟩ := Option.bind_eq_some_iff.mp h
  refine q_getR C0 hw hr2 rfl in_8 (by decide) kw_352 dX8_judge_5 ?_
  obtain ⟨r3, hr3, h⟩ := Option.bind_eq_some_iff.mp h
  refine q_getR C0 hw hr3 rfl in_5 (by decide) kw_271 dX8_judge_8 ?_
  obtain ⟨c4, hc4, h⟩ := Option.bind_eq_some_iff.mp h
  obtain ⟨v5, hv5, h⟩ := Option.bind_eq_some_iff.mp h
  refine q_callV (n := 1) (av := [.ref (b0 + r3)]) (rest := []) (st1 := [.int v5]) C0 hw (m_X0_firstWrong l b0 D cy S r1 r3 hv5) hc4 rfl (by decide) (goodV kw_839 kw_840 kw_841 kw_70 kw_842) ⟨rfl, rfl⟩ (by decide +kernel) ⟨(Nat.le_of_ble_eq_true rfl), (Nat.le_of_ble_eq_true rfl)⟩ rfl hl.1 rfl (Nat.le_of_ble_eq_true rfl) dX8_judge_11 ⟨Nat.zero_le _, Nat.zero_le _⟩ rfl (fun H locs hw => ?_)
  obtain rfl := Option.some.inj h
  exact q_reti C0 hw hr hlocks dX8_judge_14
abbrev rm_X8_seed : Room := { frames := 0, cells := 0, slots := 0, locals := 0 }
def f_X8_seed (a0 : Nat) (x1 : Int32) (S : Mem) : Option (Int32 × Mem) :=
    (if (0 : Int32) ≤ x1 then
      (gI 8 6 S a0).bind fun v1 =>
      (pI 8 6 S a0 x1).bind fun S2 =>
      some (v1, S2)
      else
      some ((-1000000002 : Int32), S))
set_option maxHeartbeats 4000000 in
set_option maxRecDepth 100000 in
theorem m_X8_seed (l : Launch) (b0 : Nat) (D : va_G) (cy : Nat → ClassId) (S : Mem) (a0 : Nat) (x1 : Int32) {q : (Int32 × Mem)} (h : f_X8_seed a0 x1 S = some q) : Met l yX8_seed [.code yX8_seed cX8_seed 3 (some .int)] rm_X8_seed (Pr b0 D cy S [.ref (b0 + a0), .int x1]) (Qp b0 D cy (some (.int q.1)) q.2) 0 0 (fun q => b0 ≤ q) := by
  refine Met.ofW (cc := cX8_seed) (maxL := 3) (ret := some .int) (by decide) rfl ?_
  intro p e s m args below meth c s₁ B hml hv
  obtain ⟨rfl, hP, hK, hT⟩ := hv
  have C0 : Cx p m c cX8_seed 3 s (List.toArray [.ref (b0 + a0), .int x1]) RX8 D cy := ⟨⟨B.exec, B.bytes, hml, findClass_of_methodNamed B.named, fun w h => hT w h _⟩, hK, hT⟩
  have hr : meth.sig.returnType = some .int := B.returns
  have hlocks := B.notSynchronized
  have hw : Wd b0 D cy S s.heap s.heap [] := ⟨hP, va_S.rf⟩
  have hl := lv_entry ([.ref (b0 + a0), .int x1]) (n := 3) (Nat.le_of_ble_eq_true rfl)
  rw [lg_entry_eq]
  generalize (lg_sl ([.ref (b0 + a0), .int x1]) ++ List.replicate (3 - (lg_sl ([.ref (b0 + a0), .int x1])).length) Slot.unset).toArray = ls at hl ⊢
  have hl : lv_has ls 3 [(0, .ref (b0 + a0)), (1, .int x1)] := hl
  rw [f_X8_seed] at h
  show W p l e rm_X8_seed s m _ below meth c s.heap [] 0 0 _ _
  refine lv_iload_n C0.hx C0.hb dX8_seed_0 rfl (lv_at hl 1 rfl) ?_
  refine lv_if_ge (tgt := 7) C0.hx C0.hb dX8_seed_1 (by decide) (fun hc => ?_) (fun hc => ?_)
  · have h := (if_pos hc).symm.trans h
    refine lv_aload_n C0.hx C0.hb dX8_seed_7 rfl (lv_at hl 0 rfl) ?_
    obtain ⟨v1, hv1, h⟩ := Option.bind_eq_some_iff.mp h
    refine q_getI C0 hw hv1 rfl in_8 (by decide) kw_356 dX8_seed_8 ?_
    refine lv_istore_n (lv' := [(2, .int v1), (0, .ref (b0 + a0)), (1, .int x1)]) C0.hx C0.hb dX8_seed_11 rfl hl (by decide) rfl (fun ls hl => ?_)
    refine lv_aload_n C0.hx C0.hb dX8_seed_12 rfl (lv_at hl 1 rfl) ?_
    refine lv_iload_n C0.hx C0.hb dX8_seed_13 rfl (lv_at hl 2 rfl) ?_
    obtain ⟨S2, hS2, h⟩ := Option.bind_eq_some_iff.mp h
    refine q_putI C0 hw hS2 rfl in_8 tyX8_ok nmX8 ⟨by decide, by decide, rfl, rfl⟩ rfl kw_356 dX8_seed_14 (fun H locs hw => ?_)
    refine lv_iload_n C0.hx C0.hb dX8_seed_17 rfl (lv_at hl 0 rfl) ?_
    obtain rfl := Option.some.inj h
    exact q_reti C0 hw hr hlocks dX8_seed_18
  · have h := (if_neg hc).symm.trans h
    refine lv_ldc C0.hx C0.hb C0.ho (C0.w kw_385) dX8_seed_4 ?_
    obtain rfl := Option.some.inj h
    exact q_reti C0 hw hr hlocks dX8_seed_6
abbrev rm_X8_keep : Room := { frames := 3, cells := 0, slots := 0, locals := 82 }
def f_X8_keep (a0 : Nat) (x1 : Int32) (S : Mem) : Option (Int32 × Mem) :=
    (if x1 < (0 : Int32) then
      some ((-1000000001 : Int32), S)
      else
      (if x1 < (2 : Int32) then
      (gR 8 4 S a0).bind fun r1 =>
      (ldR 13 S r1 x1).bind fun r2 =>
      (pZ 1 0 S r2 (1 : Int32)).bind fun S3 =>
      (gI 8 6 S3 a0).bind fun v4 =>
      (pI 1 1 S3 r2 v4).bind fun S5 =>
      (gR 1 2 S5 r2).bind fun r6 =>
      (gR 8 2 S5 a0).bind fun r7 =>
      (ck 5 S5 r6).bind fun c8 =>
      (f_X5_copyFrom r6 r7 S5).bind fun S9 =>
      (gR 8 3 S9 a0).bind fun r10 =>
      (ck 3 S9 r10).bind fun c11 =>
      (f_X3_forget r10 S9).bind fun S12 =>
      some ((1 : Int32), S12)
      else
      some ((-1000000001 : Int32), S)))
set_option maxHeartbeats 4000000 in
set_option maxRecDepth 100000 in
theorem m_X8_keep (l : Launch) (b0 : Nat) (D : va_G) (cy : Nat → ClassId) (S : Mem) (a0 : Nat) (x1 : Int32) {q : (Int32 × Mem)} (h : f_X8_keep a0 x1 S = some q) : Met l yX8_keep [.code yX8_keep cX8_keep 3 (some .int)] rm_X8_keep (Pr b0 D cy S [.ref (b0 + a0), .int x1]) (Qp b0 D cy (some (.int q.1)) q.2) 0 0 (fun q => b0 ≤ q) := by
  refine Met.ofW (cc := cX8_keep) (maxL := 3) (ret := some .int) (by decide) rfl ?_
  intro p e s m args below meth c s₁ B hml hv
  obtain ⟨rfl, hP, hK, hT⟩ := hv
  have C0 : Cx p m c cX8_keep 3 s (List.toArray [.ref (b0 + a0), .int x1]) RX8 D cy := ⟨⟨B.exec, B.bytes, hml, findClass_of_methodNamed B.named, fun w h => hT w h _⟩, hK, hT⟩
  have hr : meth.sig.returnType = some .int := B.returns
  have hlocks := B.notSynchronized
  have hw : Wd b0 D cy S s.heap s.heap [] := ⟨hP, va_S.rf⟩
  have hl := lv_entry ([.ref (b0 + a0), .int x1]) (n := 3) (Nat.le_of_ble_eq_true rfl)
  rw [lg_entry_eq]
  generalize (lg_sl ([.ref (b0 + a0), .int x1]) ++ List.replicate (3 - (lg_sl ([.ref (b0 + a0), .int x1])).length) Slot.unset).toArray = ls at hl ⊢
  have hl : lv_has ls 3 [(0, .ref (b0 + a0)), (1, .int x1)] := hl
  rw [f_X8_keep] at h
  show W p l e rm_X8_keep s m _ below meth c s.heap [] 0 0 _ _
  refine lv_iload_n C0.hx C0.hb dX8_keep_0 rfl (lv_at hl 1 rfl) ?_
  refine lv_if_lt (tgt := 9) C0.hx C0.hb dX8_keep_1 (by decide) (fun hc => ?_) (fun hc => ?_)
  · have h := (if_pos hc).symm.trans h
    refine lv_ldc C0.hx C0.hb C0.ho (C0.w kw_509) dX8_keep_9 ?_
    obtain rfl := Option.some.inj h
    exact q_reti C0 hw hr hlocks dX8_keep_11
  · have h := (if_neg hc).symm.trans h
    refine lv_iload_n C0.hx C0.hb dX8_keep_4 rfl (lv_at hl 1 rfl) ?_
    refine lv_iconst (v := (2 : Int32)) C0.hx C0.hb dX8_keep_5 (by decide) ?_
    refine lv_icmp_lt (tgt := 12) C0.hx C0.hb dX8_keep_6 (by decide) (fun hc => ?_) (fun hc => ?_)
    · have h := (if_pos hc).symm.trans h
      refine lv_aload_n C0.hx C0.hb dX8_keep_12 rfl (lv_at hl 0 rfl) ?_
      obtain ⟨r1, hr1, h⟩ := Option.bind_eq_some_iff.mp h
      refine q_getR C0 hw hr1 rfl in_8 (by decide) kw_354 dX8_keep_13 ?_
      refine lv_iload_n C0.hx C0.hb dX8_keep_16 rfl (lv_at hl 1 rfl) ?_
      obtain ⟨r2, hr2, h⟩ := Option.bind_eq_some_iff.mp h
      refine q_ldR13 C0 hw hr2 dX8_keep_17 ?_
      refine lv_astore_n (lv' := [(2, .ref (b0 + r2)), (0, .ref (b0 + a0)), (1, .int x1)]) C0.hx C0.hb dX8_keep_18 rfl hl (by decide) rfl (fun ls hl => ?_)
      refine lv_aload_n C0.hx C0.hb dX8_keep_19 rfl (lv_at hl 0 rfl) ?_
      refine lv_iconst (v := (1 : Int32)) C0.hx C0.hb dX8_keep_20 (by decide) ?_
      obtain ⟨S3, hS3, h⟩ := Option.bind_eq_some_iff.mp h
      refine q_putZ C0 hw hS3 rfl in_1 tyX1_ok nmX1 ⟨by decide, by decide, rfl, rfl⟩ rfl kw_339 dX8_keep_21 (fun H locs hw => ?_)
      refine lv_aload_n C0.hx C0.hb dX8_keep_24 rfl (lv_at hl 0 rfl) ?_
      refine lv_aload_n C0.hx C0.hb dX8_keep_25 rfl (lv_at hl 1 rfl) ?_
      obtain ⟨v4, hv4, h⟩ := Option.bind_eq_some_iff.mp h
      refine q_getI C0 hw hv4 rfl in_8 (by decide) kw_356 dX8_keep_26 ?_
      obtain ⟨S5, hS5, h⟩ := Option.bind_eq_some_iff.mp h
      refine q_putI C0 hw hS5 rfl in_1 tyX1_ok nmX1 ⟨by decide, by decide, rfl, rfl⟩ rfl kw_340 dX8_keep_29 (fun H locs hw => ?_)
      refine lv_aload_n C0.hx C0.hb dX8_keep_32 rfl (lv_at hl 0 rfl) ?_
      obtain ⟨r6, hr6, h⟩ := Option.bind_eq_some_iff.mp h
      refine q_getR C0 hw hr6 rfl in_1 (by decide) kw_342 dX8_keep_33 ?_
      refine lv_aload_n C0.hx C0.hb dX8_keep_36 rfl (lv_at hl 1 rfl) ?_
      obtain ⟨r7, hr7, h⟩ := Option.bind_eq_some_iff.mp h
      refine q_getR C0 hw hr7 rfl in_8 (by decide) kw_352 dX8_keep_37 ?_
      obtain ⟨c8, hc8, h⟩ := Option.bind_eq_some_iff.mp h
      obtain ⟨S9, hS9, h⟩ := Option.bind_eq_some_iff.mp h
      refine q_callV (n := 1) (av := [.ref (b0 + r7)]) (rest := []) (st1 := []) C0 hw (m_X5_copyFrom l b0 D cy S5 r6 r7 hS9) hc8 rfl (by decide) (goodV kw_851 kw_568 kw_569 kw_66 kw_570) ⟨rfl, rfl⟩ (by decide +kernel) ⟨(Nat.le_of_ble_eq_true rfl), (Nat.le_of_ble_eq_true rfl)⟩ rfl hl.1 rfl (Nat.le_of_ble_eq_true rfl) dX8_keep_40 ⟨Nat.zero_le _, Nat.zero_le _⟩ rfl (fun H locs hw => ?_)
      refine lv_aload_n C0.hx C0.hb dX8_keep_43 rfl (lv_at hl 1 rfl) ?_
      obtain ⟨r10, hr10, h⟩ := Option.bind_eq_some_iff.mp h
      refine q_getR C0 hw hr10 rfl in_8 (by decide) kw_353 dX8_keep_44 ?_
      obtain ⟨c11, hc11, h⟩ := Option.bind_eq_some_iff.mp h
      obtain ⟨S12, hS12, h⟩ := Option.bind_eq_some_iff.mp h
      refine q_callV (n := 0) (av := []) (rest := []) (st1 := []) C0 hw (m_X3_forget l b0 D cy S9 r10 hS12) hc11 rfl (by decide) (goodV kw_489 kw_490 kw_491 kw_69 kw_492) ⟨rfl, rfl⟩ (by decide +kernel) ⟨(Nat.le_of_ble_eq_true rfl), (Nat.le_of_ble_eq_true rfl)⟩ rfl hl.1 rfl (Nat.le_of_ble_eq_true rfl) dX8_keep_47 ⟨Nat.zero_le _, Nat.zero_le _⟩ rfl (fun H locs hw => ?_)
      refine lv_iconst (v := (1 : Int32)) C0.hx C0.hb dX8_keep_50 (by decide) ?_
      obtain rfl := Option.some.inj h
      exact q_reti C0 hw hr hlocks dX8_keep_51
    · have h := (if_neg hc).symm.trans h
      refine lv_ldc C0.hx C0.hb C0.ho (C0.w kw_509) dX8_keep_9 ?_
      obtain rfl := Option.some.inj h
      exact q_reti C0 hw hr hlocks dX8_keep_11
abbrev rm_X8_goBack : Room := { frames := 3, cells := 0, slots := 0, locals := 82 }
def f_X8_goBack (a0 : Nat) (x1 : Int32) (S : Mem) : Option (Int32 × Mem) :=
    (if x1 < (0 : Int32) then
      some ((-1000000001 : Int32), S)
      else
      (if x1 < (2 : Int32) then
      (gR 8 4 S a0).bind fun r1 =>
      (ldR 13 S r1 x1).bind fun r2 =>
      (gI 1 0 S r2).bind fun v3 =>
      (if v3 = (0 : Int32) then
      some ((-1000000003 : Int32), S)
      else
      (gI 1 1 S r2).bind fun v4 =>
      (pI 8 6 S a0 v4).bind fun S5 =>
      (gR 8 2 S5 a0).bind fun r6 =>
      (gR 1 2 S5 r2).bind fun r7 =>
      (ck 5 S5 r6).bind fun c8 =>
      (f_X5_copyFrom r6 r7 S5).bind fun S9 =>
      (gR 8 3 S9 a0).bind fun r10 =>
      (ck 3 S9 r10).bind fun c11 =>
      (f_X3_forget r10 S9).bind fun S12 =>
      some ((1 : Int32), S12))
      else
      some ((-1000000001 : Int32), S)))
set_option maxHeartbeats 4000000 in
set_option maxRecDepth 100000 in
theorem m_X8_goBack (l : Launch) (b0 : Nat) (D : va_G) (cy : Nat → ClassId) (S : Mem) (a0 : Nat) (x1 : Int32) {q : (Int32 × Mem)} (h : f_X8_goBack a0 x1 S = some q) : Met l yX8_goBack [.code yX8_goBack cX8_goBack 3 (some .int)] rm_X8_goBack (Pr b0 D cy S [.ref (b0 + a0), .int x1]) (Qp b0 D cy (some (.int q.1)) q.2) 0 0 (fun q => b0 ≤ q) := by
  refine Met.ofW (cc := cX8_goBack) (maxL := 3) (ret := some .int) (by decide) rfl ?_
  intro p e s m args below meth c s₁ B hml hv
  obtain ⟨rfl, hP, hK, hT⟩ := hv
  have C0 : Cx p m c cX8_goBack 3 s (List.toArray [.ref (b0 + a0), .int x1]) RX8 D cy := ⟨⟨B.exec, B.bytes, hml, findClass_of_methodNamed B.named, fun w h => hT w h _⟩, hK, hT⟩
  have hr : meth.sig.returnType = some .int := B.returns
  have hlocks := B.notSynchronized
  have hw : Wd b0 D cy S s.heap s.heap [] := ⟨hP, va_S.rf⟩
  have hl := lv_entry ([.ref (b0 + a0), .int x1]) (n := 3) (Nat.le_of_ble_eq_true rfl)
  rw [lg_entry_eq]
  generalize (lg_sl ([.ref (b0 + a0), .int x1]) ++ List.replicate (3 - (lg_sl ([.ref (b0 + a0), .int x1])).length) Slot.unset).toArray = ls at hl ⊢
  have hl : lv_has ls 3 [(0, .ref (b0 + a0)), (1, .int x1)] := hl
  rw [f_X8_goBack] at h
  show W p l e rm_X8_goBack s m _ below meth c s.heap [] 0 0 _ _
  refine lv_iload_n C0.hx C0.hb dX8_goBack_0 rfl (lv_at hl 1 rfl) ?_
  refine lv_if_lt (tgt := 9) C0.hx C0.hb dX8_goBack_1 (by decide) (fun hc => ?_) (fun hc => ?_)
  · have h := (if_pos hc).symm.trans h
    refine lv_ldc C0.hx C0.hb C0.ho (C0.w kw_509) dX8_goBack_9 ?_
    obtain rfl := Option.some.inj h
    exact q_reti C0 hw hr hlocks dX8_goBack_11
  · have h := (if_neg hc).symm.trans h
    refine lv_iload_n C0.hx C0.hb dX8_goBack_4 rfl (lv_at hl 1 rfl) ?_
    refine lv_iconst (v := (2 : Int32)) C0.hx C0.hb dX8_goBack_5 (by decide) ?_
    refine lv_icmp_lt (tgt := 12) C0.hx C0.hb dX8_goBack_6 (by decide) (fun hc => ?_) (fun hc => ?_)
    · have h := (if_pos hc).symm.trans h
      refine lv_aload_n C0.hx C0.hb dX8_goBack_12 rfl (lv_at hl 0 rfl) ?_
      obtain ⟨r1, hr1, h⟩ := Option.bind_eq_some_iff.mp h
      refine q_getR C0 hw hr1 rfl in_8 (by decide) kw_354 dX8_goBack_13 ?_
      refine lv_iload_n C0.hx C0.hb dX8_goBack_16 rfl (lv_at hl 1 rfl) ?_
      obtain ⟨r2, hr2, h⟩ := Option.bind_eq_some_iff.mp h
      refine q_ldR13 C0 hw hr2 dX8_goBack_17 ?_
      refine lv_astore_n (lv' := [(2, .ref (b0 + r2)), (0, .ref (b0 + a0)), (1, .int x1)]) C0.hx C0.hb dX8_goBack_18 rfl hl (by decide) rfl (fun ls hl => ?_)
      refine lv_aload_n C0.hx C0.hb dX8_goBack_19 rfl (lv_at hl 0 rfl) ?_
      obtain ⟨v3, hv3, h⟩ := Option.bind_eq_some_iff.mp h
      refine q_getI C0 hw hv3 rfl in_1 (by decide) kw_339 dX8_goBack_20 ?_
      refine lv_if_ne (tgt := 29) C0.hx C0.hb dX8_goBack_23 (by decide) (fun hc => ?_) (fun hc => ?_)
      · have h := (if_neg hc).symm.trans h
        refine lv_aload_n C0.hx C0.hb dX8_goBack_29 rfl (lv_at hl 1 rfl) ?_
        refine lv_aload_n C0.hx C0.hb dX8_goBack_30 rfl (lv_at hl 0 rfl) ?_
        obtain ⟨v4, hv4, h⟩ := Option.bind_eq_some_iff.mp h
        refine q_getI C0 hw hv4 rfl in_1 (by decide) kw_340 dX8_goBack_31 ?_
        obtain ⟨S5, hS5, h⟩ := Option.bind_eq_some_iff.mp h
        refine q_putI C0 hw hS5 rfl in_8 tyX8_ok nmX8 ⟨by decide, by decide, rfl, rfl⟩ rfl kw_356 dX8_goBack_34 (fun H locs hw => ?_)
        refine lv_aload_n C0.hx C0.hb dX8_goBack_37 rfl (lv_at hl 1 rfl) ?_
        obtain ⟨r6, hr6, h⟩ := Option.bind_eq_some_iff.mp h
        refine q_getR C0 hw hr6 rfl in_8 (by decide) kw_352 dX8_goBack_38 ?_
        refine lv_aload_n C0.hx C0.hb dX8_goBack_41 rfl (lv_at hl 0 rfl) ?_
        obtain ⟨r7, hr7, h⟩ := Option.bind_eq_some_iff.mp h
        refine q_getR C0 hw hr7 rfl in_1 (by decide) kw_342 dX8_goBack_42 ?_
        obtain ⟨c8, hc8, h⟩ := Option.bind_eq_some_iff.mp h
        obtain ⟨S9, hS9, h⟩ := Option.bind_eq_some_iff.mp h
        refine q_callV (n := 1) (av := [.ref (b0 + r7)]) (rest := []) (st1 := []) C0 hw (m_X5_copyFrom l b0 D cy S5 r6 r7 hS9) hc8 rfl (by decide) (goodV kw_851 kw_568 kw_569 kw_66 kw_570) ⟨rfl, rfl⟩ (by decide +kernel) ⟨(Nat.le_of_ble_eq_true rfl), (Nat.le_of_ble_eq_true rfl)⟩ rfl hl.1 rfl (Nat.le_of_ble_eq_true rfl) dX8_goBack_45 ⟨Nat.zero_le _, Nat.zero_le _⟩ rfl (fun H locs hw => ?_)
        refine lv_aload_n C0.hx C0.hb dX8_goBack_48 rfl (lv_at hl 1 rfl) ?_
        obtain ⟨r10, hr10, h⟩ := Option.bind_eq_some_iff.mp h
        refine q_getR C0 hw hr10 rfl in_8 (by decide) kw_353 dX8_goBack_49 ?_
        obtain ⟨c11, hc11, h⟩ := Option.bind_eq_some_iff.mp h
        obtain ⟨S12, hS12, h⟩ := Option.bind_eq_some_iff.mp h
        refine q_callV (n := 0) (av := []) (rest := []) (st1 := []) C0 hw (m_X3_forget l b0 D cy S9 r10 hS12) hc11 rfl (by decide) (goodV kw_489 kw_490 kw_491 kw_69 kw_492) ⟨rfl, rfl⟩ (by decide +kernel) ⟨(Nat.le_of_ble_eq_true rfl), (Nat.le_of_ble_eq_true rfl)⟩ rfl hl.1 rfl (Nat.le_of_ble_eq_true rfl) dX8_goBack_52 ⟨Nat.zero_le _, Nat.zero_le _⟩ rfl (fun H locs hw => ?_)
        refine lv_iconst (v := (1 : Int32)) C0.hx C0.hb dX8_goBack_55 (by decide) ?_
        obtain rfl := Option.some.inj h
        exact q_reti C0 hw hr hlocks dX8_goBack_56
      · have h := (if_pos hc).symm.trans h
        refine lv_ldc C0.hx C0.hb C0.ho (C0.w kw_562) dX8_goBack_26 ?_
        obtain rfl := Option.some.inj h
        exact q_reti C0 hw hr hlocks dX8_goBack_28
    · have h := (if_neg hc).symm.trans h
      refine lv_ldc C0.hx C0.hb C0.ho (C0.w kw_509) dX8_goBack_9 ?_
      obtain rfl := Option.some.inj h
      exact q_reti C0 hw hr hlocks dX8_goBack_11
abbrev rm_X9_in : Room := { frames := 0, cells := 0, slots := 0, locals := 0 }
def f_X9_in (y0 : Int64) (y2 : Int64) (y4 : Int64) : Option Int32 :=
    (if (lg_cmp y0 y2) < (0 : Int32) then
      some (0 : Int32)
      else
      (if (0 : Int32) < (lg_cmp y0 y4) then
      some (0 : Int32)
      else
      some (1 : Int32)))
set_option maxHeartbeats 4000000 in
set_option maxRecDepth 100000 in
theorem m_X9_in (l : Launch) (b0 : Nat) (D : va_G) (cy : Nat → ClassId) (S : Mem) (y0 : Int64) (y2 : Int64) (y4 : Int64) {q : Int32} (h : f_X9_in y0 y2 y4 = some q) : Met l yX9_in [.code yX9_in cX9_in 6 (some .boolean)] rm_X9_in (Pr b0 D cy S [.long y0, .long y2, .long y4]) (Qp b0 D cy (some (.int q)) S) 0 0 (fun q => b0 ≤ q) := by
  refine Met.ofW (cc := cX9_in) (maxL := 6) (ret := some .boolean) (by decide) rfl ?_
  intro p e s m args below meth c s₁ B hml hv
  obtain ⟨rfl, hP, hK, hT⟩ := hv
  have C0 : Cx p m c cX9_in 6 s (List.toArray [.long y0, .long y2, .long y4]) RX9 D cy := ⟨⟨B.exec, B.bytes, hml, findClass_of_methodNamed B.named, fun w h => hT w h _⟩, hK, hT⟩
  have hr : meth.sig.returnType = some .boolean := B.returns
  have hlocks := B.notSynchronized
  have hw : Wd b0 D cy S s.heap s.heap [] := ⟨hP, va_S.rf⟩
  have hl := lv_entry ([.long y0, .long y2, .long y4]) (n := 6) (Nat.le_of_ble_eq_true rfl)
  rw [lg_entry_eq]
  generalize (lg_sl ([.long y0, .long y2, .long y4]) ++ List.replicate (6 - (lg_sl ([.long y0, .long y2, .long y4])).length) Slot.unset).toArray = ls at hl ⊢
  have hl : lv_has ls 6 [(0, .long y0), (2, .long y2), (4, .long y4)] := hl
  rw [f_X9_in] at h
  show W p l e rm_X9_in s m _ below meth c s.heap [] 0 0 _ _
  refine lv_lload_n C0.hx C0.hb dX9_in_0 rfl (lv_at hl 0 rfl) ?_
  refine lv_lload_n C0.hx C0.hb dX9_in_1 rfl (lv_at hl 1 rfl) ?_
  refine W.lcmp C0.hx C0.hb dX9_in_2 ?_
  refine lv_if_lt (tgt := 17) C0.hx C0.hb dX9_in_3 (by decide) (fun hc => ?_) (fun hc => ?_)
  · have h := (if_pos hc).symm.trans h
    refine lv_iconst (v := (0 : Int32)) C0.hx C0.hb dX9_in_17 (by decide) ?_
    obtain rfl := Option.some.inj h
    exact q_retz C0 hw (Or.inl rfl) hr hlocks dX9_in_18
  · have h := (if_neg hc).symm.trans h
    refine lv_lload_n C0.hx C0.hb dX9_in_6 rfl (lv_at hl 0 rfl) ?_
    refine lv_lload C0.hx C0.hb dX9_in_7 (lv_at hl 2 rfl) ?_
    refine W.lcmp C0.hx C0.hb dX9_in_9 ?_
    refine lv_if_gt (tgt := 17) C0.hx C0.hb dX9_in_10 (by decide) (fun hc => ?_) (fun hc => ?_)
    · have h := (if_pos hc).symm.trans h
      refine lv_iconst (v := (0 : Int32)) C0.hx C0.hb dX9_in_17 (by decide) ?_
      obtain rfl := Option.some.inj h
      exact q_retz C0 hw (Or.inl rfl) hr hlocks dX9_in_18
    · have h := (if_neg hc).symm.trans h
      refine lv_iconst (v := (1 : Int32)) C0.hx C0.hb dX9_in_13 (by decide) ?_
      refine lv_goto (tgt := 18) C0.hx C0.hb dX9_in_14 (by decide) ?_
      obtain rfl := Option.some.inj h
      exact q_retz C0 hw (Or.inr rfl) hr hlocks dX9_in_18
abbrev rm_X9_at : Room := { frames := 0, cells := 0, slots := 0, locals := 0 }
def f_X9_at (a0 : Nat) (x1 : Int32) (S : Mem) : Option Int32 :=
    (gR 9 7 S a0).bind fun r1 =>
      (ldJ S r1 x1).bind fun u2 =>
      some (u2.toInt32)
set_option maxHeartbeats 4000000 in
set_option maxRecDepth 100000 in
theorem m_X9_at (l : Launch) (b0 : Nat) (D : va_G) (cy : Nat → ClassId) (S : Mem) (a0 : Nat) (x1 : Int32) {q : Int32} (h : f_X9_at a0 x1 S = some q) : Met l yX9_at [.code yX9_at cX9_at 2 (some .int)] rm_X9_at (Pr b0 D cy S [.ref (b0 + a0), .int x1]) (Qp b0 D cy (some (.int q)) S) 0 0 (fun q => b0 ≤ q) := by
  refine Met.ofW (cc := cX9_at) (maxL := 2) (ret := some .int) (by decide) rfl ?_
  intro p e s m args below meth c s₁ B hml hv
  obtain ⟨rfl, hP, hK, hT⟩ := hv
  have C0 : Cx p m c cX9_at 2 s (List.toArray [.ref (b0 + a0), .int x1]) RX9 D cy := ⟨⟨B.exec, B.bytes, hml, findClass_of_methodNamed B.named, fun w h => hT w h _⟩, hK, hT⟩
  have hr : meth.sig.returnType = some .int := B.returns
  have hlocks := B.notSynchronized
  have hw : Wd b0 D cy S s.heap s.heap [] := ⟨hP, va_S.rf⟩
  have hl := lv_entry ([.ref (b0 + a0), .int x1]) (n := 2) (Nat.le_of_ble_eq_true rfl)
  rw [lg_entry_eq]
  generalize (lg_sl ([.ref (b0 + a0), .int x1]) ++ List.replicate (2 - (lg_sl ([.ref (b0 + a0), .int x1])).length) Slot.unset).toArray = ls at hl ⊢
  have hl : lv_has ls 2 [(0, .ref (b0 + a0)), (1, .int x1)] := hl
  rw [f_X9_at] at h
  show W p l e rm_X9_at s m _ below meth c s.heap [] 0 0 _ _
  refine lv_aload_n C0.hx C0.hb dX9_at_0 rfl (lv_at hl 0 rfl) ?_
  obtain ⟨r1, hr1, h⟩ := Option.bind_eq_some_iff.mp h
  refine q_getR C0 hw hr1 rfl in_9 (by decide) kw_869 dX9_at_1 ?_
  refine lv_iload_n C0.hx C0.hb dX9_at_4 rfl (lv_at hl 1 rfl) ?_
  obtain ⟨u2, hu2, h⟩ := Option.bind_eq_some_iff.mp h
  refine q_ldJ C0 hw hu2 dX9_at_5 ?_
  refine lv_l2i C0.hx C0.hb dX9_at_6 rfl ?_
  obtain rfl := Option.some.inj h
  exact q_reti C0 hw hr hlocks dX9_at_7
abbrev rm_X9_isRoom : Room := { frames := 1, cells := 0, slots := 0, locals := 25 }
def f_X9_isRoom (a0 : Nat) (x1 : Int32) (S : Mem) : Option Int32 :=
    (gI 9 1 S a0).bind fun v1 =>
      (f_X9_in x1.toInt64 (0 : Int64) ((v1 - (1 : Int32)).toInt64)).bind fun v2 =>
      (zok v2).bind fun v3 =>
      some v3
set_option maxHeartbeats 4000000 in
set_option maxRecDepth 100000 in
theorem m_X9_isRoom (l : Launch) (b0 : Nat) (D : va_G) (cy : Nat → ClassId) (S : Mem) (a0 : Nat) (x1 : Int32) {q : Int32} (h : f_X9_isRoom a0 x1 S = some q) : Met l yX9_isRoom [.code yX9_isRoom cX9_isRoom 2 (some .boolean)] rm_X9_isRoom (Pr b0 D cy S [.ref (b0 + a0), .int x1]) (Qp b0 D cy (some (.int q)) S) 0 0 (fun q => b0 ≤ q) := by
  refine Met.ofW (cc := cX9_isRoom) (maxL := 2) (ret := some .boolean) (by decide) rfl ?_
  intro p e s m args below meth c s₁ B hml hv
  obtain ⟨rfl, hP, hK, hT⟩ := hv
  have C0 : Cx p m c cX9_isRoom 2 s (List.toArray [.ref (b0 + a0), .int x1]) RX9 D cy := ⟨⟨B.exec, B.bytes, hml, findClass_of_methodNamed B.named, fun w h => hT w h _⟩, hK, hT⟩
  have hr : meth.sig.returnType = some .boolean := B.returns
  have hlocks := B.notSynchronized
  have hw : Wd b0 D cy S s.heap s.heap [] := ⟨hP, va_S.rf⟩
  have hl := lv_entry ([.ref (b0 + a0), .int x1]) (n := 2) (Nat.le_of_ble_eq_true rfl)
  rw [lg_entry_eq]
  generalize (lg_sl ([.ref (b0 + a0), .int x1]) ++ List.replicate (2 - (lg_sl ([.ref (b0 + a0), .int x1])).length) Slot.unset).toArray = ls at hl ⊢
  have hl : lv_has ls 2 [(0, .ref (b0 + a0)), (1, .int x1)] := hl
  rw [f_X9_isRoom] at h
  show W p l e rm_X9_isRoom s m _ below meth c s.heap [] 0 0 _ _
  refine lv_iload_n C0.hx C0.hb dX9_isRoom_0 rfl (lv_at hl 1 rfl) ?_
  refine lv_i2l C0.hx C0.hb dX9_isRoom_1 rfl ?_
  refine lv_lconst (v := (0 : Int64)) C0.hx C0.hb dX9_isRoom_2 (by decide) ?_
  refine lv_aload_n C0.hx C0.hb dX9_isRoom_3 rfl (lv_at hl 0 rfl) ?_
  obtain ⟨v1, hv1, h⟩ := Option.bind_eq_some_iff.mp h
  refine q_getI C0 hw hv1 rfl in_9 (by decide) kw_863 dX9_isRoom_4 ?_
  refine lv_iconst (v := (1 : Int32)) C0.hx C0.hb dX9_isRoom_7 (by decide) ?_
  refine lv_isub C0.hx C0.hb dX9_isRoom_8 ?_
  refine lv_i2l C0.hx C0.hb dX9_isRoom_9 rfl ?_
  obtain ⟨v2, hv2, h⟩ := Option.bind_eq_some_iff.mp h
  refine q_callS (n := 3) (av := [.long x1.toInt64, .long (0 : Int64), .long ((v1 - (1 : Int32)).toInt64)]) (rest := []) (st1 := [.int v2]) C0 hw (m_X9_in l b0 D cy S x1.toInt64 (0 : Int64) ((v1 - (1 : Int32)).toInt64) hv2) (goodS kw_951 kw_952 kw_72 kw_953) ⟨rfl, rfl⟩ (by decide +kernel) ⟨(Nat.le_of_ble_eq_true rfl), (Nat.le_of_ble_eq_true rfl)⟩ rfl hl.1 rfl (Nat.le_of_ble_eq_true rfl) dX9_isRoom_10 ⟨Nat.zero_le _, Nat.zero_le _⟩ rfl (fun H locs hw => ?_)
  obtain ⟨v3, hv3, h⟩ := Option.bind_eq_some_iff.mp h
  obtain ⟨he, hz⟩ := zok_inv hv3
  subst he
  obtain rfl := Option.some.inj h
  exact q_retz C0 hw hz hr hlocks dX9_isRoom_13
abbrev rm_X9_isDoor : Room := { frames := 1, cells := 0, slots := 0, locals := 25 }
def f_X9_isDoor (a0 : Nat) (x1 : Int32) (S : Mem) : Option Int32 :=
    (gI 9 2 S a0).bind fun v1 =>
      (f_X9_in x1.toInt64 (0 : Int64) ((v1 - (1 : Int32)).toInt64)).bind fun v2 =>
      (zok v2).bind fun v3 =>
      some v3
set_option maxHeartbeats 4000000 in
set_option maxRecDepth 100000 in
theorem m_X9_isDoor (l : Launch) (b0 : Nat) (D : va_G) (cy : Nat → ClassId) (S : Mem) (a0 : Nat) (x1 : Int32) {q : Int32} (h : f_X9_isDoor a0 x1 S = some q) : Met l yX9_isDoor [.code yX9_isDoor cX9_isDoor 2 (some .boolean)] rm_X9_isDoor (Pr b0 D cy S [.ref (b0 + a0), .int x1]) (Qp b0 D cy (some (.int q)) S) 0 0 (fun q => b0 ≤ q) := by
  refine Met.ofW (cc := cX9_isDoor) (maxL := 2) (ret := some .boolean) (by decide) rfl ?_
  intro p e s m args below meth c s₁ B hml hv
  obtain ⟨rfl, hP, hK, hT⟩ := hv
  have C0 : Cx p m c cX9_isDoor 2 s (List.toArray [.ref (b0 + a0), .int x1]) RX9 D cy := ⟨⟨B.exec, B.bytes, hml, findClass_of_methodNamed B.named, fun w h => hT w h _⟩, hK, hT⟩
  have hr : meth.sig.returnType = some .boolean := B.returns
  have hlocks := B.notSynchronized
  have hw : Wd b0 D cy S s.heap s.heap [] := ⟨hP, va_S.rf⟩
  have hl := lv_entry ([.ref (b0 + a0), .int x1]) (n := 2) (Nat.le_of_ble_eq_true rfl)
  rw [lg_entry_eq]
  generalize (lg_sl ([.ref (b0 + a0), .int x1]) ++ List.replicate (2 - (lg_sl ([.ref (b0 + a0), .int x1])).length) Slot.unset).toArray = ls at hl ⊢
  have hl : lv_has ls 2 [(0, .ref (b0 + a0)), (1, .int x1)] := hl
  rw [f_X9_isDoor] at h
  show W p l e rm_X9_isDoor s m _ below meth c s.heap [] 0 0 _ _
  refine lv_iload_n C0.hx C0.hb dX9_isDoor_0 rfl (lv_at hl 1 rfl) ?_
  refine lv_i2l C0.hx C0.hb dX9_isDoor_1 rfl ?_
  refine lv_lconst (v := (0 : Int64)) C0.hx C0.hb dX9_isDoor_2 (by decide) ?_
  refine lv_aload_n C0.hx C0.hb dX9_isDoor_3 rfl (lv_at hl 0 rfl) ?_
  obtain ⟨v1, hv1, h⟩ := Option.bind_eq_some_iff.mp h
  refine q_getI C0 hw hv1 rfl in_9 (by decide) kw_864 dX9_isDoor_4 ?_
  refine lv_iconst (v := (1 : Int32)) C0.hx C0.hb dX9_isDoor_7 (by decide) ?_
  refine lv_isub C0.hx C0.hb dX9_isDoor_8 ?_
  refine lv_i2l C0.hx C0.hb dX9_isDoor_9 rfl ?_
  obtain ⟨v2, hv2, h⟩ := Option.bind_eq_some_iff.mp h
  refine q_callS (n := 3) (av := [.long x1.toInt64, .long (0 : Int64), .long ((v1 - (1 : Int32)).toInt64)]) (rest := []) (st1 := [.int v2]) C0 hw (m_X9_in l b0 D cy S x1.toInt64 (0 : Int64) ((v1 - (1 : Int32)).toInt64) hv2) (goodS kw_951 kw_952 kw_72 kw_953) ⟨rfl, rfl⟩ (by decide +kernel) ⟨(Nat.le_of_ble_eq_true rfl), (Nat.le_of_ble_eq_true rfl)⟩ rfl hl.1 rfl (Nat.le_of_ble_eq_true rfl) dX9_isDoor_10 ⟨Nat.zero_le _, Nat.zero_le _⟩ rfl (fun H locs hw => ?_)
  obtain ⟨v3, hv3, h⟩ := Option.bind_eq_some_iff.mp h
  obtain ⟨he, hz⟩ := zok_inv hv3
  subst he
  obtain rfl := Option.some.inj h
  exact q_retz C0 hw hz hr hlocks dX9_isDoor_13
