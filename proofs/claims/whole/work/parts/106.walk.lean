abbrev rm_X8_when : Room := { frames := 6, cells := 0, slots := 0, locals := 143 }
def f_X8_when (a0 : Nat) (x1 : Int32) (S : Mem) : Option (Int32 × Mem) :=
    (ck 8 S a0).bind fun c1 =>
      (f_X8_isNoRoom a0 x1 S).bind fun v2 =>
      (if v2 = (0 : Int32) then
      (gR 8 7 S a0).bind fun r3 =>
      (gR 8 2 S a0).bind fun r4 =>
      (gR 5 0 S r4).bind fun r5 =>
      (ck 4 S r3).bind fun c6 =>
      (f_X4_copyFrom r3 r5 S).bind fun S7 =>
      (ck 8 S7 a0).bind fun c8 =>
      (f_X8_hoursUntil a0 x1 (100 : Int32) S7).bind fun q9 =>
      some (q9.1, q9.2)
      else
      some ((-1000000001 : Int32), S))
set_option maxHeartbeats 4000000 in
set_option maxRecDepth 100000 in
theorem m_X8_when (l : Launch) (b0 : Nat) (D : va_G) (cy : Nat → ClassId) (S : Mem) (a0 : Nat) (x1 : Int32) {q : (Int32 × Mem)} (h : f_X8_when a0 x1 S = some q) : Met l yX8_when [.code yX8_when cX8_when 2 (some .int)] rm_X8_when (Pr b0 D cy S [.ref (b0 + a0), .int x1]) (Qp b0 D cy (some (.int q.1)) q.2) 0 0 (fun q => b0 ≤ q) := by
  refine Met.ofW (cc := cX8_when) (maxL := 2) (ret := some .int) (by decide) rfl ?_
  intro p e s m args below meth c s₁ B hml hv
  obtain ⟨rfl, hP, hK, hT⟩ := hv
  have C0 : Cx p m c cX8_when 2 s (List.toArray [.ref (b0 + a0), .int x1]) RX8 D cy := ⟨⟨B.exec, B.bytes, hml, findClass_of_methodNamed B.named, fun w h => hT w h _⟩, hK, hT⟩
  have hr : meth.sig.returnType = some .int := B.returns
  have hlocks := B.notSynchronized
  have hw : Wd b0 D cy S s.heap s.heap [] := ⟨hP, va_S.rf⟩
  have hl := lv_entry ([.ref (b0 + a0), .int x1]) (n := 2) (Nat.le_of_ble_eq_true rfl)
  rw [lg_entry_eq]
  generalize (lg_sl ([.ref (b0 + a0), .int x1]) ++ List.replicate (2 - (lg_sl ([.ref (b0 + a0), .int x1])).length) Slot.unset).toArray = ls at hl ⊢
  have hl : lv_has ls 2 [(0, .ref (b0 + a0)), (1, .int x1)] := hl
  rw [f_X8_when] at h
  show W p l e rm_X8_when s m _ below meth c s.heap [] 0 0 _ _
  refine lv_aload_n C0.hx C0.hb dX8_when_0 rfl (lv_at hl 0 rfl) ?_
  refine lv_iload_n C0.hx C0.hb dX8_when_1 rfl (lv_at hl 1 rfl) ?_
  obtain ⟨c1, hc1, h⟩ := Option.bind_eq_some_iff.mp h
  obtain ⟨v2, hv2, h⟩ := Option.bind_eq_some_iff.mp h
  refine q_callV (n := 1) (av := [.int x1]) (rest := []) (st1 := [.int v2]) C0 hw (m_X8_isNoRoom l b0 D cy S a0 x1 hv2) hc1 rfl (by decide) (goodV kw_505 kw_507 kw_10 kw_63 kw_508) ⟨rfl, rfl⟩ (by decide +kernel) ⟨(Nat.le_of_ble_eq_true rfl), (Nat.le_of_ble_eq_true rfl)⟩ rfl hl.1 rfl (Nat.le_of_ble_eq_true rfl) dX8_when_2 ⟨Nat.zero_le _, Nat.zero_le _⟩ rfl (fun H locs hw => ?_)
  refine lv_if_eq (tgt := 11) C0.hx C0.hb dX8_when_5 (by decide) (fun hc => ?_) (fun hc => ?_)
  · have h := (if_pos hc).symm.trans h
    refine lv_aload_n C0.hx C0.hb dX8_when_11 rfl (lv_at hl 0 rfl) ?_
    obtain ⟨r3, hr3, h⟩ := Option.bind_eq_some_iff.mp h
    refine q_getR C0 hw hr3 rfl in_8 (by decide) kw_357 dX8_when_12 ?_
    refine lv_aload_n C0.hx C0.hb dX8_when_15 rfl (lv_at hl 0 rfl) ?_
    obtain ⟨r4, hr4, h⟩ := Option.bind_eq_some_iff.mp h
    refine q_getR C0 hw hr4 rfl in_8 (by decide) kw_352 dX8_when_16 ?_
    obtain ⟨r5, hr5, h⟩ := Option.bind_eq_some_iff.mp h
    refine q_getR C0 hw hr5 rfl in_5 (by decide) kw_259 dX8_when_19 ?_
    obtain ⟨c6, hc6, h⟩ := Option.bind_eq_some_iff.mp h
    obtain ⟨S7, hS7, h⟩ := Option.bind_eq_some_iff.mp h
    refine q_callV (n := 1) (av := [.ref (b0 + r5)]) (rest := []) (st1 := []) C0 hw (m_X4_copyFrom l b0 D cy S r3 r5 hS7) hc6 rfl (by decide) (goodV kw_687 kw_572 kw_573 kw_67 kw_574) ⟨rfl, rfl⟩ (by decide +kernel) ⟨(Nat.le_of_ble_eq_true rfl), (Nat.le_of_ble_eq_true rfl)⟩ rfl hl.1 rfl (Nat.le_of_ble_eq_true rfl) dX8_when_22 ⟨Nat.zero_le _, Nat.zero_le _⟩ rfl (fun H locs hw => ?_)
    refine lv_aload_n C0.hx C0.hb dX8_when_25 rfl (lv_at hl 0 rfl) ?_
    refine lv_iload_n C0.hx C0.hb dX8_when_26 rfl (lv_at hl 1 rfl) ?_
    refine lv_bipush (v := (100 : Int32)) C0.hx C0.hb dX8_when_27 (by decide) ?_
    obtain ⟨c8, hc8, h⟩ := Option.bind_eq_some_iff.mp h
    obtain ⟨q9, hq9, h⟩ := Option.bind_eq_some_iff.mp h
    refine q_callV (n := 2) (av := [.int x1, .int (100 : Int32)]) (rest := []) (st1 := [.int q9.1]) C0 hw (m_X8_hoursUntil l b0 D cy S7 a0 x1 (100 : Int32) hq9) hc8 rfl (by decide) (goodV kw_699 kw_701 kw_16 kw_63 kw_702) ⟨rfl, rfl⟩ (by decide +kernel) ⟨(Nat.le_of_ble_eq_true rfl), (Nat.le_of_ble_eq_true rfl)⟩ rfl hl.1 rfl (Nat.le_of_ble_eq_true rfl) dX8_when_29 ⟨Nat.zero_le _, Nat.zero_le _⟩ rfl (fun H locs hw => ?_)
    obtain rfl := Option.some.inj h
    exact q_reti C0 hw hr hlocks dX8_when_32
  · have h := (if_neg hc).symm.trans h
    refine lv_ldc C0.hx C0.hb C0.ho (C0.w kw_509) dX8_when_8 ?_
    obtain rfl := Option.some.inj h
    exact q_reti C0 hw hr hlocks dX8_when_10
abbrev rm_X8_governed : Room := { frames := 5, cells := 0, slots := 0, locals := 120 }
def f_X8_governed_b64 (k44 : Nat → Int32 → Int32 → Int32 → Int32 → Mem → Option (Int32 × Mem)) (a0 : Nat) (x1 : Int32) (x2 : Int32) (x3 : Int32) (x4 : Int32) (S : Mem) : Option (Int32 × Mem) :=
    (gR 8 7 S a0).bind fun r10 =>
      (ck 4 S r10).bind fun c11 =>
      (f_X4_tryHour r10 S).bind fun S12 =>
      (some (x4 + (1 : Int32))).bind fun v13 =>
      k44 a0 x1 x2 x3 v13 S12
def f_X8_governed_b44 : Nat → Nat → Int32 → Int32 → Int32 → Int32 → Mem → Option (Int32 × Mem)
  | 0, _, _, _, _, _, _ => none
  | n + 1, a0, x1, x2, x3, x4, S =>
    (if x2 ≤ x4 then
      some (x3, S)
      else
      (gR 8 7 S a0).bind fun r8 =>
      (gI 4 1 S r8).bind fun v9 =>
      (if v9 = x1 then
      (some (x3 + (1 : Int32))).bind fun v14 =>
      f_X8_governed_b64 (fun a0 x1 x2 x3 x4 S => f_X8_governed_b44  n a0 x1 x2 x3 x4 S) a0 x1 x2 v14 x4 S
      else
      f_X8_governed_b64 (fun a0 x1 x2 x3 x4 S => f_X8_governed_b44  n a0 x1 x2 x3 x4 S) a0 x1 x2 x3 x4 S))
def f_X8_governed (a0 : Nat) (x1 : Int32) (x2 : Int32) (S : Mem) : Option (Int32 × Mem) :=
    (ck 8 S a0).bind fun c1 =>
      (f_X8_isNoRoom a0 x1 S).bind fun v2 =>
      (if v2 = (0 : Int32) then
      (if x2 < (1 : Int32) then
      some ((-1000000002 : Int32), S)
      else
      (if x2 ≤ (100 : Int32) then
      (gR 8 7 S a0).bind fun r3 =>
      (gR 8 2 S a0).bind fun r4 =>
      (gR 5 0 S r4).bind fun r5 =>
      (ck 4 S r3).bind fun c6 =>
      (f_X4_copyFrom r3 r5 S).bind fun S7 =>
      f_X8_governed_b44 FU a0 x1 x2 (0 : Int32) (0 : Int32) S7
      else
      some ((-1000000002 : Int32), S)))
      else
      some ((-1000000001 : Int32), S))
set_option maxHeartbeats 4000000 in
set_option maxRecDepth 100000 in
theorem w_X8_governed_b64 {p : Program} {l : Launch} {e : Env} {s : State} {m : MethodId} {args : Array Value} {below : List Frame} {meth : Method} {c : Code} {b0 : Nat} {D : va_G} {cy : Nat → ClassId} {q : (Int32 × Mem)} (C0 : Cx p m c cX8_governed 5 s args RX8 D cy) (hr : meth.sig.returnType = some .int) (hlocks : meth.locks = false) (k44 : Nat → Int32 → Int32 → Int32 → Int32 → Mem → Option (Int32 × Mem)) (hk44 : ∀ (a0 : Nat) (x1 : Int32) (x2 : Int32) (x3 : Int32) (x4 : Int32) (S : Mem) (H : Heap) (locs : List Loc) (ls : Array Slot), Wd b0 D cy S s.heap H locs → lv_has ls 5 [(0, .ref (b0 + a0)), (1, .int x1), (2, .int x2), (3, .int x3), (4, .int x4)] → k44 a0 x1 x2 x3 x4 S = some q → W p l e rm_X8_governed s m args below meth c H locs 0 0 (MQ below (Qp b0 D cy (some (.int q.1)) q.2) args s 0 0 (fun q => b0 ≤ q)) (F0 m 44 ls [])) : ∀ (a0 : Nat) (x1 : Int32) (x2 : Int32) (x3 : Int32) (x4 : Int32) (S : Mem) (H : Heap) (locs : List Loc) (ls : Array Slot), Wd b0 D cy S s.heap H locs → lv_has ls 5 [(0, .ref (b0 + a0)), (1, .int x1), (2, .int x2), (3, .int x3), (4, .int x4)] → f_X8_governed_b64 k44 a0 x1 x2 x3 x4 S = some q → W p l e rm_X8_governed s m args below meth c H locs 0 0 (MQ below (Qp b0 D cy (some (.int q.1)) q.2) args s 0 0 (fun q => b0 ≤ q)) (F0 m 64 ls []) := by
  intro a0 x1 x2 x3 x4 S H locs ls hw hl h
  rw [f_X8_governed_b64] at h
  refine lv_aload_n C0.hx C0.hb dX8_governed_64 rfl (lv_at hl 0 rfl) ?_
  obtain ⟨r10, hr10, h⟩ := Option.bind_eq_some_iff.mp h
  refine q_getR C0 hw hr10 rfl in_8 (by decide) kw_357 dX8_governed_65 ?_
  obtain ⟨c11, hc11, h⟩ := Option.bind_eq_some_iff.mp h
  obtain ⟨S12, hS12, h⟩ := Option.bind_eq_some_iff.mp h
  refine q_callV (n := 0) (av := []) (rest := []) (st1 := []) C0 hw (m_X4_tryHour l b0 D cy S r10 hS12) hc11 rfl (by decide) (goodV kw_688 kw_689 kw_690 kw_67 kw_691) ⟨rfl, rfl⟩ (by decide +kernel) ⟨(Nat.le_of_ble_eq_true rfl), (Nat.le_of_ble_eq_true rfl)⟩ rfl hl.1 rfl (Nat.le_of_ble_eq_true rfl) dX8_governed_68 ⟨Nat.zero_le _, Nat.zero_le _⟩ rfl (fun H locs hw => ?_)
  obtain ⟨v13, hv13, h⟩ := Option.bind_eq_some_iff.mp h
  refine lv_iinc (v := v13) (lv' := [(4, .int v13), (0, .ref (b0 + a0)), (1, .int x1), (2, .int x2), (3, .int x3)]) C0.hx C0.hb dX8_governed_71 hl (k := 4) rfl (by rw [← Option.some.inj hv13]; rfl) (by decide) rfl (fun ls hl => ?_)
  refine lv_goto (tgt := 44) C0.hx C0.hb dX8_governed_74 (by decide) ?_
  exact hk44 a0 x1 x2 x3 v13 S12 _ _ _ hw (lv_sub hl [1, 2, 3, 4, 0] rfl) h
set_option maxHeartbeats 4000000 in
set_option maxRecDepth 100000 in
theorem w_X8_governed_b44 {p : Program} {l : Launch} {e : Env} {s : State} {m : MethodId} {args : Array Value} {below : List Frame} {meth : Method} {c : Code} {b0 : Nat} {D : va_G} {cy : Nat → ClassId} {q : (Int32 × Mem)} (C0 : Cx p m c cX8_governed 5 s args RX8 D cy) (hr : meth.sig.returnType = some .int) (hlocks : meth.locks = false) : ∀ (n : Nat) (a0 : Nat) (x1 : Int32) (x2 : Int32) (x3 : Int32) (x4 : Int32) (S : Mem) (H : Heap) (locs : List Loc) (ls : Array Slot), Wd b0 D cy S s.heap H locs → lv_has ls 5 [(0, .ref (b0 + a0)), (1, .int x1), (2, .int x2), (3, .int x3), (4, .int x4)] → f_X8_governed_b44  n a0 x1 x2 x3 x4 S = some q → W p l e rm_X8_governed s m args below meth c H locs 0 0 (MQ below (Qp b0 D cy (some (.int q.1)) q.2) args s 0 0 (fun q => b0 ≤ q)) (F0 m 44 ls []) := by
  intro n
  induction n with
  | zero => intro a0 x1 x2 x3 x4 S H locs ls hw hl h; exact absurd h (by simp [f_X8_governed_b44])
  | succ n ih =>
    intro a0 x1 x2 x3 x4 S H locs ls hw hl h
    rw [f_X8_governed_b44] at h
    refine lv_iload C0.hx C0.hb dX8_governed_44 (lv_at hl 4 rfl) ?_
    refine lv_iload_n C0.hx C0.hb dX8_governed_46 rfl (lv_at hl 2 rfl) ?_
    refine lv_icmp_ge (tgt := 77) C0.hx C0.hb dX8_governed_47 (by decide) (fun hc => ?_) (fun hc => ?_)
    · have h := (if_pos hc).symm.trans h
      refine lv_iload_n C0.hx C0.hb dX8_governed_77 rfl (lv_at hl 3 rfl) ?_
      obtain rfl := Option.some.inj h
      exact q_reti C0 hw hr hlocks dX8_governed_78
    · have h := (if_neg hc).symm.trans h
      refine lv_aload_n C0.hx C0.hb dX8_governed_50 rfl (lv_at hl 0 rfl) ?_
      obtain ⟨r8, hr8, h⟩ := Option.bind_eq_some_iff.mp h
      refine q_getR C0 hw hr8 rfl in_8 (by decide) kw_357 dX8_governed_51 ?_
      obtain ⟨v9, hv9, h⟩ := Option.bind_eq_some_iff.mp h
      refine q_getI C0 hw hv9 rfl in_4 (by decide) kw_200 dX8_governed_54 ?_
      refine lv_iload_n C0.hx C0.hb dX8_governed_57 rfl (lv_at hl 1 rfl) ?_
      refine lv_icmp_ne (tgt := 64) C0.hx C0.hb dX8_governed_58 (by decide) (fun hc => ?_) (fun hc => ?_)
      · have h := (if_neg hc).symm.trans h
        exact w_X8_governed_b64 C0 hr hlocks (fun a0 x1 x2 x3 x4 S => f_X8_governed_b44  n a0 x1 x2 x3 x4 S) ih a0 x1 x2 x3 x4 S _ _ _ hw (lv_sub hl [0, 1, 2, 3, 4] rfl) h
      · have h := (if_pos hc).symm.trans h
        obtain ⟨v14, hv14, h⟩ := Option.bind_eq_some_iff.mp h
        refine lv_iinc (v := v14) (lv' := [(3, .int v14), (0, .ref (b0 + a0)), (1, .int x1), (2, .int x2), (4, .int x4)]) C0.hx C0.hb dX8_governed_61 hl (k := 3) rfl (by rw [← Option.some.inj hv14]; rfl) (by decide) rfl (fun ls hl => ?_)
        exact w_X8_governed_b64 C0 hr hlocks (fun a0 x1 x2 x3 x4 S => f_X8_governed_b44  n a0 x1 x2 x3 x4 S) ih a0 x1 x2 v14 x4 S _ _ _ hw (lv_sub hl [1, 2, 3, 0, 4] rfl) h
set_option maxHeartbeats 4000000 in
set_option maxRecDepth 100000 in
theorem m_X8_governed (l : Launch) (b0 : Nat) (D : va_G) (cy : Nat → ClassId) (S : Mem) (a0 : Nat) (x1 : Int32) (x2 : Int32) {q : (Int32 × Mem)} (h : f_X8_governed a0 x1 x2 S = some q) : Met l yX8_governed [.code yX8_governed cX8_governed 5 (some .int)] rm_X8_governed (Pr b0 D cy S [.ref (b0 + a0), .int x1, .int x2]) (Qp b0 D cy (some (.int q.1)) q.2) 0 0 (fun q => b0 ≤ q) := by
  refine Met.ofW (cc := cX8_governed) (maxL := 5) (ret := some .int) (by decide) rfl ?_
  intro p e s m args below meth c s₁ B hml hv
  obtain ⟨rfl, hP, hK, hT⟩ := hv
  have C0 : Cx p m c cX8_governed 5 s (List.toArray [.ref (b0 + a0), .int x1, .int x2]) RX8 D cy := ⟨⟨B.exec, B.bytes, hml, findClass_of_methodNamed B.named, fun w h => hT w h _⟩, hK, hT⟩
  have hr : meth.sig.returnType = some .int := B.returns
  have hlocks := B.notSynchronized
  have hw : Wd b0 D cy S s.heap s.heap [] := ⟨hP, va_S.rf⟩
  have hl := lv_entry ([.ref (b0 + a0), .int x1, .int x2]) (n := 5) (Nat.le_of_ble_eq_true rfl)
  rw [lg_entry_eq]
  generalize (lg_sl ([.ref (b0 + a0), .int x1, .int x2]) ++ List.replicate (5 - (lg_sl ([.ref (b0 + a0), .int x1, .int x2])).length) Slot.unset).toArray = ls at hl ⊢
  have hl : lv_has ls 5 [(0, .ref (b0 + a0)), (1, .int x1), (2, .int x2)] := hl
  rw [f_X8_governed] at h
  show W p l e rm_X8_governed s m _ below meth c s.heap [] 0 0 _ _
  refine lv_aload_n C0.hx C0.hb dX8_governed_0 rfl (lv_at hl 0 rfl) ?_
  refine lv_iload_n C0.hx C0.hb dX8_governed_1 rfl (lv_at hl 1 rfl) ?_
  obtain ⟨c1, hc1, h⟩ := Option.bind_eq_some_iff.mp h
  obtain ⟨v2, hv2, h⟩ := Option.bind_eq_some_iff.mp h
  refine q_callV (n := 1) (av := [.int x1]) (rest := []) (st1 := [.int v2]) C0 hw (m_X8_isNoRoom l b0 D cy S a0 x1 hv2) hc1 rfl (by decide) (goodV kw_505 kw_507 kw_10 kw_63 kw_508) ⟨rfl, rfl⟩ (by decide +kernel) ⟨(Nat.le_of_ble_eq_true rfl), (Nat.le_of_ble_eq_true rfl)⟩ rfl hl.1 rfl (Nat.le_of_ble_eq_true rfl) dX8_governed_2 ⟨Nat.zero_le _, Nat.zero_le _⟩ rfl (fun H locs hw => ?_)
  refine lv_if_eq (tgt := 11) C0.hx C0.hb dX8_governed_5 (by decide) (fun hc => ?_) (fun hc => ?_)
  · have h := (if_pos hc).symm.trans h
    refine lv_iload_n C0.hx C0.hb dX8_governed_11 rfl (lv_at hl 2 rfl) ?_
    refine lv_iconst (v := (1 : Int32)) C0.hx C0.hb dX8_governed_12 (by decide) ?_
    refine lv_icmp_lt (tgt := 22) C0.hx C0.hb dX8_governed_13 (by decide) (fun hc => ?_) (fun hc => ?_)
    · have h := (if_pos hc).symm.trans h
      refine lv_ldc C0.hx C0.hb C0.ho (C0.w kw_385) dX8_governed_22 ?_
      obtain rfl := Option.some.inj h
      exact q_reti C0 hw hr hlocks dX8_governed_24
    · have h := (if_neg hc).symm.trans h
      refine lv_iload_n C0.hx C0.hb dX8_governed_16 rfl (lv_at hl 2 rfl) ?_
      refine lv_bipush (v := (100 : Int32)) C0.hx C0.hb dX8_governed_17 (by decide) ?_
      refine lv_icmp_le (tgt := 25) C0.hx C0.hb dX8_governed_19 (by decide) (fun hc => ?_) (fun hc => ?_)
      · have h := (if_pos hc).symm.trans h
        refine lv_aload_n C0.hx C0.hb dX8_governed_25 rfl (lv_at hl 0 rfl) ?_
        obtain ⟨r3, hr3, h⟩ := Option.bind_eq_some_iff.mp h
        refine q_getR C0 hw hr3 rfl in_8 (by decide) kw_357 dX8_governed_26 ?_
        refine lv_aload_n C0.hx C0.hb dX8_governed_29 rfl (lv_at hl 0 rfl) ?_
        obtain ⟨r4, hr4, h⟩ := Option.bind_eq_some_iff.mp h
        refine q_getR C0 hw hr4 rfl in_8 (by decide) kw_352 dX8_governed_30 ?_
        obtain ⟨r5, hr5, h⟩ := Option.bind_eq_some_iff.mp h
        refine q_getR C0 hw hr5 rfl in_5 (by decide) kw_259 dX8_governed_33 ?_
        obtain ⟨c6, hc6, h⟩ := Option.bind_eq_some_iff.mp h
        obtain ⟨S7, hS7, h⟩ := Option.bind_eq_some_iff.mp h
        refine q_callV (n := 1) (av := [.ref (b0 + r5)]) (rest := []) (st1 := []) C0 hw (m_X4_copyFrom l b0 D cy S r3 r5 hS7) hc6 rfl (by decide) (goodV kw_687 kw_572 kw_573 kw_67 kw_574) ⟨rfl, rfl⟩ (by decide +kernel) ⟨(Nat.le_of_ble_eq_true rfl), (Nat.le_of_ble_eq_true rfl)⟩ rfl hl.1 rfl (Nat.le_of_ble_eq_true rfl) dX8_governed_36 ⟨Nat.zero_le _, Nat.zero_le _⟩ rfl (fun H locs hw => ?_)
        refine lv_iconst (v := (0 : Int32)) C0.hx C0.hb dX8_governed_39 (by decide) ?_
        refine lv_istore_n (lv' := [(3, .int (0 : Int32)), (0, .ref (b0 + a0)), (1, .int x1), (2, .int x2)]) C0.hx C0.hb dX8_governed_40 rfl hl (by decide) rfl (fun ls hl => ?_)
        refine lv_iconst (v := (0 : Int32)) C0.hx C0.hb dX8_governed_41 (by decide) ?_
        refine lv_istore (lv' := [(4, .int (0 : Int32)), (3, .int (0 : Int32)), (0, .ref (b0 + a0)), (1, .int x1), (2, .int x2)]) C0.hx C0.hb dX8_governed_42 hl (by decide) rfl (fun ls hl => ?_)
        exact w_X8_governed_b44 C0 hr hlocks FU a0 x1 x2 (0 : Int32) (0 : Int32) S7 _ _ _ hw (lv_sub hl [2, 3, 4, 1, 0] rfl) h
      · have h := (if_neg hc).symm.trans h
        refine lv_ldc C0.hx C0.hb C0.ho (C0.w kw_385) dX8_governed_22 ?_
        obtain rfl := Option.some.inj h
        exact q_reti C0 hw hr hlocks dX8_governed_24
  · have h := (if_neg hc).symm.trans h
    refine lv_ldc C0.hx C0.hb C0.ho (C0.w kw_509) dX8_governed_8 ?_
    obtain rfl := Option.some.inj h
    exact q_reti C0 hw hr hlocks dX8_governed_10
abbrev rm_X8_ring : Room := { frames := 5, cells := 0, slots := 0, locals := 120 }
def f_X8_ring_b75 (k31 : Nat → Int32 → Int32 → Mem → Option (Int32 × Mem)) (a0 : Nat) (x1 : Int32) (x2 : Int32) (S : Mem) : Option (Int32 × Mem) :=
    (some (x2 + (1 : Int32))).bind fun v16 =>
      k31 a0 x1 v16 S
def f_X8_ring_b31 : Nat → Nat → Int32 → Int32 → Mem → Option (Int32 × Mem)
  | 0, _, _, _, _ => none
  | n + 1, a0, x1, x2, S =>
    (if (100 : Int32) < x2 then
      some ((-1 : Int32), S)
      else
      (gR 8 7 S a0).bind fun r8 =>
      (ck 4 S r8).bind fun c9 =>
      (f_X4_tryHour r8 S).bind fun S10 =>
      (gR 8 7 S10 a0).bind fun r11 =>
      (gI 4 1 S10 r11).bind fun v12 =>
      (gR 8 2 S10 a0).bind fun r13 =>
      (gR 5 0 S10 r13).bind fun r14 =>
      (gI 4 1 S10 r14).bind fun v15 =>
      (if v12 = v15 then
      (if x1 = (0 : Int32) then
      f_X8_ring_b75 (fun a0 x1 x2 S => f_X8_ring_b31  n a0 x1 x2 S) a0 x1 x2 S10
      else
      some (x2, S10))
      else
      f_X8_ring_b75 (fun a0 x1 x2 S => f_X8_ring_b31  n a0 x1 x2 S) a0 (1 : Int32) x2 S10))
def f_X8_ring (a0 : Nat) (S : Mem) : Option (Int32 × Mem) :=
    (gR 8 1 S a0).bind fun r1 =>
      (gI 2 2 S r1).bind fun v2 =>
      (if v2 = (0 : Int32) then
      some ((-1000000003 : Int32), S)
      else
      (gR 8 7 S a0).bind fun r3 =>
      (gR 8 2 S a0).bind fun r4 =>
      (gR 5 0 S r4).bind fun r5 =>
      (ck 4 S r3).bind fun c6 =>
      (f_X4_copyFrom r3 r5 S).bind fun S7 =>
      f_X8_ring_b31 FU a0 (0 : Int32) (1 : Int32) S7)
set_option maxHeartbeats 4000000 in
set_option maxRecDepth 100000 in
theorem w_X8_ring_b75 {p : Program} {l : Launch} {e : Env} {s : State} {m : MethodId} {args : Array Value} {below : List Frame} {meth : Method} {c : Code} {b0 : Nat} {D : va_G} {cy : Nat → ClassId} {q : (Int32 × Mem)} (C0 : Cx p m c cX8_ring 3 s args RX8 D cy) (hr : meth.sig.returnType = some .int) (hlocks : meth.locks = false) (k31 : Nat → Int32 → Int32 → Mem → Option (Int32 × Mem)) (hk31 : ∀ (a0 : Nat) (x1 : Int32) (x2 : Int32) (S : Mem) (H : Heap) (locs : List Loc) (ls : Array Slot), Wd b0 D cy S s.heap H locs → lv_has ls 3 [(0, .ref (b0 + a0)), (1, .int x1), (2, .int x2)] → k31 a0 x1 x2 S = some q → W p l e rm_X8_ring s m args below meth c H locs 0 0 (MQ below (Qp b0 D cy (some (.int q.1)) q.2) args s 0 0 (fun q => b0 ≤ q)) (F0 m 31 ls [])) : ∀ (a0 : Nat) (x1 : Int32) (x2 : Int32) (S : Mem) (H : Heap) (locs : List Loc) (ls : Array Slot), Wd b0 D cy S s.heap H locs → lv_has ls 3 [(0, .ref (b0 + a0)), (1, .int x1), (2, .int x2)] → f_X8_ring_b75 k31 a0 x1 x2 S = some q → W p l e rm_X8_ring s m args below meth c H locs 0 0 (MQ below (Qp b0 D cy (some (.int q.1)) q.2) args s 0 0 (fun q => b0 ≤ q)) (F0 m 75 ls []) := by
  intro a0 x1 x2 S H locs ls hw hl h
  rw [f_X8_ring_b75] at h
  obtain ⟨v16, hv16, h⟩ := Option.bind_eq_some_iff.mp h
  refine lv_iinc (v := v16) (lv' := [(2, .int v16), (0, .ref (b0 + a0)), (1, .int x1)]) C0.hx C0.hb dX8_ring_75 hl (k := 2) rfl (by rw [← Option.some.inj hv16]; rfl) (by decide) rfl (fun ls hl => ?_)
  refine lv_goto (tgt := 31) C0.hx C0.hb dX8_ring_78 (by decide) ?_
  exact hk31 a0 x1 v16 S _ _ _ hw (lv_sub hl [1, 2, 0] rfl) h
set_option maxHeartbeats 4000000 in
set_option maxRecDepth 100000 in
theorem w_X8_ring_b31 {p : Program} {l : Launch} {e : Env} {s : State} {m : MethodId} {args : Array Value} {below : List Frame} {meth : Method} {c : Code} {b0 : Nat} {D : va_G} {cy : Nat → ClassId} {q : (Int32 × Mem)} (C0 : Cx p m c cX8_ring 3 s args RX8 D cy) (hr : meth.sig.returnType = some .int) (hlocks : meth.locks = false) : ∀ (n : Nat) (a0 : Nat) (x1 : Int32) (x2 : Int32) (S : Mem) (H : Heap) (locs : List Loc) (ls : Array Slot), Wd b0 D cy S s.heap H locs → lv_has ls 3 [(0, .ref (b0 + a0)), (1, .int x1), (2, .int x2)] → f_X8_ring_b31  n a0 x1 x2 S = some q → W p l e rm_X8_ring s m args below meth c H locs 0 0 (MQ below (Qp b0 D cy (some (.int q.1)) q.2) args s 0 0 (fun q => b0 ≤ q)) (F0 m 31 ls []) := by
  intro n
  induction n with
  | zero => intro a0 x1 x2 S H locs ls hw hl h; exact absurd h (by simp [f_X8_ring_b31])
  | succ n ih =>
    intro a0 x1 x2 S H locs ls hw hl h
    rw [f_X8_ring_b31] at h
    refine lv_iload_n C0.hx C0.hb dX8_ring_31 rfl (lv_at hl 2 rfl) ?_
    refine lv_bipush (v := (100 : Int32)) C0.hx C0.hb dX8_ring_32 (by decide) ?_
    refine lv_icmp_gt (tgt := 81) C0.hx C0.hb dX8_ring_34 (by decide) (fun hc => ?_) (fun hc => ?_)
    · have h := (if_pos hc).symm.trans h
      refine lv_iconst (v := (-1 : Int32)) C0.hx C0.hb dX8_ring_81 (by decide) ?_
      obtain rfl := Option.some.inj h
      exact q_reti C0 hw hr hlocks dX8_ring_82
    · have h := (if_neg hc).symm.trans h
      refine lv_aload_n C0.hx C0.hb dX8_ring_37 rfl (lv_at hl 0 rfl) ?_
      obtain ⟨r8, hr8, h⟩ := Option.bind_eq_some_iff.mp h
      refine q_getR C0 hw hr8 rfl in_8 (by decide) kw_357 dX8_ring_38 ?_
      obtain ⟨c9, hc9, h⟩ := Option.bind_eq_some_iff.mp h
      obtain ⟨S10, hS10, h⟩ := Option.bind_eq_some_iff.mp h
      refine q_callV (n := 0) (av := []) (rest := []) (st1 := []) C0 hw (m_X4_tryHour l b0 D cy S r8 hS10) hc9 rfl (by decide) (goodV kw_688 kw_689 kw_690 kw_67 kw_691) ⟨rfl, rfl⟩ (by decide +kernel) ⟨(Nat.le_of_ble_eq_true rfl), (Nat.le_of_ble_eq_true rfl)⟩ rfl hl.1 rfl (Nat.le_of_ble_eq_true rfl) dX8_ring_41 ⟨Nat.zero_le _, Nat.zero_le _⟩ rfl (fun H locs hw => ?_)
      refine lv_aload_n C0.hx C0.hb dX8_ring_44 rfl (lv_at hl 0 rfl) ?_
      obtain ⟨r11, hr11, h⟩ := Option.bind_eq_some_iff.mp h
      refine q_getR C0 hw hr11 rfl in_8 (by decide) kw_357 dX8_ring_45 ?_
      obtain ⟨v12, hv12, h⟩ := Option.bind_eq_some_iff.mp h
      refine q_getI C0 hw hv12 rfl in_4 (by decide) kw_200 dX8_ring_48 ?_
      refine lv_aload_n C0.hx C0.hb dX8_ring_51 rfl (lv_at hl 0 rfl) ?_
      obtain ⟨r13, hr13, h⟩ := Option.bind_eq_some_iff.mp h
      refine q_getR C0 hw hr13 rfl in_8 (by decide) kw_352 dX8_ring_52 ?_
      obtain ⟨r14, hr14, h⟩ := Option.bind_eq_some_iff.mp h
      refine q_getR C0 hw hr14 rfl in_5 (by decide) kw_259 dX8_ring_55 ?_
      obtain ⟨v15, hv15, h⟩ := Option.bind_eq_some_iff.mp h
      refine q_getI C0 hw hv15 rfl in_4 (by decide) kw_200 dX8_ring_58 ?_
      refine lv_icmp_eq (tgt := 69) C0.hx C0.hb dX8_ring_61 (by decide) (fun hc => ?_) (fun hc => ?_)
      · have h := (if_pos hc).symm.trans h
        refine lv_iload_n C0.hx C0.hb dX8_ring_69 rfl (lv_at hl 1 rfl) ?_
        refine lv_if_eq (tgt := 75) C0.hx C0.hb dX8_ring_70 (by decide) (fun hc => ?_) (fun hc => ?_)
        · have h := (if_pos hc).symm.trans h
          exact w_X8_ring_b75 C0 hr hlocks (fun a0 x1 x2 S => f_X8_ring_b31  n a0 x1 x2 S) ih a0 x1 x2 S10 _ _ _ hw (lv_sub hl [0, 1, 2] rfl) h
        · have h := (if_neg hc).symm.trans h
          refine lv_iload_n C0.hx C0.hb dX8_ring_73 rfl (lv_at hl 2 rfl) ?_
          obtain rfl := Option.some.inj h
          exact q_reti C0 hw hr hlocks dX8_ring_74
      · have h := (if_neg hc).symm.trans h
        refine lv_iconst (v := (1 : Int32)) C0.hx C0.hb dX8_ring_64 (by decide) ?_
        refine lv_istore_n (lv' := [(1, .int (1 : Int32)), (0, .ref (b0 + a0)), (2, .int x2)]) C0.hx C0.hb dX8_ring_65 rfl hl (by decide) rfl (fun ls hl => ?_)
        refine lv_goto (tgt := 75) C0.hx C0.hb dX8_ring_66 (by decide) ?_
        exact w_X8_ring_b75 C0 hr hlocks (fun a0 x1 x2 S => f_X8_ring_b31  n a0 x1 x2 S) ih a0 (1 : Int32) x2 S10 _ _ _ hw (lv_sub hl [1, 0, 2] rfl) h
set_option maxHeartbeats 4000000 in
set_option maxRecDepth 100000 in
theorem m_X8_ring (l : Launch) (b0 : Nat) (D : va_G) (cy : Nat → ClassId) (S : Mem) (a0 : Nat) {q : (Int32 × Mem)} (h : f_X8_ring a0 S = some q) : Met l yX8_ring [.code yX8_ring cX8_ring 3 (some .int)] rm_X8_ring (Pr b0 D cy S [.ref (b0 + a0)]) (Qp b0 D cy (some (.int q.1)) q.2) 0 0 (fun q => b0 ≤ q) := by
  refine Met.ofW (cc := cX8_ring) (maxL := 3) (ret := some .int) (by decide) rfl ?_
  intro p e s m args below meth c s₁ B hml hv
  obtain ⟨rfl, hP, hK, hT⟩ := hv
  have C0 : Cx p m c cX8_ring 3 s (List.toArray [.ref (b0 + a0)]) RX8 D cy := ⟨⟨B.exec, B.bytes, hml, findClass_of_methodNamed B.named, fun w h => hT w h _⟩, hK, hT⟩
  have hr : meth.sig.returnType = some .int := B.returns
  have hlocks := B.notSynchronized
  have hw : Wd b0 D cy S s.heap s.heap [] := ⟨hP, va_S.rf⟩
  have hl := lv_entry ([.ref (b0 + a0)]) (n := 3) (Nat.le_of_ble_eq_true rfl)
  rw [lg_entry_eq]
  generalize (lg_sl ([.ref (b0 + a0)]) ++ List.replicate (3 - (lg_sl ([.ref (b0 + a0)])).length) Slot.unset).toArray = ls at hl ⊢
  have hl : lv_has ls 3 [(0, .ref (b0 + a0))] := hl
  rw [f_X8_ring] at h
  show W p l e rm_X8_ring s m _ below meth c s.heap [] 0 0 _ _
  refine lv_aload_n C0.hx C0.hb dX8_ring_0 rfl (lv_at hl 0 rfl) ?_
  obtain ⟨r1, hr1, h⟩ := Option.bind_eq_some_iff.mp h
  refine q_getR C0 hw hr1 rfl in_8 (by decide) kw_351 dX8_ring_1 ?_
  obtain ⟨v2, hv2, h⟩ := Option.bind_eq_some_iff.mp h
  refine q_getI C0 hw hv2 rfl in_2 (by decide) kw_105 dX8_ring_4 ?_
  refine lv_if_ne (tgt := 13) C0.hx C0.hb dX8_ring_7 (by decide) (fun hc => ?_) (fun hc => ?_)
  · have h := (if_neg hc).symm.trans h
    refine lv_aload_n C0.hx C0.hb dX8_ring_13 rfl (lv_at hl 0 rfl) ?_
    obtain ⟨r3, hr3, h⟩ := Option.bind_eq_some_iff.mp h
    refine q_getR C0 hw hr3 rfl in_8 (by decide) kw_357 dX8_ring_14 ?_
    refine lv_aload_n C0.hx C0.hb dX8_ring_17 rfl (lv_at hl 0 rfl) ?_
    obtain ⟨r4, hr4, h⟩ := Option.bind_eq_some_iff.mp h
    refine q_getR C0 hw hr4 rfl in_8 (by decide) kw_352 dX8_ring_18 ?_
    obtain ⟨r5, hr5, h⟩ := Option.bind_eq_some_iff.mp h
    refine q_getR C0 hw hr5 rfl in_5 (by decide) kw_259 dX8_ring_21 ?_
    obtain ⟨c6, hc6, h⟩ := Option.bind_eq_some_iff.mp h
    obtain ⟨S7, hS7, h⟩ := Option.bind_eq_some_iff.mp h
    refine q_callV (n := 1) (av := [.ref (b0 + r5)]) (rest := []) (st1 := []) C0 hw (m_X4_copyFrom l b0 D cy S r3 r5 hS7) hc6 rfl (by decide) (goodV kw_687 kw_572 kw_573 kw_67 kw_574) ⟨rfl, rfl⟩ (by decide +kernel) ⟨(Nat.le_of_ble_eq_true rfl), (Nat.le_of_ble_eq_true rfl)⟩ rfl hl.1 rfl (Nat.le_of_ble_eq_true rfl) dX8_ring_24 ⟨Nat.zero_le _, Nat.zero_le _⟩ rfl (fun H locs hw => ?_)
    refine lv_iconst (v := (0 : Int32)) C0.hx C0.hb dX8_ring_27 (by decide) ?_
    refine lv_istore_n (lv' := [(1, .int (0 : Int32)), (0, .ref (b0 + a0))]) C0.hx C0.hb dX8_ring_28 rfl hl (by decide) rfl (fun ls hl => ?_)
    refine lv_iconst (v := (1 : Int32)) C0.hx C0.hb dX8_ring_29 (by decide) ?_
    refine lv_istore_n (lv' := [(2, .int (1 : Int32)), (1, .int (0 : Int32)), (0, .ref (b0 + a0))]) C0.hx C0.hb dX8_ring_30 rfl hl (by decide) rfl (fun ls hl => ?_)
    exact w_X8_ring_b31 C0 hr hlocks FU a0 (0 : Int32) (1 : Int32) S7 _ _ _ hw (lv_sub hl [2, 1, 0] rfl) h
  · have h := (if_pos hc).symm.trans h
    refine lv_ldc C0.hx C0.hb C0.ho (C0.w kw_562) dX8_ring_10 ?_
    obtain rfl := Option.some.inj h
    exact q_reti C0 hw hr hlocks dX8_ring_12
abbrev rm_J6_bitCount_0f7a4 : Room := { frames := 0, cells := 0, slots := 0, locals := 0 }
def f_J6_bitCount_0f7a4 (x0 : Int32) : Int32 :=
    ((((((((x0 - ((usI x0 (1 : Int32)) &&& (1431655765 : Int32))) &&& (858993459 : Int32)) + ((usI (x0 - ((usI x0 (1 : Int32)) &&& (1431655765 : Int32))) (2 : Int32)) &&& (858993459 : Int32))) + (usI (((x0 - ((usI x0 (1 : Int32)) &&& (1431655765 : Int32))) &&& (858993459 : Int32)) + ((usI (x0 - ((usI x0 (1 : Int32)) &&& (1431655765 : Int32))) (2 : Int32)) &&& (858993459 : Int32))) (4 : Int32))) &&& (252645135 : Int32)) + (usI (((((x0 - ((usI x0 (1 : Int32)) &&& (1431655765 : Int32))) &&& (858993459 : Int32)) + ((usI (x0 - ((usI x0 (1 : Int32)) &&& (1431655765 : Int32))) (2 : Int32)) &&& (858993459 : Int32))) + (usI (((x0 - ((usI x0 (1 : Int32)) &&& (1431655765 : Int32))) &&& (858993459 : Int32)) + ((usI (x0 - ((usI x0 (1 : Int32)) &&& (1431655765 : Int32))) (2 : Int32)) &&& (858993459 : Int32))) (4 : Int32))) &&& (252645135 : Int32)) (8 : Int32))) + (usI ((((((x0 - ((usI x0 (1 : Int32)) &&& (1431655765 : Int32))) &&& (858993459 : Int32)) + ((usI (x0 - ((usI x0 (1 : Int32)) &&& (1431655765 : Int32))) (2 : Int32)) &&& (858993459 : Int32))) + (usI (((x0 - ((usI x0 (1 : Int32)) &&& (1431655765 : Int32))) &&& (858993459 : Int32)) + ((usI (x0 - ((usI x0 (1 : Int32)) &&& (1431655765 : Int32))) (2 : Int32)) &&& (858993459 : Int32))) (4 : Int32))) &&& (252645135 : Int32)) + (usI (((((x0 - ((usI x0 (1 : Int32)) &&& (1431655765 : Int32))) &&& (858993459 : Int32)) + ((usI (x0 - ((usI x0 (1 : Int32)) &&& (1431655765 : Int32))) (2 : Int32)) &&& (858993459 : Int32))) + (usI (((x0 - ((usI x0 (1 : Int32)) &&& (1431655765 : Int32))) &&& (858993459 : Int32)) + ((usI (x0 - ((usI x0 (1 : Int32)) &&& (1431655765 : Int32))) (2 : Int32)) &&& (858993459 : Int32))) (4 : Int32))) &&& (252645135 : Int32)) (8 : Int32))) (16 : Int32))) &&& (63 : Int32))
set_option maxHeartbeats 4000000 in
set_option maxRecDepth 100000 in
theorem m_J6_bitCount_0f7a4 (l : Launch) (b0 : Nat) (D : va_G) (cy : Nat → ClassId) (S : Mem) (x0 : Int32) : Met l yJ6_bitCount_0f7a4 [.code yJ6_bitCount_0f7a4 cJ6_bitCount_0f7a4 1 (some .int)] rm_J6_bitCount_0f7a4 (Pr b0 D cy S [.int x0]) (Qp b0 D cy (some (.int (f_J6_bitCount_0f7a4 x0))) S) 0 0 (fun q => b0 ≤ q) := by
  refine Met.ofW (cc := cJ6_bitCount_0f7a4) (maxL := 1) (ret := some .int) (by decide) rfl ?_
  intro p e s m args below meth c s₁ B hml hv
  obtain ⟨rfl, hP, hK, hT⟩ := hv
  have C0 : Cx p m c cJ6_bitCount_0f7a4 1 s (List.toArray [.int x0]) RJ6 D cy := ⟨⟨B.exec, B.bytes, hml, findClass_of_methodNamed B.named, fun w h => hT w h _⟩, hK, hT⟩
  have hr : meth.sig.returnType = some .int := B.returns
  have hlocks := B.notSynchronized
  have hw : Wd b0 D cy S s.heap s.heap [] := ⟨hP, va_S.rf⟩
  have hl := lv_entry ([.int x0]) (n := 1) (Nat.le_of_ble_eq_true rfl)
  rw [lg_entry_eq]
  generalize (lg_sl ([.int x0]) ++ List.replicate (1 - (lg_sl ([.int x0])).length) Slot.unset).toArray = ls at hl ⊢
  have hl : lv_has ls 1 [(0, .int x0)] := hl
  show W p l e rm_J6_bitCount_0f7a4 s m _ below meth c s.heap [] 0 0 _ _
  refine lv_iload_n C0.hx C0.hb dJ6_bitCount_0f7a4_0 rfl (lv_at hl 0 rfl) ?_
  refine lv_iload_n C0.hx C0.hb dJ6_bitCount_0f7a4_1 rfl (lv_at hl 0 rfl) ?_
  refine lv_iconst (v := (1 : Int32)) C0.hx C0.hb dJ6_bitCount_0f7a4_2 (by decide) ?_
  refine lv_iushr (v := usI x0 (1 : Int32)) C0.hx C0.hb dJ6_bitCount_0f7a4_3 rfl ?_
  refine lv_ldcw C0.hx C0.hb C0.ho (C0.w kw_721) dJ6_bitCount_0f7a4_4 ?_
  refine lv_iand C0.hx C0.hb dJ6_bitCount_0f7a4_7 ?_
  refine lv_isub C0.hx C0.hb dJ6_bitCount_0f7a4_8 ?_
  refine lv_istore_n (lv' := [(0, .int (x0 - ((usI x0 (1 : Int32)) &&& (1431655765 : Int32))))]) C0.hx C0.hb dJ6_bitCount_0f7a4_9 rfl hl (by decide) rfl (fun ls hl => ?_)
  refine lv_iload_n C0.hx C0.hb dJ6_bitCount_0f7a4_10 rfl (lv_at hl 0 rfl) ?_
  refine lv_ldcw C0.hx C0.hb C0.ho (C0.w kw_722) dJ6_bitCount_0f7a4_11 ?_
  refine lv_iand C0.hx C0.hb dJ6_bitCount_0f7a4_14 ?_
  refine lv_iload_n C0.hx C0.hb dJ6_bitCount_0f7a4_15 rfl (lv_at hl 0 rfl) ?_
  refine lv_iconst (v := (2 : Int32)) C0.hx C0.hb dJ6_bitCount_0f7a4_16 (by decide) ?_
  refine lv_iushr (v := usI (x0 - ((usI x0 (1 : Int32)) &&& (1431655765 : Int32))) (2 : Int32)) C0.hx C0.hb dJ6_bitCount_0f7a4_17 rfl ?_
  refine lv_ldcw C0.hx C0.hb C0.ho (C0.w kw_722) dJ6_bitCount_0f7a4_18 ?_
  refine lv_iand C0.hx C0.hb dJ6_bitCount_0f7a4_21 ?_
  refine lv_iadd C0.hx C0.hb dJ6_bitCount_0f7a4_22 ?_
  refine lv_istore_n (lv' := [(0, .int (((x0 - ((usI x0 (1 : Int32)) &&& (1431655765 : Int32))) &&& (858993459 : Int32)) + ((usI (x0 - ((usI x0 (1 : Int32)) &&& (1431655765 : Int32))) (2 : Int32)) &&& (858993459 : Int32))))]) C0.hx C0.hb dJ6_bitCount_0f7a4_23 rfl hl (by decide) rfl (fun ls hl => ?_)
  refine lv_iload_n C0.hx C0.hb dJ6_bitCount_0f7a4_24 rfl (lv_at hl 0 rfl) ?_
  refine lv_iload_n C0.hx C0.hb dJ6_bitCount_0f7a4_25 rfl (lv_at hl 0 rfl) ?_
  refine lv_iconst (v := (4 : Int32)) C0.hx C0.hb dJ6_bitCount_0f7a4_26 (by decide) ?_
  refine lv_iushr (v := usI (((x0 - ((usI x0 (1 : Int32)) &&& (1431655765 : Int32))) &&& (858993459 : Int32)) + ((usI (x0 - ((usI x0 (1 : Int32)) &&& (1431655765 : Int32))) (2 : Int32)) &&& (858993459 : Int32))) (4 : Int32)) C0.hx C0.hb dJ6_bitCount_0f7a4_27 rfl ?_
  refine lv_iadd C0.hx C0.hb dJ6_bitCount_0f7a4_28 ?_
  refine lv_ldcw C0.hx C0.hb C0.ho (C0.w kw_723) dJ6_bitCount_0f7a4_29 ?_
  refine lv_iand C0.hx C0.hb dJ6_bitCount_0f7a4_32 ?_
  refine lv_istore_n (lv' := [(0, .int (((((x0 - ((usI x0 (1 : Int32)) &&& (1431655765 : Int32))) &&& (858993459 : Int32)) + ((usI (x0 - ((usI x0 (1 : Int32)) &&& (1431655765 : Int32))) (2 : Int32)) &&& (858993459 : Int32))) + (usI (((x0 - ((usI x0 (1 : Int32)) &&& (1431655765 : Int32))) &&& (858993459 : Int32)) + ((usI (x0 - ((usI x0 (1 : Int32)) &&& (1431655765 : Int32))) (2 : Int32)) &&& (858993459 : Int32))) (4 : Int32))) &&& (252645135 : Int32)))]) C0.hx C0.hb dJ6_bitCount_0f7a4_33 rfl hl (by decide) rfl (fun ls hl => ?_)
  refine lv_iload_n C0.hx C0.hb dJ6_bitCount_0f7a4_34 rfl (lv_at hl 0 rfl) ?_
  refine lv_iload_n C0.hx C0.hb dJ6_bitCount_0f7a4_35 rfl (lv_at hl 0 rfl) ?_
  refine lv_bipush (v := (8 : Int32)) C0.hx C0.hb dJ6_bitCount_0f7a4_36 (by decide) ?_
  refine lv_iushr (v := usI (((((x0 - ((usI x0 (1 : Int32)) &&& (1431655765 : Int32))) &&& (858993459 : Int32)) + ((usI (x0 - ((usI x0 (1 : Int32)) &&& (1431655765 : Int32))) (2 : Int32)) &&& (858993459 : Int32))) + (usI (((x0 - ((usI x0 (1 : Int32)) &&& (1431655765 : Int32))) &&& (858993459 : Int32)) + ((usI (x0 - ((usI x0 (1 : Int32)) &&& (1431655765 : Int32))) (2 : Int32)) &&& (858993459 : Int32))) (4 : Int32))) &&& (252645135 : Int32)) (8 : Int32)) C0.hx C0.hb dJ6_bitCount_0f7a4_38 rfl ?_
  refine lv_iadd C0.hx C0.hb dJ6_bitCount_0f7a4_39 ?_
  refine lv_istore_n (lv' := [(0, .int ((((((x0 - ((usI x0 (1 : Int32)) &&& (1431655765 : Int32))) &&& (858993459 : Int32)) + ((usI (x0 - ((usI x0 (1 : Int32)) &&& (1431655765 : Int32))) (2 : Int32)) &&& (858993459 : Int32))) + (usI (((x0 - ((usI x0 (1 : Int32)) &&& (1431655765 : Int32))) &&& (858993459 : Int32)) + ((usI (x0 - ((usI x0 (1 : Int32)) &&& (1431655765 : Int32))) (2 : Int32)) &&& (858993459 : Int32))) (4 : Int32))) &&& (252645135 : Int32)) + (usI (((((x0 - ((usI x0 (1 : Int32)) &&& (1431655765 : Int32))) &&& (858993459 : Int32)) + ((usI (x0 - ((usI x0 (1 : Int32)) &&& (1431655765 : Int32))) (2 : Int32)) &&& (858993459 : Int32))) + (usI (((x0 - ((usI x0 (1 : Int32)) &&& (1431655765 : Int32))) &&& (858993459 : Int32)) + ((usI (x0 - ((usI x0 (1 : Int32)) &&& (1431655765 : Int32))) (2 : Int32)) &&& (858993459 : Int32))) (4 : Int32))) &&& (252645135 : Int32)) (8 : Int32))))]) C0.hx C0.hb dJ6_bitCount_0f7a4_40 rfl hl (by decide) rfl (fun ls hl => ?_)
  refine lv_iload_n C0.hx C0.hb dJ6_bitCount_0f7a4_41 rfl (lv_at hl 0 rfl) ?_
  refine lv_iload_n C0.hx C0.hb dJ6_bitCount_0f7a4_42 rfl (lv_at hl 0 rfl) ?_
  refine lv_bipush (v := (16 : Int32)) C0.hx C0.hb dJ6_bitCount_0f7a4_43 (by decide) ?_
  refine lv_iushr (v := usI ((((((x0 - ((usI x0 (1 : Int32)) &&& (1431655765 : Int32))) &&& (858993459 : Int32)) + ((usI (x0 - ((usI x0 (1 : Int32)) &&& (1431655765 : Int32))) (2 : Int32)) &&& (858993459 : Int32))) + (usI (((x0 - ((usI x0 (1 : Int32)) &&& (1431655765 : Int32))) &&& (858993459 : Int32)) + ((usI (x0 - ((usI x0 (1 : Int32)) &&& (1431655765 : Int32))) (2 : Int32)) &&& (858993459 : Int32))) (4 : Int32))) &&& (252645135 : Int32)) + (usI (((((x0 - ((usI x0 (1 : Int32)) &&& (1431655765 : Int32))) &&& (858993459 : Int32)) + ((usI (x0 - ((usI x0 (1 : Int32)) &&& (1431655765 : Int32))) (2 : Int32)) &&& (858993459 : Int32))) + (usI (((x0 - ((usI x0 (1 : Int32)) &&& (1431655765 : Int32))) &&& (858993459 : Int32)) + ((usI (x0 - ((usI x0 (1 : Int32)) &&& (1431655765 : Int32))) (2 : Int32)) &&& (858993459 : Int32))) (4 : Int32))) &&& (252645135 : Int32)) (8 : Int32))) (16 : Int32)) C0.hx C0.hb dJ6_bitCount_0f7a4_45 rfl ?_
  refine lv_iadd C0.hx C0.hb dJ6_bitCount_0f7a4_46 ?_
  refine lv_istore_n (lv' := [(0, .int (((((((x0 - ((usI x0 (1 : Int32)) &&& (1431655765 : Int32))) &&& (858993459 : Int32)) + ((usI (x0 - ((usI x0 (1 : Int32)) &&& (1431655765 : Int32))) (2 : Int32)) &&& (858993459 : Int32))) + (usI (((x0 - ((usI x0 (1 : Int32)) &&& (1431655765 : Int32))) &&& (858993459 : Int32)) + ((usI (x0 - ((usI x0 (1 : Int32)) &&& (1431655765 : Int32))) (2 : Int32)) &&& (858993459 : Int32))) (4 : Int32))) &&& (252645135 : Int32)) + (usI (((((x0 - ((usI x0 (1 : Int32)) &&& (1431655765 : Int32))) &&& (858993459 : Int32)) + ((usI (x0 - ((usI x0 (1 : Int32)) &&& (1431655765 : Int32))) (2 : Int32)) &&& (858993459 : Int32))) + (usI (((x0 - ((usI x0 (1 : Int32)) &&& (1431655765 : Int32))) &&& (858993459 : Int32)) + ((usI (x0 - ((usI x0 (1 : Int32)) &&& (1431655765 : Int32))) (2 : Int32)) &&& (858993459 : Int32))) (4 : Int32))) &&& (252645135 : Int32)) (8 : Int32))) + (usI ((((((x0 - ((usI x0 (1 : Int32)) &&& (1431655765 : Int32))) &&& (858993459 : Int32)) + ((usI (x0 - ((usI x0 (1 : Int32)) &&& (1431655765 : Int32))) (2 : Int32)) &&& (858993459 : Int32))) + (usI (((x0 - ((usI x0 (1 : Int32)) &&& (1431655765 : Int32))) &&& (858993459 : Int32)) + ((usI (x0 - ((usI x0 (1 : Int32)) &&& (1431655765 : Int32))) (2 : Int32)) &&& (858993459 : Int32))) (4 : Int32))) &&& (252645135 : Int32)) + (usI (((((x0 - ((usI x0 (1 : Int32)) &&& (1431655765 : Int32))) &&& (858993459 : Int32)) + ((usI (x0 - ((usI x0 (1 : Int32)) &&& (1431655765 : Int32))) (2 : Int32)) &&& (858993459 : Int32))) + (usI (((x0 - ((usI x0 (1 : Int32)) &&& (1431655765 : Int32))) &&& (858993459 : Int32)) + ((usI (x0 - ((usI x0 (1 : Int32)) &&& (1431655765 : Int32))) (2 : Int32)) &&& (858993459 : Int32))) (4 : Int32))) &&& (252645135 : Int32)) (8 : Int32))) (16 : Int32))))]) C0.hx C0.hb dJ6_bitCount_0f7a4_47 rfl hl (by decide) rfl (fun ls hl => ?_)
  refine lv_iload_n C0.hx C0.hb dJ6_bitCount_0f7a4_48 rfl (lv_at hl 0 rfl) ?_
  refine lv_bipush (v := (63 : Int32)) C0.hx C0.hb dJ6_bitCount_0f7a4_49 (by decide) ?_
  refine lv_iand C0.hx C0.hb dJ6_bitCount_0f7a4_51 ?_
  exact q_reti C0 hw hr hlocks dJ6_bitCount_0f7a4_52
abbrev rm_X8_isBetterSet : Room := { frames := 1, cells := 0, slots := 0, locals := 20 }
def f_X8_isBetterSet_b32 : Option Int32 :=
    some (1 : Int32)
def f_X8_isBetterSet (x0 : Int32) (x1 : Int32) : Option Int32 :=
    (if x1 = (-1 : Int32) then
      some (1 : Int32)
      else
      (some (f_J6_bitCount_0f7a4 x0)).bind fun v1 =>
      (some (f_J6_bitCount_0f7a4 x1)).bind fun v2 =>
      (if v1 < v2 then
      f_X8_isBetterSet_b32 
      else
      (if v1 = v2 then
      (if x1 ≤ x0 then
      some (0 : Int32)
      else
      f_X8_isBetterSet_b32 )
      else
      some (0 : Int32))))
set_option maxHeartbeats 4000000 in
set_option maxRecDepth 100000 in
theorem w_X8_isBetterSet_b32 {p : Program} {l : Launch} {e : Env} {s : State} {m : MethodId} {args : Array Value} {below : List Frame} {meth : Method} {c : Code} {b0 : Nat} {D : va_G} {cy : Nat → ClassId} {S : Mem} {q : Int32} (C0 : Cx p m c cX8_isBetterSet 4 s args RX8 D cy) (hr : meth.sig.returnType = some .boolean) (hlocks : meth.locks = false) : ∀  (H : Heap) (locs : List Loc) (ls : Array Slot), Wd b0 D cy S s.heap H locs → lv_has ls 4 [] → f_X8_isBetterSet_b32   = some q → W p l e rm_X8_isBetterSet s m args below meth c H locs 0 0 (MQ below (Qp b0 D cy (some (.int q)) S) args s 0 0 (fun q => b0 ≤ q)) (F0 m 32 ls []) := by
  intro  H locs ls hw hl h
  rw [f_X8_isBetterSet_b32] at h
  refine lv_iconst (v := (1 : Int32)) C0.hx C0.hb dX8_isBetterSet_32 (by decide) ?_
  refine lv_goto (tgt := 37) C0.hx C0.hb dX8_isBetterSet_33 (by decide) ?_
  obtain rfl := Option.some.inj h
  exact q_retz C0 hw (Or.inr rfl) hr hlocks dX8_isBetterSet_37
set_option maxHeartbeats 4000000 in
set_option maxRecDepth 100000 in
theorem m_X8_isBetterSet (l : Launch) (b0 : Nat) (D : va_G) (cy : Nat → ClassId) (S : Mem) (x0 : Int32) (x1 : Int32) {q : Int32} (h : f_X8_isBetterSet x0 x1 = some q) : Met l yX8_isBetterSet [.code yX8_isBetterSet cX8_isBetterSet 4 (some .boolean)] rm_X8_isBetterSet (Pr b0 D cy S [.int x0, .int x1]) (Qp b0 D cy (some (.int q)) S) 0 0 (fun q => b0 ≤ q) := by
  refine Met.ofW (cc := cX8_isBetterSet) (maxL := 4) (ret := some .boolean) (by decide) rfl ?_
  intro p e s m args below meth c s₁ B hml hv
  obtain ⟨rfl, hP, hK, hT⟩ := hv
  have C0 : Cx p m c cX8_isBetterSet 4 s (List.toArray [.int x0, .int x1]) RX8 D cy := ⟨⟨B.exec, B.bytes, hml, findClass_of_methodNamed B.named, fun w h => hT w h _⟩, hK, hT⟩
  have hr : meth.sig.returnType = some .boolean := B.returns
  have hlocks := B.notSynchronized
  have hw : Wd b0 D cy S s.heap s.heap [] := ⟨hP, va_S.rf⟩
  have hl := lv_entry ([.int x0, .int x1]) (n := 4) (Nat.le_of_ble_eq_true rfl)
  rw [lg_entry_eq]
  generalize (lg_sl ([.int x0, .int x1]) ++ List.replicate (4 - (lg_sl ([.int x0, .int x1])).length) Slot.unset).toArray = ls at hl ⊢
  have hl : lv_has ls 4 [(0, .int x0), (1, .int x1)] := hl
  rw [f_X8_isBetterSet] at h
  show W p l e rm_X8_isBetterSet s m _ below meth c s.heap [] 0 0 _ _
  refine lv_iload_n C0.hx C0.hb dX8_isBetterSet_0 rfl (lv_at hl 1 rfl) ?_
  refine lv_iconst (v := (-1 : Int32)) C0.hx C0.hb dX8_isBetterSet_1 (by decide) ?_
  refine lv_icmp_ne (tgt := 7) C0.hx C0.hb dX8_isBetterSet_2 (by decide) (fun hc => ?_) (fun hc => ?_)
  · have h := (if_neg hc).symm.trans h
    refine lv_iload_n C0.hx C0.hb dX8_isBetterSet_7 rfl (lv_at hl 0 rfl) ?_
    refine q_callS (n := 1) (av := [.int x0]) (rest := []) (st1 := [.int (f_J6_bitCount_0f7a4 x0)]) C0 hw (m_J6_bitCount_0f7a4 l b0 D cy S x0) (goodS kw_718 kw_719 kw_76 kw_720) ⟨rfl, rfl⟩ (by decide +kernel) ⟨(Nat.le_of_ble_eq_true rfl), (Nat.le_of_ble_eq_true rfl)⟩ rfl hl.1 rfl (Nat.le_of_ble_eq_true rfl) dX8_isBetterSet_8 ⟨Nat.zero_le _, Nat.zero_le _⟩ rfl (fun H locs hw => ?_)
    obtain ⟨v1, hv1, h⟩ := Option.bind_eq_some_iff.mp h
    refine q_nmI hv1 ?_
    refine lv_istore_n (lv' := [(2, .int v1), (0, .int x0), (1, .int x1)]) C0.hx C0.hb dX8_isBetterSet_11 rfl hl (by decide) rfl (fun ls hl => ?_)
    refine lv_iload_n C0.hx C0.hb dX8_isBetterSet_12 rfl (lv_at hl 2 rfl) ?_
    refine q_callS (n := 1) (av := [.int x1]) (rest := []) (st1 := [.int (f_J6_bitCount_0f7a4 x1)]) C0 hw (m_J6_bitCount_0f7a4 l b0 D cy S x1) (goodS kw_718 kw_719 kw_76 kw_720) ⟨rfl, rfl⟩ (by decide +kernel) ⟨(Nat.le_of_ble_eq_true rfl), (Nat.le_of_ble_eq_true rfl)⟩ rfl hl.1 rfl (Nat.le_of_ble_eq_true rfl) dX8_isBetterSet_13 ⟨Nat.zero_le _, Nat.zero_le _⟩ rfl (fun H locs hw => ?_)
    obtain ⟨v2, hv2, h⟩ := Option.bind_eq_some_iff.mp h
    refine q_nmI hv2 ?_
    refine lv_istore_n (lv' := [(3, .int v2), (2, .int v1), (0, .int x0), (1, .int x1)]) C0.hx C0.hb dX8_isBetterSet_16 rfl hl (by decide) rfl (fun ls hl => ?_)
    refine lv_iload_n C0.hx C0.hb dX8_isBetterSet_17 rfl (lv_at hl 1 rfl) ?_
    refine lv_iload_n C0.hx C0.hb dX8_isBetterSet_18 rfl (lv_at hl 0 rfl) ?_
    refine lv_icmp_lt (tgt := 32) C0.hx C0.hb dX8_isBetterSet_19 (by decide) (fun hc => ?_) (fun hc => ?_)
    · have h := (if_pos hc).symm.trans h
      exact w_X8_isBetterSet_b32 C0 hr hlocks  _ _ _ hw (lv_sub hl [] rfl) h
    · have h := (if_neg hc).symm.trans h
      refine lv_iload_n C0.hx C0.hb dX8_isBetterSet_22 rfl (lv_at hl 1 rfl) ?_
      refine lv_iload_n C0.hx C0.hb dX8_isBetterSet_23 rfl (lv_at hl 0 rfl) ?_
      refine lv_icmp_ne (tgt := 36) C0.hx C0.hb dX8_isBetterSet_24 (by decide) (fun hc => ?_) (fun hc => ?_)
      · have h := (if_neg hc).symm.trans h
        refine lv_iconst (v := (0 : Int32)) C0.hx C0.hb dX8_isBetterSet_36 (by decide) ?_
        obtain rfl := Option.some.inj h
        exact q_retz C0 hw (Or.inl rfl) hr hlocks dX8_isBetterSet_37
      · have h := (if_pos hc).symm.trans h
        refine lv_iload_n C0.hx C0.hb dX8_isBetterSet_27 rfl (lv_at hl 2 rfl) ?_
        refine lv_iload_n C0.hx C0.hb dX8_isBetterSet_28 rfl (lv_at hl 3 rfl) ?_
        refine lv_icmp_ge (tgt := 36) C0.hx C0.hb dX8_isBetterSet_29 (by decide) (fun hc => ?_) (fun hc => ?_)
        · have h := (if_pos hc).symm.trans h
          refine lv_iconst (v := (0 : Int32)) C0.hx C0.hb dX8_isBetterSet_36 (by decide) ?_
          obtain rfl := Option.some.inj h
          exact q_retz C0 hw (Or.inl rfl) hr hlocks dX8_isBetterSet_37
        · have h := (if_neg hc).symm.trans h
          exact w_X8_isBetterSet_b32 C0 hr hlocks  _ _ _ hw (lv_sub hl [] rfl) h
  · have h := (if_pos hc).symm.trans h
    refine lv_iconst (v := (1 : Int32)) C0.hx C0.hb dX8_isBetterSet_5 (by decide) ?_
    obtain rfl := Option.some.inj h
    exact q_retz C0 hw (Or.inr rfl) hr hlocks dX8_isBetterSet_6
abbrev rm_X8_carpets : Room := { frames := 6, cells := 0, slots := 0, locals := 143 }
def f_X8_carpets_b93 (k29 : Nat → Int32 → Int32 → Int32 → Int32 → Mem → Option (Int32 × Mem)) (a0 : Nat) (x1 : Int32) (x2 : Int32) (x3 : Int32) (x4 : Int32) (S : Mem) : Option (Int32 × Mem) :=
    (some (x4 + (1 : Int32))).bind fun v6 =>
      k29 a0 x1 x2 x3 v6 S
def f_X8_carpets_b29 : Nat → Nat → Int32 → Int32 → Int32 → Int32 → Mem → Option (Int32 × Mem)
  | 0, _, _, _, _, _, _ => none
  | n + 1, a0, x1, x2, x3, x4, S =>
    (gR 8 1 S a0).bind fun r3 =>
      (gI 2 2 S r3).bind fun v4 =>
      (if ((1 : Int32) <<< (v4 &&& 31)) ≤ x4 then
      some (x3, S)
      else
      (f_X8_isBetterSet x4 x3).bind fun v5 =>
      (if v5 = (0 : Int32) then
      f_X8_carpets_b93 (fun a0 x1 x2 x3 x4 S => f_X8_carpets_b29  n a0 x1 x2 x3 x4 S) a0 x1 x2 x3 x4 S
      else
      (gR 8 7 S a0).bind fun r7 =>
      (gR 8 2 S a0).bind fun r8 =>
      (gR 5 0 S r8).bind fun r9 =>
      (ck 4 S r7).bind fun c10 =>
      (f_X4_copyFrom r7 r9 S).bind fun S11 =>
      (gR 8 7 S11 a0).bind fun r12 =>
      (gI 4 5 S11 r12).bind fun v13 =>
      (pI 4 5 S11 r12 (v13 ^^^ x4)).bind fun S14 =>
      (ck 8 S14 a0).bind fun c15 =>
      (f_X8_hoursUntil a0 x1 x2 S14).bind fun q16 =>
      (if q16.1 = (-1 : Int32) then
      f_X8_carpets_b93 (fun a0 x1 x2 x3 x4 S => f_X8_carpets_b29  n a0 x1 x2 x3 x4 S) a0 x1 x2 x3 x4 q16.2
      else
      f_X8_carpets_b93 (fun a0 x1 x2 x3 x4 S => f_X8_carpets_b29  n a0 x1 x2 x3 x4 S) a0 x1 x2 x4 x4 q16.2)))
def f_X8_carpets (a0 : Nat) (x1 : Int32) (x2 : Int32) (S : Mem) : Option (Int32 × Mem) :=
    (ck 8 S a0).bind fun c1 =>
      (f_X8_isNoRoom a0 x1 S).bind fun v2 =>
      (if v2 = (0 : Int32) then
      (if x2 < (0 : Int32) then
      some ((-1000000002 : Int32), S)
      else
      (if x2 ≤ (20 : Int32) then
      f_X8_carpets_b29 FU a0 x1 x2 (-1 : Int32) (0 : Int32) S
      else
      some ((-1000000002 : Int32), S)))
      else
      some ((-1000000001 : Int32), S))
set_option maxHeartbeats 4000000 in
set_option maxRecDepth 100000 in
theorem w_X8_carpets_b93 {p : Program} {l : Launch} {e : Env} {s : State} {m : MethodId} {args : Array Value} {below : List Frame} {meth : Method} {c : Code} {b0 : Nat} {D : va_G} {cy : Nat → ClassId} {q : (Int32 × Mem)} (C0 : Cx p m c cX8_carpets 5 s args RX8 D cy) (hr : meth.sig.returnType = some .int) (hlocks : meth.locks = false) (k29 : Nat → Int32 → Int32 → Int32 → Int32 → Mem → Option (Int32 × Mem)) (hk29 : ∀ (a0 : Nat) (x1 : Int32) (x2 : Int32) (x3 : Int32) (x4 : Int32) (S : Mem) (H : Heap) (locs : List Loc) (ls : Array Slot), Wd b0 D cy S s.heap H locs → lv_has ls 5 [(0, .ref (b0 + a0)), (1, .int x1), (2, .int x2), (3, .int x3), (4, .int x4)] → k29 a0 x1 x2 x3 x4 S = some q → W p l e rm_X8_carpets s m args below meth c H locs 0 0 (MQ below (Qp b0 D cy (some (.int q.1)) q.2) args s 0 0 (fun q => b0 ≤ q)) (F0 m 29 ls [])) : ∀ (a0 : Nat) (x1 : Int32) (x2 : Int32) (x3 : Int32) (x4 : Int32) (S : Mem) (H : Heap) (locs : List Loc) (ls : Array Slot), Wd b0 D cy S s.heap H locs → lv_has ls 5 [(0, .ref (b0 + a0)), (1, .int x1), (2, .int x2), (3, .int x3), (4, .int x4)] → f_X8_carpets_b93 k29 a0 x1 x2 x3 x4 S = some q → W p l e rm_X8_carpets s m args below meth c H locs 0 0 (MQ below (Qp b0 D cy (some (.int q.1)) q.2) args s 0 0 (fun q => b0 ≤ q)) (F0 m 93 ls []) := by
  intro a0 x1 x2 x3 x4 S H locs ls hw hl h
  rw [f_X8_carpets_b93] at h
  obtain ⟨v6, hv6, h⟩ := Option.bind_eq_some_iff.mp h
  refine lv_iinc (v := v6) (lv' := [(4, .int v6), (0, .ref (b0 + a0)), (1, .int x1), (2, .int x2), (3, .int x3)]) C0.hx C0.hb dX8_carpets_93 hl (k := 4) rfl (by rw [← Option.some.inj hv6]; rfl) (by decide) rfl (fun ls hl => ?_)
  refine lv_goto (tgt := 29) C0.hx C0.hb dX8_carpets_96 (by decide) ?_
  exact hk29 a0 x1 x2 x3 v6 S _ _ _ hw (lv_sub hl [1, 2, 3, 4, 0] rfl) h
set_option maxHeartbeats 4000000 in
set_option maxRecDepth 100000 in
theorem w_X8_carpets_b29 {p : Program} {l : Launch} {e : Env} {s : State} {m : MethodId} {args : Array Value} {below : List Frame} {meth : Method} {c : Code} {b0 : Nat} {D : va_G} {cy : Nat → ClassId} {q : (Int32 × Mem)} (C0 : Cx p m c cX8_carpets 5 s args RX8 D cy) (hr : meth.sig.returnType = some .int) (hlocks : meth.locks = false) : ∀ (n : Nat) (a0 : Nat) (x1 : Int32) (x2 : Int32) (x3 : Int32) (x4 : Int32) (S : Mem) (H : Heap) (locs : List Loc) (ls : Array Slot), Wd b0 D cy S s.heap H locs → lv_has ls 5 [(0, .ref (b0 + a0)), (1, .int x1), (2, .int x2), (3, .int x3), (4, .int x4)] → f_X8_carpets_b29  n a0 x1 x2 x3 x4 S = some q → W p l e rm_X8_carpets s m args below meth c H locs 0 0 (MQ below (Qp b0 D cy (some (.int q.1)) q.2) args s 0 0 (fun q => b0 ≤ q)) (F0 m 29 ls []) := by
  intro n
  induction n with
  | zero => intro a0 x1 x2 x3 x4 S H locs ls hw hl h; exact absurd h (by simp [f_X8_carpets_b29])
  | succ n ih =>
    intro a0 x1 x2 x3 x4 S H locs ls hw hl h
    rw [f_X8_carpets_b29] at h
    refine lv_iload C0.hx C0.hb dX8_carpets_29 (lv_at hl 4 rfl) ?_
    refine lv_iconst (v := (1 : Int32)) C0.hx C0.hb dX8_carpets_31 (by decide) ?_
    refine lv_aload_n C0.hx C0.hb dX8_carpets_32 rfl (lv_at hl 0 rfl) ?_
    obtain ⟨r3, hr3, h⟩ := Option.bind_eq_some_iff.mp h
    refine q_getR C0 hw hr3 rfl in_8 (by decide) kw_351 dX8_carpets_33 ?_
    obtain ⟨v4, hv4, h⟩ := Option.bind_eq_some_iff.mp h
    refine q_getI C0 hw hv4 rfl in_2 (by decide) kw_105 dX8_carpets_36 ?_
    refine lv_ishl C0.hx C0.hb dX8_carpets_39 ?_
    refine lv_icmp_ge (tgt := 99) C0.hx C0.hb dX8_carpets_40 (by decide) (fun hc => ?_) (fun hc => ?_)
    · have h := (if_pos hc).symm.trans h
      refine lv_iload_n C0.hx C0.hb dX8_carpets_99 rfl (lv_at hl 3 rfl) ?_
      obtain rfl := Option.some.inj h
      exact q_reti C0 hw hr hlocks dX8_carpets_100
    · have h := (if_neg hc).symm.trans h
      refine lv_iload C0.hx C0.hb dX8_carpets_43 (lv_at hl 4 rfl) ?_
      refine lv_iload_n C0.hx C0.hb dX8_carpets_45 rfl (lv_at hl 3 rfl) ?_
      obtain ⟨v5, hv5, h⟩ := Option.bind_eq_some_iff.mp h
      refine q_callS (n := 2) (av := [.int x4, .int x3]) (rest := []) (st1 := [.int v5]) C0 hw (m_X8_isBetterSet l b0 D cy S x4 x3 hv5) (goodS kw_715 kw_716 kw_63 kw_717) ⟨rfl, rfl⟩ (by decide +kernel) ⟨(Nat.le_of_ble_eq_true rfl), (Nat.le_of_ble_eq_true rfl)⟩ rfl hl.1 rfl (Nat.le_of_ble_eq_true rfl) dX8_carpets_46 ⟨Nat.zero_le _, Nat.zero_le _⟩ rfl (fun H locs hw => ?_)
      refine lv_if_eq (tgt := 93) C0.hx C0.hb dX8_carpets_49 (by decide) (fun hc => ?_) (fun hc => ?_)
      · have h := (if_pos hc).symm.trans h
        exact w_X8_carpets_b93 C0 hr hlocks (fun a0 x1 x2 x3 x4 S => f_X8_carpets_b29  n a0 x1 x2 x3 x4 S) ih a0 x1 x2 x3 x4 S _ _ _ hw (lv_sub hl [0, 1, 2, 3, 4] rfl) h
      · have h := (if_neg hc).symm.trans h
        refine lv_aload_n C0.hx C0.hb dX8_carpets_52 rfl (lv_at hl 0 rfl) ?_
        obtain ⟨r7, hr7, h⟩ := Option.bind_eq_some_iff.mp h
        refine q_getR C0 hw hr7 rfl in_8 (by decide) kw_357 dX8_carpets_53 ?_
        refine lv_aload_n C0.hx C0.hb dX8_carpets_56 rfl (lv_at hl 0 rfl) ?_
        obtain ⟨r8, hr8, h⟩ := Option.bind_eq_some_iff.mp h
        refine q_getR C0 hw hr8 rfl in_8 (by decide) kw_352 dX8_carpets_57 ?_
        obtain ⟨r9, hr9, h⟩ := Option.bind_eq_some_iff.mp h
        refine q_getR C0 hw hr9 rfl in_5 (by decide) kw_259 dX8_carpets_60 ?_
        obtain ⟨c10, hc10, h⟩ := Option.bind_eq_some_iff.mp h
        obtain ⟨S11, hS11, h⟩ := Option.bind_eq_some_iff.mp h
        refine q_callV (n := 1) (av := [.ref (b0 + r9)]) (rest := []) (st1 := []) C0 hw (m_X4_copyFrom l b0 D cy S r7 r9 hS11) hc10 rfl (by decide) (goodV kw_687 kw_572 kw_573 kw_67 kw_574) ⟨rfl, rfl⟩ (by decide +kernel) ⟨(Nat.le_of_ble_eq_true rfl), (Nat.le_of_ble_eq_true rfl)⟩ rfl hl.1 rfl (Nat.le_of_ble_eq_true rfl) dX8_carpets_63 ⟨Nat.zero_le _, Nat.zero_le _⟩ rfl (fun H locs hw => ?_)
        refine lv_aload_n C0.hx C0.hb dX8_carpets_66 rfl (lv_at hl 0 rfl) ?_
        obtain ⟨r12, hr12, h⟩ := Option.bind_eq_some_iff.mp h
        refine q_getR C0 hw hr12 rfl in_8 (by decide) kw_357 dX8_carpets_67 ?_
        refine lv_dup C0.hx C0.hb dX8_carpets_70 rfl ?_
        obtain ⟨v13, hv13, h⟩ := Option.bind_eq_some_iff.mp h
        refine q_getI C0 hw hv13 rfl in_4 (by decide) kw_210 dX8_carpets_71 ?_
        refine lv_iload C0.hx C0.hb dX8_carpets_74 (lv_at hl 4 rfl) ?_
        refine lv_ixor C0.hx C0.hb dX8_carpets_76 ?_
        obtain ⟨S14, hS14, h⟩ := Option.bind_eq_some_iff.mp h
        refine q_putI C0 hw hS14 rfl in_4 tyX4_ok nmX4 ⟨by decide, by decide, rfl, rfl⟩ rfl kw_210 dX8_carpets_77 (fun H locs hw => ?_)
        refine lv_aload_n C0.hx C0.hb dX8_carpets_80 rfl (lv_at hl 0 rfl) ?_
        refine lv_iload_n C0.hx C0.hb dX8_carpets_81 rfl (lv_at hl 1 rfl) ?_
        refine lv_iload_n C0.hx C0.hb dX8_carpets_82 rfl (lv_at hl 2 rfl) ?_
        obtain ⟨c15, hc15, h⟩ := Option.bind_eq_some_iff.mp h
        obtain ⟨q16, hq16, h⟩ := Option.bind_eq_some_iff.mp h
        refine q_callV (n := 2) (av := [.int x1, .int x2]) (rest := []) (st1 := [.int q16.1]) C0 hw (m_X8_hoursUntil l b0 D cy S14 a0 x1 x2 hq16) hc15 rfl (by decide) (goodV kw_699 kw_701 kw_16 kw_63 kw_702) ⟨rfl, rfl⟩ (by decide +kernel) ⟨(Nat.le_of_ble_eq_true rfl), (Nat.le_of_ble_eq_true rfl)⟩ rfl hl.1 rfl (Nat.le_of_ble_eq_true rfl) dX8_carpets_83 ⟨Nat.zero_le _, Nat.zero_le _⟩ rfl (fun H locs hw => ?_)
        refine lv_iconst (v := (-1 : Int32)) C0.hx C0.hb dX8_carpets_86 (by decide) ?_
        refine lv_icmp_eq (tgt := 93) C0.hx C0.hb dX8_carpets_87 (by decide) (fun hc => ?_) (fun hc => ?_)
        · have h := (if_pos hc).symm.trans h
          exact w_X8_carpets_b93 C0 hr hlocks (fun a0 x1 x2 x3 x4 S => f_X8_carpets_b29  n a0 x1 x2 x3 x4 S) ih a0 x1 x2 x3 x4 q16.2 _ _ _ hw (lv_sub hl [0, 1, 2, 3, 4] rfl) h
        · have h := (if_neg hc).symm.trans h
          refine lv_iload C0.hx C0.hb dX8_carpets_90 (lv_at hl 4 rfl) ?_
          refine lv_istore_n (lv' := [(3, .int x4), (0, .ref (b0 + a0)), (1, .int x1), (2, .int x2), (4, .int x4)]) C0.hx C0.hb dX8_carpets_92 rfl hl (by decide) rfl (fun ls hl => ?_)
          exact w_X8_carpets_b93 C0 hr hlocks (fun a0 x1 x2 x3 x4 S => f_X8_carpets_b29  n a0 x1 x2 x3 x4 S) ih a0 x1 x2 x4 x4 q16.2 _ _ _ hw (lv_sub hl [1, 2, 3, 0, 4] rfl) h
set_option maxHeartbeats 4000000 in
set_option maxRecDepth 100000 in
theorem m_X8_carpets (l : Launch) (b0 : Nat) (D : va_G) (cy : Nat → ClassId) (S : Mem) (a0 : Nat) (x1 : Int32) (x2 : Int32) {q : (Int32 × Mem)} (h : f_X8_carpets a0 x1 x2 S = some q) : Met l yX8_carpets [.code yX8_carpets cX8_carpets 5 (some .int)] rm_X8_carpets (Pr b0 D cy S [.ref (b0 + a0), .int x1, .int x2]) (Qp b0 D cy (some (.int q.1)) q.2) 0 0 (fun q => b0 ≤ q) := by
  refine Met.ofW (cc := cX8_carpets) (maxL := 5) (ret := some .int) (by decide) rfl ?_
  intro p e s m args below meth c s₁ B hml hv
  obtain ⟨rfl, hP, hK, hT⟩ := hv
  have C0 : Cx p m c cX8_carpets 5 s (List.toArray [.ref (b0 + a0), .int x1, .int x2]) RX8 D cy := ⟨⟨B.exec, B.bytes, hml, findClass_of_methodNamed B.named, fun w h => hT w h _⟩, hK, hT⟩
  have hr : meth.sig.returnType = some .int := B.returns
  have hlocks := B.notSynchronized
  have hw : Wd b0 D cy S s.heap s.heap [] := ⟨hP, va_S.rf⟩
  have hl := lv_entry ([.ref (b0 + a0), .int x1, .int x2]) (n := 5) (Nat.le_of_ble_eq_true rfl)
  rw [lg_entry_eq]
  generalize (lg_sl ([.ref (b0 + a0), .int x1, .int x2]) ++ List.replicate (5 - (lg_sl ([.ref (b0 + a0), .int x1, .int x2])).length) Slot.unset).toArray = ls at hl ⊢
  have hl : lv_has ls 5 [(0, .ref (b0 + a0)), (1, .int x1), (2, .int x2)] := hl
  rw [f_X8_carpets] at h
  show W p l e rm_X8_carpets s m _ below meth c s.heap [] 0 0 _ _
  refine lv_aload_n C0.hx C0.hb dX8_carpets_0 rfl (lv_at hl 0 rfl) ?_
  refine lv_iload_n C0.hx C0.hb dX8_carpets_1 rfl (lv_at hl 1 rfl) ?_
  obtain ⟨c1, hc1, h⟩ := Option.bind_eq_some_iff.mp h
  obtain ⟨v2, hv2, h⟩ := Option.bind_eq_some_iff.mp h
  refine q_callV (n := 1) (av := [.int x1]) (rest := []) (st1 := [.int v2]) C0 hw (m_X8_isNoRoom l b0 D cy S a0 x1 hv2) hc1 rfl (by decide) (goodV kw_505 kw_507 kw_10 kw_63 kw_508) ⟨rfl, rfl⟩ (by decide +kernel) ⟨(Nat.le_of_ble_eq_true rfl), (Nat.le_of_ble_eq_true rfl)⟩ rfl hl.1 rfl (Nat.le_of_ble_eq_true rfl) dX8_carpets_2 ⟨Nat.zero_le _, Nat.zero_le _⟩ rfl (fun H locs hw => ?_)
  refine lv_if_eq (tgt := 11) C0.hx C0.hb dX8_carpets_5 (by decide) (fun hc => ?_) (fun hc => ?_)
  · have h := (if_pos hc).symm.trans h
    refine lv_iload_n C0.hx C0.hb dX8_carpets_11 rfl (lv_at hl 2 rfl) ?_
    refine lv_if_lt (tgt := 21) C0.hx C0.hb dX8_carpets_12 (by decide) (fun hc => ?_) (fun hc => ?_)
    · have h := (if_pos hc).symm.trans h
      refine lv_ldc C0.hx C0.hb C0.ho (C0.w kw_385) dX8_carpets_21 ?_
      obtain rfl := Option.some.inj h
      exact q_reti C0 hw hr hlocks dX8_carpets_23
    · have h := (if_neg hc).symm.trans h
      refine lv_iload_n C0.hx C0.hb dX8_carpets_15 rfl (lv_at hl 2 rfl) ?_
      refine lv_bipush (v := (20 : Int32)) C0.hx C0.hb dX8_carpets_16 (by decide) ?_
      refine lv_icmp_le (tgt := 24) C0.hx C0.hb dX8_carpets_18 (by decide) (fun hc => ?_) (fun hc => ?_)
      · have h := (if_pos hc).symm.trans h
        refine lv_iconst (v := (-1 : Int32)) C0.hx C0.hb dX8_carpets_24 (by decide) ?_
        refine lv_istore_n (lv' := [(3, .int (-1 : Int32)), (0, .ref (b0 + a0)), (1, .int x1), (2, .int x2)]) C0.hx C0.hb dX8_carpets_25 rfl hl (by decide) rfl (fun ls hl => ?_)
        refine lv_iconst (v := (0 : Int32)) C0.hx C0.hb dX8_carpets_26 (by decide) ?_
        refine lv_istore (lv' := [(4, .int (0 : Int32)), (3, .int (-1 : Int32)), (0, .ref (b0 + a0)), (1, .int x1), (2, .int x2)]) C0.hx C0.hb dX8_carpets_27 hl (by decide) rfl (fun ls hl => ?_)
        exact w_X8_carpets_b29 C0 hr hlocks FU a0 x1 x2 (-1 : Int32) (0 : Int32) S _ _ _ hw (lv_sub hl [2, 3, 4, 1, 0] rfl) h
      · have h := (if_neg hc).symm.trans h
        refine lv_ldc C0.hx C0.hb C0.ho (C0.w kw_385) dX8_carpets_21 ?_
        obtain rfl := Option.some.inj h
        exact q_reti C0 hw hr hlocks dX8_carpets_23
  · have h := (if_neg hc).symm.trans h
    refine lv_ldc C0.hx C0.hb C0.ho (C0.w kw_509) dX8_carpets_8 ?_
    obtain rfl := Option.some.inj h
    exact q_reti C0 hw hr hlocks dX8_carpets_10
abbrev rm_X8_doorsToPass : Room := { frames := 1, cells := 0, slots := 0, locals := 21 }
def f_X8_doorsToPass_b93 (S : Mem) (k30 : Nat → Int32 → Int32 → Int32 → Option Int32) (a0 : Nat) (x1 : Int32) (x2 : Int32) (x3 : Int32) : Option Int32 :=
    (some (x3 + (1 : Int32))).bind fun v19 =>
      k30 a0 x1 x2 v19
def f_X8_doorsToPass_b30 (S : Mem) : Nat → Nat → Int32 → Int32 → Int32 → Option Int32
  | 0, _, _, _, _ => none
  | n + 1, a0, x1, x2, x3 =>
    (gR 8 1 S a0).bind fun r8 =>
      (gI 2 3 S r8).bind fun v9 =>
      (if v9 ≤ x3 then
      some x2
      else
      (gR 8 1 S a0).bind fun r10 =>
      (gR 2 7 S r10).bind fun r11 =>
      (ldI S r11 x3).bind fun v12 =>
      (gR 8 1 S a0).bind fun r13 =>
      (gR 2 8 S r13).bind fun r14 =>
      (ldI S r14 x3).bind fun v15 =>
      (some (((1 : Int32) <<< (v12 &&& 31)) ||| ((1 : Int32) <<< (v15 &&& 31)))).bind fun v16 =>
      (gR 8 2 S a0).bind fun r17 =>
      (gI 5 3 S r17).bind fun v18 =>
      (if (f_X8_bit v18 x3) = (0 : Int32) then
      (if (v16 &&& x1) = (0 : Int32) then
      (some (x2 ||| ((1 : Int32) <<< (x3 &&& 31)))).bind fun v20 =>
      f_X8_doorsToPass_b93 S (fun a0 x1 x2 x3 => f_X8_doorsToPass_b30 S  n a0 x1 x2 x3) a0 x1 v20 x3
      else
      f_X8_doorsToPass_b93 S (fun a0 x1 x2 x3 => f_X8_doorsToPass_b30 S  n a0 x1 x2 x3) a0 x1 x2 x3)
      else
      f_X8_doorsToPass_b93 S (fun a0 x1 x2 x3 => f_X8_doorsToPass_b30 S  n a0 x1 x2 x3) a0 x1 x2 x3))
def f_X8_doorsToPass (a0 : Nat) (S : Mem) : Option Int32 :=
    (gR 8 2 S a0).bind fun r1 =>
      (gR 5 0 S r1).bind fun r2 =>
      (gI 4 6 S r2).bind fun v3 =>
      (gR 8 2 S a0).bind fun r4 =>
      (gR 5 0 S r4).bind fun r5 =>
      (gI 4 1 S r5).bind fun v6 =>
      (some (v3 &&& (((1 : Int32) <<< (v6 &&& 31)) ^^^ (-1 : Int32)))).bind fun v7 =>
      f_X8_doorsToPass_b30 S FU a0 v7 (0 : Int32) (0 : Int32)
set_option maxHeartbeats 4000000 in
set_option maxRecDepth 100000 in
theorem w_X8_doorsToPass_b93 {p : Program} {l : Launch} {e : Env} {s : State} {m : MethodId} {args : Array Value} {below : List Frame} {meth : Method} {c : Code} {b0 : Nat} {D : va_G} {cy : Nat → ClassId} {S : Mem} {q : Int32} (C0 : Cx p m c cX8_doorsToPass 5 s args RX8 D cy) (hr : meth.sig.returnType = some .int) (hlocks : meth.locks = false) (k30 : Nat → Int32 → Int32 → Int32 → Option Int32) (hk30 : ∀ (a0 : Nat) (x1 : Int32) (x2 : Int32) (x3 : Int32) (H : Heap) (locs : List Loc) (ls : Array Slot), Wd b0 D cy S s.heap H locs → lv_has ls 5 [(0, .ref (b0 + a0)), (1, .int x1), (2, .int x2), (3, .int x3)] → k30 a0 x1 x2 x3 = some q → W p l e rm_X8_doorsToPass s m args below meth c H locs 0 0 (MQ below (Qp b0 D cy (some (.int q)) S) args s 0 0 (fun q => b0 ≤ q)) (F0 m 30 ls [])) : ∀ (a0 : Nat) (x1 : Int32) (x2 : Int32) (x3 : Int32) (H : Heap) (locs : List Loc) (ls : Array Slot), Wd b0 D cy S s.heap H locs → lv_has ls 5 [(0, .ref (b0 + a0)), (1, .int x1), (2, .int x2), (3, .int x3)] → f_X8_doorsToPass_b93 S k30 a0 x1 x2 x3 = some q → W p l e rm_X8_doorsToPass s m args below meth c H locs 0 0 (MQ below (Qp b0 D cy (some (.int q)) S) args s 0 0 (fun q => b0 ≤ q)) (F0 m 93 ls []) := by
  intro a0 x1 x2 x3 H locs ls hw hl h
  rw [f_X8_doorsToPass_b93] at h
  obtain ⟨v19, hv19, h⟩ := Option.bind_eq_some_iff.mp h
  refine lv_iinc (v := v19) (lv' := [(3, .int v19), (0, .ref (b0 + a0)), (1, .int x1), (2, .int x2)]) C0.hx C0.hb dX8_doorsToPass_93 hl (k := 3) rfl (by rw [← Option.some.inj hv19]; rfl) (by decide) rfl (fun ls hl => ?_)
  refine lv_goto (tgt := 30) C0.hx C0.hb dX8_doorsToPass_96 (by decide) ?_
  exact hk30 a0 x1 x2 v19 _ _ _ hw (lv_sub hl [1, 2, 3, 0] rfl) h
set_option maxHeartbeats 4000000 in
set_option maxRecDepth 100000 in
theorem w_X8_doorsToPass_b30 {p : Program} {l : Launch} {e : Env} {s : State} {m : MethodId} {args : Array Value} {below : List Frame} {meth : Method} {c : Code} {b0 : Nat} {D : va_G} {cy : Nat → ClassId} {S : Mem} {q : Int32} (C0 : Cx p m c cX8_doorsToPass 5 s args RX8 D cy) (hr : meth.sig.returnType = some .int) (hlocks : meth.locks = false) : ∀ (n : Nat) (a0 : Nat) (x1 : Int32) (x2 : Int32) (x3 : Int32) (H : Heap) (locs : List Loc) (ls : Array Slot), Wd b0 D cy S s.heap H locs → lv_has ls 5 [(0, .ref (b0 + a0)), (1, .int x1), (2, .int x2), (3, .int x3)] → f_X8_doorsToPass_b30 S  n a0 x1 x2 x3 = some q → W p l e rm_X8_doorsToPass s m args below meth c H locs 0 0 (MQ below (Qp b0 D cy (some (.int q)) S) args s 0 0 (fun q => b0 ≤ q)) (F0 m 30 ls []) := by
  intro n
  induction n with
  | zero => intro a0 x1 x2 x3 H locs ls hw hl h; exact absurd h (by simp [f_X8_doorsToPass_b30])
  | succ n ih =>
    intro a0 x1 x2 x3 H locs ls hw hl h
    rw [f_X8_doorsToPass_b30] at h
    refine lv_iload_n C0.hx C0.hb dX8_doorsToPass_30 rfl (lv_at hl 3 rfl) ?_
    refine lv_aload_n C0.hx C0.hb dX8_doorsToPass_31 rfl (lv_at hl 0 rfl) ?_
    obtain ⟨r8, hr8, h⟩ := Option.bind_eq_some_iff.mp h
    refine q_getR C0 hw hr8 rfl in_8 (by decide) kw_351 dX8_doorsToPass_32 ?_
    obtain ⟨v9, hv9, h⟩ := Option.bind_eq_some_iff.mp h
    refine q_getI C0 hw hv9 rfl in_2 (by decide) kw_109 dX8_doorsToPass_35 ?_
    refine lv_icmp_ge (tgt := 99) C0.hx C0.hb dX8_doorsToPass_38 (by decide) (fun hc => ?_) (fun hc => ?_)
    · have h := (if_pos hc).symm.trans h
      refine lv_iload_n C0.hx C0.hb dX8_doorsToPass_99 rfl (lv_at hl 2 rfl) ?_
      obtain rfl := Option.some.inj h
      exact q_reti C0 hw hr hlocks dX8_doorsToPass_100
    · have h := (if_neg hc).symm.trans h
      refine lv_iconst (v := (1 : Int32)) C0.hx C0.hb dX8_doorsToPass_41 (by decide) ?_
      refine lv_aload_n C0.hx C0.hb dX8_doorsToPass_42 rfl (lv_at hl 0 rfl) ?_
      obtain ⟨r10, hr10, h⟩ := Option.bind_eq_some_iff.mp h
      refine q_getR C0 hw hr10 rfl in_8 (by decide) kw_351 dX8_doorsToPass_43 ?_
      obtain ⟨r11, hr11, h⟩ := Option.bind_eq_some_iff.mp h
      refine q_getR C0 hw hr11 rfl in_2 (by decide) kw_121 dX8_doorsToPass_46 ?_
      refine lv_iload_n C0.hx C0.hb dX8_doorsToPass_49 rfl (lv_at hl 3 rfl) ?_
      obtain ⟨v12, hv12, h⟩ := Option.bind_eq_some_iff.mp h
      refine q_ldI C0 hw hv12 dX8_doorsToPass_50 ?_
      refine lv_ishl C0.hx C0.hb dX8_doorsToPass_51 ?_
      refine lv_iconst (v := (1 : Int32)) C0.hx C0.hb dX8_doorsToPass_52 (by decide) ?_
      refine lv_aload_n C0.hx C0.hb dX8_doorsToPass_53 rfl (lv_at hl 0 rfl) ?_
      obtain ⟨r13, hr13, h⟩ := Option.bind_eq_some_iff.mp h
      refine q_getR C0 hw hr13 rfl in_8 (by decide) kw_351 dX8_doorsToPass_54 ?_
      obtain ⟨r14, hr14, h⟩ := Option.bind_eq_some_iff.mp h
      refine q_getR C0 hw hr14 rfl in_2 (by decide) kw_124 dX8_doorsToPass_57 ?_
      refine lv_iload_n C0.hx C0.hb dX8_doorsToPass_60 rfl (lv_at hl 3 rfl) ?_
      obtain ⟨v15, hv15, h⟩ := Option.bind_eq_some_iff.mp h
      refine q_ldI C0 hw hv15 dX8_doorsToPass_61 ?_
      refine lv_ishl C0.hx C0.hb dX8_doorsToPass_62 ?_
      refine lv_ior C0.hx C0.hb dX8_doorsToPass_63 ?_
      obtain ⟨v16, hv16, h⟩ := Option.bind_eq_some_iff.mp h
      refine q_nmI hv16 ?_
      refine lv_istore (lv' := [(4, .int v16), (0, .ref (b0 + a0)), (1, .int x1), (2, .int x2), (3, .int x3)]) C0.hx C0.hb dX8_doorsToPass_64 hl (by decide) rfl (fun ls hl => ?_)
      refine lv_aload_n C0.hx C0.hb dX8_doorsToPass_66 rfl (lv_at hl 1 rfl) ?_
      obtain ⟨r17, hr17, h⟩ := Option.bind_eq_some_iff.mp h
      refine q_getR C0 hw hr17 rfl in_8 (by decide) kw_352 dX8_doorsToPass_67 ?_
      obtain ⟨v18, hv18, h⟩ := Option.bind_eq_some_iff.mp h
      refine q_getI C0 hw hv18 rfl in_5 (by decide) kw_265 dX8_doorsToPass_70 ?_
      refine lv_iload_n C0.hx C0.hb dX8_doorsToPass_73 rfl (lv_at hl 4 rfl) ?_
      refine q_callS (n := 2) (av := [.int v18, .int x3]) (rest := []) (st1 := [.int (f_X8_bit v18 x3)]) C0 hw (m_X8_bit l b0 D cy S v18 x3) (goodS kw_537 kw_529 kw_63 kw_530) ⟨rfl, rfl⟩ (by decide +kernel) ⟨(Nat.le_of_ble_eq_true rfl), (Nat.le_of_ble_eq_true rfl)⟩ rfl hl.1 rfl (Nat.le_of_ble_eq_true rfl) dX8_doorsToPass_74 ⟨Nat.zero_le _, Nat.zero_le _⟩ rfl (fun H locs hw => ?_)
      refine lv_if_ne (tgt := 93) C0.hx C0.hb dX8_doorsToPass_77 (by decide) (fun hc => ?_) (fun hc => ?_)
      · have h := (if_neg hc).symm.trans h
        exact w_X8_doorsToPass_b93 C0 hr hlocks (fun a0 x1 x2 x3 => f_X8_doorsToPass_b30 S  n a0 x1 x2 x3) ih a0 x1 x2 x3 _ _ _ hw (lv_sub hl [1, 2, 3, 4] rfl) h
      · have h := (if_pos hc).symm.trans h
        refine lv_iload C0.hx C0.hb dX8_doorsToPass_80 (lv_at hl 0 rfl) ?_
        refine lv_iload_n C0.hx C0.hb dX8_doorsToPass_82 rfl (lv_at hl 2 rfl) ?_
        refine lv_iand C0.hx C0.hb dX8_doorsToPass_83 ?_
        refine lv_if_ne (tgt := 93) C0.hx C0.hb dX8_doorsToPass_84 (by decide) (fun hc => ?_) (fun hc => ?_)
        · have h := (if_neg hc).symm.trans h
          exact w_X8_doorsToPass_b93 C0 hr hlocks (fun a0 x1 x2 x3 => f_X8_doorsToPass_b30 S  n a0 x1 x2 x3) ih a0 x1 x2 x3 _ _ _ hw (lv_sub hl [1, 2, 3, 4] rfl) h
        · have h := (if_pos hc).symm.trans h
          refine lv_iload_n C0.hx C0.hb dX8_doorsToPass_87 rfl (lv_at hl 3 rfl) ?_
          refine lv_iconst (v := (1 : Int32)) C0.hx C0.hb dX8_doorsToPass_88 (by decide) ?_
          refine lv_iload_n C0.hx C0.hb dX8_doorsToPass_89 rfl (lv_at hl 4 rfl) ?_
          refine lv_ishl C0.hx C0.hb dX8_doorsToPass_90 ?_
          refine lv_ior C0.hx C0.hb dX8_doorsToPass_91 ?_
          obtain ⟨v20, hv20, h⟩ := Option.bind_eq_some_iff.mp h
          refine q_nmI hv20 ?_
          refine lv_istore_n (lv' := [(2, .int v20), (4, .int v16), (0, .ref (b0 + a0)), (1, .int x1), (3, .int x3)]) C0.hx C0.hb dX8_doorsToPass_92 rfl hl (by decide) rfl (fun ls hl => ?_)
          exact w_X8_doorsToPass_b93 C0 hr hlocks (fun a0 x1 x2 x3 => f_X8_doorsToPass_b30 S  n a0 x1 x2 x3) ih a0 x1 v20 x3 _ _ _ hw (lv_sub hl [2, 3, 0, 4] rfl) h
set_option maxHeartbeats 4000000 in
set_option maxRecDepth 100000 in
theorem m_X8_doorsToPass (l : Launch) (b0 : Nat) (D : va_G) (cy : Nat → ClassId) (S : Mem) (a0 : Nat) {q : Int32} (h : f_X8_doorsToPass a0 S = some q) : Met l yX8_doorsToPass [.code yX8_doorsToPass cX8_doorsToPass 5 (some .int)] rm_X8_doorsToPass (Pr b0 D cy S [.ref (b0 + a0)]) (Qp b0 D cy (some (.int q)) S) 0 0 (fun q => b0 ≤ q) := by
  refine Met.ofW (cc := cX8_doorsToPass) (maxL := 5) (ret := some .int) (by decide) rfl ?_
  intro p e s m args below meth c s₁ B hml hv
  obtain ⟨rfl, hP, hK, hT⟩ := hv
  have C0 : Cx p m c cX8_doorsToPass 5 s (List.toArray [.ref (b0 + a0)]) RX8 D cy := ⟨⟨B.exec, B.bytes, hml, findClass_of_methodNamed B.named, fun w h => hT w h _⟩, hK, hT⟩
  have hr : meth.sig.returnType = some .int := B.returns
  have hlocks := B.notSynchronized
  have hw : Wd b0 D cy S s.heap s.heap [] := ⟨hP, va_S.rf⟩
  have hl := lv_entry ([.ref (b0 + a0)]) (n := 5) (Nat.le_of_ble_eq_true rfl)
  rw [lg_entry_eq]
  generalize (lg_sl ([.ref (b0 + a0)]) ++ List.replicate (5 - (lg_sl ([.ref (b0 + a0)])).length) Slot.unset).toArray = ls at hl ⊢
  have hl : lv_has ls 5 [(0, .ref (b0 + a0))] := hl
  rw [f_X8_doorsToPass] at h
  show W p l e rm_X8_doorsToPass s m _ below meth c s.heap [] 0 0 _ _
  refine lv_aload_n C0.hx C0.hb dX8_doorsToPass_0 rfl (lv_at hl 0 rfl) ?_
  obtain ⟨r1, hr1, h⟩ := Option.bind_eq_some_iff.mp h
  refine q_getR C0 hw hr1 rfl in_8 (by decide) kw_352 dX8_doorsToPass_1 ?_
  obtain ⟨r2, hr2, h⟩ := Option.bind_eq_some_iff.mp h
  refine q_getR C0 hw hr2 rfl in_5 (by decide) kw_259 dX8_doorsToPass_4 ?_
  obtain ⟨v3, hv3, h⟩ := Option.bind_eq_some_iff.mp h
  refine q_getI C0 hw hv3 rfl in_4 (by decide) kw_212 dX8_doorsToPass_7 ?_
  refine lv_iconst (v := (1 : Int32)) C0.hx C0.hb dX8_doorsToPass_10 (by decide) ?_
  refine lv_aload_n C0.hx C0.hb dX8_doorsToPass_11 rfl (lv_at hl 0 rfl) ?_
  obtain ⟨r4, hr4, h⟩ := Option.bind_eq_some_iff.mp h
  refine q_getR C0 hw hr4 rfl in_8 (by decide) kw_352 dX8_doorsToPass_12 ?_
  obtain ⟨r5, hr5, h⟩ := Option.bind_eq_some_iff.mp h
  refine q_getR C0 hw hr5 rfl in_5 (by decide) kw_259 dX8_doorsToPass_15 ?_
  obtain ⟨v6, hv6, h⟩ := Option.bind_eq_some_iff.mp h
  refine q_getI C0 hw hv6 rfl in_4 (by decide) kw_200 dX8_doorsToPass_18 ?_
  refine lv_ishl C0.hx C0.hb dX8_doorsToPass_21 ?_
  refine lv_iconst (v := (-1 : Int32)) C0.hx C0.hb dX8_doorsToPass_22 (by decide) ?_
  refine lv_ixor C0.hx C0.hb dX8_doorsToPass_23 ?_
  refine lv_iand C0.hx C0.hb dX8_doorsToPass_24 ?_
  obtain ⟨v7, hv7, h⟩ := Option.bind_eq_some_iff.mp h
  refine q_nmI hv7 ?_
  refine lv_istore_n (lv' := [(1, .int v7), (0, .ref (b0 + a0))]) C0.hx C0.hb dX8_doorsToPass_25 rfl hl (by decide) rfl (fun ls hl => ?_)
  refine lv_iconst (v := (0 : Int32)) C0.hx C0.hb dX8_doorsToPass_26 (by decide) ?_
  refine lv_istore_n (lv' := [(2, .int (0 : Int32)), (1, .int v7), (0, .ref (b0 + a0))]) C0.hx C0.hb dX8_doorsToPass_27 rfl hl (by decide) rfl (fun ls hl => ?_)
  refine lv_iconst (v := (0 : Int32)) C0.hx C0.hb dX8_doorsToPass_28 (by decide) ?_
  refine lv_istore_n (lv' := [(3, .int (0 : Int32)), (2, .int (0 : Int32)), (1, .int v7), (0, .ref (b0 + a0))]) C0.hx C0.hb dX8_doorsToPass_29 rfl hl (by decide) rfl (fun ls hl => ?_)
  exact w_X8_doorsToPass_b30 C0 hr hlocks FU a0 v7 (0 : Int32) (0 : Int32) _ _ _ hw (lv_sub hl [3, 2, 1, 0] rfl) h
abbrev rm_X8_bricks : Room := { frames := 2, cells := 0, slots := 0, locals := 45 }
def f_X8_bricks_b100 (S : Mem) (k40 : Nat → Int32 → Int32 → Int32 → Int32 → Int32 → Option Int32) (a0 : Nat) (x1 : Int32) (x2 : Int32) (x3 : Int32) (x4 : Int32) (x5 : Int32) : Option Int32 :=
    (some (x5 + (1 : Int32))).bind fun v10 =>
      k40 a0 x1 x2 x3 x4 v10
def f_X8_bricks_b40 (S : Mem) : Nat → Nat → Int32 → Int32 → Int32 → Int32 → Int32 → Option Int32
  | 0, _, _, _, _, _, _ => none
  | n + 1, a0, x1, x2, x3, x4, x5 =>
    (gR 8 1 S a0).bind fun r8 =>
      (gI 2 2 S r8).bind fun v9 =>
      (if ((1 : Int32) <<< (v9 &&& 31)) ≤ x5 then
      some x4
      else
      (if (f_X8_bit x5 x2) = (1 : Int32) then
      (if (f_X8_bit x5 x1) = (0 : Int32) then
      (gR 8 1 S a0).bind fun r11 =>
      (ck 2 S r11).bind fun c12 =>
      (f_X2_doorsBetween r11 x5 S).bind fun v13 =>
      (some (v13 &&& x3)).bind fun v14 =>
      (f_X8_isBetterSet v14 x4).bind fun v15 =>
      (if v15 = (0 : Int32) then
      f_X8_bricks_b100 S (fun a0 x1 x2 x3 x4 x5 => f_X8_bricks_b40 S  n a0 x1 x2 x3 x4 x5) a0 x1 x2 x3 x4 x5
      else
      f_X8_bricks_b100 S (fun a0 x1 x2 x3 x4 x5 => f_X8_bricks_b40 S  n a0 x1 x2 x3 x4 x5) a0 x1 x2 x3 v14 x5)
      else
      f_X8_bricks_b100 S (fun a0 x1 x2 x3 x4 x5 => f_X8_bricks_b40 S  n a0 x1 x2 x3 x4 x5) a0 x1 x2 x3 x4 x5)
      else
      f_X8_bricks_b100 S (fun a0 x1 x2 x3 x4 x5 => f_X8_bricks_b40 S  n a0 x1 x2 x3 x4 x5) a0 x1 x2 x3 x4 x5))
def f_X8_bricks (a0 : Nat) (x1 : Int32) (S : Mem) : Option Int32 :=
    (ck 8 S a0).bind fun c1 =>
      (f_X8_isNoRoom a0 x1 S).bind fun v2 =>
      (if v2 = (0 : Int32) then
      (gR 8 2 S a0).bind fun r3 =>
      (gR 5 0 S r3).bind fun r4 =>
      (gI 4 1 S r4).bind fun v5 =>
      (if x1 = v5 then
      some (-1 : Int32)
      else
      (ck 8 S a0).bind fun c6 =>
      (f_X8_doorsToPass a0 S).bind fun v7 =>
      f_X8_bricks_b40 S FU a0 x1 v5 v7 (-1 : Int32) (0 : Int32))
      else
      some (-1000000001 : Int32))
set_option maxHeartbeats 4000000 in
set_option maxRecDepth 100000 in
theorem w_X8_bricks_b100 {p : Program} {l : Launch} {e : Env} {s : State} {m : MethodId} {args : Array Value} {below : List Frame} {meth : Method} {c : Code} {b0 : Nat} {D : va_G} {cy : Nat → ClassId} {S : Mem} {q : Int32} (C0 : Cx p m c cX8_bricks 7 s args RX8 D cy) (hr : meth.sig.returnType = some .int) (hlocks : meth.locks = false) (k40 : Nat → Int32 → Int32 → Int32 → Int32 → Int32 → Option Int32) (hk40 : ∀ (a0 : Nat) (x1 : Int32) (x2 : Int32) (x3 : Int32) (x4 : Int32) (x5 : Int32) (H : Heap) (locs : List Loc) (ls : Array Slot), Wd b0 D cy S s.heap H locs → lv_has ls 7 [(0, .ref (b0 + a0)), (1, .int x1), (2, .int x2), (3, .int x3), (4, .int x4), (5, .int x5)] → k40 a0 x1 x2 x3 x4 x5 = some q → W p l e rm_X8_bricks s m args below meth c H locs 0 0 (MQ below (Qp b0 D cy (some (.int q)) S) args s 0 0 (fun q => b0 ≤ q)) (F0 m 40 ls [])) : ∀ (a0 : Nat) (x1 : Int32) (x2 : Int32) (x3 : Int32) (x4 : Int32) (x5 : Int32) (H : Heap) (locs : List Loc) (ls : Array Slot), Wd b0 D cy S s.heap H locs → lv_has ls 7 [(0, .ref (b0 + a0)), (1, .int x1), (2, .int x2), (3, .int x3), (4, .int x4), (5, .int x5)] → f_X8_bricks_b100 S k40 a0 x1 x2 x3 x4 x5 = some q → W p l e rm_X8_bricks s m args below meth c H locs 0 0 (MQ below (Qp b0 D cy (some (.int q)) S) args s 0 0 (fun q => b0 ≤ q)) (F0 m 100 ls []) := by
  intro a0 x1 x2 x3 x4 x5 H locs ls hw hl h
  rw [f_X8_bricks_b100] at h
  obtain ⟨v10, hv10, h⟩ := Option.bind_eq_some_iff.mp h
  refine lv_iinc (v := v10) (lv' := [(5, .int v10), (0, .ref (b0 + a0)), (1, .int x1), (2, .int x2), (3, .int x3), (4, .int x4)]) C0.hx C0.hb dX8_bricks_100 hl (k := 5) rfl (by rw [← Option.some.inj hv10]; rfl) (by decide) rfl (fun ls hl => ?_)
  refine lv_goto (tgt := 40) C0.hx C0.hb dX8_bricks_103 (by decide) ?_
  exact hk40 a0 x1 x2 x3 x4 v10 _ _ _ hw (lv_sub hl [1, 2, 3, 4, 5, 0] rfl) h
set_option maxHeartbeats 4000000 in
set_option maxRecDepth 100000 in
theorem w_X8_bricks_b40 {p : Program} {l : Launch} {e : Env} {s : State} {m : MethodId} {args : Array Value} {below : List Frame} {meth : Method} {c : Code} {b0 : Nat} {D : va_G} {cy : Nat → ClassId} {S : Mem} {q : Int32} (C0 : Cx p m c cX8_bricks 7 s args RX8 D cy) (hr : meth.sig.returnType = some .int) (hlocks : meth.locks = false) : ∀ (n : Nat) (a0 : Nat) (x1 : Int32) (x2 : Int32) (x3 : Int32) (x4 : Int32) (x5 : Int32) (H : Heap) (locs : List Loc) (ls : Array Slot), Wd b0 D cy S s.heap H locs → lv_has ls 7 [(0, .ref (b0 + a0)), (1, .int x1), (2, .int x2), (3, .int x3), (4, .int x4), (5, .int x5)] → f_X8_bricks_b40 S  n a0 x1 x2 x3 x4 x5 = some q → W p l e rm_X8_bricks s m args below meth c H locs 0 0 (MQ below (Qp b0 D cy (some (.int q)) S) args s 0 0 (fun q => b0 ≤ q)) (F0 m 40 ls []) := by
  intro n
  induction n with
  | zero => intro a0 x1 x2 x3 x4 x5 H locs ls hw hl h; exact absurd h (by simp [f_X8_bricks_b40])
  | succ n ih =>
    intro a0 x1 x2 x3 x4 x5 H locs ls hw hl h
    rw [f_X8_bricks_b40] at h
    refine lv_iload C0.hx C0.hb dX8_bricks_40 (lv_at hl 5 rfl) ?_
    refine lv_iconst (v := (1 : Int32)) C0.hx C0.hb dX8_bricks_42 (by decide) ?_
    refine lv_aload_n C0.hx C0.hb dX8_bricks_43 rfl (lv_at hl 0 rfl) ?_
    obtain ⟨r8, hr8, h⟩ := Option.bind_eq_some_iff.mp h
    refine q_getR C0 hw hr8 rfl in_8 (by decide) kw_351 dX8_bricks_44 ?_
    obtain ⟨v9, hv9, h⟩ := Option.bind_eq_some_iff.mp h
    refine q_getI C0 hw hv9 rfl in_2 (by decide) kw_105 dX8_bricks_47 ?_
    refine lv_ishl C0.hx C0.hb dX8_bricks_50 ?_
    refine lv_icmp_ge (tgt := 106) C0.hx C0.hb dX8_bricks_51 (by decide) (fun hc => ?_) (fun hc => ?_)
    · have h := (if_pos hc).symm.trans h
      refine lv_iload C0.hx C0.hb dX8_bricks_106 (lv_at hl 4 rfl) ?_
      obtain rfl := Option.some.inj h
      exact q_reti C0 hw hr hlocks dX8_bricks_108
    · have h := (if_neg hc).symm.trans h
      refine lv_iload C0.hx C0.hb dX8_bricks_54 (lv_at hl 5 rfl) ?_
      refine lv_iload_n C0.hx C0.hb dX8_bricks_56 rfl (lv_at hl 2 rfl) ?_
      refine q_callS (n := 2) (av := [.int x5, .int x2]) (rest := []) (st1 := [.int (f_X8_bit x5 x2)]) C0 hw (m_X8_bit l b0 D cy S x5 x2) (goodS kw_537 kw_529 kw_63 kw_530) ⟨rfl, rfl⟩ (by decide +kernel) ⟨(Nat.le_of_ble_eq_true rfl), (Nat.le_of_ble_eq_true rfl)⟩ rfl hl.1 rfl (Nat.le_of_ble_eq_true rfl) dX8_bricks_57 ⟨Nat.zero_le _, Nat.zero_le _⟩ rfl (fun H locs hw => ?_)
      refine lv_iconst (v := (1 : Int32)) C0.hx C0.hb dX8_bricks_60 (by decide) ?_
      refine lv_icmp_ne (tgt := 100) C0.hx C0.hb dX8_bricks_61 (by decide) (fun hc => ?_) (fun hc => ?_)
      · have h := (if_neg hc).symm.trans h
        exact w_X8_bricks_b100 C0 hr hlocks (fun a0 x1 x2 x3 x4 x5 => f_X8_bricks_b40 S  n a0 x1 x2 x3 x4 x5) ih a0 x1 x2 x3 x4 x5 _ _ _ hw (lv_sub hl [0, 1, 2, 3, 4, 5] rfl) h
      · have h := (if_pos hc).symm.trans h
        refine lv_iload C0.hx C0.hb dX8_bricks_64 (lv_at hl 5 rfl) ?_
        refine lv_iload_n C0.hx C0.hb dX8_bricks_66 rfl (lv_at hl 1 rfl) ?_
        refine q_callS (n := 2) (av := [.int x5, .int x1]) (rest := []) (st1 := [.int (f_X8_bit x5 x1)]) C0 hw (m_X8_bit l b0 D cy S x5 x1) (goodS kw_537 kw_529 kw_63 kw_530) ⟨rfl, rfl⟩ (by decide +kernel) ⟨(Nat.le_of_ble_eq_true rfl), (Nat.le_of_ble_eq_true rfl)⟩ rfl hl.1 rfl (Nat.le_of_ble_eq_true rfl) dX8_bricks_67 ⟨Nat.zero_le _, Nat.zero_le _⟩ rfl (fun H locs hw => ?_)
        refine lv_if_ne (tgt := 100) C0.hx C0.hb dX8_bricks_70 (by decide) (fun hc => ?_) (fun hc => ?_)
        · have h := (if_neg hc).symm.trans h
          exact w_X8_bricks_b100 C0 hr hlocks (fun a0 x1 x2 x3 x4 x5 => f_X8_bricks_b40 S  n a0 x1 x2 x3 x4 x5) ih a0 x1 x2 x3 x4 x5 _ _ _ hw (lv_sub hl [0, 1, 2, 3, 4, 5] rfl) h
        · have h := (if_pos hc).symm.trans h
          refine lv_aload_n C0.hx C0.hb dX8_bricks_73 rfl (lv_at hl 0 rfl) ?_
          obtain ⟨r11, hr11, h⟩ := Option.bind_eq_some_iff.mp h
          refine q_getR C0 hw hr11 rfl in_8 (by decide) kw_351 dX8_bricks_74 ?_
          refine lv_iload C0.hx C0.hb dX8_bricks_77 (lv_at hl 5 rfl) ?_
          obtain ⟨c12, hc12, h⟩ := Option.bind_eq_some_iff.mp h
          obtain ⟨v13, hv13, h⟩ := Option.bind_eq_some_iff.mp h
          refine q_callV (n := 1) (av := [.int x5]) (rest := []) (st1 := [.int v13]) C0 hw (m_X2_doorsBetween l b0 D cy S r11 x5 hv13) hc12 rfl (by decide) (goodV kw_732 kw_733 kw_734 kw_65 kw_735) ⟨rfl, rfl⟩ (by decide +kernel) ⟨(Nat.le_of_ble_eq_true rfl), (Nat.le_of_ble_eq_true rfl)⟩ rfl hl.1 rfl (Nat.le_of_ble_eq_true rfl) dX8_bricks_79 ⟨Nat.zero_le _, Nat.zero_le _⟩ rfl (fun H locs hw => ?_)
          refine lv_iload_n C0.hx C0.hb dX8_bricks_82 rfl (lv_at hl 3 rfl) ?_
          refine lv_iand C0.hx C0.hb dX8_bricks_83 ?_
          obtain ⟨v14, hv14, h⟩ := Option.bind_eq_some_iff.mp h
          refine q_nmI hv14 ?_
          refine lv_istore (lv' := [(6, .int v14), (0, .ref (b0 + a0)), (1, .int x1), (2, .int x2), (3, .int x3), (4, .int x4), (5, .int x5)]) C0.hx C0.hb dX8_bricks_84 hl (by decide) rfl (fun ls hl => ?_)
          refine lv_iload C0.hx C0.hb dX8_bricks_86 (lv_at hl 0 rfl) ?_
          refine lv_iload C0.hx C0.hb dX8_bricks_88 (lv_at hl 5 rfl) ?_
          obtain ⟨v15, hv15, h⟩ := Option.bind_eq_some_iff.mp h
          refine q_callS (n := 2) (av := [.int v14, .int x4]) (rest := []) (st1 := [.int v15]) C0 hw (m_X8_isBetterSet l b0 D cy S v14 x4 hv15) (goodS kw_715 kw_716 kw_63 kw_717) ⟨rfl, rfl⟩ (by decide +kernel) ⟨(Nat.le_of_ble_eq_true rfl), (Nat.le_of_ble_eq_true rfl)⟩ rfl hl.1 rfl (Nat.le_of_ble_eq_true rfl) dX8_bricks_90 ⟨Nat.zero_le _, Nat.zero_le _⟩ rfl (fun H locs hw => ?_)
          refine lv_if_eq (tgt := 100) C0.hx C0.hb dX8_bricks_93 (by decide) (fun hc => ?_) (fun hc => ?_)
          · have h := (if_pos hc).symm.trans h
            exact w_X8_bricks_b100 C0 hr hlocks (fun a0 x1 x2 x3 x4 x5 => f_X8_bricks_b40 S  n a0 x1 x2 x3 x4 x5) ih a0 x1 x2 x3 x4 x5 _ _ _ hw (lv_sub hl [1, 2, 3, 4, 5, 6] rfl) h
          · have h := (if_neg hc).symm.trans h
            refine lv_iload C0.hx C0.hb dX8_bricks_96 (lv_at hl 0 rfl) ?_
            refine lv_istore (lv' := [(4, .int v14), (6, .int v14), (0, .ref (b0 + a0)), (1, .int x1), (2, .int x2), (3, .int x3), (5, .int x5)]) C0.hx C0.hb dX8_bricks_98 hl (by decide) rfl (fun ls hl => ?_)
            exact w_X8_bricks_b100 C0 hr hlocks (fun a0 x1 x2 x3 x4 x5 => f_X8_bricks_b40 S  n a0 x1 x2 x3 x4 x5) ih a0 x1 x2 x3 v14 x5 _ _ _ hw (lv_sub hl [2, 3, 4, 5, 0, 6] rfl) h
set_option maxHeartbeats 4000000 in
set_option maxRecDepth 100000 in
theorem m_X8_bricks (l : Launch) (b0 : Nat) (D : va_G) (cy : Nat → ClassId) (S : Mem) (a0 : Nat) (x1 : Int32) {q : Int32} (h : f_X8_bricks a0 x1 S = some q) : Met l yX8_bricks [.code yX8_bricks cX8_bricks 7 (some .int)] rm_X8_bricks (Pr b0 D cy S [.ref (b0 + a0), .int x1]) (Qp b0 D cy (some (.int q)) S) 0 0 (fun q => b0 ≤ q) := by
  refine Met.ofW (cc := cX8_bricks) (maxL := 7) (ret := some .int) (by decide) rfl ?_
  intro p e s m args below meth c s₁ B hml hv
  obtain ⟨rfl, hP, hK, hT⟩ := hv
  have C0 : Cx p m c cX8_bricks 7 s (List.toArray [.ref (b0 + a0), .int x1]) RX8 D cy := ⟨⟨B.exec, B.bytes, hml, findClass_of_methodNamed B.named, fun w h => hT w h _⟩, hK, hT⟩
  have hr : meth.sig.returnType = some .int := B.returns
  have hlocks := B.notSynchronized
  have hw : Wd b0 D cy S s.heap s.heap [] := ⟨hP, va_S.rf⟩
  have hl := lv_entry ([.ref (b0 + a0), .int x1]) (n := 7) (Nat.le_of_ble_eq_true rfl)
  rw [lg_entry_eq]
  generalize (lg_sl ([.ref (b0 + a0), .int x1]) ++ List.replicate (7 - (lg_sl ([.ref (b0 + a0), .int x1])).length) Slot.unset).toArray = ls at hl ⊢
  have hl : lv_has ls 7 [(0, .ref (b0 + a0)), (1, .int x1)] := hl
  rw [f_X8_bricks] at h
  show W p l e rm_X8_bricks s m _ below meth c s.heap [] 0 0 _ _
  refine lv_aload_n C0.hx C0.hb dX8_bricks_0 rfl (lv_at hl 0 rfl) ?_
  refine lv_iload_n C0.hx C0.hb dX8_bricks_1 rfl (lv_at hl 1 rfl) ?_
  obtain ⟨c1, hc1, h⟩ := Option.bind_eq_some_iff.mp h
  obtain ⟨v2, hv2, h⟩ := Option.bind_eq_some_iff.mp h
  refine q_callV (n := 1) (av := [.int x1]) (rest := []) (st1 := [.int v2]) C0 hw (m_X8_isNoRoom l b0 D cy S a0 x1 hv2) hc1 rfl (by decide) (goodV kw_505 kw_507 kw_10 kw_63 kw_508) ⟨rfl, rfl⟩ (by decide +kernel) ⟨(Nat.le_of_ble_eq_true rfl), (Nat.le_of_ble_eq_true rfl)⟩ rfl hl.1 rfl (Nat.le_of_ble_eq_true rfl) dX8_bricks_2 ⟨Nat.zero_le _, Nat.zero_le _⟩ rfl (fun H locs hw => ?_)
  refine lv_if_eq (tgt := 11) C0.hx C0.hb dX8_bricks_5 (by decide) (fun hc => ?_) (fun hc => ?_)
  · have h := (if_pos hc).symm.trans h
    refine lv_aload_n C0.hx C0.hb dX8_bricks_11 rfl (lv_at hl 0 rfl) ?_
    obtain ⟨r3, hr3, h⟩ := Option.bind_eq_some_iff.mp h
    refine q_getR C0 hw hr3 rfl in_8 (by decide) kw_352 dX8_bricks_12 ?_
    obtain ⟨r4, hr4, h⟩ := Option.bind_eq_some_iff.mp h
    refine q_getR C0 hw hr4 rfl in_5 (by decide) kw_259 dX8_bricks_15 ?_
    obtain ⟨v5, hv5, h⟩ := Option.bind_eq_some_iff.mp h
    refine q_getI C0 hw hv5 rfl in_4 (by decide) kw_200 dX8_bricks_18 ?_
    refine lv_istore_n (lv' := [(2, .int v5), (0, .ref (b0 + a0)), (1, .int x1)]) C0.hx C0.hb dX8_bricks_21 rfl hl (by decide) rfl (fun ls hl => ?_)
    refine lv_iload_n C0.hx C0.hb dX8_bricks_22 rfl (lv_at hl 2 rfl) ?_
    refine lv_iload_n C0.hx C0.hb dX8_bricks_23 rfl (lv_at hl 0 rfl) ?_
    refine lv_icmp_ne (tgt := 29) C0.hx C0.hb dX8_bricks_24 (by decide) (fun hc => ?_) (fun hc => ?_)
    · have h := (if_neg hc).symm.trans h
      refine lv_aload_n C0.hx C0.hb dX8_bricks_29 rfl (lv_at hl 1 rfl) ?_
      obtain ⟨c6, hc6, h⟩ := Option.bind_eq_some_iff.mp h
      obtain ⟨v7, hv7, h⟩ := Option.bind_eq_some_iff.mp h
      refine q_callV (n := 0) (av := []) (rest := []) (st1 := [.int v7]) C0 hw (m_X8_doorsToPass l b0 D cy S a0 hv7) hc6 rfl (by decide) (goodV kw_728 kw_730 kw_17 kw_63 kw_731) ⟨rfl, rfl⟩ (by decide +kernel) ⟨(Nat.le_of_ble_eq_true rfl), (Nat.le_of_ble_eq_true rfl)⟩ rfl hl.1 rfl (Nat.le_of_ble_eq_true rfl) dX8_bricks_30 ⟨Nat.zero_le _, Nat.zero_le _⟩ rfl (fun H locs hw => ?_)
      refine lv_istore_n (lv' := [(3, .int v7), (2, .int v5), (0, .ref (b0 + a0)), (1, .int x1)]) C0.hx C0.hb dX8_bricks_33 rfl hl (by decide) rfl (fun ls hl => ?_)
      refine lv_iconst (v := (-1 : Int32)) C0.hx C0.hb dX8_bricks_34 (by decide) ?_
      refine lv_istore (lv' := [(4, .int (-1 : Int32)), (3, .int v7), (2, .int v5), (0, .ref (b0 + a0)), (1, .int x1)]) C0.hx C0.hb dX8_bricks_35 hl (by decide) rfl (fun ls hl => ?_)
      refine lv_iconst (v := (0 : Int32)) C0.hx C0.hb dX8_bricks_37 (by decide) ?_
      refine lv_istore (lv' := [(5, .int (0 : Int32)), (4, .int (-1 : Int32)), (3, .int v7), (2, .int v5), (0, .ref (b0 + a0)), (1, .int x1)]) C0.hx C0.hb dX8_bricks_38 hl (by decide) rfl (fun ls hl => ?_)
      exact w_X8_bricks_b40 C0 hr hlocks FU a0 x1 v5 v7 (-1 : Int32) (0 : Int32) _ _ _ hw (lv_sub hl [4, 5, 3, 2, 1, 0] rfl) h
    · have h := (if_pos hc).symm.trans h
      refine lv_iconst (v := (-1 : Int32)) C0.hx C0.hb dX8_bricks_27 (by decide) ?_
      obtain rfl := Option.some.inj h
      exact q_reti C0 hw hr hlocks dX8_bricks_28
  · have h := (if_neg hc).symm.trans h
    refine lv_ldc C0.hx C0.hb C0.ho (C0.w kw_509) dX8_bricks_8 ?_
    obtain rfl := Option.some.inj h
    exact q_reti C0 hw hr hlocks dX8_bricks_10
abbrev rm_X8_spreadNoise : Room := { frames := 1, cells := 0, slots := 0, locals := 21 }
def f_X8_spreadNoise_b95 (k29 : Nat → Nat → Int32 → Int32 → Int32 → Mem → Option Mem) (a0 : Nat) (a1 : Nat) (x2 : Int32) (x3 : Int32) (x4 : Int32) (S : Mem) : Option Mem :=
    (some (x4 + (1 : Int32))).bind fun v16 =>
      k29 a0 a1 x2 x3 v16 S
def f_X8_spreadNoise_b89 (k29 : Nat → Nat → Int32 → Int32 → Int32 → Mem → Option Mem) (a0 : Nat) (a1 : Nat) (x2 : Int32) (x3 : Int32) (x4 : Int32) (x5 : Int32) (S : Mem) : Option Mem :=
    (stI S a1 x4 x5).bind fun S18 =>
      f_X8_spreadNoise_b95 k29 a0 a1 x2 x3 x4 S18
def f_X8_spreadNoise_b29 : Nat → Nat → Nat → Int32 → Int32 → Int32 → Mem → Option Mem
  | 0, _, _, _, _, _, _ => none
  | n + 1, a0, a1, x2, x3, x4, S =>
    (gR 8 1 S a0).bind fun r9 =>
      (gI 2 2 S r9).bind fun v10 =>
      (if v10 ≤ x4 then
      some S
      else
      (ldI S a1 x2).bind fun v11 =>
      (gR 8 2 S a0).bind fun r12 =>
      (gR 5 0 S r12).bind fun r13 =>
      (gI 4 3 S r13).bind fun v14 =>
      (some (v11 + (f_X8_packedAt v14 x4))).bind fun v15 =>
      (if (f_X8_bit x3 x4) = (1 : Int32) then
      (ldI S a1 x4).bind fun v17 =>
      (if v17 = (-1 : Int32) then
      f_X8_spreadNoise_b89 (fun a0 a1 x2 x3 x4 S => f_X8_spreadNoise_b29  n a0 a1 x2 x3 x4 S) a0 a1 x2 x3 x4 v15 S
      else
      (ldI S a1 x4).bind fun v19 =>
      (if v19 ≤ v15 then
      f_X8_spreadNoise_b95 (fun a0 a1 x2 x3 x4 S => f_X8_spreadNoise_b29  n a0 a1 x2 x3 x4 S) a0 a1 x2 x3 x4 S
      else
      f_X8_spreadNoise_b89 (fun a0 a1 x2 x3 x4 S => f_X8_spreadNoise_b29  n a0 a1 x2 x3 x4 S) a0 a1 x2 x3 x4 v15 S))
      else
      f_X8_spreadNoise_b95 (fun a0 a1 x2 x3 x4 S => f_X8_spreadNoise_b29  n a0 a1 x2 x3 x4 S) a0 a1 x2 x3 x4 S))
def f_X8_spreadNoise (a0 : Nat) (a1 : Nat) (x2 : Int32) (S : Mem) : Option Mem :=
    (gR 8 2 S a0).bind fun r1 =>
      (gR 5 0 S r1).bind fun r2 =>
      (gR 4 7 S r2).bind fun r3 =>
      (ldI S r3 x2).bind fun v4 =>
      (gR 8 2 S a0).bind fun r5 =>
      (gR 5 0 S r5).bind fun r6 =>
      (gI 4 6 S r6).bind fun v7 =>
      (some (v4 &&& (v7 ^^^ (-1 : Int32)))).bind fun v8 =>
      f_X8_spreadNoise_b29 FU a0 a1 x2 v8 (0 : Int32) S
set_option maxHeartbeats 4000000 in
set_option maxRecDepth 100000 in
theorem w_X8_spreadNoise_b95 {p : Program} {l : Launch} {e : Env} {s : State} {m : MethodId} {args : Array Value} {below : List Frame} {meth : Method} {c : Code} {b0 : Nat} {D : va_G} {cy : Nat → ClassId} {q : Mem} (C0 : Cx p m c cX8_spreadNoise 6 s args RX8 D cy) (hr : meth.sig.returnType = none) (hlocks : meth.locks = false) (k29 : Nat → Nat → Int32 → Int32 → Int32 → Mem → Option Mem) (hk29 : ∀ (a0 : Nat) (a1 : Nat) (x2 : Int32) (x3 : Int32) (x4 : Int32) (S : Mem) (H : Heap) (locs : List Loc) (ls : Array Slot), Wd b0 D cy S s.heap H locs → lv_has ls 6 [(0, .ref (b0 + a0)), (1, .ref (b0 + a1)), (2, .int x2), (3, .int x3), (4, .int x4)] → k29 a0 a1 x2 x3 x4 S = some q → W p l e rm_X8_spreadNoise s m args below meth c H locs 0 0 (MQ below (Qp b0 D cy none q) args s 0 0 (fun q => b0 ≤ q)) (F0 m 29 ls [])) : ∀ (a0 : Nat) (a1 : Nat) (x2 : Int32) (x3 : Int32) (x4 : Int32) (S : Mem) (H : Heap) (locs : List Loc) (ls : Array Slot), Wd b0 D cy S s.heap H locs → lv_has ls 6 [(0, .ref (b0 + a0)), (1, .ref (b0 + a1)), (2, .int x2), (3, .int x3), (4, .int x4)] → f_X8_spreadNoise_b95 k29 a0 a1 x2 x3 x4 S = some q → W p l e rm_X8_spreadNoise s m args below meth c H locs 0 0 (MQ below (Qp b0 D cy none q) args s 0 0 (fun q => b0 ≤ q)) (F0 m 95 ls []) := by
  intro a0 a1 x2 x3 x4 S H locs ls hw hl h
  rw [f_X8_spreadNoise_b95] at h
  obtain ⟨v16, hv16, h⟩ := Option.bind_eq_some_iff.mp h
  refine lv_iinc (v := v16) (lv' := [(4, .int v16), (0, .ref (b0 + a0)), (1, .ref (b0 + a1)), (2, .int x2), (3, .int x3)]) C0.hx C0.hb dX8_spreadNoise_95 hl (k := 4) rfl (by rw [← Option.some.inj hv16]; rfl) (by decide) rfl (fun ls hl => ?_)
  refine lv_goto (tgt := 29) C0.hx C0.hb dX8_spreadNoise_98 (by decide) ?_
  exact hk29 a0 a1 x2 x3 v16 S _ _ _ hw (lv_sub hl [1, 2, 3, 4, 0] rfl) h
set_option maxHeartbeats 4000000 in
set_option maxRecDepth 100000 in
theorem w_X8_spreadNoise_b89 {p : Program} {l : Launch} {e : Env} {s : State} {m : MethodId} {args : Array Value} {below : List Frame} {meth : Method} {c : Code} {b0 : Nat} {D : va_G} {cy : Nat → ClassId} {q : Mem} (C0 : Cx p m c cX8_spreadNoise 6 s args RX8 D cy) (hr : meth.sig.returnType = none) (hlocks : meth.locks = false) (k29 : Nat → Nat → Int32 → Int32 → Int32 → Mem → Option Mem) (hk29 : ∀ (a0 : Nat) (a1 : Nat) (x2 : Int32) (x3 : Int32) (x4 : Int32) (S : Mem) (H : Heap) (locs : List Loc) (ls : Array Slot), Wd b0 D cy S s.heap H locs → lv_has ls 6 [(0, .ref (b0 + a0)), (1, .ref (b0 + a1)), (2, .int x2), (3, .int x3), (4, .int x4)] → k29 a0 a1 x2 x3 x4 S = some q → W p l e rm_X8_spreadNoise s m args below meth c H locs 0 0 (MQ below (Qp b0 D cy none q) args s 0 0 (fun q => b0 ≤ q)) (F0 m 29 ls [])) : ∀ (a0 : Nat) (a1 : Nat) (x2 : Int32) (x3 : Int32) (x4 : Int32) (x5 : Int32) (S : Mem) (H : Heap) (locs : List Loc) (ls : Array Slot), Wd b0 D cy S s.heap H locs → lv_has ls 6 [(0, .ref (b0 + a0)), (1, .ref (b0 + a1)), (2, .int x2), (3, .int x3), (4, .int x4), (5, .int x5)] → f_X8_spreadNoise_b89 k29 a0 a1 x2 x3 x4 x5 S = some q → W p l e rm_X8_spreadNoise s m args below meth c H locs 0 0 (MQ below (Qp b0 D cy none q) args s 0 0 (fun q => b0 ≤ q)) (F0 m 89 ls []) := by
  intro a0 a1 x2 x3 x4 x5 S H locs ls hw hl h
  rw [f_X8_spreadNoise_b89] at h
  refine lv_aload_n C0.hx C0.hb dX8_spreadNoise_89 rfl (lv_at hl 1 rfl) ?_
  refine lv_iload C0.hx C0.hb dX8_spreadNoise_90 (lv_at hl 4 rfl) ?_
  refine lv_iload C0.hx C0.hb dX8_spreadNoise_92 (lv_at hl 5 rfl) ?_
  obtain ⟨S18, hS18, h⟩ := Option.bind_eq_some_iff.mp h
  refine q_stI C0 hw hS18 dX8_spreadNoise_94 (fun H locs hw => ?_)
  exact w_X8_spreadNoise_b95 C0 hr hlocks k29 hk29 a0 a1 x2 x3 x4 S18 _ _ _ hw (lv_sub hl [0, 1, 2, 3, 4] rfl) h
set_option maxHeartbeats 4000000 in
set_option maxRecDepth 100000 in
theorem w_X8_spreadNoise_b29 {p : Program} {l : Launch} {e : Env} {s : State} {m : MethodId} {args : Array Value} {below : List Frame} {meth : Method} {c : Code} {b0 : Nat} {D : va_G} {cy : Nat → ClassId} {q : Mem} (C0 : Cx p m c cX8_spreadNoise 6 s args RX8 D cy) (hr : meth.sig.returnType = none) (hlocks : meth.locks = false) : ∀ (n : Nat) (a0 : Nat) (a1 : Nat) (x2 : Int32) (x3 : Int32) (x4 : Int32) (S : Mem) (H : Heap) (locs : List Loc) (ls : Array Slot), Wd b0 D cy S s.heap H locs → lv_has ls 6 [(0, .ref (b0 + a0)), (1, .ref (b0 + a1)), (2, .int x2), (3, .int x3), (4, .int x4)] → f_X8_spreadNoise_b29  n a0 a1 x2 x3 x4 S = some q → W p l e rm_X8_spreadNoise s m args below meth c H locs 0 0 (MQ below (Qp b0 D cy none q) args s 0 0 (fun q => b0 ≤ q)) (F0 m 29 ls []) := by
  intro n
  induction n with
  | zero => intro a0 a1 x2 x3 x4 S H locs ls hw hl h; exact absurd h (by simp [f_X8_spreadNoise_b29])
  | succ n ih =>
    intro a0 a1 x2 x3 x4 S H locs ls hw hl h
    rw [f_X8_spreadNoise_b29] at h
    refine lv_iload C0.hx C0.hb dX8_spreadNoise_29 (lv_at hl 4 rfl) ?_
    refine lv_aload_n C0.hx C0.hb dX8_spreadNoise_31 rfl (lv_at hl 0 rfl) ?_
    obtain ⟨r9, hr9, h⟩ := Option.bind_eq_some_iff.mp h
    refine q_getR C0 hw hr9 rfl in_8 (by decide) kw_351 dX8_spreadNoise_32 ?_
    obtain ⟨v10, hv10, h⟩ := Option.bind_eq_some_iff.mp h
    refine q_getI C0 hw hv10 rfl in_2 (by decide) kw_105 dX8_spreadNoise_35 ?_
    refine lv_icmp_ge (tgt := 101) C0.hx C0.hb dX8_spreadNoise_38 (by decide) (fun hc => ?_) (fun hc => ?_)
    · have h := (if_pos hc).symm.trans h
      obtain rfl := Option.some.inj h
      exact q_retv C0 hw hr hlocks dX8_spreadNoise_101
    · have h := (if_neg hc).symm.trans h
      refine lv_aload_n C0.hx C0.hb dX8_spreadNoise_41 rfl (lv_at hl 1 rfl) ?_
      refine lv_iload_n C0.hx C0.hb dX8_spreadNoise_42 rfl (lv_at hl 2 rfl) ?_
      obtain ⟨v11, hv11, h⟩ := Option.bind_eq_some_iff.mp h
      refine q_ldI C0 hw hv11 dX8_spreadNoise_43 ?_
      refine lv_aload_n C0.hx C0.hb dX8_spreadNoise_44 rfl (lv_at hl 0 rfl) ?_
      obtain ⟨r12, hr12, h⟩ := Option.bind_eq_some_iff.mp h
      refine q_getR C0 hw hr12 rfl in_8 (by decide) kw_352 dX8_spreadNoise_45 ?_
      obtain ⟨r13, hr13, h⟩ := Option.bind_eq_some_iff.mp h
      refine q_getR C0 hw hr13 rfl in_5 (by decide) kw_259 dX8_spreadNoise_48 ?_
      obtain ⟨v14, hv14, h⟩ := Option.bind_eq_some_iff.mp h
      refine q_getI C0 hw hv14 rfl in_4 (by decide) kw_205 dX8_spreadNoise_51 ?_
      refine lv_iload C0.hx C0.hb dX8_spreadNoise_54 (lv_at hl 4 rfl) ?_
      refine q_callS (n := 2) (av := [.int v14, .int x4]) (rest := [.int v11]) (st1 := [.int (f_X8_packedAt v14 x4), .int v11]) C0 hw (m_X8_packedAt l b0 D cy S v14 x4) (goodS kw_510 kw_511 kw_63 kw_512) ⟨rfl, rfl⟩ (by decide +kernel) ⟨(Nat.le_of_ble_eq_true rfl), (Nat.le_of_ble_eq_true rfl)⟩ rfl hl.1 rfl (Nat.le_of_ble_eq_true rfl) dX8_spreadNoise_56 ⟨Nat.zero_le _, Nat.zero_le _⟩ rfl (fun H locs hw => ?_)
      refine lv_iadd C0.hx C0.hb dX8_spreadNoise_59 ?_
      obtain ⟨v15, hv15, h⟩ := Option.bind_eq_some_iff.mp h
      refine q_nmI hv15 ?_
      refine lv_istore (lv' := [(5, .int v15), (0, .ref (b0 + a0)), (1, .ref (b0 + a1)), (2, .int x2), (3, .int x3), (4, .int x4)]) C0.hx C0.hb dX8_spreadNoise_60 hl (by decide) rfl (fun ls hl => ?_)
      refine lv_iload_n C0.hx C0.hb dX8_spreadNoise_62 rfl (lv_at hl 4 rfl) ?_
      refine lv_iload C0.hx C0.hb dX8_spreadNoise_63 (lv_at hl 5 rfl) ?_
      refine q_callS (n := 2) (av := [.int x3, .int x4]) (rest := []) (st1 := [.int (f_X8_bit x3 x4)]) C0 hw (m_X8_bit l b0 D cy S x3 x4) (goodS kw_537 kw_529 kw_63 kw_530) ⟨rfl, rfl⟩ (by decide +kernel) ⟨(Nat.le_of_ble_eq_true rfl), (Nat.le_of_ble_eq_true rfl)⟩ rfl hl.1 rfl (Nat.le_of_ble_eq_true rfl) dX8_spreadNoise_65 ⟨Nat.zero_le _, Nat.zero_le _⟩ rfl (fun H locs hw => ?_)
      refine lv_iconst (v := (1 : Int32)) C0.hx C0.hb dX8_spreadNoise_68 (by decide) ?_
      refine lv_icmp_ne (tgt := 95) C0.hx C0.hb dX8_spreadNoise_69 (by decide) (fun hc => ?_) (fun hc => ?_)
      · have h := (if_neg hc).symm.trans h
        exact w_X8_spreadNoise_b95 C0 hr hlocks (fun a0 a1 x2 x3 x4 S => f_X8_spreadNoise_b29  n a0 a1 x2 x3 x4 S) ih a0 a1 x2 x3 x4 S _ _ _ hw (lv_sub hl [1, 2, 3, 4, 5] rfl) h
      · have h := (if_pos hc).symm.trans h
        refine lv_aload_n C0.hx C0.hb dX8_spreadNoise_72 rfl (lv_at hl 2 rfl) ?_
        refine lv_iload C0.hx C0.hb dX8_spreadNoise_73 (lv_at hl 5 rfl) ?_
        obtain ⟨v17, hv17, h⟩ := Option.bind_eq_some_iff.mp h
        refine q_ldI C0 hw hv17 dX8_spreadNoise_75 ?_
        refine lv_iconst (v := (-1 : Int32)) C0.hx C0.hb dX8_spreadNoise_76 (by decide) ?_
        refine lv_icmp_eq (tgt := 89) C0.hx C0.hb dX8_spreadNoise_77 (by decide) (fun hc => ?_) (fun hc => ?_)
        · have h := (if_pos hc).symm.trans h
          exact w_X8_spreadNoise_b89 C0 hr hlocks (fun a0 a1 x2 x3 x4 S => f_X8_spreadNoise_b29  n a0 a1 x2 x3 x4 S) ih a0 a1 x2 x3 x4 v15 S _ _ _ hw (lv_sub hl [1, 2, 3, 4, 5, 0] rfl) h
        · have h := (if_neg hc).symm.trans h
          refine lv_iload C0.hx C0.hb dX8_spreadNoise_80 (lv_at hl 0 rfl) ?_
          refine lv_aload_n C0.hx C0.hb dX8_spreadNoise_82 rfl (lv_at hl 2 rfl) ?_
          refine lv_iload C0.hx C0.hb dX8_spreadNoise_83 (lv_at hl 5 rfl) ?_
          obtain ⟨v19, hv19, h⟩ := Option.bind_eq_some_iff.mp h
          refine q_ldI C0 hw hv19 dX8_spreadNoise_85 ?_
          refine lv_icmp_ge (tgt := 95) C0.hx C0.hb dX8_spreadNoise_86 (by decide) (fun hc => ?_) (fun hc => ?_)
          · have h := (if_pos hc).symm.trans h
            exact w_X8_spreadNoise_b95 C0 hr hlocks (fun a0 a1 x2 x3 x4 S => f_X8_spreadNoise_b29  n a0 a1 x2 x3 x4 S) ih a0 a1 x2 x3 x4 S _ _ _ hw (lv_sub hl [1, 2, 3, 4, 5] rfl) h
          · have h := (if_neg hc).symm.trans h
            exact w_X8_spreadNoise_b89 C0 hr hlocks (fun a0 a1 x2 x3 x4 S => f_X8_spreadNoise_b29  n a0 a1 x2 x3 x4 S) ih a0 a1 x2 x3 x4 v15 S _ _ _ hw (lv_sub hl [1, 2, 3, 4, 5, 0] rfl) h
set_option maxHeartbeats 4000000 in
set_option maxRecDepth 100000 in
theorem m_X8_spreadNoise (l : Launch) (b0 : Nat) (D : va_G) (cy : Nat → ClassId) (S : Mem) (a0 : Nat) (a1 : Nat) (x2 : Int32) {q : Mem} (h : f_X8_spreadNoise a0 a1 x2 S = some q) : Met l yX8_spreadNoise [.code yX8_spreadNoise cX8_spreadNoise 6 (none)] rm_X8_spreadNoise (Pr b0 D cy S [.ref (b0 + a0), .ref (b0 + a1), .int x2]) (Qp b0 D cy none q) 0 0 (fun q => b0 ≤ q) := by
  refine Met.ofW (cc := cX8_spreadNoise) (maxL := 6) (ret := none) (by decide) rfl ?_
  intro p e s m args below meth c s₁ B hml hv
  obtain ⟨rfl, hP, hK, hT⟩ := hv
  have C0 : Cx p m c cX8_spreadNoise 6 s (List.toArray [.ref (b0 + a0), .ref (b0 + a1), .int x2]) RX8 D cy := ⟨⟨B.exec, B.bytes, hml, findClass_of_methodNamed B.named, fun w h => hT w h _⟩, hK, hT⟩
  have hr : meth.sig.returnType = none := B.returns
  have hlocks := B.notSynchronized
  have hw : Wd b0 D cy S s.heap s.heap [] := ⟨hP, va_S.rf⟩
  have hl := lv_entry ([.ref (b0 + a0), .ref (b0 + a1), .int x2]) (n := 6) (Nat.le_of_ble_eq_true rfl)
  rw [lg_entry_eq]
  generalize (lg_sl ([.ref (b0 + a0), .ref (b0 + a1), .int x2]) ++ List.replicate (6 - (lg_sl ([.ref (b0 + a0), .ref (b0 + a1), .int x2])).length) Slot.unset).toArray = ls at hl ⊢
  have hl : lv_has ls 6 [(0, .ref (b0 + a0)), (1, .ref (b0 + a1)), (2, .int x2)] := hl
  rw [f_X8_spreadNoise] at h
  show W p l e rm_X8_spreadNoise s m _ below meth c s.heap [] 0 0 _ _
  refine lv_aload_n C0.hx C0.hb dX8_spreadNoise_0 rfl (lv_at hl 0 rfl) ?_
  obtain ⟨r1, hr1, h⟩ := Option.bind_eq_some_iff.mp h
  refine q_getR C0 hw hr1 rfl in_8 (by decide) kw_352 dX8_spreadNoise_1 ?_
  obtain ⟨r2, hr2, h⟩ := Option.bind_eq_some_iff.mp h
  refine q_getR C0 hw hr2 rfl in_5 (by decide) kw_259 dX8_spreadNoise_4 ?_
  obtain ⟨r3, hr3, h⟩ := Option.bind_eq_some_iff.mp h
  refine q_getR C0 hw hr3 rfl in_4 (by decide) kw_214 dX8_spreadNoise_7 ?_
  refine lv_iload_n C0.hx C0.hb dX8_spreadNoise_10 rfl (lv_at hl 2 rfl) ?_
  obtain ⟨v4, hv4, h⟩ := Option.bind_eq_some_iff.mp h
  refine q_ldI C0 hw hv4 dX8_spreadNoise_11 ?_
  refine lv_aload_n C0.hx C0.hb dX8_spreadNoise_12 rfl (lv_at hl 0 rfl) ?_
  obtain ⟨r5, hr5, h⟩ := Option.bind_eq_some_iff.mp h
  refine q_getR C0 hw hr5 rfl in_8 (by decide) kw_352 dX8_spreadNoise_13 ?_
  obtain ⟨r6, hr6, h⟩ := Option.bind_eq_some_iff.mp h
  refine q_getR C0 hw hr6 rfl in_5 (by decide) kw_259 dX8_spreadNoise_16 ?_
  obtain ⟨v7, hv7, h⟩ := Option.bind_eq_some_iff.mp h
  refine q_getI C0 hw hv7 rfl in_4 (by decide) kw_212 dX8_spreadNoise_19 ?_
  refine lv_iconst (v := (-1 : Int32)) C0.hx C0.hb dX8_spreadNoise_22 (by decide) ?_
  refine lv_ixor C0.hx C0.hb dX8_spreadNoise_23 ?_
  refine lv_iand C0.hx C0.hb dX8_spreadNoise_24 ?_
  obtain ⟨v8, hv8, h⟩ := Option.bind_eq_some_iff.mp h
  refine q_nmI hv8 ?_
  refine lv_istore_n (lv' := [(3, .int v8), (0, .ref (b0 + a0)), (1, .ref (b0 + a1)), (2, .int x2)]) C0.hx C0.hb dX8_spreadNoise_25 rfl hl (by decide) rfl (fun ls hl => ?_)
  refine lv_iconst (v := (0 : Int32)) C0.hx C0.hb dX8_spreadNoise_26 (by decide) ?_
  refine lv_istore (lv' := [(4, .int (0 : Int32)), (3, .int v8), (0, .ref (b0 + a0)), (1, .ref (b0 + a1)), (2, .int x2)]) C0.hx C0.hb dX8_spreadNoise_27 hl (by decide) rfl (fun ls hl => ?_)
  exact w_X8_spreadNoise_b29 C0 hr hlocks FU a0 a1 x2 v8 (0 : Int32) S _ _ _ hw (lv_sub hl [2, 3, 4, 1, 0] rfl) h
