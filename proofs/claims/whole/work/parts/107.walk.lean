abbrev rm_X8_quietest : Room := { frames := 2, cells := 0, slots := 0, locals := 46 }
def f_X8_quietest_b77 (k36 : Nat → Int32 → Nat → Int32 → Mem → Option (Int32 × Mem)) (k50 : Nat → Int32 → Nat → Int32 → Int32 → Mem → Option (Int32 × Mem)) (a0 : Nat) (x1 : Int32) (a2 : Nat) (x3 : Int32) (x4 : Int32) (S : Mem) : Option (Int32 × Mem) :=
    (some (x4 + (1 : Int32))).bind fun v16 =>
      k50 a0 x1 a2 x3 v16 S
def f_X8_quietest_b50 (k36 : Nat → Int32 → Nat → Int32 → Mem → Option (Int32 × Mem)) : Nat → Nat → Int32 → Nat → Int32 → Int32 → Mem → Option (Int32 × Mem)
  | 0, _, _, _, _, _, _ => none
  | n + 1, a0, x1, a2, x3, x4, S =>
    (gR 8 1 S a0).bind fun r12 =>
      (gI 2 2 S r12).bind fun v13 =>
      (if v13 ≤ x4 then
      (some (x3 + (1 : Int32))).bind fun v14 =>
      k36 a0 x1 a2 v14 S
      else
      (ldI S a2 x4).bind fun v15 =>
      (if v15 = (-1 : Int32) then
      f_X8_quietest_b77 k36 (fun a0 x1 a2 x3 x4 S => f_X8_quietest_b50 k36 n a0 x1 a2 x3 x4 S) a0 x1 a2 x3 x4 S
      else
      (ck 8 S a0).bind fun c17 =>
      (f_X8_spreadNoise a0 a2 x4 S).bind fun S18 =>
      f_X8_quietest_b77 k36 (fun a0 x1 a2 x3 x4 S => f_X8_quietest_b50 k36 n a0 x1 a2 x3 x4 S) a0 x1 a2 x3 x4 S18))
def f_X8_quietest_b36 : Nat → Nat → Int32 → Nat → Int32 → Mem → Option (Int32 × Mem)
  | 0, _, _, _, _, _ => none
  | n + 1, a0, x1, a2, x3, S =>
    (gR 8 1 S a0).bind fun r9 =>
      (gI 2 2 S r9).bind fun v10 =>
      (if v10 ≤ x3 then
      (ldI S a2 x1).bind fun v11 =>
      some (v11, S)
      else
      f_X8_quietest_b50 (fun a0 x1 a2 x3 S => f_X8_quietest_b36  n a0 x1 a2 x3 S) FU a0 x1 a2 x3 (0 : Int32) S)
def f_X8_quietest (a0 : Nat) (x1 : Int32) (S : Mem) : Option (Int32 × Mem) :=
    (ck 8 S a0).bind fun c1 =>
      (f_X8_isNoRoom a0 x1 S).bind fun v2 =>
      (if v2 = (0 : Int32) then
      (gR 8 9 S a0).bind fun r3 =>
      (f_J7_fill_53178 r3 (-1 : Int32) S).bind fun S4 =>
      (gR 8 2 S4 a0).bind fun r5 =>
      (gR 5 0 S4 r5).bind fun r6 =>
      (gI 4 1 S4 r6).bind fun v7 =>
      (stI S4 r3 v7 (0 : Int32)).bind fun S8 =>
      f_X8_quietest_b36 FU a0 x1 r3 (0 : Int32) S8
      else
      some ((-1000000001 : Int32), S))
set_option maxHeartbeats 4000000 in
set_option maxRecDepth 100000 in
theorem w_X8_quietest_b77 {p : Program} {l : Launch} {e : Env} {s : State} {m : MethodId} {args : Array Value} {below : List Frame} {meth : Method} {c : Code} {b0 : Nat} {D : va_G} {cy : Nat → ClassId} {q : (Int32 × Mem)} (C0 : Cx p m c cX8_quietest 5 s args RX8 D cy) (hr : meth.sig.returnType = some .int) (hlocks : meth.locks = false) (k36 : Nat → Int32 → Nat → Int32 → Mem → Option (Int32 × Mem)) (hk36 : ∀ (a0 : Nat) (x1 : Int32) (a2 : Nat) (x3 : Int32) (S : Mem) (H : Heap) (locs : List Loc) (ls : Array Slot), Wd b0 D cy S s.heap H locs → lv_has ls 5 [(0, .ref (b0 + a0)), (1, .int x1), (2, .ref (b0 + a2)), (3, .int x3)] → k36 a0 x1 a2 x3 S = some q → W p l e rm_X8_quietest s m args below meth c H locs 0 0 (MQ below (Qp b0 D cy (some (.int q.1)) q.2) args s 0 0 (fun q => b0 ≤ q)) (F0 m 36 ls [])) (k50 : Nat → Int32 → Nat → Int32 → Int32 → Mem → Option (Int32 × Mem)) (hk50 : ∀ (a0 : Nat) (x1 : Int32) (a2 : Nat) (x3 : Int32) (x4 : Int32) (S : Mem) (H : Heap) (locs : List Loc) (ls : Array Slot), Wd b0 D cy S s.heap H locs → lv_has ls 5 [(0, .ref (b0 + a0)), (1, .int x1), (2, .ref (b0 + a2)), (3, .int x3), (4, .int x4)] → k50 a0 x1 a2 x3 x4 S = some q → W p l e rm_X8_quietest s m args below meth c H locs 0 0 (MQ below (Qp b0 D cy (some (.int q.1)) q.2) args s 0 0 (fun q => b0 ≤ q)) (F0 m 50 ls [])) : ∀ (a0 : Nat) (x1 : Int32) (a2 : Nat) (x3 : Int32) (x4 : Int32) (S : Mem) (H : Heap) (locs : List Loc) (ls : Array Slot), Wd b0 D cy S s.heap H locs → lv_has ls 5 [(0, .ref (b0 + a0)), (1, .int x1), (2, .ref (b0 + a2)), (3, .int x3), (4, .int x4)] → f_X8_quietest_b77 k36 k50 a0 x1 a2 x3 x4 S = some q → W p l e rm_X8_quietest s m args below meth c H locs 0 0 (MQ below (Qp b0 D cy (some (.int q.1)) q.2) args s 0 0 (fun q => b0 ≤ q)) (F0 m 77 ls []) := by
  intro a0 x1 a2 x3 x4 S H locs ls hw hl h
  rw [f_X8_quietest_b77] at h
  obtain ⟨v16, hv16, h⟩ := Option.bind_eq_some_iff.mp h
  refine lv_iinc (v := v16) (lv' := [(4, .int v16), (0, .ref (b0 + a0)), (1, .int x1), (2, .ref (b0 + a2)), (3, .int x3)]) C0.hx C0.hb dX8_quietest_77 hl (k := 4) rfl (by rw [← Option.some.inj hv16]; rfl) (by decide) rfl (fun ls hl => ?_)
  refine lv_goto (tgt := 50) C0.hx C0.hb dX8_quietest_80 (by decide) ?_
  exact hk50 a0 x1 a2 x3 v16 S _ _ _ hw (lv_sub hl [1, 2, 3, 4, 0] rfl) h
set_option maxHeartbeats 4000000 in
set_option maxRecDepth 100000 in
theorem w_X8_quietest_b50 {p : Program} {l : Launch} {e : Env} {s : State} {m : MethodId} {args : Array Value} {below : List Frame} {meth : Method} {c : Code} {b0 : Nat} {D : va_G} {cy : Nat → ClassId} {q : (Int32 × Mem)} (C0 : Cx p m c cX8_quietest 5 s args RX8 D cy) (hr : meth.sig.returnType = some .int) (hlocks : meth.locks = false) (k36 : Nat → Int32 → Nat → Int32 → Mem → Option (Int32 × Mem)) (hk36 : ∀ (a0 : Nat) (x1 : Int32) (a2 : Nat) (x3 : Int32) (S : Mem) (H : Heap) (locs : List Loc) (ls : Array Slot), Wd b0 D cy S s.heap H locs → lv_has ls 5 [(0, .ref (b0 + a0)), (1, .int x1), (2, .ref (b0 + a2)), (3, .int x3)] → k36 a0 x1 a2 x3 S = some q → W p l e rm_X8_quietest s m args below meth c H locs 0 0 (MQ below (Qp b0 D cy (some (.int q.1)) q.2) args s 0 0 (fun q => b0 ≤ q)) (F0 m 36 ls [])) : ∀ (n : Nat) (a0 : Nat) (x1 : Int32) (a2 : Nat) (x3 : Int32) (x4 : Int32) (S : Mem) (H : Heap) (locs : List Loc) (ls : Array Slot), Wd b0 D cy S s.heap H locs → lv_has ls 5 [(0, .ref (b0 + a0)), (1, .int x1), (2, .ref (b0 + a2)), (3, .int x3), (4, .int x4)] → f_X8_quietest_b50 k36 n a0 x1 a2 x3 x4 S = some q → W p l e rm_X8_quietest s m args below meth c H locs 0 0 (MQ below (Qp b0 D cy (some (.int q.1)) q.2) args s 0 0 (fun q => b0 ≤ q)) (F0 m 50 ls []) := by
  intro n
  induction n with
  | zero => intro a0 x1 a2 x3 x4 S H locs ls hw hl h; exact absurd h (by simp [f_X8_quietest_b50])
  | succ n ih =>
    intro a0 x1 a2 x3 x4 S H locs ls hw hl h
    rw [f_X8_quietest_b50] at h
    refine lv_iload C0.hx C0.hb dX8_quietest_50 (lv_at hl 4 rfl) ?_
    refine lv_aload_n C0.hx C0.hb dX8_quietest_52 rfl (lv_at hl 0 rfl) ?_
    obtain ⟨r12, hr12, h⟩ := Option.bind_eq_some_iff.mp h
    refine q_getR C0 hw hr12 rfl in_8 (by decide) kw_351 dX8_quietest_53 ?_
    obtain ⟨v13, hv13, h⟩ := Option.bind_eq_some_iff.mp h
    refine q_getI C0 hw hv13 rfl in_2 (by decide) kw_105 dX8_quietest_56 ?_
    refine lv_icmp_ge (tgt := 83) C0.hx C0.hb dX8_quietest_59 (by decide) (fun hc => ?_) (fun hc => ?_)
    · have h := (if_pos hc).symm.trans h
      obtain ⟨v14, hv14, h⟩ := Option.bind_eq_some_iff.mp h
      refine lv_iinc (v := v14) (lv' := [(3, .int v14), (0, .ref (b0 + a0)), (1, .int x1), (2, .ref (b0 + a2)), (4, .int x4)]) C0.hx C0.hb dX8_quietest_83 hl (k := 3) rfl (by rw [← Option.some.inj hv14]; rfl) (by decide) rfl (fun ls hl => ?_)
      refine lv_goto (tgt := 36) C0.hx C0.hb dX8_quietest_86 (by decide) ?_
      exact hk36 a0 x1 a2 v14 S _ _ _ hw (lv_sub hl [1, 2, 3, 0] rfl) h
    · have h := (if_neg hc).symm.trans h
      refine lv_aload_n C0.hx C0.hb dX8_quietest_62 rfl (lv_at hl 2 rfl) ?_
      refine lv_iload C0.hx C0.hb dX8_quietest_63 (lv_at hl 4 rfl) ?_
      obtain ⟨v15, hv15, h⟩ := Option.bind_eq_some_iff.mp h
      refine q_ldI C0 hw hv15 dX8_quietest_65 ?_
      refine lv_iconst (v := (-1 : Int32)) C0.hx C0.hb dX8_quietest_66 (by decide) ?_
      refine lv_icmp_eq (tgt := 77) C0.hx C0.hb dX8_quietest_67 (by decide) (fun hc => ?_) (fun hc => ?_)
      · have h := (if_pos hc).symm.trans h
        exact w_X8_quietest_b77 C0 hr hlocks k36 hk36 (fun a0 x1 a2 x3 x4 S => f_X8_quietest_b50 k36 n a0 x1 a2 x3 x4 S) ih a0 x1 a2 x3 x4 S _ _ _ hw (lv_sub hl [0, 1, 2, 3, 4] rfl) h
      · have h := (if_neg hc).symm.trans h
        refine lv_aload_n C0.hx C0.hb dX8_quietest_70 rfl (lv_at hl 0 rfl) ?_
        refine lv_aload_n C0.hx C0.hb dX8_quietest_71 rfl (lv_at hl 2 rfl) ?_
        refine lv_iload C0.hx C0.hb dX8_quietest_72 (lv_at hl 4 rfl) ?_
        obtain ⟨c17, hc17, h⟩ := Option.bind_eq_some_iff.mp h
        obtain ⟨S18, hS18, h⟩ := Option.bind_eq_some_iff.mp h
        refine q_callV (n := 2) (av := [.ref (b0 + a2), .int x4]) (rest := []) (st1 := []) C0 hw (m_X8_spreadNoise l b0 D cy S a0 a2 x4 hS18) hc17 rfl (by decide) (goodV kw_742 kw_744 kw_18 kw_63 kw_745) ⟨rfl, rfl⟩ (by decide +kernel) ⟨(Nat.le_of_ble_eq_true rfl), (Nat.le_of_ble_eq_true rfl)⟩ rfl hl.1 rfl (Nat.le_of_ble_eq_true rfl) dX8_quietest_74 ⟨Nat.zero_le _, Nat.zero_le _⟩ rfl (fun H locs hw => ?_)
        exact w_X8_quietest_b77 C0 hr hlocks k36 hk36 (fun a0 x1 a2 x3 x4 S => f_X8_quietest_b50 k36 n a0 x1 a2 x3 x4 S) ih a0 x1 a2 x3 x4 S18 _ _ _ hw (lv_sub hl [0, 1, 2, 3, 4] rfl) h
set_option maxHeartbeats 4000000 in
set_option maxRecDepth 100000 in
theorem w_X8_quietest_b36 {p : Program} {l : Launch} {e : Env} {s : State} {m : MethodId} {args : Array Value} {below : List Frame} {meth : Method} {c : Code} {b0 : Nat} {D : va_G} {cy : Nat → ClassId} {q : (Int32 × Mem)} (C0 : Cx p m c cX8_quietest 5 s args RX8 D cy) (hr : meth.sig.returnType = some .int) (hlocks : meth.locks = false) : ∀ (n : Nat) (a0 : Nat) (x1 : Int32) (a2 : Nat) (x3 : Int32) (S : Mem) (H : Heap) (locs : List Loc) (ls : Array Slot), Wd b0 D cy S s.heap H locs → lv_has ls 5 [(0, .ref (b0 + a0)), (1, .int x1), (2, .ref (b0 + a2)), (3, .int x3)] → f_X8_quietest_b36  n a0 x1 a2 x3 S = some q → W p l e rm_X8_quietest s m args below meth c H locs 0 0 (MQ below (Qp b0 D cy (some (.int q.1)) q.2) args s 0 0 (fun q => b0 ≤ q)) (F0 m 36 ls []) := by
  intro n
  induction n with
  | zero => intro a0 x1 a2 x3 S H locs ls hw hl h; exact absurd h (by simp [f_X8_quietest_b36])
  | succ n ih =>
    intro a0 x1 a2 x3 S H locs ls hw hl h
    rw [f_X8_quietest_b36] at h
    refine lv_iload_n C0.hx C0.hb dX8_quietest_36 rfl (lv_at hl 3 rfl) ?_
    refine lv_aload_n C0.hx C0.hb dX8_quietest_37 rfl (lv_at hl 0 rfl) ?_
    obtain ⟨r9, hr9, h⟩ := Option.bind_eq_some_iff.mp h
    refine q_getR C0 hw hr9 rfl in_8 (by decide) kw_351 dX8_quietest_38 ?_
    obtain ⟨v10, hv10, h⟩ := Option.bind_eq_some_iff.mp h
    refine q_getI C0 hw hv10 rfl in_2 (by decide) kw_105 dX8_quietest_41 ?_
    refine lv_icmp_ge (tgt := 89) C0.hx C0.hb dX8_quietest_44 (by decide) (fun hc => ?_) (fun hc => ?_)
    · have h := (if_pos hc).symm.trans h
      refine lv_aload_n C0.hx C0.hb dX8_quietest_89 rfl (lv_at hl 2 rfl) ?_
      refine lv_iload_n C0.hx C0.hb dX8_quietest_90 rfl (lv_at hl 1 rfl) ?_
      obtain ⟨v11, hv11, h⟩ := Option.bind_eq_some_iff.mp h
      refine q_ldI C0 hw hv11 dX8_quietest_91 ?_
      obtain rfl := Option.some.inj h
      exact q_reti C0 hw hr hlocks dX8_quietest_92
    · have h := (if_neg hc).symm.trans h
      refine lv_iconst (v := (0 : Int32)) C0.hx C0.hb dX8_quietest_47 (by decide) ?_
      refine lv_istore (lv' := [(4, .int (0 : Int32)), (0, .ref (b0 + a0)), (1, .int x1), (2, .ref (b0 + a2)), (3, .int x3)]) C0.hx C0.hb dX8_quietest_48 hl (by decide) rfl (fun ls hl => ?_)
      exact w_X8_quietest_b50 C0 hr hlocks (fun a0 x1 a2 x3 S => f_X8_quietest_b36  n a0 x1 a2 x3 S) ih FU a0 x1 a2 x3 (0 : Int32) S _ _ _ hw (lv_sub hl [1, 2, 3, 4, 0] rfl) h
set_option maxHeartbeats 4000000 in
set_option maxRecDepth 100000 in
theorem m_X8_quietest (l : Launch) (b0 : Nat) (D : va_G) (cy : Nat → ClassId) (S : Mem) (a0 : Nat) (x1 : Int32) {q : (Int32 × Mem)} (h : f_X8_quietest a0 x1 S = some q) : Met l yX8_quietest [.code yX8_quietest cX8_quietest 5 (some .int)] rm_X8_quietest (Pr b0 D cy S [.ref (b0 + a0), .int x1]) (Qp b0 D cy (some (.int q.1)) q.2) 0 0 (fun q => b0 ≤ q) := by
  refine Met.ofW (cc := cX8_quietest) (maxL := 5) (ret := some .int) (by decide) rfl ?_
  intro p e s m args below meth c s₁ B hml hv
  obtain ⟨rfl, hP, hK, hT⟩ := hv
  have C0 : Cx p m c cX8_quietest 5 s (List.toArray [.ref (b0 + a0), .int x1]) RX8 D cy := ⟨⟨B.exec, B.bytes, hml, findClass_of_methodNamed B.named, fun w h => hT w h _⟩, hK, hT⟩
  have hr : meth.sig.returnType = some .int := B.returns
  have hlocks := B.notSynchronized
  have hw : Wd b0 D cy S s.heap s.heap [] := ⟨hP, va_S.rf⟩
  have hl := lv_entry ([.ref (b0 + a0), .int x1]) (n := 5) (Nat.le_of_ble_eq_true rfl)
  rw [lg_entry_eq]
  generalize (lg_sl ([.ref (b0 + a0), .int x1]) ++ List.replicate (5 - (lg_sl ([.ref (b0 + a0), .int x1])).length) Slot.unset).toArray = ls at hl ⊢
  have hl : lv_has ls 5 [(0, .ref (b0 + a0)), (1, .int x1)] := hl
  rw [f_X8_quietest] at h
  show W p l e rm_X8_quietest s m _ below meth c s.heap [] 0 0 _ _
  refine lv_aload_n C0.hx C0.hb dX8_quietest_0 rfl (lv_at hl 0 rfl) ?_
  refine lv_iload_n C0.hx C0.hb dX8_quietest_1 rfl (lv_at hl 1 rfl) ?_
  obtain ⟨c1, hc1, h⟩ := Option.bind_eq_some_iff.mp h
  obtain ⟨v2, hv2, h⟩ := Option.bind_eq_some_iff.mp h
  refine q_callV (n := 1) (av := [.int x1]) (rest := []) (st1 := [.int v2]) C0 hw (m_X8_isNoRoom l b0 D cy S a0 x1 hv2) hc1 rfl (by decide) (goodV kw_505 kw_507 kw_10 kw_63 kw_508) ⟨rfl, rfl⟩ (by decide +kernel) ⟨(Nat.le_of_ble_eq_true rfl), (Nat.le_of_ble_eq_true rfl)⟩ rfl hl.1 rfl (Nat.le_of_ble_eq_true rfl) dX8_quietest_2 ⟨Nat.zero_le _, Nat.zero_le _⟩ rfl (fun H locs hw => ?_)
  refine lv_if_eq (tgt := 11) C0.hx C0.hb dX8_quietest_5 (by decide) (fun hc => ?_) (fun hc => ?_)
  · have h := (if_pos hc).symm.trans h
    refine lv_aload_n C0.hx C0.hb dX8_quietest_11 rfl (lv_at hl 0 rfl) ?_
    obtain ⟨r3, hr3, h⟩ := Option.bind_eq_some_iff.mp h
    refine q_getR C0 hw hr3 rfl in_8 (by decide) kw_359 dX8_quietest_12 ?_
    refine lv_astore_n (lv' := [(2, .ref (b0 + r3)), (0, .ref (b0 + a0)), (1, .int x1)]) C0.hx C0.hb dX8_quietest_15 rfl hl (by decide) rfl (fun ls hl => ?_)
    refine lv_aload_n C0.hx C0.hb dX8_quietest_16 rfl (lv_at hl 0 rfl) ?_
    refine lv_iconst (v := (-1 : Int32)) C0.hx C0.hb dX8_quietest_17 (by decide) ?_
    obtain ⟨S4, hS4, h⟩ := Option.bind_eq_some_iff.mp h
    refine q_callS (n := 2) (av := [.ref (b0 + r3), .int (-1 : Int32)]) (rest := []) (st1 := []) C0 hw (m_J7_fill_53178 l b0 D cy S r3 (-1 : Int32) hS4) (goodS kw_741 kw_474 kw_73 kw_475) ⟨rfl, rfl⟩ (by decide +kernel) ⟨(Nat.le_of_ble_eq_true rfl), (Nat.le_of_ble_eq_true rfl)⟩ rfl hl.1 rfl (Nat.le_of_ble_eq_true rfl) dX8_quietest_18 ⟨Nat.zero_le _, Nat.zero_le _⟩ rfl (fun H locs hw => ?_)
    refine lv_aload_n C0.hx C0.hb dX8_quietest_21 rfl (lv_at hl 0 rfl) ?_
    refine lv_aload_n C0.hx C0.hb dX8_quietest_22 rfl (lv_at hl 1 rfl) ?_
    obtain ⟨r5, hr5, h⟩ := Option.bind_eq_some_iff.mp h
    refine q_getR C0 hw hr5 rfl in_8 (by decide) kw_352 dX8_quietest_23 ?_
    obtain ⟨r6, hr6, h⟩ := Option.bind_eq_some_iff.mp h
    refine q_getR C0 hw hr6 rfl in_5 (by decide) kw_259 dX8_quietest_26 ?_
    obtain ⟨v7, hv7, h⟩ := Option.bind_eq_some_iff.mp h
    refine q_getI C0 hw hv7 rfl in_4 (by decide) kw_200 dX8_quietest_29 ?_
    refine lv_iconst (v := (0 : Int32)) C0.hx C0.hb dX8_quietest_32 (by decide) ?_
    obtain ⟨S8, hS8, h⟩ := Option.bind_eq_some_iff.mp h
    refine q_stI C0 hw hS8 dX8_quietest_33 (fun H locs hw => ?_)
    refine lv_iconst (v := (0 : Int32)) C0.hx C0.hb dX8_quietest_34 (by decide) ?_
    refine lv_istore_n (lv' := [(3, .int (0 : Int32)), (2, .ref (b0 + r3)), (0, .ref (b0 + a0)), (1, .int x1)]) C0.hx C0.hb dX8_quietest_35 rfl hl (by decide) rfl (fun ls hl => ?_)
    exact w_X8_quietest_b36 C0 hr hlocks FU a0 x1 r3 (0 : Int32) S8 _ _ _ hw (lv_sub hl [2, 3, 1, 0] rfl) h
  · have h := (if_neg hc).symm.trans h
    refine lv_ldc C0.hx C0.hb C0.ho (C0.w kw_509) dX8_quietest_8 ?_
    obtain rfl := Option.some.inj h
    exact q_reti C0 hw hr hlocks dX8_quietest_10
abbrev rm_X8_stand : Room := { frames := 5, cells := 0, slots := 0, locals := 120 }
def f_X8_stand_b29 : Nat → Nat → Int32 → Mem → Option (Int32 × Mem)
  | 0, _, _, _ => none
  | n + 1, a0, x1, S =>
    (if (100 : Int32) ≤ x1 then
      some ((-1 : Int32), S)
      else
      (gR 8 7 S a0).bind fun r8 =>
      (gI 4 1 S r8).bind fun v9 =>
      (gR 8 2 S a0).bind fun r10 =>
      (gR 5 0 S r10).bind fun r11 =>
      (gI 4 1 S r11).bind fun v12 =>
      (if v9 = v12 then
      (gR 8 7 S a0).bind fun r13 =>
      (ck 4 S r13).bind fun c14 =>
      (f_X4_tryHour r13 S).bind fun S15 =>
      (some (x1 + (1 : Int32))).bind fun v16 =>
      f_X8_stand_b29  n a0 v16 S15
      else
      (gR 8 7 S a0).bind fun r17 =>
      (gI 4 1 S r17).bind fun v18 =>
      some (v18, S)))
def f_X8_stand (a0 : Nat) (S : Mem) : Option (Int32 × Mem) :=
    (gR 8 1 S a0).bind fun r1 =>
      (gI 2 2 S r1).bind fun v2 =>
      (if v2 = (0 : Int32) then
      some ((-1000000003 : Int32), S)
      else
      (gR 8 7 S a0).bind fun r3 =>
      (gR 8 2 S a0).bind fun r4 =>
      (gR 5 0 S r4).bind fun r5 =>
      (ck 4 S r3).bind fun c6 =>
      (f_X4_copyFrom r3 r5 S).bind fun S7 =>
      f_X8_stand_b29 FU a0 (0 : Int32) S7)
set_option maxHeartbeats 4000000 in
set_option maxRecDepth 100000 in
theorem w_X8_stand_b29 {p : Program} {l : Launch} {e : Env} {s : State} {m : MethodId} {args : Array Value} {below : List Frame} {meth : Method} {c : Code} {b0 : Nat} {D : va_G} {cy : Nat → ClassId} {q : (Int32 × Mem)} (C0 : Cx p m c cX8_stand 2 s args RX8 D cy) (hr : meth.sig.returnType = some .int) (hlocks : meth.locks = false) : ∀ (n : Nat) (a0 : Nat) (x1 : Int32) (S : Mem) (H : Heap) (locs : List Loc) (ls : Array Slot), Wd b0 D cy S s.heap H locs → lv_has ls 2 [(0, .ref (b0 + a0)), (1, .int x1)] → f_X8_stand_b29  n a0 x1 S = some q → W p l e rm_X8_stand s m args below meth c H locs 0 0 (MQ below (Qp b0 D cy (some (.int q.1)) q.2) args s 0 0 (fun q => b0 ≤ q)) (F0 m 29 ls []) := by
  intro n
  induction n with
  | zero => intro a0 x1 S H locs ls hw hl h; exact absurd h (by simp [f_X8_stand_b29])
  | succ n ih =>
    intro a0 x1 S H locs ls hw hl h
    rw [f_X8_stand_b29] at h
    refine lv_iload_n C0.hx C0.hb dX8_stand_29 rfl (lv_at hl 1 rfl) ?_
    refine lv_bipush (v := (100 : Int32)) C0.hx C0.hb dX8_stand_30 (by decide) ?_
    refine lv_icmp_ge (tgt := 76) C0.hx C0.hb dX8_stand_32 (by decide) (fun hc => ?_) (fun hc => ?_)
    · have h := (if_pos hc).symm.trans h
      refine lv_iconst (v := (-1 : Int32)) C0.hx C0.hb dX8_stand_76 (by decide) ?_
      obtain rfl := Option.some.inj h
      exact q_reti C0 hw hr hlocks dX8_stand_77
    · have h := (if_neg hc).symm.trans h
      refine lv_aload_n C0.hx C0.hb dX8_stand_35 rfl (lv_at hl 0 rfl) ?_
      obtain ⟨r8, hr8, h⟩ := Option.bind_eq_some_iff.mp h
      refine q_getR C0 hw hr8 rfl in_8 (by decide) kw_357 dX8_stand_36 ?_
      obtain ⟨v9, hv9, h⟩ := Option.bind_eq_some_iff.mp h
      refine q_getI C0 hw hv9 rfl in_4 (by decide) kw_200 dX8_stand_39 ?_
      refine lv_aload_n C0.hx C0.hb dX8_stand_42 rfl (lv_at hl 0 rfl) ?_
      obtain ⟨r10, hr10, h⟩ := Option.bind_eq_some_iff.mp h
      refine q_getR C0 hw hr10 rfl in_8 (by decide) kw_352 dX8_stand_43 ?_
      obtain ⟨r11, hr11, h⟩ := Option.bind_eq_some_iff.mp h
      refine q_getR C0 hw hr11 rfl in_5 (by decide) kw_259 dX8_stand_46 ?_
      obtain ⟨v12, hv12, h⟩ := Option.bind_eq_some_iff.mp h
      refine q_getI C0 hw hv12 rfl in_4 (by decide) kw_200 dX8_stand_49 ?_
      refine lv_icmp_eq (tgt := 63) C0.hx C0.hb dX8_stand_52 (by decide) (fun hc => ?_) (fun hc => ?_)
      · have h := (if_pos hc).symm.trans h
        refine lv_aload_n C0.hx C0.hb dX8_stand_63 rfl (lv_at hl 0 rfl) ?_
        obtain ⟨r13, hr13, h⟩ := Option.bind_eq_some_iff.mp h
        refine q_getR C0 hw hr13 rfl in_8 (by decide) kw_357 dX8_stand_64 ?_
        obtain ⟨c14, hc14, h⟩ := Option.bind_eq_some_iff.mp h
        obtain ⟨S15, hS15, h⟩ := Option.bind_eq_some_iff.mp h
        refine q_callV (n := 0) (av := []) (rest := []) (st1 := []) C0 hw (m_X4_tryHour l b0 D cy S r13 hS15) hc14 rfl (by decide) (goodV kw_688 kw_689 kw_690 kw_67 kw_691) ⟨rfl, rfl⟩ (by decide +kernel) ⟨(Nat.le_of_ble_eq_true rfl), (Nat.le_of_ble_eq_true rfl)⟩ rfl hl.1 rfl (Nat.le_of_ble_eq_true rfl) dX8_stand_67 ⟨Nat.zero_le _, Nat.zero_le _⟩ rfl (fun H locs hw => ?_)
        obtain ⟨v16, hv16, h⟩ := Option.bind_eq_some_iff.mp h
        refine lv_iinc (v := v16) (lv' := [(1, .int v16), (0, .ref (b0 + a0))]) C0.hx C0.hb dX8_stand_70 hl (k := 1) rfl (by rw [← Option.some.inj hv16]; rfl) (by decide) rfl (fun ls hl => ?_)
        refine lv_goto (tgt := 29) C0.hx C0.hb dX8_stand_73 (by decide) ?_
        exact ih a0 v16 S15 _ _ _ hw (lv_sub hl [1, 0] rfl) h
      · have h := (if_neg hc).symm.trans h
        refine lv_aload_n C0.hx C0.hb dX8_stand_55 rfl (lv_at hl 0 rfl) ?_
        obtain ⟨r17, hr17, h⟩ := Option.bind_eq_some_iff.mp h
        refine q_getR C0 hw hr17 rfl in_8 (by decide) kw_357 dX8_stand_56 ?_
        obtain ⟨v18, hv18, h⟩ := Option.bind_eq_some_iff.mp h
        refine q_getI C0 hw hv18 rfl in_4 (by decide) kw_200 dX8_stand_59 ?_
        obtain rfl := Option.some.inj h
        exact q_reti C0 hw hr hlocks dX8_stand_62
set_option maxHeartbeats 4000000 in
set_option maxRecDepth 100000 in
theorem m_X8_stand (l : Launch) (b0 : Nat) (D : va_G) (cy : Nat → ClassId) (S : Mem) (a0 : Nat) {q : (Int32 × Mem)} (h : f_X8_stand a0 S = some q) : Met l yX8_stand [.code yX8_stand cX8_stand 2 (some .int)] rm_X8_stand (Pr b0 D cy S [.ref (b0 + a0)]) (Qp b0 D cy (some (.int q.1)) q.2) 0 0 (fun q => b0 ≤ q) := by
  refine Met.ofW (cc := cX8_stand) (maxL := 2) (ret := some .int) (by decide) rfl ?_
  intro p e s m args below meth c s₁ B hml hv
  obtain ⟨rfl, hP, hK, hT⟩ := hv
  have C0 : Cx p m c cX8_stand 2 s (List.toArray [.ref (b0 + a0)]) RX8 D cy := ⟨⟨B.exec, B.bytes, hml, findClass_of_methodNamed B.named, fun w h => hT w h _⟩, hK, hT⟩
  have hr : meth.sig.returnType = some .int := B.returns
  have hlocks := B.notSynchronized
  have hw : Wd b0 D cy S s.heap s.heap [] := ⟨hP, va_S.rf⟩
  have hl := lv_entry ([.ref (b0 + a0)]) (n := 2) (Nat.le_of_ble_eq_true rfl)
  rw [lg_entry_eq]
  generalize (lg_sl ([.ref (b0 + a0)]) ++ List.replicate (2 - (lg_sl ([.ref (b0 + a0)])).length) Slot.unset).toArray = ls at hl ⊢
  have hl : lv_has ls 2 [(0, .ref (b0 + a0))] := hl
  rw [f_X8_stand] at h
  show W p l e rm_X8_stand s m _ below meth c s.heap [] 0 0 _ _
  refine lv_aload_n C0.hx C0.hb dX8_stand_0 rfl (lv_at hl 0 rfl) ?_
  obtain ⟨r1, hr1, h⟩ := Option.bind_eq_some_iff.mp h
  refine q_getR C0 hw hr1 rfl in_8 (by decide) kw_351 dX8_stand_1 ?_
  obtain ⟨v2, hv2, h⟩ := Option.bind_eq_some_iff.mp h
  refine q_getI C0 hw hv2 rfl in_2 (by decide) kw_105 dX8_stand_4 ?_
  refine lv_if_ne (tgt := 13) C0.hx C0.hb dX8_stand_7 (by decide) (fun hc => ?_) (fun hc => ?_)
  · have h := (if_neg hc).symm.trans h
    refine lv_aload_n C0.hx C0.hb dX8_stand_13 rfl (lv_at hl 0 rfl) ?_
    obtain ⟨r3, hr3, h⟩ := Option.bind_eq_some_iff.mp h
    refine q_getR C0 hw hr3 rfl in_8 (by decide) kw_357 dX8_stand_14 ?_
    refine lv_aload_n C0.hx C0.hb dX8_stand_17 rfl (lv_at hl 0 rfl) ?_
    obtain ⟨r4, hr4, h⟩ := Option.bind_eq_some_iff.mp h
    refine q_getR C0 hw hr4 rfl in_8 (by decide) kw_352 dX8_stand_18 ?_
    obtain ⟨r5, hr5, h⟩ := Option.bind_eq_some_iff.mp h
    refine q_getR C0 hw hr5 rfl in_5 (by decide) kw_259 dX8_stand_21 ?_
    obtain ⟨c6, hc6, h⟩ := Option.bind_eq_some_iff.mp h
    obtain ⟨S7, hS7, h⟩ := Option.bind_eq_some_iff.mp h
    refine q_callV (n := 1) (av := [.ref (b0 + r5)]) (rest := []) (st1 := []) C0 hw (m_X4_copyFrom l b0 D cy S r3 r5 hS7) hc6 rfl (by decide) (goodV kw_687 kw_572 kw_573 kw_67 kw_574) ⟨rfl, rfl⟩ (by decide +kernel) ⟨(Nat.le_of_ble_eq_true rfl), (Nat.le_of_ble_eq_true rfl)⟩ rfl hl.1 rfl (Nat.le_of_ble_eq_true rfl) dX8_stand_24 ⟨Nat.zero_le _, Nat.zero_le _⟩ rfl (fun H locs hw => ?_)
    refine lv_iconst (v := (0 : Int32)) C0.hx C0.hb dX8_stand_27 (by decide) ?_
    refine lv_istore_n (lv' := [(1, .int (0 : Int32)), (0, .ref (b0 + a0))]) C0.hx C0.hb dX8_stand_28 rfl hl (by decide) rfl (fun ls hl => ?_)
    exact w_X8_stand_b29 C0 hr hlocks FU a0 (0 : Int32) S7 _ _ _ hw (lv_sub hl [1, 0] rfl) h
  · have h := (if_pos hc).symm.trans h
    refine lv_ldc C0.hx C0.hb C0.ho (C0.w kw_562) dX8_stand_10 ?_
    obtain rfl := Option.some.inj h
    exact q_reti C0 hw hr hlocks dX8_stand_12
abbrev rm_X8_worthToHear : Room := { frames := 1, cells := 0, slots := 0, locals := 21 }
def f_X8_worthToHear_b58 (S : Mem) (k4 : Nat → Int32 → Int32 → Int32 → Option Int32) (a0 : Nat) (x1 : Int32) (x2 : Int32) (x3 : Int32) : Option Int32 :=
    (some (x3 + (1 : Int32))).bind fun v5 =>
      k4 a0 x1 x2 v5
def f_X8_worthToHear_b4 (S : Mem) : Nat → Nat → Int32 → Int32 → Int32 → Option Int32
  | 0, _, _, _, _ => none
  | n + 1, a0, x1, x2, x3 =>
    (gR 8 1 S a0).bind fun r1 =>
      (gI 2 4 S r1).bind fun v2 =>
      (if v2 ≤ x3 then
      some x2
      else
      (gR 8 2 S a0).bind fun r3 =>
      (gI 5 4 S r3).bind fun v4 =>
      (if (f_X8_bit v4 x3) = (0 : Int32) then
      (gR 8 2 S a0).bind fun r6 =>
      (gR 5 7 S r6).bind fun r7 =>
      (ldI S r7 x3).bind fun v8 =>
      (if (f_X8_bit x1 v8) = (1 : Int32) then
      (gR 8 1 S a0).bind fun r9 =>
      (gR 2 10 S r9).bind fun r10 =>
      (ldI S r10 x3).bind fun v11 =>
      (some (x2 + v11)).bind fun v12 =>
      f_X8_worthToHear_b58 S (fun a0 x1 x2 x3 => f_X8_worthToHear_b4 S  n a0 x1 x2 x3) a0 x1 v12 x3
      else
      f_X8_worthToHear_b58 S (fun a0 x1 x2 x3 => f_X8_worthToHear_b4 S  n a0 x1 x2 x3) a0 x1 x2 x3)
      else
      f_X8_worthToHear_b58 S (fun a0 x1 x2 x3 => f_X8_worthToHear_b4 S  n a0 x1 x2 x3) a0 x1 x2 x3))
def f_X8_worthToHear (a0 : Nat) (x1 : Int32) (S : Mem) : Option Int32 :=
    f_X8_worthToHear_b4 S FU a0 x1 (0 : Int32) (0 : Int32)
set_option maxHeartbeats 4000000 in
set_option maxRecDepth 100000 in
theorem w_X8_worthToHear_b58 {p : Program} {l : Launch} {e : Env} {s : State} {m : MethodId} {args : Array Value} {below : List Frame} {meth : Method} {c : Code} {b0 : Nat} {D : va_G} {cy : Nat → ClassId} {S : Mem} {q : Int32} (C0 : Cx p m c cX8_worthToHear 4 s args RX8 D cy) (hr : meth.sig.returnType = some .int) (hlocks : meth.locks = false) (k4 : Nat → Int32 → Int32 → Int32 → Option Int32) (hk4 : ∀ (a0 : Nat) (x1 : Int32) (x2 : Int32) (x3 : Int32) (H : Heap) (locs : List Loc) (ls : Array Slot), Wd b0 D cy S s.heap H locs → lv_has ls 4 [(0, .ref (b0 + a0)), (1, .int x1), (2, .int x2), (3, .int x3)] → k4 a0 x1 x2 x3 = some q → W p l e rm_X8_worthToHear s m args below meth c H locs 0 0 (MQ below (Qp b0 D cy (some (.int q)) S) args s 0 0 (fun q => b0 ≤ q)) (F0 m 4 ls [])) : ∀ (a0 : Nat) (x1 : Int32) (x2 : Int32) (x3 : Int32) (H : Heap) (locs : List Loc) (ls : Array Slot), Wd b0 D cy S s.heap H locs → lv_has ls 4 [(0, .ref (b0 + a0)), (1, .int x1), (2, .int x2), (3, .int x3)] → f_X8_worthToHear_b58 S k4 a0 x1 x2 x3 = some q → W p l e rm_X8_worthToHear s m args below meth c H locs 0 0 (MQ below (Qp b0 D cy (some (.int q)) S) args s 0 0 (fun q => b0 ≤ q)) (F0 m 58 ls []) := by
  intro a0 x1 x2 x3 H locs ls hw hl h
  rw [f_X8_worthToHear_b58] at h
  obtain ⟨v5, hv5, h⟩ := Option.bind_eq_some_iff.mp h
  refine lv_iinc (v := v5) (lv' := [(3, .int v5), (0, .ref (b0 + a0)), (1, .int x1), (2, .int x2)]) C0.hx C0.hb dX8_worthToHear_58 hl (k := 3) rfl (by rw [← Option.some.inj hv5]; rfl) (by decide) rfl (fun ls hl => ?_)
  refine lv_goto (tgt := 4) C0.hx C0.hb dX8_worthToHear_61 (by decide) ?_
  exact hk4 a0 x1 x2 v5 _ _ _ hw (lv_sub hl [1, 2, 3, 0] rfl) h
set_option maxHeartbeats 4000000 in
set_option maxRecDepth 100000 in
theorem w_X8_worthToHear_b4 {p : Program} {l : Launch} {e : Env} {s : State} {m : MethodId} {args : Array Value} {below : List Frame} {meth : Method} {c : Code} {b0 : Nat} {D : va_G} {cy : Nat → ClassId} {S : Mem} {q : Int32} (C0 : Cx p m c cX8_worthToHear 4 s args RX8 D cy) (hr : meth.sig.returnType = some .int) (hlocks : meth.locks = false) : ∀ (n : Nat) (a0 : Nat) (x1 : Int32) (x2 : Int32) (x3 : Int32) (H : Heap) (locs : List Loc) (ls : Array Slot), Wd b0 D cy S s.heap H locs → lv_has ls 4 [(0, .ref (b0 + a0)), (1, .int x1), (2, .int x2), (3, .int x3)] → f_X8_worthToHear_b4 S  n a0 x1 x2 x3 = some q → W p l e rm_X8_worthToHear s m args below meth c H locs 0 0 (MQ below (Qp b0 D cy (some (.int q)) S) args s 0 0 (fun q => b0 ≤ q)) (F0 m 4 ls []) := by
  intro n
  induction n with
  | zero => intro a0 x1 x2 x3 H locs ls hw hl h; exact absurd h (by simp [f_X8_worthToHear_b4])
  | succ n ih =>
    intro a0 x1 x2 x3 H locs ls hw hl h
    rw [f_X8_worthToHear_b4] at h
    refine lv_iload_n C0.hx C0.hb dX8_worthToHear_4 rfl (lv_at hl 3 rfl) ?_
    refine lv_aload_n C0.hx C0.hb dX8_worthToHear_5 rfl (lv_at hl 0 rfl) ?_
    obtain ⟨r1, hr1, h⟩ := Option.bind_eq_some_iff.mp h
    refine q_getR C0 hw hr1 rfl in_8 (by decide) kw_351 dX8_worthToHear_6 ?_
    obtain ⟨v2, hv2, h⟩ := Option.bind_eq_some_iff.mp h
    refine q_getI C0 hw hv2 rfl in_2 (by decide) kw_113 dX8_worthToHear_9 ?_
    refine lv_icmp_ge (tgt := 64) C0.hx C0.hb dX8_worthToHear_12 (by decide) (fun hc => ?_) (fun hc => ?_)
    · have h := (if_pos hc).symm.trans h
      refine lv_iload_n C0.hx C0.hb dX8_worthToHear_64 rfl (lv_at hl 2 rfl) ?_
      obtain rfl := Option.some.inj h
      exact q_reti C0 hw hr hlocks dX8_worthToHear_65
    · have h := (if_neg hc).symm.trans h
      refine lv_aload_n C0.hx C0.hb dX8_worthToHear_15 rfl (lv_at hl 0 rfl) ?_
      obtain ⟨r3, hr3, h⟩ := Option.bind_eq_some_iff.mp h
      refine q_getR C0 hw hr3 rfl in_8 (by decide) kw_352 dX8_worthToHear_16 ?_
      obtain ⟨v4, hv4, h⟩ := Option.bind_eq_some_iff.mp h
      refine q_getI C0 hw hv4 rfl in_5 (by decide) kw_267 dX8_worthToHear_19 ?_
      refine lv_iload_n C0.hx C0.hb dX8_worthToHear_22 rfl (lv_at hl 3 rfl) ?_
      refine q_callS (n := 2) (av := [.int v4, .int x3]) (rest := []) (st1 := [.int (f_X8_bit v4 x3)]) C0 hw (m_X8_bit l b0 D cy S v4 x3) (goodS kw_537 kw_529 kw_63 kw_530) ⟨rfl, rfl⟩ (by decide +kernel) ⟨(Nat.le_of_ble_eq_true rfl), (Nat.le_of_ble_eq_true rfl)⟩ rfl hl.1 rfl (Nat.le_of_ble_eq_true rfl) dX8_worthToHear_23 ⟨Nat.zero_le _, Nat.zero_le _⟩ rfl (fun H locs hw => ?_)
      refine lv_if_ne (tgt := 58) C0.hx C0.hb dX8_worthToHear_26 (by decide) (fun hc => ?_) (fun hc => ?_)
      · have h := (if_neg hc).symm.trans h
        exact w_X8_worthToHear_b58 C0 hr hlocks (fun a0 x1 x2 x3 => f_X8_worthToHear_b4 S  n a0 x1 x2 x3) ih a0 x1 x2 x3 _ _ _ hw (lv_sub hl [0, 1, 2, 3] rfl) h
      · have h := (if_pos hc).symm.trans h
        refine lv_iload_n C0.hx C0.hb dX8_worthToHear_29 rfl (lv_at hl 1 rfl) ?_
        refine lv_aload_n C0.hx C0.hb dX8_worthToHear_30 rfl (lv_at hl 0 rfl) ?_
        obtain ⟨r6, hr6, h⟩ := Option.bind_eq_some_iff.mp h
        refine q_getR C0 hw hr6 rfl in_8 (by decide) kw_352 dX8_worthToHear_31 ?_
        obtain ⟨r7, hr7, h⟩ := Option.bind_eq_some_iff.mp h
        refine q_getR C0 hw hr7 rfl in_5 (by decide) kw_273 dX8_worthToHear_34 ?_
        refine lv_iload_n C0.hx C0.hb dX8_worthToHear_37 rfl (lv_at hl 3 rfl) ?_
        obtain ⟨v8, hv8, h⟩ := Option.bind_eq_some_iff.mp h
        refine q_ldI C0 hw hv8 dX8_worthToHear_38 ?_
        refine q_callS (n := 2) (av := [.int x1, .int v8]) (rest := []) (st1 := [.int (f_X8_bit x1 v8)]) C0 hw (m_X8_bit l b0 D cy S x1 v8) (goodS kw_537 kw_529 kw_63 kw_530) ⟨rfl, rfl⟩ (by decide +kernel) ⟨(Nat.le_of_ble_eq_true rfl), (Nat.le_of_ble_eq_true rfl)⟩ rfl hl.1 rfl (Nat.le_of_ble_eq_true rfl) dX8_worthToHear_39 ⟨Nat.zero_le _, Nat.zero_le _⟩ rfl (fun H locs hw => ?_)
        refine lv_iconst (v := (1 : Int32)) C0.hx C0.hb dX8_worthToHear_42 (by decide) ?_
        refine lv_icmp_ne (tgt := 58) C0.hx C0.hb dX8_worthToHear_43 (by decide) (fun hc => ?_) (fun hc => ?_)
        · have h := (if_neg hc).symm.trans h
          exact w_X8_worthToHear_b58 C0 hr hlocks (fun a0 x1 x2 x3 => f_X8_worthToHear_b4 S  n a0 x1 x2 x3) ih a0 x1 x2 x3 _ _ _ hw (lv_sub hl [0, 1, 2, 3] rfl) h
        · have h := (if_pos hc).symm.trans h
          refine lv_iload_n C0.hx C0.hb dX8_worthToHear_46 rfl (lv_at hl 2 rfl) ?_
          refine lv_aload_n C0.hx C0.hb dX8_worthToHear_47 rfl (lv_at hl 0 rfl) ?_
          obtain ⟨r9, hr9, h⟩ := Option.bind_eq_some_iff.mp h
          refine q_getR C0 hw hr9 rfl in_8 (by decide) kw_351 dX8_worthToHear_48 ?_
          obtain ⟨r10, hr10, h⟩ := Option.bind_eq_some_iff.mp h
          refine q_getR C0 hw hr10 rfl in_2 (by decide) kw_129 dX8_worthToHear_51 ?_
          refine lv_iload_n C0.hx C0.hb dX8_worthToHear_54 rfl (lv_at hl 3 rfl) ?_
          obtain ⟨v11, hv11, h⟩ := Option.bind_eq_some_iff.mp h
          refine q_ldI C0 hw hv11 dX8_worthToHear_55 ?_
          refine lv_iadd C0.hx C0.hb dX8_worthToHear_56 ?_
          obtain ⟨v12, hv12, h⟩ := Option.bind_eq_some_iff.mp h
          refine q_nmI hv12 ?_
          refine lv_istore_n (lv' := [(2, .int v12), (0, .ref (b0 + a0)), (1, .int x1), (3, .int x3)]) C0.hx C0.hb dX8_worthToHear_57 rfl hl (by decide) rfl (fun ls hl => ?_)
          exact w_X8_worthToHear_b58 C0 hr hlocks (fun a0 x1 x2 x3 => f_X8_worthToHear_b4 S  n a0 x1 x2 x3) ih a0 x1 v12 x3 _ _ _ hw (lv_sub hl [1, 2, 0, 3] rfl) h
set_option maxHeartbeats 4000000 in
set_option maxRecDepth 100000 in
theorem m_X8_worthToHear (l : Launch) (b0 : Nat) (D : va_G) (cy : Nat → ClassId) (S : Mem) (a0 : Nat) (x1 : Int32) {q : Int32} (h : f_X8_worthToHear a0 x1 S = some q) : Met l yX8_worthToHear [.code yX8_worthToHear cX8_worthToHear 4 (some .int)] rm_X8_worthToHear (Pr b0 D cy S [.ref (b0 + a0), .int x1]) (Qp b0 D cy (some (.int q)) S) 0 0 (fun q => b0 ≤ q) := by
  refine Met.ofW (cc := cX8_worthToHear) (maxL := 4) (ret := some .int) (by decide) rfl ?_
  intro p e s m args below meth c s₁ B hml hv
  obtain ⟨rfl, hP, hK, hT⟩ := hv
  have C0 : Cx p m c cX8_worthToHear 4 s (List.toArray [.ref (b0 + a0), .int x1]) RX8 D cy := ⟨⟨B.exec, B.bytes, hml, findClass_of_methodNamed B.named, fun w h => hT w h _⟩, hK, hT⟩
  have hr : meth.sig.returnType = some .int := B.returns
  have hlocks := B.notSynchronized
  have hw : Wd b0 D cy S s.heap s.heap [] := ⟨hP, va_S.rf⟩
  have hl := lv_entry ([.ref (b0 + a0), .int x1]) (n := 4) (Nat.le_of_ble_eq_true rfl)
  rw [lg_entry_eq]
  generalize (lg_sl ([.ref (b0 + a0), .int x1]) ++ List.replicate (4 - (lg_sl ([.ref (b0 + a0), .int x1])).length) Slot.unset).toArray = ls at hl ⊢
  have hl : lv_has ls 4 [(0, .ref (b0 + a0)), (1, .int x1)] := hl
  rw [f_X8_worthToHear] at h
  show W p l e rm_X8_worthToHear s m _ below meth c s.heap [] 0 0 _ _
  refine lv_iconst (v := (0 : Int32)) C0.hx C0.hb dX8_worthToHear_0 (by decide) ?_
  refine lv_istore_n (lv' := [(2, .int (0 : Int32)), (0, .ref (b0 + a0)), (1, .int x1)]) C0.hx C0.hb dX8_worthToHear_1 rfl hl (by decide) rfl (fun ls hl => ?_)
  refine lv_iconst (v := (0 : Int32)) C0.hx C0.hb dX8_worthToHear_2 (by decide) ?_
  refine lv_istore_n (lv' := [(3, .int (0 : Int32)), (2, .int (0 : Int32)), (0, .ref (b0 + a0)), (1, .int x1)]) C0.hx C0.hb dX8_worthToHear_3 rfl hl (by decide) rfl (fun ls hl => ?_)
  exact w_X8_worthToHear_b4 C0 hr hlocks FU a0 x1 (0 : Int32) (0 : Int32) _ _ _ hw (lv_sub hl [2, 3, 1, 0] rfl) h
abbrev rm_X8_willHear : Room := { frames := 5, cells := 0, slots := 0, locals := 120 }
def f_X8_willHear_b45 : Nat → Nat → Int32 → Int32 → Int32 → Mem → Option (Int32 × Mem)
  | 0, _, _, _, _, _ => none
  | n + 1, a0, x1, x2, x3, S =>
    (if x1 ≤ x3 then
      (ck 8 S a0).bind fun c8 =>
      (f_X8_worthToHear a0 x2 S).bind fun v9 =>
      some (v9, S)
      else
      (gR 8 7 S a0).bind fun r10 =>
      (gI 4 1 S r10).bind fun v11 =>
      (some (x2 ||| ((1 : Int32) <<< (v11 &&& 31)))).bind fun v12 =>
      (gR 8 7 S a0).bind fun r13 =>
      (ck 4 S r13).bind fun c14 =>
      (f_X4_tryHour r13 S).bind fun S15 =>
      (some (x3 + (1 : Int32))).bind fun v16 =>
      f_X8_willHear_b45  n a0 x1 v12 v16 S15)
def f_X8_willHear (a0 : Nat) (x1 : Int32) (S : Mem) : Option (Int32 × Mem) :=
    (if x1 < (1 : Int32) then
      some ((-1000000002 : Int32), S)
      else
      (if x1 ≤ (100 : Int32) then
      (gR 8 1 S a0).bind fun r1 =>
      (gI 2 2 S r1).bind fun v2 =>
      (if v2 = (0 : Int32) then
      some ((-1000000003 : Int32), S)
      else
      (gR 8 7 S a0).bind fun r3 =>
      (gR 8 2 S a0).bind fun r4 =>
      (gR 5 0 S r4).bind fun r5 =>
      (ck 4 S r3).bind fun c6 =>
      (f_X4_copyFrom r3 r5 S).bind fun S7 =>
      f_X8_willHear_b45 FU a0 x1 (0 : Int32) (0 : Int32) S7)
      else
      some ((-1000000002 : Int32), S)))
set_option maxHeartbeats 4000000 in
set_option maxRecDepth 100000 in
theorem w_X8_willHear_b45 {p : Program} {l : Launch} {e : Env} {s : State} {m : MethodId} {args : Array Value} {below : List Frame} {meth : Method} {c : Code} {b0 : Nat} {D : va_G} {cy : Nat → ClassId} {q : (Int32 × Mem)} (C0 : Cx p m c cX8_willHear 4 s args RX8 D cy) (hr : meth.sig.returnType = some .int) (hlocks : meth.locks = false) : ∀ (n : Nat) (a0 : Nat) (x1 : Int32) (x2 : Int32) (x3 : Int32) (S : Mem) (H : Heap) (locs : List Loc) (ls : Array Slot), Wd b0 D cy S s.heap H locs → lv_has ls 4 [(0, .ref (b0 + a0)), (1, .int x1), (2, .int x2), (3, .int x3)] → f_X8_willHear_b45  n a0 x1 x2 x3 S = some q → W p l e rm_X8_willHear s m args below meth c H locs 0 0 (MQ below (Qp b0 D cy (some (.int q.1)) q.2) args s 0 0 (fun q => b0 ≤ q)) (F0 m 45 ls []) := by
  intro n
  induction n with
  | zero => intro a0 x1 x2 x3 S H locs ls hw hl h; exact absurd h (by simp [f_X8_willHear_b45])
  | succ n ih =>
    intro a0 x1 x2 x3 S H locs ls hw hl h
    rw [f_X8_willHear_b45] at h
    refine lv_iload_n C0.hx C0.hb dX8_willHear_45 rfl (lv_at hl 3 rfl) ?_
    refine lv_iload_n C0.hx C0.hb dX8_willHear_46 rfl (lv_at hl 1 rfl) ?_
    refine lv_icmp_ge (tgt := 75) C0.hx C0.hb dX8_willHear_47 (by decide) (fun hc => ?_) (fun hc => ?_)
    · have h := (if_pos hc).symm.trans h
      refine lv_aload_n C0.hx C0.hb dX8_willHear_75 rfl (lv_at hl 0 rfl) ?_
      refine lv_iload_n C0.hx C0.hb dX8_willHear_76 rfl (lv_at hl 2 rfl) ?_
      obtain ⟨c8, hc8, h⟩ := Option.bind_eq_some_iff.mp h
      obtain ⟨v9, hv9, h⟩ := Option.bind_eq_some_iff.mp h
      refine q_callV (n := 1) (av := [.int x2]) (rest := []) (st1 := [.int v9]) C0 hw (m_X8_worthToHear l b0 D cy S a0 x2 hv9) hc8 rfl (by decide) (goodV kw_754 kw_756 kw_19 kw_63 kw_757) ⟨rfl, rfl⟩ (by decide +kernel) ⟨(Nat.le_of_ble_eq_true rfl), (Nat.le_of_ble_eq_true rfl)⟩ rfl hl.1 rfl (Nat.le_of_ble_eq_true rfl) dX8_willHear_77 ⟨Nat.zero_le _, Nat.zero_le _⟩ rfl (fun H locs hw => ?_)
      obtain rfl := Option.some.inj h
      exact q_reti C0 hw hr hlocks dX8_willHear_80
    · have h := (if_neg hc).symm.trans h
      refine lv_iload_n C0.hx C0.hb dX8_willHear_50 rfl (lv_at hl 2 rfl) ?_
      refine lv_iconst (v := (1 : Int32)) C0.hx C0.hb dX8_willHear_51 (by decide) ?_
      refine lv_aload_n C0.hx C0.hb dX8_willHear_52 rfl (lv_at hl 0 rfl) ?_
      obtain ⟨r10, hr10, h⟩ := Option.bind_eq_some_iff.mp h
      refine q_getR C0 hw hr10 rfl in_8 (by decide) kw_357 dX8_willHear_53 ?_
      obtain ⟨v11, hv11, h⟩ := Option.bind_eq_some_iff.mp h
      refine q_getI C0 hw hv11 rfl in_4 (by decide) kw_200 dX8_willHear_56 ?_
      refine lv_ishl C0.hx C0.hb dX8_willHear_59 ?_
      refine lv_ior C0.hx C0.hb dX8_willHear_60 ?_
      obtain ⟨v12, hv12, h⟩ := Option.bind_eq_some_iff.mp h
      refine q_nmI hv12 ?_
      refine lv_istore_n (lv' := [(2, .int v12), (0, .ref (b0 + a0)), (1, .int x1), (3, .int x3)]) C0.hx C0.hb dX8_willHear_61 rfl hl (by decide) rfl (fun ls hl => ?_)
      refine lv_aload_n C0.hx C0.hb dX8_willHear_62 rfl (lv_at hl 1 rfl) ?_
      obtain ⟨r13, hr13, h⟩ := Option.bind_eq_some_iff.mp h
      refine q_getR C0 hw hr13 rfl in_8 (by decide) kw_357 dX8_willHear_63 ?_
      obtain ⟨c14, hc14, h⟩ := Option.bind_eq_some_iff.mp h
      obtain ⟨S15, hS15, h⟩ := Option.bind_eq_some_iff.mp h
      refine q_callV (n := 0) (av := []) (rest := []) (st1 := []) C0 hw (m_X4_tryHour l b0 D cy S r13 hS15) hc14 rfl (by decide) (goodV kw_688 kw_689 kw_690 kw_67 kw_691) ⟨rfl, rfl⟩ (by decide +kernel) ⟨(Nat.le_of_ble_eq_true rfl), (Nat.le_of_ble_eq_true rfl)⟩ rfl hl.1 rfl (Nat.le_of_ble_eq_true rfl) dX8_willHear_66 ⟨Nat.zero_le _, Nat.zero_le _⟩ rfl (fun H locs hw => ?_)
      obtain ⟨v16, hv16, h⟩ := Option.bind_eq_some_iff.mp h
      refine lv_iinc (v := v16) (lv' := [(3, .int v16), (2, .int v12), (0, .ref (b0 + a0)), (1, .int x1)]) C0.hx C0.hb dX8_willHear_69 hl (k := 3) rfl (by rw [← Option.some.inj hv16]; rfl) (by decide) rfl (fun ls hl => ?_)
      refine lv_goto (tgt := 45) C0.hx C0.hb dX8_willHear_72 (by decide) ?_
      exact ih a0 x1 v12 v16 S15 _ _ _ hw (lv_sub hl [2, 3, 1, 0] rfl) h
set_option maxHeartbeats 4000000 in
set_option maxRecDepth 100000 in
theorem m_X8_willHear (l : Launch) (b0 : Nat) (D : va_G) (cy : Nat → ClassId) (S : Mem) (a0 : Nat) (x1 : Int32) {q : (Int32 × Mem)} (h : f_X8_willHear a0 x1 S = some q) : Met l yX8_willHear [.code yX8_willHear cX8_willHear 4 (some .int)] rm_X8_willHear (Pr b0 D cy S [.ref (b0 + a0), .int x1]) (Qp b0 D cy (some (.int q.1)) q.2) 0 0 (fun q => b0 ≤ q) := by
  refine Met.ofW (cc := cX8_willHear) (maxL := 4) (ret := some .int) (by decide) rfl ?_
  intro p e s m args below meth c s₁ B hml hv
  obtain ⟨rfl, hP, hK, hT⟩ := hv
  have C0 : Cx p m c cX8_willHear 4 s (List.toArray [.ref (b0 + a0), .int x1]) RX8 D cy := ⟨⟨B.exec, B.bytes, hml, findClass_of_methodNamed B.named, fun w h => hT w h _⟩, hK, hT⟩
  have hr : meth.sig.returnType = some .int := B.returns
  have hlocks := B.notSynchronized
  have hw : Wd b0 D cy S s.heap s.heap [] := ⟨hP, va_S.rf⟩
  have hl := lv_entry ([.ref (b0 + a0), .int x1]) (n := 4) (Nat.le_of_ble_eq_true rfl)
  rw [lg_entry_eq]
  generalize (lg_sl ([.ref (b0 + a0), .int x1]) ++ List.replicate (4 - (lg_sl ([.ref (b0 + a0), .int x1])).length) Slot.unset).toArray = ls at hl ⊢
  have hl : lv_has ls 4 [(0, .ref (b0 + a0)), (1, .int x1)] := hl
  rw [f_X8_willHear] at h
  show W p l e rm_X8_willHear s m _ below meth c s.heap [] 0 0 _ _
  refine lv_iload_n C0.hx C0.hb dX8_willHear_0 rfl (lv_at hl 1 rfl) ?_
  refine lv_iconst (v := (1 : Int32)) C0.hx C0.hb dX8_willHear_1 (by decide) ?_
  refine lv_icmp_lt (tgt := 11) C0.hx C0.hb dX8_willHear_2 (by decide) (fun hc => ?_) (fun hc => ?_)
  · have h := (if_pos hc).symm.trans h
    refine lv_ldc C0.hx C0.hb C0.ho (C0.w kw_385) dX8_willHear_11 ?_
    obtain rfl := Option.some.inj h
    exact q_reti C0 hw hr hlocks dX8_willHear_13
  · have h := (if_neg hc).symm.trans h
    refine lv_iload_n C0.hx C0.hb dX8_willHear_5 rfl (lv_at hl 1 rfl) ?_
    refine lv_bipush (v := (100 : Int32)) C0.hx C0.hb dX8_willHear_6 (by decide) ?_
    refine lv_icmp_le (tgt := 14) C0.hx C0.hb dX8_willHear_8 (by decide) (fun hc => ?_) (fun hc => ?_)
    · have h := (if_pos hc).symm.trans h
      refine lv_aload_n C0.hx C0.hb dX8_willHear_14 rfl (lv_at hl 0 rfl) ?_
      obtain ⟨r1, hr1, h⟩ := Option.bind_eq_some_iff.mp h
      refine q_getR C0 hw hr1 rfl in_8 (by decide) kw_351 dX8_willHear_15 ?_
      obtain ⟨v2, hv2, h⟩ := Option.bind_eq_some_iff.mp h
      refine q_getI C0 hw hv2 rfl in_2 (by decide) kw_105 dX8_willHear_18 ?_
      refine lv_if_ne (tgt := 27) C0.hx C0.hb dX8_willHear_21 (by decide) (fun hc => ?_) (fun hc => ?_)
      · have h := (if_neg hc).symm.trans h
        refine lv_aload_n C0.hx C0.hb dX8_willHear_27 rfl (lv_at hl 0 rfl) ?_
        obtain ⟨r3, hr3, h⟩ := Option.bind_eq_some_iff.mp h
        refine q_getR C0 hw hr3 rfl in_8 (by decide) kw_357 dX8_willHear_28 ?_
        refine lv_aload_n C0.hx C0.hb dX8_willHear_31 rfl (lv_at hl 0 rfl) ?_
        obtain ⟨r4, hr4, h⟩ := Option.bind_eq_some_iff.mp h
        refine q_getR C0 hw hr4 rfl in_8 (by decide) kw_352 dX8_willHear_32 ?_
        obtain ⟨r5, hr5, h⟩ := Option.bind_eq_some_iff.mp h
        refine q_getR C0 hw hr5 rfl in_5 (by decide) kw_259 dX8_willHear_35 ?_
        obtain ⟨c6, hc6, h⟩ := Option.bind_eq_some_iff.mp h
        obtain ⟨S7, hS7, h⟩ := Option.bind_eq_some_iff.mp h
        refine q_callV (n := 1) (av := [.ref (b0 + r5)]) (rest := []) (st1 := []) C0 hw (m_X4_copyFrom l b0 D cy S r3 r5 hS7) hc6 rfl (by decide) (goodV kw_687 kw_572 kw_573 kw_67 kw_574) ⟨rfl, rfl⟩ (by decide +kernel) ⟨(Nat.le_of_ble_eq_true rfl), (Nat.le_of_ble_eq_true rfl)⟩ rfl hl.1 rfl (Nat.le_of_ble_eq_true rfl) dX8_willHear_38 ⟨Nat.zero_le _, Nat.zero_le _⟩ rfl (fun H locs hw => ?_)
        refine lv_iconst (v := (0 : Int32)) C0.hx C0.hb dX8_willHear_41 (by decide) ?_
        refine lv_istore_n (lv' := [(2, .int (0 : Int32)), (0, .ref (b0 + a0)), (1, .int x1)]) C0.hx C0.hb dX8_willHear_42 rfl hl (by decide) rfl (fun ls hl => ?_)
        refine lv_iconst (v := (0 : Int32)) C0.hx C0.hb dX8_willHear_43 (by decide) ?_
        refine lv_istore_n (lv' := [(3, .int (0 : Int32)), (2, .int (0 : Int32)), (0, .ref (b0 + a0)), (1, .int x1)]) C0.hx C0.hb dX8_willHear_44 rfl hl (by decide) rfl (fun ls hl => ?_)
        exact w_X8_willHear_b45 C0 hr hlocks FU a0 x1 (0 : Int32) (0 : Int32) S7 _ _ _ hw (lv_sub hl [2, 3, 1, 0] rfl) h
      · have h := (if_pos hc).symm.trans h
        refine lv_ldc C0.hx C0.hb C0.ho (C0.w kw_562) dX8_willHear_24 ?_
        obtain rfl := Option.some.inj h
        exact q_reti C0 hw hr hlocks dX8_willHear_26
    · have h := (if_neg hc).symm.trans h
      refine lv_ldc C0.hx C0.hb C0.ho (C0.w kw_385) dX8_willHear_11 ?_
      obtain rfl := Option.some.inj h
      exact q_reti C0 hw hr hlocks dX8_willHear_13
abbrev rm_X8_dance : Room := { frames := 0, cells := 0, slots := 0, locals := 0 }
def f_X8_dance_b30 : Nat → Int32 → Int32 → Int64 → Int32 → Option Int32
  | 0, _, _, _, _ => none
  | n + 1, x1, x2, y3, x5 =>
    (if x1 ≤ x5 then
      some (y3.toInt32)
      else
      (some ((y3 * (((100 : Int32) - x2).toInt64)) / (100 : Int64))).bind fun u1 =>
      (some (x5 + (1 : Int32))).bind fun v2 =>
      f_X8_dance_b30  n x1 x2 u1 v2)
def f_X8_dance (a0 : Nat) (x1 : Int32) (x2 : Int32) : Option Int32 :=
    (if x1 < (0 : Int32) then
      some (-1000000002 : Int32)
      else
      (if (60 : Int32) < x1 then
      some (-1000000002 : Int32)
      else
      (if x2 < (0 : Int32) then
      some (-1000000002 : Int32)
      else
      (if x2 ≤ (100 : Int32) then
      f_X8_dance_b30 FU x1 x2 (1000000000 : Int64) (0 : Int32)
      else
      some (-1000000002 : Int32)))))
set_option maxHeartbeats 4000000 in
set_option maxRecDepth 100000 in
theorem w_X8_dance_b30 {p : Program} {l : Launch} {e : Env} {s : State} {m : MethodId} {args : Array Value} {below : List Frame} {meth : Method} {c : Code} {b0 : Nat} {D : va_G} {cy : Nat → ClassId} {S : Mem} {q : Int32} (C0 : Cx p m c cX8_dance 6 s args RX8 D cy) (hr : meth.sig.returnType = some .int) (hlocks : meth.locks = false) : ∀ (n : Nat) (x1 : Int32) (x2 : Int32) (y3 : Int64) (x5 : Int32) (H : Heap) (locs : List Loc) (ls : Array Slot), Wd b0 D cy S s.heap H locs → lv_has ls 6 [(1, .int x1), (2, .int x2), (3, .long y3), (5, .int x5)] → f_X8_dance_b30  n x1 x2 y3 x5 = some q → W p l e rm_X8_dance s m args below meth c H locs 0 0 (MQ below (Qp b0 D cy (some (.int q)) S) args s 0 0 (fun q => b0 ≤ q)) (F0 m 30 ls []) := by
  intro n
  induction n with
  | zero => intro x1 x2 y3 x5 H locs ls hw hl h; exact absurd h (by simp [f_X8_dance_b30])
  | succ n ih =>
    intro x1 x2 y3 x5 H locs ls hw hl h
    rw [f_X8_dance_b30] at h
    refine lv_iload C0.hx C0.hb dX8_dance_30 (lv_at hl 3 rfl) ?_
    refine lv_iload_n C0.hx C0.hb dX8_dance_32 rfl (lv_at hl 0 rfl) ?_
    refine lv_icmp_ge (tgt := 54) C0.hx C0.hb dX8_dance_33 (by decide) (fun hc => ?_) (fun hc => ?_)
    · have h := (if_pos hc).symm.trans h
      refine lv_lload_n C0.hx C0.hb dX8_dance_54 rfl (lv_at hl 2 rfl) ?_
      refine lv_l2i C0.hx C0.hb dX8_dance_55 rfl ?_
      obtain rfl := Option.some.inj h
      exact q_reti C0 hw hr hlocks dX8_dance_56
    · have h := (if_neg hc).symm.trans h
      refine lv_lload_n C0.hx C0.hb dX8_dance_36 rfl (lv_at hl 2 rfl) ?_
      refine lv_bipush (v := (100 : Int32)) C0.hx C0.hb dX8_dance_37 (by decide) ?_
      refine lv_iload_n C0.hx C0.hb dX8_dance_39 rfl (lv_at hl 1 rfl) ?_
      refine lv_isub C0.hx C0.hb dX8_dance_40 ?_
      refine lv_i2l C0.hx C0.hb dX8_dance_41 rfl ?_
      refine lv_lmul C0.hx C0.hb dX8_dance_42 ?_
      refine lv_ldc2 C0.hx C0.hb C0.ho (C0.w kw_763) dX8_dance_43 ?_
      refine lv_ldiv C0.hx C0.hb dX8_dance_46 (by decide) ?_
      obtain ⟨u1, hu1, h⟩ := Option.bind_eq_some_iff.mp h
      refine q_nmJ hu1 ?_
      refine lv_lstore_n (lv' := [(3, .long u1), (1, .int x1), (2, .int x2), (5, .int x5)]) C0.hx C0.hb dX8_dance_47 rfl hl (by decide) rfl (fun ls hl => ?_)
      obtain ⟨v2, hv2, h⟩ := Option.bind_eq_some_iff.mp h
      refine lv_iinc (v := v2) (lv' := [(5, .int v2), (3, .long u1), (1, .int x1), (2, .int x2)]) C0.hx C0.hb dX8_dance_48 hl (k := 3) rfl (by rw [← Option.some.inj hv2]; rfl) (by decide) rfl (fun ls hl => ?_)
      refine lv_goto (tgt := 30) C0.hx C0.hb dX8_dance_51 (by decide) ?_
      exact ih x1 x2 u1 v2 _ _ _ hw (lv_sub hl [2, 3, 1, 0] rfl) h
set_option maxHeartbeats 4000000 in
set_option maxRecDepth 100000 in
theorem m_X8_dance (l : Launch) (b0 : Nat) (D : va_G) (cy : Nat → ClassId) (S : Mem) (a0 : Nat) (x1 : Int32) (x2 : Int32) {q : Int32} (h : f_X8_dance a0 x1 x2 = some q) : Met l yX8_dance [.code yX8_dance cX8_dance 6 (some .int)] rm_X8_dance (Pr b0 D cy S [.ref (b0 + a0), .int x1, .int x2]) (Qp b0 D cy (some (.int q)) S) 0 0 (fun q => b0 ≤ q) := by
  refine Met.ofW (cc := cX8_dance) (maxL := 6) (ret := some .int) (by decide) rfl ?_
  intro p e s m args below meth c s₁ B hml hv
  obtain ⟨rfl, hP, hK, hT⟩ := hv
  have C0 : Cx p m c cX8_dance 6 s (List.toArray [.ref (b0 + a0), .int x1, .int x2]) RX8 D cy := ⟨⟨B.exec, B.bytes, hml, findClass_of_methodNamed B.named, fun w h => hT w h _⟩, hK, hT⟩
  have hr : meth.sig.returnType = some .int := B.returns
  have hlocks := B.notSynchronized
  have hw : Wd b0 D cy S s.heap s.heap [] := ⟨hP, va_S.rf⟩
  have hl := lv_entry ([.ref (b0 + a0), .int x1, .int x2]) (n := 6) (Nat.le_of_ble_eq_true rfl)
  rw [lg_entry_eq]
  generalize (lg_sl ([.ref (b0 + a0), .int x1, .int x2]) ++ List.replicate (6 - (lg_sl ([.ref (b0 + a0), .int x1, .int x2])).length) Slot.unset).toArray = ls at hl ⊢
  have hl : lv_has ls 6 [(0, .ref (b0 + a0)), (1, .int x1), (2, .int x2)] := hl
  rw [f_X8_dance] at h
  show W p l e rm_X8_dance s m _ below meth c s.heap [] 0 0 _ _
  refine lv_iload_n C0.hx C0.hb dX8_dance_0 rfl (lv_at hl 1 rfl) ?_
  refine lv_if_lt (tgt := 20) C0.hx C0.hb dX8_dance_1 (by decide) (fun hc => ?_) (fun hc => ?_)
  · have h := (if_pos hc).symm.trans h
    refine lv_ldc C0.hx C0.hb C0.ho (C0.w kw_385) dX8_dance_20 ?_
    obtain rfl := Option.some.inj h
    exact q_reti C0 hw hr hlocks dX8_dance_22
  · have h := (if_neg hc).symm.trans h
    refine lv_iload_n C0.hx C0.hb dX8_dance_4 rfl (lv_at hl 1 rfl) ?_
    refine lv_bipush (v := (60 : Int32)) C0.hx C0.hb dX8_dance_5 (by decide) ?_
    refine lv_icmp_gt (tgt := 20) C0.hx C0.hb dX8_dance_7 (by decide) (fun hc => ?_) (fun hc => ?_)
    · have h := (if_pos hc).symm.trans h
      refine lv_ldc C0.hx C0.hb C0.ho (C0.w kw_385) dX8_dance_20 ?_
      obtain rfl := Option.some.inj h
      exact q_reti C0 hw hr hlocks dX8_dance_22
    · have h := (if_neg hc).symm.trans h
      refine lv_iload_n C0.hx C0.hb dX8_dance_10 rfl (lv_at hl 2 rfl) ?_
      refine lv_if_lt (tgt := 20) C0.hx C0.hb dX8_dance_11 (by decide) (fun hc => ?_) (fun hc => ?_)
      · have h := (if_pos hc).symm.trans h
        refine lv_ldc C0.hx C0.hb C0.ho (C0.w kw_385) dX8_dance_20 ?_
        obtain rfl := Option.some.inj h
        exact q_reti C0 hw hr hlocks dX8_dance_22
      · have h := (if_neg hc).symm.trans h
        refine lv_iload_n C0.hx C0.hb dX8_dance_14 rfl (lv_at hl 2 rfl) ?_
        refine lv_bipush (v := (100 : Int32)) C0.hx C0.hb dX8_dance_15 (by decide) ?_
        refine lv_icmp_le (tgt := 23) C0.hx C0.hb dX8_dance_17 (by decide) (fun hc => ?_) (fun hc => ?_)
        · have h := (if_pos hc).symm.trans h
          refine lv_ldc2 C0.hx C0.hb C0.ho (C0.w kw_762) dX8_dance_23 ?_
          refine lv_lstore_n (lv' := [(3, .long (1000000000 : Int64)), (0, .ref (b0 + a0)), (1, .int x1), (2, .int x2)]) C0.hx C0.hb dX8_dance_26 rfl hl (by decide) rfl (fun ls hl => ?_)
          refine lv_iconst (v := (0 : Int32)) C0.hx C0.hb dX8_dance_27 (by decide) ?_
          refine lv_istore (lv' := [(5, .int (0 : Int32)), (3, .long (1000000000 : Int64)), (0, .ref (b0 + a0)), (1, .int x1), (2, .int x2)]) C0.hx C0.hb dX8_dance_28 hl (by decide) rfl (fun ls hl => ?_)
          exact w_X8_dance_b30 C0 hr hlocks FU x1 x2 (1000000000 : Int64) (0 : Int32) _ _ _ hw (lv_sub hl [3, 4, 1, 0] rfl) h
        · have h := (if_neg hc).symm.trans h
          refine lv_ldc C0.hx C0.hb C0.ho (C0.w kw_385) dX8_dance_20 ?_
          obtain rfl := Option.some.inj h
          exact q_reti C0 hw hr hlocks dX8_dance_22
abbrev rm_J13_bitCount_95d88 : Room := { frames := 0, cells := 0, slots := 0, locals := 0 }
def f_J13_bitCount_95d88 (y0 : Int64) : Int32 :=
    ((((((((((y0 - ((usJ y0 (1 : Int32)) &&& (6148914691236517205 : Int64))) &&& (3689348814741910323 : Int64)) + ((usJ (y0 - ((usJ y0 (1 : Int32)) &&& (6148914691236517205 : Int64))) (2 : Int32)) &&& (3689348814741910323 : Int64))) + (usJ (((y0 - ((usJ y0 (1 : Int32)) &&& (6148914691236517205 : Int64))) &&& (3689348814741910323 : Int64)) + ((usJ (y0 - ((usJ y0 (1 : Int32)) &&& (6148914691236517205 : Int64))) (2 : Int32)) &&& (3689348814741910323 : Int64))) (4 : Int32))) &&& (1085102592571150095 : Int64)) + (usJ (((((y0 - ((usJ y0 (1 : Int32)) &&& (6148914691236517205 : Int64))) &&& (3689348814741910323 : Int64)) + ((usJ (y0 - ((usJ y0 (1 : Int32)) &&& (6148914691236517205 : Int64))) (2 : Int32)) &&& (3689348814741910323 : Int64))) + (usJ (((y0 - ((usJ y0 (1 : Int32)) &&& (6148914691236517205 : Int64))) &&& (3689348814741910323 : Int64)) + ((usJ (y0 - ((usJ y0 (1 : Int32)) &&& (6148914691236517205 : Int64))) (2 : Int32)) &&& (3689348814741910323 : Int64))) (4 : Int32))) &&& (1085102592571150095 : Int64)) (8 : Int32))) + (usJ ((((((y0 - ((usJ y0 (1 : Int32)) &&& (6148914691236517205 : Int64))) &&& (3689348814741910323 : Int64)) + ((usJ (y0 - ((usJ y0 (1 : Int32)) &&& (6148914691236517205 : Int64))) (2 : Int32)) &&& (3689348814741910323 : Int64))) + (usJ (((y0 - ((usJ y0 (1 : Int32)) &&& (6148914691236517205 : Int64))) &&& (3689348814741910323 : Int64)) + ((usJ (y0 - ((usJ y0 (1 : Int32)) &&& (6148914691236517205 : Int64))) (2 : Int32)) &&& (3689348814741910323 : Int64))) (4 : Int32))) &&& (1085102592571150095 : Int64)) + (usJ (((((y0 - ((usJ y0 (1 : Int32)) &&& (6148914691236517205 : Int64))) &&& (3689348814741910323 : Int64)) + ((usJ (y0 - ((usJ y0 (1 : Int32)) &&& (6148914691236517205 : Int64))) (2 : Int32)) &&& (3689348814741910323 : Int64))) + (usJ (((y0 - ((usJ y0 (1 : Int32)) &&& (6148914691236517205 : Int64))) &&& (3689348814741910323 : Int64)) + ((usJ (y0 - ((usJ y0 (1 : Int32)) &&& (6148914691236517205 : Int64))) (2 : Int32)) &&& (3689348814741910323 : Int64))) (4 : Int32))) &&& (1085102592571150095 : Int64)) (8 : Int32))) (16 : Int32))) + (usJ (((((((y0 - ((usJ y0 (1 : Int32)) &&& (6148914691236517205 : Int64))) &&& (3689348814741910323 : Int64)) + ((usJ (y0 - ((usJ y0 (1 : Int32)) &&& (6148914691236517205 : Int64))) (2 : Int32)) &&& (3689348814741910323 : Int64))) + (usJ (((y0 - ((usJ y0 (1 : Int32)) &&& (6148914691236517205 : Int64))) &&& (3689348814741910323 : Int64)) + ((usJ (y0 - ((usJ y0 (1 : Int32)) &&& (6148914691236517205 : Int64))) (2 : Int32)) &&& (3689348814741910323 : Int64))) (4 : Int32))) &&& (1085102592571150095 : Int64)) + (usJ (((((y0 - ((usJ y0 (1 : Int32)) &&& (6148914691236517205 : Int64))) &&& (3689348814741910323 : Int64)) + ((usJ (y0 - ((usJ y0 (1 : Int32)) &&& (6148914691236517205 : Int64))) (2 : Int32)) &&& (3689348814741910323 : Int64))) + (usJ (((y0 - ((usJ y0 (1 : Int32)) &&& (6148914691236517205 : Int64))) &&& (3689348814741910323 : Int64)) + ((usJ (y0 - ((usJ y0 (1 : Int32)) &&& (6148914691236517205 : Int64))) (2 : Int32)) &&& (3689348814741910323 : Int64))) (4 : Int32))) &&& (1085102592571150095 : Int64)) (8 : Int32))) + (usJ ((((((y0 - ((usJ y0 (1 : Int32)) &&& (6148914691236517205 : Int64))) &&& (3689348814741910323 : Int64)) + ((usJ (y0 - ((usJ y0 (1 : Int32)) &&& (6148914691236517205 : Int64))) (2 : Int32)) &&& (3689348814741910323 : Int64))) + (usJ (((y0 - ((usJ y0 (1 : Int32)) &&& (6148914691236517205 : Int64))) &&& (3689348814741910323 : Int64)) + ((usJ (y0 - ((usJ y0 (1 : Int32)) &&& (6148914691236517205 : Int64))) (2 : Int32)) &&& (3689348814741910323 : Int64))) (4 : Int32))) &&& (1085102592571150095 : Int64)) + (usJ (((((y0 - ((usJ y0 (1 : Int32)) &&& (6148914691236517205 : Int64))) &&& (3689348814741910323 : Int64)) + ((usJ (y0 - ((usJ y0 (1 : Int32)) &&& (6148914691236517205 : Int64))) (2 : Int32)) &&& (3689348814741910323 : Int64))) + (usJ (((y0 - ((usJ y0 (1 : Int32)) &&& (6148914691236517205 : Int64))) &&& (3689348814741910323 : Int64)) + ((usJ (y0 - ((usJ y0 (1 : Int32)) &&& (6148914691236517205 : Int64))) (2 : Int32)) &&& (3689348814741910323 : Int64))) (4 : Int32))) &&& (1085102592571150095 : Int64)) (8 : Int32))) (16 : Int32))) (32 : Int32))).toInt32) &&& (127 : Int32))
set_option maxHeartbeats 4000000 in
set_option maxRecDepth 100000 in
theorem m_J13_bitCount_95d88 (l : Launch) (b0 : Nat) (D : va_G) (cy : Nat → ClassId) (S : Mem) (y0 : Int64) : Met l yJ13_bitCount_95d88 [.code yJ13_bitCount_95d88 cJ13_bitCount_95d88 2 (some .int)] rm_J13_bitCount_95d88 (Pr b0 D cy S [.long y0]) (Qp b0 D cy (some (.int (f_J13_bitCount_95d88 y0))) S) 0 0 (fun q => b0 ≤ q) := by
  refine Met.ofW (cc := cJ13_bitCount_95d88) (maxL := 2) (ret := some .int) (by decide) rfl ?_
  intro p e s m args below meth c s₁ B hml hv
  obtain ⟨rfl, hP, hK, hT⟩ := hv
  have C0 : Cx p m c cJ13_bitCount_95d88 2 s (List.toArray [.long y0]) RJ13 D cy := ⟨⟨B.exec, B.bytes, hml, findClass_of_methodNamed B.named, fun w h => hT w h _⟩, hK, hT⟩
  have hr : meth.sig.returnType = some .int := B.returns
  have hlocks := B.notSynchronized
  have hw : Wd b0 D cy S s.heap s.heap [] := ⟨hP, va_S.rf⟩
  have hl := lv_entry ([.long y0]) (n := 2) (Nat.le_of_ble_eq_true rfl)
  rw [lg_entry_eq]
  generalize (lg_sl ([.long y0]) ++ List.replicate (2 - (lg_sl ([.long y0])).length) Slot.unset).toArray = ls at hl ⊢
  have hl : lv_has ls 2 [(0, .long y0)] := hl
  show W p l e rm_J13_bitCount_95d88 s m _ below meth c s.heap [] 0 0 _ _
  refine lv_lload_n C0.hx C0.hb dJ13_bitCount_95d88_0 rfl (lv_at hl 0 rfl) ?_
  refine lv_lload_n C0.hx C0.hb dJ13_bitCount_95d88_1 rfl (lv_at hl 0 rfl) ?_
  refine lv_iconst (v := (1 : Int32)) C0.hx C0.hb dJ13_bitCount_95d88_2 (by decide) ?_
  refine lv_lushr (v := usJ y0 (1 : Int32)) C0.hx C0.hb dJ13_bitCount_95d88_3 rfl ?_
  refine lv_ldc2 C0.hx C0.hb C0.ho (C0.w kw_781) dJ13_bitCount_95d88_4 ?_
  refine lv_land C0.hx C0.hb dJ13_bitCount_95d88_7 ?_
  refine lv_lsub C0.hx C0.hb dJ13_bitCount_95d88_8 ?_
  refine lv_lstore_n (lv' := [(0, .long (y0 - ((usJ y0 (1 : Int32)) &&& (6148914691236517205 : Int64))))]) C0.hx C0.hb dJ13_bitCount_95d88_9 rfl hl (by decide) rfl (fun ls hl => ?_)
  refine lv_lload_n C0.hx C0.hb dJ13_bitCount_95d88_10 rfl (lv_at hl 0 rfl) ?_
  refine lv_ldc2 C0.hx C0.hb C0.ho (C0.w kw_782) dJ13_bitCount_95d88_11 ?_
  refine lv_land C0.hx C0.hb dJ13_bitCount_95d88_14 ?_
  refine lv_lload_n C0.hx C0.hb dJ13_bitCount_95d88_15 rfl (lv_at hl 0 rfl) ?_
  refine lv_iconst (v := (2 : Int32)) C0.hx C0.hb dJ13_bitCount_95d88_16 (by decide) ?_
  refine lv_lushr (v := usJ (y0 - ((usJ y0 (1 : Int32)) &&& (6148914691236517205 : Int64))) (2 : Int32)) C0.hx C0.hb dJ13_bitCount_95d88_17 rfl ?_
  refine lv_ldc2 C0.hx C0.hb C0.ho (C0.w kw_782) dJ13_bitCount_95d88_18 ?_
  refine lv_land C0.hx C0.hb dJ13_bitCount_95d88_21 ?_
  refine lv_ladd C0.hx C0.hb dJ13_bitCount_95d88_22 ?_
  refine lv_lstore_n (lv' := [(0, .long (((y0 - ((usJ y0 (1 : Int32)) &&& (6148914691236517205 : Int64))) &&& (3689348814741910323 : Int64)) + ((usJ (y0 - ((usJ y0 (1 : Int32)) &&& (6148914691236517205 : Int64))) (2 : Int32)) &&& (3689348814741910323 : Int64))))]) C0.hx C0.hb dJ13_bitCount_95d88_23 rfl hl (by decide) rfl (fun ls hl => ?_)
  refine lv_lload_n C0.hx C0.hb dJ13_bitCount_95d88_24 rfl (lv_at hl 0 rfl) ?_
  refine lv_lload_n C0.hx C0.hb dJ13_bitCount_95d88_25 rfl (lv_at hl 0 rfl) ?_
  refine lv_iconst (v := (4 : Int32)) C0.hx C0.hb dJ13_bitCount_95d88_26 (by decide) ?_
  refine lv_lushr (v := usJ (((y0 - ((usJ y0 (1 : Int32)) &&& (6148914691236517205 : Int64))) &&& (3689348814741910323 : Int64)) + ((usJ (y0 - ((usJ y0 (1 : Int32)) &&& (6148914691236517205 : Int64))) (2 : Int32)) &&& (3689348814741910323 : Int64))) (4 : Int32)) C0.hx C0.hb dJ13_bitCount_95d88_27 rfl ?_
  refine lv_ladd C0.hx C0.hb dJ13_bitCount_95d88_28 ?_
  refine lv_ldc2 C0.hx C0.hb C0.ho (C0.w kw_783) dJ13_bitCount_95d88_29 ?_
  refine lv_land C0.hx C0.hb dJ13_bitCount_95d88_32 ?_
  refine lv_lstore_n (lv' := [(0, .long (((((y0 - ((usJ y0 (1 : Int32)) &&& (6148914691236517205 : Int64))) &&& (3689348814741910323 : Int64)) + ((usJ (y0 - ((usJ y0 (1 : Int32)) &&& (6148914691236517205 : Int64))) (2 : Int32)) &&& (3689348814741910323 : Int64))) + (usJ (((y0 - ((usJ y0 (1 : Int32)) &&& (6148914691236517205 : Int64))) &&& (3689348814741910323 : Int64)) + ((usJ (y0 - ((usJ y0 (1 : Int32)) &&& (6148914691236517205 : Int64))) (2 : Int32)) &&& (3689348814741910323 : Int64))) (4 : Int32))) &&& (1085102592571150095 : Int64)))]) C0.hx C0.hb dJ13_bitCount_95d88_33 rfl hl (by decide) rfl (fun ls hl => ?_)
  refine lv_lload_n C0.hx C0.hb dJ13_bitCount_95d88_34 rfl (lv_at hl 0 rfl) ?_
  refine lv_lload_n C0.hx C0.hb dJ13_bitCount_95d88_35 rfl (lv_at hl 0 rfl) ?_
  refine lv_bipush (v := (8 : Int32)) C0.hx C0.hb dJ13_bitCount_95d88_36 (by decide) ?_
  refine lv_lushr (v := usJ (((((y0 - ((usJ y0 (1 : Int32)) &&& (6148914691236517205 : Int64))) &&& (3689348814741910323 : Int64)) + ((usJ (y0 - ((usJ y0 (1 : Int32)) &&& (6148914691236517205 : Int64))) (2 : Int32)) &&& (3689348814741910323 : Int64))) + (usJ (((y0 - ((usJ y0 (1 : Int32)) &&& (6148914691236517205 : Int64))) &&& (3689348814741910323 : Int64)) + ((usJ (y0 - ((usJ y0 (1 : Int32)) &&& (6148914691236517205 : Int64))) (2 : Int32)) &&& (3689348814741910323 : Int64))) (4 : Int32))) &&& (1085102592571150095 : Int64)) (8 : Int32)) C0.hx C0.hb dJ13_bitCount_95d88_38 rfl ?_
  refine lv_ladd C0.hx C0.hb dJ13_bitCount_95d88_39 ?_
  refine lv_lstore_n (lv' := [(0, .long ((((((y0 - ((usJ y0 (1 : Int32)) &&& (6148914691236517205 : Int64))) &&& (3689348814741910323 : Int64)) + ((usJ (y0 - ((usJ y0 (1 : Int32)) &&& (6148914691236517205 : Int64))) (2 : Int32)) &&& (3689348814741910323 : Int64))) + (usJ (((y0 - ((usJ y0 (1 : Int32)) &&& (6148914691236517205 : Int64))) &&& (3689348814741910323 : Int64)) + ((usJ (y0 - ((usJ y0 (1 : Int32)) &&& (6148914691236517205 : Int64))) (2 : Int32)) &&& (3689348814741910323 : Int64))) (4 : Int32))) &&& (1085102592571150095 : Int64)) + (usJ (((((y0 - ((usJ y0 (1 : Int32)) &&& (6148914691236517205 : Int64))) &&& (3689348814741910323 : Int64)) + ((usJ (y0 - ((usJ y0 (1 : Int32)) &&& (6148914691236517205 : Int64))) (2 : Int32)) &&& (3689348814741910323 : Int64))) + (usJ (((y0 - ((usJ y0 (1 : Int32)) &&& (6148914691236517205 : Int64))) &&& (3689348814741910323 : Int64)) + ((usJ (y0 - ((usJ y0 (1 : Int32)) &&& (6148914691236517205 : Int64))) (2 : Int32)) &&& (3689348814741910323 : Int64))) (4 : Int32))) &&& (1085102592571150095 : Int64)) (8 : Int32))))]) C0.hx C0.hb dJ13_bitCount_95d88_40 rfl hl (by decide) rfl (fun ls hl => ?_)
  refine lv_lload_n C0.hx C0.hb dJ13_bitCount_95d88_41 rfl (lv_at hl 0 rfl) ?_
  refine lv_lload_n C0.hx C0.hb dJ13_bitCount_95d88_42 rfl (lv_at hl 0 rfl) ?_
  refine lv_bipush (v := (16 : Int32)) C0.hx C0.hb dJ13_bitCount_95d88_43 (by decide) ?_
  refine lv_lushr (v := usJ ((((((y0 - ((usJ y0 (1 : Int32)) &&& (6148914691236517205 : Int64))) &&& (3689348814741910323 : Int64)) + ((usJ (y0 - ((usJ y0 (1 : Int32)) &&& (6148914691236517205 : Int64))) (2 : Int32)) &&& (3689348814741910323 : Int64))) + (usJ (((y0 - ((usJ y0 (1 : Int32)) &&& (6148914691236517205 : Int64))) &&& (3689348814741910323 : Int64)) + ((usJ (y0 - ((usJ y0 (1 : Int32)) &&& (6148914691236517205 : Int64))) (2 : Int32)) &&& (3689348814741910323 : Int64))) (4 : Int32))) &&& (1085102592571150095 : Int64)) + (usJ (((((y0 - ((usJ y0 (1 : Int32)) &&& (6148914691236517205 : Int64))) &&& (3689348814741910323 : Int64)) + ((usJ (y0 - ((usJ y0 (1 : Int32)) &&& (6148914691236517205 : Int64))) (2 : Int32)) &&& (3689348814741910323 : Int64))) + (usJ (((y0 - ((usJ y0 (1 : Int32)) &&& (6148914691236517205 : Int64))) &&& (3689348814741910323 : Int64)) + ((usJ (y0 - ((usJ y0 (1 : Int32)) &&& (6148914691236517205 : Int64))) (2 : Int32)) &&& (3689348814741910323 : Int64))) (4 : Int32))) &&& (1085102592571150095 : Int64)) (8 : Int32))) (16 : Int32)) C0.hx C0.hb dJ13_bitCount_95d88_45 rfl ?_
  refine lv_ladd C0.hx C0.hb dJ13_bitCount_95d88_46 ?_
  refine lv_lstore_n (lv' := [(0, .long (((((((y0 - ((usJ y0 (1 : Int32)) &&& (6148914691236517205 : Int64))) &&& (3689348814741910323 : Int64)) + ((usJ (y0 - ((usJ y0 (1 : Int32)) &&& (6148914691236517205 : Int64))) (2 : Int32)) &&& (3689348814741910323 : Int64))) + (usJ (((y0 - ((usJ y0 (1 : Int32)) &&& (6148914691236517205 : Int64))) &&& (3689348814741910323 : Int64)) + ((usJ (y0 - ((usJ y0 (1 : Int32)) &&& (6148914691236517205 : Int64))) (2 : Int32)) &&& (3689348814741910323 : Int64))) (4 : Int32))) &&& (1085102592571150095 : Int64)) + (usJ (((((y0 - ((usJ y0 (1 : Int32)) &&& (6148914691236517205 : Int64))) &&& (3689348814741910323 : Int64)) + ((usJ (y0 - ((usJ y0 (1 : Int32)) &&& (6148914691236517205 : Int64))) (2 : Int32)) &&& (3689348814741910323 : Int64))) + (usJ (((y0 - ((usJ y0 (1 : Int32)) &&& (6148914691236517205 : Int64))) &&& (3689348814741910323 : Int64)) + ((usJ (y0 - ((usJ y0 (1 : Int32)) &&& (6148914691236517205 : Int64))) (2 : Int32)) &&& (3689348814741910323 : Int64))) (4 : Int32))) &&& (1085102592571150095 : Int64)) (8 : Int32))) + (usJ ((((((y0 - ((usJ y0 (1 : Int32)) &&& (6148914691236517205 : Int64))) &&& (3689348814741910323 : Int64)) + ((usJ (y0 - ((usJ y0 (1 : Int32)) &&& (6148914691236517205 : Int64))) (2 : Int32)) &&& (3689348814741910323 : Int64))) + (usJ (((y0 - ((usJ y0 (1 : Int32)) &&& (6148914691236517205 : Int64))) &&& (3689348814741910323 : Int64)) + ((usJ (y0 - ((usJ y0 (1 : Int32)) &&& (6148914691236517205 : Int64))) (2 : Int32)) &&& (3689348814741910323 : Int64))) (4 : Int32))) &&& (1085102592571150095 : Int64)) + (usJ (((((y0 - ((usJ y0 (1 : Int32)) &&& (6148914691236517205 : Int64))) &&& (3689348814741910323 : Int64)) + ((usJ (y0 - ((usJ y0 (1 : Int32)) &&& (6148914691236517205 : Int64))) (2 : Int32)) &&& (3689348814741910323 : Int64))) + (usJ (((y0 - ((usJ y0 (1 : Int32)) &&& (6148914691236517205 : Int64))) &&& (3689348814741910323 : Int64)) + ((usJ (y0 - ((usJ y0 (1 : Int32)) &&& (6148914691236517205 : Int64))) (2 : Int32)) &&& (3689348814741910323 : Int64))) (4 : Int32))) &&& (1085102592571150095 : Int64)) (8 : Int32))) (16 : Int32))))]) C0.hx C0.hb dJ13_bitCount_95d88_47 rfl hl (by decide) rfl (fun ls hl => ?_)
  refine lv_lload_n C0.hx C0.hb dJ13_bitCount_95d88_48 rfl (lv_at hl 0 rfl) ?_
  refine lv_lload_n C0.hx C0.hb dJ13_bitCount_95d88_49 rfl (lv_at hl 0 rfl) ?_
  refine lv_bipush (v := (32 : Int32)) C0.hx C0.hb dJ13_bitCount_95d88_50 (by decide) ?_
  refine lv_lushr (v := usJ (((((((y0 - ((usJ y0 (1 : Int32)) &&& (6148914691236517205 : Int64))) &&& (3689348814741910323 : Int64)) + ((usJ (y0 - ((usJ y0 (1 : Int32)) &&& (6148914691236517205 : Int64))) (2 : Int32)) &&& (3689348814741910323 : Int64))) + (usJ (((y0 - ((usJ y0 (1 : Int32)) &&& (6148914691236517205 : Int64))) &&& (3689348814741910323 : Int64)) + ((usJ (y0 - ((usJ y0 (1 : Int32)) &&& (6148914691236517205 : Int64))) (2 : Int32)) &&& (3689348814741910323 : Int64))) (4 : Int32))) &&& (1085102592571150095 : Int64)) + (usJ (((((y0 - ((usJ y0 (1 : Int32)) &&& (6148914691236517205 : Int64))) &&& (3689348814741910323 : Int64)) + ((usJ (y0 - ((usJ y0 (1 : Int32)) &&& (6148914691236517205 : Int64))) (2 : Int32)) &&& (3689348814741910323 : Int64))) + (usJ (((y0 - ((usJ y0 (1 : Int32)) &&& (6148914691236517205 : Int64))) &&& (3689348814741910323 : Int64)) + ((usJ (y0 - ((usJ y0 (1 : Int32)) &&& (6148914691236517205 : Int64))) (2 : Int32)) &&& (3689348814741910323 : Int64))) (4 : Int32))) &&& (1085102592571150095 : Int64)) (8 : Int32))) + (usJ ((((((y0 - ((usJ y0 (1 : Int32)) &&& (6148914691236517205 : Int64))) &&& (3689348814741910323 : Int64)) + ((usJ (y0 - ((usJ y0 (1 : Int32)) &&& (6148914691236517205 : Int64))) (2 : Int32)) &&& (3689348814741910323 : Int64))) + (usJ (((y0 - ((usJ y0 (1 : Int32)) &&& (6148914691236517205 : Int64))) &&& (3689348814741910323 : Int64)) + ((usJ (y0 - ((usJ y0 (1 : Int32)) &&& (6148914691236517205 : Int64))) (2 : Int32)) &&& (3689348814741910323 : Int64))) (4 : Int32))) &&& (1085102592571150095 : Int64)) + (usJ (((((y0 - ((usJ y0 (1 : Int32)) &&& (6148914691236517205 : Int64))) &&& (3689348814741910323 : Int64)) + ((usJ (y0 - ((usJ y0 (1 : Int32)) &&& (6148914691236517205 : Int64))) (2 : Int32)) &&& (3689348814741910323 : Int64))) + (usJ (((y0 - ((usJ y0 (1 : Int32)) &&& (6148914691236517205 : Int64))) &&& (3689348814741910323 : Int64)) + ((usJ (y0 - ((usJ y0 (1 : Int32)) &&& (6148914691236517205 : Int64))) (2 : Int32)) &&& (3689348814741910323 : Int64))) (4 : Int32))) &&& (1085102592571150095 : Int64)) (8 : Int32))) (16 : Int32))) (32 : Int32)) C0.hx C0.hb dJ13_bitCount_95d88_52 rfl ?_
  refine lv_ladd C0.hx C0.hb dJ13_bitCount_95d88_53 ?_
  refine lv_lstore_n (lv' := [(0, .long ((((((((y0 - ((usJ y0 (1 : Int32)) &&& (6148914691236517205 : Int64))) &&& (3689348814741910323 : Int64)) + ((usJ (y0 - ((usJ y0 (1 : Int32)) &&& (6148914691236517205 : Int64))) (2 : Int32)) &&& (3689348814741910323 : Int64))) + (usJ (((y0 - ((usJ y0 (1 : Int32)) &&& (6148914691236517205 : Int64))) &&& (3689348814741910323 : Int64)) + ((usJ (y0 - ((usJ y0 (1 : Int32)) &&& (6148914691236517205 : Int64))) (2 : Int32)) &&& (3689348814741910323 : Int64))) (4 : Int32))) &&& (1085102592571150095 : Int64)) + (usJ (((((y0 - ((usJ y0 (1 : Int32)) &&& (6148914691236517205 : Int64))) &&& (3689348814741910323 : Int64)) + ((usJ (y0 - ((usJ y0 (1 : Int32)) &&& (6148914691236517205 : Int64))) (2 : Int32)) &&& (3689348814741910323 : Int64))) + (usJ (((y0 - ((usJ y0 (1 : Int32)) &&& (6148914691236517205 : Int64))) &&& (3689348814741910323 : Int64)) + ((usJ (y0 - ((usJ y0 (1 : Int32)) &&& (6148914691236517205 : Int64))) (2 : Int32)) &&& (3689348814741910323 : Int64))) (4 : Int32))) &&& (1085102592571150095 : Int64)) (8 : Int32))) + (usJ ((((((y0 - ((usJ y0 (1 : Int32)) &&& (6148914691236517205 : Int64))) &&& (3689348814741910323 : Int64)) + ((usJ (y0 - ((usJ y0 (1 : Int32)) &&& (6148914691236517205 : Int64))) (2 : Int32)) &&& (3689348814741910323 : Int64))) + (usJ (((y0 - ((usJ y0 (1 : Int32)) &&& (6148914691236517205 : Int64))) &&& (3689348814741910323 : Int64)) + ((usJ (y0 - ((usJ y0 (1 : Int32)) &&& (6148914691236517205 : Int64))) (2 : Int32)) &&& (3689348814741910323 : Int64))) (4 : Int32))) &&& (1085102592571150095 : Int64)) + (usJ (((((y0 - ((usJ y0 (1 : Int32)) &&& (6148914691236517205 : Int64))) &&& (3689348814741910323 : Int64)) + ((usJ (y0 - ((usJ y0 (1 : Int32)) &&& (6148914691236517205 : Int64))) (2 : Int32)) &&& (3689348814741910323 : Int64))) + (usJ (((y0 - ((usJ y0 (1 : Int32)) &&& (6148914691236517205 : Int64))) &&& (3689348814741910323 : Int64)) + ((usJ (y0 - ((usJ y0 (1 : Int32)) &&& (6148914691236517205 : Int64))) (2 : Int32)) &&& (3689348814741910323 : Int64))) (4 : Int32))) &&& (1085102592571150095 : Int64)) (8 : Int32))) (16 : Int32))) + (usJ (((((((y0 - ((usJ y0 (1 : Int32)) &&& (6148914691236517205 : Int64))) &&& (3689348814741910323 : Int64)) + ((usJ (y0 - ((usJ y0 (1 : Int32)) &&& (6148914691236517205 : Int64))) (2 : Int32)) &&& (3689348814741910323 : Int64))) + (usJ (((y0 - ((usJ y0 (1 : Int32)) &&& (6148914691236517205 : Int64))) &&& (3689348814741910323 : Int64)) + ((usJ (y0 - ((usJ y0 (1 : Int32)) &&& (6148914691236517205 : Int64))) (2 : Int32)) &&& (3689348814741910323 : Int64))) (4 : Int32))) &&& (1085102592571150095 : Int64)) + (usJ (((((y0 - ((usJ y0 (1 : Int32)) &&& (6148914691236517205 : Int64))) &&& (3689348814741910323 : Int64)) + ((usJ (y0 - ((usJ y0 (1 : Int32)) &&& (6148914691236517205 : Int64))) (2 : Int32)) &&& (3689348814741910323 : Int64))) + (usJ (((y0 - ((usJ y0 (1 : Int32)) &&& (6148914691236517205 : Int64))) &&& (3689348814741910323 : Int64)) + ((usJ (y0 - ((usJ y0 (1 : Int32)) &&& (6148914691236517205 : Int64))) (2 : Int32)) &&& (3689348814741910323 : Int64))) (4 : Int32))) &&& (1085102592571150095 : Int64)) (8 : Int32))) + (usJ ((((((y0 - ((usJ y0 (1 : Int32)) &&& (6148914691236517205 : Int64))) &&& (3689348814741910323 : Int64)) + ((usJ (y0 - ((usJ y0 (1 : Int32)) &&& (6148914691236517205 : Int64))) (2 : Int32)) &&& (3689348814741910323 : Int64))) + (usJ (((y0 - ((usJ y0 (1 : Int32)) &&& (6148914691236517205 : Int64))) &&& (3689348814741910323 : Int64)) + ((usJ (y0 - ((usJ y0 (1 : Int32)) &&& (6148914691236517205 : Int64))) (2 : Int32)) &&& (3689348814741910323 : Int64))) (4 : Int32))) &&& (1085102592571150095 : Int64)) + (usJ (((((y0 - ((usJ y0 (1 : Int32)) &&& (6148914691236517205 : Int64))) &&& (3689348814741910323 : Int64)) + ((usJ (y0 - ((usJ y0 (1 : Int32)) &&& (6148914691236517205 : Int64))) (2 : Int32)) &&& (3689348814741910323 : Int64))) + (usJ (((y0 - ((usJ y0 (1 : Int32)) &&& (6148914691236517205 : Int64))) &&& (3689348814741910323 : Int64)) + ((usJ (y0 - ((usJ y0 (1 : Int32)) &&& (6148914691236517205 : Int64))) (2 : Int32)) &&& (3689348814741910323 : Int64))) (4 : Int32))) &&& (1085102592571150095 : Int64)) (8 : Int32))) (16 : Int32))) (32 : Int32))))]) C0.hx C0.hb dJ13_bitCount_95d88_54 rfl hl (by decide) rfl (fun ls hl => ?_)
  refine lv_lload_n C0.hx C0.hb dJ13_bitCount_95d88_55 rfl (lv_at hl 0 rfl) ?_
  refine lv_l2i C0.hx C0.hb dJ13_bitCount_95d88_56 rfl ?_
  refine lv_bipush (v := (127 : Int32)) C0.hx C0.hb dJ13_bitCount_95d88_57 (by decide) ?_
  refine lv_iand C0.hx C0.hb dJ13_bitCount_95d88_59 ?_
  exact q_reti C0 hw hr hlocks dJ13_bitCount_95d88_60
abbrev rm_X8_fit : Room := { frames := 5, cells := 0, slots := 0, locals := 124 }
def f_X8_fit_b57 (S : Mem) (k27 : Int32 → Int64 → Int32 → Int32 → Option Int32) (x1 : Int32) (y2 : Int64) (x4 : Int32) (x5 : Int32) : Option Int32 :=
    (some (x5 + (1 : Int32))).bind fun v5 =>
      k27 x1 y2 x4 v5
def f_X8_fit_b27 (S : Mem) : Nat → Int32 → Int64 → Int32 → Int32 → Option Int32
  | 0, _, _, _, _ => none
  | n + 1, x1, y2, x4, x5 =>
    (if (64 : Int32) ≤ x5 then
      some (-1 : Int32)
      else
      (if (lg_cmp ((usJ y2 x5) &&& (1 : Int64)) (1 : Int64)) = (0 : Int32) then
      (if x4 = x1 then
      some x5
      else
      (some (x4 + (1 : Int32))).bind fun v6 =>
      f_X8_fit_b57 S (fun x1 y2 x4 x5 => f_X8_fit_b27 S  n x1 y2 x4 x5) x1 y2 v6 x5)
      else
      f_X8_fit_b57 S (fun x1 y2 x4 x5 => f_X8_fit_b27 S  n x1 y2 x4 x5) x1 y2 x4 x5))
def f_X8_fit (a0 : Nat) (x1 : Int32) (S : Mem) : Option Int32 :=
    (gR 8 2 S a0).bind fun r1 =>
      (gR 5 1 S r1).bind fun r2 =>
      (ck 7 S r2).bind fun c3 =>
      (f_X7_fittingRules r2 S).bind fun u4 =>
      (if x1 = (-1 : Int32) then
      some (f_J13_bitCount_95d88 u4)
      else
      f_X8_fit_b27 S FU x1 u4 (0 : Int32) (0 : Int32))
set_option maxHeartbeats 4000000 in
set_option maxRecDepth 100000 in
theorem w_X8_fit_b57 {p : Program} {l : Launch} {e : Env} {s : State} {m : MethodId} {args : Array Value} {below : List Frame} {meth : Method} {c : Code} {b0 : Nat} {D : va_G} {cy : Nat → ClassId} {S : Mem} {q : Int32} (C0 : Cx p m c cX8_fit 6 s args RX8 D cy) (hr : meth.sig.returnType = some .int) (hlocks : meth.locks = false) (k27 : Int32 → Int64 → Int32 → Int32 → Option Int32) (hk27 : ∀ (x1 : Int32) (y2 : Int64) (x4 : Int32) (x5 : Int32) (H : Heap) (locs : List Loc) (ls : Array Slot), Wd b0 D cy S s.heap H locs → lv_has ls 6 [(1, .int x1), (2, .long y2), (4, .int x4), (5, .int x5)] → k27 x1 y2 x4 x5 = some q → W p l e rm_X8_fit s m args below meth c H locs 0 0 (MQ below (Qp b0 D cy (some (.int q)) S) args s 0 0 (fun q => b0 ≤ q)) (F0 m 27 ls [])) : ∀ (x1 : Int32) (y2 : Int64) (x4 : Int32) (x5 : Int32) (H : Heap) (locs : List Loc) (ls : Array Slot), Wd b0 D cy S s.heap H locs → lv_has ls 6 [(1, .int x1), (2, .long y2), (4, .int x4), (5, .int x5)] → f_X8_fit_b57 S k27 x1 y2 x4 x5 = some q → W p l e rm_X8_fit s m args below meth c H locs 0 0 (MQ below (Qp b0 D cy (some (.int q)) S) args s 0 0 (fun q => b0 ≤ q)) (F0 m 57 ls []) := by
  intro x1 y2 x4 x5 H locs ls hw hl h
  rw [f_X8_fit_b57] at h
  obtain ⟨v5, hv5, h⟩ := Option.bind_eq_some_iff.mp h
  refine lv_iinc (v := v5) (lv' := [(5, .int v5), (1, .int x1), (2, .long y2), (4, .int x4)]) C0.hx C0.hb dX8_fit_57 hl (k := 3) rfl (by rw [← Option.some.inj hv5]; rfl) (by decide) rfl (fun ls hl => ?_)
  refine lv_goto (tgt := 27) C0.hx C0.hb dX8_fit_60 (by decide) ?_
  exact hk27 x1 y2 x4 v5 _ _ _ hw (lv_sub hl [1, 2, 3, 0] rfl) h
set_option maxHeartbeats 4000000 in
set_option maxRecDepth 100000 in
theorem w_X8_fit_b27 {p : Program} {l : Launch} {e : Env} {s : State} {m : MethodId} {args : Array Value} {below : List Frame} {meth : Method} {c : Code} {b0 : Nat} {D : va_G} {cy : Nat → ClassId} {S : Mem} {q : Int32} (C0 : Cx p m c cX8_fit 6 s args RX8 D cy) (hr : meth.sig.returnType = some .int) (hlocks : meth.locks = false) : ∀ (n : Nat) (x1 : Int32) (y2 : Int64) (x4 : Int32) (x5 : Int32) (H : Heap) (locs : List Loc) (ls : Array Slot), Wd b0 D cy S s.heap H locs → lv_has ls 6 [(1, .int x1), (2, .long y2), (4, .int x4), (5, .int x5)] → f_X8_fit_b27 S  n x1 y2 x4 x5 = some q → W p l e rm_X8_fit s m args below meth c H locs 0 0 (MQ below (Qp b0 D cy (some (.int q)) S) args s 0 0 (fun q => b0 ≤ q)) (F0 m 27 ls []) := by
  intro n
  induction n with
  | zero => intro x1 y2 x4 x5 H locs ls hw hl h; exact absurd h (by simp [f_X8_fit_b27])
  | succ n ih =>
    intro x1 y2 x4 x5 H locs ls hw hl h
    rw [f_X8_fit_b27] at h
    refine lv_iload C0.hx C0.hb dX8_fit_27 (lv_at hl 3 rfl) ?_
    refine lv_bipush (v := (64 : Int32)) C0.hx C0.hb dX8_fit_29 (by decide) ?_
    refine lv_icmp_ge (tgt := 63) C0.hx C0.hb dX8_fit_31 (by decide) (fun hc => ?_) (fun hc => ?_)
    · have h := (if_pos hc).symm.trans h
      refine lv_iconst (v := (-1 : Int32)) C0.hx C0.hb dX8_fit_63 (by decide) ?_
      obtain rfl := Option.some.inj h
      exact q_reti C0 hw hr hlocks dX8_fit_64
    · have h := (if_neg hc).symm.trans h
      refine lv_lload_n C0.hx C0.hb dX8_fit_34 rfl (lv_at hl 1 rfl) ?_
      refine lv_iload C0.hx C0.hb dX8_fit_35 (lv_at hl 3 rfl) ?_
      refine lv_lushr (v := usJ y2 x5) C0.hx C0.hb dX8_fit_37 rfl ?_
      refine lv_lconst (v := (1 : Int64)) C0.hx C0.hb dX8_fit_38 (by decide) ?_
      refine lv_land C0.hx C0.hb dX8_fit_39 ?_
      refine lv_lconst (v := (1 : Int64)) C0.hx C0.hb dX8_fit_40 (by decide) ?_
      refine W.lcmp C0.hx C0.hb dX8_fit_41 ?_
      refine lv_if_ne (tgt := 57) C0.hx C0.hb dX8_fit_42 (by decide) (fun hc => ?_) (fun hc => ?_)
      · have h := (if_neg hc).symm.trans h
        exact w_X8_fit_b57 C0 hr hlocks (fun x1 y2 x4 x5 => f_X8_fit_b27 S  n x1 y2 x4 x5) ih x1 y2 x4 x5 _ _ _ hw (lv_sub hl [0, 1, 2, 3] rfl) h
      · have h := (if_pos hc).symm.trans h
        refine lv_iload C0.hx C0.hb dX8_fit_45 (lv_at hl 2 rfl) ?_
        refine lv_iload_n C0.hx C0.hb dX8_fit_47 rfl (lv_at hl 0 rfl) ?_
        refine lv_icmp_ne (tgt := 54) C0.hx C0.hb dX8_fit_48 (by decide) (fun hc => ?_) (fun hc => ?_)
        · have h := (if_neg hc).symm.trans h
          obtain ⟨v6, hv6, h⟩ := Option.bind_eq_some_iff.mp h
          refine lv_iinc (v := v6) (lv' := [(4, .int v6), (1, .int x1), (2, .long y2), (5, .int x5)]) C0.hx C0.hb dX8_fit_54 hl (k := 2) rfl (by rw [← Option.some.inj hv6]; rfl) (by decide) rfl (fun ls hl => ?_)
          exact w_X8_fit_b57 C0 hr hlocks (fun x1 y2 x4 x5 => f_X8_fit_b27 S  n x1 y2 x4 x5) ih x1 y2 v6 x5 _ _ _ hw (lv_sub hl [1, 2, 0, 3] rfl) h
        · have h := (if_pos hc).symm.trans h
          refine lv_iload C0.hx C0.hb dX8_fit_51 (lv_at hl 3 rfl) ?_
          obtain rfl := Option.some.inj h
          exact q_reti C0 hw hr hlocks dX8_fit_53
set_option maxHeartbeats 4000000 in
set_option maxRecDepth 100000 in
theorem m_X8_fit (l : Launch) (b0 : Nat) (D : va_G) (cy : Nat → ClassId) (S : Mem) (a0 : Nat) (x1 : Int32) {q : Int32} (h : f_X8_fit a0 x1 S = some q) : Met l yX8_fit [.code yX8_fit cX8_fit 6 (some .int)] rm_X8_fit (Pr b0 D cy S [.ref (b0 + a0), .int x1]) (Qp b0 D cy (some (.int q)) S) 0 0 (fun q => b0 ≤ q) := by
  refine Met.ofW (cc := cX8_fit) (maxL := 6) (ret := some .int) (by decide) rfl ?_
  intro p e s m args below meth c s₁ B hml hv
  obtain ⟨rfl, hP, hK, hT⟩ := hv
  have C0 : Cx p m c cX8_fit 6 s (List.toArray [.ref (b0 + a0), .int x1]) RX8 D cy := ⟨⟨B.exec, B.bytes, hml, findClass_of_methodNamed B.named, fun w h => hT w h _⟩, hK, hT⟩
  have hr : meth.sig.returnType = some .int := B.returns
  have hlocks := B.notSynchronized
  have hw : Wd b0 D cy S s.heap s.heap [] := ⟨hP, va_S.rf⟩
  have hl := lv_entry ([.ref (b0 + a0), .int x1]) (n := 6) (Nat.le_of_ble_eq_true rfl)
  rw [lg_entry_eq]
  generalize (lg_sl ([.ref (b0 + a0), .int x1]) ++ List.replicate (6 - (lg_sl ([.ref (b0 + a0), .int x1])).length) Slot.unset).toArray = ls at hl ⊢
  have hl : lv_has ls 6 [(0, .ref (b0 + a0)), (1, .int x1)] := hl
  rw [f_X8_fit] at h
  show W p l e rm_X8_fit s m _ below meth c s.heap [] 0 0 _ _
  refine lv_aload_n C0.hx C0.hb dX8_fit_0 rfl (lv_at hl 0 rfl) ?_
  obtain ⟨r1, hr1, h⟩ := Option.bind_eq_some_iff.mp h
  refine q_getR C0 hw hr1 rfl in_8 (by decide) kw_352 dX8_fit_1 ?_
  obtain ⟨r2, hr2, h⟩ := Option.bind_eq_some_iff.mp h
  refine q_getR C0 hw hr2 rfl in_5 (by decide) kw_261 dX8_fit_4 ?_
  obtain ⟨c3, hc3, h⟩ := Option.bind_eq_some_iff.mp h
  obtain ⟨u4, hu4, h⟩ := Option.bind_eq_some_iff.mp h
  refine q_callV (n := 0) (av := []) (rest := []) (st1 := [.long u4]) C0 hw (m_X7_fittingRules l b0 D cy S r2 hu4) hc3 rfl (by decide) (goodV kw_768 kw_769 kw_770 kw_68 kw_771) ⟨rfl, rfl⟩ (by decide +kernel) ⟨(Nat.le_of_ble_eq_true rfl), (Nat.le_of_ble_eq_true rfl)⟩ rfl hl.1 rfl (Nat.le_of_ble_eq_true rfl) dX8_fit_7 ⟨Nat.zero_le _, Nat.zero_le _⟩ rfl (fun H locs hw => ?_)
  refine lv_lstore_n (lv' := [(2, .long u4), (0, .ref (b0 + a0)), (1, .int x1)]) C0.hx C0.hb dX8_fit_10 rfl hl (by decide) rfl (fun ls hl => ?_)
  refine lv_iload_n C0.hx C0.hb dX8_fit_11 rfl (lv_at hl 2 rfl) ?_
  refine lv_iconst (v := (-1 : Int32)) C0.hx C0.hb dX8_fit_12 (by decide) ?_
  refine lv_icmp_ne (tgt := 21) C0.hx C0.hb dX8_fit_13 (by decide) (fun hc => ?_) (fun hc => ?_)
  · have h := (if_neg hc).symm.trans h
    refine lv_iconst (v := (0 : Int32)) C0.hx C0.hb dX8_fit_21 (by decide) ?_
    refine lv_istore (lv' := [(4, .int (0 : Int32)), (2, .long u4), (0, .ref (b0 + a0)), (1, .int x1)]) C0.hx C0.hb dX8_fit_22 hl (by decide) rfl (fun ls hl => ?_)
    refine lv_iconst (v := (0 : Int32)) C0.hx C0.hb dX8_fit_24 (by decide) ?_
    refine lv_istore (lv' := [(5, .int (0 : Int32)), (4, .int (0 : Int32)), (2, .long u4), (0, .ref (b0 + a0)), (1, .int x1)]) C0.hx C0.hb dX8_fit_25 hl (by decide) rfl (fun ls hl => ?_)
    exact w_X8_fit_b27 C0 hr hlocks FU x1 u4 (0 : Int32) (0 : Int32) _ _ _ hw (lv_sub hl [4, 2, 1, 0] rfl) h
  · have h := (if_pos hc).symm.trans h
    refine lv_lload_n C0.hx C0.hb dX8_fit_16 rfl (lv_at hl 0 rfl) ?_
    refine q_callS (n := 1) (av := [.long u4]) (rest := []) (st1 := [.int (f_J13_bitCount_95d88 u4)]) C0 hw (m_J13_bitCount_95d88 l b0 D cy S u4) (goodS kw_778 kw_779 kw_77 kw_780) ⟨rfl, rfl⟩ (by decide +kernel) ⟨(Nat.le_of_ble_eq_true rfl), (Nat.le_of_ble_eq_true rfl)⟩ rfl hl.1 rfl (Nat.le_of_ble_eq_true rfl) dX8_fit_17 ⟨Nat.zero_le _, Nat.zero_le _⟩ rfl (fun H locs hw => ?_)
    obtain rfl := Option.some.inj h
    exact q_reti C0 hw hr hlocks dX8_fit_20
abbrev rm_X8_greatestPart : Room := { frames := 4, cells := 0, slots := 0, locals := 100 }
def f_X8_greatestPart_b64 (k16 : Nat → Int64 → Nat → Int32 → Int32 → Mem → Option (Int32 × Mem)) (a0 : Nat) (y1 : Int64) (a3 : Nat) (x4 : Int32) (x5 : Int32) (S : Mem) : Option (Int32 × Mem) :=
    (some (x5 + (1 : Int32))).bind fun v3 =>
      k16 a0 y1 a3 x4 v3 S
def f_X8_greatestPart_b16 : Nat → Nat → Int64 → Nat → Int32 → Int32 → Mem → Option (Int32 × Mem)
  | 0, _, _, _, _, _, _ => none
  | n + 1, a0, y1, a3, x4, x5, S =>
    (if (64 : Int32) ≤ x5 then
      some (x4, S)
      else
      (if (lg_cmp ((usJ y1 x5) &&& (1 : Int64)) (1 : Int64)) = (0 : Int32) then
      (gR 8 7 S a0).bind fun r4 =>
      (ck 4 S r4).bind fun c5 =>
      (f_X4_nextBy r4 x5 S).bind fun v6 =>
      (ldI S a3 v6).bind fun v7 =>
      (stI S a3 v6 (v7 + (1 : Int32))).bind fun S8 =>
      (ldI S8 a3 v6).bind fun v9 =>
      (some (if x4 < v9 then v9 else x4)).bind fun v10 =>
      f_X8_greatestPart_b64 (fun a0 y1 a3 x4 x5 S => f_X8_greatestPart_b16  n a0 y1 a3 x4 x5 S) a0 y1 a3 v10 x5 S8
      else
      f_X8_greatestPart_b64 (fun a0 y1 a3 x4 x5 S => f_X8_greatestPart_b16  n a0 y1 a3 x4 x5 S) a0 y1 a3 x4 x5 S))
def f_X8_greatestPart (a0 : Nat) (y1 : Int64) (S : Mem) : Option (Int32 × Mem) :=
    (gR 8 9 S a0).bind fun r1 =>
      (f_J7_fill_53178 r1 (0 : Int32) S).bind fun S2 =>
      f_X8_greatestPart_b16 FU a0 y1 r1 (0 : Int32) (0 : Int32) S2
set_option maxHeartbeats 4000000 in
set_option maxRecDepth 100000 in
theorem w_X8_greatestPart_b64 {p : Program} {l : Launch} {e : Env} {s : State} {m : MethodId} {args : Array Value} {below : List Frame} {meth : Method} {c : Code} {b0 : Nat} {D : va_G} {cy : Nat → ClassId} {q : (Int32 × Mem)} (C0 : Cx p m c cX8_greatestPart 7 s args RX8 D cy) (hr : meth.sig.returnType = some .int) (hlocks : meth.locks = false) (k16 : Nat → Int64 → Nat → Int32 → Int32 → Mem → Option (Int32 × Mem)) (hk16 : ∀ (a0 : Nat) (y1 : Int64) (a3 : Nat) (x4 : Int32) (x5 : Int32) (S : Mem) (H : Heap) (locs : List Loc) (ls : Array Slot), Wd b0 D cy S s.heap H locs → lv_has ls 7 [(0, .ref (b0 + a0)), (1, .long y1), (3, .ref (b0 + a3)), (4, .int x4), (5, .int x5)] → k16 a0 y1 a3 x4 x5 S = some q → W p l e rm_X8_greatestPart s m args below meth c H locs 0 0 (MQ below (Qp b0 D cy (some (.int q.1)) q.2) args s 0 0 (fun q => b0 ≤ q)) (F0 m 16 ls [])) : ∀ (a0 : Nat) (y1 : Int64) (a3 : Nat) (x4 : Int32) (x5 : Int32) (S : Mem) (H : Heap) (locs : List Loc) (ls : Array Slot), Wd b0 D cy S s.heap H locs → lv_has ls 7 [(0, .ref (b0 + a0)), (1, .long y1), (3, .ref (b0 + a3)), (4, .int x4), (5, .int x5)] → f_X8_greatestPart_b64 k16 a0 y1 a3 x4 x5 S = some q → W p l e rm_X8_greatestPart s m args below meth c H locs 0 0 (MQ below (Qp b0 D cy (some (.int q.1)) q.2) args s 0 0 (fun q => b0 ≤ q)) (F0 m 64 ls []) := by
  intro a0 y1 a3 x4 x5 S H locs ls hw hl h
  rw [f_X8_greatestPart_b64] at h
  obtain ⟨v3, hv3, h⟩ := Option.bind_eq_some_iff.mp h
  refine lv_iinc (v := v3) (lv' := [(5, .int v3), (0, .ref (b0 + a0)), (1, .long y1), (3, .ref (b0 + a3)), (4, .int x4)]) C0.hx C0.hb dX8_greatestPart_64 hl (k := 4) rfl (by rw [← Option.some.inj hv3]; rfl) (by decide) rfl (fun ls hl => ?_)
  refine lv_goto (tgt := 16) C0.hx C0.hb dX8_greatestPart_67 (by decide) ?_
  exact hk16 a0 y1 a3 x4 v3 S _ _ _ hw (lv_sub hl [1, 2, 3, 4, 0] rfl) h
set_option maxHeartbeats 4000000 in
set_option maxRecDepth 100000 in
theorem w_X8_greatestPart_b16 {p : Program} {l : Launch} {e : Env} {s : State} {m : MethodId} {args : Array Value} {below : List Frame} {meth : Method} {c : Code} {b0 : Nat} {D : va_G} {cy : Nat → ClassId} {q : (Int32 × Mem)} (C0 : Cx p m c cX8_greatestPart 7 s args RX8 D cy) (hr : meth.sig.returnType = some .int) (hlocks : meth.locks = false) : ∀ (n : Nat) (a0 : Nat) (y1 : Int64) (a3 : Nat) (x4 : Int32) (x5 : Int32) (S : Mem) (H : Heap) (locs : List Loc) (ls : Array Slot), Wd b0 D cy S s.heap H locs → lv_has ls 7 [(0, .ref (b0 + a0)), (1, .long y1), (3, .ref (b0 + a3)), (4, .int x4), (5, .int x5)] → f_X8_greatestPart_b16  n a0 y1 a3 x4 x5 S = some q → W p l e rm_X8_greatestPart s m args below meth c H locs 0 0 (MQ below (Qp b0 D cy (some (.int q.1)) q.2) args s 0 0 (fun q => b0 ≤ q)) (F0 m 16 ls []) := by
  intro n
  induction n with
  | zero => intro a0 y1 a3 x4 x5 S H locs ls hw hl h; exact absurd h (by simp [f_X8_greatestPart_b16])
  | succ n ih =>
    intro a0 y1 a3 x4 x5 S H locs ls hw hl h
    rw [f_X8_greatestPart_b16] at h
    refine lv_iload C0.hx C0.hb dX8_greatestPart_16 (lv_at hl 4 rfl) ?_
    refine lv_bipush (v := (64 : Int32)) C0.hx C0.hb dX8_greatestPart_18 (by decide) ?_
    refine lv_icmp_ge (tgt := 70) C0.hx C0.hb dX8_greatestPart_20 (by decide) (fun hc => ?_) (fun hc => ?_)
    · have h := (if_pos hc).symm.trans h
      refine lv_iload C0.hx C0.hb dX8_greatestPart_70 (lv_at hl 3 rfl) ?_
      obtain rfl := Option.some.inj h
      exact q_reti C0 hw hr hlocks dX8_greatestPart_72
    · have h := (if_neg hc).symm.trans h
      refine lv_lload_n C0.hx C0.hb dX8_greatestPart_23 rfl (lv_at hl 1 rfl) ?_
      refine lv_iload C0.hx C0.hb dX8_greatestPart_24 (lv_at hl 4 rfl) ?_
      refine lv_lushr (v := usJ y1 x5) C0.hx C0.hb dX8_greatestPart_26 rfl ?_
      refine lv_lconst (v := (1 : Int64)) C0.hx C0.hb dX8_greatestPart_27 (by decide) ?_
      refine lv_land C0.hx C0.hb dX8_greatestPart_28 ?_
      refine lv_lconst (v := (1 : Int64)) C0.hx C0.hb dX8_greatestPart_29 (by decide) ?_
      refine W.lcmp C0.hx C0.hb dX8_greatestPart_30 ?_
      refine lv_if_ne (tgt := 64) C0.hx C0.hb dX8_greatestPart_31 (by decide) (fun hc => ?_) (fun hc => ?_)
      · have h := (if_neg hc).symm.trans h
        exact w_X8_greatestPart_b64 C0 hr hlocks (fun a0 y1 a3 x4 x5 S => f_X8_greatestPart_b16  n a0 y1 a3 x4 x5 S) ih a0 y1 a3 x4 x5 S _ _ _ hw (lv_sub hl [0, 1, 2, 3, 4] rfl) h
      · have h := (if_pos hc).symm.trans h
        refine lv_aload_n C0.hx C0.hb dX8_greatestPart_34 rfl (lv_at hl 0 rfl) ?_
        obtain ⟨r4, hr4, h⟩ := Option.bind_eq_some_iff.mp h
        refine q_getR C0 hw hr4 rfl in_8 (by decide) kw_357 dX8_greatestPart_35 ?_
        refine lv_iload C0.hx C0.hb dX8_greatestPart_38 (lv_at hl 4 rfl) ?_
        obtain ⟨c5, hc5, h⟩ := Option.bind_eq_some_iff.mp h
        obtain ⟨v6, hv6, h⟩ := Option.bind_eq_some_iff.mp h
        refine q_callV (n := 1) (av := [.int x5]) (rest := []) (st1 := [.int v6]) C0 hw (m_X4_nextBy l b0 D cy S r4 x5 hv6) hc5 rfl (by decide) (goodV kw_792 kw_602 kw_603 kw_67 kw_604) ⟨rfl, rfl⟩ (by decide +kernel) ⟨(Nat.le_of_ble_eq_true rfl), (Nat.le_of_ble_eq_true rfl)⟩ rfl hl.1 rfl (Nat.le_of_ble_eq_true rfl) dX8_greatestPart_40 ⟨Nat.zero_le _, Nat.zero_le _⟩ rfl (fun H locs hw => ?_)
        refine lv_istore (lv' := [(6, .int v6), (0, .ref (b0 + a0)), (1, .long y1), (3, .ref (b0 + a3)), (4, .int x4), (5, .int x5)]) C0.hx C0.hb dX8_greatestPart_43 hl (by decide) rfl (fun ls hl => ?_)
        refine lv_aload_n C0.hx C0.hb dX8_greatestPart_45 rfl (lv_at hl 3 rfl) ?_
        refine lv_iload C0.hx C0.hb dX8_greatestPart_46 (lv_at hl 0 rfl) ?_
        refine lv_dup2_11 C0.hx C0.hb dX8_greatestPart_48 rfl rfl ?_
        obtain ⟨v7, hv7, h⟩ := Option.bind_eq_some_iff.mp h
        refine q_ldI C0 hw hv7 dX8_greatestPart_49 ?_
        refine lv_iconst (v := (1 : Int32)) C0.hx C0.hb dX8_greatestPart_50 (by decide) ?_
        refine lv_iadd C0.hx C0.hb dX8_greatestPart_51 ?_
        obtain ⟨S8, hS8, h⟩ := Option.bind_eq_some_iff.mp h
        refine q_stI C0 hw hS8 dX8_greatestPart_52 (fun H locs hw => ?_)
        refine lv_iload C0.hx C0.hb dX8_greatestPart_53 (lv_at hl 4 rfl) ?_
        refine lv_aload_n C0.hx C0.hb dX8_greatestPart_55 rfl (lv_at hl 3 rfl) ?_
        refine lv_iload C0.hx C0.hb dX8_greatestPart_56 (lv_at hl 0 rfl) ?_
        obtain ⟨v9, hv9, h⟩ := Option.bind_eq_some_iff.mp h
        refine q_ldI C0 hw hv9 dX8_greatestPart_58 ?_
        refine va_mmax C0.hx C0.hb (C0.1.2.2.1.trans hl.1.symm) C0.ho (C0.w kw_793) (C0.w kw_794) (C0.w kw_75) (C0.w kw_795) (Nat.le_of_ble_eq_true rfl) (Nat.le_of_ble_eq_true rfl) (Nat.zero_le _) (Nat.zero_le _) dX8_greatestPart_59 ?_
        obtain ⟨v10, hv10, h⟩ := Option.bind_eq_some_iff.mp h
        refine q_nmI hv10 ?_
        refine lv_istore (lv' := [(4, .int v10), (6, .int v6), (0, .ref (b0 + a0)), (1, .long y1), (3, .ref (b0 + a3)), (5, .int x5)]) C0.hx C0.hb dX8_greatestPart_62 hl (by decide) rfl (fun ls hl => ?_)
        exact w_X8_greatestPart_b64 C0 hr hlocks (fun a0 y1 a3 x4 x5 S => f_X8_greatestPart_b16  n a0 y1 a3 x4 x5 S) ih a0 y1 a3 v10 x5 S8 _ _ _ hw (lv_sub hl [2, 3, 4, 0, 5] rfl) h
set_option maxHeartbeats 4000000 in
set_option maxRecDepth 100000 in
theorem m_X8_greatestPart (l : Launch) (b0 : Nat) (D : va_G) (cy : Nat → ClassId) (S : Mem) (a0 : Nat) (y1 : Int64) {q : (Int32 × Mem)} (h : f_X8_greatestPart a0 y1 S = some q) : Met l yX8_greatestPart [.code yX8_greatestPart cX8_greatestPart 7 (some .int)] rm_X8_greatestPart (Pr b0 D cy S [.ref (b0 + a0), .long y1]) (Qp b0 D cy (some (.int q.1)) q.2) 0 0 (fun q => b0 ≤ q) := by
  refine Met.ofW (cc := cX8_greatestPart) (maxL := 7) (ret := some .int) (by decide) rfl ?_
  intro p e s m args below meth c s₁ B hml hv
  obtain ⟨rfl, hP, hK, hT⟩ := hv
  have C0 : Cx p m c cX8_greatestPart 7 s (List.toArray [.ref (b0 + a0), .long y1]) RX8 D cy := ⟨⟨B.exec, B.bytes, hml, findClass_of_methodNamed B.named, fun w h => hT w h _⟩, hK, hT⟩
  have hr : meth.sig.returnType = some .int := B.returns
  have hlocks := B.notSynchronized
  have hw : Wd b0 D cy S s.heap s.heap [] := ⟨hP, va_S.rf⟩
  have hl := lv_entry ([.ref (b0 + a0), .long y1]) (n := 7) (Nat.le_of_ble_eq_true rfl)
  rw [lg_entry_eq]
  generalize (lg_sl ([.ref (b0 + a0), .long y1]) ++ List.replicate (7 - (lg_sl ([.ref (b0 + a0), .long y1])).length) Slot.unset).toArray = ls at hl ⊢
  have hl : lv_has ls 7 [(0, .ref (b0 + a0)), (1, .long y1)] := hl
  rw [f_X8_greatestPart] at h
  show W p l e rm_X8_greatestPart s m _ below meth c s.heap [] 0 0 _ _
  refine lv_aload_n C0.hx C0.hb dX8_greatestPart_0 rfl (lv_at hl 0 rfl) ?_
  obtain ⟨r1, hr1, h⟩ := Option.bind_eq_some_iff.mp h
  refine q_getR C0 hw hr1 rfl in_8 (by decide) kw_359 dX8_greatestPart_1 ?_
  refine lv_astore_n (lv' := [(3, .ref (b0 + r1)), (0, .ref (b0 + a0)), (1, .long y1)]) C0.hx C0.hb dX8_greatestPart_4 rfl hl (by decide) rfl (fun ls hl => ?_)
  refine lv_aload_n C0.hx C0.hb dX8_greatestPart_5 rfl (lv_at hl 0 rfl) ?_
  refine lv_iconst (v := (0 : Int32)) C0.hx C0.hb dX8_greatestPart_6 (by decide) ?_
  obtain ⟨S2, hS2, h⟩ := Option.bind_eq_some_iff.mp h
  refine q_callS (n := 2) (av := [.ref (b0 + r1), .int (0 : Int32)]) (rest := []) (st1 := []) C0 hw (m_J7_fill_53178 l b0 D cy S r1 (0 : Int32) hS2) (goodS kw_741 kw_474 kw_73 kw_475) ⟨rfl, rfl⟩ (by decide +kernel) ⟨(Nat.le_of_ble_eq_true rfl), (Nat.le_of_ble_eq_true rfl)⟩ rfl hl.1 rfl (Nat.le_of_ble_eq_true rfl) dX8_greatestPart_7 ⟨Nat.zero_le _, Nat.zero_le _⟩ rfl (fun H locs hw => ?_)
  refine lv_iconst (v := (0 : Int32)) C0.hx C0.hb dX8_greatestPart_10 (by decide) ?_
  refine lv_istore (lv' := [(4, .int (0 : Int32)), (3, .ref (b0 + r1)), (0, .ref (b0 + a0)), (1, .long y1)]) C0.hx C0.hb dX8_greatestPart_11 hl (by decide) rfl (fun ls hl => ?_)
  refine lv_iconst (v := (0 : Int32)) C0.hx C0.hb dX8_greatestPart_13 (by decide) ?_
  refine lv_istore (lv' := [(5, .int (0 : Int32)), (4, .int (0 : Int32)), (3, .ref (b0 + r1)), (0, .ref (b0 + a0)), (1, .long y1)]) C0.hx C0.hb dX8_greatestPart_14 hl (by decide) rfl (fun ls hl => ?_)
  exact w_X8_greatestPart_b16 C0 hr hlocks FU a0 y1 r1 (0 : Int32) (0 : Int32) S2 _ _ _ hw (lv_sub hl [3, 4, 2, 1, 0] rfl) h
abbrev rm_X8_tells : Room := { frames := 5, cells := 0, slots := 0, locals := 126 }
def f_X8_tells_b84 (k22 : Nat → Int64 → Int32 → Int32 → Int32 → Mem → Option (Int32 × Mem)) (a0 : Nat) (y1 : Int64) (x3 : Int32) (x4 : Int32) (x5 : Int32) (S : Mem) : Option (Int32 × Mem) :=
    (some (x5 + (1 : Int32))).bind fun v18 =>
      k22 a0 y1 x3 x4 v18 S
def f_X8_tells_b22 : Nat → Nat → Int64 → Int32 → Int32 → Int32 → Mem → Option (Int32 × Mem)
  | 0, _, _, _, _, _, _ => none
  | n + 1, a0, y1, x3, x4, x5, S =>
    (gR 8 1 S a0).bind fun r6 =>
      (gI 2 2 S r6).bind fun v7 =>
      (if v7 ≤ x5 then
      some (x4, S)
      else
      (gR 8 7 S a0).bind fun r8 =>
      (gR 8 2 S a0).bind fun r9 =>
      (gR 5 0 S r9).bind fun r10 =>
      (ck 4 S r8).bind fun c11 =>
      (f_X4_copyFrom r8 r10 S).bind fun S12 =>
      (gR 8 7 S12 a0).bind fun r13 =>
      (gI 4 5 S12 r13).bind fun v14 =>
      (pI 4 5 S12 r13 (v14 ^^^ ((1 : Int32) <<< (x5 &&& 31)))).bind fun S15 =>
      (ck 8 S15 a0).bind fun c16 =>
      (f_X8_greatestPart a0 y1 S15).bind fun q17 =>
      (if x3 ≤ q17.1 then
      f_X8_tells_b84 (fun a0 y1 x3 x4 x5 S => f_X8_tells_b22  n a0 y1 x3 x4 x5 S) a0 y1 x3 x4 x5 q17.2
      else
      f_X8_tells_b84 (fun a0 y1 x3 x4 x5 S => f_X8_tells_b22  n a0 y1 x3 x4 x5 S) a0 y1 q17.1 x5 x5 q17.2))
def f_X8_tells (a0 : Nat) (S : Mem) : Option (Int32 × Mem) :=
    (gR 8 2 S a0).bind fun r1 =>
      (gR 5 1 S r1).bind fun r2 =>
      (ck 7 S r2).bind fun c3 =>
      (f_X7_fittingRules r2 S).bind fun u4 =>
      (some (f_J13_bitCount_95d88 u4)).bind fun v5 =>
      f_X8_tells_b22 FU a0 u4 v5 (-1 : Int32) (0 : Int32) S
set_option maxHeartbeats 4000000 in
set_option maxRecDepth 100000 in
theorem w_X8_tells_b84 {p : Program} {l : Launch} {e : Env} {s : State} {m : MethodId} {args : Array Value} {below : List Frame} {meth : Method} {c : Code} {b0 : Nat} {D : va_G} {cy : Nat → ClassId} {q : (Int32 × Mem)} (C0 : Cx p m c cX8_tells 7 s args RX8 D cy) (hr : meth.sig.returnType = some .int) (hlocks : meth.locks = false) (k22 : Nat → Int64 → Int32 → Int32 → Int32 → Mem → Option (Int32 × Mem)) (hk22 : ∀ (a0 : Nat) (y1 : Int64) (x3 : Int32) (x4 : Int32) (x5 : Int32) (S : Mem) (H : Heap) (locs : List Loc) (ls : Array Slot), Wd b0 D cy S s.heap H locs → lv_has ls 7 [(0, .ref (b0 + a0)), (1, .long y1), (3, .int x3), (4, .int x4), (5, .int x5)] → k22 a0 y1 x3 x4 x5 S = some q → W p l e rm_X8_tells s m args below meth c H locs 0 0 (MQ below (Qp b0 D cy (some (.int q.1)) q.2) args s 0 0 (fun q => b0 ≤ q)) (F0 m 22 ls [])) : ∀ (a0 : Nat) (y1 : Int64) (x3 : Int32) (x4 : Int32) (x5 : Int32) (S : Mem) (H : Heap) (locs : List Loc) (ls : Array Slot), Wd b0 D cy S s.heap H locs → lv_has ls 7 [(0, .ref (b0 + a0)), (1, .long y1), (3, .int x3), (4, .int x4), (5, .int x5)] → f_X8_tells_b84 k22 a0 y1 x3 x4 x5 S = some q → W p l e rm_X8_tells s m args below meth c H locs 0 0 (MQ below (Qp b0 D cy (some (.int q.1)) q.2) args s 0 0 (fun q => b0 ≤ q)) (F0 m 84 ls []) := by
  intro a0 y1 x3 x4 x5 S H locs ls hw hl h
  rw [f_X8_tells_b84] at h
  obtain ⟨v18, hv18, h⟩ := Option.bind_eq_some_iff.mp h
  refine lv_iinc (v := v18) (lv' := [(5, .int v18), (0, .ref (b0 + a0)), (1, .long y1), (3, .int x3), (4, .int x4)]) C0.hx C0.hb dX8_tells_84 hl (k := 4) rfl (by rw [← Option.some.inj hv18]; rfl) (by decide) rfl (fun ls hl => ?_)
  refine lv_goto (tgt := 22) C0.hx C0.hb dX8_tells_87 (by decide) ?_
  exact hk22 a0 y1 x3 x4 v18 S _ _ _ hw (lv_sub hl [1, 2, 3, 4, 0] rfl) h
set_option maxHeartbeats 4000000 in
set_option maxRecDepth 100000 in
theorem w_X8_tells_b22 {p : Program} {l : Launch} {e : Env} {s : State} {m : MethodId} {args : Array Value} {below : List Frame} {meth : Method} {c : Code} {b0 : Nat} {D : va_G} {cy : Nat → ClassId} {q : (Int32 × Mem)} (C0 : Cx p m c cX8_tells 7 s args RX8 D cy) (hr : meth.sig.returnType = some .int) (hlocks : meth.locks = false) : ∀ (n : Nat) (a0 : Nat) (y1 : Int64) (x3 : Int32) (x4 : Int32) (x5 : Int32) (S : Mem) (H : Heap) (locs : List Loc) (ls : Array Slot), Wd b0 D cy S s.heap H locs → lv_has ls 7 [(0, .ref (b0 + a0)), (1, .long y1), (3, .int x3), (4, .int x4), (5, .int x5)] → f_X8_tells_b22  n a0 y1 x3 x4 x5 S = some q → W p l e rm_X8_tells s m args below meth c H locs 0 0 (MQ below (Qp b0 D cy (some (.int q.1)) q.2) args s 0 0 (fun q => b0 ≤ q)) (F0 m 22 ls []) := by
  intro n
  induction n with
  | zero => intro a0 y1 x3 x4 x5 S H locs ls hw hl h; exact absurd h (by simp [f_X8_tells_b22])
  | succ n ih =>
    intro a0 y1 x3 x4 x5 S H locs ls hw hl h
    rw [f_X8_tells_b22] at h
    refine lv_iload C0.hx C0.hb dX8_tells_22 (lv_at hl 4 rfl) ?_
    refine lv_aload_n C0.hx C0.hb dX8_tells_24 rfl (lv_at hl 0 rfl) ?_
    obtain ⟨r6, hr6, h⟩ := Option.bind_eq_some_iff.mp h
    refine q_getR C0 hw hr6 rfl in_8 (by decide) kw_351 dX8_tells_25 ?_
    obtain ⟨v7, hv7, h⟩ := Option.bind_eq_some_iff.mp h
    refine q_getI C0 hw hv7 rfl in_2 (by decide) kw_105 dX8_tells_28 ?_
    refine lv_icmp_ge (tgt := 90) C0.hx C0.hb dX8_tells_31 (by decide) (fun hc => ?_) (fun hc => ?_)
    · have h := (if_pos hc).symm.trans h
      refine lv_iload C0.hx C0.hb dX8_tells_90 (lv_at hl 3 rfl) ?_
      obtain rfl := Option.some.inj h
      exact q_reti C0 hw hr hlocks dX8_tells_92
    · have h := (if_neg hc).symm.trans h
      refine lv_aload_n C0.hx C0.hb dX8_tells_34 rfl (lv_at hl 0 rfl) ?_
      obtain ⟨r8, hr8, h⟩ := Option.bind_eq_some_iff.mp h
      refine q_getR C0 hw hr8 rfl in_8 (by decide) kw_357 dX8_tells_35 ?_
      refine lv_aload_n C0.hx C0.hb dX8_tells_38 rfl (lv_at hl 0 rfl) ?_
      obtain ⟨r9, hr9, h⟩ := Option.bind_eq_some_iff.mp h
      refine q_getR C0 hw hr9 rfl in_8 (by decide) kw_352 dX8_tells_39 ?_
      obtain ⟨r10, hr10, h⟩ := Option.bind_eq_some_iff.mp h
      refine q_getR C0 hw hr10 rfl in_5 (by decide) kw_259 dX8_tells_42 ?_
      obtain ⟨c11, hc11, h⟩ := Option.bind_eq_some_iff.mp h
      obtain ⟨S12, hS12, h⟩ := Option.bind_eq_some_iff.mp h
      refine q_callV (n := 1) (av := [.ref (b0 + r10)]) (rest := []) (st1 := []) C0 hw (m_X4_copyFrom l b0 D cy S r8 r10 hS12) hc11 rfl (by decide) (goodV kw_687 kw_572 kw_573 kw_67 kw_574) ⟨rfl, rfl⟩ (by decide +kernel) ⟨(Nat.le_of_ble_eq_true rfl), (Nat.le_of_ble_eq_true rfl)⟩ rfl hl.1 rfl (Nat.le_of_ble_eq_true rfl) dX8_tells_45 ⟨Nat.zero_le _, Nat.zero_le _⟩ rfl (fun H locs hw => ?_)
      refine lv_aload_n C0.hx C0.hb dX8_tells_48 rfl (lv_at hl 0 rfl) ?_
      obtain ⟨r13, hr13, h⟩ := Option.bind_eq_some_iff.mp h
      refine q_getR C0 hw hr13 rfl in_8 (by decide) kw_357 dX8_tells_49 ?_
      refine lv_dup C0.hx C0.hb dX8_tells_52 rfl ?_
      obtain ⟨v14, hv14, h⟩ := Option.bind_eq_some_iff.mp h
      refine q_getI C0 hw hv14 rfl in_4 (by decide) kw_210 dX8_tells_53 ?_
      refine lv_iconst (v := (1 : Int32)) C0.hx C0.hb dX8_tells_56 (by decide) ?_
      refine lv_iload C0.hx C0.hb dX8_tells_57 (lv_at hl 4 rfl) ?_
      refine lv_ishl C0.hx C0.hb dX8_tells_59 ?_
      refine lv_ixor C0.hx C0.hb dX8_tells_60 ?_
      obtain ⟨S15, hS15, h⟩ := Option.bind_eq_some_iff.mp h
      refine q_putI C0 hw hS15 rfl in_4 tyX4_ok nmX4 ⟨by decide, by decide, rfl, rfl⟩ rfl kw_210 dX8_tells_61 (fun H locs hw => ?_)
      refine lv_aload_n C0.hx C0.hb dX8_tells_64 rfl (lv_at hl 0 rfl) ?_
      refine lv_lload_n C0.hx C0.hb dX8_tells_65 rfl (lv_at hl 1 rfl) ?_
      obtain ⟨c16, hc16, h⟩ := Option.bind_eq_some_iff.mp h
      obtain ⟨q17, hq17, h⟩ := Option.bind_eq_some_iff.mp h
      refine q_callV (n := 1) (av := [.long y1]) (rest := []) (st1 := [.int q17.1]) C0 hw (m_X8_greatestPart l b0 D cy S15 a0 y1 hq17) hc16 rfl (by decide) (goodV kw_788 kw_790 kw_21 kw_63 kw_791) ⟨rfl, rfl⟩ (by decide +kernel) ⟨(Nat.le_of_ble_eq_true rfl), (Nat.le_of_ble_eq_true rfl)⟩ rfl hl.1 rfl (Nat.le_of_ble_eq_true rfl) dX8_tells_66 ⟨Nat.zero_le _, Nat.zero_le _⟩ rfl (fun H locs hw => ?_)
      refine lv_istore (lv' := [(6, .int q17.1), (0, .ref (b0 + a0)), (1, .long y1), (3, .int x3), (4, .int x4), (5, .int x5)]) C0.hx C0.hb dX8_tells_69 hl (by decide) rfl (fun ls hl => ?_)
      refine lv_iload C0.hx C0.hb dX8_tells_71 (lv_at hl 0 rfl) ?_
      refine lv_iload_n C0.hx C0.hb dX8_tells_73 rfl (lv_at hl 3 rfl) ?_
      refine lv_icmp_ge (tgt := 84) C0.hx C0.hb dX8_tells_74 (by decide) (fun hc => ?_) (fun hc => ?_)
      · have h := (if_pos hc).symm.trans h
        exact w_X8_tells_b84 C0 hr hlocks (fun a0 y1 x3 x4 x5 S => f_X8_tells_b22  n a0 y1 x3 x4 x5 S) ih a0 y1 x3 x4 x5 q17.2 _ _ _ hw (lv_sub hl [1, 2, 3, 4, 5] rfl) h
      · have h := (if_neg hc).symm.trans h
        refine lv_iload C0.hx C0.hb dX8_tells_77 (lv_at hl 0 rfl) ?_
        refine lv_istore_n (lv' := [(3, .int q17.1), (6, .int q17.1), (0, .ref (b0 + a0)), (1, .long y1), (4, .int x4), (5, .int x5)]) C0.hx C0.hb dX8_tells_79 rfl hl (by decide) rfl (fun ls hl => ?_)
        refine lv_iload C0.hx C0.hb dX8_tells_80 (lv_at hl 5 rfl) ?_
        refine lv_istore (lv' := [(4, .int x5), (3, .int q17.1), (6, .int q17.1), (0, .ref (b0 + a0)), (1, .long y1), (5, .int x5)]) C0.hx C0.hb dX8_tells_82 hl (by decide) rfl (fun ls hl => ?_)
        exact w_X8_tells_b84 C0 hr hlocks (fun a0 y1 x3 x4 x5 S => f_X8_tells_b22  n a0 y1 x3 x4 x5 S) ih a0 y1 q17.1 x5 x5 q17.2 _ _ _ hw (lv_sub hl [3, 4, 1, 0, 5] rfl) h
set_option maxHeartbeats 4000000 in
set_option maxRecDepth 100000 in
theorem m_X8_tells (l : Launch) (b0 : Nat) (D : va_G) (cy : Nat → ClassId) (S : Mem) (a0 : Nat) {q : (Int32 × Mem)} (h : f_X8_tells a0 S = some q) : Met l yX8_tells [.code yX8_tells cX8_tells 7 (some .int)] rm_X8_tells (Pr b0 D cy S [.ref (b0 + a0)]) (Qp b0 D cy (some (.int q.1)) q.2) 0 0 (fun q => b0 ≤ q) := by
  refine Met.ofW (cc := cX8_tells) (maxL := 7) (ret := some .int) (by decide) rfl ?_
  intro p e s m args below meth c s₁ B hml hv
  obtain ⟨rfl, hP, hK, hT⟩ := hv
  have C0 : Cx p m c cX8_tells 7 s (List.toArray [.ref (b0 + a0)]) RX8 D cy := ⟨⟨B.exec, B.bytes, hml, findClass_of_methodNamed B.named, fun w h => hT w h _⟩, hK, hT⟩
  have hr : meth.sig.returnType = some .int := B.returns
  have hlocks := B.notSynchronized
  have hw : Wd b0 D cy S s.heap s.heap [] := ⟨hP, va_S.rf⟩
  have hl := lv_entry ([.ref (b0 + a0)]) (n := 7) (Nat.le_of_ble_eq_true rfl)
  rw [lg_entry_eq]
  generalize (lg_sl ([.ref (b0 + a0)]) ++ List.replicate (7 - (lg_sl ([.ref (b0 + a0)])).length) Slot.unset).toArray = ls at hl ⊢
  have hl : lv_has ls 7 [(0, .ref (b0 + a0))] := hl
  rw [f_X8_tells] at h
  show W p l e rm_X8_tells s m _ below meth c s.heap [] 0 0 _ _
  refine lv_aload_n C0.hx C0.hb dX8_tells_0 rfl (lv_at hl 0 rfl) ?_
  obtain ⟨r1, hr1, h⟩ := Option.bind_eq_some_iff.mp h
  refine q_getR C0 hw hr1 rfl in_8 (by decide) kw_352 dX8_tells_1 ?_
  obtain ⟨r2, hr2, h⟩ := Option.bind_eq_some_iff.mp h
  refine q_getR C0 hw hr2 rfl in_5 (by decide) kw_261 dX8_tells_4 ?_
  obtain ⟨c3, hc3, h⟩ := Option.bind_eq_some_iff.mp h
  obtain ⟨u4, hu4, h⟩ := Option.bind_eq_some_iff.mp h
  refine q_callV (n := 0) (av := []) (rest := []) (st1 := [.long u4]) C0 hw (m_X7_fittingRules l b0 D cy S r2 hu4) hc3 rfl (by decide) (goodV kw_768 kw_769 kw_770 kw_68 kw_771) ⟨rfl, rfl⟩ (by decide +kernel) ⟨(Nat.le_of_ble_eq_true rfl), (Nat.le_of_ble_eq_true rfl)⟩ rfl hl.1 rfl (Nat.le_of_ble_eq_true rfl) dX8_tells_7 ⟨Nat.zero_le _, Nat.zero_le _⟩ rfl (fun H locs hw => ?_)
  refine lv_lstore_n (lv' := [(1, .long u4), (0, .ref (b0 + a0))]) C0.hx C0.hb dX8_tells_10 rfl hl (by decide) rfl (fun ls hl => ?_)
  refine lv_lload_n C0.hx C0.hb dX8_tells_11 rfl (lv_at hl 0 rfl) ?_
  refine q_callS (n := 1) (av := [.long u4]) (rest := []) (st1 := [.int (f_J13_bitCount_95d88 u4)]) C0 hw (m_J13_bitCount_95d88 l b0 D cy S u4) (goodS kw_778 kw_779 kw_77 kw_780) ⟨rfl, rfl⟩ (by decide +kernel) ⟨(Nat.le_of_ble_eq_true rfl), (Nat.le_of_ble_eq_true rfl)⟩ rfl hl.1 rfl (Nat.le_of_ble_eq_true rfl) dX8_tells_12 ⟨Nat.zero_le _, Nat.zero_le _⟩ rfl (fun H locs hw => ?_)
  obtain ⟨v5, hv5, h⟩ := Option.bind_eq_some_iff.mp h
  refine q_nmI hv5 ?_
  refine lv_istore_n (lv' := [(3, .int v5), (1, .long u4), (0, .ref (b0 + a0))]) C0.hx C0.hb dX8_tells_15 rfl hl (by decide) rfl (fun ls hl => ?_)
  refine lv_iconst (v := (-1 : Int32)) C0.hx C0.hb dX8_tells_16 (by decide) ?_
  refine lv_istore (lv' := [(4, .int (-1 : Int32)), (3, .int v5), (1, .long u4), (0, .ref (b0 + a0))]) C0.hx C0.hb dX8_tells_17 hl (by decide) rfl (fun ls hl => ?_)
  refine lv_iconst (v := (0 : Int32)) C0.hx C0.hb dX8_tells_19 (by decide) ?_
  refine lv_istore (lv' := [(5, .int (0 : Int32)), (4, .int (-1 : Int32)), (3, .int v5), (1, .long u4), (0, .ref (b0 + a0))]) C0.hx C0.hb dX8_tells_20 hl (by decide) rfl (fun ls hl => ?_)
  exact w_X8_tells_b22 C0 hr hlocks FU a0 u4 v5 (-1 : Int32) (0 : Int32) S _ _ _ hw (lv_sub hl [4, 3, 2, 1, 0] rfl) h
