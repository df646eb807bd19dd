abbrev rm_X0_add : Room := { frames := 0, cells := 0, slots := 0, locals := 0 }
def f_X0_add (a0 : Nat) (x1 : Int32) (x2 : Int32) (S : Mem) : Option Mem :=
    (gI 0 0 S a0).bind fun v1 =>
      (if (15 : Int32) ≤ v1 then
      some S
      else
      (gR 0 1 S a0).bind fun r2 =>
      (gI 0 0 S a0).bind fun v3 =>
      (stI S r2 v3 x1).bind fun S4 =>
      (gR 0 2 S4 a0).bind fun r5 =>
      (gI 0 0 S4 a0).bind fun v6 =>
      (stI S4 r5 v6 x2).bind fun S7 =>
      (gI 0 0 S7 a0).bind fun v8 =>
      (pI 0 0 S7 a0 (v8 + (1 : Int32))).bind fun S9 =>
      some S9)
set_option maxHeartbeats 4000000 in
set_option maxRecDepth 100000 in
theorem m_X0_add (l : Launch) (b0 : Nat) (D : va_G) (cy : Nat → ClassId) (S : Mem) (a0 : Nat) (x1 : Int32) (x2 : Int32) {q : Mem} (h : f_X0_add a0 x1 x2 S = some q) : Met l yX0_add [.code yX0_add cX0_add 3 (none)] rm_X0_add (Pr b0 D cy S [.ref (b0 + a0), .int x1, .int x2]) (Qp b0 D cy none q) 0 0 (fun q => b0 ≤ q) := by
  refine Met.ofW (cc := cX0_add) (maxL := 3) (ret := none) (by decide) rfl ?_
  intro p e s m args below meth c s₁ B hml hv
  obtain ⟨rfl, hP, hK, hT⟩ := hv
  have C0 : Cx p m c cX0_add 3 s (List.toArray [.ref (b0 + a0), .int x1, .int x2]) RX0 D cy := ⟨⟨B.exec, B.bytes, hml, findClass_of_methodNamed B.named, fun w h => hT w h _⟩, hK, hT⟩
  have hr : meth.sig.returnType = none := B.returns
  have hlocks := B.notSynchronized
  have hw : Wd b0 D cy S s.heap s.heap [] := ⟨hP, va_S.rf⟩
  have hl := lv_entry ([.ref (b0 + a0), .int x1, .int x2]) (n := 3) (Nat.le_of_ble_eq_true rfl)
  rw [lg_entry_eq]
  generalize (lg_sl ([.ref (b0 + a0), .int x1, .int x2]) ++ List.replicate (3 - (lg_sl ([.ref (b0 + a0), .int x1, .int x2])).length) Slot.unset).toArray = ls at hl ⊢
  have hl : lv_has ls 3 [(0, .ref (b0 + a0)), (1, .int x1), (2, .int x2)] := hl
  rw [f_X0_add] at h
  show W p l e rm_X0_add s m _ below meth c s.heap [] 0 0 _ _
  refine lv_aload_n C0.hx C0.hb dX0_add_0 rfl (lv_at hl 0 rfl) ?_
  obtain ⟨v1, hv1, h⟩ := Option.bind_eq_some_iff.mp h
  refine q_getI C0 hw hv1 rfl in_0 (by decide) kw_319 dX0_add_1 ?_
  refine lv_bipush (v := (15 : Int32)) C0.hx C0.hb dX0_add_4 (by decide) ?_
  refine lv_icmp_ge (tgt := 39) C0.hx C0.hb dX0_add_6 (by decide) (fun hc => ?_) (fun hc => ?_)
  · have h := (if_pos hc).symm.trans h
    obtain rfl := Option.some.inj h
    exact q_retv C0 hw hr hlocks dX0_add_39
  · have h := (if_neg hc).symm.trans h
    refine lv_aload_n C0.hx C0.hb dX0_add_9 rfl (lv_at hl 0 rfl) ?_
    obtain ⟨r2, hr2, h⟩ := Option.bind_eq_some_iff.mp h
    refine q_getR C0 hw hr2 rfl in_0 (by decide) kw_321 dX0_add_10 ?_
    refine lv_aload_n C0.hx C0.hb dX0_add_13 rfl (lv_at hl 0 rfl) ?_
    obtain ⟨v3, hv3, h⟩ := Option.bind_eq_some_iff.mp h
    refine q_getI C0 hw hv3 rfl in_0 (by decide) kw_319 dX0_add_14 ?_
    refine lv_iload_n C0.hx C0.hb dX0_add_17 rfl (lv_at hl 1 rfl) ?_
    obtain ⟨S4, hS4, h⟩ := Option.bind_eq_some_iff.mp h
    refine q_stI C0 hw hS4 dX0_add_18 (fun H locs hw => ?_)
    refine lv_aload_n C0.hx C0.hb dX0_add_19 rfl (lv_at hl 0 rfl) ?_
    obtain ⟨r5, hr5, h⟩ := Option.bind_eq_some_iff.mp h
    refine q_getR C0 hw hr5 rfl in_0 (by decide) kw_322 dX0_add_20 ?_
    refine lv_aload_n C0.hx C0.hb dX0_add_23 rfl (lv_at hl 0 rfl) ?_
    obtain ⟨v6, hv6, h⟩ := Option.bind_eq_some_iff.mp h
    refine q_getI C0 hw hv6 rfl in_0 (by decide) kw_319 dX0_add_24 ?_
    refine lv_iload_n C0.hx C0.hb dX0_add_27 rfl (lv_at hl 2 rfl) ?_
    obtain ⟨S7, hS7, h⟩ := Option.bind_eq_some_iff.mp h
    refine q_stI C0 hw hS7 dX0_add_28 (fun H locs hw => ?_)
    refine lv_aload_n C0.hx C0.hb dX0_add_29 rfl (lv_at hl 0 rfl) ?_
    refine lv_dup C0.hx C0.hb dX0_add_30 rfl ?_
    obtain ⟨v8, hv8, h⟩ := Option.bind_eq_some_iff.mp h
    refine q_getI C0 hw hv8 rfl in_0 (by decide) kw_319 dX0_add_31 ?_
    refine lv_iconst (v := (1 : Int32)) C0.hx C0.hb dX0_add_34 (by decide) ?_
    refine lv_iadd C0.hx C0.hb dX0_add_35 ?_
    obtain ⟨S9, hS9, h⟩ := Option.bind_eq_some_iff.mp h
    refine q_putI C0 hw hS9 rfl in_0 tyX0_ok nmX0 ⟨by decide, by decide, rfl, rfl⟩ rfl kw_319 dX0_add_36 (fun H locs hw => ?_)
    obtain rfl := Option.some.inj h
    exact q_retv C0 hw hr hlocks dX0_add_39
abbrev rm_X0_firstWrong : Room := { frames := 0, cells := 0, slots := 0, locals := 0 }
def f_X0_firstWrong_b2 (S : Mem) : Nat → Nat → Nat → Int32 → Option Int32
  | 0, _, _, _ => none
  | n + 1, a0, a1, x2 =>
    (gI 0 0 S a0).bind fun v1 =>
      (if v1 ≤ x2 then
      some (-1 : Int32)
      else
      (gR 0 1 S a0).bind fun r2 =>
      (ldI S r2 x2).bind fun v3 =>
      (ldI S a1 v3).bind fun v4 =>
      (gR 0 2 S a0).bind fun r5 =>
      (ldI S r5 x2).bind fun v6 =>
      (if v4 = v6 then
      (some (x2 + (1 : Int32))).bind fun v7 =>
      f_X0_firstWrong_b2 S  n a0 a1 v7
      else
      some x2))
def f_X0_firstWrong (a0 : Nat) (a1 : Nat) (S : Mem) : Option Int32 :=
    f_X0_firstWrong_b2 S FU a0 a1 (0 : Int32)
set_option maxHeartbeats 4000000 in
set_option maxRecDepth 100000 in
theorem w_X0_firstWrong_b2 {p : Program} {l : Launch} {e : Env} {s : State} {m : MethodId} {args : Array Value} {below : List Frame} {meth : Method} {c : Code} {b0 : Nat} {D : va_G} {cy : Nat → ClassId} {S : Mem} {q : Int32} (C0 : Cx p m c cX0_firstWrong 3 s args RX0 D cy) (hr : meth.sig.returnType = some .int) (hlocks : meth.locks = false) : ∀ (n : Nat) (a0 : Nat) (a1 : Nat) (x2 : Int32) (H : Heap) (locs : List Loc) (ls : Array Slot), Wd b0 D cy S s.heap H locs → lv_has ls 3 [(0, .ref (b0 + a0)), (1, .ref (b0 + a1)), (2, .int x2)] → f_X0_firstWrong_b2 S  n a0 a1 x2 = some q → W p l e rm_X0_firstWrong s m args below meth c H locs 0 0 (MQ below (Qp b0 D cy (some (.int q)) S) args s 0 0 (fun q => b0 ≤ q)) (F0 m 2 ls []) := by
  intro n
  induction n with
  | zero => intro a0 a1 x2 H locs ls hw hl h; exact absurd h (by simp [f_X0_firstWrong_b2])
  | succ n ih =>
    intro a0 a1 x2 H locs ls hw hl h
    rw [f_X0_firstWrong_b2] at h
    refine lv_iload_n C0.hx C0.hb dX0_firstWrong_2 rfl (lv_at hl 2 rfl) ?_
    refine lv_aload_n C0.hx C0.hb dX0_firstWrong_3 rfl (lv_at hl 0 rfl) ?_
    obtain ⟨v1, hv1, h⟩ := Option.bind_eq_some_iff.mp h
    refine q_getI C0 hw hv1 rfl in_0 (by decide) kw_319 dX0_firstWrong_4 ?_
    refine lv_icmp_ge (tgt := 35) C0.hx C0.hb dX0_firstWrong_7 (by decide) (fun hc => ?_) (fun hc => ?_)
    · have h := (if_pos hc).symm.trans h
      refine lv_iconst (v := (-1 : Int32)) C0.hx C0.hb dX0_firstWrong_35 (by decide) ?_
      obtain rfl := Option.some.inj h
      exact q_reti C0 hw hr hlocks dX0_firstWrong_36
    · have h := (if_neg hc).symm.trans h
      refine lv_aload_n C0.hx C0.hb dX0_firstWrong_10 rfl (lv_at hl 1 rfl) ?_
      refine lv_aload_n C0.hx C0.hb dX0_firstWrong_11 rfl (lv_at hl 0 rfl) ?_
      obtain ⟨r2, hr2, h⟩ := Option.bind_eq_some_iff.mp h
      refine q_getR C0 hw hr2 rfl in_0 (by decide) kw_321 dX0_firstWrong_12 ?_
      refine lv_iload_n C0.hx C0.hb dX0_firstWrong_15 rfl (lv_at hl 2 rfl) ?_
      obtain ⟨v3, hv3, h⟩ := Option.bind_eq_some_iff.mp h
      refine q_ldI C0 hw hv3 dX0_firstWrong_16 ?_
      obtain ⟨v4, hv4, h⟩ := Option.bind_eq_some_iff.mp h
      refine q_ldI C0 hw hv4 dX0_firstWrong_17 ?_
      refine lv_aload_n C0.hx C0.hb dX0_firstWrong_18 rfl (lv_at hl 0 rfl) ?_
      obtain ⟨r5, hr5, h⟩ := Option.bind_eq_some_iff.mp h
      refine q_getR C0 hw hr5 rfl in_0 (by decide) kw_322 dX0_firstWrong_19 ?_
      refine lv_iload_n C0.hx C0.hb dX0_firstWrong_22 rfl (lv_at hl 2 rfl) ?_
      obtain ⟨v6, hv6, h⟩ := Option.bind_eq_some_iff.mp h
      refine q_ldI C0 hw hv6 dX0_firstWrong_23 ?_
      refine lv_icmp_eq (tgt := 29) C0.hx C0.hb dX0_firstWrong_24 (by decide) (fun hc => ?_) (fun hc => ?_)
      · have h := (if_pos hc).symm.trans h
        obtain ⟨v7, hv7, h⟩ := Option.bind_eq_some_iff.mp h
        refine lv_iinc (v := v7) (lv' := [(2, .int v7), (0, .ref (b0 + a0)), (1, .ref (b0 + a1))]) C0.hx C0.hb dX0_firstWrong_29 hl (k := 2) rfl (by rw [← Option.some.inj hv7]; rfl) (by decide) rfl (fun ls hl => ?_)
        refine lv_goto (tgt := 2) C0.hx C0.hb dX0_firstWrong_32 (by decide) ?_
        exact ih a0 a1 v7 _ _ _ hw (lv_sub hl [1, 2, 0] rfl) h
      · have h := (if_neg hc).symm.trans h
        refine lv_iload_n C0.hx C0.hb dX0_firstWrong_27 rfl (lv_at hl 2 rfl) ?_
        obtain rfl := Option.some.inj h
        exact q_reti C0 hw hr hlocks dX0_firstWrong_28
set_option maxHeartbeats 4000000 in
set_option maxRecDepth 100000 in
theorem m_X0_firstWrong (l : Launch) (b0 : Nat) (D : va_G) (cy : Nat → ClassId) (S : Mem) (a0 : Nat) (a1 : Nat) {q : Int32} (h : f_X0_firstWrong a0 a1 S = some q) : Met l yX0_firstWrong [.code yX0_firstWrong cX0_firstWrong 3 (some .int)] rm_X0_firstWrong (Pr b0 D cy S [.ref (b0 + a0), .ref (b0 + a1)]) (Qp b0 D cy (some (.int q)) S) 0 0 (fun q => b0 ≤ q) := by
  refine Met.ofW (cc := cX0_firstWrong) (maxL := 3) (ret := some .int) (by decide) rfl ?_
  intro p e s m args below meth c s₁ B hml hv
  obtain ⟨rfl, hP, hK, hT⟩ := hv
  have C0 : Cx p m c cX0_firstWrong 3 s (List.toArray [.ref (b0 + a0), .ref (b0 + a1)]) RX0 D cy := ⟨⟨B.exec, B.bytes, hml, findClass_of_methodNamed B.named, fun w h => hT w h _⟩, hK, hT⟩
  have hr : meth.sig.returnType = some .int := B.returns
  have hlocks := B.notSynchronized
  have hw : Wd b0 D cy S s.heap s.heap [] := ⟨hP, va_S.rf⟩
  have hl := lv_entry ([.ref (b0 + a0), .ref (b0 + a1)]) (n := 3) (Nat.le_of_ble_eq_true rfl)
  rw [lg_entry_eq]
  generalize (lg_sl ([.ref (b0 + a0), .ref (b0 + a1)]) ++ List.replicate (3 - (lg_sl ([.ref (b0 + a0), .ref (b0 + a1)])).length) Slot.unset).toArray = ls at hl ⊢
  have hl : lv_has ls 3 [(0, .ref (b0 + a0)), (1, .ref (b0 + a1))] := hl
  rw [f_X0_firstWrong] at h
  show W p l e rm_X0_firstWrong s m _ below meth c s.heap [] 0 0 _ _
  refine lv_iconst (v := (0 : Int32)) C0.hx C0.hb dX0_firstWrong_0 (by decide) ?_
  refine lv_istore_n (lv' := [(2, .int (0 : Int32)), (0, .ref (b0 + a0)), (1, .ref (b0 + a1))]) C0.hx C0.hb dX0_firstWrong_1 rfl hl (by decide) rfl (fun ls hl => ?_)
  exact w_X0_firstWrong_b2 C0 hr hlocks FU a0 a1 (0 : Int32) _ _ _ hw (lv_sub hl [1, 2, 0] rfl) h
abbrev rm_X2_clear : Room := { frames := 0, cells := 0, slots := 0, locals := 0 }
def f_X2_clear (a0 : Nat) (S : Mem) : Option Mem :=
    (pZ 2 0 S a0 (0 : Int32)).bind fun S1 =>
      (pI 2 1 S1 a0 (0 : Int32)).bind fun S2 =>
      (pI 2 2 S2 a0 (0 : Int32)).bind fun S3 =>
      (pI 2 3 S3 a0 (0 : Int32)).bind fun S4 =>
      (pI 2 4 S4 a0 (0 : Int32)).bind fun S5 =>
      (pI 2 5 S5 a0 (0 : Int32)).bind fun S6 =>
      (pI 2 6 S6 a0 (0 : Int32)).bind fun S7 =>
      some S7
set_option maxHeartbeats 4000000 in
set_option maxRecDepth 100000 in
theorem m_X2_clear (l : Launch) (b0 : Nat) (D : va_G) (cy : Nat → ClassId) (S : Mem) (a0 : Nat) {q : Mem} (h : f_X2_clear a0 S = some q) : Met l yX2_clear [.code yX2_clear cX2_clear 1 (none)] rm_X2_clear (Pr b0 D cy S [.ref (b0 + a0)]) (Qp b0 D cy none q) 0 0 (fun q => b0 ≤ q) := by
  refine Met.ofW (cc := cX2_clear) (maxL := 1) (ret := none) (by decide) rfl ?_
  intro p e s m args below meth c s₁ B hml hv
  obtain ⟨rfl, hP, hK, hT⟩ := hv
  have C0 : Cx p m c cX2_clear 1 s (List.toArray [.ref (b0 + a0)]) RX2 D cy := ⟨⟨B.exec, B.bytes, hml, findClass_of_methodNamed B.named, fun w h => hT w h _⟩, hK, hT⟩
  have hr : meth.sig.returnType = none := B.returns
  have hlocks := B.notSynchronized
  have hw : Wd b0 D cy S s.heap s.heap [] := ⟨hP, va_S.rf⟩
  have hl := lv_entry ([.ref (b0 + a0)]) (n := 1) (Nat.le_of_ble_eq_true rfl)
  rw [lg_entry_eq]
  generalize (lg_sl ([.ref (b0 + a0)]) ++ List.replicate (1 - (lg_sl ([.ref (b0 + a0)])).length) Slot.unset).toArray = ls at hl ⊢
  have hl : lv_has ls 1 [(0, .ref (b0 + a0))] := hl
  rw [f_X2_clear] at h
  show W p l e rm_X2_clear s m _ below meth c s.heap [] 0 0 _ _
  refine lv_aload_n C0.hx C0.hb dX2_clear_0 rfl (lv_at hl 0 rfl) ?_
  refine lv_iconst (v := (0 : Int32)) C0.hx C0.hb dX2_clear_1 (by decide) ?_
  obtain ⟨S1, hS1, h⟩ := Option.bind_eq_some_iff.mp h
  refine q_putZ C0 hw hS1 rfl in_2 tyX2_ok nmX2 ⟨by decide, by decide, rfl, rfl⟩ rfl kw_98 dX2_clear_2 (fun H locs hw => ?_)
  refine lv_aload_n C0.hx C0.hb dX2_clear_5 rfl (lv_at hl 0 rfl) ?_
  refine lv_iconst (v := (0 : Int32)) C0.hx C0.hb dX2_clear_6 (by decide) ?_
  obtain ⟨S2, hS2, h⟩ := Option.bind_eq_some_iff.mp h
  refine q_putI C0 hw hS2 rfl in_2 tyX2_ok nmX2 ⟨by decide, by decide, rfl, rfl⟩ rfl kw_102 dX2_clear_7 (fun H locs hw => ?_)
  refine lv_aload_n C0.hx C0.hb dX2_clear_10 rfl (lv_at hl 0 rfl) ?_
  refine lv_iconst (v := (0 : Int32)) C0.hx C0.hb dX2_clear_11 (by decide) ?_
  obtain ⟨S3, hS3, h⟩ := Option.bind_eq_some_iff.mp h
  refine q_putI C0 hw hS3 rfl in_2 tyX2_ok nmX2 ⟨by decide, by decide, rfl, rfl⟩ rfl kw_104 dX2_clear_12 (fun H locs hw => ?_)
  refine lv_aload_n C0.hx C0.hb dX2_clear_15 rfl (lv_at hl 0 rfl) ?_
  refine lv_iconst (v := (0 : Int32)) C0.hx C0.hb dX2_clear_16 (by decide) ?_
  obtain ⟨S4, hS4, h⟩ := Option.bind_eq_some_iff.mp h
  refine q_putI C0 hw hS4 rfl in_2 tyX2_ok nmX2 ⟨by decide, by decide, rfl, rfl⟩ rfl kw_107 dX2_clear_17 (fun H locs hw => ?_)
  refine lv_aload_n C0.hx C0.hb dX2_clear_20 rfl (lv_at hl 0 rfl) ?_
  refine lv_iconst (v := (0 : Int32)) C0.hx C0.hb dX2_clear_21 (by decide) ?_
  obtain ⟨S5, hS5, h⟩ := Option.bind_eq_some_iff.mp h
  refine q_putI C0 hw hS5 rfl in_2 tyX2_ok nmX2 ⟨by decide, by decide, rfl, rfl⟩ rfl kw_111 dX2_clear_22 (fun H locs hw => ?_)
  refine lv_aload_n C0.hx C0.hb dX2_clear_25 rfl (lv_at hl 0 rfl) ?_
  refine lv_iconst (v := (0 : Int32)) C0.hx C0.hb dX2_clear_26 (by decide) ?_
  obtain ⟨S6, hS6, h⟩ := Option.bind_eq_some_iff.mp h
  refine q_putI C0 hw hS6 rfl in_2 tyX2_ok nmX2 ⟨by decide, by decide, rfl, rfl⟩ rfl kw_116 dX2_clear_27 (fun H locs hw => ?_)
  refine lv_aload_n C0.hx C0.hb dX2_clear_30 rfl (lv_at hl 0 rfl) ?_
  refine lv_iconst (v := (0 : Int32)) C0.hx C0.hb dX2_clear_31 (by decide) ?_
  obtain ⟨S7, hS7, h⟩ := Option.bind_eq_some_iff.mp h
  refine q_putI C0 hw hS7 rfl in_2 tyX2_ok nmX2 ⟨by decide, by decide, rfl, rfl⟩ rfl kw_117 dX2_clear_32 (fun H locs hw => ?_)
  obtain rfl := Option.some.inj h
  exact q_retv C0 hw hr hlocks dX2_clear_35
abbrev rm_X8_withPacked : Room := { frames := 0, cells := 0, slots := 0, locals := 0 }
def f_X8_withPacked (x0 : Int32) (x1 : Int32) (x2 : Int32) : Int32 :=
    ((x0 &&& (((15 : Int32) <<< (((4 : Int32) * x1) &&& 31)) ^^^ (-1 : Int32))) ||| (x2 <<< (((4 : Int32) * x1) &&& 31)))
set_option maxHeartbeats 4000000 in
set_option maxRecDepth 100000 in
theorem m_X8_withPacked (l : Launch) (b0 : Nat) (D : va_G) (cy : Nat → ClassId) (S : Mem) (x0 : Int32) (x1 : Int32) (x2 : Int32) : Met l yX8_withPacked [.code yX8_withPacked cX8_withPacked 3 (some .int)] rm_X8_withPacked (Pr b0 D cy S [.int x0, .int x1, .int x2]) (Qp b0 D cy (some (.int (f_X8_withPacked x0 x1 x2))) S) 0 0 (fun q => b0 ≤ q) := by
  refine Met.ofW (cc := cX8_withPacked) (maxL := 3) (ret := some .int) (by decide) rfl ?_
  intro p e s m args below meth c s₁ B hml hv
  obtain ⟨rfl, hP, hK, hT⟩ := hv
  have C0 : Cx p m c cX8_withPacked 3 s (List.toArray [.int x0, .int x1, .int x2]) RX8 D cy := ⟨⟨B.exec, B.bytes, hml, findClass_of_methodNamed B.named, fun w h => hT w h _⟩, hK, hT⟩
  have hr : meth.sig.returnType = some .int := B.returns
  have hlocks := B.notSynchronized
  have hw : Wd b0 D cy S s.heap s.heap [] := ⟨hP, va_S.rf⟩
  have hl := lv_entry ([.int x0, .int x1, .int x2]) (n := 3) (Nat.le_of_ble_eq_true rfl)
  rw [lg_entry_eq]
  generalize (lg_sl ([.int x0, .int x1, .int x2]) ++ List.replicate (3 - (lg_sl ([.int x0, .int x1, .int x2])).length) Slot.unset).toArray = ls at hl ⊢
  have hl : lv_has ls 3 [(0, .int x0), (1, .int x1), (2, .int x2)] := hl
  show W p l e rm_X8_withPacked s m _ below meth c s.heap [] 0 0 _ _
  refine lv_iload_n C0.hx C0.hb dX8_withPacked_0 rfl (lv_at hl 0 rfl) ?_
  refine lv_bipush (v := (15 : Int32)) C0.hx C0.hb dX8_withPacked_1 (by decide) ?_
  refine lv_iconst (v := (4 : Int32)) C0.hx C0.hb dX8_withPacked_3 (by decide) ?_
  refine lv_iload_n C0.hx C0.hb dX8_withPacked_4 rfl (lv_at hl 1 rfl) ?_
  refine lv_imul C0.hx C0.hb dX8_withPacked_5 ?_
  refine lv_ishl C0.hx C0.hb dX8_withPacked_6 ?_
  refine lv_iconst (v := (-1 : Int32)) C0.hx C0.hb dX8_withPacked_7 (by decide) ?_
  refine lv_ixor C0.hx C0.hb dX8_withPacked_8 ?_
  refine lv_iand C0.hx C0.hb dX8_withPacked_9 ?_
  refine lv_iload_n C0.hx C0.hb dX8_withPacked_10 rfl (lv_at hl 2 rfl) ?_
  refine lv_iconst (v := (4 : Int32)) C0.hx C0.hb dX8_withPacked_11 (by decide) ?_
  refine lv_iload_n C0.hx C0.hb dX8_withPacked_12 rfl (lv_at hl 1 rfl) ?_
  refine lv_imul C0.hx C0.hb dX8_withPacked_13 ?_
  refine lv_ishl C0.hx C0.hb dX8_withPacked_14 ?_
  refine lv_ior C0.hx C0.hb dX8_withPacked_15 ?_
  exact q_reti C0 hw hr hlocks dX8_withPacked_16
abbrev rm_X8_withBit : Room := { frames := 0, cells := 0, slots := 0, locals := 0 }
def f_X8_withBit (x0 : Int32) (x1 : Int32) (x2 : Int32) : Option Int32 :=
    (if x2 = (0 : Int32) then
      some (x0 &&& (((1 : Int32) <<< (x1 &&& 31)) ^^^ (-1 : Int32)))
      else
      some (x0 ||| ((1 : Int32) <<< (x1 &&& 31))))
set_option maxHeartbeats 4000000 in
set_option maxRecDepth 100000 in
theorem m_X8_withBit (l : Launch) (b0 : Nat) (D : va_G) (cy : Nat → ClassId) (S : Mem) (x0 : Int32) (x1 : Int32) (x2 : Int32) {q : Int32} (h : f_X8_withBit x0 x1 x2 = some q) : Met l yX8_withBit [.code yX8_withBit cX8_withBit 3 (some .int)] rm_X8_withBit (Pr b0 D cy S [.int x0, .int x1, .int x2]) (Qp b0 D cy (some (.int q)) S) 0 0 (fun q => b0 ≤ q) := by
  refine Met.ofW (cc := cX8_withBit) (maxL := 3) (ret := some .int) (by decide) rfl ?_
  intro p e s m args below meth c s₁ B hml hv
  obtain ⟨rfl, hP, hK, hT⟩ := hv
  have C0 : Cx p m c cX8_withBit 3 s (List.toArray [.int x0, .int x1, .int x2]) RX8 D cy := ⟨⟨B.exec, B.bytes, hml, findClass_of_methodNamed B.named, fun w h => hT w h _⟩, hK, hT⟩
  have hr : meth.sig.returnType = some .int := B.returns
  have hlocks := B.notSynchronized
  have hw : Wd b0 D cy S s.heap s.heap [] := ⟨hP, va_S.rf⟩
  have hl := lv_entry ([.int x0, .int x1, .int x2]) (n := 3) (Nat.le_of_ble_eq_true rfl)
  rw [lg_entry_eq]
  generalize (lg_sl ([.int x0, .int x1, .int x2]) ++ List.replicate (3 - (lg_sl ([.int x0, .int x1, .int x2])).length) Slot.unset).toArray = ls at hl ⊢
  have hl : lv_has ls 3 [(0, .int x0), (1, .int x1), (2, .int x2)] := hl
  rw [f_X8_withBit] at h
  show W p l e rm_X8_withBit s m _ below meth c s.heap [] 0 0 _ _
  refine lv_iload_n C0.hx C0.hb dX8_withBit_0 rfl (lv_at hl 2 rfl) ?_
  refine lv_if_eq (tgt := 12) C0.hx C0.hb dX8_withBit_1 (by decide) (fun hc => ?_) (fun hc => ?_)
  · have h := (if_pos hc).symm.trans h
    refine lv_iload_n C0.hx C0.hb dX8_withBit_12 rfl (lv_at hl 0 rfl) ?_
    refine lv_iconst (v := (1 : Int32)) C0.hx C0.hb dX8_withBit_13 (by decide) ?_
    refine lv_iload_n C0.hx C0.hb dX8_withBit_14 rfl (lv_at hl 1 rfl) ?_
    refine lv_ishl C0.hx C0.hb dX8_withBit_15 ?_
    refine lv_iconst (v := (-1 : Int32)) C0.hx C0.hb dX8_withBit_16 (by decide) ?_
    refine lv_ixor C0.hx C0.hb dX8_withBit_17 ?_
    refine lv_iand C0.hx C0.hb dX8_withBit_18 ?_
    obtain rfl := Option.some.inj h
    exact q_reti C0 hw hr hlocks dX8_withBit_19
  · have h := (if_neg hc).symm.trans h
    refine lv_iload_n C0.hx C0.hb dX8_withBit_4 rfl (lv_at hl 0 rfl) ?_
    refine lv_iconst (v := (1 : Int32)) C0.hx C0.hb dX8_withBit_5 (by decide) ?_
    refine lv_iload_n C0.hx C0.hb dX8_withBit_6 rfl (lv_at hl 1 rfl) ?_
    refine lv_ishl C0.hx C0.hb dX8_withBit_7 ?_
    refine lv_ior C0.hx C0.hb dX8_withBit_8 ?_
    refine lv_goto (tgt := 19) C0.hx C0.hb dX8_withBit_9 (by decide) ?_
    obtain rfl := Option.some.inj h
    exact q_reti C0 hw hr hlocks dX8_withBit_19
abbrev rm_X2_addRoom : Room := { frames := 1, cells := 0, slots := 0, locals := 22 }
def f_X2_addRoom_b35 (a0 : Nat) (t0 : Int32) (t1 : Int32) (t2 : Int32) (t3 : Nat) (S : Mem) : Option Mem :=
    (f_X8_withBit t2 t1 t0).bind fun v6 =>
      (pI 2 6 S t3 v6).bind fun S7 =>
      (gI 2 2 S7 a0).bind fun v8 =>
      (pI 2 2 S7 a0 (v8 + (1 : Int32))).bind fun S9 =>
      some S9
def f_X2_addRoom (a0 : Nat) (x1 : Int32) (x2 : Int32) (S : Mem) : Option Mem :=
    (gI 2 5 S a0).bind fun v1 =>
      (gI 2 2 S a0).bind fun v2 =>
      (pI 2 5 S a0 (f_X8_withPacked v1 v2 x1)).bind fun S3 =>
      (gI 2 6 S3 a0).bind fun v4 =>
      (gI 2 2 S3 a0).bind fun v5 =>
      (if x2 = (1 : Int32) then
      f_X2_addRoom_b35 a0 (1 : Int32) v5 v4 a0 S3
      else
      f_X2_addRoom_b35 a0 (0 : Int32) v5 v4 a0 S3)
set_option maxHeartbeats 4000000 in
set_option maxRecDepth 100000 in
theorem w_X2_addRoom_b35 {p : Program} {l : Launch} {e : Env} {s : State} {m : MethodId} {args : Array Value} {below : List Frame} {meth : Method} {c : Code} {b0 : Nat} {D : va_G} {cy : Nat → ClassId} {q : Mem} (C0 : Cx p m c cX2_addRoom 3 s args RX2 D cy) (hr : meth.sig.returnType = none) (hlocks : meth.locks = false) : ∀ (a0 : Nat) (t0 : Int32) (t1 : Int32) (t2 : Int32) (t3 : Nat) (S : Mem) (H : Heap) (locs : List Loc) (ls : Array Slot), Wd b0 D cy S s.heap H locs → lv_has ls 3 [(0, .ref (b0 + a0))] → f_X2_addRoom_b35  a0 t0 t1 t2 t3 S = some q → W p l e rm_X2_addRoom s m args below meth c H locs 0 0 (MQ below (Qp b0 D cy none q) args s 0 0 (fun q => b0 ≤ q)) (F0 m 35 ls [.int t0, .int t1, .int t2, .ref (b0 + t3)]) := by
  intro a0 t0 t1 t2 t3 S H locs ls hw hl h
  rw [f_X2_addRoom_b35] at h
  obtain ⟨v6, hv6, h⟩ := Option.bind_eq_some_iff.mp h
  refine q_callSN (n := 3) (av := [.int t2, .int t1, .int t0]) (rest := [.ref (b0 + t3)]) (st1 := [.int v6, .ref (b0 + t3)]) C0 hw (m_X8_withBit l b0 D cy S t2 t1 t0 hv6) kw_442 kw_443 kw_63 kw_444 ⟨rfl, rfl⟩ (by decide +kernel) ⟨(Nat.le_of_ble_eq_true rfl), (Nat.le_of_ble_eq_true rfl)⟩ rfl hl.1 rfl (Nat.le_of_ble_eq_true rfl) dX2_addRoom_35 ⟨Nat.zero_le _, Nat.zero_le _⟩ rfl (fun H locs hw => ?_)
  obtain ⟨S7, hS7, h⟩ := Option.bind_eq_some_iff.mp h
  refine q_putI C0 hw hS7 rfl in_2 tyX2_ok nmX2 ⟨by decide, by decide, rfl, rfl⟩ rfl kw_117 dX2_addRoom_38 (fun H locs hw => ?_)
  refine lv_aload_n C0.hx C0.hb dX2_addRoom_41 rfl (lv_at hl 0 rfl) ?_
  refine lv_dup C0.hx C0.hb dX2_addRoom_42 rfl ?_
  obtain ⟨v8, hv8, h⟩ := Option.bind_eq_some_iff.mp h
  refine q_getI C0 hw hv8 rfl in_2 (by decide) kw_104 dX2_addRoom_43 ?_
  refine lv_iconst (v := (1 : Int32)) C0.hx C0.hb dX2_addRoom_46 (by decide) ?_
  refine lv_iadd C0.hx C0.hb dX2_addRoom_47 ?_
  obtain ⟨S9, hS9, h⟩ := Option.bind_eq_some_iff.mp h
  refine q_putI C0 hw hS9 rfl in_2 tyX2_ok nmX2 ⟨by decide, by decide, rfl, rfl⟩ rfl kw_104 dX2_addRoom_48 (fun H locs hw => ?_)
  obtain rfl := Option.some.inj h
  exact q_retv C0 hw hr hlocks dX2_addRoom_51
set_option maxHeartbeats 4000000 in
set_option maxRecDepth 100000 in
theorem m_X2_addRoom (l : Launch) (b0 : Nat) (D : va_G) (cy : Nat → ClassId) (S : Mem) (a0 : Nat) (x1 : Int32) (x2 : Int32) {q : Mem} (h : f_X2_addRoom a0 x1 x2 S = some q) : Met l yX2_addRoom [.code yX2_addRoom cX2_addRoom 3 (none)] rm_X2_addRoom (Pr b0 D cy S [.ref (b0 + a0), .int x1, .int x2]) (Qp b0 D cy none q) 0 0 (fun q => b0 ≤ q) := by
  refine Met.ofW (cc := cX2_addRoom) (maxL := 3) (ret := none) (by decide) rfl ?_
  intro p e s m args below meth c s₁ B hml hv
  obtain ⟨rfl, hP, hK, hT⟩ := hv
  have C0 : Cx p m c cX2_addRoom 3 s (List.toArray [.ref (b0 + a0), .int x1, .int x2]) RX2 D cy := ⟨⟨B.exec, B.bytes, hml, findClass_of_methodNamed B.named, fun w h => hT w h _⟩, hK, hT⟩
  have hr : meth.sig.returnType = none := B.returns
  have hlocks := B.notSynchronized
  have hw : Wd b0 D cy S s.heap s.heap [] := ⟨hP, va_S.rf⟩
  have hl := lv_entry ([.ref (b0 + a0), .int x1, .int x2]) (n := 3) (Nat.le_of_ble_eq_true rfl)
  rw [lg_entry_eq]
  generalize (lg_sl ([.ref (b0 + a0), .int x1, .int x2]) ++ List.replicate (3 - (lg_sl ([.ref (b0 + a0), .int x1, .int x2])).length) Slot.unset).toArray = ls at hl ⊢
  have hl : lv_has ls 3 [(0, .ref (b0 + a0)), (1, .int x1), (2, .int x2)] := hl
  rw [f_X2_addRoom] at h
  show W p l e rm_X2_addRoom s m _ below meth c s.heap [] 0 0 _ _
  refine lv_aload_n C0.hx C0.hb dX2_addRoom_0 rfl (lv_at hl 0 rfl) ?_
  refine lv_aload_n C0.hx C0.hb dX2_addRoom_1 rfl (lv_at hl 0 rfl) ?_
  obtain ⟨v1, hv1, h⟩ := Option.bind_eq_some_iff.mp h
  refine q_getI C0 hw hv1 rfl in_2 (by decide) kw_116 dX2_addRoom_2 ?_
  refine lv_aload_n C0.hx C0.hb dX2_addRoom_5 rfl (lv_at hl 0 rfl) ?_
  obtain ⟨v2, hv2, h⟩ := Option.bind_eq_some_iff.mp h
  refine q_getI C0 hw hv2 rfl in_2 (by decide) kw_104 dX2_addRoom_6 ?_
  refine lv_iload_n C0.hx C0.hb dX2_addRoom_9 rfl (lv_at hl 1 rfl) ?_
  refine q_callSN (n := 3) (av := [.int v1, .int v2, .int x1]) (rest := [.ref (b0 + a0)]) (st1 := [.int (f_X8_withPacked v1 v2 x1), .ref (b0 + a0)]) C0 hw (m_X8_withPacked l b0 D cy S v1 v2 x1) kw_439 kw_440 kw_63 kw_441 ⟨rfl, rfl⟩ (by decide +kernel) ⟨(Nat.le_of_ble_eq_true rfl), (Nat.le_of_ble_eq_true rfl)⟩ rfl hl.1 rfl (Nat.le_of_ble_eq_true rfl) dX2_addRoom_10 ⟨Nat.zero_le _, Nat.zero_le _⟩ rfl (fun H locs hw => ?_)
  obtain ⟨S3, hS3, h⟩ := Option.bind_eq_some_iff.mp h
  refine q_putI C0 hw hS3 rfl in_2 tyX2_ok nmX2 ⟨by decide, by decide, rfl, rfl⟩ rfl kw_116 dX2_addRoom_13 (fun H locs hw => ?_)
  refine lv_aload_n C0.hx C0.hb dX2_addRoom_16 rfl (lv_at hl 0 rfl) ?_
  refine lv_aload_n C0.hx C0.hb dX2_addRoom_17 rfl (lv_at hl 0 rfl) ?_
  obtain ⟨v4, hv4, h⟩ := Option.bind_eq_some_iff.mp h
  refine q_getI C0 hw hv4 rfl in_2 (by decide) kw_117 dX2_addRoom_18 ?_
  refine lv_aload_n C0.hx C0.hb dX2_addRoom_21 rfl (lv_at hl 0 rfl) ?_
  obtain ⟨v5, hv5, h⟩ := Option.bind_eq_some_iff.mp h
  refine q_getI C0 hw hv5 rfl in_2 (by decide) kw_104 dX2_addRoom_22 ?_
  refine lv_iload_n C0.hx C0.hb dX2_addRoom_25 rfl (lv_at hl 2 rfl) ?_
  refine lv_iconst (v := (1 : Int32)) C0.hx C0.hb dX2_addRoom_26 (by decide) ?_
  refine lv_icmp_ne (tgt := 34) C0.hx C0.hb dX2_addRoom_27 (by decide) (fun hc => ?_) (fun hc => ?_)
  · have h := (if_neg hc).symm.trans h
    refine lv_iconst (v := (0 : Int32)) C0.hx C0.hb dX2_addRoom_34 (by decide) ?_
    exact w_X2_addRoom_b35 C0 hr hlocks a0 (0 : Int32) v5 v4 a0 S3 _ _ _ hw (lv_sub hl [0] rfl) h
  · have h := (if_pos hc).symm.trans h
    refine lv_iconst (v := (1 : Int32)) C0.hx C0.hb dX2_addRoom_30 (by decide) ?_
    refine lv_goto (tgt := 35) C0.hx C0.hb dX2_addRoom_31 (by decide) ?_
    exact w_X2_addRoom_b35 C0 hr hlocks a0 (1 : Int32) v5 v4 a0 S3 _ _ _ hw (lv_sub hl [0] rfl) h
abbrev rm_X2_addDoor : Room := { frames := 0, cells := 0, slots := 0, locals := 0 }
def f_X2_addDoor (a0 : Nat) (x1 : Int32) (x2 : Int32) (S : Mem) : Option Mem :=
    (gR 2 7 S a0).bind fun r1 =>
      (gI 2 3 S a0).bind fun v2 =>
      (stI S r1 v2 x1).bind fun S3 =>
      (gR 2 8 S3 a0).bind fun r4 =>
      (gI 2 3 S3 a0).bind fun v5 =>
      (stI S3 r4 v5 x2).bind fun S6 =>
      (gI 2 3 S6 a0).bind fun v7 =>
      (pI 2 3 S6 a0 (v7 + (1 : Int32))).bind fun S8 =>
      some S8
set_option maxHeartbeats 4000000 in
set_option maxRecDepth 100000 in
theorem m_X2_addDoor (l : Launch) (b0 : Nat) (D : va_G) (cy : Nat → ClassId) (S : Mem) (a0 : Nat) (x1 : Int32) (x2 : Int32) {q : Mem} (h : f_X2_addDoor a0 x1 x2 S = some q) : Met l yX2_addDoor [.code yX2_addDoor cX2_addDoor 3 (none)] rm_X2_addDoor (Pr b0 D cy S [.ref (b0 + a0), .int x1, .int x2]) (Qp b0 D cy none q) 0 0 (fun q => b0 ≤ q) := by
  refine Met.ofW (cc := cX2_addDoor) (maxL := 3) (ret := none) (by decide) rfl ?_
  intro p e s m args below meth c s₁ B hml hv
  obtain ⟨rfl, hP, hK, hT⟩ := hv
  have C0 : Cx p m c cX2_addDoor 3 s (List.toArray [.ref (b0 + a0), .int x1, .int x2]) RX2 D cy := ⟨⟨B.exec, B.bytes, hml, findClass_of_methodNamed B.named, fun w h => hT w h _⟩, hK, hT⟩
  have hr : meth.sig.returnType = none := B.returns
  have hlocks := B.notSynchronized
  have hw : Wd b0 D cy S s.heap s.heap [] := ⟨hP, va_S.rf⟩
  have hl := lv_entry ([.ref (b0 + a0), .int x1, .int x2]) (n := 3) (Nat.le_of_ble_eq_true rfl)
  rw [lg_entry_eq]
  generalize (lg_sl ([.ref (b0 + a0), .int x1, .int x2]) ++ List.replicate (3 - (lg_sl ([.ref (b0 + a0), .int x1, .int x2])).length) Slot.unset).toArray = ls at hl ⊢
  have hl : lv_has ls 3 [(0, .ref (b0 + a0)), (1, .int x1), (2, .int x2)] := hl
  rw [f_X2_addDoor] at h
  show W p l e rm_X2_addDoor s m _ below meth c s.heap [] 0 0 _ _
  refine lv_aload_n C0.hx C0.hb dX2_addDoor_0 rfl (lv_at hl 0 rfl) ?_
  obtain ⟨r1, hr1, h⟩ := Option.bind_eq_some_iff.mp h
  refine q_getR C0 hw hr1 rfl in_2 (by decide) kw_119 dX2_addDoor_1 ?_
  refine lv_aload_n C0.hx C0.hb dX2_addDoor_4 rfl (lv_at hl 0 rfl) ?_
  obtain ⟨v2, hv2, h⟩ := Option.bind_eq_some_iff.mp h
  refine q_getI C0 hw hv2 rfl in_2 (by decide) kw_107 dX2_addDoor_5 ?_
  refine lv_iload_n C0.hx C0.hb dX2_addDoor_8 rfl (lv_at hl 1 rfl) ?_
  obtain ⟨S3, hS3, h⟩ := Option.bind_eq_some_iff.mp h
  refine q_stI C0 hw hS3 dX2_addDoor_9 (fun H locs hw => ?_)
  refine lv_aload_n C0.hx C0.hb dX2_addDoor_10 rfl (lv_at hl 0 rfl) ?_
  obtain ⟨r4, hr4, h⟩ := Option.bind_eq_some_iff.mp h
  refine q_getR C0 hw hr4 rfl in_2 (by decide) kw_122 dX2_addDoor_11 ?_
  refine lv_aload_n C0.hx C0.hb dX2_addDoor_14 rfl (lv_at hl 0 rfl) ?_
  obtain ⟨v5, hv5, h⟩ := Option.bind_eq_some_iff.mp h
  refine q_getI C0 hw hv5 rfl in_2 (by decide) kw_107 dX2_addDoor_15 ?_
  refine lv_iload_n C0.hx C0.hb dX2_addDoor_18 rfl (lv_at hl 2 rfl) ?_
  obtain ⟨S6, hS6, h⟩ := Option.bind_eq_some_iff.mp h
  refine q_stI C0 hw hS6 dX2_addDoor_19 (fun H locs hw => ?_)
  refine lv_aload_n C0.hx C0.hb dX2_addDoor_20 rfl (lv_at hl 0 rfl) ?_
  refine lv_dup C0.hx C0.hb dX2_addDoor_21 rfl ?_
  obtain ⟨v7, hv7, h⟩ := Option.bind_eq_some_iff.mp h
  refine q_getI C0 hw hv7 rfl in_2 (by decide) kw_107 dX2_addDoor_22 ?_
  refine lv_iconst (v := (1 : Int32)) C0.hx C0.hb dX2_addDoor_25 (by decide) ?_
  refine lv_iadd C0.hx C0.hb dX2_addDoor_26 ?_
  obtain ⟨S8, hS8, h⟩ := Option.bind_eq_some_iff.mp h
  refine q_putI C0 hw hS8 rfl in_2 tyX2_ok nmX2 ⟨by decide, by decide, rfl, rfl⟩ rfl kw_107 dX2_addDoor_27 (fun H locs hw => ?_)
  obtain rfl := Option.some.inj h
  exact q_retv C0 hw hr hlocks dX2_addDoor_30
abbrev rm_X2_addPetition : Room := { frames := 0, cells := 0, slots := 0, locals := 0 }
def f_X2_addPetition (a0 : Nat) (x1 : Int32) (x2 : Int32) (S : Mem) : Option Mem :=
    (gR 2 9 S a0).bind fun r1 =>
      (gI 2 4 S a0).bind fun v2 =>
      (stI S r1 v2 x1).bind fun S3 =>
      (gR 2 10 S3 a0).bind fun r4 =>
      (gI 2 4 S3 a0).bind fun v5 =>
      (stI S3 r4 v5 x2).bind fun S6 =>
      (gI 2 4 S6 a0).bind fun v7 =>
      (pI 2 4 S6 a0 (v7 + (1 : Int32))).bind fun S8 =>
      some S8
set_option maxHeartbeats 4000000 in
set_option maxRecDepth 100000 in
theorem m_X2_addPetition (l : Launch) (b0 : Nat) (D : va_G) (cy : Nat → ClassId) (S : Mem) (a0 : Nat) (x1 : Int32) (x2 : Int32) {q : Mem} (h : f_X2_addPetition a0 x1 x2 S = some q) : Met l yX2_addPetition [.code yX2_addPetition cX2_addPetition 3 (none)] rm_X2_addPetition (Pr b0 D cy S [.ref (b0 + a0), .int x1, .int x2]) (Qp b0 D cy none q) 0 0 (fun q => b0 ≤ q) := by
  refine Met.ofW (cc := cX2_addPetition) (maxL := 3) (ret := none) (by decide) rfl ?_
  intro p e s m args below meth c s₁ B hml hv
  obtain ⟨rfl, hP, hK, hT⟩ := hv
  have C0 : Cx p m c cX2_addPetition 3 s (List.toArray [.ref (b0 + a0), .int x1, .int x2]) RX2 D cy := ⟨⟨B.exec, B.bytes, hml, findClass_of_methodNamed B.named, fun w h => hT w h _⟩, hK, hT⟩
  have hr : meth.sig.returnType = none := B.returns
  have hlocks := B.notSynchronized
  have hw : Wd b0 D cy S s.heap s.heap [] := ⟨hP, va_S.rf⟩
  have hl := lv_entry ([.ref (b0 + a0), .int x1, .int x2]) (n := 3) (Nat.le_of_ble_eq_true rfl)
  rw [lg_entry_eq]
  generalize (lg_sl ([.ref (b0 + a0), .int x1, .int x2]) ++ List.replicate (3 - (lg_sl ([.ref (b0 + a0), .int x1, .int x2])).length) Slot.unset).toArray = ls at hl ⊢
  have hl : lv_has ls 3 [(0, .ref (b0 + a0)), (1, .int x1), (2, .int x2)] := hl
  rw [f_X2_addPetition] at h
  show W p l e rm_X2_addPetition s m _ below meth c s.heap [] 0 0 _ _
  refine lv_aload_n C0.hx C0.hb dX2_addPetition_0 rfl (lv_at hl 0 rfl) ?_
  obtain ⟨r1, hr1, h⟩ := Option.bind_eq_some_iff.mp h
  refine q_getR C0 hw hr1 rfl in_2 (by decide) kw_125 dX2_addPetition_1 ?_
  refine lv_aload_n C0.hx C0.hb dX2_addPetition_4 rfl (lv_at hl 0 rfl) ?_
  obtain ⟨v2, hv2, h⟩ := Option.bind_eq_some_iff.mp h
  refine q_getI C0 hw hv2 rfl in_2 (by decide) kw_111 dX2_addPetition_5 ?_
  refine lv_iload_n C0.hx C0.hb dX2_addPetition_8 rfl (lv_at hl 1 rfl) ?_
  obtain ⟨S3, hS3, h⟩ := Option.bind_eq_some_iff.mp h
  refine q_stI C0 hw hS3 dX2_addPetition_9 (fun H locs hw => ?_)
  refine lv_aload_n C0.hx C0.hb dX2_addPetition_10 rfl (lv_at hl 0 rfl) ?_
  obtain ⟨r4, hr4, h⟩ := Option.bind_eq_some_iff.mp h
  refine q_getR C0 hw hr4 rfl in_2 (by decide) kw_127 dX2_addPetition_11 ?_
  refine lv_aload_n C0.hx C0.hb dX2_addPetition_14 rfl (lv_at hl 0 rfl) ?_
  obtain ⟨v5, hv5, h⟩ := Option.bind_eq_some_iff.mp h
  refine q_getI C0 hw hv5 rfl in_2 (by decide) kw_111 dX2_addPetition_15 ?_
  refine lv_iload_n C0.hx C0.hb dX2_addPetition_18 rfl (lv_at hl 2 rfl) ?_
  obtain ⟨S6, hS6, h⟩ := Option.bind_eq_some_iff.mp h
  refine q_stI C0 hw hS6 dX2_addPetition_19 (fun H locs hw => ?_)
  refine lv_aload_n C0.hx C0.hb dX2_addPetition_20 rfl (lv_at hl 0 rfl) ?_
  refine lv_dup C0.hx C0.hb dX2_addPetition_21 rfl ?_
  obtain ⟨v7, hv7, h⟩ := Option.bind_eq_some_iff.mp h
  refine q_getI C0 hw hv7 rfl in_2 (by decide) kw_111 dX2_addPetition_22 ?_
  refine lv_iconst (v := (1 : Int32)) C0.hx C0.hb dX2_addPetition_25 (by decide) ?_
  refine lv_iadd C0.hx C0.hb dX2_addPetition_26 ?_
  obtain ⟨S8, hS8, h⟩ := Option.bind_eq_some_iff.mp h
  refine q_putI C0 hw hS8 rfl in_2 tyX2_ok nmX2 ⟨by decide, by decide, rfl, rfl⟩ rfl kw_111 dX2_addPetition_27 (fun H locs hw => ?_)
  obtain rfl := Option.some.inj h
  exact q_retv C0 hw hr hlocks dX2_addPetition_30
abbrev rm_X2_hasDoor : Room := { frames := 0, cells := 0, slots := 0, locals := 0 }
def f_X2_hasDoor_b52 (S : Mem) (k2 : Nat → Int32 → Int32 → Int32 → Option Int32) (a0 : Nat) (x1 : Int32) (x2 : Int32) (x3 : Int32) : Option Int32 :=
    (some (x3 + (1 : Int32))).bind fun v6 =>
      k2 a0 x1 x2 v6
def f_X2_hasDoor_b30 (S : Mem) (k2 : Nat → Int32 → Int32 → Int32 → Option Int32) (a0 : Nat) (x1 : Int32) (x2 : Int32) (x3 : Int32) : Option Int32 :=
    (gR 2 7 S a0).bind fun r4 =>
      (ldI S r4 x3).bind fun v5 =>
      (if v5 = x2 then
      (gR 2 8 S a0).bind fun r7 =>
      (ldI S r7 x3).bind fun v8 =>
      (if v8 = x1 then
      some (1 : Int32)
      else
      f_X2_hasDoor_b52 S k2 a0 x1 x2 x3)
      else
      f_X2_hasDoor_b52 S k2 a0 x1 x2 x3)
def f_X2_hasDoor_b2 (S : Mem) : Nat → Nat → Int32 → Int32 → Int32 → Option Int32
  | 0, _, _, _, _ => none
  | n + 1, a0, x1, x2, x3 =>
    (gI 2 3 S a0).bind fun v1 =>
      (if v1 ≤ x3 then
      some (0 : Int32)
      else
      (gR 2 7 S a0).bind fun r2 =>
      (ldI S r2 x3).bind fun v3 =>
      (if v3 = x1 then
      (gR 2 8 S a0).bind fun r9 =>
      (ldI S r9 x3).bind fun v10 =>
      (if v10 = x2 then
      some (1 : Int32)
      else
      f_X2_hasDoor_b30 S (fun a0 x1 x2 x3 => f_X2_hasDoor_b2 S  n a0 x1 x2 x3) a0 x1 x2 x3)
      else
      f_X2_hasDoor_b30 S (fun a0 x1 x2 x3 => f_X2_hasDoor_b2 S  n a0 x1 x2 x3) a0 x1 x2 x3))
def f_X2_hasDoor (a0 : Nat) (x1 : Int32) (x2 : Int32) (S : Mem) : Option Int32 :=
    f_X2_hasDoor_b2 S FU a0 x1 x2 (0 : Int32)
set_option maxHeartbeats 4000000 in
set_option maxRecDepth 100000 in
theorem w_X2_hasDoor_b52 {p : Program} {l : Launch} {e : Env} {s : State} {m : MethodId} {args : Array Value} {below : List Frame} {meth : Method} {c : Code} {b0 : Nat} {D : va_G} {cy : Nat → ClassId} {S : Mem} {q : Int32} (C0 : Cx p m c cX2_hasDoor 4 s args RX2 D cy) (hr : meth.sig.returnType = some .boolean) (hlocks : meth.locks = false) (k2 : Nat → Int32 → Int32 → Int32 → Option Int32) (hk2 : ∀ (a0 : Nat) (x1 : Int32) (x2 : Int32) (x3 : Int32) (H : Heap) (locs : List Loc) (ls : Array Slot), Wd b0 D cy S s.heap H locs → lv_has ls 4 [(0, .ref (b0 + a0)), (1, .int x1), (2, .int x2), (3, .int x3)] → k2 a0 x1 x2 x3 = some q → W p l e rm_X2_hasDoor s m args below meth c H locs 0 0 (MQ below (Qp b0 D cy (some (.int q)) S) args s 0 0 (fun q => b0 ≤ q)) (F0 m 2 ls [])) : ∀ (a0 : Nat) (x1 : Int32) (x2 : Int32) (x3 : Int32) (H : Heap) (locs : List Loc) (ls : Array Slot), Wd b0 D cy S s.heap H locs → lv_has ls 4 [(0, .ref (b0 + a0)), (1, .int x1), (2, .int x2), (3, .int x3)] → f_X2_hasDoor_b52 S k2 a0 x1 x2 x3 = some q → W p l e rm_X2_hasDoor s m args below meth c H locs 0 0 (MQ below (Qp b0 D cy (some (.int q)) S) args s 0 0 (fun q => b0 ≤ q)) (F0 m 52 ls []) := by
  intro a0 x1 x2 x3 H locs ls hw hl h
  rw [f_X2_hasDoor_b52] at h
  obtain ⟨v6, hv6, h⟩ := Option.bind_eq_some_iff.mp h
  refine lv_iinc (v := v6) (lv' := [(3, .int v6), (0, .ref (b0 + a0)), (1, .int x1), (2, .int x2)]) C0.hx C0.hb dX2_hasDoor_52 hl (k := 3) rfl (by rw [← Option.some.inj hv6]; rfl) (by decide) rfl (fun ls hl => ?_)
  refine lv_goto (tgt := 2) C0.hx C0.hb dX2_hasDoor_55 (by decide) ?_
  exact hk2 a0 x1 x2 v6 _ _ _ hw (lv_sub hl [1, 2, 3, 0] rfl) h
set_option maxHeartbeats 4000000 in
set_option maxRecDepth 100000 in
theorem w_X2_hasDoor_b30 {p : Program} {l : Launch} {e : Env} {s : State} {m : MethodId} {args : Array Value} {below : List Frame} {meth : Method} {c : Code} {b0 : Nat} {D : va_G} {cy : Nat → ClassId} {S : Mem} {q : Int32} (C0 : Cx p m c cX2_hasDoor 4 s args RX2 D cy) (hr : meth.sig.returnType = some .boolean) (hlocks : meth.locks = false) (k2 : Nat → Int32 → Int32 → Int32 → Option Int32) (hk2 : ∀ (a0 : Nat) (x1 : Int32) (x2 : Int32) (x3 : Int32) (H : Heap) (locs : List Loc) (ls : Array Slot), Wd b0 D cy S s.heap H locs → lv_has ls 4 [(0, .ref (b0 + a0)), (1, .int x1), (2, .int x2), (3, .int x3)] → k2 a0 x1 x2 x3 = some q → W p l e rm_X2_hasDoor s m args below meth c H locs 0 0 (MQ below (Qp b0 D cy (some (.int q)) S) args s 0 0 (fun q => b0 ≤ q)) (F0 m 2 ls [])) : ∀ (a0 : Nat) (x1 : Int32) (x2 : Int32) (x3 : Int32) (H : Heap) (locs : List Loc) (ls : Array Slot), Wd b0 D cy S s.heap H locs → lv_has ls 4 [(0, .ref (b0 + a0)), (1, .int x1), (2, .int x2), (3, .int x3)] → f_X2_hasDoor_b30 S k2 a0 x1 x2 x3 = some q → W p l e rm_X2_hasDoor s m args below meth c H locs 0 0 (MQ below (Qp b0 D cy (some (.int q)) S) args s 0 0 (fun q => b0 ≤ q)) (F0 m 30 ls []) := by
  intro a0 x1 x2 x3 H locs ls hw hl h
  rw [f_X2_hasDoor_b30] at h
  refine lv_aload_n C0.hx C0.hb dX2_hasDoor_30 rfl (lv_at hl 0 rfl) ?_
  obtain ⟨r4, hr4, h⟩ := Option.bind_eq_some_iff.mp h
  refine q_getR C0 hw hr4 rfl in_2 (by decide) kw_119 dX2_hasDoor_31 ?_
  refine lv_iload_n C0.hx C0.hb dX2_hasDoor_34 rfl (lv_at hl 3 rfl) ?_
  obtain ⟨v5, hv5, h⟩ := Option.bind_eq_some_iff.mp h
  refine q_ldI C0 hw hv5 dX2_hasDoor_35 ?_
  refine lv_iload_n C0.hx C0.hb dX2_hasDoor_36 rfl (lv_at hl 2 rfl) ?_
  refine lv_icmp_ne (tgt := 52) C0.hx C0.hb dX2_hasDoor_37 (by decide) (fun hc => ?_) (fun hc => ?_)
  · have h := (if_neg hc).symm.trans h
    exact w_X2_hasDoor_b52 C0 hr hlocks k2 hk2 a0 x1 x2 x3 _ _ _ hw (lv_sub hl [0, 1, 2, 3] rfl) h
  · have h := (if_pos hc).symm.trans h
    refine lv_aload_n C0.hx C0.hb dX2_hasDoor_40 rfl (lv_at hl 0 rfl) ?_
    obtain ⟨r7, hr7, h⟩ := Option.bind_eq_some_iff.mp h
    refine q_getR C0 hw hr7 rfl in_2 (by decide) kw_122 dX2_hasDoor_41 ?_
    refine lv_iload_n C0.hx C0.hb dX2_hasDoor_44 rfl (lv_at hl 3 rfl) ?_
    obtain ⟨v8, hv8, h⟩ := Option.bind_eq_some_iff.mp h
    refine q_ldI C0 hw hv8 dX2_hasDoor_45 ?_
    refine lv_iload_n C0.hx C0.hb dX2_hasDoor_46 rfl (lv_at hl 1 rfl) ?_
    refine lv_icmp_ne (tgt := 52) C0.hx C0.hb dX2_hasDoor_47 (by decide) (fun hc => ?_) (fun hc => ?_)
    · have h := (if_neg hc).symm.trans h
      exact w_X2_hasDoor_b52 C0 hr hlocks k2 hk2 a0 x1 x2 x3 _ _ _ hw (lv_sub hl [0, 1, 2, 3] rfl) h
    · have h := (if_pos hc).symm.trans h
      refine lv_iconst (v := (1 : Int32)) C0.hx C0.hb dX2_hasDoor_50 (by decide) ?_
      obtain rfl := Option.some.inj h
      exact q_retz C0 hw (Or.inr rfl) hr hlocks dX2_hasDoor_51
set_option maxHeartbeats 4000000 in
set_option maxRecDepth 100000 in
theorem w_X2_hasDoor_b2 {p : Program} {l : Launch} {e : Env} {s : State} {m : MethodId} {args : Array Value} {below : List Frame} {meth : Method} {c : Code} {b0 : Nat} {D : va_G} {cy : Nat → ClassId} {S : Mem} {q : Int32} (C0 : Cx p m c cX2_hasDoor 4 s args RX2 D cy) (hr : meth.sig.returnType = some .boolean) (hlocks : meth.locks = false) : ∀ (n : Nat) (a0 : Nat) (x1 : Int32) (x2 : Int32) (x3 : Int32) (H : Heap) (locs : List Loc) (ls : Array Slot), Wd b0 D cy S s.heap H locs → lv_has ls 4 [(0, .ref (b0 + a0)), (1, .int x1), (2, .int x2), (3, .int x3)] → f_X2_hasDoor_b2 S  n a0 x1 x2 x3 = some q → W p l e rm_X2_hasDoor s m args below meth c H locs 0 0 (MQ below (Qp b0 D cy (some (.int q)) S) args s 0 0 (fun q => b0 ≤ q)) (F0 m 2 ls []) := by
  intro n
  induction n with
  | zero => intro a0 x1 x2 x3 H locs ls hw hl h; exact absurd h (by simp [f_X2_hasDoor_b2])
  | succ n ih =>
    intro a0 x1 x2 x3 H locs ls hw hl h
    rw [f_X2_hasDoor_b2] at h
    refine lv_iload_n C0.hx C0.hb dX2_hasDoor_2 rfl (lv_at hl 3 rfl) ?_
    refine lv_aload_n C0.hx C0.hb dX2_hasDoor_3 rfl (lv_at hl 0 rfl) ?_
    obtain ⟨v1, hv1, h⟩ := Option.bind_eq_some_iff.mp h
    refine q_getI C0 hw hv1 rfl in_2 (by decide) kw_107 dX2_hasDoor_4 ?_
    refine lv_icmp_ge (tgt := 58) C0.hx C0.hb dX2_hasDoor_7 (by decide) (fun hc => ?_) (fun hc => ?_)
    · have h := (if_pos hc).symm.trans h
      refine lv_iconst (v := (0 : Int32)) C0.hx C0.hb dX2_hasDoor_58 (by decide) ?_
      obtain rfl := Option.some.inj h
      exact q_retz C0 hw (Or.inl rfl) hr hlocks dX2_hasDoor_59
    · have h := (if_neg hc).symm.trans h
      refine lv_aload_n C0.hx C0.hb dX2_hasDoor_10 rfl (lv_at hl 0 rfl) ?_
      obtain ⟨r2, hr2, h⟩ := Option.bind_eq_some_iff.mp h
      refine q_getR C0 hw hr2 rfl in_2 (by decide) kw_119 dX2_hasDoor_11 ?_
      refine lv_iload_n C0.hx C0.hb dX2_hasDoor_14 rfl (lv_at hl 3 rfl) ?_
      obtain ⟨v3, hv3, h⟩ := Option.bind_eq_some_iff.mp h
      refine q_ldI C0 hw hv3 dX2_hasDoor_15 ?_
      refine lv_iload_n C0.hx C0.hb dX2_hasDoor_16 rfl (lv_at hl 1 rfl) ?_
      refine lv_icmp_ne (tgt := 30) C0.hx C0.hb dX2_hasDoor_17 (by decide) (fun hc => ?_) (fun hc => ?_)
      · have h := (if_neg hc).symm.trans h
        exact w_X2_hasDoor_b30 C0 hr hlocks (fun a0 x1 x2 x3 => f_X2_hasDoor_b2 S  n a0 x1 x2 x3) ih a0 x1 x2 x3 _ _ _ hw (lv_sub hl [0, 1, 2, 3] rfl) h
      · have h := (if_pos hc).symm.trans h
        refine lv_aload_n C0.hx C0.hb dX2_hasDoor_20 rfl (lv_at hl 0 rfl) ?_
        obtain ⟨r9, hr9, h⟩ := Option.bind_eq_some_iff.mp h
        refine q_getR C0 hw hr9 rfl in_2 (by decide) kw_122 dX2_hasDoor_21 ?_
        refine lv_iload_n C0.hx C0.hb dX2_hasDoor_24 rfl (lv_at hl 3 rfl) ?_
        obtain ⟨v10, hv10, h⟩ := Option.bind_eq_some_iff.mp h
        refine q_ldI C0 hw hv10 dX2_hasDoor_25 ?_
        refine lv_iload_n C0.hx C0.hb dX2_hasDoor_26 rfl (lv_at hl 2 rfl) ?_
        refine lv_icmp_eq (tgt := 50) C0.hx C0.hb dX2_hasDoor_27 (by decide) (fun hc => ?_) (fun hc => ?_)
        · have h := (if_pos hc).symm.trans h
          refine lv_iconst (v := (1 : Int32)) C0.hx C0.hb dX2_hasDoor_50 (by decide) ?_
          obtain rfl := Option.some.inj h
          exact q_retz C0 hw (Or.inr rfl) hr hlocks dX2_hasDoor_51
        · have h := (if_neg hc).symm.trans h
          exact w_X2_hasDoor_b30 C0 hr hlocks (fun a0 x1 x2 x3 => f_X2_hasDoor_b2 S  n a0 x1 x2 x3) ih a0 x1 x2 x3 _ _ _ hw (lv_sub hl [0, 1, 2, 3] rfl) h
set_option maxHeartbeats 4000000 in
set_option maxRecDepth 100000 in
theorem m_X2_hasDoor (l : Launch) (b0 : Nat) (D : va_G) (cy : Nat → ClassId) (S : Mem) (a0 : Nat) (x1 : Int32) (x2 : Int32) {q : Int32} (h : f_X2_hasDoor a0 x1 x2 S = some q) : Met l yX2_hasDoor [.code yX2_hasDoor cX2_hasDoor 4 (some .boolean)] rm_X2_hasDoor (Pr b0 D cy S [.ref (b0 + a0), .int x1, .int x2]) (Qp b0 D cy (some (.int q)) S) 0 0 (fun q => b0 ≤ q) := by
  refine Met.ofW (cc := cX2_hasDoor) (maxL := 4) (ret := some .boolean) (by decide) rfl ?_
  intro p e s m args below meth c s₁ B hml hv
  obtain ⟨rfl, hP, hK, hT⟩ := hv
  have C0 : Cx p m c cX2_hasDoor 4 s (List.toArray [.ref (b0 + a0), .int x1, .int x2]) RX2 D cy := ⟨⟨B.exec, B.bytes, hml, findClass_of_methodNamed B.named, fun w h => hT w h _⟩, hK, hT⟩
  have hr : meth.sig.returnType = some .boolean := B.returns
  have hlocks := B.notSynchronized
  have hw : Wd b0 D cy S s.heap s.heap [] := ⟨hP, va_S.rf⟩
  have hl := lv_entry ([.ref (b0 + a0), .int x1, .int x2]) (n := 4) (Nat.le_of_ble_eq_true rfl)
  rw [lg_entry_eq]
  generalize (lg_sl ([.ref (b0 + a0), .int x1, .int x2]) ++ List.replicate (4 - (lg_sl ([.ref (b0 + a0), .int x1, .int x2])).length) Slot.unset).toArray = ls at hl ⊢
  have hl : lv_has ls 4 [(0, .ref (b0 + a0)), (1, .int x1), (2, .int x2)] := hl
  rw [f_X2_hasDoor] at h
  show W p l e rm_X2_hasDoor s m _ below meth c s.heap [] 0 0 _ _
  refine lv_iconst (v := (0 : Int32)) C0.hx C0.hb dX2_hasDoor_0 (by decide) ?_
  refine lv_istore_n (lv' := [(3, .int (0 : Int32)), (0, .ref (b0 + a0)), (1, .int x1), (2, .int x2)]) C0.hx C0.hb dX2_hasDoor_1 rfl hl (by decide) rfl (fun ls hl => ?_)
  exact w_X2_hasDoor_b2 C0 hr hlocks FU a0 x1 x2 (0 : Int32) _ _ _ hw (lv_sub hl [1, 2, 3, 0] rfl) h
abbrev rm_X8_bit : Room := { frames := 0, cells := 0, slots := 0, locals := 0 }
def f_X8_bit (x0 : Int32) (x1 : Int32) : Int32 :=
    ((x0 >>> (x1 &&& 31)) &&& (1 : Int32))
set_option maxHeartbeats 4000000 in
set_option maxRecDepth 100000 in
theorem m_X8_bit (l : Launch) (b0 : Nat) (D : va_G) (cy : Nat → ClassId) (S : Mem) (x0 : Int32) (x1 : Int32) : Met l yX8_bit [.code yX8_bit cX8_bit 2 (some .int)] rm_X8_bit (Pr b0 D cy S [.int x0, .int x1]) (Qp b0 D cy (some (.int (f_X8_bit x0 x1))) S) 0 0 (fun q => b0 ≤ q) := by
  refine Met.ofW (cc := cX8_bit) (maxL := 2) (ret := some .int) (by decide) rfl ?_
  intro p e s m args below meth c s₁ B hml hv
  obtain ⟨rfl, hP, hK, hT⟩ := hv
  have C0 : Cx p m c cX8_bit 2 s (List.toArray [.int x0, .int x1]) RX8 D cy := ⟨⟨B.exec, B.bytes, hml, findClass_of_methodNamed B.named, fun w h => hT w h _⟩, hK, hT⟩
  have hr : meth.sig.returnType = some .int := B.returns
  have hlocks := B.notSynchronized
  have hw : Wd b0 D cy S s.heap s.heap [] := ⟨hP, va_S.rf⟩
  have hl := lv_entry ([.int x0, .int x1]) (n := 2) (Nat.le_of_ble_eq_true rfl)
  rw [lg_entry_eq]
  generalize (lg_sl ([.int x0, .int x1]) ++ List.replicate (2 - (lg_sl ([.int x0, .int x1])).length) Slot.unset).toArray = ls at hl ⊢
  have hl : lv_has ls 2 [(0, .int x0), (1, .int x1)] := hl
  show W p l e rm_X8_bit s m _ below meth c s.heap [] 0 0 _ _
  refine lv_iload_n C0.hx C0.hb dX8_bit_0 rfl (lv_at hl 0 rfl) ?_
  refine lv_iload_n C0.hx C0.hb dX8_bit_1 rfl (lv_at hl 1 rfl) ?_
  refine lv_ishr C0.hx C0.hb dX8_bit_2 ?_
  refine lv_iconst (v := (1 : Int32)) C0.hx C0.hb dX8_bit_3 (by decide) ?_
  refine lv_iand C0.hx C0.hb dX8_bit_4 ?_
  exact q_reti C0 hw hr hlocks dX8_bit_5
abbrev rm_X2_doorsBetween : Room := { frames := 1, cells := 0, slots := 0, locals := 21 }
def f_X2_doorsBetween_b41 (S : Mem) (k4 : Nat → Int32 → Int32 → Int32 → Option Int32) (a0 : Nat) (x1 : Int32) (x2 : Int32) (x3 : Int32) : Option Int32 :=
    (some (x3 + (1 : Int32))).bind fun v6 =>
      k4 a0 x1 x2 v6
def f_X2_doorsBetween_b4 (S : Mem) : Nat → Nat → Int32 → Int32 → Int32 → Option Int32
  | 0, _, _, _, _ => none
  | n + 1, a0, x1, x2, x3 =>
    (gI 2 3 S a0).bind fun v1 =>
      (if v1 ≤ x3 then
      some x2
      else
      (gR 2 7 S a0).bind fun r2 =>
      (ldI S r2 x3).bind fun v3 =>
      (gR 2 8 S a0).bind fun r4 =>
      (ldI S r4 x3).bind fun v5 =>
      (if (f_X8_bit x1 v3) = (f_X8_bit x1 v5) then
      f_X2_doorsBetween_b41 S (fun a0 x1 x2 x3 => f_X2_doorsBetween_b4 S  n a0 x1 x2 x3) a0 x1 x2 x3
      else
      (some (x2 ||| ((1 : Int32) <<< (x3 &&& 31)))).bind fun v7 =>
      f_X2_doorsBetween_b41 S (fun a0 x1 x2 x3 => f_X2_doorsBetween_b4 S  n a0 x1 x2 x3) a0 x1 v7 x3))
def f_X2_doorsBetween (a0 : Nat) (x1 : Int32) (S : Mem) : Option Int32 :=
    f_X2_doorsBetween_b4 S FU a0 x1 (0 : Int32) (0 : Int32)
set_option maxHeartbeats 4000000 in
set_option maxRecDepth 100000 in
theorem w_X2_doorsBetween_b41 {p : Program} {l : Launch} {e : Env} {s : State} {m : MethodId} {args : Array Value} {below : List Frame} {meth : Method} {c : Code} {b0 : Nat} {D : va_G} {cy : Nat → ClassId} {S : Mem} {q : Int32} (C0 : Cx p m c cX2_doorsBetween 4 s args RX2 D cy) (hr : meth.sig.returnType = some .int) (hlocks : meth.locks = false) (k4 : Nat → Int32 → Int32 → Int32 → Option Int32) (hk4 : ∀ (a0 : Nat) (x1 : Int32) (x2 : Int32) (x3 : Int32) (H : Heap) (locs : List Loc) (ls : Array Slot), Wd b0 D cy S s.heap H locs → lv_has ls 4 [(0, .ref (b0 + a0)), (1, .int x1), (2, .int x2), (3, .int x3)] → k4 a0 x1 x2 x3 = some q → W p l e rm_X2_doorsBetween s m args below meth c H locs 0 0 (MQ below (Qp b0 D cy (some (.int q)) S) args s 0 0 (fun q => b0 ≤ q)) (F0 m 4 ls [])) : ∀ (a0 : Nat) (x1 : Int32) (x2 : Int32) (x3 : Int32) (H : Heap) (locs : List Loc) (ls : Array Slot), Wd b0 D cy S s.heap H locs → lv_has ls 4 [(0, .ref (b0 + a0)), (1, .int x1), (2, .int x2), (3, .int x3)] → f_X2_doorsBetween_b41 S k4 a0 x1 x2 x3 = some q → W p l e rm_X2_doorsBetween s m args below meth c H locs 0 0 (MQ below (Qp b0 D cy (some (.int q)) S) args s 0 0 (fun q => b0 ≤ q)) (F0 m 41 ls []) := by
  intro a0 x1 x2 x3 H locs ls hw hl h
  rw [f_X2_doorsBetween_b41] at h
  obtain ⟨v6, hv6, h⟩ := Option.bind_eq_some_iff.mp h
  refine lv_iinc (v := v6) (lv' := [(3, .int v6), (0, .ref (b0 + a0)), (1, .int x1), (2, .int x2)]) C0.hx C0.hb dX2_doorsBetween_41 hl (k := 3) rfl (by rw [← Option.some.inj hv6]; rfl) (by decide) rfl (fun ls hl => ?_)
  refine lv_goto (tgt := 4) C0.hx C0.hb dX2_doorsBetween_44 (by decide) ?_
  exact hk4 a0 x1 x2 v6 _ _ _ hw (lv_sub hl [1, 2, 3, 0] rfl) h
set_option maxHeartbeats 4000000 in
set_option maxRecDepth 100000 in
theorem w_X2_doorsBetween_b4 {p : Program} {l : Launch} {e : Env} {s : State} {m : MethodId} {args : Array Value} {below : List Frame} {meth : Method} {c : Code} {b0 : Nat} {D : va_G} {cy : Nat → ClassId} {S : Mem} {q : Int32} (C0 : Cx p m c cX2_doorsBetween 4 s args RX2 D cy) (hr : meth.sig.returnType = some .int) (hlocks : meth.locks = false) : ∀ (n : Nat) (a0 : Nat) (x1 : Int32) (x2 : Int32) (x3 : Int32) (H : Heap) (locs : List Loc) (ls : Array Slot), Wd b0 D cy S s.heap H locs → lv_has ls 4 [(0, .ref (b0 + a0)), (1, .int x1), (2, .int x2), (3, .int x3)] → f_X2_doorsBetween_b4 S  n a0 x1 x2 x3 = some q → W p l e rm_X2_doorsBetween s m args below meth c H locs 0 0 (MQ below (Qp b0 D cy (some (.int q)) S) args s 0 0 (fun q => b0 ≤ q)) (F0 m 4 ls []) := by
  intro n
  induction n with
  | zero => intro a0 x1 x2 x3 H locs ls hw hl h; exact absurd h (by simp [f_X2_doorsBetween_b4])
  | succ n ih =>
    intro a0 x1 x2 x3 H locs ls hw hl h
    rw [f_X2_doorsBetween_b4] at h
    refine lv_iload_n C0.hx C0.hb dX2_doorsBetween_4 rfl (lv_at hl 3 rfl) ?_
    refine lv_aload_n C0.hx C0.hb dX2_doorsBetween_5 rfl (lv_at hl 0 rfl) ?_
    obtain ⟨v1, hv1, h⟩ := Option.bind_eq_some_iff.mp h
    refine q_getI C0 hw hv1 rfl in_2 (by decide) kw_107 dX2_doorsBetween_6 ?_
    refine lv_icmp_ge (tgt := 47) C0.hx C0.hb dX2_doorsBetween_9 (by decide) (fun hc => ?_) (fun hc => ?_)
    · have h := (if_pos hc).symm.trans h
      refine lv_iload_n C0.hx C0.hb dX2_doorsBetween_47 rfl (lv_at hl 2 rfl) ?_
      obtain rfl := Option.some.inj h
      exact q_reti C0 hw hr hlocks dX2_doorsBetween_48
    · have h := (if_neg hc).symm.trans h
      refine lv_iload_n C0.hx C0.hb dX2_doorsBetween_12 rfl (lv_at hl 1 rfl) ?_
      refine lv_aload_n C0.hx C0.hb dX2_doorsBetween_13 rfl (lv_at hl 0 rfl) ?_
      obtain ⟨r2, hr2, h⟩ := Option.bind_eq_some_iff.mp h
      refine q_getR C0 hw hr2 rfl in_2 (by decide) kw_119 dX2_doorsBetween_14 ?_
      refine lv_iload_n C0.hx C0.hb dX2_doorsBetween_17 rfl (lv_at hl 3 rfl) ?_
      obtain ⟨v3, hv3, h⟩ := Option.bind_eq_some_iff.mp h
      refine q_ldI C0 hw hv3 dX2_doorsBetween_18 ?_
      refine q_callSN (n := 2) (av := [.int x1, .int v3]) (rest := []) (st1 := [.int (f_X8_bit x1 v3)]) C0 hw (m_X8_bit l b0 D cy S x1 v3) kw_736 kw_529 kw_63 kw_530 ⟨rfl, rfl⟩ (by decide +kernel) ⟨(Nat.le_of_ble_eq_true rfl), (Nat.le_of_ble_eq_true rfl)⟩ rfl hl.1 rfl (Nat.le_of_ble_eq_true rfl) dX2_doorsBetween_19 ⟨Nat.zero_le _, Nat.zero_le _⟩ rfl (fun H locs hw => ?_)
      refine lv_iload_n C0.hx C0.hb dX2_doorsBetween_22 rfl (lv_at hl 1 rfl) ?_
      refine lv_aload_n C0.hx C0.hb dX2_doorsBetween_23 rfl (lv_at hl 0 rfl) ?_
      obtain ⟨r4, hr4, h⟩ := Option.bind_eq_some_iff.mp h
      refine q_getR C0 hw hr4 rfl in_2 (by decide) kw_122 dX2_doorsBetween_24 ?_
      refine lv_iload_n C0.hx C0.hb dX2_doorsBetween_27 rfl (lv_at hl 3 rfl) ?_
      obtain ⟨v5, hv5, h⟩ := Option.bind_eq_some_iff.mp h
      refine q_ldI C0 hw hv5 dX2_doorsBetween_28 ?_
      refine q_callSN (n := 2) (av := [.int x1, .int v5]) (rest := [.int (f_X8_bit x1 v3)]) (st1 := [.int (f_X8_bit x1 v5), .int (f_X8_bit x1 v3)]) C0 hw (m_X8_bit l b0 D cy S x1 v5) kw_736 kw_529 kw_63 kw_530 ⟨rfl, rfl⟩ (by decide +kernel) ⟨(Nat.le_of_ble_eq_true rfl), (Nat.le_of_ble_eq_true rfl)⟩ rfl hl.1 rfl (Nat.le_of_ble_eq_true rfl) dX2_doorsBetween_29 ⟨Nat.zero_le _, Nat.zero_le _⟩ rfl (fun H locs hw => ?_)
      refine lv_icmp_eq (tgt := 41) C0.hx C0.hb dX2_doorsBetween_32 (by decide) (fun hc => ?_) (fun hc => ?_)
      · have h := (if_pos hc).symm.trans h
        exact w_X2_doorsBetween_b41 C0 hr hlocks (fun a0 x1 x2 x3 => f_X2_doorsBetween_b4 S  n a0 x1 x2 x3) ih a0 x1 x2 x3 _ _ _ hw (lv_sub hl [0, 1, 2, 3] rfl) h
      · have h := (if_neg hc).symm.trans h
        refine lv_iload_n C0.hx C0.hb dX2_doorsBetween_35 rfl (lv_at hl 2 rfl) ?_
        refine lv_iconst (v := (1 : Int32)) C0.hx C0.hb dX2_doorsBetween_36 (by decide) ?_
        refine lv_iload_n C0.hx C0.hb dX2_doorsBetween_37 rfl (lv_at hl 3 rfl) ?_
        refine lv_ishl C0.hx C0.hb dX2_doorsBetween_38 ?_
        refine lv_ior C0.hx C0.hb dX2_doorsBetween_39 ?_
        obtain ⟨v7, hv7, h⟩ := Option.bind_eq_some_iff.mp h
        refine q_nmI hv7 ?_
        refine lv_istore_n (lv' := [(2, .int v7), (0, .ref (b0 + a0)), (1, .int x1), (3, .int x3)]) C0.hx C0.hb dX2_doorsBetween_40 rfl hl (by decide) rfl (fun ls hl => ?_)
        exact w_X2_doorsBetween_b41 C0 hr hlocks (fun a0 x1 x2 x3 => f_X2_doorsBetween_b4 S  n a0 x1 x2 x3) ih a0 x1 v7 x3 _ _ _ hw (lv_sub hl [1, 2, 0, 3] rfl) h
set_option maxHeartbeats 4000000 in
set_option maxRecDepth 100000 in
theorem m_X2_doorsBetween (l : Launch) (b0 : Nat) (D : va_G) (cy : Nat → ClassId) (S : Mem) (a0 : Nat) (x1 : Int32) {q : Int32} (h : f_X2_doorsBetween a0 x1 S = some q) : Met l yX2_doorsBetween [.code yX2_doorsBetween cX2_doorsBetween 4 (some .int)] rm_X2_doorsBetween (Pr b0 D cy S [.ref (b0 + a0), .int x1]) (Qp b0 D cy (some (.int q)) S) 0 0 (fun q => b0 ≤ q) := by
  refine Met.ofW (cc := cX2_doorsBetween) (maxL := 4) (ret := some .int) (by decide) rfl ?_
  intro p e s m args below meth c s₁ B hml hv
  obtain ⟨rfl, hP, hK, hT⟩ := hv
  have C0 : Cx p m c cX2_doorsBetween 4 s (List.toArray [.ref (b0 + a0), .int x1]) RX2 D cy := ⟨⟨B.exec, B.bytes, hml, findClass_of_methodNamed B.named, fun w h => hT w h _⟩, hK, hT⟩
  have hr : meth.sig.returnType = some .int := B.returns
  have hlocks := B.notSynchronized
  have hw : Wd b0 D cy S s.heap s.heap [] := ⟨hP, va_S.rf⟩
  have hl := lv_entry ([.ref (b0 + a0), .int x1]) (n := 4) (Nat.le_of_ble_eq_true rfl)
  rw [lg_entry_eq]
  generalize (lg_sl ([.ref (b0 + a0), .int x1]) ++ List.replicate (4 - (lg_sl ([.ref (b0 + a0), .int x1])).length) Slot.unset).toArray = ls at hl ⊢
  have hl : lv_has ls 4 [(0, .ref (b0 + a0)), (1, .int x1)] := hl
  rw [f_X2_doorsBetween] at h
  show W p l e rm_X2_doorsBetween s m _ below meth c s.heap [] 0 0 _ _
  refine lv_iconst (v := (0 : Int32)) C0.hx C0.hb dX2_doorsBetween_0 (by decide) ?_
  refine lv_istore_n (lv' := [(2, .int (0 : Int32)), (0, .ref (b0 + a0)), (1, .int x1)]) C0.hx C0.hb dX2_doorsBetween_1 rfl hl (by decide) rfl (fun ls hl => ?_)
  refine lv_iconst (v := (0 : Int32)) C0.hx C0.hb dX2_doorsBetween_2 (by decide) ?_
  refine lv_istore_n (lv' := [(3, .int (0 : Int32)), (2, .int (0 : Int32)), (0, .ref (b0 + a0)), (1, .int x1)]) C0.hx C0.hb dX2_doorsBetween_3 rfl hl (by decide) rfl (fun ls hl => ?_)
  exact w_X2_doorsBetween_b4 C0 hr hlocks FU a0 x1 (0 : Int32) (0 : Int32) _ _ _ hw (lv_sub hl [2, 3, 1, 0] rfl) h
abbrev rm_X3_forget : Room := { frames := 0, cells := 0, slots := 0, locals := 0 }
def f_X3_forget (a0 : Nat) (S : Mem) : Option Mem :=
    (pI 3 0 S a0 (0 : Int32)).bind fun S1 =>
      some S1
set_option maxHeartbeats 4000000 in
set_option maxRecDepth 100000 in
theorem m_X3_forget (l : Launch) (b0 : Nat) (D : va_G) (cy : Nat → ClassId) (S : Mem) (a0 : Nat) {q : Mem} (h : f_X3_forget a0 S = some q) : Met l yX3_forget [.code yX3_forget cX3_forget 1 (none)] rm_X3_forget (Pr b0 D cy S [.ref (b0 + a0)]) (Qp b0 D cy none q) 0 0 (fun q => b0 ≤ q) := by
  refine Met.ofW (cc := cX3_forget) (maxL := 1) (ret := none) (by decide) rfl ?_
  intro p e s m args below meth c s₁ B hml hv
  obtain ⟨rfl, hP, hK, hT⟩ := hv
  have C0 : Cx p m c cX3_forget 1 s (List.toArray [.ref (b0 + a0)]) RX3 D cy := ⟨⟨B.exec, B.bytes, hml, findClass_of_methodNamed B.named, fun w h => hT w h _⟩, hK, hT⟩
  have hr : meth.sig.returnType = none := B.returns
  have hlocks := B.notSynchronized
  have hw : Wd b0 D cy S s.heap s.heap [] := ⟨hP, va_S.rf⟩
  have hl := lv_entry ([.ref (b0 + a0)]) (n := 1) (Nat.le_of_ble_eq_true rfl)
  rw [lg_entry_eq]
  generalize (lg_sl ([.ref (b0 + a0)]) ++ List.replicate (1 - (lg_sl ([.ref (b0 + a0)])).length) Slot.unset).toArray = ls at hl ⊢
  have hl : lv_has ls 1 [(0, .ref (b0 + a0))] := hl
  rw [f_X3_forget] at h
  show W p l e rm_X3_forget s m _ below meth c s.heap [] 0 0 _ _
  refine lv_aload_n C0.hx C0.hb dX3_forget_0 rfl (lv_at hl 0 rfl) ?_
  refine lv_iconst (v := (0 : Int32)) C0.hx C0.hb dX3_forget_1 (by decide) ?_
  obtain ⟨S1, hS1, h⟩ := Option.bind_eq_some_iff.mp h
  refine q_putI C0 hw hS1 rfl in_3 tyX3_ok nmX3 ⟨by decide, by decide, rfl, rfl⟩ rfl kw_300 dX3_forget_2 (fun H locs hw => ?_)
  obtain rfl := Option.some.inj h
  exact q_retv C0 hw hr hlocks dX3_forget_5
abbrev rm_X4_copyFrom : Room := { frames := 1, cells := 0, slots := 0, locals := 40 }
def f_X4_copyFrom (a0 : Nat) (a1 : Nat) (S : Mem) : Option Mem :=
    (gI 4 0 S a1).bind fun v1 =>
      (pI 4 0 S a0 v1).bind fun S2 =>
      (gI 4 1 S2 a1).bind fun v3 =>
      (pI 4 1 S2 a0 v3).bind fun S4 =>
      (gI 4 2 S4 a1).bind fun v5 =>
      (pI 4 2 S4 a0 v5).bind fun S6 =>
      (gI 4 3 S6 a1).bind fun v7 =>
      (pI 4 3 S6 a0 v7).bind fun S8 =>
      (gI 4 4 S8 a1).bind fun v9 =>
      (pI 4 4 S8 a0 v9).bind fun S10 =>
      (gI 4 5 S10 a1).bind fun v11 =>
      (pI 4 5 S10 a0 v11).bind fun S12 =>
      (gI 4 6 S12 a1).bind fun v13 =>
      (pI 4 6 S12 a0 v13).bind fun S14 =>
      (gR 4 7 S14 a1).bind fun r15 =>
      (gR 4 7 S14 a0).bind fun r16 =>
      (cpI S14 r15 (0 : Int32) r16 (0 : Int32) (8 : Int32)).bind fun S17 =>
      some S17
set_option maxHeartbeats 4000000 in
set_option maxRecDepth 100000 in
theorem m_X4_copyFrom (l : Launch) (b0 : Nat) (D : va_G) (cy : Nat → ClassId) (S : Mem) (a0 : Nat) (a1 : Nat) {q : Mem} (h : f_X4_copyFrom a0 a1 S = some q) : Met l yX4_copyFrom [.code yX4_copyFrom cX4_copyFrom 2 (none)] rm_X4_copyFrom (Pr b0 D cy S [.ref (b0 + a0), .ref (b0 + a1)]) (Qp b0 D cy none q) 0 0 (fun q => b0 ≤ q) := by
  refine Met.ofW (cc := cX4_copyFrom) (maxL := 2) (ret := none) (by decide) rfl ?_
  intro p e s m args below meth c s₁ B hml hv
  obtain ⟨rfl, hP, hK, hT⟩ := hv
  have C0 : Cx p m c cX4_copyFrom 2 s (List.toArray [.ref (b0 + a0), .ref (b0 + a1)]) RX4 D cy := ⟨⟨B.exec, B.bytes, hml, findClass_of_methodNamed B.named, fun w h => hT w h _⟩, hK, hT⟩
  have hr : meth.sig.returnType = none := B.returns
  have hlocks := B.notSynchronized
  have hw : Wd b0 D cy S s.heap s.heap [] := ⟨hP, va_S.rf⟩
  have hl := lv_entry ([.ref (b0 + a0), .ref (b0 + a1)]) (n := 2) (Nat.le_of_ble_eq_true rfl)
  rw [lg_entry_eq]
  generalize (lg_sl ([.ref (b0 + a0), .ref (b0 + a1)]) ++ List.replicate (2 - (lg_sl ([.ref (b0 + a0), .ref (b0 + a1)])).length) Slot.unset).toArray = ls at hl ⊢
  have hl : lv_has ls 2 [(0, .ref (b0 + a0)), (1, .ref (b0 + a1))] := hl
  rw [f_X4_copyFrom] at h
  show W p l e rm_X4_copyFrom s m _ below meth c s.heap [] 0 0 _ _
  refine lv_aload_n C0.hx C0.hb dX4_copyFrom_0 rfl (lv_at hl 0 rfl) ?_
  refine lv_aload_n C0.hx C0.hb dX4_copyFrom_1 rfl (lv_at hl 1 rfl) ?_
  obtain ⟨v1, hv1, h⟩ := Option.bind_eq_some_iff.mp h
  refine q_getI C0 hw hv1 rfl in_4 (by decide) kw_194 dX4_copyFrom_2 ?_
  obtain ⟨S2, hS2, h⟩ := Option.bind_eq_some_iff.mp h
  refine q_putI C0 hw hS2 rfl in_4 tyX4_ok nmX4 ⟨by decide, by decide, rfl, rfl⟩ rfl kw_194 dX4_copyFrom_5 (fun H locs hw => ?_)
  refine lv_aload_n C0.hx C0.hb dX4_copyFrom_8 rfl (lv_at hl 0 rfl) ?_
  refine lv_aload_n C0.hx C0.hb dX4_copyFrom_9 rfl (lv_at hl 1 rfl) ?_
  obtain ⟨v3, hv3, h⟩ := Option.bind_eq_some_iff.mp h
  refine q_getI C0 hw hv3 rfl in_4 (by decide) kw_197 dX4_copyFrom_10 ?_
  obtain ⟨S4, hS4, h⟩ := Option.bind_eq_some_iff.mp h
  refine q_putI C0 hw hS4 rfl in_4 tyX4_ok nmX4 ⟨by decide, by decide, rfl, rfl⟩ rfl kw_197 dX4_copyFrom_13 (fun H locs hw => ?_)
  refine lv_aload_n C0.hx C0.hb dX4_copyFrom_16 rfl (lv_at hl 0 rfl) ?_
  refine lv_aload_n C0.hx C0.hb dX4_copyFrom_17 rfl (lv_at hl 1 rfl) ?_
  obtain ⟨v5, hv5, h⟩ := Option.bind_eq_some_iff.mp h
  refine q_getI C0 hw hv5 rfl in_4 (by decide) kw_201 dX4_copyFrom_18 ?_
  obtain ⟨S6, hS6, h⟩ := Option.bind_eq_some_iff.mp h
  refine q_putI C0 hw hS6 rfl in_4 tyX4_ok nmX4 ⟨by decide, by decide, rfl, rfl⟩ rfl kw_201 dX4_copyFrom_21 (fun H locs hw => ?_)
  refine lv_aload_n C0.hx C0.hb dX4_copyFrom_24 rfl (lv_at hl 0 rfl) ?_
  refine lv_aload_n C0.hx C0.hb dX4_copyFrom_25 rfl (lv_at hl 1 rfl) ?_
  obtain ⟨v7, hv7, h⟩ := Option.bind_eq_some_iff.mp h
  refine q_getI C0 hw hv7 rfl in_4 (by decide) kw_203 dX4_copyFrom_26 ?_
  obtain ⟨S8, hS8, h⟩ := Option.bind_eq_some_iff.mp h
  refine q_putI C0 hw hS8 rfl in_4 tyX4_ok nmX4 ⟨by decide, by decide, rfl, rfl⟩ rfl kw_203 dX4_copyFrom_29 (fun H locs hw => ?_)
  refine lv_aload_n C0.hx C0.hb dX4_copyFrom_32 rfl (lv_at hl 0 rfl) ?_
  refine lv_aload_n C0.hx C0.hb dX4_copyFrom_33 rfl (lv_at hl 1 rfl) ?_
  obtain ⟨v9, hv9, h⟩ := Option.bind_eq_some_iff.mp h
  refine q_getI C0 hw hv9 rfl in_4 (by decide) kw_206 dX4_copyFrom_34 ?_
  obtain ⟨S10, hS10, h⟩ := Option.bind_eq_some_iff.mp h
  refine q_putI C0 hw hS10 rfl in_4 tyX4_ok nmX4 ⟨by decide, by decide, rfl, rfl⟩ rfl kw_206 dX4_copyFrom_37 (fun H locs hw => ?_)
  refine lv_aload_n C0.hx C0.hb dX4_copyFrom_40 rfl (lv_at hl 0 rfl) ?_
  refine lv_aload_n C0.hx C0.hb dX4_copyFrom_41 rfl (lv_at hl 1 rfl) ?_
  obtain ⟨v11, hv11, h⟩ := Option.bind_eq_some_iff.mp h
  refine q_getI C0 hw hv11 rfl in_4 (by decide) kw_208 dX4_copyFrom_42 ?_
  obtain ⟨S12, hS12, h⟩ := Option.bind_eq_some_iff.mp h
  refine q_putI C0 hw hS12 rfl in_4 tyX4_ok nmX4 ⟨by decide, by decide, rfl, rfl⟩ rfl kw_208 dX4_copyFrom_45 (fun H locs hw => ?_)
  refine lv_aload_n C0.hx C0.hb dX4_copyFrom_48 rfl (lv_at hl 0 rfl) ?_
  refine lv_aload_n C0.hx C0.hb dX4_copyFrom_49 rfl (lv_at hl 1 rfl) ?_
  obtain ⟨v13, hv13, h⟩ := Option.bind_eq_some_iff.mp h
  refine q_getI C0 hw hv13 rfl in_4 (by decide) kw_211 dX4_copyFrom_50 ?_
  obtain ⟨S14, hS14, h⟩ := Option.bind_eq_some_iff.mp h
  refine q_putI C0 hw hS14 rfl in_4 tyX4_ok nmX4 ⟨by decide, by decide, rfl, rfl⟩ rfl kw_211 dX4_copyFrom_53 (fun H locs hw => ?_)
  refine lv_aload_n C0.hx C0.hb dX4_copyFrom_56 rfl (lv_at hl 1 rfl) ?_
  obtain ⟨r15, hr15, h⟩ := Option.bind_eq_some_iff.mp h
  refine q_getR C0 hw hr15 rfl in_4 (by decide) kw_213 dX4_copyFrom_57 ?_
  refine lv_iconst (v := (0 : Int32)) C0.hx C0.hb dX4_copyFrom_60 (by decide) ?_
  refine lv_aload_n C0.hx C0.hb dX4_copyFrom_61 rfl (lv_at hl 0 rfl) ?_
  obtain ⟨r16, hr16, h⟩ := Option.bind_eq_some_iff.mp h
  refine q_getR C0 hw hr16 rfl in_4 (by decide) kw_213 dX4_copyFrom_62 ?_
  refine lv_iconst (v := (0 : Int32)) C0.hx C0.hb dX4_copyFrom_65 (by decide) ?_
  refine lv_bipush (v := (8 : Int32)) C0.hx C0.hb dX4_copyFrom_66 (by decide) ?_
  obtain ⟨S17, hS17, h⟩ := Option.bind_eq_some_iff.mp h
  refine q_cp C0 hw hS17 kw_575 kw_488 kw_487 kw_74 hl.1 (Nat.le_of_ble_eq_true rfl) (Nat.le_of_ble_eq_true rfl) dX4_copyFrom_68 (fun H locs hw => ?_)
  obtain rfl := Option.some.inj h
  exact q_retv C0 hw hr hlocks dX4_copyFrom_71
abbrev rm_X7_copyFrom : Room := { frames := 1, cells := 0, slots := 0, locals := 40 }
def f_X7_copyFrom (a0 : Nat) (a1 : Nat) (S : Mem) : Option Mem :=
    (gI 7 0 S a1).bind fun v1 =>
      (pI 7 0 S a0 v1).bind fun S2 =>
      (gI 7 1 S2 a1).bind fun v3 =>
      (pI 7 1 S2 a0 v3).bind fun S4 =>
      (gR 7 2 S4 a1).bind fun r5 =>
      (gR 7 2 S4 a0).bind fun r6 =>
      (cpI S4 r5 (0 : Int32) r6 (0 : Int32) (16 : Int32)).bind fun S7 =>
      (gR 7 3 S7 a1).bind fun r8 =>
      (gR 7 3 S7 a0).bind fun r9 =>
      (cpI S7 r8 (0 : Int32) r9 (0 : Int32) (16 : Int32)).bind fun S10 =>
      (gR 7 4 S10 a1).bind fun r11 =>
      (gR 7 4 S10 a0).bind fun r12 =>
      (cpI S10 r11 (0 : Int32) r12 (0 : Int32) (16 : Int32)).bind fun S13 =>
      (gR 7 5 S13 a1).bind fun r14 =>
      (gR 7 5 S13 a0).bind fun r15 =>
      (cpI S13 r14 (0 : Int32) r15 (0 : Int32) (16 : Int32)).bind fun S16 =>
      some S16
set_option maxHeartbeats 4000000 in
set_option maxRecDepth 100000 in
theorem m_X7_copyFrom (l : Launch) (b0 : Nat) (D : va_G) (cy : Nat → ClassId) (S : Mem) (a0 : Nat) (a1 : Nat) {q : Mem} (h : f_X7_copyFrom a0 a1 S = some q) : Met l yX7_copyFrom [.code yX7_copyFrom cX7_copyFrom 2 (none)] rm_X7_copyFrom (Pr b0 D cy S [.ref (b0 + a0), .ref (b0 + a1)]) (Qp b0 D cy none q) 0 0 (fun q => b0 ≤ q) := by
  refine Met.ofW (cc := cX7_copyFrom) (maxL := 2) (ret := none) (by decide) rfl ?_
  intro p e s m args below meth c s₁ B hml hv
  obtain ⟨rfl, hP, hK, hT⟩ := hv
  have C0 : Cx p m c cX7_copyFrom 2 s (List.toArray [.ref (b0 + a0), .ref (b0 + a1)]) RX7 D cy := ⟨⟨B.exec, B.bytes, hml, findClass_of_methodNamed B.named, fun w h => hT w h _⟩, hK, hT⟩
  have hr : meth.sig.returnType = none := B.returns
  have hlocks := B.notSynchronized
  have hw : Wd b0 D cy S s.heap s.heap [] := ⟨hP, va_S.rf⟩
  have hl := lv_entry ([.ref (b0 + a0), .ref (b0 + a1)]) (n := 2) (Nat.le_of_ble_eq_true rfl)
  rw [lg_entry_eq]
  generalize (lg_sl ([.ref (b0 + a0), .ref (b0 + a1)]) ++ List.replicate (2 - (lg_sl ([.ref (b0 + a0), .ref (b0 + a1)])).length) Slot.unset).toArray = ls at hl ⊢
  have hl : lv_has ls 2 [(0, .ref (b0 + a0)), (1, .ref (b0 + a1))] := hl
  rw [f_X7_copyFrom] at h
  show W p l e rm_X7_copyFrom s m _ below meth c s.heap [] 0 0 _ _
  refine lv_aload_n C0.hx C0.hb dX7_copyFrom_0 rfl (lv_at hl 0 rfl) ?_
  refine lv_aload_n C0.hx C0.hb dX7_copyFrom_1 rfl (lv_at hl 1 rfl) ?_
  obtain ⟨v1, hv1, h⟩ := Option.bind_eq_some_iff.mp h
  refine q_getI C0 hw hv1 rfl in_7 (by decide) kw_238 dX7_copyFrom_2 ?_
  obtain ⟨S2, hS2, h⟩ := Option.bind_eq_some_iff.mp h
  refine q_putI C0 hw hS2 rfl in_7 tyX7_ok nmX7 ⟨by decide, by decide, rfl, rfl⟩ rfl kw_238 dX7_copyFrom_5 (fun H locs hw => ?_)
  refine lv_aload_n C0.hx C0.hb dX7_copyFrom_8 rfl (lv_at hl 0 rfl) ?_
  refine lv_aload_n C0.hx C0.hb dX7_copyFrom_9 rfl (lv_at hl 1 rfl) ?_
  obtain ⟨v3, hv3, h⟩ := Option.bind_eq_some_iff.mp h
  refine q_getI C0 hw hv3 rfl in_7 (by decide) kw_240 dX7_copyFrom_10 ?_
  obtain ⟨S4, hS4, h⟩ := Option.bind_eq_some_iff.mp h
  refine q_putI C0 hw hS4 rfl in_7 tyX7_ok nmX7 ⟨by decide, by decide, rfl, rfl⟩ rfl kw_240 dX7_copyFrom_13 (fun H locs hw => ?_)
  refine lv_aload_n C0.hx C0.hb dX7_copyFrom_16 rfl (lv_at hl 1 rfl) ?_
  obtain ⟨r5, hr5, h⟩ := Option.bind_eq_some_iff.mp h
  refine q_getR C0 hw hr5 rfl in_7 (by decide) kw_241 dX7_copyFrom_17 ?_
  refine lv_iconst (v := (0 : Int32)) C0.hx C0.hb dX7_copyFrom_20 (by decide) ?_
  refine lv_aload_n C0.hx C0.hb dX7_copyFrom_21 rfl (lv_at hl 0 rfl) ?_
  obtain ⟨r6, hr6, h⟩ := Option.bind_eq_some_iff.mp h
  refine q_getR C0 hw hr6 rfl in_7 (by decide) kw_241 dX7_copyFrom_22 ?_
  refine lv_iconst (v := (0 : Int32)) C0.hx C0.hb dX7_copyFrom_25 (by decide) ?_
  refine lv_bipush (v := (16 : Int32)) C0.hx C0.hb dX7_copyFrom_26 (by decide) ?_
  obtain ⟨S7, hS7, h⟩ := Option.bind_eq_some_iff.mp h
  refine q_cp C0 hw hS7 kw_580 kw_488 kw_487 kw_74 hl.1 (Nat.le_of_ble_eq_true rfl) (Nat.le_of_ble_eq_true rfl) dX7_copyFrom_28 (fun H locs hw => ?_)
  refine lv_aload_n C0.hx C0.hb dX7_copyFrom_31 rfl (lv_at hl 1 rfl) ?_
  obtain ⟨r8, hr8, h⟩ := Option.bind_eq_some_iff.mp h
  refine q_getR C0 hw hr8 rfl in_7 (by decide) kw_242 dX7_copyFrom_32 ?_
  refine lv_iconst (v := (0 : Int32)) C0.hx C0.hb dX7_copyFrom_35 (by decide) ?_
  refine lv_aload_n C0.hx C0.hb dX7_copyFrom_36 rfl (lv_at hl 0 rfl) ?_
  obtain ⟨r9, hr9, h⟩ := Option.bind_eq_some_iff.mp h
  refine q_getR C0 hw hr9 rfl in_7 (by decide) kw_242 dX7_copyFrom_37 ?_
  refine lv_iconst (v := (0 : Int32)) C0.hx C0.hb dX7_copyFrom_40 (by decide) ?_
  refine lv_bipush (v := (16 : Int32)) C0.hx C0.hb dX7_copyFrom_41 (by decide) ?_
  obtain ⟨S10, hS10, h⟩ := Option.bind_eq_some_iff.mp h
  refine q_cp C0 hw hS10 kw_580 kw_488 kw_487 kw_74 hl.1 (Nat.le_of_ble_eq_true rfl) (Nat.le_of_ble_eq_true rfl) dX7_copyFrom_43 (fun H locs hw => ?_)
  refine lv_aload_n C0.hx C0.hb dX7_copyFrom_46 rfl (lv_at hl 1 rfl) ?_
  obtain ⟨r11, hr11, h⟩ := Option.bind_eq_some_iff.mp h
  refine q_getR C0 hw hr11 rfl in_7 (by decide) kw_243 dX7_copyFrom_47 ?_
  refine lv_iconst (v := (0 : Int32)) C0.hx C0.hb dX7_copyFrom_50 (by decide) ?_
  refine lv_aload_n C0.hx C0.hb dX7_copyFrom_51 rfl (lv_at hl 0 rfl) ?_
  obtain ⟨r12, hr12, h⟩ := Option.bind_eq_some_iff.mp h
  refine q_getR C0 hw hr12 rfl in_7 (by decide) kw_243 dX7_copyFrom_52 ?_
  refine lv_iconst (v := (0 : Int32)) C0.hx C0.hb dX7_copyFrom_55 (by decide) ?_
  refine lv_bipush (v := (16 : Int32)) C0.hx C0.hb dX7_copyFrom_56 (by decide) ?_
  obtain ⟨S13, hS13, h⟩ := Option.bind_eq_some_iff.mp h
  refine q_cp C0 hw hS13 kw_580 kw_488 kw_487 kw_74 hl.1 (Nat.le_of_ble_eq_true rfl) (Nat.le_of_ble_eq_true rfl) dX7_copyFrom_58 (fun H locs hw => ?_)
  refine lv_aload_n C0.hx C0.hb dX7_copyFrom_61 rfl (lv_at hl 1 rfl) ?_
  obtain ⟨r14, hr14, h⟩ := Option.bind_eq_some_iff.mp h
  refine q_getR C0 hw hr14 rfl in_7 (by decide) kw_244 dX7_copyFrom_62 ?_
  refine lv_iconst (v := (0 : Int32)) C0.hx C0.hb dX7_copyFrom_65 (by decide) ?_
  refine lv_aload_n C0.hx C0.hb dX7_copyFrom_66 rfl (lv_at hl 0 rfl) ?_
  obtain ⟨r15, hr15, h⟩ := Option.bind_eq_some_iff.mp h
  refine q_getR C0 hw hr15 rfl in_7 (by decide) kw_244 dX7_copyFrom_67 ?_
  refine lv_iconst (v := (0 : Int32)) C0.hx C0.hb dX7_copyFrom_70 (by decide) ?_
  refine lv_bipush (v := (16 : Int32)) C0.hx C0.hb dX7_copyFrom_71 (by decide) ?_
  obtain ⟨S16, hS16, h⟩ := Option.bind_eq_some_iff.mp h
  refine q_cp C0 hw hS16 kw_580 kw_488 kw_487 kw_74 hl.1 (Nat.le_of_ble_eq_true rfl) (Nat.le_of_ble_eq_true rfl) dX7_copyFrom_73 (fun H locs hw => ?_)
  obtain rfl := Option.some.inj h
  exact q_retv C0 hw hr hlocks dX7_copyFrom_76
abbrev rm_X5_copyFrom : Room := { frames := 2, cells := 0, slots := 0, locals := 61 }
def f_X5_copyFrom (a0 : Nat) (a1 : Nat) (S : Mem) : Option Mem :=
    (gR 5 0 S a0).bind fun r1 =>
      (gR 5 0 S a1).bind fun r2 =>
      (ck 4 S r1).bind fun c3 =>
      (f_X4_copyFrom r1 r2 S).bind fun S4 =>
      (gR 5 1 S4 a0).bind fun r5 =>
      (gR 5 1 S4 a1).bind fun r6 =>
      (ck 7 S4 r5).bind fun c7 =>
      (f_X7_copyFrom r5 r6 S4).bind fun S8 =>
      (gI 5 2 S8 a1).bind fun v9 =>
      (pI 5 2 S8 a0 v9).bind fun S10 =>
      (gI 5 3 S10 a1).bind fun v11 =>
      (pI 5 3 S10 a0 v11).bind fun S12 =>
      (gI 5 4 S12 a1).bind fun v13 =>
      (pI 5 4 S12 a0 v13).bind fun S14 =>
      (gI 5 5 S14 a1).bind fun v15 =>
      (pI 5 5 S14 a0 v15).bind fun S16 =>
      (gR 5 6 S16 a1).bind fun r17 =>
      (gR 5 6 S16 a0).bind fun r18 =>
      (cpI S16 r17 (0 : Int32) r18 (0 : Int32) (8 : Int32)).bind fun S19 =>
      (gR 5 7 S19 a1).bind fun r20 =>
      (gR 5 7 S19 a0).bind fun r21 =>
      (cpI S19 r20 (0 : Int32) r21 (0 : Int32) (6 : Int32)).bind fun S22 =>
      some S22
set_option maxHeartbeats 4000000 in
set_option maxRecDepth 100000 in
theorem m_X5_copyFrom (l : Launch) (b0 : Nat) (D : va_G) (cy : Nat → ClassId) (S : Mem) (a0 : Nat) (a1 : Nat) {q : Mem} (h : f_X5_copyFrom a0 a1 S = some q) : Met l yX5_copyFrom [.code yX5_copyFrom cX5_copyFrom 2 (none)] rm_X5_copyFrom (Pr b0 D cy S [.ref (b0 + a0), .ref (b0 + a1)]) (Qp b0 D cy none q) 0 0 (fun q => b0 ≤ q) := by
  refine Met.ofW (cc := cX5_copyFrom) (maxL := 2) (ret := none) (by decide) rfl ?_
  intro p e s m args below meth c s₁ B hml hv
  obtain ⟨rfl, hP, hK, hT⟩ := hv
  have C0 : Cx p m c cX5_copyFrom 2 s (List.toArray [.ref (b0 + a0), .ref (b0 + a1)]) RX5 D cy := ⟨⟨B.exec, B.bytes, hml, findClass_of_methodNamed B.named, fun w h => hT w h _⟩, hK, hT⟩
  have hr : meth.sig.returnType = none := B.returns
  have hlocks := B.notSynchronized
  have hw : Wd b0 D cy S s.heap s.heap [] := ⟨hP, va_S.rf⟩
  have hl := lv_entry ([.ref (b0 + a0), .ref (b0 + a1)]) (n := 2) (Nat.le_of_ble_eq_true rfl)
  rw [lg_entry_eq]
  generalize (lg_sl ([.ref (b0 + a0), .ref (b0 + a1)]) ++ List.replicate (2 - (lg_sl ([.ref (b0 + a0), .ref (b0 + a1)])).length) Slot.unset).toArray = ls at hl ⊢
  have hl : lv_has ls 2 [(0, .ref (b0 + a0)), (1, .ref (b0 + a1))] := hl
  rw [f_X5_copyFrom] at h
  show W p l e rm_X5_copyFrom s m _ below meth c s.heap [] 0 0 _ _
  refine lv_aload_n C0.hx C0.hb dX5_copyFrom_0 rfl (lv_at hl 0 rfl) ?_
  obtain ⟨r1, hr1, h⟩ := Option.bind_eq_some_iff.mp h
  refine q_getR C0 hw hr1 rfl in_5 (by decide) kw_258 dX5_copyFrom_1 ?_
  refine lv_aload_n C0.hx C0.hb dX5_copyFrom_4 rfl (lv_at hl 1 rfl) ?_
  obtain ⟨r2, hr2, h⟩ := Option.bind_eq_some_iff.mp h
  refine q_getR C0 hw hr2 rfl in_5 (by decide) kw_258 dX5_copyFrom_5 ?_
  obtain ⟨c3, hc3, h⟩ := Option.bind_eq_some_iff.mp h
  obtain ⟨S4, hS4, h⟩ := Option.bind_eq_some_iff.mp h
  refine q_callV (n := 1) (av := [.ref (b0 + r2)]) (rest := []) (st1 := []) C0 hw (m_X4_copyFrom l b0 D cy S r1 r2 hS4) hc3 rfl (by decide) (goodV kw_571 kw_572 kw_573 kw_67 kw_574) ⟨rfl, rfl⟩ (by decide +kernel) ⟨(Nat.le_of_ble_eq_true rfl), (Nat.le_of_ble_eq_true rfl)⟩ rfl hl.1 rfl (Nat.le_of_ble_eq_true rfl) dX5_copyFrom_8 ⟨Nat.zero_le _, Nat.zero_le _⟩ rfl (fun H locs hw => ?_)
  refine lv_aload_n C0.hx C0.hb dX5_copyFrom_11 rfl (lv_at hl 0 rfl) ?_
  obtain ⟨r5, hr5, h⟩ := Option.bind_eq_some_iff.mp h
  refine q_getR C0 hw hr5 rfl in_5 (by decide) kw_260 dX5_copyFrom_12 ?_
  refine lv_aload_n C0.hx C0.hb dX5_copyFrom_15 rfl (lv_at hl 1 rfl) ?_
  obtain ⟨r6, hr6, h⟩ := Option.bind_eq_some_iff.mp h
  refine q_getR C0 hw hr6 rfl in_5 (by decide) kw_260 dX5_copyFrom_16 ?_
  obtain ⟨c7, hc7, h⟩ := Option.bind_eq_some_iff.mp h
  obtain ⟨S8, hS8, h⟩ := Option.bind_eq_some_iff.mp h
  refine q_callV (n := 1) (av := [.ref (b0 + r6)]) (rest := []) (st1 := []) C0 hw (m_X7_copyFrom l b0 D cy S4 r5 r6 hS8) hc7 rfl (by decide) (goodV kw_576 kw_577 kw_578 kw_68 kw_579) ⟨rfl, rfl⟩ (by decide +kernel) ⟨(Nat.le_of_ble_eq_true rfl), (Nat.le_of_ble_eq_true rfl)⟩ rfl hl.1 rfl (Nat.le_of_ble_eq_true rfl) dX5_copyFrom_19 ⟨Nat.zero_le _, Nat.zero_le _⟩ rfl (fun H locs hw => ?_)
  refine lv_aload_n C0.hx C0.hb dX5_copyFrom_22 rfl (lv_at hl 0 rfl) ?_
  refine lv_aload_n C0.hx C0.hb dX5_copyFrom_23 rfl (lv_at hl 1 rfl) ?_
  obtain ⟨v9, hv9, h⟩ := Option.bind_eq_some_iff.mp h
  refine q_getI C0 hw hv9 rfl in_5 (by decide) kw_262 dX5_copyFrom_24 ?_
  obtain ⟨S10, hS10, h⟩ := Option.bind_eq_some_iff.mp h
  refine q_putI C0 hw hS10 rfl in_5 tyX5_ok nmX5 ⟨by decide, by decide, rfl, rfl⟩ rfl kw_262 dX5_copyFrom_27 (fun H locs hw => ?_)
  refine lv_aload_n C0.hx C0.hb dX5_copyFrom_30 rfl (lv_at hl 0 rfl) ?_
  refine lv_aload_n C0.hx C0.hb dX5_copyFrom_31 rfl (lv_at hl 1 rfl) ?_
  obtain ⟨v11, hv11, h⟩ := Option.bind_eq_some_iff.mp h
  refine q_getI C0 hw hv11 rfl in_5 (by decide) kw_264 dX5_copyFrom_32 ?_
  obtain ⟨S12, hS12, h⟩ := Option.bind_eq_some_iff.mp h
  refine q_putI C0 hw hS12 rfl in_5 tyX5_ok nmX5 ⟨by decide, by decide, rfl, rfl⟩ rfl kw_264 dX5_copyFrom_35 (fun H locs hw => ?_)
  refine lv_aload_n C0.hx C0.hb dX5_copyFrom_38 rfl (lv_at hl 0 rfl) ?_
  refine lv_aload_n C0.hx C0.hb dX5_copyFrom_39 rfl (lv_at hl 1 rfl) ?_
  obtain ⟨v13, hv13, h⟩ := Option.bind_eq_some_iff.mp h
  refine q_getI C0 hw hv13 rfl in_5 (by decide) kw_266 dX5_copyFrom_40 ?_
  obtain ⟨S14, hS14, h⟩ := Option.bind_eq_some_iff.mp h
  refine q_putI C0 hw hS14 rfl in_5 tyX5_ok nmX5 ⟨by decide, by decide, rfl, rfl⟩ rfl kw_266 dX5_copyFrom_43 (fun H locs hw => ?_)
  refine lv_aload_n C0.hx C0.hb dX5_copyFrom_46 rfl (lv_at hl 0 rfl) ?_
  refine lv_aload_n C0.hx C0.hb dX5_copyFrom_47 rfl (lv_at hl 1 rfl) ?_
  obtain ⟨v15, hv15, h⟩ := Option.bind_eq_some_iff.mp h
  refine q_getI C0 hw hv15 rfl in_5 (by decide) kw_268 dX5_copyFrom_48 ?_
  obtain ⟨S16, hS16, h⟩ := Option.bind_eq_some_iff.mp h
  refine q_putI C0 hw hS16 rfl in_5 tyX5_ok nmX5 ⟨by decide, by decide, rfl, rfl⟩ rfl kw_268 dX5_copyFrom_51 (fun H locs hw => ?_)
  refine lv_aload_n C0.hx C0.hb dX5_copyFrom_54 rfl (lv_at hl 1 rfl) ?_
  obtain ⟨r17, hr17, h⟩ := Option.bind_eq_some_iff.mp h
  refine q_getR C0 hw hr17 rfl in_5 (by decide) kw_270 dX5_copyFrom_55 ?_
  refine lv_iconst (v := (0 : Int32)) C0.hx C0.hb dX5_copyFrom_58 (by decide) ?_
  refine lv_aload_n C0.hx C0.hb dX5_copyFrom_59 rfl (lv_at hl 0 rfl) ?_
  obtain ⟨r18, hr18, h⟩ := Option.bind_eq_some_iff.mp h
  refine q_getR C0 hw hr18 rfl in_5 (by decide) kw_270 dX5_copyFrom_60 ?_
  refine lv_iconst (v := (0 : Int32)) C0.hx C0.hb dX5_copyFrom_63 (by decide) ?_
  refine lv_bipush (v := (8 : Int32)) C0.hx C0.hb dX5_copyFrom_64 (by decide) ?_
  obtain ⟨S19, hS19, h⟩ := Option.bind_eq_some_iff.mp h
  refine q_cp C0 hw hS19 kw_486 kw_488 kw_487 kw_74 hl.1 (Nat.le_of_ble_eq_true rfl) (Nat.le_of_ble_eq_true rfl) dX5_copyFrom_66 (fun H locs hw => ?_)
  refine lv_aload_n C0.hx C0.hb dX5_copyFrom_69 rfl (lv_at hl 1 rfl) ?_
  obtain ⟨r20, hr20, h⟩ := Option.bind_eq_some_iff.mp h
  refine q_getR C0 hw hr20 rfl in_5 (by decide) kw_272 dX5_copyFrom_70 ?_
  refine lv_iconst (v := (0 : Int32)) C0.hx C0.hb dX5_copyFrom_73 (by decide) ?_
  refine lv_aload_n C0.hx C0.hb dX5_copyFrom_74 rfl (lv_at hl 0 rfl) ?_
  obtain ⟨r21, hr21, h⟩ := Option.bind_eq_some_iff.mp h
  refine q_getR C0 hw hr21 rfl in_5 (by decide) kw_272 dX5_copyFrom_75 ?_
  refine lv_iconst (v := (0 : Int32)) C0.hx C0.hb dX5_copyFrom_78 (by decide) ?_
  refine lv_bipush (v := (6 : Int32)) C0.hx C0.hb dX5_copyFrom_79 (by decide) ?_
  obtain ⟨S22, hS22, h⟩ := Option.bind_eq_some_iff.mp h
  refine q_cp C0 hw hS22 kw_486 kw_488 kw_487 kw_74 hl.1 (Nat.le_of_ble_eq_true rfl) (Nat.le_of_ble_eq_true rfl) dX5_copyFrom_81 (fun H locs hw => ?_)
  obtain rfl := Option.some.inj h
  exact q_retv C0 hw hr hlocks dX5_copyFrom_84
abbrev rm_X3_remember : Room := { frames := 3, cells := 0, slots := 0, locals := 82 }
def f_X3_remember (a0 : Nat) (a1 : Nat) (S : Mem) : Option Mem :=
    (gR 3 2 S a0).bind fun r1 =>
      (gI 3 1 S a0).bind fun v2 =>
      (ldR 14 S r1 v2).bind fun r3 =>
      (ck 5 S r3).bind fun c4 =>
      (f_X5_copyFrom r3 a1 S).bind fun S5 =>
      (gI 3 1 S5 a0).bind fun v6 =>
      (pI 3 1 S5 a0 (irI (v6 + (1 : Int32)) (16 : Int32))).bind fun S7 =>
      (gI 3 0 S7 a0).bind fun v8 =>
      (pI 3 0 S7 a0 (if (v8 + (1 : Int32)) < (16 : Int32) then (v8 + (1 : Int32)) else (16 : Int32))).bind fun S9 =>
      some S9
set_option maxHeartbeats 4000000 in
set_option maxRecDepth 100000 in
theorem m_X3_remember (l : Launch) (b0 : Nat) (D : va_G) (cy : Nat → ClassId) (S : Mem) (a0 : Nat) (a1 : Nat) {q : Mem} (h : f_X3_remember a0 a1 S = some q) : Met l yX3_remember [.code yX3_remember cX3_remember 2 (none)] rm_X3_remember (Pr b0 D cy S [.ref (b0 + a0), .ref (b0 + a1)]) (Qp b0 D cy none q) 0 0 (fun q => b0 ≤ q) := by
  refine Met.ofW (cc := cX3_remember) (maxL := 2) (ret := none) (by decide) rfl ?_
  intro p e s m args below meth c s₁ B hml hv
  obtain ⟨rfl, hP, hK, hT⟩ := hv
  have C0 : Cx p m c cX3_remember 2 s (List.toArray [.ref (b0 + a0), .ref (b0 + a1)]) RX3 D cy := ⟨⟨B.exec, B.bytes, hml, findClass_of_methodNamed B.named, fun w h => hT w h _⟩, hK, hT⟩
  have hr : meth.sig.returnType = none := B.returns
  have hlocks := B.notSynchronized
  have hw : Wd b0 D cy S s.heap s.heap [] := ⟨hP, va_S.rf⟩
  have hl := lv_entry ([.ref (b0 + a0), .ref (b0 + a1)]) (n := 2) (Nat.le_of_ble_eq_true rfl)
  rw [lg_entry_eq]
  generalize (lg_sl ([.ref (b0 + a0), .ref (b0 + a1)]) ++ List.replicate (2 - (lg_sl ([.ref (b0 + a0), .ref (b0 + a1)])).length) Slot.unset).toArray = ls at hl ⊢
  have hl : lv_has ls 2 [(0, .ref (b0 + a0)), (1, .ref (b0 + a1))] := hl
  rw [f_X3_remember] at h
  show W p l e rm_X3_remember s m _ below meth c s.heap [] 0 0 _ _
  refine lv_aload_n C0.hx C0.hb dX3_remember_0 rfl (lv_at hl 0 rfl) ?_
  obtain ⟨r1, hr1, h⟩ := Option.bind_eq_some_iff.mp h
  refine q_getR C0 hw hr1 rfl in_3 (by decide) kw_303 dX3_remember_1 ?_
  refine lv_aload_n C0.hx C0.hb dX3_remember_4 rfl (lv_at hl 0 rfl) ?_
  obtain ⟨v2, hv2, h⟩ := Option.bind_eq_some_iff.mp h
  refine q_getI C0 hw hv2 rfl in_3 (by decide) kw_302 dX3_remember_5 ?_
  obtain ⟨r3, hr3, h⟩ := Option.bind_eq_some_iff.mp h
  refine q_ldR14 C0 hw hr3 dX3_remember_8 ?_
  refine lv_aload_n C0.hx C0.hb dX3_remember_9 rfl (lv_at hl 1 rfl) ?_
  obtain ⟨c4, hc4, h⟩ := Option.bind_eq_some_iff.mp h
  obtain ⟨S5, hS5, h⟩ := Option.bind_eq_some_iff.mp h
  refine q_callV (n := 1) (av := [.ref (b0 + a1)]) (rest := []) (st1 := []) C0 hw (m_X5_copyFrom l b0 D cy S r3 a1 hS5) hc4 rfl (by decide) (goodV kw_567 kw_568 kw_569 kw_66 kw_570) ⟨rfl, rfl⟩ (by decide +kernel) ⟨(Nat.le_of_ble_eq_true rfl), (Nat.le_of_ble_eq_true rfl)⟩ rfl hl.1 rfl (Nat.le_of_ble_eq_true rfl) dX3_remember_10 ⟨Nat.zero_le _, Nat.zero_le _⟩ rfl (fun H locs hw => ?_)
  refine lv_aload_n C0.hx C0.hb dX3_remember_13 rfl (lv_at hl 0 rfl) ?_
  refine lv_aload_n C0.hx C0.hb dX3_remember_14 rfl (lv_at hl 0 rfl) ?_
  obtain ⟨v6, hv6, h⟩ := Option.bind_eq_some_iff.mp h
  refine q_getI C0 hw hv6 rfl in_3 (by decide) kw_302 dX3_remember_15 ?_
  refine lv_iconst (v := (1 : Int32)) C0.hx C0.hb dX3_remember_18 (by decide) ?_
  refine lv_iadd C0.hx C0.hb dX3_remember_19 ?_
  refine lv_bipush (v := (16 : Int32)) C0.hx C0.hb dX3_remember_20 (by decide) ?_
  refine lv_irem C0.hx C0.hb dX3_remember_22 (by decide) ?_
  obtain ⟨S7, hS7, h⟩ := Option.bind_eq_some_iff.mp h
  refine q_putI C0 hw hS7 rfl in_3 tyX3_ok nmX3 ⟨by decide, by decide, rfl, rfl⟩ rfl kw_302 dX3_remember_23 (fun H locs hw => ?_)
  refine lv_aload_n C0.hx C0.hb dX3_remember_26 rfl (lv_at hl 0 rfl) ?_
  refine lv_bipush (v := (16 : Int32)) C0.hx C0.hb dX3_remember_27 (by decide) ?_
  refine lv_aload_n C0.hx C0.hb dX3_remember_29 rfl (lv_at hl 0 rfl) ?_
  obtain ⟨v8, hv8, h⟩ := Option.bind_eq_some_iff.mp h
  refine q_getI C0 hw hv8 rfl in_3 (by decide) kw_300 dX3_remember_30 ?_
  refine lv_iconst (v := (1 : Int32)) C0.hx C0.hb dX3_remember_33 (by decide) ?_
  refine lv_iadd C0.hx C0.hb dX3_remember_34 ?_
  refine va_mmin C0.hx C0.hb (C0.1.2.2.1.trans hl.1.symm) C0.ho (C0.w kw_581) (C0.w kw_582) (C0.w kw_75) (C0.w kw_583) (Nat.le_of_ble_eq_true rfl) (Nat.le_of_ble_eq_true rfl) (Nat.zero_le _) (Nat.zero_le _) dX3_remember_35 ?_
  obtain ⟨S9, hS9, h⟩ := Option.bind_eq_some_iff.mp h
  refine q_putI C0 hw hS9 rfl in_3 tyX3_ok nmX3 ⟨by decide, by decide, rfl, rfl⟩ rfl kw_300 dX3_remember_38 (fun H locs hw => ?_)
  obtain rfl := Option.some.inj h
  exact q_retv C0 hw hr hlocks dX3_remember_41
