abbrev rm_X9_isPetition : Room := { frames := 1, cells := 0, slots := 0, locals := 25 }
def f_X9_isPetition (a0 : Nat) (x1 : Int32) (S : Mem) : Option Int32 :=
    (gI 9 3 S a0).bind fun v1 =>
      (f_X9_in x1.toInt64 (0 : Int64) ((v1 - (1 : Int32)).toInt64)).bind fun v2 =>
      (zok v2).bind fun v3 =>
      some v3
set_option maxHeartbeats 4000000 in
set_option maxRecDepth 100000 in
theorem m_X9_isPetition (l : Launch) (b0 : Nat) (D : va_G) (cy : Nat → ClassId) (S : Mem) (a0 : Nat) (x1 : Int32) {q : Int32} (h : f_X9_isPetition a0 x1 S = some q) : Met l yX9_isPetition [.code yX9_isPetition cX9_isPetition 2 (some .boolean)] rm_X9_isPetition (Pr b0 D cy S [.ref (b0 + a0), .int x1]) (Qp b0 D cy (some (.int q)) S) 0 0 (fun q => b0 ≤ q) := by
  refine Met.ofW (cc := cX9_isPetition) (maxL := 2) (ret := some .boolean) (by decide) rfl ?_
  intro p e s m args below meth c s₁ B hml hv
  obtain ⟨rfl, hP, hK, hT⟩ := hv
  have C0 : Cx p m c cX9_isPetition 2 s (List.toArray [.ref (b0 + a0), .int x1]) RX9 D cy := ⟨⟨B.exec, B.bytes, hml, findClass_of_methodNamed B.named, fun w h => hT w h _⟩, hK, hT⟩
  have hr : meth.sig.returnType = some .boolean := B.returns
  have hlocks := B.notSynchronized
  have hw : Wd b0 D cy S s.heap s.heap [] := ⟨hP, va_S.rf⟩
  have hl := lv_entry ([.ref (b0 + a0), .int x1]) (n := 2) (Nat.le_of_ble_eq_true rfl)
  rw [lg_entry_eq]
  generalize (lg_sl ([.ref (b0 + a0), .int x1]) ++ List.replicate (2 - (lg_sl ([.ref (b0 + a0), .int x1])).length) Slot.unset).toArray = ls at hl ⊢
  have hl : lv_has ls 2 [(0, .ref (b0 + a0)), (1, .int x1)] := hl
  rw [f_X9_isPetition] at h
  show W p l e rm_X9_isPetition s m _ below meth c s.heap [] 0 0 _ _
  refine lv_iload_n C0.hx C0.hb dX9_isPetition_0 rfl (lv_at hl 1 rfl) ?_
  refine lv_i2l C0.hx C0.hb dX9_isPetition_1 rfl ?_
  refine lv_lconst (v := (0 : Int64)) C0.hx C0.hb dX9_isPetition_2 (by decide) ?_
  refine lv_aload_n C0.hx C0.hb dX9_isPetition_3 rfl (lv_at hl 0 rfl) ?_
  obtain ⟨v1, hv1, h⟩ := Option.bind_eq_some_iff.mp h
  refine q_getI C0 hw hv1 rfl in_9 (by decide) kw_865 dX9_isPetition_4 ?_
  refine lv_iconst (v := (1 : Int32)) C0.hx C0.hb dX9_isPetition_7 (by decide) ?_
  refine lv_isub C0.hx C0.hb dX9_isPetition_8 ?_
  refine lv_i2l C0.hx C0.hb dX9_isPetition_9 rfl ?_
  obtain ⟨v2, hv2, h⟩ := Option.bind_eq_some_iff.mp h
  refine q_callS (n := 3) (av := [.long x1.toInt64, .long (0 : Int64), .long ((v1 - (1 : Int32)).toInt64)]) (rest := []) (st1 := [.int v2]) C0 hw (m_X9_in l b0 D cy S x1.toInt64 (0 : Int64) ((v1 - (1 : Int32)).toInt64) hv2) (goodS kw_951 kw_952 kw_72 kw_953) ⟨rfl, rfl⟩ (by decide +kernel) ⟨(Nat.le_of_ble_eq_true rfl), (Nat.le_of_ble_eq_true rfl)⟩ rfl hl.1 rfl (Nat.le_of_ble_eq_true rfl) dX9_isPetition_10 ⟨Nat.zero_le _, Nat.zero_le _⟩ rfl (fun H locs hw => ?_)
  obtain ⟨v3, hv3, h⟩ := Option.bind_eq_some_iff.mp h
  obtain ⟨he, hz⟩ := zok_inv hv3
  subst he
  obtain rfl := Option.some.inj h
  exact q_retz C0 hw hz hr hlocks dX9_isPetition_13
abbrev rm_X9_isRule : Room := { frames := 1, cells := 0, slots := 0, locals := 25 }
def f_X9_isRule (x0 : Int32) : Option Int32 :=
    (f_X9_in x0.toInt64 (0 : Int64) (63 : Int64)).bind fun v1 =>
      (zok v1).bind fun v2 =>
      some v2
set_option maxHeartbeats 4000000 in
set_option maxRecDepth 100000 in
theorem m_X9_isRule (l : Launch) (b0 : Nat) (D : va_G) (cy : Nat → ClassId) (S : Mem) (x0 : Int32) {q : Int32} (h : f_X9_isRule x0 = some q) : Met l yX9_isRule [.code yX9_isRule cX9_isRule 1 (some .boolean)] rm_X9_isRule (Pr b0 D cy S [.int x0]) (Qp b0 D cy (some (.int q)) S) 0 0 (fun q => b0 ≤ q) := by
  refine Met.ofW (cc := cX9_isRule) (maxL := 1) (ret := some .boolean) (by decide) rfl ?_
  intro p e s m args below meth c s₁ B hml hv
  obtain ⟨rfl, hP, hK, hT⟩ := hv
  have C0 : Cx p m c cX9_isRule 1 s (List.toArray [.int x0]) RX9 D cy := ⟨⟨B.exec, B.bytes, hml, findClass_of_methodNamed B.named, fun w h => hT w h _⟩, hK, hT⟩
  have hr : meth.sig.returnType = some .boolean := B.returns
  have hlocks := B.notSynchronized
  have hw : Wd b0 D cy S s.heap s.heap [] := ⟨hP, va_S.rf⟩
  have hl := lv_entry ([.int x0]) (n := 1) (Nat.le_of_ble_eq_true rfl)
  rw [lg_entry_eq]
  generalize (lg_sl ([.int x0]) ++ List.replicate (1 - (lg_sl ([.int x0])).length) Slot.unset).toArray = ls at hl ⊢
  have hl : lv_has ls 1 [(0, .int x0)] := hl
  rw [f_X9_isRule] at h
  show W p l e rm_X9_isRule s m _ below meth c s.heap [] 0 0 _ _
  refine lv_iload_n C0.hx C0.hb dX9_isRule_0 rfl (lv_at hl 0 rfl) ?_
  refine lv_i2l C0.hx C0.hb dX9_isRule_1 rfl ?_
  refine lv_lconst (v := (0 : Int64)) C0.hx C0.hb dX9_isRule_2 (by decide) ?_
  refine lv_ldc2 C0.hx C0.hb C0.ho (C0.w kw_1155) dX9_isRule_3 ?_
  obtain ⟨v1, hv1, h⟩ := Option.bind_eq_some_iff.mp h
  refine q_callS (n := 3) (av := [.long x0.toInt64, .long (0 : Int64), .long (63 : Int64)]) (rest := []) (st1 := [.int v1]) C0 hw (m_X9_in l b0 D cy S x0.toInt64 (0 : Int64) (63 : Int64) hv1) (goodS kw_951 kw_952 kw_72 kw_953) ⟨rfl, rfl⟩ (by decide +kernel) ⟨(Nat.le_of_ble_eq_true rfl), (Nat.le_of_ble_eq_true rfl)⟩ rfl hl.1 rfl (Nat.le_of_ble_eq_true rfl) dX9_isRule_6 ⟨Nat.zero_le _, Nat.zero_le _⟩ rfl (fun H locs hw => ?_)
  obtain ⟨v2, hv2, h⟩ := Option.bind_eq_some_iff.mp h
  obtain ⟨he, hz⟩ := zok_inv hv2
  subst he
  obtain rfl := Option.some.inj h
  exact q_retz C0 hw hz hr hlocks dX9_isRule_9
abbrev rm_X9_doorBetween : Room := { frames := 0, cells := 0, slots := 0, locals := 0 }
def f_X9_doorBetween_b64 (S : Mem) (k5 : Nat → Int32 → Int32 → Int32 → Int32 → Option Int32) (a0 : Nat) (x1 : Int32) (x2 : Int32) (x4 : Int32) (t0 : Int32) : Option Int32 :=
    (some (x4 + (1 : Int32))).bind fun v6 =>
      k5 a0 x1 x2 t0 v6
def f_X9_doorBetween_b58 (S : Mem) (k5 : Nat → Int32 → Int32 → Int32 → Int32 → Option Int32) (a0 : Nat) (x1 : Int32) (x2 : Int32) (x4 : Int32) : Option Int32 :=
    f_X9_doorBetween_b64 S k5 a0 x1 x2 x4 x4
def f_X9_doorBetween_b63 (S : Mem) (k5 : Nat → Int32 → Int32 → Int32 → Int32 → Option Int32) (a0 : Nat) (x1 : Int32) (x2 : Int32) (x3 : Int32) (x4 : Int32) : Option Int32 :=
    f_X9_doorBetween_b64 S k5 a0 x1 x2 x4 x3
def f_X9_doorBetween_b36 (S : Mem) (k5 : Nat → Int32 → Int32 → Int32 → Int32 → Option Int32) (a0 : Nat) (x1 : Int32) (x2 : Int32) (x3 : Int32) (x4 : Int32) : Option Int32 :=
    (gR 9 4 S a0).bind fun r4 =>
      (ldI S r4 x4).bind fun v5 =>
      (if v5 = x2 then
      (gR 9 5 S a0).bind fun r7 =>
      (ldI S r7 x4).bind fun v8 =>
      (if v8 = x1 then
      f_X9_doorBetween_b58 S k5 a0 x1 x2 x4
      else
      f_X9_doorBetween_b63 S k5 a0 x1 x2 x3 x4)
      else
      f_X9_doorBetween_b63 S k5 a0 x1 x2 x3 x4)
def f_X9_doorBetween_b5 (S : Mem) : Nat → Nat → Int32 → Int32 → Int32 → Int32 → Option Int32
  | 0, _, _, _, _, _ => none
  | n + 1, a0, x1, x2, x3, x4 =>
    (gI 9 2 S a0).bind fun v1 =>
      (if v1 ≤ x4 then
      some x3
      else
      (gR 9 4 S a0).bind fun r2 =>
      (ldI S r2 x4).bind fun v3 =>
      (if v3 = x1 then
      (gR 9 5 S a0).bind fun r9 =>
      (ldI S r9 x4).bind fun v10 =>
      (if v10 = x2 then
      f_X9_doorBetween_b58 S (fun a0 x1 x2 x3 x4 => f_X9_doorBetween_b5 S  n a0 x1 x2 x3 x4) a0 x1 x2 x4
      else
      f_X9_doorBetween_b36 S (fun a0 x1 x2 x3 x4 => f_X9_doorBetween_b5 S  n a0 x1 x2 x3 x4) a0 x1 x2 x3 x4)
      else
      f_X9_doorBetween_b36 S (fun a0 x1 x2 x3 x4 => f_X9_doorBetween_b5 S  n a0 x1 x2 x3 x4) a0 x1 x2 x3 x4))
def f_X9_doorBetween (a0 : Nat) (x1 : Int32) (x2 : Int32) (S : Mem) : Option Int32 :=
    f_X9_doorBetween_b5 S FU a0 x1 x2 (-1 : Int32) (0 : Int32)
set_option maxHeartbeats 4000000 in
set_option maxRecDepth 100000 in
theorem w_X9_doorBetween_b64 {p : Program} {l : Launch} {e : Env} {s : State} {m : MethodId} {args : Array Value} {below : List Frame} {meth : Method} {c : Code} {b0 : Nat} {D : va_G} {cy : Nat → ClassId} {S : Mem} {q : Int32} (C0 : Cx p m c cX9_doorBetween 5 s args RX9 D cy) (hr : meth.sig.returnType = some .int) (hlocks : meth.locks = false) (k5 : Nat → Int32 → Int32 → Int32 → Int32 → Option Int32) (hk5 : ∀ (a0 : Nat) (x1 : Int32) (x2 : Int32) (x3 : Int32) (x4 : Int32) (H : Heap) (locs : List Loc) (ls : Array Slot), Wd b0 D cy S s.heap H locs → lv_has ls 5 [(0, .ref (b0 + a0)), (1, .int x1), (2, .int x2), (3, .int x3), (4, .int x4)] → k5 a0 x1 x2 x3 x4 = some q → W p l e rm_X9_doorBetween s m args below meth c H locs 0 0 (MQ below (Qp b0 D cy (some (.int q)) S) args s 0 0 (fun q => b0 ≤ q)) (F0 m 5 ls [])) : ∀ (a0 : Nat) (x1 : Int32) (x2 : Int32) (x4 : Int32) (t0 : Int32) (H : Heap) (locs : List Loc) (ls : Array Slot), Wd b0 D cy S s.heap H locs → lv_has ls 5 [(0, .ref (b0 + a0)), (1, .int x1), (2, .int x2), (4, .int x4)] → f_X9_doorBetween_b64 S k5 a0 x1 x2 x4 t0 = some q → W p l e rm_X9_doorBetween s m args below meth c H locs 0 0 (MQ below (Qp b0 D cy (some (.int q)) S) args s 0 0 (fun q => b0 ≤ q)) (F0 m 64 ls [.int t0]) := by
  intro a0 x1 x2 x4 t0 H locs ls hw hl h
  rw [f_X9_doorBetween_b64] at h
  refine lv_istore_n (lv' := [(3, .int t0), (0, .ref (b0 + a0)), (1, .int x1), (2, .int x2), (4, .int x4)]) C0.hx C0.hb dX9_doorBetween_64 rfl hl (by decide) rfl (fun ls hl => ?_)
  obtain ⟨v6, hv6, h⟩ := Option.bind_eq_some_iff.mp h
  refine lv_iinc (v := v6) (lv' := [(4, .int v6), (3, .int t0), (0, .ref (b0 + a0)), (1, .int x1), (2, .int x2)]) C0.hx C0.hb dX9_doorBetween_65 hl (k := 4) rfl (by rw [← Option.some.inj hv6]; rfl) (by decide) rfl (fun ls hl => ?_)
  refine lv_goto (tgt := 5) C0.hx C0.hb dX9_doorBetween_68 (by decide) ?_
  exact hk5 a0 x1 x2 t0 v6 _ _ _ hw (lv_sub hl [2, 3, 4, 1, 0] rfl) h
set_option maxHeartbeats 4000000 in
set_option maxRecDepth 100000 in
theorem w_X9_doorBetween_b58 {p : Program} {l : Launch} {e : Env} {s : State} {m : MethodId} {args : Array Value} {below : List Frame} {meth : Method} {c : Code} {b0 : Nat} {D : va_G} {cy : Nat → ClassId} {S : Mem} {q : Int32} (C0 : Cx p m c cX9_doorBetween 5 s args RX9 D cy) (hr : meth.sig.returnType = some .int) (hlocks : meth.locks = false) (k5 : Nat → Int32 → Int32 → Int32 → Int32 → Option Int32) (hk5 : ∀ (a0 : Nat) (x1 : Int32) (x2 : Int32) (x3 : Int32) (x4 : Int32) (H : Heap) (locs : List Loc) (ls : Array Slot), Wd b0 D cy S s.heap H locs → lv_has ls 5 [(0, .ref (b0 + a0)), (1, .int x1), (2, .int x2), (3, .int x3), (4, .int x4)] → k5 a0 x1 x2 x3 x4 = some q → W p l e rm_X9_doorBetween s m args below meth c H locs 0 0 (MQ below (Qp b0 D cy (some (.int q)) S) args s 0 0 (fun q => b0 ≤ q)) (F0 m 5 ls [])) : ∀ (a0 : Nat) (x1 : Int32) (x2 : Int32) (x4 : Int32) (H : Heap) (locs : List Loc) (ls : Array Slot), Wd b0 D cy S s.heap H locs → lv_has ls 5 [(0, .ref (b0 + a0)), (1, .int x1), (2, .int x2), (4, .int x4)] → f_X9_doorBetween_b58 S k5 a0 x1 x2 x4 = some q → W p l e rm_X9_doorBetween s m args below meth c H locs 0 0 (MQ below (Qp b0 D cy (some (.int q)) S) args s 0 0 (fun q => b0 ≤ q)) (F0 m 58 ls []) := by
  intro a0 x1 x2 x4 H locs ls hw hl h
  rw [f_X9_doorBetween_b58] at h
  refine lv_iload C0.hx C0.hb dX9_doorBetween_58 (lv_at hl 3 rfl) ?_
  refine lv_goto (tgt := 64) C0.hx C0.hb dX9_doorBetween_60 (by decide) ?_
  exact w_X9_doorBetween_b64 C0 hr hlocks k5 hk5 a0 x1 x2 x4 x4 _ _ _ hw (lv_sub hl [0, 1, 2, 3] rfl) h
set_option maxHeartbeats 4000000 in
set_option maxRecDepth 100000 in
theorem w_X9_doorBetween_b63 {p : Program} {l : Launch} {e : Env} {s : State} {m : MethodId} {args : Array Value} {below : List Frame} {meth : Method} {c : Code} {b0 : Nat} {D : va_G} {cy : Nat → ClassId} {S : Mem} {q : Int32} (C0 : Cx p m c cX9_doorBetween 5 s args RX9 D cy) (hr : meth.sig.returnType = some .int) (hlocks : meth.locks = false) (k5 : Nat → Int32 → Int32 → Int32 → Int32 → Option Int32) (hk5 : ∀ (a0 : Nat) (x1 : Int32) (x2 : Int32) (x3 : Int32) (x4 : Int32) (H : Heap) (locs : List Loc) (ls : Array Slot), Wd b0 D cy S s.heap H locs → lv_has ls 5 [(0, .ref (b0 + a0)), (1, .int x1), (2, .int x2), (3, .int x3), (4, .int x4)] → k5 a0 x1 x2 x3 x4 = some q → W p l e rm_X9_doorBetween s m args below meth c H locs 0 0 (MQ below (Qp b0 D cy (some (.int q)) S) args s 0 0 (fun q => b0 ≤ q)) (F0 m 5 ls [])) : ∀ (a0 : Nat) (x1 : Int32) (x2 : Int32) (x3 : Int32) (x4 : Int32) (H : Heap) (locs : List Loc) (ls : Array Slot), Wd b0 D cy S s.heap H locs → lv_has ls 5 [(0, .ref (b0 + a0)), (1, .int x1), (2, .int x2), (3, .int x3), (4, .int x4)] → f_X9_doorBetween_b63 S k5 a0 x1 x2 x3 x4 = some q → W p l e rm_X9_doorBetween s m args below meth c H locs 0 0 (MQ below (Qp b0 D cy (some (.int q)) S) args s 0 0 (fun q => b0 ≤ q)) (F0 m 63 ls []) := by
  intro a0 x1 x2 x3 x4 H locs ls hw hl h
  rw [f_X9_doorBetween_b63] at h
  refine lv_iload_n C0.hx C0.hb dX9_doorBetween_63 rfl (lv_at hl 3 rfl) ?_
  exact w_X9_doorBetween_b64 C0 hr hlocks k5 hk5 a0 x1 x2 x4 x3 _ _ _ hw (lv_sub hl [0, 1, 2, 4] rfl) h
set_option maxHeartbeats 4000000 in
set_option maxRecDepth 100000 in
theorem w_X9_doorBetween_b36 {p : Program} {l : Launch} {e : Env} {s : State} {m : MethodId} {args : Array Value} {below : List Frame} {meth : Method} {c : Code} {b0 : Nat} {D : va_G} {cy : Nat → ClassId} {S : Mem} {q : Int32} (C0 : Cx p m c cX9_doorBetween 5 s args RX9 D cy) (hr : meth.sig.returnType = some .int) (hlocks : meth.locks = false) (k5 : Nat → Int32 → Int32 → Int32 → Int32 → Option Int32) (hk5 : ∀ (a0 : Nat) (x1 : Int32) (x2 : Int32) (x3 : Int32) (x4 : Int32) (H : Heap) (locs : List Loc) (ls : Array Slot), Wd b0 D cy S s.heap H locs → lv_has ls 5 [(0, .ref (b0 + a0)), (1, .int x1), (2, .int x2), (3, .int x3), (4, .int x4)] → k5 a0 x1 x2 x3 x4 = some q → W p l e rm_X9_doorBetween s m args below meth c H locs 0 0 (MQ below (Qp b0 D cy (some (.int q)) S) args s 0 0 (fun q => b0 ≤ q)) (F0 m 5 ls [])) : ∀ (a0 : Nat) (x1 : Int32) (x2 : Int32) (x3 : Int32) (x4 : Int32) (H : Heap) (locs : List Loc) (ls : Array Slot), Wd b0 D cy S s.heap H locs → lv_has ls 5 [(0, .ref (b0 + a0)), (1, .int x1), (2, .int x2), (3, .int x3), (4, .int x4)] → f_X9_doorBetween_b36 S k5 a0 x1 x2 x3 x4 = some q → W p l e rm_X9_doorBetween s m args below meth c H locs 0 0 (MQ below (Qp b0 D cy (some (.int q)) S) args s 0 0 (fun q => b0 ≤ q)) (F0 m 36 ls []) := by
  intro a0 x1 x2 x3 x4 H locs ls hw hl h
  rw [f_X9_doorBetween_b36] at h
  refine lv_aload_n C0.hx C0.hb dX9_doorBetween_36 rfl (lv_at hl 0 rfl) ?_
  obtain ⟨r4, hr4, h⟩ := Option.bind_eq_some_iff.mp h
  refine q_getR C0 hw hr4 rfl in_9 (by decide) kw_866 dX9_doorBetween_37 ?_
  refine lv_iload C0.hx C0.hb dX9_doorBetween_40 (lv_at hl 4 rfl) ?_
  obtain ⟨v5, hv5, h⟩ := Option.bind_eq_some_iff.mp h
  refine q_ldI C0 hw hv5 dX9_doorBetween_42 ?_
  refine lv_iload_n C0.hx C0.hb dX9_doorBetween_43 rfl (lv_at hl 2 rfl) ?_
  refine lv_icmp_ne (tgt := 63) C0.hx C0.hb dX9_doorBetween_44 (by decide) (fun hc => ?_) (fun hc => ?_)
  · have h := (if_neg hc).symm.trans h
    exact w_X9_doorBetween_b63 C0 hr hlocks k5 hk5 a0 x1 x2 x3 x4 _ _ _ hw (lv_sub hl [0, 1, 2, 3, 4] rfl) h
  · have h := (if_pos hc).symm.trans h
    refine lv_aload_n C0.hx C0.hb dX9_doorBetween_47 rfl (lv_at hl 0 rfl) ?_
    obtain ⟨r7, hr7, h⟩ := Option.bind_eq_some_iff.mp h
    refine q_getR C0 hw hr7 rfl in_9 (by decide) kw_867 dX9_doorBetween_48 ?_
    refine lv_iload C0.hx C0.hb dX9_doorBetween_51 (lv_at hl 4 rfl) ?_
    obtain ⟨v8, hv8, h⟩ := Option.bind_eq_some_iff.mp h
    refine q_ldI C0 hw hv8 dX9_doorBetween_53 ?_
    refine lv_iload_n C0.hx C0.hb dX9_doorBetween_54 rfl (lv_at hl 1 rfl) ?_
    refine lv_icmp_ne (tgt := 63) C0.hx C0.hb dX9_doorBetween_55 (by decide) (fun hc => ?_) (fun hc => ?_)
    · have h := (if_neg hc).symm.trans h
      exact w_X9_doorBetween_b63 C0 hr hlocks k5 hk5 a0 x1 x2 x3 x4 _ _ _ hw (lv_sub hl [0, 1, 2, 3, 4] rfl) h
    · have h := (if_pos hc).symm.trans h
      exact w_X9_doorBetween_b58 C0 hr hlocks k5 hk5 a0 x1 x2 x4 _ _ _ hw (lv_sub hl [0, 1, 2, 4] rfl) h
set_option maxHeartbeats 4000000 in
set_option maxRecDepth 100000 in
theorem w_X9_doorBetween_b5 {p : Program} {l : Launch} {e : Env} {s : State} {m : MethodId} {args : Array Value} {below : List Frame} {meth : Method} {c : Code} {b0 : Nat} {D : va_G} {cy : Nat → ClassId} {S : Mem} {q : Int32} (C0 : Cx p m c cX9_doorBetween 5 s args RX9 D cy) (hr : meth.sig.returnType = some .int) (hlocks : meth.locks = false) : ∀ (n : Nat) (a0 : Nat) (x1 : Int32) (x2 : Int32) (x3 : Int32) (x4 : Int32) (H : Heap) (locs : List Loc) (ls : Array Slot), Wd b0 D cy S s.heap H locs → lv_has ls 5 [(0, .ref (b0 + a0)), (1, .int x1), (2, .int x2), (3, .int x3), (4, .int x4)] → f_X9_doorBetween_b5 S  n a0 x1 x2 x3 x4 = some q → W p l e rm_X9_doorBetween s m args below meth c H locs 0 0 (MQ below (Qp b0 D cy (some (.int q)) S) args s 0 0 (fun q => b0 ≤ q)) (F0 m 5 ls []) := by
  intro n
  induction n with
  | zero => intro a0 x1 x2 x3 x4 H locs ls hw hl h; exact absurd h (by simp [f_X9_doorBetween_b5])
  | succ n ih =>
    intro a0 x1 x2 x3 x4 H locs ls hw hl h
    rw [f_X9_doorBetween_b5] at h
    refine lv_iload C0.hx C0.hb dX9_doorBetween_5 (lv_at hl 4 rfl) ?_
    refine lv_aload_n C0.hx C0.hb dX9_doorBetween_7 rfl (lv_at hl 0 rfl) ?_
    obtain ⟨v1, hv1, h⟩ := Option.bind_eq_some_iff.mp h
    refine q_getI C0 hw hv1 rfl in_9 (by decide) kw_864 dX9_doorBetween_8 ?_
    refine lv_icmp_ge (tgt := 71) C0.hx C0.hb dX9_doorBetween_11 (by decide) (fun hc => ?_) (fun hc => ?_)
    · have h := (if_pos hc).symm.trans h
      refine lv_iload_n C0.hx C0.hb dX9_doorBetween_71 rfl (lv_at hl 3 rfl) ?_
      obtain rfl := Option.some.inj h
      exact q_reti C0 hw hr hlocks dX9_doorBetween_72
    · have h := (if_neg hc).symm.trans h
      refine lv_aload_n C0.hx C0.hb dX9_doorBetween_14 rfl (lv_at hl 0 rfl) ?_
      obtain ⟨r2, hr2, h⟩ := Option.bind_eq_some_iff.mp h
      refine q_getR C0 hw hr2 rfl in_9 (by decide) kw_866 dX9_doorBetween_15 ?_
      refine lv_iload C0.hx C0.hb dX9_doorBetween_18 (lv_at hl 4 rfl) ?_
      obtain ⟨v3, hv3, h⟩ := Option.bind_eq_some_iff.mp h
      refine q_ldI C0 hw hv3 dX9_doorBetween_20 ?_
      refine lv_iload_n C0.hx C0.hb dX9_doorBetween_21 rfl (lv_at hl 1 rfl) ?_
      refine lv_icmp_ne (tgt := 36) C0.hx C0.hb dX9_doorBetween_22 (by decide) (fun hc => ?_) (fun hc => ?_)
      · have h := (if_neg hc).symm.trans h
        exact w_X9_doorBetween_b36 C0 hr hlocks (fun a0 x1 x2 x3 x4 => f_X9_doorBetween_b5 S  n a0 x1 x2 x3 x4) ih a0 x1 x2 x3 x4 _ _ _ hw (lv_sub hl [0, 1, 2, 3, 4] rfl) h
      · have h := (if_pos hc).symm.trans h
        refine lv_aload_n C0.hx C0.hb dX9_doorBetween_25 rfl (lv_at hl 0 rfl) ?_
        obtain ⟨r9, hr9, h⟩ := Option.bind_eq_some_iff.mp h
        refine q_getR C0 hw hr9 rfl in_9 (by decide) kw_867 dX9_doorBetween_26 ?_
        refine lv_iload C0.hx C0.hb dX9_doorBetween_29 (lv_at hl 4 rfl) ?_
        obtain ⟨v10, hv10, h⟩ := Option.bind_eq_some_iff.mp h
        refine q_ldI C0 hw hv10 dX9_doorBetween_31 ?_
        refine lv_iload_n C0.hx C0.hb dX9_doorBetween_32 rfl (lv_at hl 2 rfl) ?_
        refine lv_icmp_eq (tgt := 58) C0.hx C0.hb dX9_doorBetween_33 (by decide) (fun hc => ?_) (fun hc => ?_)
        · have h := (if_pos hc).symm.trans h
          exact w_X9_doorBetween_b58 C0 hr hlocks (fun a0 x1 x2 x3 x4 => f_X9_doorBetween_b5 S  n a0 x1 x2 x3 x4) ih a0 x1 x2 x4 _ _ _ hw (lv_sub hl [0, 1, 2, 4] rfl) h
        · have h := (if_neg hc).symm.trans h
          exact w_X9_doorBetween_b36 C0 hr hlocks (fun a0 x1 x2 x3 x4 => f_X9_doorBetween_b5 S  n a0 x1 x2 x3 x4) ih a0 x1 x2 x3 x4 _ _ _ hw (lv_sub hl [0, 1, 2, 3, 4] rfl) h
set_option maxHeartbeats 4000000 in
set_option maxRecDepth 100000 in
theorem m_X9_doorBetween (l : Launch) (b0 : Nat) (D : va_G) (cy : Nat → ClassId) (S : Mem) (a0 : Nat) (x1 : Int32) (x2 : Int32) {q : Int32} (h : f_X9_doorBetween a0 x1 x2 S = some q) : Met l yX9_doorBetween [.code yX9_doorBetween cX9_doorBetween 5 (some .int)] rm_X9_doorBetween (Pr b0 D cy S [.ref (b0 + a0), .int x1, .int x2]) (Qp b0 D cy (some (.int q)) S) 0 0 (fun q => b0 ≤ q) := by
  refine Met.ofW (cc := cX9_doorBetween) (maxL := 5) (ret := some .int) (by decide) rfl ?_
  intro p e s m args below meth c s₁ B hml hv
  obtain ⟨rfl, hP, hK, hT⟩ := hv
  have C0 : Cx p m c cX9_doorBetween 5 s (List.toArray [.ref (b0 + a0), .int x1, .int x2]) RX9 D cy := ⟨⟨B.exec, B.bytes, hml, findClass_of_methodNamed B.named, fun w h => hT w h _⟩, hK, hT⟩
  have hr : meth.sig.returnType = some .int := B.returns
  have hlocks := B.notSynchronized
  have hw : Wd b0 D cy S s.heap s.heap [] := ⟨hP, va_S.rf⟩
  have hl := lv_entry ([.ref (b0 + a0), .int x1, .int x2]) (n := 5) (Nat.le_of_ble_eq_true rfl)
  rw [lg_entry_eq]
  generalize (lg_sl ([.ref (b0 + a0), .int x1, .int x2]) ++ List.replicate (5 - (lg_sl ([.ref (b0 + a0), .int x1, .int x2])).length) Slot.unset).toArray = ls at hl ⊢
  have hl : lv_has ls 5 [(0, .ref (b0 + a0)), (1, .int x1), (2, .int x2)] := hl
  rw [f_X9_doorBetween] at h
  show W p l e rm_X9_doorBetween s m _ below meth c s.heap [] 0 0 _ _
  refine lv_iconst (v := (-1 : Int32)) C0.hx C0.hb dX9_doorBetween_0 (by decide) ?_
  refine lv_istore_n (lv' := [(3, .int (-1 : Int32)), (0, .ref (b0 + a0)), (1, .int x1), (2, .int x2)]) C0.hx C0.hb dX9_doorBetween_1 rfl hl (by decide) rfl (fun ls hl => ?_)
  refine lv_iconst (v := (0 : Int32)) C0.hx C0.hb dX9_doorBetween_2 (by decide) ?_
  refine lv_istore (lv' := [(4, .int (0 : Int32)), (3, .int (-1 : Int32)), (0, .ref (b0 + a0)), (1, .int x1), (2, .int x2)]) C0.hx C0.hb dX9_doorBetween_3 hl (by decide) rfl (fun ls hl => ?_)
  exact w_X9_doorBetween_b5 C0 hr hlocks FU a0 x1 x2 (-1 : Int32) (0 : Int32) _ _ _ hw (lv_sub hl [2, 3, 4, 1, 0] rfl) h
abbrev rm_X9_pull : Room := { frames := 0, cells := 0, slots := 0, locals := 0 }
def f_X9_pull_b45 (x3 : Int32) (x7 : Int32) (t0 : Int32) (t1 : Int32) : Option Int32 :=
    some ((t1 + t0) + (x7 * x3))
def f_X9_pull_b32 (x2 : Int32) (x3 : Int32) (x6 : Int32) (x7 : Int32) (t0 : Int32) (t1 : Int32) : Option Int32 :=
    (if x2 = (0 : Int32) then
      f_X9_pull_b45 x3 x7 (x6 * (3 : Int32)) (t1 * t0)
      else
      f_X9_pull_b45 x3 x7 (0 : Int32) (t1 * t0))
def f_X9_pull (x0 : Int32) (x1 : Int32) (x2 : Int32) (x3 : Int32) (x4 : Int32) : Option Int32 :=
    (some (x0 / (16 : Int32))).bind fun v1 =>
      (some (irI (x0 / (4 : Int32)) (4 : Int32))).bind fun v2 =>
      (some (irI x0 (4 : Int32))).bind fun v3 =>
      (if x4 = (0 : Int32) then
      f_X9_pull_b32 x2 x3 v2 v3 (1 : Int32) (v1 * x1)
      else
      f_X9_pull_b32 x2 x3 v2 v3 (2 : Int32) (v1 * x1))
set_option maxHeartbeats 4000000 in
set_option maxRecDepth 100000 in
theorem w_X9_pull_b45 {p : Program} {l : Launch} {e : Env} {s : State} {m : MethodId} {args : Array Value} {below : List Frame} {meth : Method} {c : Code} {b0 : Nat} {D : va_G} {cy : Nat → ClassId} {S : Mem} {q : Int32} (C0 : Cx p m c cX9_pull 8 s args RX9 D cy) (hr : meth.sig.returnType = some .int) (hlocks : meth.locks = false) : ∀ (x3 : Int32) (x7 : Int32) (t0 : Int32) (t1 : Int32) (H : Heap) (locs : List Loc) (ls : Array Slot), Wd b0 D cy S s.heap H locs → lv_has ls 8 [(3, .int x3), (7, .int x7)] → f_X9_pull_b45  x3 x7 t0 t1 = some q → W p l e rm_X9_pull s m args below meth c H locs 0 0 (MQ below (Qp b0 D cy (some (.int q)) S) args s 0 0 (fun q => b0 ≤ q)) (F0 m 45 ls [.int t0, .int t1]) := by
  intro x3 x7 t0 t1 H locs ls hw hl h
  rw [f_X9_pull_b45] at h
  refine lv_iadd C0.hx C0.hb dX9_pull_45 ?_
  refine lv_iload C0.hx C0.hb dX9_pull_46 (lv_at hl 1 rfl) ?_
  refine lv_iload_n C0.hx C0.hb dX9_pull_48 rfl (lv_at hl 0 rfl) ?_
  refine lv_imul C0.hx C0.hb dX9_pull_49 ?_
  refine lv_iadd C0.hx C0.hb dX9_pull_50 ?_
  obtain rfl := Option.some.inj h
  exact q_reti C0 hw hr hlocks dX9_pull_51
set_option maxHeartbeats 4000000 in
set_option maxRecDepth 100000 in
theorem w_X9_pull_b32 {p : Program} {l : Launch} {e : Env} {s : State} {m : MethodId} {args : Array Value} {below : List Frame} {meth : Method} {c : Code} {b0 : Nat} {D : va_G} {cy : Nat → ClassId} {S : Mem} {q : Int32} (C0 : Cx p m c cX9_pull 8 s args RX9 D cy) (hr : meth.sig.returnType = some .int) (hlocks : meth.locks = false) : ∀ (x2 : Int32) (x3 : Int32) (x6 : Int32) (x7 : Int32) (t0 : Int32) (t1 : Int32) (H : Heap) (locs : List Loc) (ls : Array Slot), Wd b0 D cy S s.heap H locs → lv_has ls 8 [(2, .int x2), (3, .int x3), (6, .int x6), (7, .int x7)] → f_X9_pull_b32  x2 x3 x6 x7 t0 t1 = some q → W p l e rm_X9_pull s m args below meth c H locs 0 0 (MQ below (Qp b0 D cy (some (.int q)) S) args s 0 0 (fun q => b0 ≤ q)) (F0 m 32 ls [.int t0, .int t1]) := by
  intro x2 x3 x6 x7 t0 t1 H locs ls hw hl h
  rw [f_X9_pull_b32] at h
  refine lv_imul C0.hx C0.hb dX9_pull_32 ?_
  refine lv_iload_n C0.hx C0.hb dX9_pull_33 rfl (lv_at hl 0 rfl) ?_
  refine lv_if_eq (tgt := 41) C0.hx C0.hb dX9_pull_34 (by decide) (fun hc => ?_) (fun hc => ?_)
  · have h := (if_pos hc).symm.trans h
    refine lv_iload C0.hx C0.hb dX9_pull_41 (lv_at hl 2 rfl) ?_
    refine lv_iconst (v := (3 : Int32)) C0.hx C0.hb dX9_pull_43 (by decide) ?_
    refine lv_imul C0.hx C0.hb dX9_pull_44 ?_
    exact w_X9_pull_b45 C0 hr hlocks x3 x7 (x6 * (3 : Int32)) (t1 * t0) _ _ _ hw (lv_sub hl [1, 3] rfl) h
  · have h := (if_neg hc).symm.trans h
    refine lv_iconst (v := (0 : Int32)) C0.hx C0.hb dX9_pull_37 (by decide) ?_
    refine lv_goto (tgt := 45) C0.hx C0.hb dX9_pull_38 (by decide) ?_
    exact w_X9_pull_b45 C0 hr hlocks x3 x7 (0 : Int32) (t1 * t0) _ _ _ hw (lv_sub hl [1, 3] rfl) h
set_option maxHeartbeats 4000000 in
set_option maxRecDepth 100000 in
theorem m_X9_pull (l : Launch) (b0 : Nat) (D : va_G) (cy : Nat → ClassId) (S : Mem) (x0 : Int32) (x1 : Int32) (x2 : Int32) (x3 : Int32) (x4 : Int32) {q : Int32} (h : f_X9_pull x0 x1 x2 x3 x4 = some q) : Met l yX9_pull [.code yX9_pull cX9_pull 8 (some .int)] rm_X9_pull (Pr b0 D cy S [.int x0, .int x1, .int x2, .int x3, .int x4]) (Qp b0 D cy (some (.int q)) S) 0 0 (fun q => b0 ≤ q) := by
  refine Met.ofW (cc := cX9_pull) (maxL := 8) (ret := some .int) (by decide) rfl ?_
  intro p e s m args below meth c s₁ B hml hv
  obtain ⟨rfl, hP, hK, hT⟩ := hv
  have C0 : Cx p m c cX9_pull 8 s (List.toArray [.int x0, .int x1, .int x2, .int x3, .int x4]) RX9 D cy := ⟨⟨B.exec, B.bytes, hml, findClass_of_methodNamed B.named, fun w h => hT w h _⟩, hK, hT⟩
  have hr : meth.sig.returnType = some .int := B.returns
  have hlocks := B.notSynchronized
  have hw : Wd b0 D cy S s.heap s.heap [] := ⟨hP, va_S.rf⟩
  have hl := lv_entry ([.int x0, .int x1, .int x2, .int x3, .int x4]) (n := 8) (Nat.le_of_ble_eq_true rfl)
  rw [lg_entry_eq]
  generalize (lg_sl ([.int x0, .int x1, .int x2, .int x3, .int x4]) ++ List.replicate (8 - (lg_sl ([.int x0, .int x1, .int x2, .int x3, .int x4])).length) Slot.unset).toArray = ls at hl ⊢
  have hl : lv_has ls 8 [(0, .int x0), (1, .int x1), (2, .int x2), (3, .int x3), (4, .int x4)] := hl
  rw [f_X9_pull] at h
  show W p l e rm_X9_pull s m _ below meth c s.heap [] 0 0 _ _
  refine lv_iload_n C0.hx C0.hb dX9_pull_0 rfl (lv_at hl 0 rfl) ?_
  refine lv_bipush (v := (16 : Int32)) C0.hx C0.hb dX9_pull_1 (by decide) ?_
  refine lv_idiv C0.hx C0.hb dX9_pull_3 (by decide) ?_
  obtain ⟨v1, hv1, h⟩ := Option.bind_eq_some_iff.mp h
  refine q_nmI hv1 ?_
  refine lv_istore (lv' := [(5, .int v1), (0, .int x0), (1, .int x1), (2, .int x2), (3, .int x3), (4, .int x4)]) C0.hx C0.hb dX9_pull_4 hl (by decide) rfl (fun ls hl => ?_)
  refine lv_iload_n C0.hx C0.hb dX9_pull_6 rfl (lv_at hl 1 rfl) ?_
  refine lv_iconst (v := (4 : Int32)) C0.hx C0.hb dX9_pull_7 (by decide) ?_
  refine lv_idiv C0.hx C0.hb dX9_pull_8 (by decide) ?_
  refine lv_iconst (v := (4 : Int32)) C0.hx C0.hb dX9_pull_9 (by decide) ?_
  refine lv_irem C0.hx C0.hb dX9_pull_10 (by decide) ?_
  obtain ⟨v2, hv2, h⟩ := Option.bind_eq_some_iff.mp h
  refine q_nmI hv2 ?_
  refine lv_istore (lv' := [(6, .int v2), (5, .int v1), (0, .int x0), (1, .int x1), (2, .int x2), (3, .int x3), (4, .int x4)]) C0.hx C0.hb dX9_pull_11 hl (by decide) rfl (fun ls hl => ?_)
  refine lv_iload_n C0.hx C0.hb dX9_pull_13 rfl (lv_at hl 2 rfl) ?_
  refine lv_iconst (v := (4 : Int32)) C0.hx C0.hb dX9_pull_14 (by decide) ?_
  refine lv_irem C0.hx C0.hb dX9_pull_15 (by decide) ?_
  obtain ⟨v3, hv3, h⟩ := Option.bind_eq_some_iff.mp h
  refine q_nmI hv3 ?_
  refine lv_istore (lv' := [(7, .int v3), (6, .int v2), (5, .int v1), (0, .int x0), (1, .int x1), (2, .int x2), (3, .int x3), (4, .int x4)]) C0.hx C0.hb dX9_pull_16 hl (by decide) rfl (fun ls hl => ?_)
  refine lv_iload C0.hx C0.hb dX9_pull_18 (lv_at hl 2 rfl) ?_
  refine lv_iload_n C0.hx C0.hb dX9_pull_20 rfl (lv_at hl 4 rfl) ?_
  refine lv_imul C0.hx C0.hb dX9_pull_21 ?_
  refine lv_iload C0.hx C0.hb dX9_pull_22 (lv_at hl 7 rfl) ?_
  refine lv_if_eq (tgt := 31) C0.hx C0.hb dX9_pull_24 (by decide) (fun hc => ?_) (fun hc => ?_)
  · have h := (if_pos hc).symm.trans h
    refine lv_iconst (v := (1 : Int32)) C0.hx C0.hb dX9_pull_31 (by decide) ?_
    exact w_X9_pull_b32 C0 hr hlocks x2 x3 v2 v3 (1 : Int32) (v1 * x1) _ _ _ hw (lv_sub hl [5, 6, 1, 0] rfl) h
  · have h := (if_neg hc).symm.trans h
    refine lv_iconst (v := (2 : Int32)) C0.hx C0.hb dX9_pull_27 (by decide) ?_
    refine lv_goto (tgt := 32) C0.hx C0.hb dX9_pull_28 (by decide) ?_
    exact w_X9_pull_b32 C0 hr hlocks x2 x3 v2 v3 (2 : Int32) (v1 * x1) _ _ _ hw (lv_sub hl [5, 6, 1, 0] rfl) h
abbrev rm_X9_noises : Room := { frames := 0, cells := 0, slots := 0, locals := 0 }
def f_X9_noises_b4 (S : Mem) : Nat → Nat → Int64 → Int32 → Option Int64
  | 0, _, _, _ => none
  | n + 1, a0, y1, x3 =>
    (gI 9 1 S a0).bind fun v1 =>
      (if v1 ≤ x3 then
      some y1
      else
      (gR 9 7 S a0).bind fun r2 =>
      (ldJ S r2 ((10 : Int32) + x3)).bind fun u3 =>
      (some (y1 ||| (u3 <<< (((4 : Int32) * x3).toInt64 &&& 63)))).bind fun u4 =>
      (some (x3 + (1 : Int32))).bind fun v5 =>
      f_X9_noises_b4 S  n a0 u4 v5)
def f_X9_noises (a0 : Nat) (S : Mem) : Option Int64 :=
    f_X9_noises_b4 S FU a0 (0 : Int64) (0 : Int32)
set_option maxHeartbeats 4000000 in
set_option maxRecDepth 100000 in
theorem w_X9_noises_b4 {p : Program} {l : Launch} {e : Env} {s : State} {m : MethodId} {args : Array Value} {below : List Frame} {meth : Method} {c : Code} {b0 : Nat} {D : va_G} {cy : Nat → ClassId} {S : Mem} {q : Int64} (C0 : Cx p m c cX9_noises 4 s args RX9 D cy) (hr : meth.sig.returnType = some .long) (hlocks : meth.locks = false) : ∀ (n : Nat) (a0 : Nat) (y1 : Int64) (x3 : Int32) (H : Heap) (locs : List Loc) (ls : Array Slot), Wd b0 D cy S s.heap H locs → lv_has ls 4 [(0, .ref (b0 + a0)), (1, .long y1), (3, .int x3)] → f_X9_noises_b4 S  n a0 y1 x3 = some q → W p l e rm_X9_noises s m args below meth c H locs 0 0 (MQ below (Qp b0 D cy (some (.long q)) S) args s 0 0 (fun q => b0 ≤ q)) (F0 m 4 ls []) := by
  intro n
  induction n with
  | zero => intro a0 y1 x3 H locs ls hw hl h; exact absurd h (by simp [f_X9_noises_b4])
  | succ n ih =>
    intro a0 y1 x3 H locs ls hw hl h
    rw [f_X9_noises_b4] at h
    refine lv_iload_n C0.hx C0.hb dX9_noises_4 rfl (lv_at hl 2 rfl) ?_
    refine lv_aload_n C0.hx C0.hb dX9_noises_5 rfl (lv_at hl 0 rfl) ?_
    obtain ⟨v1, hv1, h⟩ := Option.bind_eq_some_iff.mp h
    refine q_getI C0 hw hv1 rfl in_9 (by decide) kw_863 dX9_noises_6 ?_
    refine lv_icmp_ge (tgt := 34) C0.hx C0.hb dX9_noises_9 (by decide) (fun hc => ?_) (fun hc => ?_)
    · have h := (if_pos hc).symm.trans h
      refine lv_lload_n C0.hx C0.hb dX9_noises_34 rfl (lv_at hl 1 rfl) ?_
      obtain rfl := Option.some.inj h
      exact q_retl C0 hw hr hlocks dX9_noises_35
    · have h := (if_neg hc).symm.trans h
      refine lv_lload_n C0.hx C0.hb dX9_noises_12 rfl (lv_at hl 1 rfl) ?_
      refine lv_aload_n C0.hx C0.hb dX9_noises_13 rfl (lv_at hl 0 rfl) ?_
      obtain ⟨r2, hr2, h⟩ := Option.bind_eq_some_iff.mp h
      refine q_getR C0 hw hr2 rfl in_9 (by decide) kw_869 dX9_noises_14 ?_
      refine lv_bipush (v := (10 : Int32)) C0.hx C0.hb dX9_noises_17 (by decide) ?_
      refine lv_iload_n C0.hx C0.hb dX9_noises_19 rfl (lv_at hl 2 rfl) ?_
      refine lv_iadd C0.hx C0.hb dX9_noises_20 ?_
      obtain ⟨u3, hu3, h⟩ := Option.bind_eq_some_iff.mp h
      refine q_ldJ C0 hw hu3 dX9_noises_21 ?_
      refine lv_iconst (v := (4 : Int32)) C0.hx C0.hb dX9_noises_22 (by decide) ?_
      refine lv_iload_n C0.hx C0.hb dX9_noises_23 rfl (lv_at hl 2 rfl) ?_
      refine lv_imul C0.hx C0.hb dX9_noises_24 ?_
      refine lv_lshl C0.hx C0.hb dX9_noises_25 rfl ?_
      refine lv_lor C0.hx C0.hb dX9_noises_26 ?_
      obtain ⟨u4, hu4, h⟩ := Option.bind_eq_some_iff.mp h
      refine q_nmJ hu4 ?_
      refine lv_lstore_n (lv' := [(1, .long u4), (0, .ref (b0 + a0)), (3, .int x3)]) C0.hx C0.hb dX9_noises_27 rfl hl (by decide) rfl (fun ls hl => ?_)
      obtain ⟨v5, hv5, h⟩ := Option.bind_eq_some_iff.mp h
      refine lv_iinc (v := v5) (lv' := [(3, .int v5), (1, .long u4), (0, .ref (b0 + a0))]) C0.hx C0.hb dX9_noises_28 hl (k := 2) rfl (by rw [← Option.some.inj hv5]; rfl) (by decide) rfl (fun ls hl => ?_)
      refine lv_goto (tgt := 4) C0.hx C0.hb dX9_noises_31 (by decide) ?_
      exact ih a0 u4 v5 _ _ _ hw (lv_sub hl [2, 1, 0] rfl) h
set_option maxHeartbeats 4000000 in
set_option maxRecDepth 100000 in
theorem m_X9_noises (l : Launch) (b0 : Nat) (D : va_G) (cy : Nat → ClassId) (S : Mem) (a0 : Nat) {q : Int64} (h : f_X9_noises a0 S = some q) : Met l yX9_noises [.code yX9_noises cX9_noises 4 (some .long)] rm_X9_noises (Pr b0 D cy S [.ref (b0 + a0)]) (Qp b0 D cy (some (.long q)) S) 0 0 (fun q => b0 ≤ q) := by
  refine Met.ofW (cc := cX9_noises) (maxL := 4) (ret := some .long) (by decide) rfl ?_
  intro p e s m args below meth c s₁ B hml hv
  obtain ⟨rfl, hP, hK, hT⟩ := hv
  have C0 : Cx p m c cX9_noises 4 s (List.toArray [.ref (b0 + a0)]) RX9 D cy := ⟨⟨B.exec, B.bytes, hml, findClass_of_methodNamed B.named, fun w h => hT w h _⟩, hK, hT⟩
  have hr : meth.sig.returnType = some .long := B.returns
  have hlocks := B.notSynchronized
  have hw : Wd b0 D cy S s.heap s.heap [] := ⟨hP, va_S.rf⟩
  have hl := lv_entry ([.ref (b0 + a0)]) (n := 4) (Nat.le_of_ble_eq_true rfl)
  rw [lg_entry_eq]
  generalize (lg_sl ([.ref (b0 + a0)]) ++ List.replicate (4 - (lg_sl ([.ref (b0 + a0)])).length) Slot.unset).toArray = ls at hl ⊢
  have hl : lv_has ls 4 [(0, .ref (b0 + a0))] := hl
  rw [f_X9_noises] at h
  show W p l e rm_X9_noises s m _ below meth c s.heap [] 0 0 _ _
  refine lv_lconst (v := (0 : Int64)) C0.hx C0.hb dX9_noises_0 (by decide) ?_
  refine lv_lstore_n (lv' := [(1, .long (0 : Int64)), (0, .ref (b0 + a0))]) C0.hx C0.hb dX9_noises_1 rfl hl (by decide) rfl (fun ls hl => ?_)
  refine lv_iconst (v := (0 : Int32)) C0.hx C0.hb dX9_noises_2 (by decide) ?_
  refine lv_istore_n (lv' := [(3, .int (0 : Int32)), (1, .long (0 : Int64)), (0, .ref (b0 + a0))]) C0.hx C0.hb dX9_noises_3 rfl hl (by decide) rfl (fun ls hl => ?_)
  exact w_X9_noises_b4 C0 hr hlocks FU a0 (0 : Int64) (0 : Int32) _ _ _ hw (lv_sub hl [2, 1, 0] rfl) h
abbrev rm_X9_counts : Room := { frames := 0, cells := 0, slots := 0, locals := 0 }
def f_X9_counts_b44 (S : Mem) (k4 : Nat → Int64 → Int32 → Option Int64) (a0 : Nat) (x3 : Int32) (t0 : Int64) (t1 : Int64) : Option Int64 :=
    (some (t1 ||| (t0 <<< (((4 : Int32) * x3).toInt64 &&& 63)))).bind fun u6 =>
      (some (x3 + (1 : Int32))).bind fun v7 =>
      k4 a0 u6 v7
def f_X9_counts_b4 (S : Mem) : Nat → Nat → Int64 → Int32 → Option Int64
  | 0, _, _, _ => none
  | n + 1, a0, y1, x3 =>
    (gI 9 1 S a0).bind fun v1 =>
      (if v1 ≤ x3 then
      some y1
      else
      (gR 9 7 S a0).bind fun r2 =>
      (ldJ S r2 ((18 : Int32) + x3)).bind fun u3 =>
      (if (lg_cmp u3 (9 : Int64)) ≤ (0 : Int32) then
      (gR 9 7 S a0).bind fun r4 =>
      (ldJ S r4 ((18 : Int32) + x3)).bind fun u5 =>
      f_X9_counts_b44 S (fun a0 y1 x3 => f_X9_counts_b4 S  n a0 y1 x3) a0 x3 u5 y1
      else
      f_X9_counts_b44 S (fun a0 y1 x3 => f_X9_counts_b4 S  n a0 y1 x3) a0 x3 (9 : Int64) y1))
def f_X9_counts (a0 : Nat) (S : Mem) : Option Int64 :=
    f_X9_counts_b4 S FU a0 (0 : Int64) (0 : Int32)
set_option maxHeartbeats 4000000 in
set_option maxRecDepth 100000 in
theorem w_X9_counts_b44 {p : Program} {l : Launch} {e : Env} {s : State} {m : MethodId} {args : Array Value} {below : List Frame} {meth : Method} {c : Code} {b0 : Nat} {D : va_G} {cy : Nat → ClassId} {S : Mem} {q : Int64} (C0 : Cx p m c cX9_counts 4 s args RX9 D cy) (hr : meth.sig.returnType = some .long) (hlocks : meth.locks = false) (k4 : Nat → Int64 → Int32 → Option Int64) (hk4 : ∀ (a0 : Nat) (y1 : Int64) (x3 : Int32) (H : Heap) (locs : List Loc) (ls : Array Slot), Wd b0 D cy S s.heap H locs → lv_has ls 4 [(0, .ref (b0 + a0)), (1, .long y1), (3, .int x3)] → k4 a0 y1 x3 = some q → W p l e rm_X9_counts s m args below meth c H locs 0 0 (MQ below (Qp b0 D cy (some (.long q)) S) args s 0 0 (fun q => b0 ≤ q)) (F0 m 4 ls [])) : ∀ (a0 : Nat) (x3 : Int32) (t0 : Int64) (t1 : Int64) (H : Heap) (locs : List Loc) (ls : Array Slot), Wd b0 D cy S s.heap H locs → lv_has ls 4 [(0, .ref (b0 + a0)), (3, .int x3)] → f_X9_counts_b44 S k4 a0 x3 t0 t1 = some q → W p l e rm_X9_counts s m args below meth c H locs 0 0 (MQ below (Qp b0 D cy (some (.long q)) S) args s 0 0 (fun q => b0 ≤ q)) (F0 m 44 ls [.long t0, .long t1]) := by
  intro a0 x3 t0 t1 H locs ls hw hl h
  rw [f_X9_counts_b44] at h
  refine lv_iconst (v := (4 : Int32)) C0.hx C0.hb dX9_counts_44 (by decide) ?_
  refine lv_iload_n C0.hx C0.hb dX9_counts_45 rfl (lv_at hl 1 rfl) ?_
  refine lv_imul C0.hx C0.hb dX9_counts_46 ?_
  refine lv_lshl C0.hx C0.hb dX9_counts_47 rfl ?_
  refine lv_lor C0.hx C0.hb dX9_counts_48 ?_
  obtain ⟨u6, hu6, h⟩ := Option.bind_eq_some_iff.mp h
  refine q_nmJ hu6 ?_
  refine lv_lstore_n (lv' := [(1, .long u6), (0, .ref (b0 + a0)), (3, .int x3)]) C0.hx C0.hb dX9_counts_49 rfl hl (by decide) rfl (fun ls hl => ?_)
  obtain ⟨v7, hv7, h⟩ := Option.bind_eq_some_iff.mp h
  refine lv_iinc (v := v7) (lv' := [(3, .int v7), (1, .long u6), (0, .ref (b0 + a0))]) C0.hx C0.hb dX9_counts_50 hl (k := 2) rfl (by rw [← Option.some.inj hv7]; rfl) (by decide) rfl (fun ls hl => ?_)
  refine lv_goto (tgt := 4) C0.hx C0.hb dX9_counts_53 (by decide) ?_
  exact hk4 a0 u6 v7 _ _ _ hw (lv_sub hl [2, 1, 0] rfl) h
set_option maxHeartbeats 4000000 in
set_option maxRecDepth 100000 in
theorem w_X9_counts_b4 {p : Program} {l : Launch} {e : Env} {s : State} {m : MethodId} {args : Array Value} {below : List Frame} {meth : Method} {c : Code} {b0 : Nat} {D : va_G} {cy : Nat → ClassId} {S : Mem} {q : Int64} (C0 : Cx p m c cX9_counts 4 s args RX9 D cy) (hr : meth.sig.returnType = some .long) (hlocks : meth.locks = false) : ∀ (n : Nat) (a0 : Nat) (y1 : Int64) (x3 : Int32) (H : Heap) (locs : List Loc) (ls : Array Slot), Wd b0 D cy S s.heap H locs → lv_has ls 4 [(0, .ref (b0 + a0)), (1, .long y1), (3, .int x3)] → f_X9_counts_b4 S  n a0 y1 x3 = some q → W p l e rm_X9_counts s m args below meth c H locs 0 0 (MQ below (Qp b0 D cy (some (.long q)) S) args s 0 0 (fun q => b0 ≤ q)) (F0 m 4 ls []) := by
  intro n
  induction n with
  | zero => intro a0 y1 x3 H locs ls hw hl h; exact absurd h (by simp [f_X9_counts_b4])
  | succ n ih =>
    intro a0 y1 x3 H locs ls hw hl h
    rw [f_X9_counts_b4] at h
    refine lv_iload_n C0.hx C0.hb dX9_counts_4 rfl (lv_at hl 2 rfl) ?_
    refine lv_aload_n C0.hx C0.hb dX9_counts_5 rfl (lv_at hl 0 rfl) ?_
    obtain ⟨v1, hv1, h⟩ := Option.bind_eq_some_iff.mp h
    refine q_getI C0 hw hv1 rfl in_9 (by decide) kw_863 dX9_counts_6 ?_
    refine lv_icmp_ge (tgt := 56) C0.hx C0.hb dX9_counts_9 (by decide) (fun hc => ?_) (fun hc => ?_)
    · have h := (if_pos hc).symm.trans h
      refine lv_lload_n C0.hx C0.hb dX9_counts_56 rfl (lv_at hl 1 rfl) ?_
      obtain rfl := Option.some.inj h
      exact q_retl C0 hw hr hlocks dX9_counts_57
    · have h := (if_neg hc).symm.trans h
      refine lv_lload_n C0.hx C0.hb dX9_counts_12 rfl (lv_at hl 1 rfl) ?_
      refine lv_aload_n C0.hx C0.hb dX9_counts_13 rfl (lv_at hl 0 rfl) ?_
      obtain ⟨r2, hr2, h⟩ := Option.bind_eq_some_iff.mp h
      refine q_getR C0 hw hr2 rfl in_9 (by decide) kw_869 dX9_counts_14 ?_
      refine lv_bipush (v := (18 : Int32)) C0.hx C0.hb dX9_counts_17 (by decide) ?_
      refine lv_iload_n C0.hx C0.hb dX9_counts_19 rfl (lv_at hl 2 rfl) ?_
      refine lv_iadd C0.hx C0.hb dX9_counts_20 ?_
      obtain ⟨u3, hu3, h⟩ := Option.bind_eq_some_iff.mp h
      refine q_ldJ C0 hw hu3 dX9_counts_21 ?_
      refine lv_ldc2 C0.hx C0.hb C0.ho (C0.w kw_1033) dX9_counts_22 ?_
      refine W.lcmp C0.hx C0.hb dX9_counts_25 ?_
      refine lv_if_le (tgt := 35) C0.hx C0.hb dX9_counts_26 (by decide) (fun hc => ?_) (fun hc => ?_)
      · have h := (if_pos hc).symm.trans h
        refine lv_aload_n C0.hx C0.hb dX9_counts_35 rfl (lv_at hl 0 rfl) ?_
        obtain ⟨r4, hr4, h⟩ := Option.bind_eq_some_iff.mp h
        refine q_getR C0 hw hr4 rfl in_9 (by decide) kw_869 dX9_counts_36 ?_
        refine lv_bipush (v := (18 : Int32)) C0.hx C0.hb dX9_counts_39 (by decide) ?_
        refine lv_iload_n C0.hx C0.hb dX9_counts_41 rfl (lv_at hl 2 rfl) ?_
        refine lv_iadd C0.hx C0.hb dX9_counts_42 ?_
        obtain ⟨u5, hu5, h⟩ := Option.bind_eq_some_iff.mp h
        refine q_ldJ C0 hw hu5 dX9_counts_43 ?_
        exact w_X9_counts_b44 C0 hr hlocks (fun a0 y1 x3 => f_X9_counts_b4 S  n a0 y1 x3) ih a0 x3 u5 y1 _ _ _ hw (lv_sub hl [0, 2] rfl) h
      · have h := (if_neg hc).symm.trans h
        refine lv_ldc2 C0.hx C0.hb C0.ho (C0.w kw_1033) dX9_counts_29 ?_
        refine lv_goto (tgt := 44) C0.hx C0.hb dX9_counts_32 (by decide) ?_
        exact w_X9_counts_b44 C0 hr hlocks (fun a0 y1 x3 => f_X9_counts_b4 S  n a0 y1 x3) ih a0 x3 (9 : Int64) y1 _ _ _ hw (lv_sub hl [0, 2] rfl) h
set_option maxHeartbeats 4000000 in
set_option maxRecDepth 100000 in
theorem m_X9_counts (l : Launch) (b0 : Nat) (D : va_G) (cy : Nat → ClassId) (S : Mem) (a0 : Nat) {q : Int64} (h : f_X9_counts a0 S = some q) : Met l yX9_counts [.code yX9_counts cX9_counts 4 (some .long)] rm_X9_counts (Pr b0 D cy S [.ref (b0 + a0)]) (Qp b0 D cy (some (.long q)) S) 0 0 (fun q => b0 ≤ q) := by
  refine Met.ofW (cc := cX9_counts) (maxL := 4) (ret := some .long) (by decide) rfl ?_
  intro p e s m args below meth c s₁ B hml hv
  obtain ⟨rfl, hP, hK, hT⟩ := hv
  have C0 : Cx p m c cX9_counts 4 s (List.toArray [.ref (b0 + a0)]) RX9 D cy := ⟨⟨B.exec, B.bytes, hml, findClass_of_methodNamed B.named, fun w h => hT w h _⟩, hK, hT⟩
  have hr : meth.sig.returnType = some .long := B.returns
  have hlocks := B.notSynchronized
  have hw : Wd b0 D cy S s.heap s.heap [] := ⟨hP, va_S.rf⟩
  have hl := lv_entry ([.ref (b0 + a0)]) (n := 4) (Nat.le_of_ble_eq_true rfl)
  rw [lg_entry_eq]
  generalize (lg_sl ([.ref (b0 + a0)]) ++ List.replicate (4 - (lg_sl ([.ref (b0 + a0)])).length) Slot.unset).toArray = ls at hl ⊢
  have hl : lv_has ls 4 [(0, .ref (b0 + a0))] := hl
  rw [f_X9_counts] at h
  show W p l e rm_X9_counts s m _ below meth c s.heap [] 0 0 _ _
  refine lv_lconst (v := (0 : Int64)) C0.hx C0.hb dX9_counts_0 (by decide) ?_
  refine lv_lstore_n (lv' := [(1, .long (0 : Int64)), (0, .ref (b0 + a0))]) C0.hx C0.hb dX9_counts_1 rfl hl (by decide) rfl (fun ls hl => ?_)
  refine lv_iconst (v := (0 : Int32)) C0.hx C0.hb dX9_counts_2 (by decide) ?_
  refine lv_istore_n (lv' := [(3, .int (0 : Int32)), (1, .long (0 : Int64)), (0, .ref (b0 + a0))]) C0.hx C0.hb dX9_counts_3 rfl hl (by decide) rfl (fun ls hl => ?_)
  exact w_X9_counts_b4 C0 hr hlocks FU a0 (0 : Int64) (0 : Int32) _ _ _ hw (lv_sub hl [2, 1, 0] rfl) h
abbrev rm_X9_has : Room := { frames := 0, cells := 0, slots := 0, locals := 0 }
def f_X9_has (y0 : Int64) (x2 : Int32) : Option Int32 :=
    (if (lg_cmp ((y0 >>> (x2.toInt64 &&& 63)) &&& (1 : Int64)) (1 : Int64)) = (0 : Int32) then
      some (1 : Int32)
      else
      some (0 : Int32))
set_option maxHeartbeats 4000000 in
set_option maxRecDepth 100000 in
theorem m_X9_has (l : Launch) (b0 : Nat) (D : va_G) (cy : Nat → ClassId) (S : Mem) (y0 : Int64) (x2 : Int32) {q : Int32} (h : f_X9_has y0 x2 = some q) : Met l yX9_has [.code yX9_has cX9_has 3 (some .boolean)] rm_X9_has (Pr b0 D cy S [.long y0, .int x2]) (Qp b0 D cy (some (.int q)) S) 0 0 (fun q => b0 ≤ q) := by
  refine Met.ofW (cc := cX9_has) (maxL := 3) (ret := some .boolean) (by decide) rfl ?_
  intro p e s m args below meth c s₁ B hml hv
  obtain ⟨rfl, hP, hK, hT⟩ := hv
  have C0 : Cx p m c cX9_has 3 s (List.toArray [.long y0, .int x2]) RX9 D cy := ⟨⟨B.exec, B.bytes, hml, findClass_of_methodNamed B.named, fun w h => hT w h _⟩, hK, hT⟩
  have hr : meth.sig.returnType = some .boolean := B.returns
  have hlocks := B.notSynchronized
  have hw : Wd b0 D cy S s.heap s.heap [] := ⟨hP, va_S.rf⟩
  have hl := lv_entry ([.long y0, .int x2]) (n := 3) (Nat.le_of_ble_eq_true rfl)
  rw [lg_entry_eq]
  generalize (lg_sl ([.long y0, .int x2]) ++ List.replicate (3 - (lg_sl ([.long y0, .int x2])).length) Slot.unset).toArray = ls at hl ⊢
  have hl : lv_has ls 3 [(0, .long y0), (2, .int x2)] := hl
  rw [f_X9_has] at h
  show W p l e rm_X9_has s m _ below meth c s.heap [] 0 0 _ _
  refine lv_lload_n C0.hx C0.hb dX9_has_0 rfl (lv_at hl 0 rfl) ?_
  refine lv_iload_n C0.hx C0.hb dX9_has_1 rfl (lv_at hl 1 rfl) ?_
  refine lv_lshr C0.hx C0.hb dX9_has_2 rfl ?_
  refine lv_lconst (v := (1 : Int64)) C0.hx C0.hb dX9_has_3 (by decide) ?_
  refine lv_land C0.hx C0.hb dX9_has_4 ?_
  refine lv_lconst (v := (1 : Int64)) C0.hx C0.hb dX9_has_5 (by decide) ?_
  refine W.lcmp C0.hx C0.hb dX9_has_6 ?_
  refine lv_if_ne (tgt := 14) C0.hx C0.hb dX9_has_7 (by decide) (fun hc => ?_) (fun hc => ?_)
  · have h := (if_neg hc).symm.trans h
    refine lv_iconst (v := (0 : Int32)) C0.hx C0.hb dX9_has_14 (by decide) ?_
    obtain rfl := Option.some.inj h
    exact q_retz C0 hw (Or.inl rfl) hr hlocks dX9_has_15
  · have h := (if_pos hc).symm.trans h
    refine lv_iconst (v := (1 : Int32)) C0.hx C0.hb dX9_has_10 (by decide) ?_
    refine lv_goto (tgt := 15) C0.hx C0.hb dX9_has_11 (by decide) ?_
    obtain rfl := Option.some.inj h
    exact q_retz C0 hw (Or.inr rfl) hr hlocks dX9_has_15
abbrev rm_X9_goesTo : Room := { frames := 1, cells := 0, slots := 0, locals := 27 }
def f_X9_goesTo_b135 (S : Mem) (k9 : Nat → Int32 → Int32 → Int64 → Int64 → Int64 → Int64 → Int64 → Int32 → Int32 → Int32 → Int32 → Option Int32) (a0 : Nat) (x1 : Int32) (x2 : Int32) (y3 : Int64) (y5 : Int64) (y7 : Int64) (y9 : Int64) (y11 : Int64) (x13 : Int32) (x14 : Int32) (x15 : Int32) (x16 : Int32) : Option Int32 :=
    (some (x16 + (1 : Int32))).bind fun v4 =>
      k9 a0 x1 x2 y3 y5 y7 y9 y11 x13 x14 x15 v4
def f_X9_goesTo_b133 (S : Mem) (k9 : Nat → Int32 → Int32 → Int64 → Int64 → Int64 → Int64 → Int64 → Int32 → Int32 → Int32 → Int32 → Option Int32) (a0 : Nat) (x1 : Int32) (x2 : Int32) (y3 : Int64) (y5 : Int64) (y7 : Int64) (y9 : Int64) (y11 : Int64) (x13 : Int32) (x14 : Int32) (x16 : Int32) (t0 : Int32) : Option Int32 :=
    f_X9_goesTo_b135 S k9 a0 x1 x2 y3 y5 y7 y9 y11 x13 x14 t0 x16
def f_X9_goesTo_b126 (S : Mem) (k9 : Nat → Int32 → Int32 → Int64 → Int64 → Int64 → Int64 → Int64 → Int32 → Int32 → Int32 → Int32 → Option Int32) (a0 : Nat) (x1 : Int32) (x2 : Int32) (y3 : Int64) (y5 : Int64) (y7 : Int64) (y9 : Int64) (y11 : Int64) (x13 : Int32) (x14 : Int32) (x16 : Int32) (x18 : Int32) : Option Int32 :=
    f_X9_goesTo_b133 S k9 a0 x1 x2 y3 y5 y7 y9 y11 x13 x14 x16 x18
def f_X9_goesTo_b111 (S : Mem) (k9 : Nat → Int32 → Int32 → Int64 → Int64 → Int64 → Int64 → Int64 → Int32 → Int32 → Int32 → Int32 → Option Int32) (a0 : Nat) (x1 : Int32) (x2 : Int32) (y3 : Int64) (y5 : Int64) (y7 : Int64) (y9 : Int64) (y11 : Int64) (x13 : Int32) (x15 : Int32) (x16 : Int32) (x18 : Int32) (t0 : Int32) : Option Int32 :=
    (if x15 = (-1 : Int32) then
      f_X9_goesTo_b126 S k9 a0 x1 x2 y3 y5 y7 y9 y11 x13 t0 x16 x18
      else
      (if x15 ≤ x18 then
      f_X9_goesTo_b133 S k9 a0 x1 x2 y3 y5 y7 y9 y11 x13 t0 x16 x15
      else
      f_X9_goesTo_b126 S k9 a0 x1 x2 y3 y5 y7 y9 y11 x13 t0 x16 x18))
def f_X9_goesTo_b104 (S : Mem) (k9 : Nat → Int32 → Int32 → Int64 → Int64 → Int64 → Int64 → Int64 → Int32 → Int32 → Int32 → Int32 → Option Int32) (a0 : Nat) (x1 : Int32) (x2 : Int32) (y3 : Int64) (y5 : Int64) (y7 : Int64) (y9 : Int64) (y11 : Int64) (x13 : Int32) (x15 : Int32) (x16 : Int32) (x18 : Int32) : Option Int32 :=
    f_X9_goesTo_b111 S k9 a0 x1 x2 y3 y5 y7 y9 y11 x13 x15 x16 x18 x16
def f_X9_goesTo_b9 (S : Mem) : Nat → Nat → Int32 → Int32 → Int64 → Int64 → Int64 → Int64 → Int64 → Int32 → Int32 → Int32 → Int32 → Option Int32
  | 0, _, _, _, _, _, _, _, _, _, _, _, _ => none
  | n + 1, a0, x1, x2, y3, y5, y7, y9, y11, x13, x14, x15, x16 =>
    (gI 9 1 S a0).bind fun v1 =>
      (if v1 ≤ x16 then
      some x14
      else
      (ck 9 S a0).bind fun c2 =>
      (f_X9_doorBetween a0 x2 x16 S).bind fun v3 =>
      (if v3 = (-1 : Int32) then
      f_X9_goesTo_b135 S (fun a0 x1 x2 y3 y5 y7 y9 y11 x13 x14 x15 x16 => f_X9_goesTo_b9 S  n a0 x1 x2 y3 y5 y7 y9 y11 x13 x14 x15 x16) a0 x1 x2 y3 y5 y7 y9 y11 x13 x14 x15 x16
      else
      (f_X9_has y7 v3).bind fun v5 =>
      (if v5 = (0 : Int32) then
      (f_X9_has y5 x16).bind fun v6 =>
      (if v6 = (0 : Int32) then
      (f_X9_has y3 x16).bind fun v7 =>
      (f_X9_pull x1 (((y9 >>> (((4 : Int32) * x16).toInt64 &&& 63)) &&& (15 : Int64)).toInt32) v7 (((y11 >>> (((4 : Int32) * x16).toInt64 &&& 63)) &&& (15 : Int64)).toInt32) x13).bind fun v8 =>
      (if x15 = (-1 : Int32) then
      f_X9_goesTo_b104 S (fun a0 x1 x2 y3 y5 y7 y9 y11 x13 x14 x15 x16 => f_X9_goesTo_b9 S  n a0 x1 x2 y3 y5 y7 y9 y11 x13 x14 x15 x16) a0 x1 x2 y3 y5 y7 y9 y11 x13 x15 x16 v8
      else
      (if x15 ≤ v8 then
      f_X9_goesTo_b111 S (fun a0 x1 x2 y3 y5 y7 y9 y11 x13 x14 x15 x16 => f_X9_goesTo_b9 S  n a0 x1 x2 y3 y5 y7 y9 y11 x13 x14 x15 x16) a0 x1 x2 y3 y5 y7 y9 y11 x13 x15 x16 v8 x14
      else
      f_X9_goesTo_b104 S (fun a0 x1 x2 y3 y5 y7 y9 y11 x13 x14 x15 x16 => f_X9_goesTo_b9 S  n a0 x1 x2 y3 y5 y7 y9 y11 x13 x14 x15 x16) a0 x1 x2 y3 y5 y7 y9 y11 x13 x15 x16 v8))
      else
      f_X9_goesTo_b135 S (fun a0 x1 x2 y3 y5 y7 y9 y11 x13 x14 x15 x16 => f_X9_goesTo_b9 S  n a0 x1 x2 y3 y5 y7 y9 y11 x13 x14 x15 x16) a0 x1 x2 y3 y5 y7 y9 y11 x13 x14 x15 x16)
      else
      f_X9_goesTo_b135 S (fun a0 x1 x2 y3 y5 y7 y9 y11 x13 x14 x15 x16 => f_X9_goesTo_b9 S  n a0 x1 x2 y3 y5 y7 y9 y11 x13 x14 x15 x16) a0 x1 x2 y3 y5 y7 y9 y11 x13 x14 x15 x16)))
def f_X9_goesTo (a0 : Nat) (x1 : Int32) (x2 : Int32) (y3 : Int64) (y5 : Int64) (y7 : Int64) (y9 : Int64) (y11 : Int64) (x13 : Int32) (S : Mem) : Option Int32 :=
    f_X9_goesTo_b9 S FU a0 x1 x2 y3 y5 y7 y9 y11 x13 x2 (-1 : Int32) (0 : Int32)
set_option maxHeartbeats 4000000 in
set_option maxRecDepth 100000 in
theorem w_X9_goesTo_b135 {p : Program} {l : Launch} {e : Env} {s : State} {m : MethodId} {args : Array Value} {below : List Frame} {meth : Method} {c : Code} {b0 : Nat} {D : va_G} {cy : Nat → ClassId} {S : Mem} {q : Int32} (C0 : Cx p m c cX9_goesTo 19 s args RX9 D cy) (hr : meth.sig.returnType = some .int) (hlocks : meth.locks = false) (k9 : Nat → Int32 → Int32 → Int64 → Int64 → Int64 → Int64 → Int64 → Int32 → Int32 → Int32 → Int32 → Option Int32) (hk9 : ∀ (a0 : Nat) (x1 : Int32) (x2 : Int32) (y3 : Int64) (y5 : Int64) (y7 : Int64) (y9 : Int64) (y11 : Int64) (x13 : Int32) (x14 : Int32) (x15 : Int32) (x16 : Int32) (H : Heap) (locs : List Loc) (ls : Array Slot), Wd b0 D cy S s.heap H locs → lv_has ls 19 [(0, .ref (b0 + a0)), (1, .int x1), (2, .int x2), (3, .long y3), (5, .long y5), (7, .long y7), (9, .long y9), (11, .long y11), (13, .int x13), (14, .int x14), (15, .int x15), (16, .int x16)] → k9 a0 x1 x2 y3 y5 y7 y9 y11 x13 x14 x15 x16 = some q → W p l e rm_X9_goesTo s m args below meth c H locs 0 0 (MQ below (Qp b0 D cy (some (.int q)) S) args s 0 0 (fun q => b0 ≤ q)) (F0 m 9 ls [])) : ∀ (a0 : Nat) (x1 : Int32) (x2 : Int32) (y3 : Int64) (y5 : Int64) (y7 : Int64) (y9 : Int64) (y11 : Int64) (x13 : Int32) (x14 : Int32) (x15 : Int32) (x16 : Int32) (H : Heap) (locs : List Loc) (ls : Array Slot), Wd b0 D cy S s.heap H locs → lv_has ls 19 [(0, .ref (b0 + a0)), (1, .int x1), (2, .int x2), (3, .long y3), (5, .long y5), (7, .long y7), (9, .long y9), (11, .long y11), (13, .int x13), (14, .int x14), (15, .int x15), (16, .int x16)] → f_X9_goesTo_b135 S k9 a0 x1 x2 y3 y5 y7 y9 y11 x13 x14 x15 x16 = some q → W p l e rm_X9_goesTo s m args below meth c H locs 0 0 (MQ below (Qp b0 D cy (some (.int q)) S) args s 0 0 (fun q => b0 ≤ q)) (F0 m 135 ls []) := by
  intro a0 x1 x2 y3 y5 y7 y9 y11 x13 x14 x15 x16 H locs ls hw hl h
  rw [f_X9_goesTo_b135] at h
  obtain ⟨v4, hv4, h⟩ := Option.bind_eq_some_iff.mp h
  refine lv_iinc (v := v4) (lv' := [(16, .int v4), (0, .ref (b0 + a0)), (1, .int x1), (2, .int x2), (3, .long y3), (5, .long y5), (7, .long y7), (9, .long y9), (11, .long y11), (13, .int x13), (14, .int x14), (15, .int x15)]) C0.hx C0.hb dX9_goesTo_135 hl (k := 11) rfl (by rw [← Option.some.inj hv4]; rfl) (by decide) rfl (fun ls hl => ?_)
  refine lv_goto (tgt := 9) C0.hx C0.hb dX9_goesTo_138 (by decide) ?_
  exact hk9 a0 x1 x2 y3 y5 y7 y9 y11 x13 x14 x15 v4 _ _ _ hw (lv_sub hl [1, 2, 3, 4, 5, 6, 7, 8, 9, 10, 11, 0] rfl) h
set_option maxHeartbeats 4000000 in
set_option maxRecDepth 100000 in
theorem w_X9_goesTo_b133 {p : Program} {l : Launch} {e : Env} {s : State} {m : MethodId} {args : Array Value} {below : List Frame} {meth : Method} {c : Code} {b0 : Nat} {D : va_G} {cy : Nat → ClassId} {S : Mem} {q : Int32} (C0 : Cx p m c cX9_goesTo 19 s args RX9 D cy) (hr : meth.sig.returnType = some .int) (hlocks : meth.locks = false) (k9 : Nat → Int32 → Int32 → Int64 → Int64 → Int64 → Int64 → Int64 → Int32 → Int32 → Int32 → Int32 → Option Int32) (hk9 : ∀ (a0 : Nat) (x1 : Int32) (x2 : Int32) (y3 : Int64) (y5 : Int64) (y7 : Int64) (y9 : Int64) (y11 : Int64) (x13 : Int32) (x14 : Int32) (x15 : Int32) (x16 : Int32) (H : Heap) (locs : List Loc) (ls : Array Slot), Wd b0 D cy S s.heap H locs → lv_has ls 19 [(0, .ref (b0 + a0)), (1, .int x1), (2, .int x2), (3, .long y3), (5, .long y5), (7, .long y7), (9, .long y9), (11, .long y11), (13, .int x13), (14, .int x14), (15, .int x15), (16, .int x16)] → k9 a0 x1 x2 y3 y5 y7 y9 y11 x13 x14 x15 x16 = some q → W p l e rm_X9_goesTo s m args below meth c H locs 0 0 (MQ below (Qp b0 D cy (some (.int q)) S) args s 0 0 (fun q => b0 ≤ q)) (F0 m 9 ls [])) : ∀ (a0 : Nat) (x1 : Int32) (x2 : Int32) (y3 : Int64) (y5 : Int64) (y7 : Int64) (y9 : Int64) (y11 : Int64) (x13 : Int32) (x14 : Int32) (x16 : Int32) (t0 : Int32) (H : Heap) (locs : List Loc) (ls : Array Slot), Wd b0 D cy S s.heap H locs → lv_has ls 19 [(0, .ref (b0 + a0)), (1, .int x1), (2, .int x2), (3, .long y3), (5, .long y5), (7, .long y7), (9, .long y9), (11, .long y11), (13, .int x13), (14, .int x14), (16, .int x16)] → f_X9_goesTo_b133 S k9 a0 x1 x2 y3 y5 y7 y9 y11 x13 x14 x16 t0 = some q → W p l e rm_X9_goesTo s m args below meth c H locs 0 0 (MQ below (Qp b0 D cy (some (.int q)) S) args s 0 0 (fun q => b0 ≤ q)) (F0 m 133 ls [.int t0]) := by
  intro a0 x1 x2 y3 y5 y7 y9 y11 x13 x14 x16 t0 H locs ls hw hl h
  rw [f_X9_goesTo_b133] at h
  refine lv_istore (lv' := [(15, .int t0), (0, .ref (b0 + a0)), (1, .int x1), (2, .int x2), (3, .long y3), (5, .long y5), (7, .long y7), (9, .long y9), (11, .long y11), (13, .int x13), (14, .int x14), (16, .int x16)]) C0.hx C0.hb dX9_goesTo_133 hl (by decide) rfl (fun ls hl => ?_)
  exact w_X9_goesTo_b135 C0 hr hlocks k9 hk9 a0 x1 x2 y3 y5 y7 y9 y11 x13 x14 t0 x16 _ _ _ hw (lv_sub hl [1, 2, 3, 4, 5, 6, 7, 8, 9, 10, 0, 11] rfl) h
set_option maxHeartbeats 4000000 in
set_option maxRecDepth 100000 in
theorem w_X9_goesTo_b126 {p : Program} {l : Launch} {e : Env} {s : State} {m : MethodId} {args : Array Value} {below : List Frame} {meth : Method} {c : Code} {b0 : Nat} {D : va_G} {cy : Nat → ClassId} {S : Mem} {q : Int32} (C0 : Cx p m c cX9_goesTo 19 s args RX9 D cy) (hr : meth.sig.returnType = some .int) (hlocks : meth.locks = false) (k9 : Nat → Int32 → Int32 → Int64 → Int64 → Int64 → Int64 → Int64 → Int32 → Int32 → Int32 → Int32 → Option Int32) (hk9 : ∀ (a0 : Nat) (x1 : Int32) (x2 : Int32) (y3 : Int64) (y5 : Int64) (y7 : Int64) (y9 : Int64) (y11 : Int64) (x13 : Int32) (x14 : Int32) (x15 : Int32) (x16 : Int32) (H : Heap) (locs : List Loc) (ls : Array Slot), Wd b0 D cy S s.heap H locs → lv_has ls 19 [(0, .ref (b0 + a0)), (1, .int x1), (2, .int x2), (3, .long y3), (5, .long y5), (7, .long y7), (9, .long y9), (11, .long y11), (13, .int x13), (14, .int x14), (15, .int x15), (16, .int x16)] → k9 a0 x1 x2 y3 y5 y7 y9 y11 x13 x14 x15 x16 = some q → W p l e rm_X9_goesTo s m args below meth c H locs 0 0 (MQ below (Qp b0 D cy (some (.int q)) S) args s 0 0 (fun q => b0 ≤ q)) (F0 m 9 ls [])) : ∀ (a0 : Nat) (x1 : Int32) (x2 : Int32) (y3 : Int64) (y5 : Int64) (y7 : Int64) (y9 : Int64) (y11 : Int64) (x13 : Int32) (x14 : Int32) (x16 : Int32) (x18 : Int32) (H : Heap) (locs : List Loc) (ls : Array Slot), Wd b0 D cy S s.heap H locs → lv_has ls 19 [(0, .ref (b0 + a0)), (1, .int x1), (2, .int x2), (3, .long y3), (5, .long y5), (7, .long y7), (9, .long y9), (11, .long y11), (13, .int x13), (14, .int x14), (16, .int x16), (18, .int x18)] → f_X9_goesTo_b126 S k9 a0 x1 x2 y3 y5 y7 y9 y11 x13 x14 x16 x18 = some q → W p l e rm_X9_goesTo s m args below meth c H locs 0 0 (MQ below (Qp b0 D cy (some (.int q)) S) args s 0 0 (fun q => b0 ≤ q)) (F0 m 126 ls []) := by
  intro a0 x1 x2 y3 y5 y7 y9 y11 x13 x14 x16 x18 H locs ls hw hl h
  rw [f_X9_goesTo_b126] at h
  refine lv_iload C0.hx C0.hb dX9_goesTo_126 (lv_at hl 11 rfl) ?_
  refine lv_goto (tgt := 133) C0.hx C0.hb dX9_goesTo_128 (by decide) ?_
  exact w_X9_goesTo_b133 C0 hr hlocks k9 hk9 a0 x1 x2 y3 y5 y7 y9 y11 x13 x14 x16 x18 _ _ _ hw (lv_sub hl [0, 1, 2, 3, 4, 5, 6, 7, 8, 9, 10] rfl) h
set_option maxHeartbeats 4000000 in
set_option maxRecDepth 100000 in
theorem w_X9_goesTo_b111 {p : Program} {l : Launch} {e : Env} {s : State} {m : MethodId} {args : Array Value} {below : List Frame} {meth : Method} {c : Code} {b0 : Nat} {D : va_G} {cy : Nat → ClassId} {S : Mem} {q : Int32} (C0 : Cx p m c cX9_goesTo 19 s args RX9 D cy) (hr : meth.sig.returnType = some .int) (hlocks : meth.locks = false) (k9 : Nat → Int32 → Int32 → Int64 → Int64 → Int64 → Int64 → Int64 → Int32 → Int32 → Int32 → Int32 → Option Int32) (hk9 : ∀ (a0 : Nat) (x1 : Int32) (x2 : Int32) (y3 : Int64) (y5 : Int64) (y7 : Int64) (y9 : Int64) (y11 : Int64) (x13 : Int32) (x14 : Int32) (x15 : Int32) (x16 : Int32) (H : Heap) (locs : List Loc) (ls : Array Slot), Wd b0 D cy S s.heap H locs → lv_has ls 19 [(0, .ref (b0 + a0)), (1, .int x1), (2, .int x2), (3, .long y3), (5, .long y5), (7, .long y7), (9, .long y9), (11, .long y11), (13, .int x13), (14, .int x14), (15, .int x15), (16, .int x16)] → k9 a0 x1 x2 y3 y5 y7 y9 y11 x13 x14 x15 x16 = some q → W p l e rm_X9_goesTo s m args below meth c H locs 0 0 (MQ below (Qp b0 D cy (some (.int q)) S) args s 0 0 (fun q => b0 ≤ q)) (F0 m 9 ls [])) : ∀ (a0 : Nat) (x1 : Int32) (x2 : Int32) (y3 : Int64) (y5 : Int64) (y7 : Int64) (y9 : Int64) (y11 : Int64) (x13 : Int32) (x15 : Int32) (x16 : Int32) (x18 : Int32) (t0 : Int32) (H : Heap) (locs : List Loc) (ls : Array Slot), Wd b0 D cy S s.heap H locs → lv_has ls 19 [(0, .ref (b0 + a0)), (1, .int x1), (2, .int x2), (3, .long y3), (5, .long y5), (7, .long y7), (9, .long y9), (11, .long y11), (13, .int x13), (15, .int x15), (16, .int x16), (18, .int x18)] → f_X9_goesTo_b111 S k9 a0 x1 x2 y3 y5 y7 y9 y11 x13 x15 x16 x18 t0 = some q → W p l e rm_X9_goesTo s m args below meth c H locs 0 0 (MQ below (Qp b0 D cy (some (.int q)) S) args s 0 0 (fun q => b0 ≤ q)) (F0 m 111 ls [.int t0]) := by
  intro a0 x1 x2 y3 y5 y7 y9 y11 x13 x15 x16 x18 t0 H locs ls hw hl h
  rw [f_X9_goesTo_b111] at h
  refine lv_istore (lv' := [(14, .int t0), (0, .ref (b0 + a0)), (1, .int x1), (2, .int x2), (3, .long y3), (5, .long y5), (7, .long y7), (9, .long y9), (11, .long y11), (13, .int x13), (15, .int x15), (16, .int x16), (18, .int x18)]) C0.hx C0.hb dX9_goesTo_111 hl (by decide) rfl (fun ls hl => ?_)
  refine lv_iload C0.hx C0.hb dX9_goesTo_113 (lv_at hl 10 rfl) ?_
  refine lv_iconst (v := (-1 : Int32)) C0.hx C0.hb dX9_goesTo_115 (by decide) ?_
  refine lv_icmp_eq (tgt := 126) C0.hx C0.hb dX9_goesTo_116 (by decide) (fun hc => ?_) (fun hc => ?_)
  · have h := (if_pos hc).symm.trans h
    exact w_X9_goesTo_b126 C0 hr hlocks k9 hk9 a0 x1 x2 y3 y5 y7 y9 y11 x13 t0 x16 x18 _ _ _ hw (lv_sub hl [1, 2, 3, 4, 5, 6, 7, 8, 9, 0, 11, 12] rfl) h
  · have h := (if_neg hc).symm.trans h
    refine lv_iload C0.hx C0.hb dX9_goesTo_119 (lv_at hl 12 rfl) ?_
    refine lv_iload C0.hx C0.hb dX9_goesTo_121 (lv_at hl 10 rfl) ?_
    refine lv_icmp_ge (tgt := 131) C0.hx C0.hb dX9_goesTo_123 (by decide) (fun hc => ?_) (fun hc => ?_)
    · have h := (if_pos hc).symm.trans h
      refine lv_iload C0.hx C0.hb dX9_goesTo_131 (lv_at hl 10 rfl) ?_
      exact w_X9_goesTo_b133 C0 hr hlocks k9 hk9 a0 x1 x2 y3 y5 y7 y9 y11 x13 t0 x16 x15 _ _ _ hw (lv_sub hl [1, 2, 3, 4, 5, 6, 7, 8, 9, 0, 11] rfl) h
    · have h := (if_neg hc).symm.trans h
      exact w_X9_goesTo_b126 C0 hr hlocks k9 hk9 a0 x1 x2 y3 y5 y7 y9 y11 x13 t0 x16 x18 _ _ _ hw (lv_sub hl [1, 2, 3, 4, 5, 6, 7, 8, 9, 0, 11, 12] rfl) h
set_option maxHeartbeats 4000000 in
set_option maxRecDepth 100000 in
theorem w_X9_goesTo_b104 {p : Program} {l : Launch} {e : Env} {s : State} {m : MethodId} {args : Array Value} {below : List Frame} {meth : Method} {c : Code} {b0 : Nat} {D : va_G} {cy : Nat → ClassId} {S : Mem} {q : Int32} (C0 : Cx p m c cX9_goesTo 19 s args RX9 D cy) (hr : meth.sig.returnType = some .int) (hlocks : meth.locks = false) (k9 : Nat → Int32 → Int32 → Int64 → Int64 → Int64 → Int64 → Int64 → Int32 → Int32 → Int32 → Int32 → Option Int32) (hk9 : ∀ (a0 : Nat) (x1 : Int32) (x2 : Int32) (y3 : Int64) (y5 : Int64) (y7 : Int64) (y9 : Int64) (y11 : Int64) (x13 : Int32) (x14 : Int32) (x15 : Int32) (x16 : Int32) (H : Heap) (locs : List Loc) (ls : Array Slot), Wd b0 D cy S s.heap H locs → lv_has ls 19 [(0, .ref (b0 + a0)), (1, .int x1), (2, .int x2), (3, .long y3), (5, .long y5), (7, .long y7), (9, .long y9), (11, .long y11), (13, .int x13), (14, .int x14), (15, .int x15), (16, .int x16)] → k9 a0 x1 x2 y3 y5 y7 y9 y11 x13 x14 x15 x16 = some q → W p l e rm_X9_goesTo s m args below meth c H locs 0 0 (MQ below (Qp b0 D cy (some (.int q)) S) args s 0 0 (fun q => b0 ≤ q)) (F0 m 9 ls [])) : ∀ (a0 : Nat) (x1 : Int32) (x2 : Int32) (y3 : Int64) (y5 : Int64) (y7 : Int64) (y9 : Int64) (y11 : Int64) (x13 : Int32) (x15 : Int32) (x16 : Int32) (x18 : Int32) (H : Heap) (locs : List Loc) (ls : Array Slot), Wd b0 D cy S s.heap H locs → lv_has ls 19 [(0, .ref (b0 + a0)), (1, .int x1), (2, .int x2), (3, .long y3), (5, .long y5), (7, .long y7), (9, .long y9), (11, .long y11), (13, .int x13), (15, .int x15), (16, .int x16), (18, .int x18)] → f_X9_goesTo_b104 S k9 a0 x1 x2 y3 y5 y7 y9 y11 x13 x15 x16 x18 = some q → W p l e rm_X9_goesTo s m args below meth c H locs 0 0 (MQ below (Qp b0 D cy (some (.int q)) S) args s 0 0 (fun q => b0 ≤ q)) (F0 m 104 ls []) := by
  intro a0 x1 x2 y3 y5 y7 y9 y11 x13 x15 x16 x18 H locs ls hw hl h
  rw [f_X9_goesTo_b104] at h
  refine lv_iload C0.hx C0.hb dX9_goesTo_104 (lv_at hl 10 rfl) ?_
  refine lv_goto (tgt := 111) C0.hx C0.hb dX9_goesTo_106 (by decide) ?_
  exact w_X9_goesTo_b111 C0 hr hlocks k9 hk9 a0 x1 x2 y3 y5 y7 y9 y11 x13 x15 x16 x18 x16 _ _ _ hw (lv_sub hl [0, 1, 2, 3, 4, 5, 6, 7, 8, 9, 10, 11] rfl) h
set_option maxHeartbeats 4000000 in
set_option maxRecDepth 100000 in
theorem w_X9_goesTo_b9 {p : Program} {l : Launch} {e : Env} {s : State} {m : MethodId} {args : Array Value} {below : List Frame} {meth : Method} {c : Code} {b0 : Nat} {D : va_G} {cy : Nat → ClassId} {S : Mem} {q : Int32} (C0 : Cx p m c cX9_goesTo 19 s args RX9 D cy) (hr : meth.sig.returnType = some .int) (hlocks : meth.locks = false) : ∀ (n : Nat) (a0 : Nat) (x1 : Int32) (x2 : Int32) (y3 : Int64) (y5 : Int64) (y7 : Int64) (y9 : Int64) (y11 : Int64) (x13 : Int32) (x14 : Int32) (x15 : Int32) (x16 : Int32) (H : Heap) (locs : List Loc) (ls : Array Slot), Wd b0 D cy S s.heap H locs → lv_has ls 19 [(0, .ref (b0 + a0)), (1, .int x1), (2, .int x2), (3, .long y3), (5, .long y5), (7, .long y7), (9, .long y9), (11, .long y11), (13, .int x13), (14, .int x14), (15, .int x15), (16, .int x16)] → f_X9_goesTo_b9 S  n a0 x1 x2 y3 y5 y7 y9 y11 x13 x14 x15 x16 = some q → W p l e rm_X9_goesTo s m args below meth c H locs 0 0 (MQ below (Qp b0 D cy (some (.int q)) S) args s 0 0 (fun q => b0 ≤ q)) (F0 m 9 ls []) := by
  intro n
  induction n with
  | zero => intro a0 x1 x2 y3 y5 y7 y9 y11 x13 x14 x15 x16 H locs ls hw hl h; exact absurd h (by simp [f_X9_goesTo_b9])
  | succ n ih =>
    intro a0 x1 x2 y3 y5 y7 y9 y11 x13 x14 x15 x16 H locs ls hw hl h
    rw [f_X9_goesTo_b9] at h
    refine lv_iload C0.hx C0.hb dX9_goesTo_9 (lv_at hl 11 rfl) ?_
    refine lv_aload_n C0.hx C0.hb dX9_goesTo_11 rfl (lv_at hl 0 rfl) ?_
    obtain ⟨v1, hv1, h⟩ := Option.bind_eq_some_iff.mp h
    refine q_getI C0 hw hv1 rfl in_9 (by decide) kw_863 dX9_goesTo_12 ?_
    refine lv_icmp_ge (tgt := 141) C0.hx C0.hb dX9_goesTo_15 (by decide) (fun hc => ?_) (fun hc => ?_)
    · have h := (if_pos hc).symm.trans h
      refine lv_iload C0.hx C0.hb dX9_goesTo_141 (lv_at hl 9 rfl) ?_
      obtain rfl := Option.some.inj h
      exact q_reti C0 hw hr hlocks dX9_goesTo_143
    · have h := (if_neg hc).symm.trans h
      refine lv_aload_n C0.hx C0.hb dX9_goesTo_18 rfl (lv_at hl 0 rfl) ?_
      refine lv_iload_n C0.hx C0.hb dX9_goesTo_19 rfl (lv_at hl 2 rfl) ?_
      refine lv_iload C0.hx C0.hb dX9_goesTo_20 (lv_at hl 11 rfl) ?_
      obtain ⟨c2, hc2, h⟩ := Option.bind_eq_some_iff.mp h
      obtain ⟨v3, hv3, h⟩ := Option.bind_eq_some_iff.mp h
      refine q_callV (n := 2) (av := [.int x2, .int x16]) (rest := []) (st1 := [.int v3]) C0 hw (m_X9_doorBetween l b0 D cy S a0 x2 x16 hv3) hc2 rfl (by decide) (goodV kw_1047 kw_1049 kw_39 kw_72 kw_1050) ⟨rfl, rfl⟩ (by decide +kernel) ⟨(Nat.le_of_ble_eq_true rfl), (Nat.le_of_ble_eq_true rfl)⟩ rfl hl.1 rfl (Nat.le_of_ble_eq_true rfl) dX9_goesTo_22 ⟨Nat.zero_le _, Nat.zero_le _⟩ rfl (fun H locs hw => ?_)
      refine lv_istore (lv' := [(17, .int v3), (0, .ref (b0 + a0)), (1, .int x1), (2, .int x2), (3, .long y3), (5, .long y5), (7, .long y7), (9, .long y9), (11, .long y11), (13, .int x13), (14, .int x14), (15, .int x15), (16, .int x16)]) C0.hx C0.hb dX9_goesTo_25 hl (by decide) rfl (fun ls hl => ?_)
      refine lv_iload C0.hx C0.hb dX9_goesTo_27 (lv_at hl 0 rfl) ?_
      refine lv_iconst (v := (-1 : Int32)) C0.hx C0.hb dX9_goesTo_29 (by decide) ?_
      refine lv_icmp_eq (tgt := 135) C0.hx C0.hb dX9_goesTo_30 (by decide) (fun hc => ?_) (fun hc => ?_)
      · have h := (if_pos hc).symm.trans h
        exact w_X9_goesTo_b135 C0 hr hlocks (fun a0 x1 x2 y3 y5 y7 y9 y11 x13 x14 x15 x16 => f_X9_goesTo_b9 S  n a0 x1 x2 y3 y5 y7 y9 y11 x13 x14 x15 x16) ih a0 x1 x2 y3 y5 y7 y9 y11 x13 x14 x15 x16 _ _ _ hw (lv_sub hl [1, 2, 3, 4, 5, 6, 7, 8, 9, 10, 11, 12] rfl) h
      · have h := (if_neg hc).symm.trans h
        refine lv_lload C0.hx C0.hb dX9_goesTo_33 (lv_at hl 6 rfl) ?_
        refine lv_iload C0.hx C0.hb dX9_goesTo_35 (lv_at hl 0 rfl) ?_
        obtain ⟨v5, hv5, h⟩ := Option.bind_eq_some_iff.mp h
        refine q_callS (n := 2) (av := [.long y7, .int v3]) (rest := []) (st1 := [.int v5]) C0 hw (m_X9_has l b0 D cy S y7 v3 hv5) (goodS kw_1026 kw_1027 kw_72 kw_1028) ⟨rfl, rfl⟩ (by decide +kernel) ⟨(Nat.le_of_ble_eq_true rfl), (Nat.le_of_ble_eq_true rfl)⟩ rfl hl.1 rfl (Nat.le_of_ble_eq_true rfl) dX9_goesTo_37 ⟨Nat.zero_le _, Nat.zero_le _⟩ rfl (fun H locs hw => ?_)
        refine lv_if_ne (tgt := 135) C0.hx C0.hb dX9_goesTo_40 (by decide) (fun hc => ?_) (fun hc => ?_)
        · have h := (if_neg hc).symm.trans h
          exact w_X9_goesTo_b135 C0 hr hlocks (fun a0 x1 x2 y3 y5 y7 y9 y11 x13 x14 x15 x16 => f_X9_goesTo_b9 S  n a0 x1 x2 y3 y5 y7 y9 y11 x13 x14 x15 x16) ih a0 x1 x2 y3 y5 y7 y9 y11 x13 x14 x15 x16 _ _ _ hw (lv_sub hl [1, 2, 3, 4, 5, 6, 7, 8, 9, 10, 11, 12] rfl) h
        · have h := (if_pos hc).symm.trans h
          refine lv_lload C0.hx C0.hb dX9_goesTo_43 (lv_at hl 5 rfl) ?_
          refine lv_iload C0.hx C0.hb dX9_goesTo_45 (lv_at hl 12 rfl) ?_
          obtain ⟨v6, hv6, h⟩ := Option.bind_eq_some_iff.mp h
          refine q_callS (n := 2) (av := [.long y5, .int x16]) (rest := []) (st1 := [.int v6]) C0 hw (m_X9_has l b0 D cy S y5 x16 hv6) (goodS kw_1026 kw_1027 kw_72 kw_1028) ⟨rfl, rfl⟩ (by decide +kernel) ⟨(Nat.le_of_ble_eq_true rfl), (Nat.le_of_ble_eq_true rfl)⟩ rfl hl.1 rfl (Nat.le_of_ble_eq_true rfl) dX9_goesTo_47 ⟨Nat.zero_le _, Nat.zero_le _⟩ rfl (fun H locs hw => ?_)
          refine lv_if_ne (tgt := 135) C0.hx C0.hb dX9_goesTo_50 (by decide) (fun hc => ?_) (fun hc => ?_)
          · have h := (if_neg hc).symm.trans h
            exact w_X9_goesTo_b135 C0 hr hlocks (fun a0 x1 x2 y3 y5 y7 y9 y11 x13 x14 x15 x16 => f_X9_goesTo_b9 S  n a0 x1 x2 y3 y5 y7 y9 y11 x13 x14 x15 x16) ih a0 x1 x2 y3 y5 y7 y9 y11 x13 x14 x15 x16 _ _ _ hw (lv_sub hl [1, 2, 3, 4, 5, 6, 7, 8, 9, 10, 11, 12] rfl) h
          · have h := (if_pos hc).symm.trans h
            refine lv_iload_n C0.hx C0.hb dX9_goesTo_53 rfl (lv_at hl 2 rfl) ?_
            refine lv_lload C0.hx C0.hb dX9_goesTo_54 (lv_at hl 7 rfl) ?_
            refine lv_iconst (v := (4 : Int32)) C0.hx C0.hb dX9_goesTo_56 (by decide) ?_
            refine lv_iload C0.hx C0.hb dX9_goesTo_57 (lv_at hl 12 rfl) ?_
            refine lv_imul C0.hx C0.hb dX9_goesTo_59 ?_
            refine lv_lshr C0.hx C0.hb dX9_goesTo_60 rfl ?_
            refine lv_ldc2 C0.hx C0.hb C0.ho (C0.w kw_1034) dX9_goesTo_61 ?_
            refine lv_land C0.hx C0.hb dX9_goesTo_64 ?_
            refine lv_l2i C0.hx C0.hb dX9_goesTo_65 rfl ?_
            refine lv_lload_n C0.hx C0.hb dX9_goesTo_66 rfl (lv_at hl 4 rfl) ?_
            refine lv_iload C0.hx C0.hb dX9_goesTo_67 (lv_at hl 12 rfl) ?_
            obtain ⟨v7, hv7, h⟩ := Option.bind_eq_some_iff.mp h
            refine q_callS (n := 2) (av := [.long y3, .int x16]) (rest := [.int (((y9 >>> (((4 : Int32) * x16).toInt64 &&& 63)) &&& (15 : Int64)).toInt32), .int x1]) (st1 := [.int v7, .int (((y9 >>> (((4 : Int32) * x16).toInt64 &&& 63)) &&& (15 : Int64)).toInt32), .int x1]) C0 hw (m_X9_has l b0 D cy S y3 x16 hv7) (goodS kw_1026 kw_1027 kw_72 kw_1028) ⟨rfl, rfl⟩ (by decide +kernel) ⟨(Nat.le_of_ble_eq_true rfl), (Nat.le_of_ble_eq_true rfl)⟩ rfl hl.1 rfl (Nat.le_of_ble_eq_true rfl) dX9_goesTo_69 ⟨Nat.zero_le _, Nat.zero_le _⟩ rfl (fun H locs hw => ?_)
            refine lv_lload C0.hx C0.hb dX9_goesTo_72 (lv_at hl 8 rfl) ?_
            refine lv_iconst (v := (4 : Int32)) C0.hx C0.hb dX9_goesTo_74 (by decide) ?_
            refine lv_iload C0.hx C0.hb dX9_goesTo_75 (lv_at hl 12 rfl) ?_
            refine lv_imul C0.hx C0.hb dX9_goesTo_77 ?_
            refine lv_lshr C0.hx C0.hb dX9_goesTo_78 rfl ?_
            refine lv_ldc2 C0.hx C0.hb C0.ho (C0.w kw_1034) dX9_goesTo_79 ?_
            refine lv_land C0.hx C0.hb dX9_goesTo_82 ?_
            refine lv_l2i C0.hx C0.hb dX9_goesTo_83 rfl ?_
            refine lv_iload C0.hx C0.hb dX9_goesTo_84 (lv_at hl 9 rfl) ?_
            obtain ⟨v8, hv8, h⟩ := Option.bind_eq_some_iff.mp h
            refine q_callS (n := 5) (av := [.int x1, .int (((y9 >>> (((4 : Int32) * x16).toInt64 &&& 63)) &&& (15 : Int64)).toInt32), .int v7, .int (((y11 >>> (((4 : Int32) * x16).toInt64 &&& 63)) &&& (15 : Int64)).toInt32), .int x13]) (rest := []) (st1 := [.int v8]) C0 hw (m_X9_pull l b0 D cy S x1 (((y9 >>> (((4 : Int32) * x16).toInt64 &&& 63)) &&& (15 : Int64)).toInt32) v7 (((y11 >>> (((4 : Int32) * x16).toInt64 &&& 63)) &&& (15 : Int64)).toInt32) x13 hv8) (goodS kw_1040 kw_1041 kw_72 kw_1042) ⟨rfl, rfl⟩ (by decide +kernel) ⟨(Nat.le_of_ble_eq_true rfl), (Nat.le_of_ble_eq_true rfl)⟩ rfl hl.1 rfl (Nat.le_of_ble_eq_true rfl) dX9_goesTo_86 ⟨Nat.zero_le _, Nat.zero_le _⟩ rfl (fun H locs hw => ?_)
            refine lv_istore (lv' := [(18, .int v8), (17, .int v3), (0, .ref (b0 + a0)), (1, .int x1), (2, .int x2), (3, .long y3), (5, .long y5), (7, .long y7), (9, .long y9), (11, .long y11), (13, .int x13), (14, .int x14), (15, .int x15), (16, .int x16)]) C0.hx C0.hb dX9_goesTo_89 hl (by decide) rfl (fun ls hl => ?_)
            refine lv_iload C0.hx C0.hb dX9_goesTo_91 (lv_at hl 12 rfl) ?_
            refine lv_iconst (v := (-1 : Int32)) C0.hx C0.hb dX9_goesTo_93 (by decide) ?_
            refine lv_icmp_eq (tgt := 104) C0.hx C0.hb dX9_goesTo_94 (by decide) (fun hc => ?_) (fun hc => ?_)
            · have h := (if_pos hc).symm.trans h
              exact w_X9_goesTo_b104 C0 hr hlocks (fun a0 x1 x2 y3 y5 y7 y9 y11 x13 x14 x15 x16 => f_X9_goesTo_b9 S  n a0 x1 x2 y3 y5 y7 y9 y11 x13 x14 x15 x16) ih a0 x1 x2 y3 y5 y7 y9 y11 x13 x15 x16 v8 _ _ _ hw (lv_sub hl [2, 3, 4, 5, 6, 7, 8, 9, 10, 12, 13, 0] rfl) h
            · have h := (if_neg hc).symm.trans h
              refine lv_iload C0.hx C0.hb dX9_goesTo_97 (lv_at hl 0 rfl) ?_
              refine lv_iload C0.hx C0.hb dX9_goesTo_99 (lv_at hl 12 rfl) ?_
              refine lv_icmp_ge (tgt := 109) C0.hx C0.hb dX9_goesTo_101 (by decide) (fun hc => ?_) (fun hc => ?_)
              · have h := (if_pos hc).symm.trans h
                refine lv_iload C0.hx C0.hb dX9_goesTo_109 (lv_at hl 11 rfl) ?_
                exact w_X9_goesTo_b111 C0 hr hlocks (fun a0 x1 x2 y3 y5 y7 y9 y11 x13 x14 x15 x16 => f_X9_goesTo_b9 S  n a0 x1 x2 y3 y5 y7 y9 y11 x13 x14 x15 x16) ih a0 x1 x2 y3 y5 y7 y9 y11 x13 x15 x16 v8 x14 _ _ _ hw (lv_sub hl [2, 3, 4, 5, 6, 7, 8, 9, 10, 12, 13, 0] rfl) h
              · have h := (if_neg hc).symm.trans h
                exact w_X9_goesTo_b104 C0 hr hlocks (fun a0 x1 x2 y3 y5 y7 y9 y11 x13 x14 x15 x16 => f_X9_goesTo_b9 S  n a0 x1 x2 y3 y5 y7 y9 y11 x13 x14 x15 x16) ih a0 x1 x2 y3 y5 y7 y9 y11 x13 x15 x16 v8 _ _ _ hw (lv_sub hl [2, 3, 4, 5, 6, 7, 8, 9, 10, 12, 13, 0] rfl) h
set_option maxHeartbeats 4000000 in
set_option maxRecDepth 100000 in
theorem m_X9_goesTo (l : Launch) (b0 : Nat) (D : va_G) (cy : Nat → ClassId) (S : Mem) (a0 : Nat) (x1 : Int32) (x2 : Int32) (y3 : Int64) (y5 : Int64) (y7 : Int64) (y9 : Int64) (y11 : Int64) (x13 : Int32) {q : Int32} (h : f_X9_goesTo a0 x1 x2 y3 y5 y7 y9 y11 x13 S = some q) : Met l yX9_goesTo [.code yX9_goesTo cX9_goesTo 19 (some .int)] rm_X9_goesTo (Pr b0 D cy S [.ref (b0 + a0), .int x1, .int x2, .long y3, .long y5, .long y7, .long y9, .long y11, .int x13]) (Qp b0 D cy (some (.int q)) S) 0 0 (fun q => b0 ≤ q) := by
  refine Met.ofW (cc := cX9_goesTo) (maxL := 19) (ret := some .int) (by decide) rfl ?_
  intro p e s m args below meth c s₁ B hml hv
  obtain ⟨rfl, hP, hK, hT⟩ := hv
  have C0 : Cx p m c cX9_goesTo 19 s (List.toArray [.ref (b0 + a0), .int x1, .int x2, .long y3, .long y5, .long y7, .long y9, .long y11, .int x13]) RX9 D cy := ⟨⟨B.exec, B.bytes, hml, findClass_of_methodNamed B.named, fun w h => hT w h _⟩, hK, hT⟩
  have hr : meth.sig.returnType = some .int := B.returns
  have hlocks := B.notSynchronized
  have hw : Wd b0 D cy S s.heap s.heap [] := ⟨hP, va_S.rf⟩
  have hl := lv_entry ([.ref (b0 + a0), .int x1, .int x2, .long y3, .long y5, .long y7, .long y9, .long y11, .int x13]) (n := 19) (Nat.le_of_ble_eq_true rfl)
  rw [lg_entry_eq]
  generalize (lg_sl ([.ref (b0 + a0), .int x1, .int x2, .long y3, .long y5, .long y7, .long y9, .long y11, .int x13]) ++ List.replicate (19 - (lg_sl ([.ref (b0 + a0), .int x1, .int x2, .long y3, .long y5, .long y7, .long y9, .long y11, .int x13])).length) Slot.unset).toArray = ls at hl ⊢
  have hl : lv_has ls 19 [(0, .ref (b0 + a0)), (1, .int x1), (2, .int x2), (3, .long y3), (5, .long y5), (7, .long y7), (9, .long y9), (11, .long y11), (13, .int x13)] := hl
  rw [f_X9_goesTo] at h
  show W p l e rm_X9_goesTo s m _ below meth c s.heap [] 0 0 _ _
  refine lv_iload_n C0.hx C0.hb dX9_goesTo_0 rfl (lv_at hl 2 rfl) ?_
  refine lv_istore (lv' := [(14, .int x2), (0, .ref (b0 + a0)), (1, .int x1), (2, .int x2), (3, .long y3), (5, .long y5), (7, .long y7), (9, .long y9), (11, .long y11), (13, .int x13)]) C0.hx C0.hb dX9_goesTo_1 hl (by decide) rfl (fun ls hl => ?_)
  refine lv_iconst (v := (-1 : Int32)) C0.hx C0.hb dX9_goesTo_3 (by decide) ?_
  refine lv_istore (lv' := [(15, .int (-1 : Int32)), (14, .int x2), (0, .ref (b0 + a0)), (1, .int x1), (2, .int x2), (3, .long y3), (5, .long y5), (7, .long y7), (9, .long y9), (11, .long y11), (13, .int x13)]) C0.hx C0.hb dX9_goesTo_4 hl (by decide) rfl (fun ls hl => ?_)
  refine lv_iconst (v := (0 : Int32)) C0.hx C0.hb dX9_goesTo_6 (by decide) ?_
  refine lv_istore (lv' := [(16, .int (0 : Int32)), (15, .int (-1 : Int32)), (14, .int x2), (0, .ref (b0 + a0)), (1, .int x1), (2, .int x2), (3, .long y3), (5, .long y5), (7, .long y7), (9, .long y9), (11, .long y11), (13, .int x13)]) C0.hx C0.hb dX9_goesTo_7 hl (by decide) rfl (fun ls hl => ?_)
  exact w_X9_goesTo_b9 C0 hr hlocks FU a0 x1 x2 y3 y5 y7 y9 y11 x13 x2 (-1 : Int32) (0 : Int32) _ _ _ hw (lv_sub hl [3, 4, 5, 6, 7, 8, 9, 10, 11, 2, 1, 0] rfl) h
abbrev rm_X9_isWorn : Room := { frames := 0, cells := 0, slots := 0, locals := 0 }
def f_X9_isWorn (a0 : Nat) (S : Mem) : Option Int32 :=
    (gR 9 7 S a0).bind fun r1 =>
      (ldJ S r1 (3 : Int32)).bind fun u2 =>
      (if (lg_cmp u2 (50 : Int64)) < (0 : Int32) then
      some (0 : Int32)
      else
      some (1 : Int32))
set_option maxHeartbeats 4000000 in
set_option maxRecDepth 100000 in
theorem m_X9_isWorn (l : Launch) (b0 : Nat) (D : va_G) (cy : Nat → ClassId) (S : Mem) (a0 : Nat) {q : Int32} (h : f_X9_isWorn a0 S = some q) : Met l yX9_isWorn [.code yX9_isWorn cX9_isWorn 1 (some .boolean)] rm_X9_isWorn (Pr b0 D cy S [.ref (b0 + a0)]) (Qp b0 D cy (some (.int q)) S) 0 0 (fun q => b0 ≤ q) := by
  refine Met.ofW (cc := cX9_isWorn) (maxL := 1) (ret := some .boolean) (by decide) rfl ?_
  intro p e s m args below meth c s₁ B hml hv
  obtain ⟨rfl, hP, hK, hT⟩ := hv
  have C0 : Cx p m c cX9_isWorn 1 s (List.toArray [.ref (b0 + a0)]) RX9 D cy := ⟨⟨B.exec, B.bytes, hml, findClass_of_methodNamed B.named, fun w h => hT w h _⟩, hK, hT⟩
  have hr : meth.sig.returnType = some .boolean := B.returns
  have hlocks := B.notSynchronized
  have hw : Wd b0 D cy S s.heap s.heap [] := ⟨hP, va_S.rf⟩
  have hl := lv_entry ([.ref (b0 + a0)]) (n := 1) (Nat.le_of_ble_eq_true rfl)
  rw [lg_entry_eq]
  generalize (lg_sl ([.ref (b0 + a0)]) ++ List.replicate (1 - (lg_sl ([.ref (b0 + a0)])).length) Slot.unset).toArray = ls at hl ⊢
  have hl : lv_has ls 1 [(0, .ref (b0 + a0))] := hl
  rw [f_X9_isWorn] at h
  show W p l e rm_X9_isWorn s m _ below meth c s.heap [] 0 0 _ _
  refine lv_aload_n C0.hx C0.hb dX9_isWorn_0 rfl (lv_at hl 0 rfl) ?_
  obtain ⟨r1, hr1, h⟩ := Option.bind_eq_some_iff.mp h
  refine q_getR C0 hw hr1 rfl in_9 (by decide) kw_869 dX9_isWorn_1 ?_
  refine lv_iconst (v := (3 : Int32)) C0.hx C0.hb dX9_isWorn_4 (by decide) ?_
  obtain ⟨u2, hu2, h⟩ := Option.bind_eq_some_iff.mp h
  refine q_ldJ C0 hw hu2 dX9_isWorn_5 ?_
  refine lv_ldc2 C0.hx C0.hb C0.ho (C0.w kw_1039) dX9_isWorn_6 ?_
  refine W.lcmp C0.hx C0.hb dX9_isWorn_9 ?_
  refine lv_if_lt (tgt := 17) C0.hx C0.hb dX9_isWorn_10 (by decide) (fun hc => ?_) (fun hc => ?_)
  · have h := (if_pos hc).symm.trans h
    refine lv_iconst (v := (0 : Int32)) C0.hx C0.hb dX9_isWorn_17 (by decide) ?_
    obtain rfl := Option.some.inj h
    exact q_retz C0 hw (Or.inl rfl) hr hlocks dX9_isWorn_18
  · have h := (if_neg hc).symm.trans h
    refine lv_iconst (v := (1 : Int32)) C0.hx C0.hb dX9_isWorn_13 (by decide) ?_
    refine lv_goto (tgt := 18) C0.hx C0.hb dX9_isWorn_14 (by decide) ?_
    obtain rfl := Option.some.inj h
    exact q_retz C0 hw (Or.inr rfl) hr hlocks dX9_isWorn_18
abbrev rm_X9_goesNext : Room := { frames := 2, cells := 0, slots := 0, locals := 65 }
def f_X9_goesNext (a0 : Nat) (x1 : Int32) (y2 : Int64) (S : Mem) : Option Int32 :=
    (ck 9 S a0).bind fun c1 =>
      (f_X9_at a0 (2 : Int32) S).bind fun v2 =>
      (gR 9 7 S a0).bind fun r3 =>
      (ldJ S r3 (5 : Int32)).bind fun u4 =>
      (gR 9 7 S a0).bind fun r5 =>
      (ldJ S r5 (6 : Int32)).bind fun u6 =>
      (ck 9 S a0).bind fun c7 =>
      (f_X9_noises a0 S).bind fun u8 =>
      (ck 9 S a0).bind fun c9 =>
      (f_X9_counts a0 S).bind fun u10 =>
      (ck 9 S a0).bind fun c11 =>
      (f_X9_isWorn a0 S).bind fun v12 =>
      (ck 9 S a0).bind fun c13 =>
      (f_X9_goesTo a0 x1 v2 y2 u4 u6 u8 u10 v12 S).bind fun v14 =>
      some v14
set_option maxHeartbeats 4000000 in
set_option maxRecDepth 100000 in
theorem m_X9_goesNext (l : Launch) (b0 : Nat) (D : va_G) (cy : Nat → ClassId) (S : Mem) (a0 : Nat) (x1 : Int32) (y2 : Int64) {q : Int32} (h : f_X9_goesNext a0 x1 y2 S = some q) : Met l yX9_goesNext [.code yX9_goesNext cX9_goesNext 4 (some .int)] rm_X9_goesNext (Pr b0 D cy S [.ref (b0 + a0), .int x1, .long y2]) (Qp b0 D cy (some (.int q)) S) 0 0 (fun q => b0 ≤ q) := by
  refine Met.ofW (cc := cX9_goesNext) (maxL := 4) (ret := some .int) (by decide) rfl ?_
  intro p e s m args below meth c s₁ B hml hv
  obtain ⟨rfl, hP, hK, hT⟩ := hv
  have C0 : Cx p m c cX9_goesNext 4 s (List.toArray [.ref (b0 + a0), .int x1, .long y2]) RX9 D cy := ⟨⟨B.exec, B.bytes, hml, findClass_of_methodNamed B.named, fun w h => hT w h _⟩, hK, hT⟩
  have hr : meth.sig.returnType = some .int := B.returns
  have hlocks := B.notSynchronized
  have hw : Wd b0 D cy S s.heap s.heap [] := ⟨hP, va_S.rf⟩
  have hl := lv_entry ([.ref (b0 + a0), .int x1, .long y2]) (n := 4) (Nat.le_of_ble_eq_true rfl)
  rw [lg_entry_eq]
  generalize (lg_sl ([.ref (b0 + a0), .int x1, .long y2]) ++ List.replicate (4 - (lg_sl ([.ref (b0 + a0), .int x1, .long y2])).length) Slot.unset).toArray = ls at hl ⊢
  have hl : lv_has ls 4 [(0, .ref (b0 + a0)), (1, .int x1), (2, .long y2)] := hl
  rw [f_X9_goesNext] at h
  show W p l e rm_X9_goesNext s m _ below meth c s.heap [] 0 0 _ _
  refine lv_aload_n C0.hx C0.hb dX9_goesNext_0 rfl (lv_at hl 0 rfl) ?_
  refine lv_iload_n C0.hx C0.hb dX9_goesNext_1 rfl (lv_at hl 1 rfl) ?_
  refine lv_aload_n C0.hx C0.hb dX9_goesNext_2 rfl (lv_at hl 0 rfl) ?_
  refine lv_iconst (v := (2 : Int32)) C0.hx C0.hb dX9_goesNext_3 (by decide) ?_
  obtain ⟨c1, hc1, h⟩ := Option.bind_eq_some_iff.mp h
  obtain ⟨v2, hv2, h⟩ := Option.bind_eq_some_iff.mp h
  refine q_callV (n := 1) (av := [.int (2 : Int32)]) (rest := [.int x1, .ref (b0 + a0)]) (st1 := [.int v2, .int x1, .ref (b0 + a0)]) C0 hw (m_X9_at l b0 D cy S a0 (2 : Int32) hv2) hc1 rfl (by decide) (goodV kw_1013 kw_1015 kw_34 kw_72 kw_1016) ⟨rfl, rfl⟩ (by decide +kernel) ⟨(Nat.le_of_ble_eq_true rfl), (Nat.le_of_ble_eq_true rfl)⟩ rfl hl.1 rfl (Nat.le_of_ble_eq_true rfl) dX9_goesNext_4 ⟨Nat.zero_le _, Nat.zero_le _⟩ rfl (fun H locs hw => ?_)
  refine lv_lload_n C0.hx C0.hb dX9_goesNext_7 rfl (lv_at hl 2 rfl) ?_
  refine lv_aload_n C0.hx C0.hb dX9_goesNext_8 rfl (lv_at hl 0 rfl) ?_
  obtain ⟨r3, hr3, h⟩ := Option.bind_eq_some_iff.mp h
  refine q_getR C0 hw hr3 rfl in_9 (by decide) kw_869 dX9_goesNext_9 ?_
  refine lv_iconst (v := (5 : Int32)) C0.hx C0.hb dX9_goesNext_12 (by decide) ?_
  obtain ⟨u4, hu4, h⟩ := Option.bind_eq_some_iff.mp h
  refine q_ldJ C0 hw hu4 dX9_goesNext_13 ?_
  refine lv_aload_n C0.hx C0.hb dX9_goesNext_14 rfl (lv_at hl 0 rfl) ?_
  obtain ⟨r5, hr5, h⟩ := Option.bind_eq_some_iff.mp h
  refine q_getR C0 hw hr5 rfl in_9 (by decide) kw_869 dX9_goesNext_15 ?_
  refine lv_bipush (v := (6 : Int32)) C0.hx C0.hb dX9_goesNext_18 (by decide) ?_
  obtain ⟨u6, hu6, h⟩ := Option.bind_eq_some_iff.mp h
  refine q_ldJ C0 hw hu6 dX9_goesNext_20 ?_
  refine lv_aload_n C0.hx C0.hb dX9_goesNext_21 rfl (lv_at hl 0 rfl) ?_
  obtain ⟨c7, hc7, h⟩ := Option.bind_eq_some_iff.mp h
  obtain ⟨u8, hu8, h⟩ := Option.bind_eq_some_iff.mp h
  refine q_callVw 9 (n := 0) (av := []) (rest := [.long u6, .long u4, .long y2, .int v2, .int x1, .ref (b0 + a0)]) (st1 := [.long u8, .long u6, .long u4, .long y2, .int v2, .int x1, .ref (b0 + a0)]) C0 hw (m_X9_noises l b0 D cy S a0 hu8) hc7 rfl (by decide) (goodV kw_1100 kw_1102 kw_48 kw_72 kw_1103) ⟨rfl, rfl⟩ (by decide +kernel) ⟨(Nat.le_of_ble_eq_true rfl), (Nat.le_of_ble_eq_true rfl)⟩ rfl hl.1 rfl (Nat.le_of_ble_eq_true rfl) dX9_goesNext_22 ⟨Nat.zero_le _, Nat.zero_le _⟩ rfl (fun H locs hw => ?_)
  refine lv_aload_n C0.hx C0.hb dX9_goesNext_25 rfl (lv_at hl 0 rfl) ?_
  obtain ⟨c9, hc9, h⟩ := Option.bind_eq_some_iff.mp h
  obtain ⟨u10, hu10, h⟩ := Option.bind_eq_some_iff.mp h
  refine q_callVw 11 (n := 0) (av := []) (rest := [.long u8, .long u6, .long u4, .long y2, .int v2, .int x1, .ref (b0 + a0)]) (st1 := [.long u10, .long u8, .long u6, .long u4, .long y2, .int v2, .int x1, .ref (b0 + a0)]) C0 hw (m_X9_counts l b0 D cy S a0 hu10) hc9 rfl (by decide) (goodV kw_1029 kw_1031 kw_36 kw_72 kw_1032) ⟨rfl, rfl⟩ (by decide +kernel) ⟨(Nat.le_of_ble_eq_true rfl), (Nat.le_of_ble_eq_true rfl)⟩ rfl hl.1 rfl (Nat.le_of_ble_eq_true rfl) dX9_goesNext_26 ⟨Nat.zero_le _, Nat.zero_le _⟩ rfl (fun H locs hw => ?_)
  refine lv_aload_n C0.hx C0.hb dX9_goesNext_29 rfl (lv_at hl 0 rfl) ?_
  obtain ⟨c11, hc11, h⟩ := Option.bind_eq_some_iff.mp h
  obtain ⟨v12, hv12, h⟩ := Option.bind_eq_some_iff.mp h
  refine q_callVw 13 (n := 0) (av := []) (rest := [.long u10, .long u8, .long u6, .long u4, .long y2, .int v2, .int x1, .ref (b0 + a0)]) (st1 := [.int v12, .long u10, .long u8, .long u6, .long u4, .long y2, .int v2, .int x1, .ref (b0 + a0)]) C0 hw (m_X9_isWorn l b0 D cy S a0 hv12) hc11 rfl (by decide) (goodV kw_1035 kw_1037 kw_37 kw_72 kw_1038) ⟨rfl, rfl⟩ (by decide +kernel) ⟨(Nat.le_of_ble_eq_true rfl), (Nat.le_of_ble_eq_true rfl)⟩ rfl hl.1 rfl (Nat.le_of_ble_eq_true rfl) dX9_goesNext_30 ⟨Nat.zero_le _, Nat.zero_le _⟩ rfl (fun H locs hw => ?_)
  obtain ⟨c13, hc13, h⟩ := Option.bind_eq_some_iff.mp h
  obtain ⟨v14, hv14, h⟩ := Option.bind_eq_some_iff.mp h
  refine q_callV (n := 8) (av := [.int x1, .int v2, .long y2, .long u4, .long u6, .long u8, .long u10, .int v12]) (rest := []) (st1 := [.int v14]) C0 hw (m_X9_goesTo l b0 D cy S a0 x1 v2 y2 u4 u6 u8 u10 v12 hv14) hc13 rfl (by decide) (goodV kw_1104 kw_1106 kw_49 kw_72 kw_1107) ⟨rfl, rfl⟩ (by decide +kernel) ⟨(Nat.le_of_ble_eq_true rfl), (Nat.le_of_ble_eq_true rfl)⟩ rfl hl.1 rfl (Nat.le_of_ble_eq_true rfl) dX9_goesNext_33 ⟨Nat.zero_le _, Nat.zero_le _⟩ rfl (fun H locs hw => ?_)
  obtain rfl := Option.some.inj h
  exact q_reti C0 hw hr hlocks dX9_goesNext_36
abbrev rm_X9_remembers : Room := { frames := 1, cells := 0, slots := 0, locals := 23 }
def f_X9_remembers_b131 (a0 : Nat) (x2 : Int32) (t0 : Int64) (t1 : Int64) (t2 : Int32) (t3 : Nat) (S : Mem) : Option Mem :=
    (stJ S t3 t2 (t1 ||| t0)).bind fun S17 =>
      (gR 9 7 S17 a0).bind fun r18 =>
      (ck 9 S17 a0).bind fun c19 =>
      (f_X9_noises a0 S17).bind fun u20 =>
      (stJ S17 r18 (x2 + (1 : Int32)) u20).bind fun S21 =>
      (gR 9 7 S21 a0).bind fun r22 =>
      (ck 9 S21 a0).bind fun c23 =>
      (f_X9_counts a0 S21).bind fun u24 =>
      (stJ S21 r22 (x2 + (2 : Int32)) u24).bind fun S25 =>
      (gR 9 7 S25 a0).bind fun r26 =>
      (ldJ S25 r26 (9 : Int32)).bind fun u27 =>
      (stJ S25 r26 (9 : Int32) (u27 + (1 : Int64))).bind fun S28 =>
      some S28
def f_X9_remembers_b58 (a0 : Nat) (x1 : Int32) (S : Mem) : Option Mem :=
    (ck 9 S a0).bind fun c3 =>
      (f_X9_at a0 (9 : Int32) S).bind fun v4 =>
      (some ((32 : Int32) + ((3 : Int32) * v4))).bind fun v5 =>
      (gR 9 7 S a0).bind fun r6 =>
      (gR 9 7 S a0).bind fun r7 =>
      (ldJ S r7 (2 : Int32)).bind fun u8 =>
      (gR 9 7 S a0).bind fun r9 =>
      (ldJ S r9 (4 : Int32)).bind fun u10 =>
      (gR 9 7 S a0).bind fun r11 =>
      (ldJ S r11 (5 : Int32)).bind fun u12 =>
      (gR 9 7 S a0).bind fun r13 =>
      (ldJ S r13 (6 : Int32)).bind fun u14 =>
      (ck 9 S a0).bind fun c15 =>
      (f_X9_isWorn a0 S).bind fun v16 =>
      (if v16 = (0 : Int32) then
      f_X9_remembers_b131 a0 v5 (0 : Int64) ((((u8 ||| (x1.toInt64 <<< ((3 : Int32).toInt64 &&& 63))) ||| (u10 <<< ((6 : Int32).toInt64 &&& 63))) ||| (u12 <<< ((14 : Int32).toInt64 &&& 63))) ||| (u14 <<< ((22 : Int32).toInt64 &&& 63))) v5 r6 S
      else
      f_X9_remembers_b131 a0 v5 (17179869184 : Int64) ((((u8 ||| (x1.toInt64 <<< ((3 : Int32).toInt64 &&& 63))) ||| (u10 <<< ((6 : Int32).toInt64 &&& 63))) ||| (u12 <<< ((14 : Int32).toInt64 &&& 63))) ||| (u14 <<< ((22 : Int32).toInt64 &&& 63))) v5 r6 S)
def f_X9_remembers_b16 : Nat → Nat → Int32 → Int32 → Mem → Option Mem
  | 0, _, _, _, _ => none
  | n + 1, a0, x1, x2, S =>
    (if (48 : Int32) ≤ x2 then
      (gR 9 7 S a0).bind fun r29 =>
      (stJ S r29 (9 : Int32) (15 : Int64)).bind fun S30 =>
      f_X9_remembers_b58 a0 x1 S30
      else
      (gR 9 7 S a0).bind fun r31 =>
      (gR 9 7 S a0).bind fun r32 =>
      (ldJ S r32 ((32 : Int32) + x2)).bind fun u33 =>
      (stJ S r31 (((32 : Int32) + x2) - (3 : Int32)) u33).bind fun S34 =>
      (some (x2 + (1 : Int32))).bind fun v35 =>
      f_X9_remembers_b16  n a0 x1 v35 S34)
def f_X9_remembers (a0 : Nat) (x1 : Int32) (S : Mem) : Option Mem :=
    (gR 9 7 S a0).bind fun r1 =>
      (ldJ S r1 (9 : Int32)).bind fun u2 =>
      (if (lg_cmp u2 (16 : Int64)) = (0 : Int32) then
      f_X9_remembers_b16 FU a0 x1 (3 : Int32) S
      else
      f_X9_remembers_b58 a0 x1 S)
set_option maxHeartbeats 4000000 in
set_option maxRecDepth 100000 in
theorem w_X9_remembers_b131 {p : Program} {l : Launch} {e : Env} {s : State} {m : MethodId} {args : Array Value} {below : List Frame} {meth : Method} {c : Code} {b0 : Nat} {D : va_G} {cy : Nat → ClassId} {q : Mem} (C0 : Cx p m c cX9_remembers 3 s args RX9 D cy) (hr : meth.sig.returnType = none) (hlocks : meth.locks = false) : ∀ (a0 : Nat) (x2 : Int32) (t0 : Int64) (t1 : Int64) (t2 : Int32) (t3 : Nat) (S : Mem) (H : Heap) (locs : List Loc) (ls : Array Slot), Wd b0 D cy S s.heap H locs → lv_has ls 3 [(0, .ref (b0 + a0)), (2, .int x2)] → f_X9_remembers_b131  a0 x2 t0 t1 t2 t3 S = some q → W p l e rm_X9_remembers s m args below meth c H locs 0 0 (MQ below (Qp b0 D cy none q) args s 0 0 (fun q => b0 ≤ q)) (F0 m 131 ls [.long t0, .long t1, .int t2, .ref (b0 + t3)]) := by
  intro a0 x2 t0 t1 t2 t3 S H locs ls hw hl h
  rw [f_X9_remembers_b131] at h
  refine lv_lor C0.hx C0.hb dX9_remembers_131 ?_
  obtain ⟨S17, hS17, h⟩ := Option.bind_eq_some_iff.mp h
  refine q_stJ C0 hw hS17 dX9_remembers_132 (fun H locs hw => ?_)
  refine lv_aload_n C0.hx C0.hb dX9_remembers_133 rfl (lv_at hl 0 rfl) ?_
  obtain ⟨r18, hr18, h⟩ := Option.bind_eq_some_iff.mp h
  refine q_getR C0 hw hr18 rfl in_9 (by decide) kw_869 dX9_remembers_134 ?_
  refine lv_iload_n C0.hx C0.hb dX9_remembers_137 rfl (lv_at hl 1 rfl) ?_
  refine lv_iconst (v := (1 : Int32)) C0.hx C0.hb dX9_remembers_138 (by decide) ?_
  refine lv_iadd C0.hx C0.hb dX9_remembers_139 ?_
  refine lv_aload_n C0.hx C0.hb dX9_remembers_140 rfl (lv_at hl 0 rfl) ?_
  obtain ⟨c19, hc19, h⟩ := Option.bind_eq_some_iff.mp h
  obtain ⟨u20, hu20, h⟩ := Option.bind_eq_some_iff.mp h
  refine q_callV (n := 0) (av := []) (rest := [.int (x2 + (1 : Int32)), .ref (b0 + r18)]) (st1 := [.long u20, .int (x2 + (1 : Int32)), .ref (b0 + r18)]) C0 hw (m_X9_noises l b0 D cy S17 a0 hu20) hc19 rfl (by decide) (goodV kw_1100 kw_1102 kw_48 kw_72 kw_1103) ⟨rfl, rfl⟩ (by decide +kernel) ⟨(Nat.le_of_ble_eq_true rfl), (Nat.le_of_ble_eq_true rfl)⟩ rfl hl.1 rfl (Nat.le_of_ble_eq_true rfl) dX9_remembers_141 ⟨Nat.zero_le _, Nat.zero_le _⟩ rfl (fun H locs hw => ?_)
  obtain ⟨S21, hS21, h⟩ := Option.bind_eq_some_iff.mp h
  refine q_stJ C0 hw hS21 dX9_remembers_144 (fun H locs hw => ?_)
  refine lv_aload_n C0.hx C0.hb dX9_remembers_145 rfl (lv_at hl 0 rfl) ?_
  obtain ⟨r22, hr22, h⟩ := Option.bind_eq_some_iff.mp h
  refine q_getR C0 hw hr22 rfl in_9 (by decide) kw_869 dX9_remembers_146 ?_
  refine lv_iload_n C0.hx C0.hb dX9_remembers_149 rfl (lv_at hl 1 rfl) ?_
  refine lv_iconst (v := (2 : Int32)) C0.hx C0.hb dX9_remembers_150 (by decide) ?_
  refine lv_iadd C0.hx C0.hb dX9_remembers_151 ?_
  refine lv_aload_n C0.hx C0.hb dX9_remembers_152 rfl (lv_at hl 0 rfl) ?_
  obtain ⟨c23, hc23, h⟩ := Option.bind_eq_some_iff.mp h
  obtain ⟨u24, hu24, h⟩ := Option.bind_eq_some_iff.mp h
  refine q_callV (n := 0) (av := []) (rest := [.int (x2 + (2 : Int32)), .ref (b0 + r22)]) (st1 := [.long u24, .int (x2 + (2 : Int32)), .ref (b0 + r22)]) C0 hw (m_X9_counts l b0 D cy S21 a0 hu24) hc23 rfl (by decide) (goodV kw_1029 kw_1031 kw_36 kw_72 kw_1032) ⟨rfl, rfl⟩ (by decide +kernel) ⟨(Nat.le_of_ble_eq_true rfl), (Nat.le_of_ble_eq_true rfl)⟩ rfl hl.1 rfl (Nat.le_of_ble_eq_true rfl) dX9_remembers_153 ⟨Nat.zero_le _, Nat.zero_le _⟩ rfl (fun H locs hw => ?_)
  obtain ⟨S25, hS25, h⟩ := Option.bind_eq_some_iff.mp h
  refine q_stJ C0 hw hS25 dX9_remembers_156 (fun H locs hw => ?_)
  refine lv_aload_n C0.hx C0.hb dX9_remembers_157 rfl (lv_at hl 0 rfl) ?_
  obtain ⟨r26, hr26, h⟩ := Option.bind_eq_some_iff.mp h
  refine q_getR C0 hw hr26 rfl in_9 (by decide) kw_869 dX9_remembers_158 ?_
  refine lv_bipush (v := (9 : Int32)) C0.hx C0.hb dX9_remembers_161 (by decide) ?_
  refine lv_dup2_11 C0.hx C0.hb dX9_remembers_163 rfl rfl ?_
  obtain ⟨u27, hu27, h⟩ := Option.bind_eq_some_iff.mp h
  refine q_ldJ C0 hw hu27 dX9_remembers_164 ?_
  refine lv_lconst (v := (1 : Int64)) C0.hx C0.hb dX9_remembers_165 (by decide) ?_
  refine lv_ladd C0.hx C0.hb dX9_remembers_166 ?_
  obtain ⟨S28, hS28, h⟩ := Option.bind_eq_some_iff.mp h
  refine q_stJ C0 hw hS28 dX9_remembers_167 (fun H locs hw => ?_)
  obtain rfl := Option.some.inj h
  exact q_retv C0 hw hr hlocks dX9_remembers_168
set_option maxHeartbeats 4000000 in
set_option maxRecDepth 100000 in
theorem w_X9_remembers_b58 {p : Program} {l : Launch} {e : Env} {s : State} {m : MethodId} {args : Array Value} {below : List Frame} {meth : Method} {c : Code} {b0 : Nat} {D : va_G} {cy : Nat → ClassId} {q : Mem} (C0 : Cx p m c cX9_remembers 3 s args RX9 D cy) (hr : meth.sig.returnType = none) (hlocks : meth.locks = false) : ∀ (a0 : Nat) (x1 : Int32) (S : Mem) (H : Heap) (locs : List Loc) (ls : Array Slot), Wd b0 D cy S s.heap H locs → lv_has ls 3 [(0, .ref (b0 + a0)), (1, .int x1)] → f_X9_remembers_b58  a0 x1 S = some q → W p l e rm_X9_remembers s m args below meth c H locs 0 0 (MQ below (Qp b0 D cy none q) args s 0 0 (fun q => b0 ≤ q)) (F0 m 58 ls []) := by
  intro a0 x1 S H locs ls hw hl h
  rw [f_X9_remembers_b58] at h
  refine lv_bipush (v := (32 : Int32)) C0.hx C0.hb dX9_remembers_58 (by decide) ?_
  refine lv_iconst (v := (3 : Int32)) C0.hx C0.hb dX9_remembers_60 (by decide) ?_
  refine lv_aload_n C0.hx C0.hb dX9_remembers_61 rfl (lv_at hl 0 rfl) ?_
  refine lv_bipush (v := (9 : Int32)) C0.hx C0.hb dX9_remembers_62 (by decide) ?_
  obtain ⟨c3, hc3, h⟩ := Option.bind_eq_some_iff.mp h
  obtain ⟨v4, hv4, h⟩ := Option.bind_eq_some_iff.mp h
  refine q_callV (n := 1) (av := [.int (9 : Int32)]) (rest := [.int (3 : Int32), .int (32 : Int32)]) (st1 := [.int v4, .int (3 : Int32), .int (32 : Int32)]) C0 hw (m_X9_at l b0 D cy S a0 (9 : Int32) hv4) hc3 rfl (by decide) (goodV kw_1013 kw_1015 kw_34 kw_72 kw_1016) ⟨rfl, rfl⟩ (by decide +kernel) ⟨(Nat.le_of_ble_eq_true rfl), (Nat.le_of_ble_eq_true rfl)⟩ rfl hl.1 rfl (Nat.le_of_ble_eq_true rfl) dX9_remembers_64 ⟨Nat.zero_le _, Nat.zero_le _⟩ rfl (fun H locs hw => ?_)
  refine lv_imul C0.hx C0.hb dX9_remembers_67 ?_
  refine lv_iadd C0.hx C0.hb dX9_remembers_68 ?_
  obtain ⟨v5, hv5, h⟩ := Option.bind_eq_some_iff.mp h
  refine q_nmI hv5 ?_
  refine lv_istore_n (lv' := [(2, .int v5), (0, .ref (b0 + a0)), (1, .int x1)]) C0.hx C0.hb dX9_remembers_69 rfl hl (by decide) rfl (fun ls hl => ?_)
  refine lv_aload_n C0.hx C0.hb dX9_remembers_70 rfl (lv_at hl 1 rfl) ?_
  obtain ⟨r6, hr6, h⟩ := Option.bind_eq_some_iff.mp h
  refine q_getR C0 hw hr6 rfl in_9 (by decide) kw_869 dX9_remembers_71 ?_
  refine lv_iload_n C0.hx C0.hb dX9_remembers_74 rfl (lv_at hl 0 rfl) ?_
  refine lv_aload_n C0.hx C0.hb dX9_remembers_75 rfl (lv_at hl 1 rfl) ?_
  obtain ⟨r7, hr7, h⟩ := Option.bind_eq_some_iff.mp h
  refine q_getR C0 hw hr7 rfl in_9 (by decide) kw_869 dX9_remembers_76 ?_
  refine lv_iconst (v := (2 : Int32)) C0.hx C0.hb dX9_remembers_79 (by decide) ?_
  obtain ⟨u8, hu8, h⟩ := Option.bind_eq_some_iff.mp h
  refine q_ldJ C0 hw hu8 dX9_remembers_80 ?_
  refine lv_iload_n C0.hx C0.hb dX9_remembers_81 rfl (lv_at hl 2 rfl) ?_
  refine lv_i2l C0.hx C0.hb dX9_remembers_82 rfl ?_
  refine lv_iconst (v := (3 : Int32)) C0.hx C0.hb dX9_remembers_83 (by decide) ?_
  refine lv_lshl C0.hx C0.hb dX9_remembers_84 rfl ?_
  refine lv_lor C0.hx C0.hb dX9_remembers_85 ?_
  refine lv_aload_n C0.hx C0.hb dX9_remembers_86 rfl (lv_at hl 1 rfl) ?_
  obtain ⟨r9, hr9, h⟩ := Option.bind_eq_some_iff.mp h
  refine q_getR C0 hw hr9 rfl in_9 (by decide) kw_869 dX9_remembers_87 ?_
  refine lv_iconst (v := (4 : Int32)) C0.hx C0.hb dX9_remembers_90 (by decide) ?_
  obtain ⟨u10, hu10, h⟩ := Option.bind_eq_some_iff.mp h
  refine q_ldJ C0 hw hu10 dX9_remembers_91 ?_
  refine lv_bipush (v := (6 : Int32)) C0.hx C0.hb dX9_remembers_92 (by decide) ?_
  refine lv_lshl C0.hx C0.hb dX9_remembers_94 rfl ?_
  refine lv_lor C0.hx C0.hb dX9_remembers_95 ?_
  refine lv_aload_n C0.hx C0.hb dX9_remembers_96 rfl (lv_at hl 1 rfl) ?_
  obtain ⟨r11, hr11, h⟩ := Option.bind_eq_some_iff.mp h
  refine q_getR C0 hw hr11 rfl in_9 (by decide) kw_869 dX9_remembers_97 ?_
  refine lv_iconst (v := (5 : Int32)) C0.hx C0.hb dX9_remembers_100 (by decide) ?_
  obtain ⟨u12, hu12, h⟩ := Option.bind_eq_some_iff.mp h
  refine q_ldJ C0 hw hu12 dX9_remembers_101 ?_
  refine lv_bipush (v := (14 : Int32)) C0.hx C0.hb dX9_remembers_102 (by decide) ?_
  refine lv_lshl C0.hx C0.hb dX9_remembers_104 rfl ?_
  refine lv_lor C0.hx C0.hb dX9_remembers_105 ?_
  refine lv_aload_n C0.hx C0.hb dX9_remembers_106 rfl (lv_at hl 1 rfl) ?_
  obtain ⟨r13, hr13, h⟩ := Option.bind_eq_some_iff.mp h
  refine q_getR C0 hw hr13 rfl in_9 (by decide) kw_869 dX9_remembers_107 ?_
  refine lv_bipush (v := (6 : Int32)) C0.hx C0.hb dX9_remembers_110 (by decide) ?_
  obtain ⟨u14, hu14, h⟩ := Option.bind_eq_some_iff.mp h
  refine q_ldJ C0 hw hu14 dX9_remembers_112 ?_
  refine lv_bipush (v := (22 : Int32)) C0.hx C0.hb dX9_remembers_113 (by decide) ?_
  refine lv_lshl C0.hx C0.hb dX9_remembers_115 rfl ?_
  refine lv_lor C0.hx C0.hb dX9_remembers_116 ?_
  refine lv_aload_n C0.hx C0.hb dX9_remembers_117 rfl (lv_at hl 1 rfl) ?_
  obtain ⟨c15, hc15, h⟩ := Option.bind_eq_some_iff.mp h
  obtain ⟨v16, hv16, h⟩ := Option.bind_eq_some_iff.mp h
  refine q_callV (n := 0) (av := []) (rest := [.long ((((u8 ||| (x1.toInt64 <<< ((3 : Int32).toInt64 &&& 63))) ||| (u10 <<< ((6 : Int32).toInt64 &&& 63))) ||| (u12 <<< ((14 : Int32).toInt64 &&& 63))) ||| (u14 <<< ((22 : Int32).toInt64 &&& 63))), .int v5, .ref (b0 + r6)]) (st1 := [.int v16, .long ((((u8 ||| (x1.toInt64 <<< ((3 : Int32).toInt64 &&& 63))) ||| (u10 <<< ((6 : Int32).toInt64 &&& 63))) ||| (u12 <<< ((14 : Int32).toInt64 &&& 63))) ||| (u14 <<< ((22 : Int32).toInt64 &&& 63))), .int v5, .ref (b0 + r6)]) C0 hw (m_X9_isWorn l b0 D cy S a0 hv16) hc15 rfl (by decide) (goodV kw_1035 kw_1037 kw_37 kw_72 kw_1038) ⟨rfl, rfl⟩ (by decide +kernel) ⟨(Nat.le_of_ble_eq_true rfl), (Nat.le_of_ble_eq_true rfl)⟩ rfl hl.1 rfl (Nat.le_of_ble_eq_true rfl) dX9_remembers_118 ⟨Nat.zero_le _, Nat.zero_le _⟩ rfl (fun H locs hw => ?_)
  refine lv_if_eq (tgt := 130) C0.hx C0.hb dX9_remembers_121 (by decide) (fun hc => ?_) (fun hc => ?_)
  · have h := (if_pos hc).symm.trans h
    refine lv_lconst (v := (0 : Int64)) C0.hx C0.hb dX9_remembers_130 (by decide) ?_
    exact w_X9_remembers_b131 C0 hr hlocks a0 v5 (0 : Int64) ((((u8 ||| (x1.toInt64 <<< ((3 : Int32).toInt64 &&& 63))) ||| (u10 <<< ((6 : Int32).toInt64 &&& 63))) ||| (u12 <<< ((14 : Int32).toInt64 &&& 63))) ||| (u14 <<< ((22 : Int32).toInt64 &&& 63))) v5 r6 S _ _ _ hw (lv_sub hl [1, 0] rfl) h
  · have h := (if_neg hc).symm.trans h
    refine lv_ldc2 C0.hx C0.hb C0.ho (C0.w kw_1113) dX9_remembers_124 ?_
    refine lv_goto (tgt := 131) C0.hx C0.hb dX9_remembers_127 (by decide) ?_
    exact w_X9_remembers_b131 C0 hr hlocks a0 v5 (17179869184 : Int64) ((((u8 ||| (x1.toInt64 <<< ((3 : Int32).toInt64 &&& 63))) ||| (u10 <<< ((6 : Int32).toInt64 &&& 63))) ||| (u12 <<< ((14 : Int32).toInt64 &&& 63))) ||| (u14 <<< ((22 : Int32).toInt64 &&& 63))) v5 r6 S _ _ _ hw (lv_sub hl [1, 0] rfl) h
set_option maxHeartbeats 4000000 in
set_option maxRecDepth 100000 in
theorem w_X9_remembers_b16 {p : Program} {l : Launch} {e : Env} {s : State} {m : MethodId} {args : Array Value} {below : List Frame} {meth : Method} {c : Code} {b0 : Nat} {D : va_G} {cy : Nat → ClassId} {q : Mem} (C0 : Cx p m c cX9_remembers 3 s args RX9 D cy) (hr : meth.sig.returnType = none) (hlocks : meth.locks = false) : ∀ (n : Nat) (a0 : Nat) (x1 : Int32) (x2 : Int32) (S : Mem) (H : Heap) (locs : List Loc) (ls : Array Slot), Wd b0 D cy S s.heap H locs → lv_has ls 3 [(0, .ref (b0 + a0)), (1, .int x1), (2, .int x2)] → f_X9_remembers_b16  n a0 x1 x2 S = some q → W p l e rm_X9_remembers s m args below meth c H locs 0 0 (MQ below (Qp b0 D cy none q) args s 0 0 (fun q => b0 ≤ q)) (F0 m 16 ls []) := by
  intro n
  induction n with
  | zero => intro a0 x1 x2 S H locs ls hw hl h; exact absurd h (by simp [f_X9_remembers_b16])
  | succ n ih =>
    intro a0 x1 x2 S H locs ls hw hl h
    rw [f_X9_remembers_b16] at h
    refine lv_iload_n C0.hx C0.hb dX9_remembers_16 rfl (lv_at hl 2 rfl) ?_
    refine lv_bipush (v := (48 : Int32)) C0.hx C0.hb dX9_remembers_17 (by decide) ?_
    refine lv_icmp_ge (tgt := 48) C0.hx C0.hb dX9_remembers_19 (by decide) (fun hc => ?_) (fun hc => ?_)
    · have h := (if_pos hc).symm.trans h
      refine lv_aload_n C0.hx C0.hb dX9_remembers_48 rfl (lv_at hl 0 rfl) ?_
      obtain ⟨r29, hr29, h⟩ := Option.bind_eq_some_iff.mp h
      refine q_getR C0 hw hr29 rfl in_9 (by decide) kw_869 dX9_remembers_49 ?_
      refine lv_bipush (v := (9 : Int32)) C0.hx C0.hb dX9_remembers_52 (by decide) ?_
      refine lv_ldc2 C0.hx C0.hb C0.ho (C0.w kw_1034) dX9_remembers_54 ?_
      obtain ⟨S30, hS30, h⟩ := Option.bind_eq_some_iff.mp h
      refine q_stJ C0 hw hS30 dX9_remembers_57 (fun H locs hw => ?_)
      exact w_X9_remembers_b58 C0 hr hlocks a0 x1 S30 _ _ _ hw (lv_sub hl [0, 1] rfl) h
    · have h := (if_neg hc).symm.trans h
      refine lv_aload_n C0.hx C0.hb dX9_remembers_22 rfl (lv_at hl 0 rfl) ?_
      obtain ⟨r31, hr31, h⟩ := Option.bind_eq_some_iff.mp h
      refine q_getR C0 hw hr31 rfl in_9 (by decide) kw_869 dX9_remembers_23 ?_
      refine lv_bipush (v := (32 : Int32)) C0.hx C0.hb dX9_remembers_26 (by decide) ?_
      refine lv_iload_n C0.hx C0.hb dX9_remembers_28 rfl (lv_at hl 2 rfl) ?_
      refine lv_iadd C0.hx C0.hb dX9_remembers_29 ?_
      refine lv_iconst (v := (3 : Int32)) C0.hx C0.hb dX9_remembers_30 (by decide) ?_
      refine lv_isub C0.hx C0.hb dX9_remembers_31 ?_
      refine lv_aload_n C0.hx C0.hb dX9_remembers_32 rfl (lv_at hl 0 rfl) ?_
      obtain ⟨r32, hr32, h⟩ := Option.bind_eq_some_iff.mp h
      refine q_getR C0 hw hr32 rfl in_9 (by decide) kw_869 dX9_remembers_33 ?_
      refine lv_bipush (v := (32 : Int32)) C0.hx C0.hb dX9_remembers_36 (by decide) ?_
      refine lv_iload_n C0.hx C0.hb dX9_remembers_38 rfl (lv_at hl 2 rfl) ?_
      refine lv_iadd C0.hx C0.hb dX9_remembers_39 ?_
      obtain ⟨u33, hu33, h⟩ := Option.bind_eq_some_iff.mp h
      refine q_ldJ C0 hw hu33 dX9_remembers_40 ?_
      obtain ⟨S34, hS34, h⟩ := Option.bind_eq_some_iff.mp h
      refine q_stJ C0 hw hS34 dX9_remembers_41 (fun H locs hw => ?_)
      obtain ⟨v35, hv35, h⟩ := Option.bind_eq_some_iff.mp h
      refine lv_iinc (v := v35) (lv' := [(2, .int v35), (0, .ref (b0 + a0)), (1, .int x1)]) C0.hx C0.hb dX9_remembers_42 hl (k := 2) rfl (by rw [← Option.some.inj hv35]; rfl) (by decide) rfl (fun ls hl => ?_)
      refine lv_goto (tgt := 16) C0.hx C0.hb dX9_remembers_45 (by decide) ?_
      exact ih a0 x1 v35 S34 _ _ _ hw (lv_sub hl [1, 2, 0] rfl) h
set_option maxHeartbeats 4000000 in
set_option maxRecDepth 100000 in
theorem m_X9_remembers (l : Launch) (b0 : Nat) (D : va_G) (cy : Nat → ClassId) (S : Mem) (a0 : Nat) (x1 : Int32) {q : Mem} (h : f_X9_remembers a0 x1 S = some q) : Met l yX9_remembers [.code yX9_remembers cX9_remembers 3 (none)] rm_X9_remembers (Pr b0 D cy S [.ref (b0 + a0), .int x1]) (Qp b0 D cy none q) 0 0 (fun q => b0 ≤ q) := by
  refine Met.ofW (cc := cX9_remembers) (maxL := 3) (ret := none) (by decide) rfl ?_
  intro p e s m args below meth c s₁ B hml hv
  obtain ⟨rfl, hP, hK, hT⟩ := hv
  have C0 : Cx p m c cX9_remembers 3 s (List.toArray [.ref (b0 + a0), .int x1]) RX9 D cy := ⟨⟨B.exec, B.bytes, hml, findClass_of_methodNamed B.named, fun w h => hT w h _⟩, hK, hT⟩
  have hr : meth.sig.returnType = none := B.returns
  have hlocks := B.notSynchronized
  have hw : Wd b0 D cy S s.heap s.heap [] := ⟨hP, va_S.rf⟩
  have hl := lv_entry ([.ref (b0 + a0), .int x1]) (n := 3) (Nat.le_of_ble_eq_true rfl)
  rw [lg_entry_eq]
  generalize (lg_sl ([.ref (b0 + a0), .int x1]) ++ List.replicate (3 - (lg_sl ([.ref (b0 + a0), .int x1])).length) Slot.unset).toArray = ls at hl ⊢
  have hl : lv_has ls 3 [(0, .ref (b0 + a0)), (1, .int x1)] := hl
  rw [f_X9_remembers] at h
  show W p l e rm_X9_remembers s m _ below meth c s.heap [] 0 0 _ _
  refine lv_aload_n C0.hx C0.hb dX9_remembers_0 rfl (lv_at hl 0 rfl) ?_
  obtain ⟨r1, hr1, h⟩ := Option.bind_eq_some_iff.mp h
  refine q_getR C0 hw hr1 rfl in_9 (by decide) kw_869 dX9_remembers_1 ?_
  refine lv_bipush (v := (9 : Int32)) C0.hx C0.hb dX9_remembers_4 (by decide) ?_
  obtain ⟨u2, hu2, h⟩ := Option.bind_eq_some_iff.mp h
  refine q_ldJ C0 hw hu2 dX9_remembers_6 ?_
  refine lv_ldc2 C0.hx C0.hb C0.ho (C0.w kw_1112) dX9_remembers_7 ?_
  refine W.lcmp C0.hx C0.hb dX9_remembers_10 ?_
  refine lv_if_ne (tgt := 58) C0.hx C0.hb dX9_remembers_11 (by decide) (fun hc => ?_) (fun hc => ?_)
  · have h := (if_neg hc).symm.trans h
    exact w_X9_remembers_b58 C0 hr hlocks a0 x1 S _ _ _ hw (lv_sub hl [0, 1] rfl) h
  · have h := (if_pos hc).symm.trans h
    refine lv_iconst (v := (3 : Int32)) C0.hx C0.hb dX9_remembers_14 (by decide) ?_
    refine lv_istore_n (lv' := [(2, .int (3 : Int32)), (0, .ref (b0 + a0)), (1, .int x1)]) C0.hx C0.hb dX9_remembers_15 rfl hl (by decide) rfl (fun ls hl => ?_)
    exact w_X9_remembers_b16 C0 hr hlocks FU a0 x1 (3 : Int32) S _ _ _ hw (lv_sub hl [1, 2, 0] rfl) h
abbrev rm_X9_wayFrom : Room := { frames := 0, cells := 0, slots := 0, locals := 0 }
def f_X9_wayFrom (a0 : Nat) (x1 : Int32) (S : Mem) : Option Int32 :=
    (gR 9 7 S a0).bind fun r1 =>
      (ldJ S r1 ((32 : Int32) + ((3 : Int32) * x1))).bind fun u2 =>
      some ((u2 &&& (7 : Int64)).toInt32)
set_option maxHeartbeats 4000000 in
set_option maxRecDepth 100000 in
theorem m_X9_wayFrom (l : Launch) (b0 : Nat) (D : va_G) (cy : Nat → ClassId) (S : Mem) (a0 : Nat) (x1 : Int32) {q : Int32} (h : f_X9_wayFrom a0 x1 S = some q) : Met l yX9_wayFrom [.code yX9_wayFrom cX9_wayFrom 2 (some .int)] rm_X9_wayFrom (Pr b0 D cy S [.ref (b0 + a0), .int x1]) (Qp b0 D cy (some (.int q)) S) 0 0 (fun q => b0 ≤ q) := by
  refine Met.ofW (cc := cX9_wayFrom) (maxL := 2) (ret := some .int) (by decide) rfl ?_
  intro p e s m args below meth c s₁ B hml hv
  obtain ⟨rfl, hP, hK, hT⟩ := hv
  have C0 : Cx p m c cX9_wayFrom 2 s (List.toArray [.ref (b0 + a0), .int x1]) RX9 D cy := ⟨⟨B.exec, B.bytes, hml, findClass_of_methodNamed B.named, fun w h => hT w h _⟩, hK, hT⟩
  have hr : meth.sig.returnType = some .int := B.returns
  have hlocks := B.notSynchronized
  have hw : Wd b0 D cy S s.heap s.heap [] := ⟨hP, va_S.rf⟩
  have hl := lv_entry ([.ref (b0 + a0), .int x1]) (n := 2) (Nat.le_of_ble_eq_true rfl)
  rw [lg_entry_eq]
  generalize (lg_sl ([.ref (b0 + a0), .int x1]) ++ List.replicate (2 - (lg_sl ([.ref (b0 + a0), .int x1])).length) Slot.unset).toArray = ls at hl ⊢
  have hl : lv_has ls 2 [(0, .ref (b0 + a0)), (1, .int x1)] := hl
  rw [f_X9_wayFrom] at h
  show W p l e rm_X9_wayFrom s m _ below meth c s.heap [] 0 0 _ _
  refine lv_aload_n C0.hx C0.hb dX9_wayFrom_0 rfl (lv_at hl 0 rfl) ?_
  obtain ⟨r1, hr1, h⟩ := Option.bind_eq_some_iff.mp h
  refine q_getR C0 hw hr1 rfl in_9 (by decide) kw_869 dX9_wayFrom_1 ?_
  refine lv_bipush (v := (32 : Int32)) C0.hx C0.hb dX9_wayFrom_4 (by decide) ?_
  refine lv_iconst (v := (3 : Int32)) C0.hx C0.hb dX9_wayFrom_6 (by decide) ?_
  refine lv_iload_n C0.hx C0.hb dX9_wayFrom_7 rfl (lv_at hl 1 rfl) ?_
  refine lv_imul C0.hx C0.hb dX9_wayFrom_8 ?_
  refine lv_iadd C0.hx C0.hb dX9_wayFrom_9 ?_
  obtain ⟨u2, hu2, h⟩ := Option.bind_eq_some_iff.mp h
  refine q_ldJ C0 hw hu2 dX9_wayFrom_10 ?_
  refine lv_ldc2 C0.hx C0.hb C0.ho (C0.w kw_1067) dX9_wayFrom_11 ?_
  refine lv_land C0.hx C0.hb dX9_wayFrom_14 ?_
  refine lv_l2i C0.hx C0.hb dX9_wayFrom_15 rfl ?_
  obtain rfl := Option.some.inj h
  exact q_reti C0 hw hr hlocks dX9_wayFrom_16
