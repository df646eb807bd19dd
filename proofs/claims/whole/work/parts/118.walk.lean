abbrev rm_X9_write : Room := { frames := 2, cells := 0, slots := 0, locals := 46 }
def f_X9_write (a0 : Nat) (x1 : Int32) (x2 : Int32) (S : Mem) : Option (Int32 × Mem) :=
    (ck 9 S a0).bind fun c1 =>
      (f_X9_isRoom a0 x1 S).bind fun v2 =>
      (if v2 = (0 : Int32) then
      some ((-1000000001 : Int32), S)
      else
      (f_X9_in x2.toInt64 (0 : Int64) (9999 : Int64)).bind fun v3 =>
      (if v3 = (0 : Int32) then
      some ((-1000000002 : Int32), S)
      else
      (gI 9 24 S a0).bind fun v4 =>
      (if v4 = (15 : Int32) then
      some ((-1000000004 : Int32), S)
      else
      (gR 9 23 S a0).bind fun r5 =>
      (gI 9 24 S a0).bind fun v6 =>
      (stI S r5 ((2 : Int32) * v6) x1).bind fun S7 =>
      (gR 9 23 S7 a0).bind fun r8 =>
      (gI 9 24 S7 a0).bind fun v9 =>
      (stI S7 r8 (((2 : Int32) * v9) + (1 : Int32)) x2).bind fun S10 =>
      (gI 9 24 S10 a0).bind fun v11 =>
      (pI 9 24 S10 a0 (v11 + (1 : Int32))).bind fun S12 =>
      (gI 9 24 S12 a0).bind fun v13 =>
      some (v13, S12))))
set_option maxHeartbeats 4000000 in
set_option maxRecDepth 100000 in
theorem m_X9_write (l : Launch) (b0 : Nat) (D : va_G) (cy : Nat → ClassId) (S : Mem) (a0 : Nat) (x1 : Int32) (x2 : Int32) {q : (Int32 × Mem)} (h : f_X9_write a0 x1 x2 S = some q) : Met l yX9_write [.code yX9_write cX9_write 3 (some .int)] rm_X9_write (Pr b0 D cy S [.ref (b0 + a0), .int x1, .int x2]) (Qp b0 D cy (some (.int q.1)) q.2) 0 0 (fun q => b0 ≤ q) := by
  refine Met.ofW (cc := cX9_write) (maxL := 3) (ret := some .int) (by decide) rfl ?_
  intro p e s m args below meth c s₁ B hml hv
  obtain ⟨rfl, hP, hK, hT⟩ := hv
  have C0 : Cx p m c cX9_write 3 s (List.toArray [.ref (b0 + a0), .int x1, .int x2]) RX9 D cy := ⟨⟨B.exec, B.bytes, hml, findClass_of_methodNamed B.named, fun w h => hT w h _⟩, hK, hT⟩
  have hr : meth.sig.returnType = some .int := B.returns
  have hlocks := B.notSynchronized
  have hw : Wd b0 D cy S s.heap s.heap [] := ⟨hP, va_S.rf⟩
  have hl := lv_entry ([.ref (b0 + a0), .int x1, .int x2]) (n := 3) (Nat.le_of_ble_eq_true rfl)
  rw [lg_entry_eq]
  generalize (lg_sl ([.ref (b0 + a0), .int x1, .int x2]) ++ List.replicate (3 - (lg_sl ([.ref (b0 + a0), .int x1, .int x2])).length) Slot.unset).toArray = ls at hl ⊢
  have hl : lv_has ls 3 [(0, .ref (b0 + a0)), (1, .int x1), (2, .int x2)] := hl
  rw [f_X9_write] at h
  show W p l e rm_X9_write s m _ below meth c s.heap [] 0 0 _ _
  refine lv_aload_n C0.hx C0.hb dX9_write_0 rfl (lv_at hl 0 rfl) ?_
  refine lv_iload_n C0.hx C0.hb dX9_write_1 rfl (lv_at hl 1 rfl) ?_
  obtain ⟨c1, hc1, h⟩ := Option.bind_eq_some_iff.mp h
  obtain ⟨v2, hv2, h⟩ := Option.bind_eq_some_iff.mp h
  refine q_callV (n := 1) (av := [.int x1]) (rest := []) (st1 := [.int v2]) C0 hw (m_X9_isRoom l b0 D cy S a0 x1 hv2) hc1 rfl (by decide) (goodV kw_1021 kw_1023 kw_35 kw_72 kw_1024) ⟨rfl, rfl⟩ (by decide +kernel) ⟨(Nat.le_of_ble_eq_true rfl), (Nat.le_of_ble_eq_true rfl)⟩ rfl hl.1 rfl (Nat.le_of_ble_eq_true rfl) dX9_write_2 ⟨Nat.zero_le _, Nat.zero_le _⟩ rfl (fun H locs hw => ?_)
  refine lv_if_ne (tgt := 11) C0.hx C0.hb dX9_write_5 (by decide) (fun hc => ?_) (fun hc => ?_)
  · have h := (if_neg hc).symm.trans h
    refine lv_iload_n C0.hx C0.hb dX9_write_11 rfl (lv_at hl 2 rfl) ?_
    refine lv_i2l C0.hx C0.hb dX9_write_12 rfl ?_
    refine lv_lconst (v := (0 : Int64)) C0.hx C0.hb dX9_write_13 (by decide) ?_
    refine lv_ldc2 C0.hx C0.hb C0.ho (C0.w kw_1278) dX9_write_14 ?_
    obtain ⟨v3, hv3, h⟩ := Option.bind_eq_some_iff.mp h
    refine q_callS (n := 3) (av := [.long x2.toInt64, .long (0 : Int64), .long (9999 : Int64)]) (rest := []) (st1 := [.int v3]) C0 hw (m_X9_in l b0 D cy S x2.toInt64 (0 : Int64) (9999 : Int64) hv3) (goodS kw_951 kw_952 kw_72 kw_953) ⟨rfl, rfl⟩ (by decide +kernel) ⟨(Nat.le_of_ble_eq_true rfl), (Nat.le_of_ble_eq_true rfl)⟩ rfl hl.1 rfl (Nat.le_of_ble_eq_true rfl) dX9_write_17 ⟨Nat.zero_le _, Nat.zero_le _⟩ rfl (fun H locs hw => ?_)
    refine lv_if_ne (tgt := 26) C0.hx C0.hb dX9_write_20 (by decide) (fun hc => ?_) (fun hc => ?_)
    · have h := (if_neg hc).symm.trans h
      refine lv_aload_n C0.hx C0.hb dX9_write_26 rfl (lv_at hl 0 rfl) ?_
      obtain ⟨v4, hv4, h⟩ := Option.bind_eq_some_iff.mp h
      refine q_getI C0 hw hv4 rfl in_9 (by decide) kw_886 dX9_write_27 ?_
      refine lv_bipush (v := (15 : Int32)) C0.hx C0.hb dX9_write_30 (by decide) ?_
      refine lv_icmp_ne (tgt := 38) C0.hx C0.hb dX9_write_32 (by decide) (fun hc => ?_) (fun hc => ?_)
      · have h := (if_neg hc).symm.trans h
        refine lv_aload_n C0.hx C0.hb dX9_write_38 rfl (lv_at hl 0 rfl) ?_
        obtain ⟨r5, hr5, h⟩ := Option.bind_eq_some_iff.mp h
        refine q_getR C0 hw hr5 rfl in_9 (by decide) kw_885 dX9_write_39 ?_
        refine lv_iconst (v := (2 : Int32)) C0.hx C0.hb dX9_write_42 (by decide) ?_
        refine lv_aload_n C0.hx C0.hb dX9_write_43 rfl (lv_at hl 0 rfl) ?_
        obtain ⟨v6, hv6, h⟩ := Option.bind_eq_some_iff.mp h
        refine q_getI C0 hw hv6 rfl in_9 (by decide) kw_886 dX9_write_44 ?_
        refine lv_imul C0.hx C0.hb dX9_write_47 ?_
        refine lv_iload_n C0.hx C0.hb dX9_write_48 rfl (lv_at hl 1 rfl) ?_
        obtain ⟨S7, hS7, h⟩ := Option.bind_eq_some_iff.mp h
        refine q_stI C0 hw hS7 dX9_write_49 (fun H locs hw => ?_)
        refine lv_aload_n C0.hx C0.hb dX9_write_50 rfl (lv_at hl 0 rfl) ?_
        obtain ⟨r8, hr8, h⟩ := Option.bind_eq_some_iff.mp h
        refine q_getR C0 hw hr8 rfl in_9 (by decide) kw_885 dX9_write_51 ?_
        refine lv_iconst (v := (2 : Int32)) C0.hx C0.hb dX9_write_54 (by decide) ?_
        refine lv_aload_n C0.hx C0.hb dX9_write_55 rfl (lv_at hl 0 rfl) ?_
        obtain ⟨v9, hv9, h⟩ := Option.bind_eq_some_iff.mp h
        refine q_getI C0 hw hv9 rfl in_9 (by decide) kw_886 dX9_write_56 ?_
        refine lv_imul C0.hx C0.hb dX9_write_59 ?_
        refine lv_iconst (v := (1 : Int32)) C0.hx C0.hb dX9_write_60 (by decide) ?_
        refine lv_iadd C0.hx C0.hb dX9_write_61 ?_
        refine lv_iload_n C0.hx C0.hb dX9_write_62 rfl (lv_at hl 2 rfl) ?_
        obtain ⟨S10, hS10, h⟩ := Option.bind_eq_some_iff.mp h
        refine q_stI C0 hw hS10 dX9_write_63 (fun H locs hw => ?_)
        refine lv_aload_n C0.hx C0.hb dX9_write_64 rfl (lv_at hl 0 rfl) ?_
        refine lv_dup C0.hx C0.hb dX9_write_65 rfl ?_
        obtain ⟨v11, hv11, h⟩ := Option.bind_eq_some_iff.mp h
        refine q_getI C0 hw hv11 rfl in_9 (by decide) kw_886 dX9_write_66 ?_
        refine lv_iconst (v := (1 : Int32)) C0.hx C0.hb dX9_write_69 (by decide) ?_
        refine lv_iadd C0.hx C0.hb dX9_write_70 ?_
        obtain ⟨S12, hS12, h⟩ := Option.bind_eq_some_iff.mp h
        refine q_putI C0 hw hS12 rfl in_9 tyX9_ok nmX9 ⟨by decide, by decide, rfl, rfl⟩ rfl kw_886 dX9_write_71 (fun H locs hw => ?_)
        refine lv_aload_n C0.hx C0.hb dX9_write_74 rfl (lv_at hl 0 rfl) ?_
        obtain ⟨v13, hv13, h⟩ := Option.bind_eq_some_iff.mp h
        refine q_getI C0 hw hv13 rfl in_9 (by decide) kw_886 dX9_write_75 ?_
        obtain rfl := Option.some.inj h
        exact q_reti C0 hw hr hlocks dX9_write_78
      · have h := (if_pos hc).symm.trans h
        refine lv_ldc C0.hx C0.hb C0.ho (C0.w kw_955) dX9_write_35 ?_
        obtain rfl := Option.some.inj h
        exact q_reti C0 hw hr hlocks dX9_write_37
    · have h := (if_pos hc).symm.trans h
      refine lv_ldc C0.hx C0.hb C0.ho (C0.w kw_954) dX9_write_23 ?_
      obtain rfl := Option.some.inj h
      exact q_reti C0 hw hr hlocks dX9_write_25
  · have h := (if_pos hc).symm.trans h
    refine lv_ldc C0.hx C0.hb C0.ho (C0.w kw_1025) dX9_write_8 ?_
    obtain rfl := Option.some.inj h
    exact q_reti C0 hw hr hlocks dX9_write_10
abbrev rm_X9_tear : Room := { frames := 0, cells := 0, slots := 0, locals := 0 }
def f_X9_tear (a0 : Nat) (S : Mem) : Option (Int32 × Mem) :=
    (gI 9 24 S a0).bind fun v1 =>
      (pI 9 24 S a0 (0 : Int32)).bind fun S2 =>
      some (v1, S2)
set_option maxHeartbeats 4000000 in
set_option maxRecDepth 100000 in
theorem m_X9_tear (l : Launch) (b0 : Nat) (D : va_G) (cy : Nat → ClassId) (S : Mem) (a0 : Nat) {q : (Int32 × Mem)} (h : f_X9_tear a0 S = some q) : Met l yX9_tear [.code yX9_tear cX9_tear 2 (some .int)] rm_X9_tear (Pr b0 D cy S [.ref (b0 + a0)]) (Qp b0 D cy (some (.int q.1)) q.2) 0 0 (fun q => b0 ≤ q) := by
  refine Met.ofW (cc := cX9_tear) (maxL := 2) (ret := some .int) (by decide) rfl ?_
  intro p e s m args below meth c s₁ B hml hv
  obtain ⟨rfl, hP, hK, hT⟩ := hv
  have C0 : Cx p m c cX9_tear 2 s (List.toArray [.ref (b0 + a0)]) RX9 D cy := ⟨⟨B.exec, B.bytes, hml, findClass_of_methodNamed B.named, fun w h => hT w h _⟩, hK, hT⟩
  have hr : meth.sig.returnType = some .int := B.returns
  have hlocks := B.notSynchronized
  have hw : Wd b0 D cy S s.heap s.heap [] := ⟨hP, va_S.rf⟩
  have hl := lv_entry ([.ref (b0 + a0)]) (n := 2) (Nat.le_of_ble_eq_true rfl)
  rw [lg_entry_eq]
  generalize (lg_sl ([.ref (b0 + a0)]) ++ List.replicate (2 - (lg_sl ([.ref (b0 + a0)])).length) Slot.unset).toArray = ls at hl ⊢
  have hl : lv_has ls 2 [(0, .ref (b0 + a0))] := hl
  rw [f_X9_tear] at h
  show W p l e rm_X9_tear s m _ below meth c s.heap [] 0 0 _ _
  refine lv_aload_n C0.hx C0.hb dX9_tear_0 rfl (lv_at hl 0 rfl) ?_
  obtain ⟨v1, hv1, h⟩ := Option.bind_eq_some_iff.mp h
  refine q_getI C0 hw hv1 rfl in_9 (by decide) kw_886 dX9_tear_1 ?_
  refine lv_istore_n (lv' := [(1, .int v1), (0, .ref (b0 + a0))]) C0.hx C0.hb dX9_tear_4 rfl hl (by decide) rfl (fun ls hl => ?_)
  refine lv_aload_n C0.hx C0.hb dX9_tear_5 rfl (lv_at hl 1 rfl) ?_
  refine lv_iconst (v := (0 : Int32)) C0.hx C0.hb dX9_tear_6 (by decide) ?_
  obtain ⟨S2, hS2, h⟩ := Option.bind_eq_some_iff.mp h
  refine q_putI C0 hw hS2 rfl in_9 tyX9_ok nmX9 ⟨by decide, by decide, rfl, rfl⟩ rfl kw_886 dX9_tear_7 (fun H locs hw => ?_)
  refine lv_iload_n C0.hx C0.hb dX9_tear_10 rfl (lv_at hl 0 rfl) ?_
  obtain rfl := Option.some.inj h
  exact q_reti C0 hw hr hlocks dX9_tear_11
abbrev rm_X9_judge : Room := { frames := 0, cells := 0, slots := 0, locals := 0 }
def f_X9_judge_b49 (S : Mem) (k9 : Nat → Int32 → Int32 → Option Int32) (a0 : Nat) (x2 : Int32) (t0 : Int32) : Option Int32 :=
    (some (x2 + (-1 : Int32))).bind fun v9 =>
      k9 a0 t0 v9
def f_X9_judge_b9 (S : Mem) : Nat → Nat → Int32 → Int32 → Option Int32
  | 0, _, _, _ => none
  | n + 1, a0, x1, x2 =>
    (if x2 < (0 : Int32) then
      some x1
      else
      (gR 9 7 S a0).bind fun r3 =>
      (gR 9 23 S a0).bind fun r4 =>
      (ldI S r4 ((2 : Int32) * x2)).bind fun v5 =>
      (ldJ S r3 ((18 : Int32) + v5)).bind fun u6 =>
      (gR 9 23 S a0).bind fun r7 =>
      (ldI S r7 (((2 : Int32) * x2) + (1 : Int32))).bind fun v8 =>
      (if (lg_cmp u6 v8.toInt64) = (0 : Int32) then
      f_X9_judge_b49 S (fun a0 x1 x2 => f_X9_judge_b9 S  n a0 x1 x2) a0 x2 x1
      else
      f_X9_judge_b49 S (fun a0 x1 x2 => f_X9_judge_b9 S  n a0 x1 x2) a0 x2 x2))
def f_X9_judge (a0 : Nat) (S : Mem) : Option Int32 :=
    (gI 9 24 S a0).bind fun v1 =>
      (some (v1 - (1 : Int32))).bind fun v2 =>
      f_X9_judge_b9 S FU a0 (-1 : Int32) v2
set_option maxHeartbeats 4000000 in
set_option maxRecDepth 100000 in
theorem w_X9_judge_b49 {p : Program} {l : Launch} {e : Env} {s : State} {m : MethodId} {args : Array Value} {below : List Frame} {meth : Method} {c : Code} {b0 : Nat} {D : va_G} {cy : Nat → ClassId} {S : Mem} {q : Int32} (C0 : Cx p m c cX9_judge 3 s args RX9 D cy) (hr : meth.sig.returnType = some .int) (hlocks : meth.locks = false) (k9 : Nat → Int32 → Int32 → Option Int32) (hk9 : ∀ (a0 : Nat) (x1 : Int32) (x2 : Int32) (H : Heap) (locs : List Loc) (ls : Array Slot), Wd b0 D cy S s.heap H locs → lv_has ls 3 [(0, .ref (b0 + a0)), (1, .int x1), (2, .int x2)] → k9 a0 x1 x2 = some q → W p l e rm_X9_judge s m args below meth c H locs 0 0 (MQ below (Qp b0 D cy (some (.int q)) S) args s 0 0 (fun q => b0 ≤ q)) (F0 m 9 ls [])) : ∀ (a0 : Nat) (x2 : Int32) (t0 : Int32) (H : Heap) (locs : List Loc) (ls : Array Slot), Wd b0 D cy S s.heap H locs → lv_has ls 3 [(0, .ref (b0 + a0)), (2, .int x2)] → f_X9_judge_b49 S k9 a0 x2 t0 = some q → W p l e rm_X9_judge s m args below meth c H locs 0 0 (MQ below (Qp b0 D cy (some (.int q)) S) args s 0 0 (fun q => b0 ≤ q)) (F0 m 49 ls [.int t0]) := by
  intro a0 x2 t0 H locs ls hw hl h
  rw [f_X9_judge_b49] at h
  refine lv_istore_n (lv' := [(1, .int t0), (0, .ref (b0 + a0)), (2, .int x2)]) C0.hx C0.hb dX9_judge_49 rfl hl (by decide) rfl (fun ls hl => ?_)
  obtain ⟨v9, hv9, h⟩ := Option.bind_eq_some_iff.mp h
  refine lv_iinc (v := v9) (lv' := [(2, .int v9), (1, .int t0), (0, .ref (b0 + a0))]) C0.hx C0.hb dX9_judge_50 hl (k := 2) rfl (by rw [← Option.some.inj hv9]; rfl) (by decide) rfl (fun ls hl => ?_)
  refine lv_goto (tgt := 9) C0.hx C0.hb dX9_judge_53 (by decide) ?_
  exact hk9 a0 t0 v9 _ _ _ hw (lv_sub hl [2, 1, 0] rfl) h
set_option maxHeartbeats 4000000 in
set_option maxRecDepth 100000 in
theorem w_X9_judge_b9 {p : Program} {l : Launch} {e : Env} {s : State} {m : MethodId} {args : Array Value} {below : List Frame} {meth : Method} {c : Code} {b0 : Nat} {D : va_G} {cy : Nat → ClassId} {S : Mem} {q : Int32} (C0 : Cx p m c cX9_judge 3 s args RX9 D cy) (hr : meth.sig.returnType = some .int) (hlocks : meth.locks = false) : ∀ (n : Nat) (a0 : Nat) (x1 : Int32) (x2 : Int32) (H : Heap) (locs : List Loc) (ls : Array Slot), Wd b0 D cy S s.heap H locs → lv_has ls 3 [(0, .ref (b0 + a0)), (1, .int x1), (2, .int x2)] → f_X9_judge_b9 S  n a0 x1 x2 = some q → W p l e rm_X9_judge s m args below meth c H locs 0 0 (MQ below (Qp b0 D cy (some (.int q)) S) args s 0 0 (fun q => b0 ≤ q)) (F0 m 9 ls []) := by
  intro n
  induction n with
  | zero => intro a0 x1 x2 H locs ls hw hl h; exact absurd h (by simp [f_X9_judge_b9])
  | succ n ih =>
    intro a0 x1 x2 H locs ls hw hl h
    rw [f_X9_judge_b9] at h
    refine lv_iload_n C0.hx C0.hb dX9_judge_9 rfl (lv_at hl 2 rfl) ?_
    refine lv_if_lt (tgt := 56) C0.hx C0.hb dX9_judge_10 (by decide) (fun hc => ?_) (fun hc => ?_)
    · have h := (if_pos hc).symm.trans h
      refine lv_iload_n C0.hx C0.hb dX9_judge_56 rfl (lv_at hl 1 rfl) ?_
      obtain rfl := Option.some.inj h
      exact q_reti C0 hw hr hlocks dX9_judge_57
    · have h := (if_neg hc).symm.trans h
      refine lv_aload_n C0.hx C0.hb dX9_judge_13 rfl (lv_at hl 0 rfl) ?_
      obtain ⟨r3, hr3, h⟩ := Option.bind_eq_some_iff.mp h
      refine q_getR C0 hw hr3 rfl in_9 (by decide) kw_869 dX9_judge_14 ?_
      refine lv_bipush (v := (18 : Int32)) C0.hx C0.hb dX9_judge_17 (by decide) ?_
      refine lv_aload_n C0.hx C0.hb dX9_judge_19 rfl (lv_at hl 0 rfl) ?_
      obtain ⟨r4, hr4, h⟩ := Option.bind_eq_some_iff.mp h
      refine q_getR C0 hw hr4 rfl in_9 (by decide) kw_885 dX9_judge_20 ?_
      refine lv_iconst (v := (2 : Int32)) C0.hx C0.hb dX9_judge_23 (by decide) ?_
      refine lv_iload_n C0.hx C0.hb dX9_judge_24 rfl (lv_at hl 2 rfl) ?_
      refine lv_imul C0.hx C0.hb dX9_judge_25 ?_
      obtain ⟨v5, hv5, h⟩ := Option.bind_eq_some_iff.mp h
      refine q_ldI C0 hw hv5 dX9_judge_26 ?_
      refine lv_iadd C0.hx C0.hb dX9_judge_27 ?_
      obtain ⟨u6, hu6, h⟩ := Option.bind_eq_some_iff.mp h
      refine q_ldJ C0 hw hu6 dX9_judge_28 ?_
      refine lv_aload_n C0.hx C0.hb dX9_judge_29 rfl (lv_at hl 0 rfl) ?_
      obtain ⟨r7, hr7, h⟩ := Option.bind_eq_some_iff.mp h
      refine q_getR C0 hw hr7 rfl in_9 (by decide) kw_885 dX9_judge_30 ?_
      refine lv_iconst (v := (2 : Int32)) C0.hx C0.hb dX9_judge_33 (by decide) ?_
      refine lv_iload_n C0.hx C0.hb dX9_judge_34 rfl (lv_at hl 2 rfl) ?_
      refine lv_imul C0.hx C0.hb dX9_judge_35 ?_
      refine lv_iconst (v := (1 : Int32)) C0.hx C0.hb dX9_judge_36 (by decide) ?_
      refine lv_iadd C0.hx C0.hb dX9_judge_37 ?_
      obtain ⟨v8, hv8, h⟩ := Option.bind_eq_some_iff.mp h
      refine q_ldI C0 hw hv8 dX9_judge_38 ?_
      refine lv_i2l C0.hx C0.hb dX9_judge_39 rfl ?_
      refine W.lcmp C0.hx C0.hb dX9_judge_40 ?_
      refine lv_if_ne (tgt := 48) C0.hx C0.hb dX9_judge_41 (by decide) (fun hc => ?_) (fun hc => ?_)
      · have h := (if_neg hc).symm.trans h
        refine lv_iload_n C0.hx C0.hb dX9_judge_48 rfl (lv_at hl 2 rfl) ?_
        exact w_X9_judge_b49 C0 hr hlocks (fun a0 x1 x2 => f_X9_judge_b9 S  n a0 x1 x2) ih a0 x2 x2 _ _ _ hw (lv_sub hl [0, 2] rfl) h
      · have h := (if_pos hc).symm.trans h
        refine lv_iload_n C0.hx C0.hb dX9_judge_44 rfl (lv_at hl 1 rfl) ?_
        refine lv_goto (tgt := 49) C0.hx C0.hb dX9_judge_45 (by decide) ?_
        exact w_X9_judge_b49 C0 hr hlocks (fun a0 x1 x2 => f_X9_judge_b9 S  n a0 x1 x2) ih a0 x2 x1 _ _ _ hw (lv_sub hl [0, 2] rfl) h
set_option maxHeartbeats 4000000 in
set_option maxRecDepth 100000 in
theorem m_X9_judge (l : Launch) (b0 : Nat) (D : va_G) (cy : Nat → ClassId) (S : Mem) (a0 : Nat) {q : Int32} (h : f_X9_judge a0 S = some q) : Met l yX9_judge [.code yX9_judge cX9_judge 3 (some .int)] rm_X9_judge (Pr b0 D cy S [.ref (b0 + a0)]) (Qp b0 D cy (some (.int q)) S) 0 0 (fun q => b0 ≤ q) := by
  refine Met.ofW (cc := cX9_judge) (maxL := 3) (ret := some .int) (by decide) rfl ?_
  intro p e s m args below meth c s₁ B hml hv
  obtain ⟨rfl, hP, hK, hT⟩ := hv
  have C0 : Cx p m c cX9_judge 3 s (List.toArray [.ref (b0 + a0)]) RX9 D cy := ⟨⟨B.exec, B.bytes, hml, findClass_of_methodNamed B.named, fun w h => hT w h _⟩, hK, hT⟩
  have hr : meth.sig.returnType = some .int := B.returns
  have hlocks := B.notSynchronized
  have hw : Wd b0 D cy S s.heap s.heap [] := ⟨hP, va_S.rf⟩
  have hl := lv_entry ([.ref (b0 + a0)]) (n := 3) (Nat.le_of_ble_eq_true rfl)
  rw [lg_entry_eq]
  generalize (lg_sl ([.ref (b0 + a0)]) ++ List.replicate (3 - (lg_sl ([.ref (b0 + a0)])).length) Slot.unset).toArray = ls at hl ⊢
  have hl : lv_has ls 3 [(0, .ref (b0 + a0))] := hl
  rw [f_X9_judge] at h
  show W p l e rm_X9_judge s m _ below meth c s.heap [] 0 0 _ _
  refine lv_iconst (v := (-1 : Int32)) C0.hx C0.hb dX9_judge_0 (by decide) ?_
  refine lv_istore_n (lv' := [(1, .int (-1 : Int32)), (0, .ref (b0 + a0))]) C0.hx C0.hb dX9_judge_1 rfl hl (by decide) rfl (fun ls hl => ?_)
  refine lv_aload_n C0.hx C0.hb dX9_judge_2 rfl (lv_at hl 1 rfl) ?_
  obtain ⟨v1, hv1, h⟩ := Option.bind_eq_some_iff.mp h
  refine q_getI C0 hw hv1 rfl in_9 (by decide) kw_886 dX9_judge_3 ?_
  refine lv_iconst (v := (1 : Int32)) C0.hx C0.hb dX9_judge_6 (by decide) ?_
  refine lv_isub C0.hx C0.hb dX9_judge_7 ?_
  obtain ⟨v2, hv2, h⟩ := Option.bind_eq_some_iff.mp h
  refine q_nmI hv2 ?_
  refine lv_istore_n (lv' := [(2, .int v2), (1, .int (-1 : Int32)), (0, .ref (b0 + a0))]) C0.hx C0.hb dX9_judge_8 rfl hl (by decide) rfl (fun ls hl => ?_)
  exact w_X9_judge_b9 C0 hr hlocks FU a0 (-1 : Int32) v2 _ _ _ hw (lv_sub hl [2, 1, 0] rfl) h
abbrev rm_X9_seed : Room := { frames := 0, cells := 0, slots := 0, locals := 0 }
def f_X9_seed (a0 : Nat) (x1 : Int32) (S : Mem) : Option (Int32 × Mem) :=
    (if (0 : Int32) ≤ x1 then
      (gJ 9 8 S a0).bind fun u1 =>
      (some (u1.toInt32)).bind fun v2 =>
      (pJ 9 8 S a0 x1.toInt64).bind fun S3 =>
      some (v2, S3)
      else
      some ((-1000000002 : Int32), S))
set_option maxHeartbeats 4000000 in
set_option maxRecDepth 100000 in
theorem m_X9_seed (l : Launch) (b0 : Nat) (D : va_G) (cy : Nat → ClassId) (S : Mem) (a0 : Nat) (x1 : Int32) {q : (Int32 × Mem)} (h : f_X9_seed a0 x1 S = some q) : Met l yX9_seed [.code yX9_seed cX9_seed 3 (some .int)] rm_X9_seed (Pr b0 D cy S [.ref (b0 + a0), .int x1]) (Qp b0 D cy (some (.int q.1)) q.2) 0 0 (fun q => b0 ≤ q) := by
  refine Met.ofW (cc := cX9_seed) (maxL := 3) (ret := some .int) (by decide) rfl ?_
  intro p e s m args below meth c s₁ B hml hv
  obtain ⟨rfl, hP, hK, hT⟩ := hv
  have C0 : Cx p m c cX9_seed 3 s (List.toArray [.ref (b0 + a0), .int x1]) RX9 D cy := ⟨⟨B.exec, B.bytes, hml, findClass_of_methodNamed B.named, fun w h => hT w h _⟩, hK, hT⟩
  have hr : meth.sig.returnType = some .int := B.returns
  have hlocks := B.notSynchronized
  have hw : Wd b0 D cy S s.heap s.heap [] := ⟨hP, va_S.rf⟩
  have hl := lv_entry ([.ref (b0 + a0), .int x1]) (n := 3) (Nat.le_of_ble_eq_true rfl)
  rw [lg_entry_eq]
  generalize (lg_sl ([.ref (b0 + a0), .int x1]) ++ List.replicate (3 - (lg_sl ([.ref (b0 + a0), .int x1])).length) Slot.unset).toArray = ls at hl ⊢
  have hl : lv_has ls 3 [(0, .ref (b0 + a0)), (1, .int x1)] := hl
  rw [f_X9_seed] at h
  show W p l e rm_X9_seed s m _ below meth c s.heap [] 0 0 _ _
  refine lv_iload_n C0.hx C0.hb dX9_seed_0 rfl (lv_at hl 1 rfl) ?_
  refine lv_if_ge (tgt := 7) C0.hx C0.hb dX9_seed_1 (by decide) (fun hc => ?_) (fun hc => ?_)
  · have h := (if_pos hc).symm.trans h
    refine lv_aload_n C0.hx C0.hb dX9_seed_7 rfl (lv_at hl 0 rfl) ?_
    obtain ⟨u1, hu1, h⟩ := Option.bind_eq_some_iff.mp h
    refine q_getJ C0 hw hu1 rfl in_9 (by decide) kw_870 dX9_seed_8 ?_
    refine lv_l2i C0.hx C0.hb dX9_seed_11 rfl ?_
    obtain ⟨v2, hv2, h⟩ := Option.bind_eq_some_iff.mp h
    refine q_nmI hv2 ?_
    refine lv_istore_n (lv' := [(2, .int v2), (0, .ref (b0 + a0)), (1, .int x1)]) C0.hx C0.hb dX9_seed_12 rfl hl (by decide) rfl (fun ls hl => ?_)
    refine lv_aload_n C0.hx C0.hb dX9_seed_13 rfl (lv_at hl 1 rfl) ?_
    refine lv_iload_n C0.hx C0.hb dX9_seed_14 rfl (lv_at hl 2 rfl) ?_
    refine lv_i2l C0.hx C0.hb dX9_seed_15 rfl ?_
    obtain ⟨S3, hS3, h⟩ := Option.bind_eq_some_iff.mp h
    refine q_putJ C0 hw hS3 rfl in_9 tyX9_ok nmX9 ⟨by decide, by decide, rfl, rfl⟩ rfl kw_870 dX9_seed_16 (fun H locs hw => ?_)
    refine lv_iload_n C0.hx C0.hb dX9_seed_19 rfl (lv_at hl 0 rfl) ?_
    obtain rfl := Option.some.inj h
    exact q_reti C0 hw hr hlocks dX9_seed_20
  · have h := (if_neg hc).symm.trans h
    refine lv_ldc C0.hx C0.hb C0.ho (C0.w kw_954) dX9_seed_4 ?_
    obtain rfl := Option.some.inj h
    exact q_reti C0 hw hr hlocks dX9_seed_6
abbrev rm_X9_keep : Room := { frames := 1, cells := 0, slots := 0, locals := 25 }
def f_X9_keep_b15 : Nat → Nat → Int32 → Int32 → Mem → Option (Int32 × Mem)
  | 0, _, _, _, _ => none
  | n + 1, a0, x1, x2, S =>
    (if (80 : Int32) ≤ x2 then
      (gR 9 25 S a0).bind fun r2 =>
      (gJ 9 8 S a0).bind fun u3 =>
      (stJ S r2 (((81 : Int32) * x1) + (80 : Int32)) u3).bind fun S4 =>
      (gR 9 26 S4 a0).bind fun r5 =>
      (stZ S4 r5 x1 (1 : Int32)).bind fun S6 =>
      (pI 9 16 S6 a0 (0 : Int32)).bind fun S7 =>
      some ((1 : Int32), S7)
      else
      (gR 9 25 S a0).bind fun r8 =>
      (gR 9 7 S a0).bind fun r9 =>
      (ldJ S r9 x2).bind fun u10 =>
      (stJ S r8 (((81 : Int32) * x1) + x2) u10).bind fun S11 =>
      (some (x2 + (1 : Int32))).bind fun v12 =>
      f_X9_keep_b15  n a0 x1 v12 S11)
def f_X9_keep (a0 : Nat) (x1 : Int32) (S : Mem) : Option (Int32 × Mem) :=
    (f_X9_in x1.toInt64 (0 : Int64) (1 : Int64)).bind fun v1 =>
      (if v1 = (0 : Int32) then
      some ((-1000000001 : Int32), S)
      else
      f_X9_keep_b15 FU a0 x1 (0 : Int32) S)
set_option maxHeartbeats 4000000 in
set_option maxRecDepth 100000 in
theorem w_X9_keep_b15 {p : Program} {l : Launch} {e : Env} {s : State} {m : MethodId} {args : Array Value} {below : List Frame} {meth : Method} {c : Code} {b0 : Nat} {D : va_G} {cy : Nat → ClassId} {q : (Int32 × Mem)} (C0 : Cx p m c cX9_keep 3 s args RX9 D cy) (hr : meth.sig.returnType = some .int) (hlocks : meth.locks = false) : ∀ (n : Nat) (a0 : Nat) (x1 : Int32) (x2 : Int32) (S : Mem) (H : Heap) (locs : List Loc) (ls : Array Slot), Wd b0 D cy S s.heap H locs → lv_has ls 3 [(0, .ref (b0 + a0)), (1, .int x1), (2, .int x2)] → f_X9_keep_b15  n a0 x1 x2 S = some q → W p l e rm_X9_keep s m args below meth c H locs 0 0 (MQ below (Qp b0 D cy (some (.int q.1)) q.2) args s 0 0 (fun q => b0 ≤ q)) (F0 m 15 ls []) := by
  intro n
  induction n with
  | zero => intro a0 x1 x2 S H locs ls hw hl h; exact absurd h (by simp [f_X9_keep_b15])
  | succ n ih =>
    intro a0 x1 x2 S H locs ls hw hl h
    rw [f_X9_keep_b15] at h
    refine lv_iload_n C0.hx C0.hb dX9_keep_15 rfl (lv_at hl 2 rfl) ?_
    refine lv_bipush (v := (80 : Int32)) C0.hx C0.hb dX9_keep_16 (by decide) ?_
    refine lv_icmp_ge (tgt := 44) C0.hx C0.hb dX9_keep_18 (by decide) (fun hc => ?_) (fun hc => ?_)
    · have h := (if_pos hc).symm.trans h
      refine lv_aload_n C0.hx C0.hb dX9_keep_44 rfl (lv_at hl 0 rfl) ?_
      obtain ⟨r2, hr2, h⟩ := Option.bind_eq_some_iff.mp h
      refine q_getR C0 hw hr2 rfl in_9 (by decide) kw_887 dX9_keep_45 ?_
      refine lv_bipush (v := (81 : Int32)) C0.hx C0.hb dX9_keep_48 (by decide) ?_
      refine lv_iload_n C0.hx C0.hb dX9_keep_50 rfl (lv_at hl 1 rfl) ?_
      refine lv_imul C0.hx C0.hb dX9_keep_51 ?_
      refine lv_bipush (v := (80 : Int32)) C0.hx C0.hb dX9_keep_52 (by decide) ?_
      refine lv_iadd C0.hx C0.hb dX9_keep_54 ?_
      refine lv_aload_n C0.hx C0.hb dX9_keep_55 rfl (lv_at hl 0 rfl) ?_
      obtain ⟨u3, hu3, h⟩ := Option.bind_eq_some_iff.mp h
      refine q_getJ C0 hw hu3 rfl in_9 (by decide) kw_870 dX9_keep_56 ?_
      obtain ⟨S4, hS4, h⟩ := Option.bind_eq_some_iff.mp h
      refine q_stJ C0 hw hS4 dX9_keep_59 (fun H locs hw => ?_)
      refine lv_aload_n C0.hx C0.hb dX9_keep_60 rfl (lv_at hl 0 rfl) ?_
      obtain ⟨r5, hr5, h⟩ := Option.bind_eq_some_iff.mp h
      refine q_getR C0 hw hr5 rfl in_9 (by decide) kw_888 dX9_keep_61 ?_
      refine lv_iload_n C0.hx C0.hb dX9_keep_64 rfl (lv_at hl 1 rfl) ?_
      refine lv_iconst (v := (1 : Int32)) C0.hx C0.hb dX9_keep_65 (by decide) ?_
      obtain ⟨S6, hS6, h⟩ := Option.bind_eq_some_iff.mp h
      refine q_stZ C0 hw hS6 dX9_keep_66 (fun H locs hw => ?_)
      refine lv_aload_n C0.hx C0.hb dX9_keep_67 rfl (lv_at hl 0 rfl) ?_
      refine lv_iconst (v := (0 : Int32)) C0.hx C0.hb dX9_keep_68 (by decide) ?_
      obtain ⟨S7, hS7, h⟩ := Option.bind_eq_some_iff.mp h
      refine q_putI C0 hw hS7 rfl in_9 tyX9_ok nmX9 ⟨by decide, by decide, rfl, rfl⟩ rfl kw_878 dX9_keep_69 (fun H locs hw => ?_)
      refine lv_iconst (v := (1 : Int32)) C0.hx C0.hb dX9_keep_72 (by decide) ?_
      obtain rfl := Option.some.inj h
      exact q_reti C0 hw hr hlocks dX9_keep_73
    · have h := (if_neg hc).symm.trans h
      refine lv_aload_n C0.hx C0.hb dX9_keep_21 rfl (lv_at hl 0 rfl) ?_
      obtain ⟨r8, hr8, h⟩ := Option.bind_eq_some_iff.mp h
      refine q_getR C0 hw hr8 rfl in_9 (by decide) kw_887 dX9_keep_22 ?_
      refine lv_bipush (v := (81 : Int32)) C0.hx C0.hb dX9_keep_25 (by decide) ?_
      refine lv_iload_n C0.hx C0.hb dX9_keep_27 rfl (lv_at hl 1 rfl) ?_
      refine lv_imul C0.hx C0.hb dX9_keep_28 ?_
      refine lv_iload_n C0.hx C0.hb dX9_keep_29 rfl (lv_at hl 2 rfl) ?_
      refine lv_iadd C0.hx C0.hb dX9_keep_30 ?_
      refine lv_aload_n C0.hx C0.hb dX9_keep_31 rfl (lv_at hl 0 rfl) ?_
      obtain ⟨r9, hr9, h⟩ := Option.bind_eq_some_iff.mp h
      refine q_getR C0 hw hr9 rfl in_9 (by decide) kw_869 dX9_keep_32 ?_
      refine lv_iload_n C0.hx C0.hb dX9_keep_35 rfl (lv_at hl 2 rfl) ?_
      obtain ⟨u10, hu10, h⟩ := Option.bind_eq_some_iff.mp h
      refine q_ldJ C0 hw hu10 dX9_keep_36 ?_
      obtain ⟨S11, hS11, h⟩ := Option.bind_eq_some_iff.mp h
      refine q_stJ C0 hw hS11 dX9_keep_37 (fun H locs hw => ?_)
      obtain ⟨v12, hv12, h⟩ := Option.bind_eq_some_iff.mp h
      refine lv_iinc (v := v12) (lv' := [(2, .int v12), (0, .ref (b0 + a0)), (1, .int x1)]) C0.hx C0.hb dX9_keep_38 hl (k := 2) rfl (by rw [← Option.some.inj hv12]; rfl) (by decide) rfl (fun ls hl => ?_)
      refine lv_goto (tgt := 15) C0.hx C0.hb dX9_keep_41 (by decide) ?_
      exact ih a0 x1 v12 S11 _ _ _ hw (lv_sub hl [1, 2, 0] rfl) h
set_option maxHeartbeats 4000000 in
set_option maxRecDepth 100000 in
theorem m_X9_keep (l : Launch) (b0 : Nat) (D : va_G) (cy : Nat → ClassId) (S : Mem) (a0 : Nat) (x1 : Int32) {q : (Int32 × Mem)} (h : f_X9_keep a0 x1 S = some q) : Met l yX9_keep [.code yX9_keep cX9_keep 3 (some .int)] rm_X9_keep (Pr b0 D cy S [.ref (b0 + a0), .int x1]) (Qp b0 D cy (some (.int q.1)) q.2) 0 0 (fun q => b0 ≤ q) := by
  refine Met.ofW (cc := cX9_keep) (maxL := 3) (ret := some .int) (by decide) rfl ?_
  intro p e s m args below meth c s₁ B hml hv
  obtain ⟨rfl, hP, hK, hT⟩ := hv
  have C0 : Cx p m c cX9_keep 3 s (List.toArray [.ref (b0 + a0), .int x1]) RX9 D cy := ⟨⟨B.exec, B.bytes, hml, findClass_of_methodNamed B.named, fun w h => hT w h _⟩, hK, hT⟩
  have hr : meth.sig.returnType = some .int := B.returns
  have hlocks := B.notSynchronized
  have hw : Wd b0 D cy S s.heap s.heap [] := ⟨hP, va_S.rf⟩
  have hl := lv_entry ([.ref (b0 + a0), .int x1]) (n := 3) (Nat.le_of_ble_eq_true rfl)
  rw [lg_entry_eq]
  generalize (lg_sl ([.ref (b0 + a0), .int x1]) ++ List.replicate (3 - (lg_sl ([.ref (b0 + a0), .int x1])).length) Slot.unset).toArray = ls at hl ⊢
  have hl : lv_has ls 3 [(0, .ref (b0 + a0)), (1, .int x1)] := hl
  rw [f_X9_keep] at h
  show W p l e rm_X9_keep s m _ below meth c s.heap [] 0 0 _ _
  refine lv_iload_n C0.hx C0.hb dX9_keep_0 rfl (lv_at hl 1 rfl) ?_
  refine lv_i2l C0.hx C0.hb dX9_keep_1 rfl ?_
  refine lv_lconst (v := (0 : Int64)) C0.hx C0.hb dX9_keep_2 (by decide) ?_
  refine lv_lconst (v := (1 : Int64)) C0.hx C0.hb dX9_keep_3 (by decide) ?_
  obtain ⟨v1, hv1, h⟩ := Option.bind_eq_some_iff.mp h
  refine q_callS (n := 3) (av := [.long x1.toInt64, .long (0 : Int64), .long (1 : Int64)]) (rest := []) (st1 := [.int v1]) C0 hw (m_X9_in l b0 D cy S x1.toInt64 (0 : Int64) (1 : Int64) hv1) (goodS kw_951 kw_952 kw_72 kw_953) ⟨rfl, rfl⟩ (by decide +kernel) ⟨(Nat.le_of_ble_eq_true rfl), (Nat.le_of_ble_eq_true rfl)⟩ rfl hl.1 rfl (Nat.le_of_ble_eq_true rfl) dX9_keep_4 ⟨Nat.zero_le _, Nat.zero_le _⟩ rfl (fun H locs hw => ?_)
  refine lv_if_ne (tgt := 13) C0.hx C0.hb dX9_keep_7 (by decide) (fun hc => ?_) (fun hc => ?_)
  · have h := (if_neg hc).symm.trans h
    refine lv_iconst (v := (0 : Int32)) C0.hx C0.hb dX9_keep_13 (by decide) ?_
    refine lv_istore_n (lv' := [(2, .int (0 : Int32)), (0, .ref (b0 + a0)), (1, .int x1)]) C0.hx C0.hb dX9_keep_14 rfl hl (by decide) rfl (fun ls hl => ?_)
    exact w_X9_keep_b15 C0 hr hlocks FU a0 x1 (0 : Int32) S _ _ _ hw (lv_sub hl [1, 2, 0] rfl) h
  · have h := (if_pos hc).symm.trans h
    refine lv_ldc C0.hx C0.hb C0.ho (C0.w kw_1025) dX9_keep_10 ?_
    obtain rfl := Option.some.inj h
    exact q_reti C0 hw hr hlocks dX9_keep_12
abbrev rm_X9_goBack : Room := { frames := 1, cells := 0, slots := 0, locals := 25 }
def f_X9_goBack_b27 : Nat → Nat → Int32 → Int32 → Mem → Option (Int32 × Mem)
  | 0, _, _, _, _ => none
  | n + 1, a0, x1, x2, S =>
    (if (80 : Int32) ≤ x2 then
      (gR 9 25 S a0).bind fun r4 =>
      (ldJ S r4 (((81 : Int32) * x1) + (80 : Int32))).bind fun u5 =>
      (pJ 9 8 S a0 u5).bind fun S6 =>
      (pI 9 16 S6 a0 (0 : Int32)).bind fun S7 =>
      some ((1 : Int32), S7)
      else
      (gR 9 7 S a0).bind fun r8 =>
      (gR 9 25 S a0).bind fun r9 =>
      (ldJ S r9 (((81 : Int32) * x1) + x2)).bind fun u10 =>
      (stJ S r8 x2 u10).bind fun S11 =>
      (some (x2 + (1 : Int32))).bind fun v12 =>
      f_X9_goBack_b27  n a0 x1 v12 S11)
def f_X9_goBack (a0 : Nat) (x1 : Int32) (S : Mem) : Option (Int32 × Mem) :=
    (f_X9_in x1.toInt64 (0 : Int64) (1 : Int64)).bind fun v1 =>
      (if v1 = (0 : Int32) then
      some ((-1000000001 : Int32), S)
      else
      (gR 9 26 S a0).bind fun r2 =>
      (ldZ S r2 x1).bind fun v3 =>
      (if v3 = (0 : Int32) then
      some ((-1000000003 : Int32), S)
      else
      f_X9_goBack_b27 FU a0 x1 (0 : Int32) S))
set_option maxHeartbeats 4000000 in
set_option maxRecDepth 100000 in
theorem w_X9_goBack_b27 {p : Program} {l : Launch} {e : Env} {s : State} {m : MethodId} {args : Array Value} {below : List Frame} {meth : Method} {c : Code} {b0 : Nat} {D : va_G} {cy : Nat → ClassId} {q : (Int32 × Mem)} (C0 : Cx p m c cX9_goBack 3 s args RX9 D cy) (hr : meth.sig.returnType = some .int) (hlocks : meth.locks = false) : ∀ (n : Nat) (a0 : Nat) (x1 : Int32) (x2 : Int32) (S : Mem) (H : Heap) (locs : List Loc) (ls : Array Slot), Wd b0 D cy S s.heap H locs → lv_has ls 3 [(0, .ref (b0 + a0)), (1, .int x1), (2, .int x2)] → f_X9_goBack_b27  n a0 x1 x2 S = some q → W p l e rm_X9_goBack s m args below meth c H locs 0 0 (MQ below (Qp b0 D cy (some (.int q.1)) q.2) args s 0 0 (fun q => b0 ≤ q)) (F0 m 27 ls []) := by
  intro n
  induction n with
  | zero => intro a0 x1 x2 S H locs ls hw hl h; exact absurd h (by simp [f_X9_goBack_b27])
  | succ n ih =>
    intro a0 x1 x2 S H locs ls hw hl h
    rw [f_X9_goBack_b27] at h
    refine lv_iload_n C0.hx C0.hb dX9_goBack_27 rfl (lv_at hl 2 rfl) ?_
    refine lv_bipush (v := (80 : Int32)) C0.hx C0.hb dX9_goBack_28 (by decide) ?_
    refine lv_icmp_ge (tgt := 56) C0.hx C0.hb dX9_goBack_30 (by decide) (fun hc => ?_) (fun hc => ?_)
    · have h := (if_pos hc).symm.trans h
      refine lv_aload_n C0.hx C0.hb dX9_goBack_56 rfl (lv_at hl 0 rfl) ?_
      refine lv_aload_n C0.hx C0.hb dX9_goBack_57 rfl (lv_at hl 0 rfl) ?_
      obtain ⟨r4, hr4, h⟩ := Option.bind_eq_some_iff.mp h
      refine q_getR C0 hw hr4 rfl in_9 (by decide) kw_887 dX9_goBack_58 ?_
      refine lv_bipush (v := (81 : Int32)) C0.hx C0.hb dX9_goBack_61 (by decide) ?_
      refine lv_iload_n C0.hx C0.hb dX9_goBack_63 rfl (lv_at hl 1 rfl) ?_
      refine lv_imul C0.hx C0.hb dX9_goBack_64 ?_
      refine lv_bipush (v := (80 : Int32)) C0.hx C0.hb dX9_goBack_65 (by decide) ?_
      refine lv_iadd C0.hx C0.hb dX9_goBack_67 ?_
      obtain ⟨u5, hu5, h⟩ := Option.bind_eq_some_iff.mp h
      refine q_ldJ C0 hw hu5 dX9_goBack_68 ?_
      obtain ⟨S6, hS6, h⟩ := Option.bind_eq_some_iff.mp h
      refine q_putJ C0 hw hS6 rfl in_9 tyX9_ok nmX9 ⟨by decide, by decide, rfl, rfl⟩ rfl kw_870 dX9_goBack_69 (fun H locs hw => ?_)
      refine lv_aload_n C0.hx C0.hb dX9_goBack_72 rfl (lv_at hl 0 rfl) ?_
      refine lv_iconst (v := (0 : Int32)) C0.hx C0.hb dX9_goBack_73 (by decide) ?_
      obtain ⟨S7, hS7, h⟩ := Option.bind_eq_some_iff.mp h
      refine q_putI C0 hw hS7 rfl in_9 tyX9_ok nmX9 ⟨by decide, by decide, rfl, rfl⟩ rfl kw_878 dX9_goBack_74 (fun H locs hw => ?_)
      refine lv_iconst (v := (1 : Int32)) C0.hx C0.hb dX9_goBack_77 (by decide) ?_
      obtain rfl := Option.some.inj h
      exact q_reti C0 hw hr hlocks dX9_goBack_78
    · have h := (if_neg hc).symm.trans h
      refine lv_aload_n C0.hx C0.hb dX9_goBack_33 rfl (lv_at hl 0 rfl) ?_
      obtain ⟨r8, hr8, h⟩ := Option.bind_eq_some_iff.mp h
      refine q_getR C0 hw hr8 rfl in_9 (by decide) kw_869 dX9_goBack_34 ?_
      refine lv_iload_n C0.hx C0.hb dX9_goBack_37 rfl (lv_at hl 2 rfl) ?_
      refine lv_aload_n C0.hx C0.hb dX9_goBack_38 rfl (lv_at hl 0 rfl) ?_
      obtain ⟨r9, hr9, h⟩ := Option.bind_eq_some_iff.mp h
      refine q_getR C0 hw hr9 rfl in_9 (by decide) kw_887 dX9_goBack_39 ?_
      refine lv_bipush (v := (81 : Int32)) C0.hx C0.hb dX9_goBack_42 (by decide) ?_
      refine lv_iload_n C0.hx C0.hb dX9_goBack_44 rfl (lv_at hl 1 rfl) ?_
      refine lv_imul C0.hx C0.hb dX9_goBack_45 ?_
      refine lv_iload_n C0.hx C0.hb dX9_goBack_46 rfl (lv_at hl 2 rfl) ?_
      refine lv_iadd C0.hx C0.hb dX9_goBack_47 ?_
      obtain ⟨u10, hu10, h⟩ := Option.bind_eq_some_iff.mp h
      refine q_ldJ C0 hw hu10 dX9_goBack_48 ?_
      obtain ⟨S11, hS11, h⟩ := Option.bind_eq_some_iff.mp h
      refine q_stJ C0 hw hS11 dX9_goBack_49 (fun H locs hw => ?_)
      obtain ⟨v12, hv12, h⟩ := Option.bind_eq_some_iff.mp h
      refine lv_iinc (v := v12) (lv' := [(2, .int v12), (0, .ref (b0 + a0)), (1, .int x1)]) C0.hx C0.hb dX9_goBack_50 hl (k := 2) rfl (by rw [← Option.some.inj hv12]; rfl) (by decide) rfl (fun ls hl => ?_)
      refine lv_goto (tgt := 27) C0.hx C0.hb dX9_goBack_53 (by decide) ?_
      exact ih a0 x1 v12 S11 _ _ _ hw (lv_sub hl [1, 2, 0] rfl) h
set_option maxHeartbeats 4000000 in
set_option maxRecDepth 100000 in
theorem m_X9_goBack (l : Launch) (b0 : Nat) (D : va_G) (cy : Nat → ClassId) (S : Mem) (a0 : Nat) (x1 : Int32) {q : (Int32 × Mem)} (h : f_X9_goBack a0 x1 S = some q) : Met l yX9_goBack [.code yX9_goBack cX9_goBack 3 (some .int)] rm_X9_goBack (Pr b0 D cy S [.ref (b0 + a0), .int x1]) (Qp b0 D cy (some (.int q.1)) q.2) 0 0 (fun q => b0 ≤ q) := by
  refine Met.ofW (cc := cX9_goBack) (maxL := 3) (ret := some .int) (by decide) rfl ?_
  intro p e s m args below meth c s₁ B hml hv
  obtain ⟨rfl, hP, hK, hT⟩ := hv
  have C0 : Cx p m c cX9_goBack 3 s (List.toArray [.ref (b0 + a0), .int x1]) RX9 D cy := ⟨⟨B.exec, B.bytes, hml, findClass_of_methodNamed B.named, fun w h => hT w h _⟩, hK, hT⟩
  have hr : meth.sig.returnType = some .int := B.returns
  have hlocks := B.notSynchronized
  have hw : Wd b0 D cy S s.heap s.heap [] := ⟨hP, va_S.rf⟩
  have hl := lv_entry ([.ref (b0 + a0), .int x1]) (n := 3) (Nat.le_of_ble_eq_true rfl)
  rw [lg_entry_eq]
  generalize (lg_sl ([.ref (b0 + a0), .int x1]) ++ List.replicate (3 - (lg_sl ([.ref (b0 + a0), .int x1])).length) Slot.unset).toArray = ls at hl ⊢
  have hl : lv_has ls 3 [(0, .ref (b0 + a0)), (1, .int x1)] := hl
  rw [f_X9_goBack] at h
  show W p l e rm_X9_goBack s m _ below meth c s.heap [] 0 0 _ _
  refine lv_iload_n C0.hx C0.hb dX9_goBack_0 rfl (lv_at hl 1 rfl) ?_
  refine lv_i2l C0.hx C0.hb dX9_goBack_1 rfl ?_
  refine lv_lconst (v := (0 : Int64)) C0.hx C0.hb dX9_goBack_2 (by decide) ?_
  refine lv_lconst (v := (1 : Int64)) C0.hx C0.hb dX9_goBack_3 (by decide) ?_
  obtain ⟨v1, hv1, h⟩ := Option.bind_eq_some_iff.mp h
  refine q_callS (n := 3) (av := [.long x1.toInt64, .long (0 : Int64), .long (1 : Int64)]) (rest := []) (st1 := [.int v1]) C0 hw (m_X9_in l b0 D cy S x1.toInt64 (0 : Int64) (1 : Int64) hv1) (goodS kw_951 kw_952 kw_72 kw_953) ⟨rfl, rfl⟩ (by decide +kernel) ⟨(Nat.le_of_ble_eq_true rfl), (Nat.le_of_ble_eq_true rfl)⟩ rfl hl.1 rfl (Nat.le_of_ble_eq_true rfl) dX9_goBack_4 ⟨Nat.zero_le _, Nat.zero_le _⟩ rfl (fun H locs hw => ?_)
  refine lv_if_ne (tgt := 13) C0.hx C0.hb dX9_goBack_7 (by decide) (fun hc => ?_) (fun hc => ?_)
  · have h := (if_neg hc).symm.trans h
    refine lv_aload_n C0.hx C0.hb dX9_goBack_13 rfl (lv_at hl 0 rfl) ?_
    obtain ⟨r2, hr2, h⟩ := Option.bind_eq_some_iff.mp h
    refine q_getR C0 hw hr2 rfl in_9 (by decide) kw_888 dX9_goBack_14 ?_
    refine lv_iload_n C0.hx C0.hb dX9_goBack_17 rfl (lv_at hl 1 rfl) ?_
    obtain ⟨v3, hv3, h⟩ := Option.bind_eq_some_iff.mp h
    refine q_ldZ C0 hw hv3 dX9_goBack_18 ?_
    refine lv_if_ne (tgt := 25) C0.hx C0.hb dX9_goBack_19 (by decide) (fun hc => ?_) (fun hc => ?_)
    · have h := (if_neg hc).symm.trans h
      refine lv_iconst (v := (0 : Int32)) C0.hx C0.hb dX9_goBack_25 (by decide) ?_
      refine lv_istore_n (lv' := [(2, .int (0 : Int32)), (0, .ref (b0 + a0)), (1, .int x1)]) C0.hx C0.hb dX9_goBack_26 rfl hl (by decide) rfl (fun ls hl => ?_)
      exact w_X9_goBack_b27 C0 hr hlocks FU a0 x1 (0 : Int32) S _ _ _ hw (lv_sub hl [1, 2, 0] rfl) h
    · have h := (if_pos hc).symm.trans h
      refine lv_ldc C0.hx C0.hb C0.ho (C0.w kw_1077) dX9_goBack_22 ?_
      obtain rfl := Option.some.inj h
      exact q_reti C0 hw hr hlocks dX9_goBack_24
  · have h := (if_pos hc).symm.trans h
    refine lv_ldc C0.hx C0.hb C0.ho (C0.w kw_1025) dX9_goBack_10 ?_
    obtain rfl := Option.some.inj h
    exact q_reti C0 hw hr hlocks dX9_goBack_12
