abbrev rm_X5_hearAll : Room := { frames := 1, cells := 0, slots := 0, locals := 22 }
def f_X5_hearAll_b70 (k2 : Nat → Nat → Int32 → Mem → Option Mem) (a0 : Nat) (a1 : Nat) (x2 : Int32) (S : Mem) : Option Mem :=
    (some (x2 + (1 : Int32))).bind fun v6 =>
      k2 a0 a1 v6 S
def f_X5_hearAll_b2 : Nat → Nat → Nat → Int32 → Mem → Option Mem
  | 0, _, _, _, _ => none
  | n + 1, a0, a1, x2, S =>
    (gI 2 4 S a1).bind fun v1 =>
      (if v1 ≤ x2 then
      some S
      else
      (gR 5 7 S a0).bind fun r2 =>
      (ldI S r2 x2).bind fun v3 =>
      (gR 5 0 S a0).bind fun r4 =>
      (gI 4 1 S r4).bind fun v5 =>
      (if v3 = v5 then
      (gI 5 4 S a0).bind fun v7 =>
      (if (f_X8_bit v7 x2) = (0 : Int32) then
      (gI 5 4 S a0).bind fun v8 =>
      (f_X8_withBit v8 x2 (1 : Int32)).bind fun v9 =>
      (pI 5 4 S a0 v9).bind fun S10 =>
      (gI 5 5 S10 a0).bind fun v11 =>
      (gR 2 10 S10 a1).bind fun r12 =>
      (ldI S10 r12 x2).bind fun v13 =>
      (pI 5 5 S10 a0 (if (v11 + v13) < (999999 : Int32) then (v11 + v13) else (999999 : Int32))).bind fun S14 =>
      f_X5_hearAll_b70 (fun a0 a1 x2 S => f_X5_hearAll_b2  n a0 a1 x2 S) a0 a1 x2 S14
      else
      f_X5_hearAll_b70 (fun a0 a1 x2 S => f_X5_hearAll_b2  n a0 a1 x2 S) a0 a1 x2 S)
      else
      f_X5_hearAll_b70 (fun a0 a1 x2 S => f_X5_hearAll_b2  n a0 a1 x2 S) a0 a1 x2 S))
def f_X5_hearAll (a0 : Nat) (a1 : Nat) (S : Mem) : Option Mem :=
    f_X5_hearAll_b2 FU a0 a1 (0 : Int32) S
set_option maxHeartbeats 4000000 in
set_option maxRecDepth 100000 in
theorem w_X5_hearAll_b70 {p : Program} {l : Launch} {e : Env} {s : State} {m : MethodId} {args : Array Value} {below : List Frame} {meth : Method} {c : Code} {b0 : Nat} {D : va_G} {cy : Nat → ClassId} {q : Mem} (C0 : Cx p m c cX5_hearAll 3 s args RX5 D cy) (hr : meth.sig.returnType = none) (hlocks : meth.locks = false) (k2 : Nat → Nat → Int32 → Mem → Option Mem) (hk2 : ∀ (a0 : Nat) (a1 : Nat) (x2 : Int32) (S : Mem) (H : Heap) (locs : List Loc) (ls : Array Slot), Wd b0 D cy S s.heap H locs → lv_has ls 3 [(0, .ref (b0 + a0)), (1, .ref (b0 + a1)), (2, .int x2)] → k2 a0 a1 x2 S = some q → W p l e rm_X5_hearAll s m args below meth c H locs 0 0 (MQ below (Qp b0 D cy none q) args s 0 0 (fun q => b0 ≤ q)) (F0 m 2 ls [])) : ∀ (a0 : Nat) (a1 : Nat) (x2 : Int32) (S : Mem) (H : Heap) (locs : List Loc) (ls : Array Slot), Wd b0 D cy S s.heap H locs → lv_has ls 3 [(0, .ref (b0 + a0)), (1, .ref (b0 + a1)), (2, .int x2)] → f_X5_hearAll_b70 k2 a0 a1 x2 S = some q → W p l e rm_X5_hearAll s m args below meth c H locs 0 0 (MQ below (Qp b0 D cy none q) args s 0 0 (fun q => b0 ≤ q)) (F0 m 70 ls []) := by
  intro a0 a1 x2 S H locs ls hw hl h
  rw [f_X5_hearAll_b70] at h
  obtain ⟨v6, hv6, h⟩ := Option.bind_eq_some_iff.mp h
  refine lv_iinc (v := v6) (lv' := [(2, .int v6), (0, .ref (b0 + a0)), (1, .ref (b0 + a1))]) C0.hx C0.hb dX5_hearAll_70 hl (k := 2) rfl (by rw [← Option.some.inj hv6]; rfl) (by decide) rfl (fun ls hl => ?_)
  refine lv_goto (tgt := 2) C0.hx C0.hb dX5_hearAll_73 (by decide) ?_
  exact hk2 a0 a1 v6 S _ _ _ hw (lv_sub hl [1, 2, 0] rfl) h
set_option maxHeartbeats 4000000 in
set_option maxRecDepth 100000 in
theorem w_X5_hearAll_b2 {p : Program} {l : Launch} {e : Env} {s : State} {m : MethodId} {args : Array Value} {below : List Frame} {meth : Method} {c : Code} {b0 : Nat} {D : va_G} {cy : Nat → ClassId} {q : Mem} (C0 : Cx p m c cX5_hearAll 3 s args RX5 D cy) (hr : meth.sig.returnType = none) (hlocks : meth.locks = false) : ∀ (n : Nat) (a0 : Nat) (a1 : Nat) (x2 : Int32) (S : Mem) (H : Heap) (locs : List Loc) (ls : Array Slot), Wd b0 D cy S s.heap H locs → lv_has ls 3 [(0, .ref (b0 + a0)), (1, .ref (b0 + a1)), (2, .int x2)] → f_X5_hearAll_b2  n a0 a1 x2 S = some q → W p l e rm_X5_hearAll s m args below meth c H locs 0 0 (MQ below (Qp b0 D cy none q) args s 0 0 (fun q => b0 ≤ q)) (F0 m 2 ls []) := by
  intro n
  induction n with
  | zero => intro a0 a1 x2 S H locs ls hw hl h; exact absurd h (by simp [f_X5_hearAll_b2])
  | succ n ih =>
    intro a0 a1 x2 S H locs ls hw hl h
    rw [f_X5_hearAll_b2] at h
    refine lv_iload_n C0.hx C0.hb dX5_hearAll_2 rfl (lv_at hl 2 rfl) ?_
    refine lv_aload_n C0.hx C0.hb dX5_hearAll_3 rfl (lv_at hl 1 rfl) ?_
    obtain ⟨v1, hv1, h⟩ := Option.bind_eq_some_iff.mp h
    refine q_getI C0 hw hv1 rfl in_2 (by decide) kw_112 dX5_hearAll_4 ?_
    refine lv_icmp_ge (tgt := 76) C0.hx C0.hb dX5_hearAll_7 (by decide) (fun hc => ?_) (fun hc => ?_)
    · have h := (if_pos hc).symm.trans h
      obtain rfl := Option.some.inj h
      exact q_retv C0 hw hr hlocks dX5_hearAll_76
    · have h := (if_neg hc).symm.trans h
      refine lv_aload_n C0.hx C0.hb dX5_hearAll_10 rfl (lv_at hl 0 rfl) ?_
      obtain ⟨r2, hr2, h⟩ := Option.bind_eq_some_iff.mp h
      refine q_getR C0 hw hr2 rfl in_5 (by decide) kw_272 dX5_hearAll_11 ?_
      refine lv_iload_n C0.hx C0.hb dX5_hearAll_14 rfl (lv_at hl 2 rfl) ?_
      obtain ⟨v3, hv3, h⟩ := Option.bind_eq_some_iff.mp h
      refine q_ldI C0 hw hv3 dX5_hearAll_15 ?_
      refine lv_aload_n C0.hx C0.hb dX5_hearAll_16 rfl (lv_at hl 0 rfl) ?_
      obtain ⟨r4, hr4, h⟩ := Option.bind_eq_some_iff.mp h
      refine q_getR C0 hw hr4 rfl in_5 (by decide) kw_258 dX5_hearAll_17 ?_
      obtain ⟨v5, hv5, h⟩ := Option.bind_eq_some_iff.mp h
      refine q_getI C0 hw hv5 rfl in_4 (by decide) kw_198 dX5_hearAll_20 ?_
      refine lv_icmp_ne (tgt := 70) C0.hx C0.hb dX5_hearAll_23 (by decide) (fun hc => ?_) (fun hc => ?_)
      · have h := (if_neg hc).symm.trans h
        exact w_X5_hearAll_b70 C0 hr hlocks (fun a0 a1 x2 S => f_X5_hearAll_b2  n a0 a1 x2 S) ih a0 a1 x2 S _ _ _ hw (lv_sub hl [0, 1, 2] rfl) h
      · have h := (if_pos hc).symm.trans h
        refine lv_aload_n C0.hx C0.hb dX5_hearAll_26 rfl (lv_at hl 0 rfl) ?_
        obtain ⟨v7, hv7, h⟩ := Option.bind_eq_some_iff.mp h
        refine q_getI C0 hw hv7 rfl in_5 (by decide) kw_266 dX5_hearAll_27 ?_
        refine lv_iload_n C0.hx C0.hb dX5_hearAll_30 rfl (lv_at hl 2 rfl) ?_
        refine q_callSN (n := 2) (av := [.int v7, .int x2]) (rest := []) (st1 := [.int (f_X8_bit v7 x2)]) C0 hw (m_X8_bit l b0 D cy S v7 x2) kw_597 kw_529 kw_63 kw_530 ⟨rfl, rfl⟩ (by decide +kernel) ⟨(Nat.le_of_ble_eq_true rfl), (Nat.le_of_ble_eq_true rfl)⟩ rfl hl.1 rfl (Nat.le_of_ble_eq_true rfl) dX5_hearAll_31 ⟨Nat.zero_le _, Nat.zero_le _⟩ rfl (fun H locs hw => ?_)
        refine lv_if_ne (tgt := 70) C0.hx C0.hb dX5_hearAll_34 (by decide) (fun hc => ?_) (fun hc => ?_)
        · have h := (if_neg hc).symm.trans h
          exact w_X5_hearAll_b70 C0 hr hlocks (fun a0 a1 x2 S => f_X5_hearAll_b2  n a0 a1 x2 S) ih a0 a1 x2 S _ _ _ hw (lv_sub hl [0, 1, 2] rfl) h
        · have h := (if_pos hc).symm.trans h
          refine lv_aload_n C0.hx C0.hb dX5_hearAll_37 rfl (lv_at hl 0 rfl) ?_
          refine lv_aload_n C0.hx C0.hb dX5_hearAll_38 rfl (lv_at hl 0 rfl) ?_
          obtain ⟨v8, hv8, h⟩ := Option.bind_eq_some_iff.mp h
          refine q_getI C0 hw hv8 rfl in_5 (by decide) kw_266 dX5_hearAll_39 ?_
          refine lv_iload_n C0.hx C0.hb dX5_hearAll_42 rfl (lv_at hl 2 rfl) ?_
          refine lv_iconst (v := (1 : Int32)) C0.hx C0.hb dX5_hearAll_43 (by decide) ?_
          obtain ⟨v9, hv9, h⟩ := Option.bind_eq_some_iff.mp h
          refine q_callSN (n := 3) (av := [.int v8, .int x2, .int (1 : Int32)]) (rest := [.ref (b0 + a0)]) (st1 := [.int v9, .ref (b0 + a0)]) C0 hw (m_X8_withBit l b0 D cy S v8 x2 (1 : Int32) hv9) kw_598 kw_443 kw_63 kw_444 ⟨rfl, rfl⟩ (by decide +kernel) ⟨(Nat.le_of_ble_eq_true rfl), (Nat.le_of_ble_eq_true rfl)⟩ rfl hl.1 rfl (Nat.le_of_ble_eq_true rfl) dX5_hearAll_44 ⟨Nat.zero_le _, Nat.zero_le _⟩ rfl (fun H locs hw => ?_)
          obtain ⟨S10, hS10, h⟩ := Option.bind_eq_some_iff.mp h
          refine q_putI C0 hw hS10 rfl in_5 tyX5_ok nmX5 ⟨by decide, by decide, rfl, rfl⟩ rfl kw_266 dX5_hearAll_47 (fun H locs hw => ?_)
          refine lv_aload_n C0.hx C0.hb dX5_hearAll_50 rfl (lv_at hl 0 rfl) ?_
          refine lv_ldc C0.hx C0.hb C0.ho (C0.w kw_599) dX5_hearAll_51 ?_
          refine lv_aload_n C0.hx C0.hb dX5_hearAll_53 rfl (lv_at hl 0 rfl) ?_
          obtain ⟨v11, hv11, h⟩ := Option.bind_eq_some_iff.mp h
          refine q_getI C0 hw hv11 rfl in_5 (by decide) kw_268 dX5_hearAll_54 ?_
          refine lv_aload_n C0.hx C0.hb dX5_hearAll_57 rfl (lv_at hl 1 rfl) ?_
          obtain ⟨r12, hr12, h⟩ := Option.bind_eq_some_iff.mp h
          refine q_getR C0 hw hr12 rfl in_2 (by decide) kw_128 dX5_hearAll_58 ?_
          refine lv_iload_n C0.hx C0.hb dX5_hearAll_61 rfl (lv_at hl 2 rfl) ?_
          obtain ⟨v13, hv13, h⟩ := Option.bind_eq_some_iff.mp h
          refine q_ldI C0 hw hv13 dX5_hearAll_62 ?_
          refine lv_iadd C0.hx C0.hb dX5_hearAll_63 ?_
          refine va_mmin C0.hx C0.hb (C0.1.2.2.1.trans hl.1.symm) C0.ho (C0.w kw_600) (C0.w kw_582) (C0.w kw_75) (C0.w kw_583) (Nat.le_of_ble_eq_true rfl) (Nat.le_of_ble_eq_true rfl) (Nat.zero_le _) (Nat.zero_le _) dX5_hearAll_64 ?_
          obtain ⟨S14, hS14, h⟩ := Option.bind_eq_some_iff.mp h
          refine q_putI C0 hw hS14 rfl in_5 tyX5_ok nmX5 ⟨by decide, by decide, rfl, rfl⟩ rfl kw_268 dX5_hearAll_67 (fun H locs hw => ?_)
          exact w_X5_hearAll_b70 C0 hr hlocks (fun a0 a1 x2 S => f_X5_hearAll_b2  n a0 a1 x2 S) ih a0 a1 x2 S14 _ _ _ hw (lv_sub hl [0, 1, 2] rfl) h
set_option maxHeartbeats 4000000 in
set_option maxRecDepth 100000 in
theorem m_X5_hearAll (l : Launch) (b0 : Nat) (D : va_G) (cy : Nat → ClassId) (S : Mem) (a0 : Nat) (a1 : Nat) {q : Mem} (h : f_X5_hearAll a0 a1 S = some q) : Met l yX5_hearAll [.code yX5_hearAll cX5_hearAll 3 (none)] rm_X5_hearAll (Pr b0 D cy S [.ref (b0 + a0), .ref (b0 + a1)]) (Qp b0 D cy none q) 0 0 (fun q => b0 ≤ q) := by
  refine Met.ofW (cc := cX5_hearAll) (maxL := 3) (ret := none) (by decide) rfl ?_
  intro p e s m args below meth c s₁ B hml hv
  obtain ⟨rfl, hP, hK, hT⟩ := hv
  have C0 : Cx p m c cX5_hearAll 3 s (List.toArray [.ref (b0 + a0), .ref (b0 + a1)]) RX5 D cy := ⟨⟨B.exec, B.bytes, hml, findClass_of_methodNamed B.named, fun w h => hT w h _⟩, hK, hT⟩
  have hr : meth.sig.returnType = none := B.returns
  have hlocks := B.notSynchronized
  have hw : Wd b0 D cy S s.heap s.heap [] := ⟨hP, va_S.rf⟩
  have hl := lv_entry ([.ref (b0 + a0), .ref (b0 + a1)]) (n := 3) (Nat.le_of_ble_eq_true rfl)
  rw [lg_entry_eq]
  generalize (lg_sl ([.ref (b0 + a0), .ref (b0 + a1)]) ++ List.replicate (3 - (lg_sl ([.ref (b0 + a0), .ref (b0 + a1)])).length) Slot.unset).toArray = ls at hl ⊢
  have hl : lv_has ls 3 [(0, .ref (b0 + a0)), (1, .ref (b0 + a1))] := hl
  rw [f_X5_hearAll] at h
  show W p l e rm_X5_hearAll s m _ below meth c s.heap [] 0 0 _ _
  refine lv_iconst (v := (0 : Int32)) C0.hx C0.hb dX5_hearAll_0 (by decide) ?_
  refine lv_istore_n (lv' := [(2, .int (0 : Int32)), (0, .ref (b0 + a0)), (1, .ref (b0 + a1))]) C0.hx C0.hb dX5_hearAll_1 rfl hl (by decide) rfl (fun ls hl => ?_)
  exact w_X5_hearAll_b2 C0 hr hlocks FU a0 a1 (0 : Int32) S _ _ _ hw (lv_sub hl [1, 2, 0] rfl) h
abbrev rm_X7_add : Room := { frames := 1, cells := 0, slots := 0, locals := 21 }
def f_X7_add_b51 (a0 : Nat) (a1 : Nat) (t0 : Int32) (t1 : Int32) (t2 : Int32) (t3 : Nat) (S : Mem) : Option Mem :=
    (stI S t3 t2 (t1 ||| t0)).bind fun S12 =>
      (gR 7 4 S12 a0).bind fun r13 =>
      (gI 7 1 S12 a0).bind fun v14 =>
      (gI 4 3 S12 a1).bind fun v15 =>
      (stI S12 r13 v14 v15).bind fun S16 =>
      (gR 7 5 S16 a0).bind fun r17 =>
      (gI 7 1 S16 a0).bind fun v18 =>
      (gI 4 4 S16 a1).bind fun v19 =>
      (stI S16 r17 v18 v19).bind fun S20 =>
      (gI 7 1 S20 a0).bind fun v21 =>
      (pI 7 1 S20 a0 (irI (v21 + (1 : Int32)) (16 : Int32))).bind fun S22 =>
      (gI 7 0 S22 a0).bind fun v23 =>
      (pI 7 0 S22 a0 (if (v23 + (1 : Int32)) < (16 : Int32) then (v23 + (1 : Int32)) else (16 : Int32))).bind fun S24 =>
      some S24
def f_X7_add (a0 : Nat) (a1 : Nat) (x2 : Int32) (S : Mem) : Option Mem :=
    (gR 7 2 S a0).bind fun r1 =>
      (gI 7 1 S a0).bind fun v2 =>
      (gI 4 1 S a1).bind fun v3 =>
      (stI S r1 v2 ((v3 * (10 : Int32)) + x2)).bind fun S4 =>
      (gR 7 3 S4 a0).bind fun r5 =>
      (gI 7 1 S4 a0).bind fun v6 =>
      (ck 4 S4 a1).bind fun c7 =>
      (f_X4_roomsAhead a1 S4).bind fun v8 =>
      (gI 4 5 S4 a1).bind fun v9 =>
      (ck 4 S4 a1).bind fun c10 =>
      (f_X4_isWorn a1 S4).bind fun v11 =>
      (if v11 = (0 : Int32) then
      f_X7_add_b51 a0 a1 (0 : Int32) (v8 ||| (v9 <<< ((8 : Int32) &&& 31))) v6 r5 S4
      else
      f_X7_add_b51 a0 a1 (65536 : Int32) (v8 ||| (v9 <<< ((8 : Int32) &&& 31))) v6 r5 S4)
set_option maxHeartbeats 4000000 in
set_option maxRecDepth 100000 in
theorem w_X7_add_b51 {p : Program} {l : Launch} {e : Env} {s : State} {m : MethodId} {args : Array Value} {below : List Frame} {meth : Method} {c : Code} {b0 : Nat} {D : va_G} {cy : Nat → ClassId} {q : Mem} (C0 : Cx p m c cX7_add 3 s args RX7 D cy) (hr : meth.sig.returnType = none) (hlocks : meth.locks = false) : ∀ (a0 : Nat) (a1 : Nat) (t0 : Int32) (t1 : Int32) (t2 : Int32) (t3 : Nat) (S : Mem) (H : Heap) (locs : List Loc) (ls : Array Slot), Wd b0 D cy S s.heap H locs → lv_has ls 3 [(0, .ref (b0 + a0)), (1, .ref (b0 + a1))] → f_X7_add_b51  a0 a1 t0 t1 t2 t3 S = some q → W p l e rm_X7_add s m args below meth c H locs 0 0 (MQ below (Qp b0 D cy none q) args s 0 0 (fun q => b0 ≤ q)) (F0 m 51 ls [.int t0, .int t1, .int t2, .ref (b0 + t3)]) := by
  intro a0 a1 t0 t1 t2 t3 S H locs ls hw hl h
  rw [f_X7_add_b51] at h
  refine lv_ior C0.hx C0.hb dX7_add_51 ?_
  obtain ⟨S12, hS12, h⟩ := Option.bind_eq_some_iff.mp h
  refine q_stI C0 hw hS12 dX7_add_52 (fun H locs hw => ?_)
  refine lv_aload_n C0.hx C0.hb dX7_add_53 rfl (lv_at hl 0 rfl) ?_
  obtain ⟨r13, hr13, h⟩ := Option.bind_eq_some_iff.mp h
  refine q_getR C0 hw hr13 rfl in_7 (by decide) kw_243 dX7_add_54 ?_
  refine lv_aload_n C0.hx C0.hb dX7_add_57 rfl (lv_at hl 0 rfl) ?_
  obtain ⟨v14, hv14, h⟩ := Option.bind_eq_some_iff.mp h
  refine q_getI C0 hw hv14 rfl in_7 (by decide) kw_240 dX7_add_58 ?_
  refine lv_aload_n C0.hx C0.hb dX7_add_61 rfl (lv_at hl 1 rfl) ?_
  obtain ⟨v15, hv15, h⟩ := Option.bind_eq_some_iff.mp h
  refine q_getI C0 hw hv15 rfl in_4 (by decide) kw_204 dX7_add_62 ?_
  obtain ⟨S16, hS16, h⟩ := Option.bind_eq_some_iff.mp h
  refine q_stI C0 hw hS16 dX7_add_65 (fun H locs hw => ?_)
  refine lv_aload_n C0.hx C0.hb dX7_add_66 rfl (lv_at hl 0 rfl) ?_
  obtain ⟨r17, hr17, h⟩ := Option.bind_eq_some_iff.mp h
  refine q_getR C0 hw hr17 rfl in_7 (by decide) kw_244 dX7_add_67 ?_
  refine lv_aload_n C0.hx C0.hb dX7_add_70 rfl (lv_at hl 0 rfl) ?_
  obtain ⟨v18, hv18, h⟩ := Option.bind_eq_some_iff.mp h
  refine q_getI C0 hw hv18 rfl in_7 (by decide) kw_240 dX7_add_71 ?_
  refine lv_aload_n C0.hx C0.hb dX7_add_74 rfl (lv_at hl 1 rfl) ?_
  obtain ⟨v19, hv19, h⟩ := Option.bind_eq_some_iff.mp h
  refine q_getI C0 hw hv19 rfl in_4 (by decide) kw_207 dX7_add_75 ?_
  obtain ⟨S20, hS20, h⟩ := Option.bind_eq_some_iff.mp h
  refine q_stI C0 hw hS20 dX7_add_78 (fun H locs hw => ?_)
  refine lv_aload_n C0.hx C0.hb dX7_add_79 rfl (lv_at hl 0 rfl) ?_
  refine lv_aload_n C0.hx C0.hb dX7_add_80 rfl (lv_at hl 0 rfl) ?_
  obtain ⟨v21, hv21, h⟩ := Option.bind_eq_some_iff.mp h
  refine q_getI C0 hw hv21 rfl in_7 (by decide) kw_240 dX7_add_81 ?_
  refine lv_iconst (v := (1 : Int32)) C0.hx C0.hb dX7_add_84 (by decide) ?_
  refine lv_iadd C0.hx C0.hb dX7_add_85 ?_
  refine lv_bipush (v := (16 : Int32)) C0.hx C0.hb dX7_add_86 (by decide) ?_
  refine lv_irem C0.hx C0.hb dX7_add_88 (by decide) ?_
  obtain ⟨S22, hS22, h⟩ := Option.bind_eq_some_iff.mp h
  refine q_putI C0 hw hS22 rfl in_7 tyX7_ok nmX7 ⟨by decide, by decide, rfl, rfl⟩ rfl kw_240 dX7_add_89 (fun H locs hw => ?_)
  refine lv_aload_n C0.hx C0.hb dX7_add_92 rfl (lv_at hl 0 rfl) ?_
  refine lv_bipush (v := (16 : Int32)) C0.hx C0.hb dX7_add_93 (by decide) ?_
  refine lv_aload_n C0.hx C0.hb dX7_add_95 rfl (lv_at hl 0 rfl) ?_
  obtain ⟨v23, hv23, h⟩ := Option.bind_eq_some_iff.mp h
  refine q_getI C0 hw hv23 rfl in_7 (by decide) kw_238 dX7_add_96 ?_
  refine lv_iconst (v := (1 : Int32)) C0.hx C0.hb dX7_add_99 (by decide) ?_
  refine lv_iadd C0.hx C0.hb dX7_add_100 ?_
  refine va_mmin C0.hx C0.hb (C0.1.2.2.1.trans hl.1.symm) C0.ho (C0.w kw_619) (C0.w kw_582) (C0.w kw_75) (C0.w kw_583) (Nat.le_of_ble_eq_true rfl) (Nat.le_of_ble_eq_true rfl) (Nat.zero_le _) (Nat.zero_le _) dX7_add_101 ?_
  obtain ⟨S24, hS24, h⟩ := Option.bind_eq_some_iff.mp h
  refine q_putI C0 hw hS24 rfl in_7 tyX7_ok nmX7 ⟨by decide, by decide, rfl, rfl⟩ rfl kw_238 dX7_add_104 (fun H locs hw => ?_)
  obtain rfl := Option.some.inj h
  exact q_retv C0 hw hr hlocks dX7_add_107
set_option maxHeartbeats 4000000 in
set_option maxRecDepth 100000 in
theorem m_X7_add (l : Launch) (b0 : Nat) (D : va_G) (cy : Nat → ClassId) (S : Mem) (a0 : Nat) (a1 : Nat) (x2 : Int32) {q : Mem} (h : f_X7_add a0 a1 x2 S = some q) : Met l yX7_add [.code yX7_add cX7_add 3 (none)] rm_X7_add (Pr b0 D cy S [.ref (b0 + a0), .ref (b0 + a1), .int x2]) (Qp b0 D cy none q) 0 0 (fun q => b0 ≤ q) := by
  refine Met.ofW (cc := cX7_add) (maxL := 3) (ret := none) (by decide) rfl ?_
  intro p e s m args below meth c s₁ B hml hv
  obtain ⟨rfl, hP, hK, hT⟩ := hv
  have C0 : Cx p m c cX7_add 3 s (List.toArray [.ref (b0 + a0), .ref (b0 + a1), .int x2]) RX7 D cy := ⟨⟨B.exec, B.bytes, hml, findClass_of_methodNamed B.named, fun w h => hT w h _⟩, hK, hT⟩
  have hr : meth.sig.returnType = none := B.returns
  have hlocks := B.notSynchronized
  have hw : Wd b0 D cy S s.heap s.heap [] := ⟨hP, va_S.rf⟩
  have hl := lv_entry ([.ref (b0 + a0), .ref (b0 + a1), .int x2]) (n := 3) (Nat.le_of_ble_eq_true rfl)
  rw [lg_entry_eq]
  generalize (lg_sl ([.ref (b0 + a0), .ref (b0 + a1), .int x2]) ++ List.replicate (3 - (lg_sl ([.ref (b0 + a0), .ref (b0 + a1), .int x2])).length) Slot.unset).toArray = ls at hl ⊢
  have hl : lv_has ls 3 [(0, .ref (b0 + a0)), (1, .ref (b0 + a1)), (2, .int x2)] := hl
  rw [f_X7_add] at h
  show W p l e rm_X7_add s m _ below meth c s.heap [] 0 0 _ _
  refine lv_aload_n C0.hx C0.hb dX7_add_0 rfl (lv_at hl 0 rfl) ?_
  obtain ⟨r1, hr1, h⟩ := Option.bind_eq_some_iff.mp h
  refine q_getR C0 hw hr1 rfl in_7 (by decide) kw_241 dX7_add_1 ?_
  refine lv_aload_n C0.hx C0.hb dX7_add_4 rfl (lv_at hl 0 rfl) ?_
  obtain ⟨v2, hv2, h⟩ := Option.bind_eq_some_iff.mp h
  refine q_getI C0 hw hv2 rfl in_7 (by decide) kw_240 dX7_add_5 ?_
  refine lv_aload_n C0.hx C0.hb dX7_add_8 rfl (lv_at hl 1 rfl) ?_
  obtain ⟨v3, hv3, h⟩ := Option.bind_eq_some_iff.mp h
  refine q_getI C0 hw hv3 rfl in_4 (by decide) kw_199 dX7_add_9 ?_
  refine lv_bipush (v := (10 : Int32)) C0.hx C0.hb dX7_add_12 (by decide) ?_
  refine lv_imul C0.hx C0.hb dX7_add_14 ?_
  refine lv_iload_n C0.hx C0.hb dX7_add_15 rfl (lv_at hl 2 rfl) ?_
  refine lv_iadd C0.hx C0.hb dX7_add_16 ?_
  obtain ⟨S4, hS4, h⟩ := Option.bind_eq_some_iff.mp h
  refine q_stI C0 hw hS4 dX7_add_17 (fun H locs hw => ?_)
  refine lv_aload_n C0.hx C0.hb dX7_add_18 rfl (lv_at hl 0 rfl) ?_
  obtain ⟨r5, hr5, h⟩ := Option.bind_eq_some_iff.mp h
  refine q_getR C0 hw hr5 rfl in_7 (by decide) kw_242 dX7_add_19 ?_
  refine lv_aload_n C0.hx C0.hb dX7_add_22 rfl (lv_at hl 0 rfl) ?_
  obtain ⟨v6, hv6, h⟩ := Option.bind_eq_some_iff.mp h
  refine q_getI C0 hw hv6 rfl in_7 (by decide) kw_240 dX7_add_23 ?_
  refine lv_aload_n C0.hx C0.hb dX7_add_26 rfl (lv_at hl 1 rfl) ?_
  obtain ⟨c7, hc7, h⟩ := Option.bind_eq_some_iff.mp h
  obtain ⟨v8, hv8, h⟩ := Option.bind_eq_some_iff.mp h
  refine q_callV (n := 0) (av := []) (rest := [.int v6, .ref (b0 + r5)]) (st1 := [.int v8, .int v6, .ref (b0 + r5)]) C0 hw (m_X4_roomsAhead l b0 D cy S4 a1 hv8) hc7 rfl (by decide) (goodV kw_616 kw_606 kw_607 kw_67 kw_608) ⟨rfl, rfl⟩ (by decide +kernel) ⟨(Nat.le_of_ble_eq_true rfl), (Nat.le_of_ble_eq_true rfl)⟩ rfl hl.1 rfl (Nat.le_of_ble_eq_true rfl) dX7_add_27 ⟨Nat.zero_le _, Nat.zero_le _⟩ rfl (fun H locs hw => ?_)
  refine lv_aload_n C0.hx C0.hb dX7_add_30 rfl (lv_at hl 1 rfl) ?_
  obtain ⟨v9, hv9, h⟩ := Option.bind_eq_some_iff.mp h
  refine q_getI C0 hw hv9 rfl in_4 (by decide) kw_209 dX7_add_31 ?_
  refine lv_bipush (v := (8 : Int32)) C0.hx C0.hb dX7_add_34 (by decide) ?_
  refine lv_ishl C0.hx C0.hb dX7_add_36 ?_
  refine lv_ior C0.hx C0.hb dX7_add_37 ?_
  refine lv_aload_n C0.hx C0.hb dX7_add_38 rfl (lv_at hl 1 rfl) ?_
  obtain ⟨c10, hc10, h⟩ := Option.bind_eq_some_iff.mp h
  obtain ⟨v11, hv11, h⟩ := Option.bind_eq_some_iff.mp h
  refine q_callV (n := 0) (av := []) (rest := [.int (v8 ||| (v9 <<< ((8 : Int32) &&& 31))), .int v6, .ref (b0 + r5)]) (st1 := [.int v11, .int (v8 ||| (v9 <<< ((8 : Int32) &&& 31))), .int v6, .ref (b0 + r5)]) C0 hw (m_X4_isWorn l b0 D cy S4 a1 hv11) hc10 rfl (by decide) (goodV kw_617 kw_518 kw_519 kw_67 kw_520) ⟨rfl, rfl⟩ (by decide +kernel) ⟨(Nat.le_of_ble_eq_true rfl), (Nat.le_of_ble_eq_true rfl)⟩ rfl hl.1 rfl (Nat.le_of_ble_eq_true rfl) dX7_add_39 ⟨Nat.zero_le _, Nat.zero_le _⟩ rfl (fun H locs hw => ?_)
  refine lv_if_eq (tgt := 50) C0.hx C0.hb dX7_add_42 (by decide) (fun hc => ?_) (fun hc => ?_)
  · have h := (if_pos hc).symm.trans h
    refine lv_iconst (v := (0 : Int32)) C0.hx C0.hb dX7_add_50 (by decide) ?_
    exact w_X7_add_b51 C0 hr hlocks a0 a1 (0 : Int32) (v8 ||| (v9 <<< ((8 : Int32) &&& 31))) v6 r5 S4 _ _ _ hw (lv_sub hl [0, 1] rfl) h
  · have h := (if_neg hc).symm.trans h
    refine lv_ldc C0.hx C0.hb C0.ho (C0.w kw_618) dX7_add_45 ?_
    refine lv_goto (tgt := 51) C0.hx C0.hb dX7_add_47 (by decide) ?_
    exact w_X7_add_b51 C0 hr hlocks a0 a1 (65536 : Int32) (v8 ||| (v9 <<< ((8 : Int32) &&& 31))) v6 r5 S4 _ _ _ hw (lv_sub hl [0, 1] rfl) h
abbrev rm_X5_passHour : Room := { frames := 4, cells := 0, slots := 0, locals := 100 }
def f_X5_passHour_b74 (a0 : Nat) (S : Mem) : Option Mem :=
    (gI 5 2 S a0).bind fun v18 =>
      (pI 5 2 S a0 (v18 + (1 : Int32))).bind fun S19 =>
      some S19
def f_X5_passHour (a0 : Nat) (a1 : Nat) (S : Mem) : Option Mem :=
    (gR 5 6 S a0).bind fun r1 =>
      (gR 5 0 S a0).bind fun r2 =>
      (gI 4 1 S r2).bind fun v3 =>
      (ldI S r1 v3).bind fun v4 =>
      (stI S r1 v3 (v4 + (1 : Int32))).bind fun S5 =>
      (gR 5 0 S5 a0).bind fun r6 =>
      (ck 4 S5 r6).bind fun c7 =>
      (f_X4_feelGoverned r6 S5).bind fun S8 =>
      (ck 5 S8 a0).bind fun c9 =>
      (f_X5_hearAll a0 a1 S8).bind fun S10 =>
      (gR 5 0 S10 a0).bind fun r11 =>
      (gR 5 0 S10 a0).bind fun r12 =>
      (gI 4 0 S10 r12).bind fun v13 =>
      (ck 4 S10 r11).bind fun c14 =>
      (f_X4_nextBy r11 v13 S10).bind fun v15 =>
      (gR 5 0 S10 a0).bind fun r16 =>
      (gI 4 1 S10 r16).bind fun v17 =>
      (if v15 = v17 then
      f_X5_passHour_b74 a0 S10
      else
      (gR 5 1 S10 a0).bind fun r20 =>
      (gR 5 0 S10 a0).bind fun r21 =>
      (ck 7 S10 r20).bind fun c22 =>
      (f_X7_add r20 r21 v15 S10).bind fun S23 =>
      (gR 5 0 S23 a0).bind fun r24 =>
      (ck 4 S23 r24).bind fun c25 =>
      (f_X4_stepTo r24 v15 S23).bind fun S26 =>
      f_X5_passHour_b74 a0 S26)
set_option maxHeartbeats 4000000 in
set_option maxRecDepth 100000 in
theorem w_X5_passHour_b74 {p : Program} {l : Launch} {e : Env} {s : State} {m : MethodId} {args : Array Value} {below : List Frame} {meth : Method} {c : Code} {b0 : Nat} {D : va_G} {cy : Nat → ClassId} {q : Mem} (C0 : Cx p m c cX5_passHour 3 s args RX5 D cy) (hr : meth.sig.returnType = none) (hlocks : meth.locks = false) : ∀ (a0 : Nat) (S : Mem) (H : Heap) (locs : List Loc) (ls : Array Slot), Wd b0 D cy S s.heap H locs → lv_has ls 3 [(0, .ref (b0 + a0))] → f_X5_passHour_b74  a0 S = some q → W p l e rm_X5_passHour s m args below meth c H locs 0 0 (MQ below (Qp b0 D cy none q) args s 0 0 (fun q => b0 ≤ q)) (F0 m 74 ls []) := by
  intro a0 S H locs ls hw hl h
  rw [f_X5_passHour_b74] at h
  refine lv_aload_n C0.hx C0.hb dX5_passHour_74 rfl (lv_at hl 0 rfl) ?_
  refine lv_dup C0.hx C0.hb dX5_passHour_75 rfl ?_
  obtain ⟨v18, hv18, h⟩ := Option.bind_eq_some_iff.mp h
  refine q_getI C0 hw hv18 rfl in_5 (by decide) kw_262 dX5_passHour_76 ?_
  refine lv_iconst (v := (1 : Int32)) C0.hx C0.hb dX5_passHour_79 (by decide) ?_
  refine lv_iadd C0.hx C0.hb dX5_passHour_80 ?_
  obtain ⟨S19, hS19, h⟩ := Option.bind_eq_some_iff.mp h
  refine q_putI C0 hw hS19 rfl in_5 tyX5_ok nmX5 ⟨by decide, by decide, rfl, rfl⟩ rfl kw_262 dX5_passHour_81 (fun H locs hw => ?_)
  obtain rfl := Option.some.inj h
  exact q_retv C0 hw hr hlocks dX5_passHour_84
set_option maxHeartbeats 4000000 in
set_option maxRecDepth 100000 in
theorem m_X5_passHour (l : Launch) (b0 : Nat) (D : va_G) (cy : Nat → ClassId) (S : Mem) (a0 : Nat) (a1 : Nat) {q : Mem} (h : f_X5_passHour a0 a1 S = some q) : Met l yX5_passHour [.code yX5_passHour cX5_passHour 3 (none)] rm_X5_passHour (Pr b0 D cy S [.ref (b0 + a0), .ref (b0 + a1)]) (Qp b0 D cy none q) 0 0 (fun q => b0 ≤ q) := by
  refine Met.ofW (cc := cX5_passHour) (maxL := 3) (ret := none) (by decide) rfl ?_
  intro p e s m args below meth c s₁ B hml hv
  obtain ⟨rfl, hP, hK, hT⟩ := hv
  have C0 : Cx p m c cX5_passHour 3 s (List.toArray [.ref (b0 + a0), .ref (b0 + a1)]) RX5 D cy := ⟨⟨B.exec, B.bytes, hml, findClass_of_methodNamed B.named, fun w h => hT w h _⟩, hK, hT⟩
  have hr : meth.sig.returnType = none := B.returns
  have hlocks := B.notSynchronized
  have hw : Wd b0 D cy S s.heap s.heap [] := ⟨hP, va_S.rf⟩
  have hl := lv_entry ([.ref (b0 + a0), .ref (b0 + a1)]) (n := 3) (Nat.le_of_ble_eq_true rfl)
  rw [lg_entry_eq]
  generalize (lg_sl ([.ref (b0 + a0), .ref (b0 + a1)]) ++ List.replicate (3 - (lg_sl ([.ref (b0 + a0), .ref (b0 + a1)])).length) Slot.unset).toArray = ls at hl ⊢
  have hl : lv_has ls 3 [(0, .ref (b0 + a0)), (1, .ref (b0 + a1))] := hl
  rw [f_X5_passHour] at h
  show W p l e rm_X5_passHour s m _ below meth c s.heap [] 0 0 _ _
  refine lv_aload_n C0.hx C0.hb dX5_passHour_0 rfl (lv_at hl 0 rfl) ?_
  obtain ⟨r1, hr1, h⟩ := Option.bind_eq_some_iff.mp h
  refine q_getR C0 hw hr1 rfl in_5 (by decide) kw_270 dX5_passHour_1 ?_
  refine lv_aload_n C0.hx C0.hb dX5_passHour_4 rfl (lv_at hl 0 rfl) ?_
  obtain ⟨r2, hr2, h⟩ := Option.bind_eq_some_iff.mp h
  refine q_getR C0 hw hr2 rfl in_5 (by decide) kw_258 dX5_passHour_5 ?_
  obtain ⟨v3, hv3, h⟩ := Option.bind_eq_some_iff.mp h
  refine q_getI C0 hw hv3 rfl in_4 (by decide) kw_198 dX5_passHour_8 ?_
  refine lv_dup2_11 C0.hx C0.hb dX5_passHour_11 rfl rfl ?_
  obtain ⟨v4, hv4, h⟩ := Option.bind_eq_some_iff.mp h
  refine q_ldI C0 hw hv4 dX5_passHour_12 ?_
  refine lv_iconst (v := (1 : Int32)) C0.hx C0.hb dX5_passHour_13 (by decide) ?_
  refine lv_iadd C0.hx C0.hb dX5_passHour_14 ?_
  obtain ⟨S5, hS5, h⟩ := Option.bind_eq_some_iff.mp h
  refine q_stI C0 hw hS5 dX5_passHour_15 (fun H locs hw => ?_)
  refine lv_aload_n C0.hx C0.hb dX5_passHour_16 rfl (lv_at hl 0 rfl) ?_
  obtain ⟨r6, hr6, h⟩ := Option.bind_eq_some_iff.mp h
  refine q_getR C0 hw hr6 rfl in_5 (by decide) kw_258 dX5_passHour_17 ?_
  obtain ⟨c7, hc7, h⟩ := Option.bind_eq_some_iff.mp h
  obtain ⟨S8, hS8, h⟩ := Option.bind_eq_some_iff.mp h
  refine q_callV (n := 0) (av := []) (rest := []) (st1 := []) C0 hw (m_X4_feelGoverned l b0 D cy S5 r6 hS8) hc7 rfl (by decide) (goodV kw_588 kw_589 kw_590 kw_67 kw_591) ⟨rfl, rfl⟩ (by decide +kernel) ⟨(Nat.le_of_ble_eq_true rfl), (Nat.le_of_ble_eq_true rfl)⟩ rfl hl.1 rfl (Nat.le_of_ble_eq_true rfl) dX5_passHour_20 ⟨Nat.zero_le _, Nat.zero_le _⟩ rfl (fun H locs hw => ?_)
  refine lv_aload_n C0.hx C0.hb dX5_passHour_23 rfl (lv_at hl 0 rfl) ?_
  refine lv_aload_n C0.hx C0.hb dX5_passHour_24 rfl (lv_at hl 1 rfl) ?_
  obtain ⟨c9, hc9, h⟩ := Option.bind_eq_some_iff.mp h
  obtain ⟨S10, hS10, h⟩ := Option.bind_eq_some_iff.mp h
  refine q_callV (n := 1) (av := [.ref (b0 + a1)]) (rest := []) (st1 := []) C0 hw (m_X5_hearAll l b0 D cy S8 a0 a1 hS10) hc9 rfl (by decide) (goodV kw_593 kw_595 kw_13 kw_66 kw_596) ⟨rfl, rfl⟩ (by decide +kernel) ⟨(Nat.le_of_ble_eq_true rfl), (Nat.le_of_ble_eq_true rfl)⟩ rfl hl.1 rfl (Nat.le_of_ble_eq_true rfl) dX5_passHour_25 ⟨Nat.zero_le _, Nat.zero_le _⟩ rfl (fun H locs hw => ?_)
  refine lv_aload_n C0.hx C0.hb dX5_passHour_28 rfl (lv_at hl 0 rfl) ?_
  obtain ⟨r11, hr11, h⟩ := Option.bind_eq_some_iff.mp h
  refine q_getR C0 hw hr11 rfl in_5 (by decide) kw_258 dX5_passHour_29 ?_
  refine lv_aload_n C0.hx C0.hb dX5_passHour_32 rfl (lv_at hl 0 rfl) ?_
  obtain ⟨r12, hr12, h⟩ := Option.bind_eq_some_iff.mp h
  refine q_getR C0 hw hr12 rfl in_5 (by decide) kw_258 dX5_passHour_33 ?_
  obtain ⟨v13, hv13, h⟩ := Option.bind_eq_some_iff.mp h
  refine q_getI C0 hw hv13 rfl in_4 (by decide) kw_195 dX5_passHour_36 ?_
  obtain ⟨c14, hc14, h⟩ := Option.bind_eq_some_iff.mp h
  obtain ⟨v15, hv15, h⟩ := Option.bind_eq_some_iff.mp h
  refine q_callV (n := 1) (av := [.int v13]) (rest := []) (st1 := [.int v15]) C0 hw (m_X4_nextBy l b0 D cy S10 r11 v13 hv15) hc14 rfl (by decide) (goodV kw_601 kw_602 kw_603 kw_67 kw_604) ⟨rfl, rfl⟩ (by decide +kernel) ⟨(Nat.le_of_ble_eq_true rfl), (Nat.le_of_ble_eq_true rfl)⟩ rfl hl.1 rfl (Nat.le_of_ble_eq_true rfl) dX5_passHour_39 ⟨Nat.zero_le _, Nat.zero_le _⟩ rfl (fun H locs hw => ?_)
  refine lv_istore_n (lv' := [(2, .int v15), (0, .ref (b0 + a0)), (1, .ref (b0 + a1))]) C0.hx C0.hb dX5_passHour_42 rfl hl (by decide) rfl (fun ls hl => ?_)
  refine lv_iload_n C0.hx C0.hb dX5_passHour_43 rfl (lv_at hl 0 rfl) ?_
  refine lv_aload_n C0.hx C0.hb dX5_passHour_44 rfl (lv_at hl 1 rfl) ?_
  obtain ⟨r16, hr16, h⟩ := Option.bind_eq_some_iff.mp h
  refine q_getR C0 hw hr16 rfl in_5 (by decide) kw_258 dX5_passHour_45 ?_
  obtain ⟨v17, hv17, h⟩ := Option.bind_eq_some_iff.mp h
  refine q_getI C0 hw hv17 rfl in_4 (by decide) kw_198 dX5_passHour_48 ?_
  refine lv_icmp_eq (tgt := 74) C0.hx C0.hb dX5_passHour_51 (by decide) (fun hc => ?_) (fun hc => ?_)
  · have h := (if_pos hc).symm.trans h
    exact w_X5_passHour_b74 C0 hr hlocks a0 S10 _ _ _ hw (lv_sub hl [1] rfl) h
  · have h := (if_neg hc).symm.trans h
    refine lv_aload_n C0.hx C0.hb dX5_passHour_54 rfl (lv_at hl 1 rfl) ?_
    obtain ⟨r20, hr20, h⟩ := Option.bind_eq_some_iff.mp h
    refine q_getR C0 hw hr20 rfl in_5 (by decide) kw_260 dX5_passHour_55 ?_
    refine lv_aload_n C0.hx C0.hb dX5_passHour_58 rfl (lv_at hl 1 rfl) ?_
    obtain ⟨r21, hr21, h⟩ := Option.bind_eq_some_iff.mp h
    refine q_getR C0 hw hr21 rfl in_5 (by decide) kw_258 dX5_passHour_59 ?_
    refine lv_iload_n C0.hx C0.hb dX5_passHour_62 rfl (lv_at hl 0 rfl) ?_
    obtain ⟨c22, hc22, h⟩ := Option.bind_eq_some_iff.mp h
    obtain ⟨S23, hS23, h⟩ := Option.bind_eq_some_iff.mp h
    refine q_callV (n := 2) (av := [.ref (b0 + r21), .int v15]) (rest := []) (st1 := []) C0 hw (m_X7_add l b0 D cy S10 r20 r21 v15 hS23) hc22 rfl (by decide) (goodV kw_612 kw_613 kw_614 kw_68 kw_615) ⟨rfl, rfl⟩ (by decide +kernel) ⟨(Nat.le_of_ble_eq_true rfl), (Nat.le_of_ble_eq_true rfl)⟩ rfl hl.1 rfl (Nat.le_of_ble_eq_true rfl) dX5_passHour_63 ⟨Nat.zero_le _, Nat.zero_le _⟩ rfl (fun H locs hw => ?_)
    refine lv_aload_n C0.hx C0.hb dX5_passHour_66 rfl (lv_at hl 1 rfl) ?_
    obtain ⟨r24, hr24, h⟩ := Option.bind_eq_some_iff.mp h
    refine q_getR C0 hw hr24 rfl in_5 (by decide) kw_258 dX5_passHour_67 ?_
    refine lv_iload_n C0.hx C0.hb dX5_passHour_70 rfl (lv_at hl 0 rfl) ?_
    obtain ⟨c25, hc25, h⟩ := Option.bind_eq_some_iff.mp h
    obtain ⟨S26, hS26, h⟩ := Option.bind_eq_some_iff.mp h
    refine q_callV (n := 1) (av := [.int v15]) (rest := []) (st1 := []) C0 hw (m_X4_stepTo l b0 D cy S23 r24 v15 hS26) hc25 rfl (by decide) (goodV kw_620 kw_621 kw_622 kw_67 kw_623) ⟨rfl, rfl⟩ (by decide +kernel) ⟨(Nat.le_of_ble_eq_true rfl), (Nat.le_of_ble_eq_true rfl)⟩ rfl hl.1 rfl (Nat.le_of_ble_eq_true rfl) dX5_passHour_71 ⟨Nat.zero_le _, Nat.zero_le _⟩ rfl (fun H locs hw => ?_)
    exact w_X5_passHour_b74 C0 hr hlocks a0 S26 _ _ _ hw (lv_sub hl [1] rfl) h
abbrev rm_X6_add : Room := { frames := 0, cells := 0, slots := 0, locals := 0 }
def f_X6_add (a0 : Nat) (x1 : Int32) (S : Mem) : Option Mem :=
    (gI 6 0 S a0).bind fun v1 =>
      (if (240 : Int32) ≤ v1 then
      some S
      else
      (gR 6 4 S a0).bind fun r2 =>
      (gI 6 0 S a0).bind fun v3 =>
      (stI S r2 v3 x1).bind fun S4 =>
      (gI 6 0 S4 a0).bind fun v5 =>
      (pI 6 0 S4 a0 (v5 + (1 : Int32))).bind fun S6 =>
      some S6)
set_option maxHeartbeats 4000000 in
set_option maxRecDepth 100000 in
theorem m_X6_add (l : Launch) (b0 : Nat) (D : va_G) (cy : Nat → ClassId) (S : Mem) (a0 : Nat) (x1 : Int32) {q : Mem} (h : f_X6_add a0 x1 S = some q) : Met l yX6_add [.code yX6_add cX6_add 2 (none)] rm_X6_add (Pr b0 D cy S [.ref (b0 + a0), .int x1]) (Qp b0 D cy none q) 0 0 (fun q => b0 ≤ q) := by
  refine Met.ofW (cc := cX6_add) (maxL := 2) (ret := none) (by decide) rfl ?_
  intro p e s m args below meth c s₁ B hml hv
  obtain ⟨rfl, hP, hK, hT⟩ := hv
  have C0 : Cx p m c cX6_add 2 s (List.toArray [.ref (b0 + a0), .int x1]) RX6 D cy := ⟨⟨B.exec, B.bytes, hml, findClass_of_methodNamed B.named, fun w h => hT w h _⟩, hK, hT⟩
  have hr : meth.sig.returnType = none := B.returns
  have hlocks := B.notSynchronized
  have hw : Wd b0 D cy S s.heap s.heap [] := ⟨hP, va_S.rf⟩
  have hl := lv_entry ([.ref (b0 + a0), .int x1]) (n := 2) (Nat.le_of_ble_eq_true rfl)
  rw [lg_entry_eq]
  generalize (lg_sl ([.ref (b0 + a0), .int x1]) ++ List.replicate (2 - (lg_sl ([.ref (b0 + a0), .int x1])).length) Slot.unset).toArray = ls at hl ⊢
  have hl : lv_has ls 2 [(0, .ref (b0 + a0)), (1, .int x1)] := hl
  rw [f_X6_add] at h
  show W p l e rm_X6_add s m _ below meth c s.heap [] 0 0 _ _
  refine lv_aload_n C0.hx C0.hb dX6_add_0 rfl (lv_at hl 0 rfl) ?_
  obtain ⟨v1, hv1, h⟩ := Option.bind_eq_some_iff.mp h
  refine q_getI C0 hw hv1 rfl in_6 (by decide) kw_154 dX6_add_1 ?_
  refine lv_sipush (v := (240 : Int32)) C0.hx C0.hb dX6_add_4 (by decide) ?_
  refine lv_icmp_ge (tgt := 30) C0.hx C0.hb dX6_add_7 (by decide) (fun hc => ?_) (fun hc => ?_)
  · have h := (if_pos hc).symm.trans h
    obtain rfl := Option.some.inj h
    exact q_retv C0 hw hr hlocks dX6_add_30
  · have h := (if_neg hc).symm.trans h
    refine lv_aload_n C0.hx C0.hb dX6_add_10 rfl (lv_at hl 0 rfl) ?_
    obtain ⟨r2, hr2, h⟩ := Option.bind_eq_some_iff.mp h
    refine q_getR C0 hw hr2 rfl in_6 (by decide) kw_162 dX6_add_11 ?_
    refine lv_aload_n C0.hx C0.hb dX6_add_14 rfl (lv_at hl 0 rfl) ?_
    obtain ⟨v3, hv3, h⟩ := Option.bind_eq_some_iff.mp h
    refine q_getI C0 hw hv3 rfl in_6 (by decide) kw_154 dX6_add_15 ?_
    refine lv_iload_n C0.hx C0.hb dX6_add_18 rfl (lv_at hl 1 rfl) ?_
    obtain ⟨S4, hS4, h⟩ := Option.bind_eq_some_iff.mp h
    refine q_stI C0 hw hS4 dX6_add_19 (fun H locs hw => ?_)
    refine lv_aload_n C0.hx C0.hb dX6_add_20 rfl (lv_at hl 0 rfl) ?_
    refine lv_dup C0.hx C0.hb dX6_add_21 rfl ?_
    obtain ⟨v5, hv5, h⟩ := Option.bind_eq_some_iff.mp h
    refine q_getI C0 hw hv5 rfl in_6 (by decide) kw_154 dX6_add_22 ?_
    refine lv_iconst (v := (1 : Int32)) C0.hx C0.hb dX6_add_25 (by decide) ?_
    refine lv_iadd C0.hx C0.hb dX6_add_26 ?_
    obtain ⟨S6, hS6, h⟩ := Option.bind_eq_some_iff.mp h
    refine q_putI C0 hw hS6 rfl in_6 tyX6_ok nmX6 ⟨by decide, by decide, rfl, rfl⟩ rfl kw_154 dX6_add_27 (fun H locs hw => ?_)
    obtain rfl := Option.some.inj h
    exact q_retv C0 hw hr hlocks dX6_add_30
abbrev rm_X6_skipBlanks : Room := { frames := 0, cells := 0, slots := 0, locals := 0 }
def f_X6_skipBlanks_b0 : Nat → Nat → Mem → Option Mem
  | 0, _, _ => none
  | n + 1, a0, S =>
    (gI 6 5 S a0).bind fun v1 =>
      (gI 6 0 S a0).bind fun v2 =>
      (if v2 ≤ v1 then
      some S
      else
      (gR 6 4 S a0).bind fun r3 =>
      (gI 6 5 S a0).bind fun v4 =>
      (ldI S r3 v4).bind fun v5 =>
      (if v5 = (32 : Int32) then
      (gI 6 5 S a0).bind fun v6 =>
      (pI 6 5 S a0 (v6 + (1 : Int32))).bind fun S7 =>
      f_X6_skipBlanks_b0  n a0 S7
      else
      some S))
def f_X6_skipBlanks (a0 : Nat) (S : Mem) : Option Mem :=
    f_X6_skipBlanks_b0 FU a0 S
set_option maxHeartbeats 4000000 in
set_option maxRecDepth 100000 in
theorem w_X6_skipBlanks_b0 {p : Program} {l : Launch} {e : Env} {s : State} {m : MethodId} {args : Array Value} {below : List Frame} {meth : Method} {c : Code} {b0 : Nat} {D : va_G} {cy : Nat → ClassId} {q : Mem} (C0 : Cx p m c cX6_skipBlanks 1 s args RX6 D cy) (hr : meth.sig.returnType = none) (hlocks : meth.locks = false) : ∀ (n : Nat) (a0 : Nat) (S : Mem) (H : Heap) (locs : List Loc) (ls : Array Slot), Wd b0 D cy S s.heap H locs → lv_has ls 1 [(0, .ref (b0 + a0))] → f_X6_skipBlanks_b0  n a0 S = some q → W p l e rm_X6_skipBlanks s m args below meth c H locs 0 0 (MQ below (Qp b0 D cy none q) args s 0 0 (fun q => b0 ≤ q)) (F0 m 0 ls []) := by
  intro n
  induction n with
  | zero => intro a0 S H locs ls hw hl h; exact absurd h (by simp [f_X6_skipBlanks_b0])
  | succ n ih =>
    intro a0 S H locs ls hw hl h
    rw [f_X6_skipBlanks_b0] at h
    refine lv_aload_n C0.hx C0.hb dX6_skipBlanks_0 rfl (lv_at hl 0 rfl) ?_
    obtain ⟨v1, hv1, h⟩ := Option.bind_eq_some_iff.mp h
    refine q_getI C0 hw hv1 rfl in_6 (by decide) kw_163 dX6_skipBlanks_1 ?_
    refine lv_aload_n C0.hx C0.hb dX6_skipBlanks_4 rfl (lv_at hl 0 rfl) ?_
    obtain ⟨v2, hv2, h⟩ := Option.bind_eq_some_iff.mp h
    refine q_getI C0 hw hv2 rfl in_6 (by decide) kw_154 dX6_skipBlanks_5 ?_
    refine lv_icmp_ge (tgt := 38) C0.hx C0.hb dX6_skipBlanks_8 (by decide) (fun hc => ?_) (fun hc => ?_)
    · have h := (if_pos hc).symm.trans h
      obtain rfl := Option.some.inj h
      exact q_retv C0 hw hr hlocks dX6_skipBlanks_38
    · have h := (if_neg hc).symm.trans h
      refine lv_aload_n C0.hx C0.hb dX6_skipBlanks_11 rfl (lv_at hl 0 rfl) ?_
      obtain ⟨r3, hr3, h⟩ := Option.bind_eq_some_iff.mp h
      refine q_getR C0 hw hr3 rfl in_6 (by decide) kw_162 dX6_skipBlanks_12 ?_
      refine lv_aload_n C0.hx C0.hb dX6_skipBlanks_15 rfl (lv_at hl 0 rfl) ?_
      obtain ⟨v4, hv4, h⟩ := Option.bind_eq_some_iff.mp h
      refine q_getI C0 hw hv4 rfl in_6 (by decide) kw_163 dX6_skipBlanks_16 ?_
      obtain ⟨v5, hv5, h⟩ := Option.bind_eq_some_iff.mp h
      refine q_ldI C0 hw hv5 dX6_skipBlanks_19 ?_
      refine lv_bipush (v := (32 : Int32)) C0.hx C0.hb dX6_skipBlanks_20 (by decide) ?_
      refine lv_icmp_ne (tgt := 38) C0.hx C0.hb dX6_skipBlanks_22 (by decide) (fun hc => ?_) (fun hc => ?_)
      · have h := (if_neg hc).symm.trans h
        obtain rfl := Option.some.inj h
        exact q_retv C0 hw hr hlocks dX6_skipBlanks_38
      · have h := (if_pos hc).symm.trans h
        refine lv_aload_n C0.hx C0.hb dX6_skipBlanks_25 rfl (lv_at hl 0 rfl) ?_
        refine lv_dup C0.hx C0.hb dX6_skipBlanks_26 rfl ?_
        obtain ⟨v6, hv6, h⟩ := Option.bind_eq_some_iff.mp h
        refine q_getI C0 hw hv6 rfl in_6 (by decide) kw_163 dX6_skipBlanks_27 ?_
        refine lv_iconst (v := (1 : Int32)) C0.hx C0.hb dX6_skipBlanks_30 (by decide) ?_
        refine lv_iadd C0.hx C0.hb dX6_skipBlanks_31 ?_
        obtain ⟨S7, hS7, h⟩ := Option.bind_eq_some_iff.mp h
        refine q_putI C0 hw hS7 rfl in_6 tyX6_ok nmX6 ⟨by decide, by decide, rfl, rfl⟩ rfl kw_163 dX6_skipBlanks_32 (fun H locs hw => ?_)
        refine lv_goto (tgt := 0) C0.hx C0.hb dX6_skipBlanks_35 (by decide) ?_
        exact ih a0 S7 _ _ _ hw (lv_sub hl [0] rfl) h
set_option maxHeartbeats 4000000 in
set_option maxRecDepth 100000 in
theorem m_X6_skipBlanks (l : Launch) (b0 : Nat) (D : va_G) (cy : Nat → ClassId) (S : Mem) (a0 : Nat) {q : Mem} (h : f_X6_skipBlanks a0 S = some q) : Met l yX6_skipBlanks [.code yX6_skipBlanks cX6_skipBlanks 1 (none)] rm_X6_skipBlanks (Pr b0 D cy S [.ref (b0 + a0)]) (Qp b0 D cy none q) 0 0 (fun q => b0 ≤ q) := by
  refine Met.ofW (cc := cX6_skipBlanks) (maxL := 1) (ret := none) (by decide) rfl ?_
  intro p e s m args below meth c s₁ B hml hv
  obtain ⟨rfl, hP, hK, hT⟩ := hv
  have C0 : Cx p m c cX6_skipBlanks 1 s (List.toArray [.ref (b0 + a0)]) RX6 D cy := ⟨⟨B.exec, B.bytes, hml, findClass_of_methodNamed B.named, fun w h => hT w h _⟩, hK, hT⟩
  have hr : meth.sig.returnType = none := B.returns
  have hlocks := B.notSynchronized
  have hw : Wd b0 D cy S s.heap s.heap [] := ⟨hP, va_S.rf⟩
  have hl := lv_entry ([.ref (b0 + a0)]) (n := 1) (Nat.le_of_ble_eq_true rfl)
  rw [lg_entry_eq]
  generalize (lg_sl ([.ref (b0 + a0)]) ++ List.replicate (1 - (lg_sl ([.ref (b0 + a0)])).length) Slot.unset).toArray = ls at hl ⊢
  have hl : lv_has ls 1 [(0, .ref (b0 + a0))] := hl
  rw [f_X6_skipBlanks] at h
  show W p l e rm_X6_skipBlanks s m _ below meth c s.heap [] 0 0 _ _
  exact w_X6_skipBlanks_b0 C0 hr hlocks FU a0 S _ _ _ hw (lv_sub hl [0] rfl) h
abbrev rm_X6_noteFault : Room := { frames := 0, cells := 0, slots := 0, locals := 0 }
def f_X6_noteFault (a0 : Nat) (x1 : Int32) (x2 : Int32) (S : Mem) : Option Mem :=
    (pI 6 1 S a0 x1).bind fun S1 =>
      (pI 6 2 S1 a0 x2).bind fun S2 =>
      some S2
set_option maxHeartbeats 4000000 in
set_option maxRecDepth 100000 in
theorem m_X6_noteFault (l : Launch) (b0 : Nat) (D : va_G) (cy : Nat → ClassId) (S : Mem) (a0 : Nat) (x1 : Int32) (x2 : Int32) {q : Mem} (h : f_X6_noteFault a0 x1 x2 S = some q) : Met l yX6_noteFault [.code yX6_noteFault cX6_noteFault 3 (none)] rm_X6_noteFault (Pr b0 D cy S [.ref (b0 + a0), .int x1, .int x2]) (Qp b0 D cy none q) 0 0 (fun q => b0 ≤ q) := by
  refine Met.ofW (cc := cX6_noteFault) (maxL := 3) (ret := none) (by decide) rfl ?_
  intro p e s m args below meth c s₁ B hml hv
  obtain ⟨rfl, hP, hK, hT⟩ := hv
  have C0 : Cx p m c cX6_noteFault 3 s (List.toArray [.ref (b0 + a0), .int x1, .int x2]) RX6 D cy := ⟨⟨B.exec, B.bytes, hml, findClass_of_methodNamed B.named, fun w h => hT w h _⟩, hK, hT⟩
  have hr : meth.sig.returnType = none := B.returns
  have hlocks := B.notSynchronized
  have hw : Wd b0 D cy S s.heap s.heap [] := ⟨hP, va_S.rf⟩
  have hl := lv_entry ([.ref (b0 + a0), .int x1, .int x2]) (n := 3) (Nat.le_of_ble_eq_true rfl)
  rw [lg_entry_eq]
  generalize (lg_sl ([.ref (b0 + a0), .int x1, .int x2]) ++ List.replicate (3 - (lg_sl ([.ref (b0 + a0), .int x1, .int x2])).length) Slot.unset).toArray = ls at hl ⊢
  have hl : lv_has ls 3 [(0, .ref (b0 + a0)), (1, .int x1), (2, .int x2)] := hl
  rw [f_X6_noteFault] at h
  show W p l e rm_X6_noteFault s m _ below meth c s.heap [] 0 0 _ _
  refine lv_aload_n C0.hx C0.hb dX6_noteFault_0 rfl (lv_at hl 0 rfl) ?_
  refine lv_iload_n C0.hx C0.hb dX6_noteFault_1 rfl (lv_at hl 1 rfl) ?_
  obtain ⟨S1, hS1, h⟩ := Option.bind_eq_some_iff.mp h
  refine q_putI C0 hw hS1 rfl in_6 tyX6_ok nmX6 ⟨by decide, by decide, rfl, rfl⟩ rfl kw_156 dX6_noteFault_2 (fun H locs hw => ?_)
  refine lv_aload_n C0.hx C0.hb dX6_noteFault_5 rfl (lv_at hl 0 rfl) ?_
  refine lv_iload_n C0.hx C0.hb dX6_noteFault_6 rfl (lv_at hl 2 rfl) ?_
  obtain ⟨S2, hS2, h⟩ := Option.bind_eq_some_iff.mp h
  refine q_putI C0 hw hS2 rfl in_6 tyX6_ok nmX6 ⟨by decide, by decide, rfl, rfl⟩ rfl kw_158 dX6_noteFault_7 (fun H locs hw => ?_)
  obtain rfl := Option.some.inj h
  exact q_retv C0 hw hr hlocks dX6_noteFault_10
abbrev rm_X6_readWord : Room := { frames := 1, cells := 0, slots := 0, locals := 22 }
def f_X6_readWord_b13 (a0 : Nat) (S : Mem) : Option Mem :=
    (gI 6 5 S a0).bind fun v1 =>
      (pI 6 5 S a0 (v1 + (1 : Int32))).bind fun S2 =>
      some S2
def f_X6_readWord (a0 : Nat) (x1 : Int32) (S : Mem) : Option Mem :=
    (if x1 = (0 : Int32) then
      f_X6_readWord_b13 a0 S
      else
      (gI 6 5 S a0).bind fun v3 =>
      (ck 6 S a0).bind fun c4 =>
      (f_X6_noteFault a0 (3 : Int32) v3 S).bind fun S5 =>
      f_X6_readWord_b13 a0 S5)
set_option maxHeartbeats 4000000 in
set_option maxRecDepth 100000 in
theorem w_X6_readWord_b13 {p : Program} {l : Launch} {e : Env} {s : State} {m : MethodId} {args : Array Value} {below : List Frame} {meth : Method} {c : Code} {b0 : Nat} {D : va_G} {cy : Nat → ClassId} {q : Mem} (C0 : Cx p m c cX6_readWord 2 s args RX6 D cy) (hr : meth.sig.returnType = none) (hlocks : meth.locks = false) : ∀ (a0 : Nat) (S : Mem) (H : Heap) (locs : List Loc) (ls : Array Slot), Wd b0 D cy S s.heap H locs → lv_has ls 2 [(0, .ref (b0 + a0))] → f_X6_readWord_b13  a0 S = some q → W p l e rm_X6_readWord s m args below meth c H locs 0 0 (MQ below (Qp b0 D cy none q) args s 0 0 (fun q => b0 ≤ q)) (F0 m 13 ls []) := by
  intro a0 S H locs ls hw hl h
  rw [f_X6_readWord_b13] at h
  refine lv_aload_n C0.hx C0.hb dX6_readWord_13 rfl (lv_at hl 0 rfl) ?_
  refine lv_dup C0.hx C0.hb dX6_readWord_14 rfl ?_
  obtain ⟨v1, hv1, h⟩ := Option.bind_eq_some_iff.mp h
  refine q_getI C0 hw hv1 rfl in_6 (by decide) kw_163 dX6_readWord_15 ?_
  refine lv_iconst (v := (1 : Int32)) C0.hx C0.hb dX6_readWord_18 (by decide) ?_
  refine lv_iadd C0.hx C0.hb dX6_readWord_19 ?_
  obtain ⟨S2, hS2, h⟩ := Option.bind_eq_some_iff.mp h
  refine q_putI C0 hw hS2 rfl in_6 tyX6_ok nmX6 ⟨by decide, by decide, rfl, rfl⟩ rfl kw_163 dX6_readWord_20 (fun H locs hw => ?_)
  obtain rfl := Option.some.inj h
  exact q_retv C0 hw hr hlocks dX6_readWord_23
set_option maxHeartbeats 4000000 in
set_option maxRecDepth 100000 in
theorem m_X6_readWord (l : Launch) (b0 : Nat) (D : va_G) (cy : Nat → ClassId) (S : Mem) (a0 : Nat) (x1 : Int32) {q : Mem} (h : f_X6_readWord a0 x1 S = some q) : Met l yX6_readWord [.code yX6_readWord cX6_readWord 2 (none)] rm_X6_readWord (Pr b0 D cy S [.ref (b0 + a0), .int x1]) (Qp b0 D cy none q) 0 0 (fun q => b0 ≤ q) := by
  refine Met.ofW (cc := cX6_readWord) (maxL := 2) (ret := none) (by decide) rfl ?_
  intro p e s m args below meth c s₁ B hml hv
  obtain ⟨rfl, hP, hK, hT⟩ := hv
  have C0 : Cx p m c cX6_readWord 2 s (List.toArray [.ref (b0 + a0), .int x1]) RX6 D cy := ⟨⟨B.exec, B.bytes, hml, findClass_of_methodNamed B.named, fun w h => hT w h _⟩, hK, hT⟩
  have hr : meth.sig.returnType = none := B.returns
  have hlocks := B.notSynchronized
  have hw : Wd b0 D cy S s.heap s.heap [] := ⟨hP, va_S.rf⟩
  have hl := lv_entry ([.ref (b0 + a0), .int x1]) (n := 2) (Nat.le_of_ble_eq_true rfl)
  rw [lg_entry_eq]
  generalize (lg_sl ([.ref (b0 + a0), .int x1]) ++ List.replicate (2 - (lg_sl ([.ref (b0 + a0), .int x1])).length) Slot.unset).toArray = ls at hl ⊢
  have hl : lv_has ls 2 [(0, .ref (b0 + a0)), (1, .int x1)] := hl
  rw [f_X6_readWord] at h
  show W p l e rm_X6_readWord s m _ below meth c s.heap [] 0 0 _ _
  refine lv_iload_n C0.hx C0.hb dX6_readWord_0 rfl (lv_at hl 1 rfl) ?_
  refine lv_if_eq (tgt := 13) C0.hx C0.hb dX6_readWord_1 (by decide) (fun hc => ?_) (fun hc => ?_)
  · have h := (if_pos hc).symm.trans h
    exact w_X6_readWord_b13 C0 hr hlocks a0 S _ _ _ hw (lv_sub hl [0] rfl) h
  · have h := (if_neg hc).symm.trans h
    refine lv_aload_n C0.hx C0.hb dX6_readWord_4 rfl (lv_at hl 0 rfl) ?_
    refine lv_iconst (v := (3 : Int32)) C0.hx C0.hb dX6_readWord_5 (by decide) ?_
    refine lv_aload_n C0.hx C0.hb dX6_readWord_6 rfl (lv_at hl 0 rfl) ?_
    obtain ⟨v3, hv3, h⟩ := Option.bind_eq_some_iff.mp h
    refine q_getI C0 hw hv3 rfl in_6 (by decide) kw_163 dX6_readWord_7 ?_
    obtain ⟨c4, hc4, h⟩ := Option.bind_eq_some_iff.mp h
    obtain ⟨S5, hS5, h⟩ := Option.bind_eq_some_iff.mp h
    refine q_callV (n := 2) (av := [.int (3 : Int32), .int v3]) (rest := []) (st1 := []) C0 hw (m_X6_noteFault l b0 D cy S a0 (3 : Int32) v3 hS5) hc4 rfl (by decide) (goodV kw_411 kw_413 kw_2 kw_64 kw_414) ⟨rfl, rfl⟩ (by decide +kernel) ⟨(Nat.le_of_ble_eq_true rfl), (Nat.le_of_ble_eq_true rfl)⟩ rfl hl.1 rfl (Nat.le_of_ble_eq_true rfl) dX6_readWord_10 ⟨Nat.zero_le _, Nat.zero_le _⟩ rfl (fun H locs hw => ?_)
    exact w_X6_readWord_b13 C0 hr hlocks a0 S5 _ _ _ hw (lv_sub hl [0] rfl) h
abbrev rm_X6_readNumber : Room := { frames := 1, cells := 0, slots := 0, locals := 22 }
def f_X6_readNumber_b96 (k23 : Nat → Int32 → Int32 → Mem → Option (Int32 × Mem)) (a0 : Nat) (x1 : Int32) (t0 : Int32) (S : Mem) : Option (Int32 × Mem) :=
    (gI 6 5 S a0).bind fun v25 =>
      (pI 6 5 S a0 (v25 + (1 : Int32))).bind fun S26 =>
      k23 a0 x1 t0 S26
def f_X6_readNumber_b146 (a0 : Nat) (x2 : Int32) (S : Mem) : Option (Int32 × Mem) :=
    (gI 6 6 S a0).bind fun v11 =>
      (ck 6 S a0).bind fun c12 =>
      (f_X6_noteFault a0 (2 : Int32) v11 S).bind fun S13 =>
      some (x2, S13)
def f_X6_readNumber_b110 (a0 : Nat) (x1 : Int32) (x2 : Int32) (S : Mem) : Option (Int32 × Mem) :=
    (gI 6 5 S a0).bind fun v8 =>
      (gI 6 6 S a0).bind fun v9 =>
      (some (v8 - v9)).bind fun v10 =>
      (if v10 = (0 : Int32) then
      (gI 6 5 S a0).bind fun v14 =>
      (ck 6 S a0).bind fun c15 =>
      (f_X6_noteFault a0 (1 : Int32) v14 S).bind fun S16 =>
      some (x2, S16)
      else
      (if (3 : Int32) < v10 then
      f_X6_readNumber_b146 a0 x2 S
      else
      (if x2 ≤ x1 then
      some (x2, S)
      else
      f_X6_readNumber_b146 a0 x2 S)))
def f_X6_readNumber_b23 : Nat → Nat → Int32 → Int32 → Mem → Option (Int32 × Mem)
  | 0, _, _, _, _ => none
  | n + 1, a0, x1, x2, S =>
    (gI 6 5 S a0).bind fun v6 =>
      (gI 6 0 S a0).bind fun v7 =>
      (if v7 ≤ v6 then
      f_X6_readNumber_b110 a0 x1 x2 S
      else
      (gR 6 4 S a0).bind fun r17 =>
      (gI 6 5 S a0).bind fun v18 =>
      (ldI S r17 v18).bind fun v19 =>
      (if v19 < (48 : Int32) then
      f_X6_readNumber_b110 a0 x1 x2 S
      else
      (gR 6 4 S a0).bind fun r20 =>
      (gI 6 5 S a0).bind fun v21 =>
      (ldI S r20 v21).bind fun v22 =>
      (if (57 : Int32) < v22 then
      f_X6_readNumber_b110 a0 x1 x2 S
      else
      (gI 6 5 S a0).bind fun v23 =>
      (gI 6 6 S a0).bind fun v24 =>
      (if (3 : Int32) ≤ (v23 - v24) then
      f_X6_readNumber_b96 (fun a0 x1 x2 S => f_X6_readNumber_b23  n a0 x1 x2 S) a0 x1 x2 S
      else
      (gR 6 4 S a0).bind fun r27 =>
      (gI 6 5 S a0).bind fun v28 =>
      (ldI S r27 v28).bind fun v29 =>
      f_X6_readNumber_b96 (fun a0 x1 x2 S => f_X6_readNumber_b23  n a0 x1 x2 S) a0 x1 (((x2 * (10 : Int32)) + v29) - (48 : Int32)) S))))
def f_X6_readNumber (a0 : Nat) (x1 : Int32) (S : Mem) : Option (Int32 × Mem) :=
    (gI 6 1 S a0).bind fun v1 =>
      (if v1 = (0 : Int32) then
      (ck 6 S a0).bind fun c2 =>
      (f_X6_skipBlanks a0 S).bind fun S3 =>
      (gI 6 5 S3 a0).bind fun v4 =>
      (pI 6 6 S3 a0 v4).bind fun S5 =>
      f_X6_readNumber_b23 FU a0 x1 (0 : Int32) S5
      else
      some ((0 : Int32), S))
set_option maxHeartbeats 4000000 in
set_option maxRecDepth 100000 in
theorem w_X6_readNumber_b96 {p : Program} {l : Launch} {e : Env} {s : State} {m : MethodId} {args : Array Value} {below : List Frame} {meth : Method} {c : Code} {b0 : Nat} {D : va_G} {cy : Nat → ClassId} {q : (Int32 × Mem)} (C0 : Cx p m c cX6_readNumber 4 s args RX6 D cy) (hr : meth.sig.returnType = some .int) (hlocks : meth.locks = false) (k23 : Nat → Int32 → Int32 → Mem → Option (Int32 × Mem)) (hk23 : ∀ (a0 : Nat) (x1 : Int32) (x2 : Int32) (S : Mem) (H : Heap) (locs : List Loc) (ls : Array Slot), Wd b0 D cy S s.heap H locs → lv_has ls 4 [(0, .ref (b0 + a0)), (1, .int x1), (2, .int x2)] → k23 a0 x1 x2 S = some q → W p l e rm_X6_readNumber s m args below meth c H locs 0 0 (MQ below (Qp b0 D cy (some (.int q.1)) q.2) args s 0 0 (fun q => b0 ≤ q)) (F0 m 23 ls [])) : ∀ (a0 : Nat) (x1 : Int32) (t0 : Int32) (S : Mem) (H : Heap) (locs : List Loc) (ls : Array Slot), Wd b0 D cy S s.heap H locs → lv_has ls 4 [(0, .ref (b0 + a0)), (1, .int x1)] → f_X6_readNumber_b96 k23 a0 x1 t0 S = some q → W p l e rm_X6_readNumber s m args below meth c H locs 0 0 (MQ below (Qp b0 D cy (some (.int q.1)) q.2) args s 0 0 (fun q => b0 ≤ q)) (F0 m 96 ls [.int t0]) := by
  intro a0 x1 t0 S H locs ls hw hl h
  rw [f_X6_readNumber_b96] at h
  refine lv_istore_n (lv' := [(2, .int t0), (0, .ref (b0 + a0)), (1, .int x1)]) C0.hx C0.hb dX6_readNumber_96 rfl hl (by decide) rfl (fun ls hl => ?_)
  refine lv_aload_n C0.hx C0.hb dX6_readNumber_97 rfl (lv_at hl 1 rfl) ?_
  refine lv_dup C0.hx C0.hb dX6_readNumber_98 rfl ?_
  obtain ⟨v25, hv25, h⟩ := Option.bind_eq_some_iff.mp h
  refine q_getI C0 hw hv25 rfl in_6 (by decide) kw_163 dX6_readNumber_99 ?_
  refine lv_iconst (v := (1 : Int32)) C0.hx C0.hb dX6_readNumber_102 (by decide) ?_
  refine lv_iadd C0.hx C0.hb dX6_readNumber_103 ?_
  obtain ⟨S26, hS26, h⟩ := Option.bind_eq_some_iff.mp h
  refine q_putI C0 hw hS26 rfl in_6 tyX6_ok nmX6 ⟨by decide, by decide, rfl, rfl⟩ rfl kw_163 dX6_readNumber_104 (fun H locs hw => ?_)
  refine lv_goto (tgt := 23) C0.hx C0.hb dX6_readNumber_107 (by decide) ?_
  exact hk23 a0 x1 t0 S26 _ _ _ hw (lv_sub hl [1, 2, 0] rfl) h
set_option maxHeartbeats 4000000 in
set_option maxRecDepth 100000 in
theorem w_X6_readNumber_b146 {p : Program} {l : Launch} {e : Env} {s : State} {m : MethodId} {args : Array Value} {below : List Frame} {meth : Method} {c : Code} {b0 : Nat} {D : va_G} {cy : Nat → ClassId} {q : (Int32 × Mem)} (C0 : Cx p m c cX6_readNumber 4 s args RX6 D cy) (hr : meth.sig.returnType = some .int) (hlocks : meth.locks = false) : ∀ (a0 : Nat) (x2 : Int32) (S : Mem) (H : Heap) (locs : List Loc) (ls : Array Slot), Wd b0 D cy S s.heap H locs → lv_has ls 4 [(0, .ref (b0 + a0)), (2, .int x2)] → f_X6_readNumber_b146  a0 x2 S = some q → W p l e rm_X6_readNumber s m args below meth c H locs 0 0 (MQ below (Qp b0 D cy (some (.int q.1)) q.2) args s 0 0 (fun q => b0 ≤ q)) (F0 m 146 ls []) := by
  intro a0 x2 S H locs ls hw hl h
  rw [f_X6_readNumber_b146] at h
  refine lv_aload_n C0.hx C0.hb dX6_readNumber_146 rfl (lv_at hl 0 rfl) ?_
  refine lv_iconst (v := (2 : Int32)) C0.hx C0.hb dX6_readNumber_147 (by decide) ?_
  refine lv_aload_n C0.hx C0.hb dX6_readNumber_148 rfl (lv_at hl 0 rfl) ?_
  obtain ⟨v11, hv11, h⟩ := Option.bind_eq_some_iff.mp h
  refine q_getI C0 hw hv11 rfl in_6 (by decide) kw_164 dX6_readNumber_149 ?_
  obtain ⟨c12, hc12, h⟩ := Option.bind_eq_some_iff.mp h
  obtain ⟨S13, hS13, h⟩ := Option.bind_eq_some_iff.mp h
  refine q_callV (n := 2) (av := [.int (2 : Int32), .int v11]) (rest := []) (st1 := []) C0 hw (m_X6_noteFault l b0 D cy S a0 (2 : Int32) v11 hS13) hc12 rfl (by decide) (goodV kw_411 kw_413 kw_2 kw_64 kw_414) ⟨rfl, rfl⟩ (by decide +kernel) ⟨(Nat.le_of_ble_eq_true rfl), (Nat.le_of_ble_eq_true rfl)⟩ rfl hl.1 rfl (Nat.le_of_ble_eq_true rfl) dX6_readNumber_152 ⟨Nat.zero_le _, Nat.zero_le _⟩ rfl (fun H locs hw => ?_)
  refine lv_iload_n C0.hx C0.hb dX6_readNumber_155 rfl (lv_at hl 1 rfl) ?_
  obtain rfl := Option.some.inj h
  exact q_reti C0 hw hr hlocks dX6_readNumber_156
set_option maxHeartbeats 4000000 in
set_option maxRecDepth 100000 in
theorem w_X6_readNumber_b110 {p : Program} {l : Launch} {e : Env} {s : State} {m : MethodId} {args : Array Value} {below : List Frame} {meth : Method} {c : Code} {b0 : Nat} {D : va_G} {cy : Nat → ClassId} {q : (Int32 × Mem)} (C0 : Cx p m c cX6_readNumber 4 s args RX6 D cy) (hr : meth.sig.returnType = some .int) (hlocks : meth.locks = false) : ∀ (a0 : Nat) (x1 : Int32) (x2 : Int32) (S : Mem) (H : Heap) (locs : List Loc) (ls : Array Slot), Wd b0 D cy S s.heap H locs → lv_has ls 4 [(0, .ref (b0 + a0)), (1, .int x1), (2, .int x2)] → f_X6_readNumber_b110  a0 x1 x2 S = some q → W p l e rm_X6_readNumber s m args below meth c H locs 0 0 (MQ below (Qp b0 D cy (some (.int q.1)) q.2) args s 0 0 (fun q => b0 ≤ q)) (F0 m 110 ls []) := by
  intro a0 x1 x2 S H locs ls hw hl h
  rw [f_X6_readNumber_b110] at h
  refine lv_aload_n C0.hx C0.hb dX6_readNumber_110 rfl (lv_at hl 0 rfl) ?_
  obtain ⟨v8, hv8, h⟩ := Option.bind_eq_some_iff.mp h
  refine q_getI C0 hw hv8 rfl in_6 (by decide) kw_163 dX6_readNumber_111 ?_
  refine lv_aload_n C0.hx C0.hb dX6_readNumber_114 rfl (lv_at hl 0 rfl) ?_
  obtain ⟨v9, hv9, h⟩ := Option.bind_eq_some_iff.mp h
  refine q_getI C0 hw hv9 rfl in_6 (by decide) kw_164 dX6_readNumber_115 ?_
  refine lv_isub C0.hx C0.hb dX6_readNumber_118 ?_
  obtain ⟨v10, hv10, h⟩ := Option.bind_eq_some_iff.mp h
  refine q_nmI hv10 ?_
  refine lv_istore_n (lv' := [(3, .int v10), (0, .ref (b0 + a0)), (1, .int x1), (2, .int x2)]) C0.hx C0.hb dX6_readNumber_119 rfl hl (by decide) rfl (fun ls hl => ?_)
  refine lv_iload_n C0.hx C0.hb dX6_readNumber_120 rfl (lv_at hl 0 rfl) ?_
  refine lv_if_ne (tgt := 136) C0.hx C0.hb dX6_readNumber_121 (by decide) (fun hc => ?_) (fun hc => ?_)
  · have h := (if_neg hc).symm.trans h
    refine lv_iload_n C0.hx C0.hb dX6_readNumber_136 rfl (lv_at hl 0 rfl) ?_
    refine lv_iconst (v := (3 : Int32)) C0.hx C0.hb dX6_readNumber_137 (by decide) ?_
    refine lv_icmp_gt (tgt := 146) C0.hx C0.hb dX6_readNumber_138 (by decide) (fun hc => ?_) (fun hc => ?_)
    · have h := (if_pos hc).symm.trans h
      exact w_X6_readNumber_b146 C0 hr hlocks a0 x2 S _ _ _ hw (lv_sub hl [1, 3] rfl) h
    · have h := (if_neg hc).symm.trans h
      refine lv_iload_n C0.hx C0.hb dX6_readNumber_141 rfl (lv_at hl 3 rfl) ?_
      refine lv_iload_n C0.hx C0.hb dX6_readNumber_142 rfl (lv_at hl 2 rfl) ?_
      refine lv_icmp_le (tgt := 155) C0.hx C0.hb dX6_readNumber_143 (by decide) (fun hc => ?_) (fun hc => ?_)
      · have h := (if_pos hc).symm.trans h
        refine lv_iload_n C0.hx C0.hb dX6_readNumber_155 rfl (lv_at hl 3 rfl) ?_
        obtain rfl := Option.some.inj h
        exact q_reti C0 hw hr hlocks dX6_readNumber_156
      · have h := (if_neg hc).symm.trans h
        exact w_X6_readNumber_b146 C0 hr hlocks a0 x2 S _ _ _ hw (lv_sub hl [1, 3] rfl) h
  · have h := (if_pos hc).symm.trans h
    refine lv_aload_n C0.hx C0.hb dX6_readNumber_124 rfl (lv_at hl 1 rfl) ?_
    refine lv_iconst (v := (1 : Int32)) C0.hx C0.hb dX6_readNumber_125 (by decide) ?_
    refine lv_aload_n C0.hx C0.hb dX6_readNumber_126 rfl (lv_at hl 1 rfl) ?_
    obtain ⟨v14, hv14, h⟩ := Option.bind_eq_some_iff.mp h
    refine q_getI C0 hw hv14 rfl in_6 (by decide) kw_163 dX6_readNumber_127 ?_
    obtain ⟨c15, hc15, h⟩ := Option.bind_eq_some_iff.mp h
    obtain ⟨S16, hS16, h⟩ := Option.bind_eq_some_iff.mp h
    refine q_callV (n := 2) (av := [.int (1 : Int32), .int v14]) (rest := []) (st1 := []) C0 hw (m_X6_noteFault l b0 D cy S a0 (1 : Int32) v14 hS16) hc15 rfl (by decide) (goodV kw_411 kw_413 kw_2 kw_64 kw_414) ⟨rfl, rfl⟩ (by decide +kernel) ⟨(Nat.le_of_ble_eq_true rfl), (Nat.le_of_ble_eq_true rfl)⟩ rfl hl.1 rfl (Nat.le_of_ble_eq_true rfl) dX6_readNumber_130 ⟨Nat.zero_le _, Nat.zero_le _⟩ rfl (fun H locs hw => ?_)
    refine lv_goto (tgt := 155) C0.hx C0.hb dX6_readNumber_133 (by decide) ?_
    refine lv_iload_n C0.hx C0.hb dX6_readNumber_155 rfl (lv_at hl 3 rfl) ?_
    obtain rfl := Option.some.inj h
    exact q_reti C0 hw hr hlocks dX6_readNumber_156
set_option maxHeartbeats 4000000 in
set_option maxRecDepth 100000 in
theorem w_X6_readNumber_b23 {p : Program} {l : Launch} {e : Env} {s : State} {m : MethodId} {args : Array Value} {below : List Frame} {meth : Method} {c : Code} {b0 : Nat} {D : va_G} {cy : Nat → ClassId} {q : (Int32 × Mem)} (C0 : Cx p m c cX6_readNumber 4 s args RX6 D cy) (hr : meth.sig.returnType = some .int) (hlocks : meth.locks = false) : ∀ (n : Nat) (a0 : Nat) (x1 : Int32) (x2 : Int32) (S : Mem) (H : Heap) (locs : List Loc) (ls : Array Slot), Wd b0 D cy S s.heap H locs → lv_has ls 4 [(0, .ref (b0 + a0)), (1, .int x1), (2, .int x2)] → f_X6_readNumber_b23  n a0 x1 x2 S = some q → W p l e rm_X6_readNumber s m args below meth c H locs 0 0 (MQ below (Qp b0 D cy (some (.int q.1)) q.2) args s 0 0 (fun q => b0 ≤ q)) (F0 m 23 ls []) := by
  intro n
  induction n with
  | zero => intro a0 x1 x2 S H locs ls hw hl h; exact absurd h (by simp [f_X6_readNumber_b23])
  | succ n ih =>
    intro a0 x1 x2 S H locs ls hw hl h
    rw [f_X6_readNumber_b23] at h
    refine lv_aload_n C0.hx C0.hb dX6_readNumber_23 rfl (lv_at hl 0 rfl) ?_
    obtain ⟨v6, hv6, h⟩ := Option.bind_eq_some_iff.mp h
    refine q_getI C0 hw hv6 rfl in_6 (by decide) kw_163 dX6_readNumber_24 ?_
    refine lv_aload_n C0.hx C0.hb dX6_readNumber_27 rfl (lv_at hl 0 rfl) ?_
    obtain ⟨v7, hv7, h⟩ := Option.bind_eq_some_iff.mp h
    refine q_getI C0 hw hv7 rfl in_6 (by decide) kw_154 dX6_readNumber_28 ?_
    refine lv_icmp_ge (tgt := 110) C0.hx C0.hb dX6_readNumber_31 (by decide) (fun hc => ?_) (fun hc => ?_)
    · have h := (if_pos hc).symm.trans h
      exact w_X6_readNumber_b110 C0 hr hlocks a0 x1 x2 S _ _ _ hw (lv_sub hl [0, 1, 2] rfl) h
    · have h := (if_neg hc).symm.trans h
      refine lv_aload_n C0.hx C0.hb dX6_readNumber_34 rfl (lv_at hl 0 rfl) ?_
      obtain ⟨r17, hr17, h⟩ := Option.bind_eq_some_iff.mp h
      refine q_getR C0 hw hr17 rfl in_6 (by decide) kw_162 dX6_readNumber_35 ?_
      refine lv_aload_n C0.hx C0.hb dX6_readNumber_38 rfl (lv_at hl 0 rfl) ?_
      obtain ⟨v18, hv18, h⟩ := Option.bind_eq_some_iff.mp h
      refine q_getI C0 hw hv18 rfl in_6 (by decide) kw_163 dX6_readNumber_39 ?_
      obtain ⟨v19, hv19, h⟩ := Option.bind_eq_some_iff.mp h
      refine q_ldI C0 hw hv19 dX6_readNumber_42 ?_
      refine lv_bipush (v := (48 : Int32)) C0.hx C0.hb dX6_readNumber_43 (by decide) ?_
      refine lv_icmp_lt (tgt := 110) C0.hx C0.hb dX6_readNumber_45 (by decide) (fun hc => ?_) (fun hc => ?_)
      · have h := (if_pos hc).symm.trans h
        exact w_X6_readNumber_b110 C0 hr hlocks a0 x1 x2 S _ _ _ hw (lv_sub hl [0, 1, 2] rfl) h
      · have h := (if_neg hc).symm.trans h
        refine lv_aload_n C0.hx C0.hb dX6_readNumber_48 rfl (lv_at hl 0 rfl) ?_
        obtain ⟨r20, hr20, h⟩ := Option.bind_eq_some_iff.mp h
        refine q_getR C0 hw hr20 rfl in_6 (by decide) kw_162 dX6_readNumber_49 ?_
        refine lv_aload_n C0.hx C0.hb dX6_readNumber_52 rfl (lv_at hl 0 rfl) ?_
        obtain ⟨v21, hv21, h⟩ := Option.bind_eq_some_iff.mp h
        refine q_getI C0 hw hv21 rfl in_6 (by decide) kw_163 dX6_readNumber_53 ?_
        obtain ⟨v22, hv22, h⟩ := Option.bind_eq_some_iff.mp h
        refine q_ldI C0 hw hv22 dX6_readNumber_56 ?_
        refine lv_bipush (v := (57 : Int32)) C0.hx C0.hb dX6_readNumber_57 (by decide) ?_
        refine lv_icmp_gt (tgt := 110) C0.hx C0.hb dX6_readNumber_59 (by decide) (fun hc => ?_) (fun hc => ?_)
        · have h := (if_pos hc).symm.trans h
          exact w_X6_readNumber_b110 C0 hr hlocks a0 x1 x2 S _ _ _ hw (lv_sub hl [0, 1, 2] rfl) h
        · have h := (if_neg hc).symm.trans h
          refine lv_aload_n C0.hx C0.hb dX6_readNumber_62 rfl (lv_at hl 0 rfl) ?_
          obtain ⟨v23, hv23, h⟩ := Option.bind_eq_some_iff.mp h
          refine q_getI C0 hw hv23 rfl in_6 (by decide) kw_163 dX6_readNumber_63 ?_
          refine lv_aload_n C0.hx C0.hb dX6_readNumber_66 rfl (lv_at hl 0 rfl) ?_
          obtain ⟨v24, hv24, h⟩ := Option.bind_eq_some_iff.mp h
          refine q_getI C0 hw hv24 rfl in_6 (by decide) kw_164 dX6_readNumber_67 ?_
          refine lv_isub C0.hx C0.hb dX6_readNumber_70 ?_
          refine lv_iconst (v := (3 : Int32)) C0.hx C0.hb dX6_readNumber_71 (by decide) ?_
          refine lv_icmp_ge (tgt := 95) C0.hx C0.hb dX6_readNumber_72 (by decide) (fun hc => ?_) (fun hc => ?_)
          · have h := (if_pos hc).symm.trans h
            refine lv_iload_n C0.hx C0.hb dX6_readNumber_95 rfl (lv_at hl 2 rfl) ?_
            exact w_X6_readNumber_b96 C0 hr hlocks (fun a0 x1 x2 S => f_X6_readNumber_b23  n a0 x1 x2 S) ih a0 x1 x2 S _ _ _ hw (lv_sub hl [0, 1] rfl) h
          · have h := (if_neg hc).symm.trans h
            refine lv_iload_n C0.hx C0.hb dX6_readNumber_75 rfl (lv_at hl 2 rfl) ?_
            refine lv_bipush (v := (10 : Int32)) C0.hx C0.hb dX6_readNumber_76 (by decide) ?_
            refine lv_imul C0.hx C0.hb dX6_readNumber_78 ?_
            refine lv_aload_n C0.hx C0.hb dX6_readNumber_79 rfl (lv_at hl 0 rfl) ?_
            obtain ⟨r27, hr27, h⟩ := Option.bind_eq_some_iff.mp h
            refine q_getR C0 hw hr27 rfl in_6 (by decide) kw_162 dX6_readNumber_80 ?_
            refine lv_aload_n C0.hx C0.hb dX6_readNumber_83 rfl (lv_at hl 0 rfl) ?_
            obtain ⟨v28, hv28, h⟩ := Option.bind_eq_some_iff.mp h
            refine q_getI C0 hw hv28 rfl in_6 (by decide) kw_163 dX6_readNumber_84 ?_
            obtain ⟨v29, hv29, h⟩ := Option.bind_eq_some_iff.mp h
            refine q_ldI C0 hw hv29 dX6_readNumber_87 ?_
            refine lv_iadd C0.hx C0.hb dX6_readNumber_88 ?_
            refine lv_bipush (v := (48 : Int32)) C0.hx C0.hb dX6_readNumber_89 (by decide) ?_
            refine lv_isub C0.hx C0.hb dX6_readNumber_91 ?_
            refine lv_goto (tgt := 96) C0.hx C0.hb dX6_readNumber_92 (by decide) ?_
            exact w_X6_readNumber_b96 C0 hr hlocks (fun a0 x1 x2 S => f_X6_readNumber_b23  n a0 x1 x2 S) ih a0 x1 (((x2 * (10 : Int32)) + v29) - (48 : Int32)) S _ _ _ hw (lv_sub hl [0, 1] rfl) h
set_option maxHeartbeats 4000000 in
set_option maxRecDepth 100000 in
theorem m_X6_readNumber (l : Launch) (b0 : Nat) (D : va_G) (cy : Nat → ClassId) (S : Mem) (a0 : Nat) (x1 : Int32) {q : (Int32 × Mem)} (h : f_X6_readNumber a0 x1 S = some q) : Met l yX6_readNumber [.code yX6_readNumber cX6_readNumber 4 (some .int)] rm_X6_readNumber (Pr b0 D cy S [.ref (b0 + a0), .int x1]) (Qp b0 D cy (some (.int q.1)) q.2) 0 0 (fun q => b0 ≤ q) := by
  refine Met.ofW (cc := cX6_readNumber) (maxL := 4) (ret := some .int) (by decide) rfl ?_
  intro p e s m args below meth c s₁ B hml hv
  obtain ⟨rfl, hP, hK, hT⟩ := hv
  have C0 : Cx p m c cX6_readNumber 4 s (List.toArray [.ref (b0 + a0), .int x1]) RX6 D cy := ⟨⟨B.exec, B.bytes, hml, findClass_of_methodNamed B.named, fun w h => hT w h _⟩, hK, hT⟩
  have hr : meth.sig.returnType = some .int := B.returns
  have hlocks := B.notSynchronized
  have hw : Wd b0 D cy S s.heap s.heap [] := ⟨hP, va_S.rf⟩
  have hl := lv_entry ([.ref (b0 + a0), .int x1]) (n := 4) (Nat.le_of_ble_eq_true rfl)
  rw [lg_entry_eq]
  generalize (lg_sl ([.ref (b0 + a0), .int x1]) ++ List.replicate (4 - (lg_sl ([.ref (b0 + a0), .int x1])).length) Slot.unset).toArray = ls at hl ⊢
  have hl : lv_has ls 4 [(0, .ref (b0 + a0)), (1, .int x1)] := hl
  rw [f_X6_readNumber] at h
  show W p l e rm_X6_readNumber s m _ below meth c s.heap [] 0 0 _ _
  refine lv_aload_n C0.hx C0.hb dX6_readNumber_0 rfl (lv_at hl 0 rfl) ?_
  obtain ⟨v1, hv1, h⟩ := Option.bind_eq_some_iff.mp h
  refine q_getI C0 hw hv1 rfl in_6 (by decide) kw_156 dX6_readNumber_1 ?_
  refine lv_if_eq (tgt := 9) C0.hx C0.hb dX6_readNumber_4 (by decide) (fun hc => ?_) (fun hc => ?_)
  · have h := (if_pos hc).symm.trans h
    refine lv_aload_n C0.hx C0.hb dX6_readNumber_9 rfl (lv_at hl 0 rfl) ?_
    obtain ⟨c2, hc2, h⟩ := Option.bind_eq_some_iff.mp h
    obtain ⟨S3, hS3, h⟩ := Option.bind_eq_some_iff.mp h
    refine q_callV (n := 0) (av := []) (rest := []) (st1 := []) C0 hw (m_X6_skipBlanks l b0 D cy S a0 hS3) hc2 rfl (by decide) (goodV kw_403 kw_405 kw_0 kw_64 kw_406) ⟨rfl, rfl⟩ (by decide +kernel) ⟨(Nat.le_of_ble_eq_true rfl), (Nat.le_of_ble_eq_true rfl)⟩ rfl hl.1 rfl (Nat.le_of_ble_eq_true rfl) dX6_readNumber_10 ⟨Nat.zero_le _, Nat.zero_le _⟩ rfl (fun H locs hw => ?_)
    refine lv_aload_n C0.hx C0.hb dX6_readNumber_13 rfl (lv_at hl 0 rfl) ?_
    refine lv_aload_n C0.hx C0.hb dX6_readNumber_14 rfl (lv_at hl 0 rfl) ?_
    obtain ⟨v4, hv4, h⟩ := Option.bind_eq_some_iff.mp h
    refine q_getI C0 hw hv4 rfl in_6 (by decide) kw_163 dX6_readNumber_15 ?_
    obtain ⟨S5, hS5, h⟩ := Option.bind_eq_some_iff.mp h
    refine q_putI C0 hw hS5 rfl in_6 tyX6_ok nmX6 ⟨by decide, by decide, rfl, rfl⟩ rfl kw_164 dX6_readNumber_18 (fun H locs hw => ?_)
    refine lv_iconst (v := (0 : Int32)) C0.hx C0.hb dX6_readNumber_21 (by decide) ?_
    refine lv_istore_n (lv' := [(2, .int (0 : Int32)), (0, .ref (b0 + a0)), (1, .int x1)]) C0.hx C0.hb dX6_readNumber_22 rfl hl (by decide) rfl (fun ls hl => ?_)
    exact w_X6_readNumber_b23 C0 hr hlocks FU a0 x1 (0 : Int32) S5 _ _ _ hw (lv_sub hl [1, 2, 0] rfl) h
  · have h := (if_neg hc).symm.trans h
    refine lv_iconst (v := (0 : Int32)) C0.hx C0.hb dX6_readNumber_7 (by decide) ?_
    obtain rfl := Option.some.inj h
    exact q_reti C0 hw hr hlocks dX6_readNumber_8
abbrev rm_X6_readEnd : Room := { frames := 1, cells := 0, slots := 0, locals := 22 }
def f_X6_readEnd_b46 (a0 : Nat) (S : Mem) : Option Mem :=
    (gI 6 5 S a0).bind fun v9 =>
      (pI 6 5 S a0 (v9 + (1 : Int32))).bind fun S10 =>
      some S10
def f_X6_readEnd_b37 (a0 : Nat) (S : Mem) : Option Mem :=
    (gI 6 5 S a0).bind fun v6 =>
      (ck 6 S a0).bind fun c7 =>
      (f_X6_noteFault a0 (1 : Int32) v6 S).bind fun S8 =>
      f_X6_readEnd_b46 a0 S8
def f_X6_readEnd (a0 : Nat) (S : Mem) : Option Mem :=
    (gI 6 1 S a0).bind fun v1 =>
      (if v1 = (0 : Int32) then
      (ck 6 S a0).bind fun c2 =>
      (f_X6_skipBlanks a0 S).bind fun S3 =>
      (gI 6 5 S3 a0).bind fun v4 =>
      (gI 6 0 S3 a0).bind fun v5 =>
      (if v5 ≤ v4 then
      f_X6_readEnd_b37 a0 S3
      else
      (gR 6 4 S3 a0).bind fun r11 =>
      (gI 6 5 S3 a0).bind fun v12 =>
      (ldI S3 r11 v12).bind fun v13 =>
      (if v13 = (59 : Int32) then
      f_X6_readEnd_b46 a0 S3
      else
      f_X6_readEnd_b37 a0 S3))
      else
      some S)
set_option maxHeartbeats 4000000 in
set_option maxRecDepth 100000 in
theorem w_X6_readEnd_b46 {p : Program} {l : Launch} {e : Env} {s : State} {m : MethodId} {args : Array Value} {below : List Frame} {meth : Method} {c : Code} {b0 : Nat} {D : va_G} {cy : Nat → ClassId} {q : Mem} (C0 : Cx p m c cX6_readEnd 1 s args RX6 D cy) (hr : meth.sig.returnType = none) (hlocks : meth.locks = false) : ∀ (a0 : Nat) (S : Mem) (H : Heap) (locs : List Loc) (ls : Array Slot), Wd b0 D cy S s.heap H locs → lv_has ls 1 [(0, .ref (b0 + a0))] → f_X6_readEnd_b46  a0 S = some q → W p l e rm_X6_readEnd s m args below meth c H locs 0 0 (MQ below (Qp b0 D cy none q) args s 0 0 (fun q => b0 ≤ q)) (F0 m 46 ls []) := by
  intro a0 S H locs ls hw hl h
  rw [f_X6_readEnd_b46] at h
  refine lv_aload_n C0.hx C0.hb dX6_readEnd_46 rfl (lv_at hl 0 rfl) ?_
  refine lv_dup C0.hx C0.hb dX6_readEnd_47 rfl ?_
  obtain ⟨v9, hv9, h⟩ := Option.bind_eq_some_iff.mp h
  refine q_getI C0 hw hv9 rfl in_6 (by decide) kw_163 dX6_readEnd_48 ?_
  refine lv_iconst (v := (1 : Int32)) C0.hx C0.hb dX6_readEnd_51 (by decide) ?_
  refine lv_iadd C0.hx C0.hb dX6_readEnd_52 ?_
  obtain ⟨S10, hS10, h⟩ := Option.bind_eq_some_iff.mp h
  refine q_putI C0 hw hS10 rfl in_6 tyX6_ok nmX6 ⟨by decide, by decide, rfl, rfl⟩ rfl kw_163 dX6_readEnd_53 (fun H locs hw => ?_)
  obtain rfl := Option.some.inj h
  exact q_retv C0 hw hr hlocks dX6_readEnd_56
set_option maxHeartbeats 4000000 in
set_option maxRecDepth 100000 in
theorem w_X6_readEnd_b37 {p : Program} {l : Launch} {e : Env} {s : State} {m : MethodId} {args : Array Value} {below : List Frame} {meth : Method} {c : Code} {b0 : Nat} {D : va_G} {cy : Nat → ClassId} {q : Mem} (C0 : Cx p m c cX6_readEnd 1 s args RX6 D cy) (hr : meth.sig.returnType = none) (hlocks : meth.locks = false) : ∀ (a0 : Nat) (S : Mem) (H : Heap) (locs : List Loc) (ls : Array Slot), Wd b0 D cy S s.heap H locs → lv_has ls 1 [(0, .ref (b0 + a0))] → f_X6_readEnd_b37  a0 S = some q → W p l e rm_X6_readEnd s m args below meth c H locs 0 0 (MQ below (Qp b0 D cy none q) args s 0 0 (fun q => b0 ≤ q)) (F0 m 37 ls []) := by
  intro a0 S H locs ls hw hl h
  rw [f_X6_readEnd_b37] at h
  refine lv_aload_n C0.hx C0.hb dX6_readEnd_37 rfl (lv_at hl 0 rfl) ?_
  refine lv_iconst (v := (1 : Int32)) C0.hx C0.hb dX6_readEnd_38 (by decide) ?_
  refine lv_aload_n C0.hx C0.hb dX6_readEnd_39 rfl (lv_at hl 0 rfl) ?_
  obtain ⟨v6, hv6, h⟩ := Option.bind_eq_some_iff.mp h
  refine q_getI C0 hw hv6 rfl in_6 (by decide) kw_163 dX6_readEnd_40 ?_
  obtain ⟨c7, hc7, h⟩ := Option.bind_eq_some_iff.mp h
  obtain ⟨S8, hS8, h⟩ := Option.bind_eq_some_iff.mp h
  refine q_callV (n := 2) (av := [.int (1 : Int32), .int v6]) (rest := []) (st1 := []) C0 hw (m_X6_noteFault l b0 D cy S a0 (1 : Int32) v6 hS8) hc7 rfl (by decide) (goodV kw_411 kw_413 kw_2 kw_64 kw_414) ⟨rfl, rfl⟩ (by decide +kernel) ⟨(Nat.le_of_ble_eq_true rfl), (Nat.le_of_ble_eq_true rfl)⟩ rfl hl.1 rfl (Nat.le_of_ble_eq_true rfl) dX6_readEnd_43 ⟨Nat.zero_le _, Nat.zero_le _⟩ rfl (fun H locs hw => ?_)
  exact w_X6_readEnd_b46 C0 hr hlocks a0 S8 _ _ _ hw (lv_sub hl [0] rfl) h
set_option maxHeartbeats 4000000 in
set_option maxRecDepth 100000 in
theorem m_X6_readEnd (l : Launch) (b0 : Nat) (D : va_G) (cy : Nat → ClassId) (S : Mem) (a0 : Nat) {q : Mem} (h : f_X6_readEnd a0 S = some q) : Met l yX6_readEnd [.code yX6_readEnd cX6_readEnd 1 (none)] rm_X6_readEnd (Pr b0 D cy S [.ref (b0 + a0)]) (Qp b0 D cy none q) 0 0 (fun q => b0 ≤ q) := by
  refine Met.ofW (cc := cX6_readEnd) (maxL := 1) (ret := none) (by decide) rfl ?_
  intro p e s m args below meth c s₁ B hml hv
  obtain ⟨rfl, hP, hK, hT⟩ := hv
  have C0 : Cx p m c cX6_readEnd 1 s (List.toArray [.ref (b0 + a0)]) RX6 D cy := ⟨⟨B.exec, B.bytes, hml, findClass_of_methodNamed B.named, fun w h => hT w h _⟩, hK, hT⟩
  have hr : meth.sig.returnType = none := B.returns
  have hlocks := B.notSynchronized
  have hw : Wd b0 D cy S s.heap s.heap [] := ⟨hP, va_S.rf⟩
  have hl := lv_entry ([.ref (b0 + a0)]) (n := 1) (Nat.le_of_ble_eq_true rfl)
  rw [lg_entry_eq]
  generalize (lg_sl ([.ref (b0 + a0)]) ++ List.replicate (1 - (lg_sl ([.ref (b0 + a0)])).length) Slot.unset).toArray = ls at hl ⊢
  have hl : lv_has ls 1 [(0, .ref (b0 + a0))] := hl
  rw [f_X6_readEnd] at h
  show W p l e rm_X6_readEnd s m _ below meth c s.heap [] 0 0 _ _
  refine lv_aload_n C0.hx C0.hb dX6_readEnd_0 rfl (lv_at hl 0 rfl) ?_
  obtain ⟨v1, hv1, h⟩ := Option.bind_eq_some_iff.mp h
  refine q_getI C0 hw hv1 rfl in_6 (by decide) kw_156 dX6_readEnd_1 ?_
  refine lv_if_eq (tgt := 8) C0.hx C0.hb dX6_readEnd_4 (by decide) (fun hc => ?_) (fun hc => ?_)
  · have h := (if_pos hc).symm.trans h
    refine lv_aload_n C0.hx C0.hb dX6_readEnd_8 rfl (lv_at hl 0 rfl) ?_
    obtain ⟨c2, hc2, h⟩ := Option.bind_eq_some_iff.mp h
    obtain ⟨S3, hS3, h⟩ := Option.bind_eq_some_iff.mp h
    refine q_callV (n := 0) (av := []) (rest := []) (st1 := []) C0 hw (m_X6_skipBlanks l b0 D cy S a0 hS3) hc2 rfl (by decide) (goodV kw_403 kw_405 kw_0 kw_64 kw_406) ⟨rfl, rfl⟩ (by decide +kernel) ⟨(Nat.le_of_ble_eq_true rfl), (Nat.le_of_ble_eq_true rfl)⟩ rfl hl.1 rfl (Nat.le_of_ble_eq_true rfl) dX6_readEnd_9 ⟨Nat.zero_le _, Nat.zero_le _⟩ rfl (fun H locs hw => ?_)
    refine lv_aload_n C0.hx C0.hb dX6_readEnd_12 rfl (lv_at hl 0 rfl) ?_
    obtain ⟨v4, hv4, h⟩ := Option.bind_eq_some_iff.mp h
    refine q_getI C0 hw hv4 rfl in_6 (by decide) kw_163 dX6_readEnd_13 ?_
    refine lv_aload_n C0.hx C0.hb dX6_readEnd_16 rfl (lv_at hl 0 rfl) ?_
    obtain ⟨v5, hv5, h⟩ := Option.bind_eq_some_iff.mp h
    refine q_getI C0 hw hv5 rfl in_6 (by decide) kw_154 dX6_readEnd_17 ?_
    refine lv_icmp_ge (tgt := 37) C0.hx C0.hb dX6_readEnd_20 (by decide) (fun hc => ?_) (fun hc => ?_)
    · have h := (if_pos hc).symm.trans h
      exact w_X6_readEnd_b37 C0 hr hlocks a0 S3 _ _ _ hw (lv_sub hl [0] rfl) h
    · have h := (if_neg hc).symm.trans h
      refine lv_aload_n C0.hx C0.hb dX6_readEnd_23 rfl (lv_at hl 0 rfl) ?_
      obtain ⟨r11, hr11, h⟩ := Option.bind_eq_some_iff.mp h
      refine q_getR C0 hw hr11 rfl in_6 (by decide) kw_162 dX6_readEnd_24 ?_
      refine lv_aload_n C0.hx C0.hb dX6_readEnd_27 rfl (lv_at hl 0 rfl) ?_
      obtain ⟨v12, hv12, h⟩ := Option.bind_eq_some_iff.mp h
      refine q_getI C0 hw hv12 rfl in_6 (by decide) kw_163 dX6_readEnd_28 ?_
      obtain ⟨v13, hv13, h⟩ := Option.bind_eq_some_iff.mp h
      refine q_ldI C0 hw hv13 dX6_readEnd_31 ?_
      refine lv_bipush (v := (59 : Int32)) C0.hx C0.hb dX6_readEnd_32 (by decide) ?_
      refine lv_icmp_eq (tgt := 46) C0.hx C0.hb dX6_readEnd_34 (by decide) (fun hc => ?_) (fun hc => ?_)
      · have h := (if_pos hc).symm.trans h
        exact w_X6_readEnd_b46 C0 hr hlocks a0 S3 _ _ _ hw (lv_sub hl [0] rfl) h
      · have h := (if_neg hc).symm.trans h
        exact w_X6_readEnd_b37 C0 hr hlocks a0 S3 _ _ _ hw (lv_sub hl [0] rfl) h
  · have h := (if_neg hc).symm.trans h
    obtain rfl := Option.some.inj h
    exact q_retv C0 hw hr hlocks dX6_readEnd_7
abbrev rm_X6_readRule : Room := { frames := 2, cells := 0, slots := 0, locals := 45 }
def f_X6_readRule (a0 : Nat) (S : Mem) : Option Mem :=
    (gR 6 3 S a0).bind fun r1 =>
      (gI 2 0 S r1).bind fun v2 =>
      (ck 6 S a0).bind fun c3 =>
      (f_X6_readWord a0 v2 S).bind fun S4 =>
      (ck 6 S4 a0).bind fun c5 =>
      (f_X6_readNumber a0 (63 : Int32) S4).bind fun q6 =>
      (ck 6 q6.2 a0).bind fun c7 =>
      (f_X6_readEnd a0 q6.2).bind fun S8 =>
      (gI 6 1 S8 a0).bind fun v9 =>
      (if v9 = (0 : Int32) then
      (gR 6 3 S8 a0).bind fun r10 =>
      (pI 2 1 S8 r10 q6.1).bind fun S11 =>
      (gR 6 3 S11 a0).bind fun r12 =>
      (pZ 2 0 S11 r12 (1 : Int32)).bind fun S13 =>
      some S13
      else
      some S8)
set_option maxHeartbeats 4000000 in
set_option maxRecDepth 100000 in
theorem m_X6_readRule (l : Launch) (b0 : Nat) (D : va_G) (cy : Nat → ClassId) (S : Mem) (a0 : Nat) {q : Mem} (h : f_X6_readRule a0 S = some q) : Met l yX6_readRule [.code yX6_readRule cX6_readRule 2 (none)] rm_X6_readRule (Pr b0 D cy S [.ref (b0 + a0)]) (Qp b0 D cy none q) 0 0 (fun q => b0 ≤ q) := by
  refine Met.ofW (cc := cX6_readRule) (maxL := 2) (ret := none) (by decide) rfl ?_
  intro p e s m args below meth c s₁ B hml hv
  obtain ⟨rfl, hP, hK, hT⟩ := hv
  have C0 : Cx p m c cX6_readRule 2 s (List.toArray [.ref (b0 + a0)]) RX6 D cy := ⟨⟨B.exec, B.bytes, hml, findClass_of_methodNamed B.named, fun w h => hT w h _⟩, hK, hT⟩
  have hr : meth.sig.returnType = none := B.returns
  have hlocks := B.notSynchronized
  have hw : Wd b0 D cy S s.heap s.heap [] := ⟨hP, va_S.rf⟩
  have hl := lv_entry ([.ref (b0 + a0)]) (n := 2) (Nat.le_of_ble_eq_true rfl)
  rw [lg_entry_eq]
  generalize (lg_sl ([.ref (b0 + a0)]) ++ List.replicate (2 - (lg_sl ([.ref (b0 + a0)])).length) Slot.unset).toArray = ls at hl ⊢
  have hl : lv_has ls 2 [(0, .ref (b0 + a0))] := hl
  rw [f_X6_readRule] at h
  show W p l e rm_X6_readRule s m _ below meth c s.heap [] 0 0 _ _
  refine lv_aload_n C0.hx C0.hb dX6_readRule_0 rfl (lv_at hl 0 rfl) ?_
  refine lv_aload_n C0.hx C0.hb dX6_readRule_1 rfl (lv_at hl 0 rfl) ?_
  obtain ⟨r1, hr1, h⟩ := Option.bind_eq_some_iff.mp h
  refine q_getR C0 hw hr1 rfl in_6 (by decide) kw_160 dX6_readRule_2 ?_
  obtain ⟨v2, hv2, h⟩ := Option.bind_eq_some_iff.mp h
  refine q_getI C0 hw hv2 rfl in_2 (by decide) kw_99 dX6_readRule_5 ?_
  obtain ⟨c3, hc3, h⟩ := Option.bind_eq_some_iff.mp h
  obtain ⟨S4, hS4, h⟩ := Option.bind_eq_some_iff.mp h
  refine q_callV (n := 1) (av := [.int v2]) (rest := []) (st1 := []) C0 hw (m_X6_readWord l b0 D cy S a0 v2 hS4) hc3 rfl (by decide) (goodV kw_419 kw_421 kw_4 kw_64 kw_422) ⟨rfl, rfl⟩ (by decide +kernel) ⟨(Nat.le_of_ble_eq_true rfl), (Nat.le_of_ble_eq_true rfl)⟩ rfl hl.1 rfl (Nat.le_of_ble_eq_true rfl) dX6_readRule_8 ⟨Nat.zero_le _, Nat.zero_le _⟩ rfl (fun H locs hw => ?_)
  refine lv_aload_n C0.hx C0.hb dX6_readRule_11 rfl (lv_at hl 0 rfl) ?_
  refine lv_bipush (v := (63 : Int32)) C0.hx C0.hb dX6_readRule_12 (by decide) ?_
  obtain ⟨c5, hc5, h⟩ := Option.bind_eq_some_iff.mp h
  obtain ⟨q6, hq6, h⟩ := Option.bind_eq_some_iff.mp h
  refine q_callV (n := 1) (av := [.int (63 : Int32)]) (rest := []) (st1 := [.int q6.1]) C0 hw (m_X6_readNumber l b0 D cy S4 a0 (63 : Int32) hq6) hc5 rfl (by decide) (goodV kw_423 kw_425 kw_5 kw_64 kw_426) ⟨rfl, rfl⟩ (by decide +kernel) ⟨(Nat.le_of_ble_eq_true rfl), (Nat.le_of_ble_eq_true rfl)⟩ rfl hl.1 rfl (Nat.le_of_ble_eq_true rfl) dX6_readRule_14 ⟨Nat.zero_le _, Nat.zero_le _⟩ rfl (fun H locs hw => ?_)
  refine lv_istore_n (lv' := [(1, .int q6.1), (0, .ref (b0 + a0))]) C0.hx C0.hb dX6_readRule_17 rfl hl (by decide) rfl (fun ls hl => ?_)
  refine lv_aload_n C0.hx C0.hb dX6_readRule_18 rfl (lv_at hl 1 rfl) ?_
  obtain ⟨c7, hc7, h⟩ := Option.bind_eq_some_iff.mp h
  obtain ⟨S8, hS8, h⟩ := Option.bind_eq_some_iff.mp h
  refine q_callV (n := 0) (av := []) (rest := []) (st1 := []) C0 hw (m_X6_readEnd l b0 D cy q6.2 a0 hS8) hc7 rfl (by decide) (goodV kw_427 kw_429 kw_6 kw_64 kw_430) ⟨rfl, rfl⟩ (by decide +kernel) ⟨(Nat.le_of_ble_eq_true rfl), (Nat.le_of_ble_eq_true rfl)⟩ rfl hl.1 rfl (Nat.le_of_ble_eq_true rfl) dX6_readRule_19 ⟨Nat.zero_le _, Nat.zero_le _⟩ rfl (fun H locs hw => ?_)
  refine lv_aload_n C0.hx C0.hb dX6_readRule_22 rfl (lv_at hl 1 rfl) ?_
  obtain ⟨v9, hv9, h⟩ := Option.bind_eq_some_iff.mp h
  refine q_getI C0 hw hv9 rfl in_6 (by decide) kw_156 dX6_readRule_23 ?_
  refine lv_if_ne (tgt := 45) C0.hx C0.hb dX6_readRule_26 (by decide) (fun hc => ?_) (fun hc => ?_)
  · have h := (if_neg hc).symm.trans h
    obtain rfl := Option.some.inj h
    exact q_retv C0 hw hr hlocks dX6_readRule_45
  · have h := (if_pos hc).symm.trans h
    refine lv_aload_n C0.hx C0.hb dX6_readRule_29 rfl (lv_at hl 1 rfl) ?_
    obtain ⟨r10, hr10, h⟩ := Option.bind_eq_some_iff.mp h
    refine q_getR C0 hw hr10 rfl in_6 (by decide) kw_160 dX6_readRule_30 ?_
    refine lv_iload_n C0.hx C0.hb dX6_readRule_33 rfl (lv_at hl 0 rfl) ?_
    obtain ⟨S11, hS11, h⟩ := Option.bind_eq_some_iff.mp h
    refine q_putI C0 hw hS11 rfl in_2 tyX2_ok nmX2 ⟨by decide, by decide, rfl, rfl⟩ rfl kw_103 dX6_readRule_34 (fun H locs hw => ?_)
    refine lv_aload_n C0.hx C0.hb dX6_readRule_37 rfl (lv_at hl 1 rfl) ?_
    obtain ⟨r12, hr12, h⟩ := Option.bind_eq_some_iff.mp h
    refine q_getR C0 hw hr12 rfl in_6 (by decide) kw_160 dX6_readRule_38 ?_
    refine lv_iconst (v := (1 : Int32)) C0.hx C0.hb dX6_readRule_41 (by decide) ?_
    obtain ⟨S13, hS13, h⟩ := Option.bind_eq_some_iff.mp h
    refine q_putZ C0 hw hS13 rfl in_2 tyX2_ok nmX2 ⟨by decide, by decide, rfl, rfl⟩ rfl kw_99 dX6_readRule_42 (fun H locs hw => ?_)
    obtain rfl := Option.some.inj h
    exact q_retv C0 hw hr hlocks dX6_readRule_45
abbrev rm_X6_readRoom : Room := { frames := 2, cells := 0, slots := 0, locals := 45 }
def f_X6_readRoom_b18 (a0 : Nat) (t0 : Int32) (t1 : Nat) (S : Mem) : Option Mem :=
    (ck 6 S t1).bind fun c3 =>
      (f_X6_readWord t1 t0 S).bind fun S4 =>
      (ck 6 S4 a0).bind fun c5 =>
      (f_X6_readNumber a0 (9 : Int32) S4).bind fun q6 =>
      (ck 6 q6.2 a0).bind fun c7 =>
      (f_X6_readNumber a0 (1 : Int32) q6.2).bind fun q8 =>
      (ck 6 q8.2 a0).bind fun c9 =>
      (f_X6_readEnd a0 q8.2).bind fun S10 =>
      (gI 6 1 S10 a0).bind fun v11 =>
      (if v11 = (0 : Int32) then
      (gR 6 3 S10 a0).bind fun r12 =>
      (ck 2 S10 r12).bind fun c13 =>
      (f_X2_addRoom r12 q6.1 q8.1 S10).bind fun S14 =>
      some S14
      else
      some S10)
def f_X6_readRoom (a0 : Nat) (S : Mem) : Option Mem :=
    (gR 6 3 S a0).bind fun r1 =>
      (gI 2 2 S r1).bind fun v2 =>
      (if v2 < (8 : Int32) then
      f_X6_readRoom_b18 a0 (0 : Int32) a0 S
      else
      f_X6_readRoom_b18 a0 (1 : Int32) a0 S)
set_option maxHeartbeats 4000000 in
set_option maxRecDepth 100000 in
theorem w_X6_readRoom_b18 {p : Program} {l : Launch} {e : Env} {s : State} {m : MethodId} {args : Array Value} {below : List Frame} {meth : Method} {c : Code} {b0 : Nat} {D : va_G} {cy : Nat → ClassId} {q : Mem} (C0 : Cx p m c cX6_readRoom 3 s args RX6 D cy) (hr : meth.sig.returnType = none) (hlocks : meth.locks = false) : ∀ (a0 : Nat) (t0 : Int32) (t1 : Nat) (S : Mem) (H : Heap) (locs : List Loc) (ls : Array Slot), Wd b0 D cy S s.heap H locs → lv_has ls 3 [(0, .ref (b0 + a0))] → f_X6_readRoom_b18  a0 t0 t1 S = some q → W p l e rm_X6_readRoom s m args below meth c H locs 0 0 (MQ below (Qp b0 D cy none q) args s 0 0 (fun q => b0 ≤ q)) (F0 m 18 ls [.int t0, .ref (b0 + t1)]) := by
  intro a0 t0 t1 S H locs ls hw hl h
  rw [f_X6_readRoom_b18] at h
  obtain ⟨c3, hc3, h⟩ := Option.bind_eq_some_iff.mp h
  obtain ⟨S4, hS4, h⟩ := Option.bind_eq_some_iff.mp h
  refine q_callV (n := 1) (av := [.int t0]) (rest := []) (st1 := []) C0 hw (m_X6_readWord l b0 D cy S t1 t0 hS4) hc3 rfl (by decide) (goodV kw_419 kw_421 kw_4 kw_64 kw_422) ⟨rfl, rfl⟩ (by decide +kernel) ⟨(Nat.le_of_ble_eq_true rfl), (Nat.le_of_ble_eq_true rfl)⟩ rfl hl.1 rfl (Nat.le_of_ble_eq_true rfl) dX6_readRoom_18 ⟨Nat.zero_le _, Nat.zero_le _⟩ rfl (fun H locs hw => ?_)
  refine lv_aload_n C0.hx C0.hb dX6_readRoom_21 rfl (lv_at hl 0 rfl) ?_
  refine lv_bipush (v := (9 : Int32)) C0.hx C0.hb dX6_readRoom_22 (by decide) ?_
  obtain ⟨c5, hc5, h⟩ := Option.bind_eq_some_iff.mp h
  obtain ⟨q6, hq6, h⟩ := Option.bind_eq_some_iff.mp h
  refine q_callV (n := 1) (av := [.int (9 : Int32)]) (rest := []) (st1 := [.int q6.1]) C0 hw (m_X6_readNumber l b0 D cy S4 a0 (9 : Int32) hq6) hc5 rfl (by decide) (goodV kw_423 kw_425 kw_5 kw_64 kw_426) ⟨rfl, rfl⟩ (by decide +kernel) ⟨(Nat.le_of_ble_eq_true rfl), (Nat.le_of_ble_eq_true rfl)⟩ rfl hl.1 rfl (Nat.le_of_ble_eq_true rfl) dX6_readRoom_24 ⟨Nat.zero_le _, Nat.zero_le _⟩ rfl (fun H locs hw => ?_)
  refine lv_istore_n (lv' := [(1, .int q6.1), (0, .ref (b0 + a0))]) C0.hx C0.hb dX6_readRoom_27 rfl hl (by decide) rfl (fun ls hl => ?_)
  refine lv_aload_n C0.hx C0.hb dX6_readRoom_28 rfl (lv_at hl 1 rfl) ?_
  refine lv_iconst (v := (1 : Int32)) C0.hx C0.hb dX6_readRoom_29 (by decide) ?_
  obtain ⟨c7, hc7, h⟩ := Option.bind_eq_some_iff.mp h
  obtain ⟨q8, hq8, h⟩ := Option.bind_eq_some_iff.mp h
  refine q_callV (n := 1) (av := [.int (1 : Int32)]) (rest := []) (st1 := [.int q8.1]) C0 hw (m_X6_readNumber l b0 D cy q6.2 a0 (1 : Int32) hq8) hc7 rfl (by decide) (goodV kw_423 kw_425 kw_5 kw_64 kw_426) ⟨rfl, rfl⟩ (by decide +kernel) ⟨(Nat.le_of_ble_eq_true rfl), (Nat.le_of_ble_eq_true rfl)⟩ rfl hl.1 rfl (Nat.le_of_ble_eq_true rfl) dX6_readRoom_30 ⟨Nat.zero_le _, Nat.zero_le _⟩ rfl (fun H locs hw => ?_)
  refine lv_istore_n (lv' := [(2, .int q8.1), (1, .int q6.1), (0, .ref (b0 + a0))]) C0.hx C0.hb dX6_readRoom_33 rfl hl (by decide) rfl (fun ls hl => ?_)
  refine lv_aload_n C0.hx C0.hb dX6_readRoom_34 rfl (lv_at hl 2 rfl) ?_
  obtain ⟨c9, hc9, h⟩ := Option.bind_eq_some_iff.mp h
  obtain ⟨S10, hS10, h⟩ := Option.bind_eq_some_iff.mp h
  refine q_callV (n := 0) (av := []) (rest := []) (st1 := []) C0 hw (m_X6_readEnd l b0 D cy q8.2 a0 hS10) hc9 rfl (by decide) (goodV kw_427 kw_429 kw_6 kw_64 kw_430) ⟨rfl, rfl⟩ (by decide +kernel) ⟨(Nat.le_of_ble_eq_true rfl), (Nat.le_of_ble_eq_true rfl)⟩ rfl hl.1 rfl (Nat.le_of_ble_eq_true rfl) dX6_readRoom_35 ⟨Nat.zero_le _, Nat.zero_le _⟩ rfl (fun H locs hw => ?_)
  refine lv_aload_n C0.hx C0.hb dX6_readRoom_38 rfl (lv_at hl 2 rfl) ?_
  obtain ⟨v11, hv11, h⟩ := Option.bind_eq_some_iff.mp h
  refine q_getI C0 hw hv11 rfl in_6 (by decide) kw_156 dX6_readRoom_39 ?_
  refine lv_if_ne (tgt := 54) C0.hx C0.hb dX6_readRoom_42 (by decide) (fun hc => ?_) (fun hc => ?_)
  · have h := (if_neg hc).symm.trans h
    obtain rfl := Option.some.inj h
    exact q_retv C0 hw hr hlocks dX6_readRoom_54
  · have h := (if_pos hc).symm.trans h
    refine lv_aload_n C0.hx C0.hb dX6_readRoom_45 rfl (lv_at hl 2 rfl) ?_
    obtain ⟨r12, hr12, h⟩ := Option.bind_eq_some_iff.mp h
    refine q_getR C0 hw hr12 rfl in_6 (by decide) kw_160 dX6_readRoom_46 ?_
    refine lv_iload_n C0.hx C0.hb dX6_readRoom_49 rfl (lv_at hl 1 rfl) ?_
    refine lv_iload_n C0.hx C0.hb dX6_readRoom_50 rfl (lv_at hl 0 rfl) ?_
    obtain ⟨c13, hc13, h⟩ := Option.bind_eq_some_iff.mp h
    obtain ⟨S14, hS14, h⟩ := Option.bind_eq_some_iff.mp h
    refine q_callV (n := 2) (av := [.int q6.1, .int q8.1]) (rest := []) (st1 := []) C0 hw (m_X2_addRoom l b0 D cy S10 r12 q6.1 q8.1 hS14) hc13 rfl (by decide) (goodV kw_435 kw_436 kw_437 kw_65 kw_438) ⟨rfl, rfl⟩ (by decide +kernel) ⟨(Nat.le_of_ble_eq_true rfl), (Nat.le_of_ble_eq_true rfl)⟩ rfl hl.1 rfl (Nat.le_of_ble_eq_true rfl) dX6_readRoom_51 ⟨Nat.zero_le _, Nat.zero_le _⟩ rfl (fun H locs hw => ?_)
    obtain rfl := Option.some.inj h
    exact q_retv C0 hw hr hlocks dX6_readRoom_54
set_option maxHeartbeats 4000000 in
set_option maxRecDepth 100000 in
theorem m_X6_readRoom (l : Launch) (b0 : Nat) (D : va_G) (cy : Nat → ClassId) (S : Mem) (a0 : Nat) {q : Mem} (h : f_X6_readRoom a0 S = some q) : Met l yX6_readRoom [.code yX6_readRoom cX6_readRoom 3 (none)] rm_X6_readRoom (Pr b0 D cy S [.ref (b0 + a0)]) (Qp b0 D cy none q) 0 0 (fun q => b0 ≤ q) := by
  refine Met.ofW (cc := cX6_readRoom) (maxL := 3) (ret := none) (by decide) rfl ?_
  intro p e s m args below meth c s₁ B hml hv
  obtain ⟨rfl, hP, hK, hT⟩ := hv
  have C0 : Cx p m c cX6_readRoom 3 s (List.toArray [.ref (b0 + a0)]) RX6 D cy := ⟨⟨B.exec, B.bytes, hml, findClass_of_methodNamed B.named, fun w h => hT w h _⟩, hK, hT⟩
  have hr : meth.sig.returnType = none := B.returns
  have hlocks := B.notSynchronized
  have hw : Wd b0 D cy S s.heap s.heap [] := ⟨hP, va_S.rf⟩
  have hl := lv_entry ([.ref (b0 + a0)]) (n := 3) (Nat.le_of_ble_eq_true rfl)
  rw [lg_entry_eq]
  generalize (lg_sl ([.ref (b0 + a0)]) ++ List.replicate (3 - (lg_sl ([.ref (b0 + a0)])).length) Slot.unset).toArray = ls at hl ⊢
  have hl : lv_has ls 3 [(0, .ref (b0 + a0))] := hl
  rw [f_X6_readRoom] at h
  show W p l e rm_X6_readRoom s m _ below meth c s.heap [] 0 0 _ _
  refine lv_aload_n C0.hx C0.hb dX6_readRoom_0 rfl (lv_at hl 0 rfl) ?_
  refine lv_aload_n C0.hx C0.hb dX6_readRoom_1 rfl (lv_at hl 0 rfl) ?_
  obtain ⟨r1, hr1, h⟩ := Option.bind_eq_some_iff.mp h
  refine q_getR C0 hw hr1 rfl in_6 (by decide) kw_160 dX6_readRoom_2 ?_
  obtain ⟨v2, hv2, h⟩ := Option.bind_eq_some_iff.mp h
  refine q_getI C0 hw hv2 rfl in_2 (by decide) kw_106 dX6_readRoom_5 ?_
  refine lv_bipush (v := (8 : Int32)) C0.hx C0.hb dX6_readRoom_8 (by decide) ?_
  refine lv_icmp_lt (tgt := 17) C0.hx C0.hb dX6_readRoom_10 (by decide) (fun hc => ?_) (fun hc => ?_)
  · have h := (if_pos hc).symm.trans h
    refine lv_iconst (v := (0 : Int32)) C0.hx C0.hb dX6_readRoom_17 (by decide) ?_
    exact w_X6_readRoom_b18 C0 hr hlocks a0 (0 : Int32) a0 S _ _ _ hw (lv_sub hl [0] rfl) h
  · have h := (if_neg hc).symm.trans h
    refine lv_iconst (v := (1 : Int32)) C0.hx C0.hb dX6_readRoom_13 (by decide) ?_
    refine lv_goto (tgt := 18) C0.hx C0.hb dX6_readRoom_14 (by decide) ?_
    exact w_X6_readRoom_b18 C0 hr hlocks a0 (1 : Int32) a0 S _ _ _ hw (lv_sub hl [0] rfl) h
