abbrev rm_X9_wayTo : Room := { frames := 0, cells := 0, slots := 0, locals := 0 }
def f_X9_wayTo (a0 : Nat) (x1 : Int32) (S : Mem) : Option Int32 :=
    (gR 9 7 S a0).bind fun r1 =>
      (ldJ S r1 ((32 : Int32) + ((3 : Int32) * x1))).bind fun u2 =>
      some (((u2 >>> ((3 : Int32).toInt64 &&& 63)) &&& (7 : Int64)).toInt32)
set_option maxHeartbeats 4000000 in
set_option maxRecDepth 100000 in
theorem m_X9_wayTo (l : Launch) (b0 : Nat) (D : va_G) (cy : Nat → ClassId) (S : Mem) (a0 : Nat) (x1 : Int32) {q : Int32} (h : f_X9_wayTo a0 x1 S = some q) : Met l yX9_wayTo [.code yX9_wayTo cX9_wayTo 2 (some .int)] rm_X9_wayTo (Pr b0 D cy S [.ref (b0 + a0), .int x1]) (Qp b0 D cy (some (.int q)) S) 0 0 (fun q => b0 ≤ q) := by
  refine Met.ofW (cc := cX9_wayTo) (maxL := 2) (ret := some .int) (by decide) rfl ?_
  intro p e s m args below meth c s₁ B hml hv
  obtain ⟨rfl, hP, hK, hT⟩ := hv
  have C0 : Cx p m c cX9_wayTo 2 s (List.toArray [.ref (b0 + a0), .int x1]) RX9 D cy := ⟨⟨B.exec, B.bytes, hml, findClass_of_methodNamed B.named, fun w h => hT w h _⟩, hK, hT⟩
  have hr : meth.sig.returnType = some .int := B.returns
  have hlocks := B.notSynchronized
  have hw : Wd b0 D cy S s.heap s.heap [] := ⟨hP, va_S.rf⟩
  have hl := lv_entry ([.ref (b0 + a0), .int x1]) (n := 2) (Nat.le_of_ble_eq_true rfl)
  rw [lg_entry_eq]
  generalize (lg_sl ([.ref (b0 + a0), .int x1]) ++ List.replicate (2 - (lg_sl ([.ref (b0 + a0), .int x1])).length) Slot.unset).toArray = ls at hl ⊢
  have hl : lv_has ls 2 [(0, .ref (b0 + a0)), (1, .int x1)] := hl
  rw [f_X9_wayTo] at h
  show W p l e rm_X9_wayTo s m _ below meth c s.heap [] 0 0 _ _
  refine lv_aload_n C0.hx C0.hb dX9_wayTo_0 rfl (lv_at hl 0 rfl) ?_
  obtain ⟨r1, hr1, h⟩ := Option.bind_eq_some_iff.mp h
  refine q_getR C0 hw hr1 rfl in_9 (by decide) kw_869 dX9_wayTo_1 ?_
  refine lv_bipush (v := (32 : Int32)) C0.hx C0.hb dX9_wayTo_4 (by decide) ?_
  refine lv_iconst (v := (3 : Int32)) C0.hx C0.hb dX9_wayTo_6 (by decide) ?_
  refine lv_iload_n C0.hx C0.hb dX9_wayTo_7 rfl (lv_at hl 1 rfl) ?_
  refine lv_imul C0.hx C0.hb dX9_wayTo_8 ?_
  refine lv_iadd C0.hx C0.hb dX9_wayTo_9 ?_
  obtain ⟨u2, hu2, h⟩ := Option.bind_eq_some_iff.mp h
  refine q_ldJ C0 hw hu2 dX9_wayTo_10 ?_
  refine lv_iconst (v := (3 : Int32)) C0.hx C0.hb dX9_wayTo_11 (by decide) ?_
  refine lv_lshr C0.hx C0.hb dX9_wayTo_12 rfl ?_
  refine lv_ldc2 C0.hx C0.hb C0.ho (C0.w kw_1067) dX9_wayTo_13 ?_
  refine lv_land C0.hx C0.hb dX9_wayTo_16 ?_
  refine lv_l2i C0.hx C0.hb dX9_wayTo_17 rfl ?_
  obtain rfl := Option.some.inj h
  exact q_reti C0 hw hr hlocks dX9_wayTo_18
abbrev rm_X9_hears : Room := { frames := 1, cells := 0, slots := 0, locals := 22 }
def f_X9_hears_b107 (k2 : Nat → Int32 → Mem → Option Mem) (a0 : Nat) (x1 : Int32) (S : Mem) : Option Mem :=
    (some (x1 + (1 : Int32))).bind fun v6 =>
      k2 a0 v6 S
def f_X9_hears_b106 (k2 : Nat → Int32 → Mem → Option Mem) (a0 : Nat) (x1 : Int32) (t0 : Int64) (t1 : Int32) (t2 : Nat) (S : Mem) : Option Mem :=
    (stJ S t2 t1 t0).bind fun S23 =>
      f_X9_hears_b107 k2 a0 x1 S23
def f_X9_hears_b2 : Nat → Nat → Int32 → Mem → Option Mem
  | 0, _, _, _ => none
  | n + 1, a0, x1, S =>
    (gI 9 3 S a0).bind fun v1 =>
      (if v1 ≤ x1 then
      some S
      else
      (gR 9 7 S a0).bind fun r2 =>
      (ldJ S r2 ((26 : Int32) + x1)).bind fun u3 =>
      (gR 9 7 S a0).bind fun r4 =>
      (ldJ S r4 (2 : Int32)).bind fun u5 =>
      (if (lg_cmp u3 u5) = (0 : Int32) then
      (gR 9 7 S a0).bind fun r7 =>
      (ldJ S r7 (7 : Int32)).bind fun u8 =>
      (f_X9_has u8 x1).bind fun v9 =>
      (if v9 = (0 : Int32) then
      (gR 9 7 S a0).bind fun r10 =>
      (ldJ S r10 (7 : Int32)).bind fun u11 =>
      (stJ S r10 (7 : Int32) (u11 ||| ((1 : Int64) <<< (x1.toInt64 &&& 63)))).bind fun S12 =>
      (gR 9 7 S12 a0).bind fun r13 =>
      (ldJ S12 r13 (8 : Int32)).bind fun u14 =>
      (gR 9 6 S12 a0).bind fun r15 =>
      (ldI S12 r15 x1).bind fun v16 =>
      (stJ S12 r13 (8 : Int32) (u14 + v16.toInt64)).bind fun S17 =>
      (gR 9 7 S17 a0).bind fun r18 =>
      (gR 9 7 S17 a0).bind fun r19 =>
      (ldJ S17 r19 (8 : Int32)).bind fun u20 =>
      (if (lg_cmp u20 (999999 : Int64)) ≤ (0 : Int32) then
      (gR 9 7 S17 a0).bind fun r21 =>
      (ldJ S17 r21 (8 : Int32)).bind fun u22 =>
      f_X9_hears_b106 (fun a0 x1 S => f_X9_hears_b2  n a0 x1 S) a0 x1 u22 (8 : Int32) r18 S17
      else
      f_X9_hears_b106 (fun a0 x1 S => f_X9_hears_b2  n a0 x1 S) a0 x1 (999999 : Int64) (8 : Int32) r18 S17)
      else
      f_X9_hears_b107 (fun a0 x1 S => f_X9_hears_b2  n a0 x1 S) a0 x1 S)
      else
      f_X9_hears_b107 (fun a0 x1 S => f_X9_hears_b2  n a0 x1 S) a0 x1 S))
def f_X9_hears (a0 : Nat) (S : Mem) : Option Mem :=
    f_X9_hears_b2 FU a0 (0 : Int32) S
set_option maxHeartbeats 4000000 in
set_option maxRecDepth 100000 in
theorem w_X9_hears_b107 {p : Program} {l : Launch} {e : Env} {s : State} {m : MethodId} {args : Array Value} {below : List Frame} {meth : Method} {c : Code} {b0 : Nat} {D : va_G} {cy : Nat → ClassId} {q : Mem} (C0 : Cx p m c cX9_hears 2 s args RX9 D cy) (hr : meth.sig.returnType = none) (hlocks : meth.locks = false) (k2 : Nat → Int32 → Mem → Option Mem) (hk2 : ∀ (a0 : Nat) (x1 : Int32) (S : Mem) (H : Heap) (locs : List Loc) (ls : Array Slot), Wd b0 D cy S s.heap H locs → lv_has ls 2 [(0, .ref (b0 + a0)), (1, .int x1)] → k2 a0 x1 S = some q → W p l e rm_X9_hears s m args below meth c H locs 0 0 (MQ below (Qp b0 D cy none q) args s 0 0 (fun q => b0 ≤ q)) (F0 m 2 ls [])) : ∀ (a0 : Nat) (x1 : Int32) (S : Mem) (H : Heap) (locs : List Loc) (ls : Array Slot), Wd b0 D cy S s.heap H locs → lv_has ls 2 [(0, .ref (b0 + a0)), (1, .int x1)] → f_X9_hears_b107 k2 a0 x1 S = some q → W p l e rm_X9_hears s m args below meth c H locs 0 0 (MQ below (Qp b0 D cy none q) args s 0 0 (fun q => b0 ≤ q)) (F0 m 107 ls []) := by
  intro a0 x1 S H locs ls hw hl h
  rw [f_X9_hears_b107] at h
  obtain ⟨v6, hv6, h⟩ := Option.bind_eq_some_iff.mp h
  refine lv_iinc (v := v6) (lv' := [(1, .int v6), (0, .ref (b0 + a0))]) C0.hx C0.hb dX9_hears_107 hl (k := 1) rfl (by rw [← Option.some.inj hv6]; rfl) (by decide) rfl (fun ls hl => ?_)
  refine lv_goto (tgt := 2) C0.hx C0.hb dX9_hears_110 (by decide) ?_
  exact hk2 a0 v6 S _ _ _ hw (lv_sub hl [1, 0] rfl) h
set_option maxHeartbeats 4000000 in
set_option maxRecDepth 100000 in
theorem w_X9_hears_b106 {p : Program} {l : Launch} {e : Env} {s : State} {m : MethodId} {args : Array Value} {below : List Frame} {meth : Method} {c : Code} {b0 : Nat} {D : va_G} {cy : Nat → ClassId} {q : Mem} (C0 : Cx p m c cX9_hears 2 s args RX9 D cy) (hr : meth.sig.returnType = none) (hlocks : meth.locks = false) (k2 : Nat → Int32 → Mem → Option Mem) (hk2 : ∀ (a0 : Nat) (x1 : Int32) (S : Mem) (H : Heap) (locs : List Loc) (ls : Array Slot), Wd b0 D cy S s.heap H locs → lv_has ls 2 [(0, .ref (b0 + a0)), (1, .int x1)] → k2 a0 x1 S = some q → W p l e rm_X9_hears s m args below meth c H locs 0 0 (MQ below (Qp b0 D cy none q) args s 0 0 (fun q => b0 ≤ q)) (F0 m 2 ls [])) : ∀ (a0 : Nat) (x1 : Int32) (t0 : Int64) (t1 : Int32) (t2 : Nat) (S : Mem) (H : Heap) (locs : List Loc) (ls : Array Slot), Wd b0 D cy S s.heap H locs → lv_has ls 2 [(0, .ref (b0 + a0)), (1, .int x1)] → f_X9_hears_b106 k2 a0 x1 t0 t1 t2 S = some q → W p l e rm_X9_hears s m args below meth c H locs 0 0 (MQ below (Qp b0 D cy none q) args s 0 0 (fun q => b0 ≤ q)) (F0 m 106 ls [.long t0, .int t1, .ref (b0 + t2)]) := by
  intro a0 x1 t0 t1 t2 S H locs ls hw hl h
  rw [f_X9_hears_b106] at h
  obtain ⟨S23, hS23, h⟩ := Option.bind_eq_some_iff.mp h
  refine q_stJ C0 hw hS23 dX9_hears_106 (fun H locs hw => ?_)
  exact w_X9_hears_b107 C0 hr hlocks k2 hk2 a0 x1 S23 _ _ _ hw (lv_sub hl [0, 1] rfl) h
set_option maxHeartbeats 4000000 in
set_option maxRecDepth 100000 in
theorem w_X9_hears_b2 {p : Program} {l : Launch} {e : Env} {s : State} {m : MethodId} {args : Array Value} {below : List Frame} {meth : Method} {c : Code} {b0 : Nat} {D : va_G} {cy : Nat → ClassId} {q : Mem} (C0 : Cx p m c cX9_hears 2 s args RX9 D cy) (hr : meth.sig.returnType = none) (hlocks : meth.locks = false) : ∀ (n : Nat) (a0 : Nat) (x1 : Int32) (S : Mem) (H : Heap) (locs : List Loc) (ls : Array Slot), Wd b0 D cy S s.heap H locs → lv_has ls 2 [(0, .ref (b0 + a0)), (1, .int x1)] → f_X9_hears_b2  n a0 x1 S = some q → W p l e rm_X9_hears s m args below meth c H locs 0 0 (MQ below (Qp b0 D cy none q) args s 0 0 (fun q => b0 ≤ q)) (F0 m 2 ls []) := by
  intro n
  induction n with
  | zero => intro a0 x1 S H locs ls hw hl h; exact absurd h (by simp [f_X9_hears_b2])
  | succ n ih =>
    intro a0 x1 S H locs ls hw hl h
    rw [f_X9_hears_b2] at h
    refine lv_iload_n C0.hx C0.hb dX9_hears_2 rfl (lv_at hl 1 rfl) ?_
    refine lv_aload_n C0.hx C0.hb dX9_hears_3 rfl (lv_at hl 0 rfl) ?_
    obtain ⟨v1, hv1, h⟩ := Option.bind_eq_some_iff.mp h
    refine q_getI C0 hw hv1 rfl in_9 (by decide) kw_865 dX9_hears_4 ?_
    refine lv_icmp_ge (tgt := 113) C0.hx C0.hb dX9_hears_7 (by decide) (fun hc => ?_) (fun hc => ?_)
    · have h := (if_pos hc).symm.trans h
      obtain rfl := Option.some.inj h
      exact q_retv C0 hw hr hlocks dX9_hears_113
    · have h := (if_neg hc).symm.trans h
      refine lv_aload_n C0.hx C0.hb dX9_hears_10 rfl (lv_at hl 0 rfl) ?_
      obtain ⟨r2, hr2, h⟩ := Option.bind_eq_some_iff.mp h
      refine q_getR C0 hw hr2 rfl in_9 (by decide) kw_869 dX9_hears_11 ?_
      refine lv_bipush (v := (26 : Int32)) C0.hx C0.hb dX9_hears_14 (by decide) ?_
      refine lv_iload_n C0.hx C0.hb dX9_hears_16 rfl (lv_at hl 1 rfl) ?_
      refine lv_iadd C0.hx C0.hb dX9_hears_17 ?_
      obtain ⟨u3, hu3, h⟩ := Option.bind_eq_some_iff.mp h
      refine q_ldJ C0 hw hu3 dX9_hears_18 ?_
      refine lv_aload_n C0.hx C0.hb dX9_hears_19 rfl (lv_at hl 0 rfl) ?_
      obtain ⟨r4, hr4, h⟩ := Option.bind_eq_some_iff.mp h
      refine q_getR C0 hw hr4 rfl in_9 (by decide) kw_869 dX9_hears_20 ?_
      refine lv_iconst (v := (2 : Int32)) C0.hx C0.hb dX9_hears_23 (by decide) ?_
      obtain ⟨u5, hu5, h⟩ := Option.bind_eq_some_iff.mp h
      refine q_ldJ C0 hw hu5 dX9_hears_24 ?_
      refine W.lcmp C0.hx C0.hb dX9_hears_25 ?_
      refine lv_if_ne (tgt := 107) C0.hx C0.hb dX9_hears_26 (by decide) (fun hc => ?_) (fun hc => ?_)
      · have h := (if_neg hc).symm.trans h
        exact w_X9_hears_b107 C0 hr hlocks (fun a0 x1 S => f_X9_hears_b2  n a0 x1 S) ih a0 x1 S _ _ _ hw (lv_sub hl [0, 1] rfl) h
      · have h := (if_pos hc).symm.trans h
        refine lv_aload_n C0.hx C0.hb dX9_hears_29 rfl (lv_at hl 0 rfl) ?_
        obtain ⟨r7, hr7, h⟩ := Option.bind_eq_some_iff.mp h
        refine q_getR C0 hw hr7 rfl in_9 (by decide) kw_869 dX9_hears_30 ?_
        refine lv_bipush (v := (7 : Int32)) C0.hx C0.hb dX9_hears_33 (by decide) ?_
        obtain ⟨u8, hu8, h⟩ := Option.bind_eq_some_iff.mp h
        refine q_ldJ C0 hw hu8 dX9_hears_35 ?_
        refine lv_iload_n C0.hx C0.hb dX9_hears_36 rfl (lv_at hl 1 rfl) ?_
        obtain ⟨v9, hv9, h⟩ := Option.bind_eq_some_iff.mp h
        refine q_callS (n := 2) (av := [.long u8, .int x1]) (rest := []) (st1 := [.int v9]) C0 hw (m_X9_has l b0 D cy S u8 x1 hv9) (goodS kw_1026 kw_1027 kw_72 kw_1028) ⟨rfl, rfl⟩ (by decide +kernel) ⟨(Nat.le_of_ble_eq_true rfl), (Nat.le_of_ble_eq_true rfl)⟩ rfl hl.1 rfl (Nat.le_of_ble_eq_true rfl) dX9_hears_37 ⟨Nat.zero_le _, Nat.zero_le _⟩ rfl (fun H locs hw => ?_)
        refine lv_if_ne (tgt := 107) C0.hx C0.hb dX9_hears_40 (by decide) (fun hc => ?_) (fun hc => ?_)
        · have h := (if_neg hc).symm.trans h
          exact w_X9_hears_b107 C0 hr hlocks (fun a0 x1 S => f_X9_hears_b2  n a0 x1 S) ih a0 x1 S _ _ _ hw (lv_sub hl [0, 1] rfl) h
        · have h := (if_pos hc).symm.trans h
          refine lv_aload_n C0.hx C0.hb dX9_hears_43 rfl (lv_at hl 0 rfl) ?_
          obtain ⟨r10, hr10, h⟩ := Option.bind_eq_some_iff.mp h
          refine q_getR C0 hw hr10 rfl in_9 (by decide) kw_869 dX9_hears_44 ?_
          refine lv_bipush (v := (7 : Int32)) C0.hx C0.hb dX9_hears_47 (by decide) ?_
          refine lv_dup2_11 C0.hx C0.hb dX9_hears_49 rfl rfl ?_
          obtain ⟨u11, hu11, h⟩ := Option.bind_eq_some_iff.mp h
          refine q_ldJ C0 hw hu11 dX9_hears_50 ?_
          refine lv_lconst (v := (1 : Int64)) C0.hx C0.hb dX9_hears_51 (by decide) ?_
          refine lv_iload_n C0.hx C0.hb dX9_hears_52 rfl (lv_at hl 1 rfl) ?_
          refine lv_lshl C0.hx C0.hb dX9_hears_53 rfl ?_
          refine lv_lor C0.hx C0.hb dX9_hears_54 ?_
          obtain ⟨S12, hS12, h⟩ := Option.bind_eq_some_iff.mp h
          refine q_stJ C0 hw hS12 dX9_hears_55 (fun H locs hw => ?_)
          refine lv_aload_n C0.hx C0.hb dX9_hears_56 rfl (lv_at hl 0 rfl) ?_
          obtain ⟨r13, hr13, h⟩ := Option.bind_eq_some_iff.mp h
          refine q_getR C0 hw hr13 rfl in_9 (by decide) kw_869 dX9_hears_57 ?_
          refine lv_bipush (v := (8 : Int32)) C0.hx C0.hb dX9_hears_60 (by decide) ?_
          refine lv_dup2_11 C0.hx C0.hb dX9_hears_62 rfl rfl ?_
          obtain ⟨u14, hu14, h⟩ := Option.bind_eq_some_iff.mp h
          refine q_ldJ C0 hw hu14 dX9_hears_63 ?_
          refine lv_aload_n C0.hx C0.hb dX9_hears_64 rfl (lv_at hl 0 rfl) ?_
          obtain ⟨r15, hr15, h⟩ := Option.bind_eq_some_iff.mp h
          refine q_getR C0 hw hr15 rfl in_9 (by decide) kw_868 dX9_hears_65 ?_
          refine lv_iload_n C0.hx C0.hb dX9_hears_68 rfl (lv_at hl 1 rfl) ?_
          obtain ⟨v16, hv16, h⟩ := Option.bind_eq_some_iff.mp h
          refine q_ldI C0 hw hv16 dX9_hears_69 ?_
          refine lv_i2l C0.hx C0.hb dX9_hears_70 rfl ?_
          refine lv_ladd C0.hx C0.hb dX9_hears_71 ?_
          obtain ⟨S17, hS17, h⟩ := Option.bind_eq_some_iff.mp h
          refine q_stJ C0 hw hS17 dX9_hears_72 (fun H locs hw => ?_)
          refine lv_aload_n C0.hx C0.hb dX9_hears_73 rfl (lv_at hl 0 rfl) ?_
          obtain ⟨r18, hr18, h⟩ := Option.bind_eq_some_iff.mp h
          refine q_getR C0 hw hr18 rfl in_9 (by decide) kw_869 dX9_hears_74 ?_
          refine lv_bipush (v := (8 : Int32)) C0.hx C0.hb dX9_hears_77 (by decide) ?_
          refine lv_aload_n C0.hx C0.hb dX9_hears_79 rfl (lv_at hl 0 rfl) ?_
          obtain ⟨r19, hr19, h⟩ := Option.bind_eq_some_iff.mp h
          refine q_getR C0 hw hr19 rfl in_9 (by decide) kw_869 dX9_hears_80 ?_
          refine lv_bipush (v := (8 : Int32)) C0.hx C0.hb dX9_hears_83 (by decide) ?_
          obtain ⟨u20, hu20, h⟩ := Option.bind_eq_some_iff.mp h
          refine q_ldJ C0 hw hu20 dX9_hears_85 ?_
          refine lv_ldc2 C0.hx C0.hb C0.ho (C0.w kw_1095) dX9_hears_86 ?_
          refine W.lcmp C0.hx C0.hb dX9_hears_89 ?_
          refine lv_if_le (tgt := 99) C0.hx C0.hb dX9_hears_90 (by decide) (fun hc => ?_) (fun hc => ?_)
          · have h := (if_pos hc).symm.trans h
            refine lv_aload_n C0.hx C0.hb dX9_hears_99 rfl (lv_at hl 0 rfl) ?_
            obtain ⟨r21, hr21, h⟩ := Option.bind_eq_some_iff.mp h
            refine q_getR C0 hw hr21 rfl in_9 (by decide) kw_869 dX9_hears_100 ?_
            refine lv_bipush (v := (8 : Int32)) C0.hx C0.hb dX9_hears_103 (by decide) ?_
            obtain ⟨u22, hu22, h⟩ := Option.bind_eq_some_iff.mp h
            refine q_ldJ C0 hw hu22 dX9_hears_105 ?_
            exact w_X9_hears_b106 C0 hr hlocks (fun a0 x1 S => f_X9_hears_b2  n a0 x1 S) ih a0 x1 u22 (8 : Int32) r18 S17 _ _ _ hw (lv_sub hl [0, 1] rfl) h
          · have h := (if_neg hc).symm.trans h
            refine lv_ldc2 C0.hx C0.hb C0.ho (C0.w kw_1095) dX9_hears_93 ?_
            refine lv_goto (tgt := 106) C0.hx C0.hb dX9_hears_96 (by decide) ?_
            exact w_X9_hears_b106 C0 hr hlocks (fun a0 x1 S => f_X9_hears_b2  n a0 x1 S) ih a0 x1 (999999 : Int64) (8 : Int32) r18 S17 _ _ _ hw (lv_sub hl [0, 1] rfl) h
set_option maxHeartbeats 4000000 in
set_option maxRecDepth 100000 in
theorem m_X9_hears (l : Launch) (b0 : Nat) (D : va_G) (cy : Nat → ClassId) (S : Mem) (a0 : Nat) {q : Mem} (h : f_X9_hears a0 S = some q) : Met l yX9_hears [.code yX9_hears cX9_hears 2 (none)] rm_X9_hears (Pr b0 D cy S [.ref (b0 + a0)]) (Qp b0 D cy none q) 0 0 (fun q => b0 ≤ q) := by
  refine Met.ofW (cc := cX9_hears) (maxL := 2) (ret := none) (by decide) rfl ?_
  intro p e s m args below meth c s₁ B hml hv
  obtain ⟨rfl, hP, hK, hT⟩ := hv
  have C0 : Cx p m c cX9_hears 2 s (List.toArray [.ref (b0 + a0)]) RX9 D cy := ⟨⟨B.exec, B.bytes, hml, findClass_of_methodNamed B.named, fun w h => hT w h _⟩, hK, hT⟩
  have hr : meth.sig.returnType = none := B.returns
  have hlocks := B.notSynchronized
  have hw : Wd b0 D cy S s.heap s.heap [] := ⟨hP, va_S.rf⟩
  have hl := lv_entry ([.ref (b0 + a0)]) (n := 2) (Nat.le_of_ble_eq_true rfl)
  rw [lg_entry_eq]
  generalize (lg_sl ([.ref (b0 + a0)]) ++ List.replicate (2 - (lg_sl ([.ref (b0 + a0)])).length) Slot.unset).toArray = ls at hl ⊢
  have hl : lv_has ls 2 [(0, .ref (b0 + a0))] := hl
  rw [f_X9_hears] at h
  show W p l e rm_X9_hears s m _ below meth c s.heap [] 0 0 _ _
  refine lv_iconst (v := (0 : Int32)) C0.hx C0.hb dX9_hears_0 (by decide) ?_
  refine lv_istore_n (lv' := [(1, .int (0 : Int32)), (0, .ref (b0 + a0))]) C0.hx C0.hb dX9_hears_1 rfl hl (by decide) rfl (fun ls hl => ?_)
  exact w_X9_hears_b2 C0 hr hlocks FU a0 (0 : Int32) S _ _ _ hw (lv_sub hl [1, 0] rfl) h
abbrev rm_X9_goesBy : Room := { frames := 3, cells := 0, slots := 0, locals := 88 }
def f_X9_goesBy_b86 (a0 : Nat) (S : Mem) : Option Mem :=
    (gR 9 7 S a0).bind fun r16 =>
      (ldJ S r16 (1 : Int32)).bind fun u17 =>
      (stJ S r16 (1 : Int32) (u17 + (1 : Int64))).bind fun S18 =>
      some S18
def f_X9_goesBy_b84 (a0 : Nat) (t0 : Int64) (t1 : Int64) (t2 : Int32) (t3 : Nat) (S : Mem) : Option Mem :=
    (stJ S t3 t2 (t1 + t0)).bind fun S27 =>
      f_X9_goesBy_b86 a0 S27
def f_X9_goesBy (a0 : Nat) (S : Mem) : Option Mem :=
    (gR 9 7 S a0).bind fun r1 =>
      (ck 9 S a0).bind fun c2 =>
      (f_X9_at a0 (2 : Int32) S).bind fun v3 =>
      (ldJ S r1 ((18 : Int32) + v3)).bind fun u4 =>
      (stJ S r1 ((18 : Int32) + v3) (u4 + (1 : Int64))).bind fun S5 =>
      (ck 9 S5 a0).bind fun c6 =>
      (f_X9_hears a0 S5).bind fun S7 =>
      (ck 9 S7 a0).bind fun c8 =>
      (f_X9_at a0 (0 : Int32) S7).bind fun v9 =>
      (gR 9 7 S7 a0).bind fun r10 =>
      (ldJ S7 r10 (4 : Int32)).bind fun u11 =>
      (ck 9 S7 a0).bind fun c12 =>
      (f_X9_goesNext a0 v9 u11 S7).bind fun v13 =>
      (ck 9 S7 a0).bind fun c14 =>
      (f_X9_at a0 (2 : Int32) S7).bind fun v15 =>
      (if v13 = v15 then
      f_X9_goesBy_b86 a0 S7
      else
      (ck 9 S7 a0).bind fun c19 =>
      (f_X9_remembers a0 v13 S7).bind fun S20 =>
      (gR 9 7 S20 a0).bind fun r21 =>
      (stJ S20 r21 (2 : Int32) v13.toInt64).bind fun S22 =>
      (gR 9 7 S22 a0).bind fun r23 =>
      (ldJ S22 r23 (3 : Int32)).bind fun u24 =>
      (gR 9 7 S22 a0).bind fun r25 =>
      (ldJ S22 r25 (3 : Int32)).bind fun u26 =>
      (if (0 : Int32) ≤ (lg_cmp u26 (999 : Int64)) then
      f_X9_goesBy_b84 a0 (0 : Int64) u24 (3 : Int32) r23 S22
      else
      f_X9_goesBy_b84 a0 (1 : Int64) u24 (3 : Int32) r23 S22))
set_option maxHeartbeats 4000000 in
set_option maxRecDepth 100000 in
theorem w_X9_goesBy_b86 {p : Program} {l : Launch} {e : Env} {s : State} {m : MethodId} {args : Array Value} {below : List Frame} {meth : Method} {c : Code} {b0 : Nat} {D : va_G} {cy : Nat → ClassId} {q : Mem} (C0 : Cx p m c cX9_goesBy 2 s args RX9 D cy) (hr : meth.sig.returnType = none) (hlocks : meth.locks = false) : ∀ (a0 : Nat) (S : Mem) (H : Heap) (locs : List Loc) (ls : Array Slot), Wd b0 D cy S s.heap H locs → lv_has ls 2 [(0, .ref (b0 + a0))] → f_X9_goesBy_b86  a0 S = some q → W p l e rm_X9_goesBy s m args below meth c H locs 0 0 (MQ below (Qp b0 D cy none q) args s 0 0 (fun q => b0 ≤ q)) (F0 m 86 ls []) := by
  intro a0 S H locs ls hw hl h
  rw [f_X9_goesBy_b86] at h
  refine lv_aload_n C0.hx C0.hb dX9_goesBy_86 rfl (lv_at hl 0 rfl) ?_
  obtain ⟨r16, hr16, h⟩ := Option.bind_eq_some_iff.mp h
  refine q_getR C0 hw hr16 rfl in_9 (by decide) kw_869 dX9_goesBy_87 ?_
  refine lv_iconst (v := (1 : Int32)) C0.hx C0.hb dX9_goesBy_90 (by decide) ?_
  refine lv_dup2_11 C0.hx C0.hb dX9_goesBy_91 rfl rfl ?_
  obtain ⟨u17, hu17, h⟩ := Option.bind_eq_some_iff.mp h
  refine q_ldJ C0 hw hu17 dX9_goesBy_92 ?_
  refine lv_lconst (v := (1 : Int64)) C0.hx C0.hb dX9_goesBy_93 (by decide) ?_
  refine lv_ladd C0.hx C0.hb dX9_goesBy_94 ?_
  obtain ⟨S18, hS18, h⟩ := Option.bind_eq_some_iff.mp h
  refine q_stJ C0 hw hS18 dX9_goesBy_95 (fun H locs hw => ?_)
  obtain rfl := Option.some.inj h
  exact q_retv C0 hw hr hlocks dX9_goesBy_96
set_option maxHeartbeats 4000000 in
set_option maxRecDepth 100000 in
theorem w_X9_goesBy_b84 {p : Program} {l : Launch} {e : Env} {s : State} {m : MethodId} {args : Array Value} {below : List Frame} {meth : Method} {c : Code} {b0 : Nat} {D : va_G} {cy : Nat → ClassId} {q : Mem} (C0 : Cx p m c cX9_goesBy 2 s args RX9 D cy) (hr : meth.sig.returnType = none) (hlocks : meth.locks = false) : ∀ (a0 : Nat) (t0 : Int64) (t1 : Int64) (t2 : Int32) (t3 : Nat) (S : Mem) (H : Heap) (locs : List Loc) (ls : Array Slot), Wd b0 D cy S s.heap H locs → lv_has ls 2 [(0, .ref (b0 + a0))] → f_X9_goesBy_b84  a0 t0 t1 t2 t3 S = some q → W p l e rm_X9_goesBy s m args below meth c H locs 0 0 (MQ below (Qp b0 D cy none q) args s 0 0 (fun q => b0 ≤ q)) (F0 m 84 ls [.long t0, .long t1, .int t2, .ref (b0 + t3)]) := by
  intro a0 t0 t1 t2 t3 S H locs ls hw hl h
  rw [f_X9_goesBy_b84] at h
  refine lv_ladd C0.hx C0.hb dX9_goesBy_84 ?_
  obtain ⟨S27, hS27, h⟩ := Option.bind_eq_some_iff.mp h
  refine q_stJ C0 hw hS27 dX9_goesBy_85 (fun H locs hw => ?_)
  exact w_X9_goesBy_b86 C0 hr hlocks a0 S27 _ _ _ hw (lv_sub hl [0] rfl) h
set_option maxHeartbeats 4000000 in
set_option maxRecDepth 100000 in
theorem m_X9_goesBy (l : Launch) (b0 : Nat) (D : va_G) (cy : Nat → ClassId) (S : Mem) (a0 : Nat) {q : Mem} (h : f_X9_goesBy a0 S = some q) : Met l yX9_goesBy [.code yX9_goesBy cX9_goesBy 2 (none)] rm_X9_goesBy (Pr b0 D cy S [.ref (b0 + a0)]) (Qp b0 D cy none q) 0 0 (fun q => b0 ≤ q) := by
  refine Met.ofW (cc := cX9_goesBy) (maxL := 2) (ret := none) (by decide) rfl ?_
  intro p e s m args below meth c s₁ B hml hv
  obtain ⟨rfl, hP, hK, hT⟩ := hv
  have C0 : Cx p m c cX9_goesBy 2 s (List.toArray [.ref (b0 + a0)]) RX9 D cy := ⟨⟨B.exec, B.bytes, hml, findClass_of_methodNamed B.named, fun w h => hT w h _⟩, hK, hT⟩
  have hr : meth.sig.returnType = none := B.returns
  have hlocks := B.notSynchronized
  have hw : Wd b0 D cy S s.heap s.heap [] := ⟨hP, va_S.rf⟩
  have hl := lv_entry ([.ref (b0 + a0)]) (n := 2) (Nat.le_of_ble_eq_true rfl)
  rw [lg_entry_eq]
  generalize (lg_sl ([.ref (b0 + a0)]) ++ List.replicate (2 - (lg_sl ([.ref (b0 + a0)])).length) Slot.unset).toArray = ls at hl ⊢
  have hl : lv_has ls 2 [(0, .ref (b0 + a0))] := hl
  rw [f_X9_goesBy] at h
  show W p l e rm_X9_goesBy s m _ below meth c s.heap [] 0 0 _ _
  refine lv_aload_n C0.hx C0.hb dX9_goesBy_0 rfl (lv_at hl 0 rfl) ?_
  obtain ⟨r1, hr1, h⟩ := Option.bind_eq_some_iff.mp h
  refine q_getR C0 hw hr1 rfl in_9 (by decide) kw_869 dX9_goesBy_1 ?_
  refine lv_bipush (v := (18 : Int32)) C0.hx C0.hb dX9_goesBy_4 (by decide) ?_
  refine lv_aload_n C0.hx C0.hb dX9_goesBy_6 rfl (lv_at hl 0 rfl) ?_
  refine lv_iconst (v := (2 : Int32)) C0.hx C0.hb dX9_goesBy_7 (by decide) ?_
  obtain ⟨c2, hc2, h⟩ := Option.bind_eq_some_iff.mp h
  obtain ⟨v3, hv3, h⟩ := Option.bind_eq_some_iff.mp h
  refine q_callV (n := 1) (av := [.int (2 : Int32)]) (rest := [.int (18 : Int32), .ref (b0 + r1)]) (st1 := [.int v3, .int (18 : Int32), .ref (b0 + r1)]) C0 hw (m_X9_at l b0 D cy S a0 (2 : Int32) hv3) hc2 rfl (by decide) (goodV kw_1013 kw_1015 kw_34 kw_72 kw_1016) ⟨rfl, rfl⟩ (by decide +kernel) ⟨(Nat.le_of_ble_eq_true rfl), (Nat.le_of_ble_eq_true rfl)⟩ rfl hl.1 rfl (Nat.le_of_ble_eq_true rfl) dX9_goesBy_8 ⟨Nat.zero_le _, Nat.zero_le _⟩ rfl (fun H locs hw => ?_)
  refine lv_iadd C0.hx C0.hb dX9_goesBy_11 ?_
  refine lv_dup2_11 C0.hx C0.hb dX9_goesBy_12 rfl rfl ?_
  obtain ⟨u4, hu4, h⟩ := Option.bind_eq_some_iff.mp h
  refine q_ldJ C0 hw hu4 dX9_goesBy_13 ?_
  refine lv_lconst (v := (1 : Int64)) C0.hx C0.hb dX9_goesBy_14 (by decide) ?_
  refine lv_ladd C0.hx C0.hb dX9_goesBy_15 ?_
  obtain ⟨S5, hS5, h⟩ := Option.bind_eq_some_iff.mp h
  refine q_stJ C0 hw hS5 dX9_goesBy_16 (fun H locs hw => ?_)
  refine lv_aload_n C0.hx C0.hb dX9_goesBy_17 rfl (lv_at hl 0 rfl) ?_
  obtain ⟨c6, hc6, h⟩ := Option.bind_eq_some_iff.mp h
  obtain ⟨S7, hS7, h⟩ := Option.bind_eq_some_iff.mp h
  refine q_callV (n := 0) (av := []) (rest := []) (st1 := []) C0 hw (m_X9_hears l b0 D cy S5 a0 hS7) hc6 rfl (by decide) (goodV kw_1091 kw_1093 kw_46 kw_72 kw_1094) ⟨rfl, rfl⟩ (by decide +kernel) ⟨(Nat.le_of_ble_eq_true rfl), (Nat.le_of_ble_eq_true rfl)⟩ rfl hl.1 rfl (Nat.le_of_ble_eq_true rfl) dX9_goesBy_18 ⟨Nat.zero_le _, Nat.zero_le _⟩ rfl (fun H locs hw => ?_)
  refine lv_aload_n C0.hx C0.hb dX9_goesBy_21 rfl (lv_at hl 0 rfl) ?_
  refine lv_aload_n C0.hx C0.hb dX9_goesBy_22 rfl (lv_at hl 0 rfl) ?_
  refine lv_iconst (v := (0 : Int32)) C0.hx C0.hb dX9_goesBy_23 (by decide) ?_
  obtain ⟨c8, hc8, h⟩ := Option.bind_eq_some_iff.mp h
  obtain ⟨v9, hv9, h⟩ := Option.bind_eq_some_iff.mp h
  refine q_callV (n := 1) (av := [.int (0 : Int32)]) (rest := [.ref (b0 + a0)]) (st1 := [.int v9, .ref (b0 + a0)]) C0 hw (m_X9_at l b0 D cy S7 a0 (0 : Int32) hv9) hc8 rfl (by decide) (goodV kw_1013 kw_1015 kw_34 kw_72 kw_1016) ⟨rfl, rfl⟩ (by decide +kernel) ⟨(Nat.le_of_ble_eq_true rfl), (Nat.le_of_ble_eq_true rfl)⟩ rfl hl.1 rfl (Nat.le_of_ble_eq_true rfl) dX9_goesBy_24 ⟨Nat.zero_le _, Nat.zero_le _⟩ rfl (fun H locs hw => ?_)
  refine lv_aload_n C0.hx C0.hb dX9_goesBy_27 rfl (lv_at hl 0 rfl) ?_
  obtain ⟨r10, hr10, h⟩ := Option.bind_eq_some_iff.mp h
  refine q_getR C0 hw hr10 rfl in_9 (by decide) kw_869 dX9_goesBy_28 ?_
  refine lv_iconst (v := (4 : Int32)) C0.hx C0.hb dX9_goesBy_31 (by decide) ?_
  obtain ⟨u11, hu11, h⟩ := Option.bind_eq_some_iff.mp h
  refine q_ldJ C0 hw hu11 dX9_goesBy_32 ?_
  obtain ⟨c12, hc12, h⟩ := Option.bind_eq_some_iff.mp h
  obtain ⟨v13, hv13, h⟩ := Option.bind_eq_some_iff.mp h
  refine q_callV (n := 2) (av := [.int v9, .long u11]) (rest := []) (st1 := [.int v13]) C0 hw (m_X9_goesNext l b0 D cy S7 a0 v9 u11 hv13) hc12 rfl (by decide) (goodV kw_1096 kw_1098 kw_47 kw_72 kw_1099) ⟨rfl, rfl⟩ (by decide +kernel) ⟨(Nat.le_of_ble_eq_true rfl), (Nat.le_of_ble_eq_true rfl)⟩ rfl hl.1 rfl (Nat.le_of_ble_eq_true rfl) dX9_goesBy_33 ⟨Nat.zero_le _, Nat.zero_le _⟩ rfl (fun H locs hw => ?_)
  refine lv_istore_n (lv' := [(1, .int v13), (0, .ref (b0 + a0))]) C0.hx C0.hb dX9_goesBy_36 rfl hl (by decide) rfl (fun ls hl => ?_)
  refine lv_iload_n C0.hx C0.hb dX9_goesBy_37 rfl (lv_at hl 0 rfl) ?_
  refine lv_aload_n C0.hx C0.hb dX9_goesBy_38 rfl (lv_at hl 1 rfl) ?_
  refine lv_iconst (v := (2 : Int32)) C0.hx C0.hb dX9_goesBy_39 (by decide) ?_
  obtain ⟨c14, hc14, h⟩ := Option.bind_eq_some_iff.mp h
  obtain ⟨v15, hv15, h⟩ := Option.bind_eq_some_iff.mp h
  refine q_callV (n := 1) (av := [.int (2 : Int32)]) (rest := [.int v13]) (st1 := [.int v15, .int v13]) C0 hw (m_X9_at l b0 D cy S7 a0 (2 : Int32) hv15) hc14 rfl (by decide) (goodV kw_1013 kw_1015 kw_34 kw_72 kw_1016) ⟨rfl, rfl⟩ (by decide +kernel) ⟨(Nat.le_of_ble_eq_true rfl), (Nat.le_of_ble_eq_true rfl)⟩ rfl hl.1 rfl (Nat.le_of_ble_eq_true rfl) dX9_goesBy_40 ⟨Nat.zero_le _, Nat.zero_le _⟩ rfl (fun H locs hw => ?_)
  refine lv_icmp_eq (tgt := 86) C0.hx C0.hb dX9_goesBy_43 (by decide) (fun hc => ?_) (fun hc => ?_)
  · have h := (if_pos hc).symm.trans h
    exact w_X9_goesBy_b86 C0 hr hlocks a0 S7 _ _ _ hw (lv_sub hl [1] rfl) h
  · have h := (if_neg hc).symm.trans h
    refine lv_aload_n C0.hx C0.hb dX9_goesBy_46 rfl (lv_at hl 1 rfl) ?_
    refine lv_iload_n C0.hx C0.hb dX9_goesBy_47 rfl (lv_at hl 0 rfl) ?_
    obtain ⟨c19, hc19, h⟩ := Option.bind_eq_some_iff.mp h
    obtain ⟨S20, hS20, h⟩ := Option.bind_eq_some_iff.mp h
    refine q_callV (n := 1) (av := [.int v13]) (rest := []) (st1 := []) C0 hw (m_X9_remembers l b0 D cy S7 a0 v13 hS20) hc19 rfl (by decide) (goodV kw_1108 kw_1110 kw_50 kw_72 kw_1111) ⟨rfl, rfl⟩ (by decide +kernel) ⟨(Nat.le_of_ble_eq_true rfl), (Nat.le_of_ble_eq_true rfl)⟩ rfl hl.1 rfl (Nat.le_of_ble_eq_true rfl) dX9_goesBy_48 ⟨Nat.zero_le _, Nat.zero_le _⟩ rfl (fun H locs hw => ?_)
    refine lv_aload_n C0.hx C0.hb dX9_goesBy_51 rfl (lv_at hl 1 rfl) ?_
    obtain ⟨r21, hr21, h⟩ := Option.bind_eq_some_iff.mp h
    refine q_getR C0 hw hr21 rfl in_9 (by decide) kw_869 dX9_goesBy_52 ?_
    refine lv_iconst (v := (2 : Int32)) C0.hx C0.hb dX9_goesBy_55 (by decide) ?_
    refine lv_iload_n C0.hx C0.hb dX9_goesBy_56 rfl (lv_at hl 0 rfl) ?_
    refine lv_i2l C0.hx C0.hb dX9_goesBy_57 rfl ?_
    obtain ⟨S22, hS22, h⟩ := Option.bind_eq_some_iff.mp h
    refine q_stJ C0 hw hS22 dX9_goesBy_58 (fun H locs hw => ?_)
    refine lv_aload_n C0.hx C0.hb dX9_goesBy_59 rfl (lv_at hl 1 rfl) ?_
    obtain ⟨r23, hr23, h⟩ := Option.bind_eq_some_iff.mp h
    refine q_getR C0 hw hr23 rfl in_9 (by decide) kw_869 dX9_goesBy_60 ?_
    refine lv_iconst (v := (3 : Int32)) C0.hx C0.hb dX9_goesBy_63 (by decide) ?_
    refine lv_dup2_11 C0.hx C0.hb dX9_goesBy_64 rfl rfl ?_
    obtain ⟨u24, hu24, h⟩ := Option.bind_eq_some_iff.mp h
    refine q_ldJ C0 hw hu24 dX9_goesBy_65 ?_
    refine lv_aload_n C0.hx C0.hb dX9_goesBy_66 rfl (lv_at hl 1 rfl) ?_
    obtain ⟨r25, hr25, h⟩ := Option.bind_eq_some_iff.mp h
    refine q_getR C0 hw hr25 rfl in_9 (by decide) kw_869 dX9_goesBy_67 ?_
    refine lv_iconst (v := (3 : Int32)) C0.hx C0.hb dX9_goesBy_70 (by decide) ?_
    obtain ⟨u26, hu26, h⟩ := Option.bind_eq_some_iff.mp h
    refine q_ldJ C0 hw hu26 dX9_goesBy_71 ?_
    refine lv_ldc2 C0.hx C0.hb C0.ho (C0.w kw_1114) dX9_goesBy_72 ?_
    refine W.lcmp C0.hx C0.hb dX9_goesBy_75 ?_
    refine lv_if_ge (tgt := 83) C0.hx C0.hb dX9_goesBy_76 (by decide) (fun hc => ?_) (fun hc => ?_)
    · have h := (if_pos hc).symm.trans h
      refine lv_lconst (v := (0 : Int64)) C0.hx C0.hb dX9_goesBy_83 (by decide) ?_
      exact w_X9_goesBy_b84 C0 hr hlocks a0 (0 : Int64) u24 (3 : Int32) r23 S22 _ _ _ hw (lv_sub hl [1] rfl) h
    · have h := (if_neg hc).symm.trans h
      refine lv_lconst (v := (1 : Int64)) C0.hx C0.hb dX9_goesBy_79 (by decide) ?_
      refine lv_goto (tgt := 84) C0.hx C0.hb dX9_goesBy_80 (by decide) ?_
      exact w_X9_goesBy_b84 C0 hr hlocks a0 (1 : Int64) u24 (3 : Int32) r23 S22 _ _ _ hw (lv_sub hl [1] rfl) h
abbrev rm_X9_goesOn : Room := { frames := 4, cells := 0, slots := 0, locals := 109 }
def f_X9_goesOn_b2 : Nat → Nat → Int32 → Int32 → Mem → Option Mem
  | 0, _, _, _, _ => none
  | n + 1, a0, x1, x2, S =>
    (if x1 ≤ x2 then
      some S
      else
      (ck 9 S a0).bind fun c1 =>
      (f_X9_goesBy a0 S).bind fun S2 =>
      (some (x2 + (1 : Int32))).bind fun v3 =>
      f_X9_goesOn_b2  n a0 x1 v3 S2)
def f_X9_goesOn (a0 : Nat) (x1 : Int32) (S : Mem) : Option Mem :=
    f_X9_goesOn_b2 FU a0 x1 (0 : Int32) S
set_option maxHeartbeats 4000000 in
set_option maxRecDepth 100000 in
theorem w_X9_goesOn_b2 {p : Program} {l : Launch} {e : Env} {s : State} {m : MethodId} {args : Array Value} {below : List Frame} {meth : Method} {c : Code} {b0 : Nat} {D : va_G} {cy : Nat → ClassId} {q : Mem} (C0 : Cx p m c cX9_goesOn 3 s args RX9 D cy) (hr : meth.sig.returnType = none) (hlocks : meth.locks = false) : ∀ (n : Nat) (a0 : Nat) (x1 : Int32) (x2 : Int32) (S : Mem) (H : Heap) (locs : List Loc) (ls : Array Slot), Wd b0 D cy S s.heap H locs → lv_has ls 3 [(0, .ref (b0 + a0)), (1, .int x1), (2, .int x2)] → f_X9_goesOn_b2  n a0 x1 x2 S = some q → W p l e rm_X9_goesOn s m args below meth c H locs 0 0 (MQ below (Qp b0 D cy none q) args s 0 0 (fun q => b0 ≤ q)) (F0 m 2 ls []) := by
  intro n
  induction n with
  | zero => intro a0 x1 x2 S H locs ls hw hl h; exact absurd h (by simp [f_X9_goesOn_b2])
  | succ n ih =>
    intro a0 x1 x2 S H locs ls hw hl h
    rw [f_X9_goesOn_b2] at h
    refine lv_iload_n C0.hx C0.hb dX9_goesOn_2 rfl (lv_at hl 2 rfl) ?_
    refine lv_iload_n C0.hx C0.hb dX9_goesOn_3 rfl (lv_at hl 1 rfl) ?_
    refine lv_icmp_ge (tgt := 17) C0.hx C0.hb dX9_goesOn_4 (by decide) (fun hc => ?_) (fun hc => ?_)
    · have h := (if_pos hc).symm.trans h
      obtain rfl := Option.some.inj h
      exact q_retv C0 hw hr hlocks dX9_goesOn_17
    · have h := (if_neg hc).symm.trans h
      refine lv_aload_n C0.hx C0.hb dX9_goesOn_7 rfl (lv_at hl 0 rfl) ?_
      obtain ⟨c1, hc1, h⟩ := Option.bind_eq_some_iff.mp h
      obtain ⟨S2, hS2, h⟩ := Option.bind_eq_some_iff.mp h
      refine q_callV (n := 0) (av := []) (rest := []) (st1 := []) C0 hw (m_X9_goesBy l b0 D cy S a0 hS2) hc1 rfl (by decide) (goodV kw_1087 kw_1089 kw_45 kw_72 kw_1090) ⟨rfl, rfl⟩ (by decide +kernel) ⟨(Nat.le_of_ble_eq_true rfl), (Nat.le_of_ble_eq_true rfl)⟩ rfl hl.1 rfl (Nat.le_of_ble_eq_true rfl) dX9_goesOn_8 ⟨Nat.zero_le _, Nat.zero_le _⟩ rfl (fun H locs hw => ?_)
      obtain ⟨v3, hv3, h⟩ := Option.bind_eq_some_iff.mp h
      refine lv_iinc (v := v3) (lv' := [(2, .int v3), (0, .ref (b0 + a0)), (1, .int x1)]) C0.hx C0.hb dX9_goesOn_11 hl (k := 2) rfl (by rw [← Option.some.inj hv3]; rfl) (by decide) rfl (fun ls hl => ?_)
      refine lv_goto (tgt := 2) C0.hx C0.hb dX9_goesOn_14 (by decide) ?_
      exact ih a0 x1 v3 S2 _ _ _ hw (lv_sub hl [1, 2, 0] rfl) h
set_option maxHeartbeats 4000000 in
set_option maxRecDepth 100000 in
theorem m_X9_goesOn (l : Launch) (b0 : Nat) (D : va_G) (cy : Nat → ClassId) (S : Mem) (a0 : Nat) (x1 : Int32) {q : Mem} (h : f_X9_goesOn a0 x1 S = some q) : Met l yX9_goesOn [.code yX9_goesOn cX9_goesOn 3 (none)] rm_X9_goesOn (Pr b0 D cy S [.ref (b0 + a0), .int x1]) (Qp b0 D cy none q) 0 0 (fun q => b0 ≤ q) := by
  refine Met.ofW (cc := cX9_goesOn) (maxL := 3) (ret := none) (by decide) rfl ?_
  intro p e s m args below meth c s₁ B hml hv
  obtain ⟨rfl, hP, hK, hT⟩ := hv
  have C0 : Cx p m c cX9_goesOn 3 s (List.toArray [.ref (b0 + a0), .int x1]) RX9 D cy := ⟨⟨B.exec, B.bytes, hml, findClass_of_methodNamed B.named, fun w h => hT w h _⟩, hK, hT⟩
  have hr : meth.sig.returnType = none := B.returns
  have hlocks := B.notSynchronized
  have hw : Wd b0 D cy S s.heap s.heap [] := ⟨hP, va_S.rf⟩
  have hl := lv_entry ([.ref (b0 + a0), .int x1]) (n := 3) (Nat.le_of_ble_eq_true rfl)
  rw [lg_entry_eq]
  generalize (lg_sl ([.ref (b0 + a0), .int x1]) ++ List.replicate (3 - (lg_sl ([.ref (b0 + a0), .int x1])).length) Slot.unset).toArray = ls at hl ⊢
  have hl : lv_has ls 3 [(0, .ref (b0 + a0)), (1, .int x1)] := hl
  rw [f_X9_goesOn] at h
  show W p l e rm_X9_goesOn s m _ below meth c s.heap [] 0 0 _ _
  refine lv_iconst (v := (0 : Int32)) C0.hx C0.hb dX9_goesOn_0 (by decide) ?_
  refine lv_istore_n (lv' := [(2, .int (0 : Int32)), (0, .ref (b0 + a0)), (1, .int x1)]) C0.hx C0.hb dX9_goesOn_1 rfl hl (by decide) rfl (fun ls hl => ?_)
  exact w_X9_goesOn_b2 C0 hr hlocks FU a0 x1 (0 : Int32) S _ _ _ hw (lv_sub hl [1, 2, 0] rfl) h
abbrev rm_X9_feed : Room := { frames := 1, cells := 0, slots := 0, locals := 25 }
def f_X9_feed (a0 : Nat) (x1 : Int32) (S : Mem) : Option (Int32 × Mem) :=
    (f_X9_in x1.toInt64 (0 : Int64) (255 : Int64)).bind fun v1 =>
      (if v1 = (0 : Int32) then
      some ((-1000000002 : Int32), S)
      else
      (gI 9 10 S a0).bind fun v2 =>
      (if v2 = (240 : Int32) then
      some ((-1000000004 : Int32), S)
      else
      (gR 9 9 S a0).bind fun r3 =>
      (gI 9 10 S a0).bind fun v4 =>
      (stI S r3 v4 x1).bind fun S5 =>
      (gI 9 10 S5 a0).bind fun v6 =>
      (pI 9 10 S5 a0 (v6 + (1 : Int32))).bind fun S7 =>
      (gI 9 10 S7 a0).bind fun v8 =>
      some (v8, S7)))
set_option maxHeartbeats 4000000 in
set_option maxRecDepth 100000 in
theorem m_X9_feed (l : Launch) (b0 : Nat) (D : va_G) (cy : Nat → ClassId) (S : Mem) (a0 : Nat) (x1 : Int32) {q : (Int32 × Mem)} (h : f_X9_feed a0 x1 S = some q) : Met l yX9_feed [.code yX9_feed cX9_feed 2 (some .int)] rm_X9_feed (Pr b0 D cy S [.ref (b0 + a0), .int x1]) (Qp b0 D cy (some (.int q.1)) q.2) 0 0 (fun q => b0 ≤ q) := by
  refine Met.ofW (cc := cX9_feed) (maxL := 2) (ret := some .int) (by decide) rfl ?_
  intro p e s m args below meth c s₁ B hml hv
  obtain ⟨rfl, hP, hK, hT⟩ := hv
  have C0 : Cx p m c cX9_feed 2 s (List.toArray [.ref (b0 + a0), .int x1]) RX9 D cy := ⟨⟨B.exec, B.bytes, hml, findClass_of_methodNamed B.named, fun w h => hT w h _⟩, hK, hT⟩
  have hr : meth.sig.returnType = some .int := B.returns
  have hlocks := B.notSynchronized
  have hw : Wd b0 D cy S s.heap s.heap [] := ⟨hP, va_S.rf⟩
  have hl := lv_entry ([.ref (b0 + a0), .int x1]) (n := 2) (Nat.le_of_ble_eq_true rfl)
  rw [lg_entry_eq]
  generalize (lg_sl ([.ref (b0 + a0), .int x1]) ++ List.replicate (2 - (lg_sl ([.ref (b0 + a0), .int x1])).length) Slot.unset).toArray = ls at hl ⊢
  have hl : lv_has ls 2 [(0, .ref (b0 + a0)), (1, .int x1)] := hl
  rw [f_X9_feed] at h
  show W p l e rm_X9_feed s m _ below meth c s.heap [] 0 0 _ _
  refine lv_iload_n C0.hx C0.hb dX9_feed_0 rfl (lv_at hl 1 rfl) ?_
  refine lv_i2l C0.hx C0.hb dX9_feed_1 rfl ?_
  refine lv_lconst (v := (0 : Int64)) C0.hx C0.hb dX9_feed_2 (by decide) ?_
  refine lv_ldc2 C0.hx C0.hb C0.ho (C0.w kw_950) dX9_feed_3 ?_
  obtain ⟨v1, hv1, h⟩ := Option.bind_eq_some_iff.mp h
  refine q_callS (n := 3) (av := [.long x1.toInt64, .long (0 : Int64), .long (255 : Int64)]) (rest := []) (st1 := [.int v1]) C0 hw (m_X9_in l b0 D cy S x1.toInt64 (0 : Int64) (255 : Int64) hv1) (goodS kw_951 kw_952 kw_72 kw_953) ⟨rfl, rfl⟩ (by decide +kernel) ⟨(Nat.le_of_ble_eq_true rfl), (Nat.le_of_ble_eq_true rfl)⟩ rfl hl.1 rfl (Nat.le_of_ble_eq_true rfl) dX9_feed_6 ⟨Nat.zero_le _, Nat.zero_le _⟩ rfl (fun H locs hw => ?_)
  refine lv_if_ne (tgt := 15) C0.hx C0.hb dX9_feed_9 (by decide) (fun hc => ?_) (fun hc => ?_)
  · have h := (if_neg hc).symm.trans h
    refine lv_aload_n C0.hx C0.hb dX9_feed_15 rfl (lv_at hl 0 rfl) ?_
    obtain ⟨v2, hv2, h⟩ := Option.bind_eq_some_iff.mp h
    refine q_getI C0 hw hv2 rfl in_9 (by decide) kw_872 dX9_feed_16 ?_
    refine lv_sipush (v := (240 : Int32)) C0.hx C0.hb dX9_feed_19 (by decide) ?_
    refine lv_icmp_ne (tgt := 28) C0.hx C0.hb dX9_feed_22 (by decide) (fun hc => ?_) (fun hc => ?_)
    · have h := (if_neg hc).symm.trans h
      refine lv_aload_n C0.hx C0.hb dX9_feed_28 rfl (lv_at hl 0 rfl) ?_
      obtain ⟨r3, hr3, h⟩ := Option.bind_eq_some_iff.mp h
      refine q_getR C0 hw hr3 rfl in_9 (by decide) kw_871 dX9_feed_29 ?_
      refine lv_aload_n C0.hx C0.hb dX9_feed_32 rfl (lv_at hl 0 rfl) ?_
      obtain ⟨v4, hv4, h⟩ := Option.bind_eq_some_iff.mp h
      refine q_getI C0 hw hv4 rfl in_9 (by decide) kw_872 dX9_feed_33 ?_
      refine lv_iload_n C0.hx C0.hb dX9_feed_36 rfl (lv_at hl 1 rfl) ?_
      obtain ⟨S5, hS5, h⟩ := Option.bind_eq_some_iff.mp h
      refine q_stI C0 hw hS5 dX9_feed_37 (fun H locs hw => ?_)
      refine lv_aload_n C0.hx C0.hb dX9_feed_38 rfl (lv_at hl 0 rfl) ?_
      refine lv_dup C0.hx C0.hb dX9_feed_39 rfl ?_
      obtain ⟨v6, hv6, h⟩ := Option.bind_eq_some_iff.mp h
      refine q_getI C0 hw hv6 rfl in_9 (by decide) kw_872 dX9_feed_40 ?_
      refine lv_iconst (v := (1 : Int32)) C0.hx C0.hb dX9_feed_43 (by decide) ?_
      refine lv_iadd C0.hx C0.hb dX9_feed_44 ?_
      obtain ⟨S7, hS7, h⟩ := Option.bind_eq_some_iff.mp h
      refine q_putI C0 hw hS7 rfl in_9 tyX9_ok nmX9 ⟨by decide, by decide, rfl, rfl⟩ rfl kw_872 dX9_feed_45 (fun H locs hw => ?_)
      refine lv_aload_n C0.hx C0.hb dX9_feed_48 rfl (lv_at hl 0 rfl) ?_
      obtain ⟨v8, hv8, h⟩ := Option.bind_eq_some_iff.mp h
      refine q_getI C0 hw hv8 rfl in_9 (by decide) kw_872 dX9_feed_49 ?_
      obtain rfl := Option.some.inj h
      exact q_reti C0 hw hr hlocks dX9_feed_52
    · have h := (if_pos hc).symm.trans h
      refine lv_ldc C0.hx C0.hb C0.ho (C0.w kw_955) dX9_feed_25 ?_
      obtain rfl := Option.some.inj h
      exact q_reti C0 hw hr hlocks dX9_feed_27
  · have h := (if_pos hc).symm.trans h
    refine lv_ldc C0.hx C0.hb C0.ho (C0.w kw_954) dX9_feed_12 ?_
    obtain rfl := Option.some.inj h
    exact q_reti C0 hw hr hlocks dX9_feed_14
abbrev rm_X9_here : Room := { frames := 0, cells := 0, slots := 0, locals := 0 }
def f_X9_here_b38 (a0 : Nat) (S : Mem) : Option (Int32 × Mem) :=
    (gI 9 11 S a0).bind fun v3 =>
      (gI 9 10 S a0).bind fun v4 =>
      (if v4 ≤ v3 then
      some ((-1 : Int32), S)
      else
      (gR 9 9 S a0).bind fun r5 =>
      (gI 9 11 S a0).bind fun v6 =>
      (ldI S r5 v6).bind fun v7 =>
      some (v7, S))
def f_X9_here_b0 : Nat → Nat → Mem → Option (Int32 × Mem)
  | 0, _, _ => none
  | n + 1, a0, S =>
    (gI 9 11 S a0).bind fun v1 =>
      (gI 9 10 S a0).bind fun v2 =>
      (if v2 ≤ v1 then
      f_X9_here_b38 a0 S
      else
      (gR 9 9 S a0).bind fun r8 =>
      (gI 9 11 S a0).bind fun v9 =>
      (ldI S r8 v9).bind fun v10 =>
      (if v10 = (32 : Int32) then
      (gI 9 11 S a0).bind fun v11 =>
      (pI 9 11 S a0 (v11 + (1 : Int32))).bind fun S12 =>
      f_X9_here_b0  n a0 S12
      else
      f_X9_here_b38 a0 S))
def f_X9_here (a0 : Nat) (S : Mem) : Option (Int32 × Mem) :=
    f_X9_here_b0 FU a0 S
set_option maxHeartbeats 4000000 in
set_option maxRecDepth 100000 in
theorem w_X9_here_b38 {p : Program} {l : Launch} {e : Env} {s : State} {m : MethodId} {args : Array Value} {below : List Frame} {meth : Method} {c : Code} {b0 : Nat} {D : va_G} {cy : Nat → ClassId} {q : (Int32 × Mem)} (C0 : Cx p m c cX9_here 1 s args RX9 D cy) (hr : meth.sig.returnType = some .int) (hlocks : meth.locks = false) : ∀ (a0 : Nat) (S : Mem) (H : Heap) (locs : List Loc) (ls : Array Slot), Wd b0 D cy S s.heap H locs → lv_has ls 1 [(0, .ref (b0 + a0))] → f_X9_here_b38  a0 S = some q → W p l e rm_X9_here s m args below meth c H locs 0 0 (MQ below (Qp b0 D cy (some (.int q.1)) q.2) args s 0 0 (fun q => b0 ≤ q)) (F0 m 38 ls []) := by
  intro a0 S H locs ls hw hl h
  rw [f_X9_here_b38] at h
  refine lv_aload_n C0.hx C0.hb dX9_here_38 rfl (lv_at hl 0 rfl) ?_
  obtain ⟨v3, hv3, h⟩ := Option.bind_eq_some_iff.mp h
  refine q_getI C0 hw hv3 rfl in_9 (by decide) kw_873 dX9_here_39 ?_
  refine lv_aload_n C0.hx C0.hb dX9_here_42 rfl (lv_at hl 0 rfl) ?_
  obtain ⟨v4, hv4, h⟩ := Option.bind_eq_some_iff.mp h
  refine q_getI C0 hw hv4 rfl in_9 (by decide) kw_872 dX9_here_43 ?_
  refine lv_icmp_ge (tgt := 61) C0.hx C0.hb dX9_here_46 (by decide) (fun hc => ?_) (fun hc => ?_)
  · have h := (if_pos hc).symm.trans h
    refine lv_iconst (v := (-1 : Int32)) C0.hx C0.hb dX9_here_61 (by decide) ?_
    obtain rfl := Option.some.inj h
    exact q_reti C0 hw hr hlocks dX9_here_62
  · have h := (if_neg hc).symm.trans h
    refine lv_aload_n C0.hx C0.hb dX9_here_49 rfl (lv_at hl 0 rfl) ?_
    obtain ⟨r5, hr5, h⟩ := Option.bind_eq_some_iff.mp h
    refine q_getR C0 hw hr5 rfl in_9 (by decide) kw_871 dX9_here_50 ?_
    refine lv_aload_n C0.hx C0.hb dX9_here_53 rfl (lv_at hl 0 rfl) ?_
    obtain ⟨v6, hv6, h⟩ := Option.bind_eq_some_iff.mp h
    refine q_getI C0 hw hv6 rfl in_9 (by decide) kw_873 dX9_here_54 ?_
    obtain ⟨v7, hv7, h⟩ := Option.bind_eq_some_iff.mp h
    refine q_ldI C0 hw hv7 dX9_here_57 ?_
    refine lv_goto (tgt := 62) C0.hx C0.hb dX9_here_58 (by decide) ?_
    obtain rfl := Option.some.inj h
    exact q_reti C0 hw hr hlocks dX9_here_62
set_option maxHeartbeats 4000000 in
set_option maxRecDepth 100000 in
theorem w_X9_here_b0 {p : Program} {l : Launch} {e : Env} {s : State} {m : MethodId} {args : Array Value} {below : List Frame} {meth : Method} {c : Code} {b0 : Nat} {D : va_G} {cy : Nat → ClassId} {q : (Int32 × Mem)} (C0 : Cx p m c cX9_here 1 s args RX9 D cy) (hr : meth.sig.returnType = some .int) (hlocks : meth.locks = false) : ∀ (n : Nat) (a0 : Nat) (S : Mem) (H : Heap) (locs : List Loc) (ls : Array Slot), Wd b0 D cy S s.heap H locs → lv_has ls 1 [(0, .ref (b0 + a0))] → f_X9_here_b0  n a0 S = some q → W p l e rm_X9_here s m args below meth c H locs 0 0 (MQ below (Qp b0 D cy (some (.int q.1)) q.2) args s 0 0 (fun q => b0 ≤ q)) (F0 m 0 ls []) := by
  intro n
  induction n with
  | zero => intro a0 S H locs ls hw hl h; exact absurd h (by simp [f_X9_here_b0])
  | succ n ih =>
    intro a0 S H locs ls hw hl h
    rw [f_X9_here_b0] at h
    refine lv_aload_n C0.hx C0.hb dX9_here_0 rfl (lv_at hl 0 rfl) ?_
    obtain ⟨v1, hv1, h⟩ := Option.bind_eq_some_iff.mp h
    refine q_getI C0 hw hv1 rfl in_9 (by decide) kw_873 dX9_here_1 ?_
    refine lv_aload_n C0.hx C0.hb dX9_here_4 rfl (lv_at hl 0 rfl) ?_
    obtain ⟨v2, hv2, h⟩ := Option.bind_eq_some_iff.mp h
    refine q_getI C0 hw hv2 rfl in_9 (by decide) kw_872 dX9_here_5 ?_
    refine lv_icmp_ge (tgt := 38) C0.hx C0.hb dX9_here_8 (by decide) (fun hc => ?_) (fun hc => ?_)
    · have h := (if_pos hc).symm.trans h
      exact w_X9_here_b38 C0 hr hlocks a0 S _ _ _ hw (lv_sub hl [0] rfl) h
    · have h := (if_neg hc).symm.trans h
      refine lv_aload_n C0.hx C0.hb dX9_here_11 rfl (lv_at hl 0 rfl) ?_
      obtain ⟨r8, hr8, h⟩ := Option.bind_eq_some_iff.mp h
      refine q_getR C0 hw hr8 rfl in_9 (by decide) kw_871 dX9_here_12 ?_
      refine lv_aload_n C0.hx C0.hb dX9_here_15 rfl (lv_at hl 0 rfl) ?_
      obtain ⟨v9, hv9, h⟩ := Option.bind_eq_some_iff.mp h
      refine q_getI C0 hw hv9 rfl in_9 (by decide) kw_873 dX9_here_16 ?_
      obtain ⟨v10, hv10, h⟩ := Option.bind_eq_some_iff.mp h
      refine q_ldI C0 hw hv10 dX9_here_19 ?_
      refine lv_bipush (v := (32 : Int32)) C0.hx C0.hb dX9_here_20 (by decide) ?_
      refine lv_icmp_ne (tgt := 38) C0.hx C0.hb dX9_here_22 (by decide) (fun hc => ?_) (fun hc => ?_)
      · have h := (if_neg hc).symm.trans h
        exact w_X9_here_b38 C0 hr hlocks a0 S _ _ _ hw (lv_sub hl [0] rfl) h
      · have h := (if_pos hc).symm.trans h
        refine lv_aload_n C0.hx C0.hb dX9_here_25 rfl (lv_at hl 0 rfl) ?_
        refine lv_dup C0.hx C0.hb dX9_here_26 rfl ?_
        obtain ⟨v11, hv11, h⟩ := Option.bind_eq_some_iff.mp h
        refine q_getI C0 hw hv11 rfl in_9 (by decide) kw_873 dX9_here_27 ?_
        refine lv_iconst (v := (1 : Int32)) C0.hx C0.hb dX9_here_30 (by decide) ?_
        refine lv_iadd C0.hx C0.hb dX9_here_31 ?_
        obtain ⟨S12, hS12, h⟩ := Option.bind_eq_some_iff.mp h
        refine q_putI C0 hw hS12 rfl in_9 tyX9_ok nmX9 ⟨by decide, by decide, rfl, rfl⟩ rfl kw_873 dX9_here_32 (fun H locs hw => ?_)
        refine lv_goto (tgt := 0) C0.hx C0.hb dX9_here_35 (by decide) ?_
        exact ih a0 S12 _ _ _ hw (lv_sub hl [0] rfl) h
set_option maxHeartbeats 4000000 in
set_option maxRecDepth 100000 in
theorem m_X9_here (l : Launch) (b0 : Nat) (D : va_G) (cy : Nat → ClassId) (S : Mem) (a0 : Nat) {q : (Int32 × Mem)} (h : f_X9_here a0 S = some q) : Met l yX9_here [.code yX9_here cX9_here 1 (some .int)] rm_X9_here (Pr b0 D cy S [.ref (b0 + a0)]) (Qp b0 D cy (some (.int q.1)) q.2) 0 0 (fun q => b0 ≤ q) := by
  refine Met.ofW (cc := cX9_here) (maxL := 1) (ret := some .int) (by decide) rfl ?_
  intro p e s m args below meth c s₁ B hml hv
  obtain ⟨rfl, hP, hK, hT⟩ := hv
  have C0 : Cx p m c cX9_here 1 s (List.toArray [.ref (b0 + a0)]) RX9 D cy := ⟨⟨B.exec, B.bytes, hml, findClass_of_methodNamed B.named, fun w h => hT w h _⟩, hK, hT⟩
  have hr : meth.sig.returnType = some .int := B.returns
  have hlocks := B.notSynchronized
  have hw : Wd b0 D cy S s.heap s.heap [] := ⟨hP, va_S.rf⟩
  have hl := lv_entry ([.ref (b0 + a0)]) (n := 1) (Nat.le_of_ble_eq_true rfl)
  rw [lg_entry_eq]
  generalize (lg_sl ([.ref (b0 + a0)]) ++ List.replicate (1 - (lg_sl ([.ref (b0 + a0)])).length) Slot.unset).toArray = ls at hl ⊢
  have hl : lv_has ls 1 [(0, .ref (b0 + a0))] := hl
  rw [f_X9_here] at h
  show W p l e rm_X9_here s m _ below meth c s.heap [] 0 0 _ _
  exact w_X9_here_b0 C0 hr hlocks FU a0 S _ _ _ hw (lv_sub hl [0] rfl) h
abbrev rm_X9_isFigure : Room := { frames := 1, cells := 0, slots := 0, locals := 25 }
def f_X9_isFigure (x0 : Int32) : Option Int32 :=
    (f_X9_in x0.toInt64 (48 : Int64) (57 : Int64)).bind fun v1 =>
      (zok v1).bind fun v2 =>
      some v2
set_option maxHeartbeats 4000000 in
set_option maxRecDepth 100000 in
theorem m_X9_isFigure (l : Launch) (b0 : Nat) (D : va_G) (cy : Nat → ClassId) (S : Mem) (x0 : Int32) {q : Int32} (h : f_X9_isFigure x0 = some q) : Met l yX9_isFigure [.code yX9_isFigure cX9_isFigure 1 (some .boolean)] rm_X9_isFigure (Pr b0 D cy S [.int x0]) (Qp b0 D cy (some (.int q)) S) 0 0 (fun q => b0 ≤ q) := by
  refine Met.ofW (cc := cX9_isFigure) (maxL := 1) (ret := some .boolean) (by decide) rfl ?_
  intro p e s m args below meth c s₁ B hml hv
  obtain ⟨rfl, hP, hK, hT⟩ := hv
  have C0 : Cx p m c cX9_isFigure 1 s (List.toArray [.int x0]) RX9 D cy := ⟨⟨B.exec, B.bytes, hml, findClass_of_methodNamed B.named, fun w h => hT w h _⟩, hK, hT⟩
  have hr : meth.sig.returnType = some .boolean := B.returns
  have hlocks := B.notSynchronized
  have hw : Wd b0 D cy S s.heap s.heap [] := ⟨hP, va_S.rf⟩
  have hl := lv_entry ([.int x0]) (n := 1) (Nat.le_of_ble_eq_true rfl)
  rw [lg_entry_eq]
  generalize (lg_sl ([.int x0]) ++ List.replicate (1 - (lg_sl ([.int x0])).length) Slot.unset).toArray = ls at hl ⊢
  have hl : lv_has ls 1 [(0, .int x0)] := hl
  rw [f_X9_isFigure] at h
  show W p l e rm_X9_isFigure s m _ below meth c s.heap [] 0 0 _ _
  refine lv_iload_n C0.hx C0.hb dX9_isFigure_0 rfl (lv_at hl 0 rfl) ?_
  refine lv_i2l C0.hx C0.hb dX9_isFigure_1 rfl ?_
  refine lv_ldc2 C0.hx C0.hb C0.ho (C0.w kw_983) dX9_isFigure_2 ?_
  refine lv_ldc2 C0.hx C0.hb C0.ho (C0.w kw_984) dX9_isFigure_5 ?_
  obtain ⟨v1, hv1, h⟩ := Option.bind_eq_some_iff.mp h
  refine q_callS (n := 3) (av := [.long x0.toInt64, .long (48 : Int64), .long (57 : Int64)]) (rest := []) (st1 := [.int v1]) C0 hw (m_X9_in l b0 D cy S x0.toInt64 (48 : Int64) (57 : Int64) hv1) (goodS kw_951 kw_952 kw_72 kw_953) ⟨rfl, rfl⟩ (by decide +kernel) ⟨(Nat.le_of_ble_eq_true rfl), (Nat.le_of_ble_eq_true rfl)⟩ rfl hl.1 rfl (Nat.le_of_ble_eq_true rfl) dX9_isFigure_8 ⟨Nat.zero_le _, Nat.zero_le _⟩ rfl (fun H locs hw => ?_)
  obtain ⟨v2, hv2, h⟩ := Option.bind_eq_some_iff.mp h
  obtain ⟨he, hz⟩ := zok_inv hv2
  subst he
  obtain rfl := Option.some.inj h
  exact q_retz C0 hw hz hr hlocks dX9_isFigure_11
abbrev rm_X9_faults : Room := { frames := 0, cells := 0, slots := 0, locals := 0 }
def f_X9_faults_b16 (t0 : Int32) (t1 : Nat) (S : Mem) : Option Mem :=
    (pI 9 12 S t1 t0).bind fun S3 =>
      some S3
def f_X9_faults (a0 : Nat) (x1 : Int32) (S : Mem) : Option Mem :=
    (gI 9 12 S a0).bind fun v1 =>
      (if v1 = (0 : Int32) then
      f_X9_faults_b16 x1 a0 S
      else
      (gI 9 12 S a0).bind fun v2 =>
      f_X9_faults_b16 v2 a0 S)
set_option maxHeartbeats 4000000 in
set_option maxRecDepth 100000 in
theorem w_X9_faults_b16 {p : Program} {l : Launch} {e : Env} {s : State} {m : MethodId} {args : Array Value} {below : List Frame} {meth : Method} {c : Code} {b0 : Nat} {D : va_G} {cy : Nat → ClassId} {q : Mem} (C0 : Cx p m c cX9_faults 2 s args RX9 D cy) (hr : meth.sig.returnType = none) (hlocks : meth.locks = false) : ∀ (t0 : Int32) (t1 : Nat) (S : Mem) (H : Heap) (locs : List Loc) (ls : Array Slot), Wd b0 D cy S s.heap H locs → lv_has ls 2 [] → f_X9_faults_b16  t0 t1 S = some q → W p l e rm_X9_faults s m args below meth c H locs 0 0 (MQ below (Qp b0 D cy none q) args s 0 0 (fun q => b0 ≤ q)) (F0 m 16 ls [.int t0, .ref (b0 + t1)]) := by
  intro t0 t1 S H locs ls hw hl h
  rw [f_X9_faults_b16] at h
  obtain ⟨S3, hS3, h⟩ := Option.bind_eq_some_iff.mp h
  refine q_putI C0 hw hS3 rfl in_9 tyX9_ok nmX9 ⟨by decide, by decide, rfl, rfl⟩ rfl kw_874 dX9_faults_16 (fun H locs hw => ?_)
  obtain rfl := Option.some.inj h
  exact q_retv C0 hw hr hlocks dX9_faults_19
set_option maxHeartbeats 4000000 in
set_option maxRecDepth 100000 in
theorem m_X9_faults (l : Launch) (b0 : Nat) (D : va_G) (cy : Nat → ClassId) (S : Mem) (a0 : Nat) (x1 : Int32) {q : Mem} (h : f_X9_faults a0 x1 S = some q) : Met l yX9_faults [.code yX9_faults cX9_faults 2 (none)] rm_X9_faults (Pr b0 D cy S [.ref (b0 + a0), .int x1]) (Qp b0 D cy none q) 0 0 (fun q => b0 ≤ q) := by
  refine Met.ofW (cc := cX9_faults) (maxL := 2) (ret := none) (by decide) rfl ?_
  intro p e s m args below meth c s₁ B hml hv
  obtain ⟨rfl, hP, hK, hT⟩ := hv
  have C0 : Cx p m c cX9_faults 2 s (List.toArray [.ref (b0 + a0), .int x1]) RX9 D cy := ⟨⟨B.exec, B.bytes, hml, findClass_of_methodNamed B.named, fun w h => hT w h _⟩, hK, hT⟩
  have hr : meth.sig.returnType = none := B.returns
  have hlocks := B.notSynchronized
  have hw : Wd b0 D cy S s.heap s.heap [] := ⟨hP, va_S.rf⟩
  have hl := lv_entry ([.ref (b0 + a0), .int x1]) (n := 2) (Nat.le_of_ble_eq_true rfl)
  rw [lg_entry_eq]
  generalize (lg_sl ([.ref (b0 + a0), .int x1]) ++ List.replicate (2 - (lg_sl ([.ref (b0 + a0), .int x1])).length) Slot.unset).toArray = ls at hl ⊢
  have hl : lv_has ls 2 [(0, .ref (b0 + a0)), (1, .int x1)] := hl
  rw [f_X9_faults] at h
  show W p l e rm_X9_faults s m _ below meth c s.heap [] 0 0 _ _
  refine lv_aload_n C0.hx C0.hb dX9_faults_0 rfl (lv_at hl 0 rfl) ?_
  refine lv_aload_n C0.hx C0.hb dX9_faults_1 rfl (lv_at hl 0 rfl) ?_
  obtain ⟨v1, hv1, h⟩ := Option.bind_eq_some_iff.mp h
  refine q_getI C0 hw hv1 rfl in_9 (by decide) kw_874 dX9_faults_2 ?_
  refine lv_if_ne (tgt := 12) C0.hx C0.hb dX9_faults_5 (by decide) (fun hc => ?_) (fun hc => ?_)
  · have h := (if_neg hc).symm.trans h
    refine lv_aload_n C0.hx C0.hb dX9_faults_12 rfl (lv_at hl 0 rfl) ?_
    obtain ⟨v2, hv2, h⟩ := Option.bind_eq_some_iff.mp h
    refine q_getI C0 hw hv2 rfl in_9 (by decide) kw_874 dX9_faults_13 ?_
    exact w_X9_faults_b16 C0 hr hlocks v2 a0 S _ _ _ hw (lv_sub hl [] rfl) h
  · have h := (if_pos hc).symm.trans h
    refine lv_iload_n C0.hx C0.hb dX9_faults_8 rfl (lv_at hl 1 rfl) ?_
    refine lv_goto (tgt := 16) C0.hx C0.hb dX9_faults_9 (by decide) ?_
    exact w_X9_faults_b16 C0 hr hlocks x1 a0 S _ _ _ hw (lv_sub hl [] rfl) h
abbrev rm_X9_number : Room := { frames := 2, cells := 0, slots := 0, locals := 45 }
def f_X9_number_b95 (k36 : Nat → Int32 → Int32 → Int32 → Mem → Option (Int32 × Mem)) (a0 : Nat) (x1 : Int32) (x3 : Int32) (t0 : Int32) (S : Mem) : Option (Int32 × Mem) :=
    (gI 9 11 S a0).bind fun v17 =>
      (pI 9 11 S a0 (v17 + (1 : Int32))).bind fun S18 =>
      k36 a0 x1 x3 t0 S18
def f_X9_number_b126 (a0 : Nat) (x3 : Int32) (x4 : Int32) (S : Mem) : Option (Int32 × Mem) :=
    (ck 9 S a0).bind fun c9 =>
      (f_X9_faults a0 (2 : Int32) S).bind fun S10 =>
      (pI 9 11 S10 a0 x3).bind fun S11 =>
      some (x4, S11)
def f_X9_number_b110 (a0 : Nat) (x1 : Int32) (x3 : Int32) (x4 : Int32) (S : Mem) : Option (Int32 × Mem) :=
    (gI 9 11 S a0).bind fun v8 =>
      (if (3 : Int32) < (v8 - x3) then
      f_X9_number_b126 a0 x3 x4 S
      else
      (if x4 ≤ x1 then
      some (x4, S)
      else
      f_X9_number_b126 a0 x3 x4 S))
def f_X9_number_b36 : Nat → Nat → Int32 → Int32 → Int32 → Mem → Option (Int32 × Mem)
  | 0, _, _, _, _, _ => none
  | n + 1, a0, x1, x3, x4, S =>
    (gI 9 11 S a0).bind fun v6 =>
      (gI 9 10 S a0).bind fun v7 =>
      (if v7 ≤ v6 then
      f_X9_number_b110 a0 x1 x3 x4 S
      else
      (gR 9 9 S a0).bind fun r12 =>
      (gI 9 11 S a0).bind fun v13 =>
      (ldI S r12 v13).bind fun v14 =>
      (f_X9_isFigure v14).bind fun v15 =>
      (if v15 = (0 : Int32) then
      f_X9_number_b110 a0 x1 x3 x4 S
      else
      (gI 9 11 S a0).bind fun v16 =>
      (if (4 : Int32) ≤ (v16 - x3) then
      f_X9_number_b95 (fun a0 x1 x3 x4 S => f_X9_number_b36  n a0 x1 x3 x4 S) a0 x1 x3 x4 S
      else
      (gR 9 9 S a0).bind fun r19 =>
      (gI 9 11 S a0).bind fun v20 =>
      (ldI S r19 v20).bind fun v21 =>
      f_X9_number_b95 (fun a0 x1 x3 x4 S => f_X9_number_b36  n a0 x1 x3 x4 S) a0 x1 x3 ((((10 : Int32) * x4) + v21) - (48 : Int32)) S)))
def f_X9_number (a0 : Nat) (x1 : Int32) (S : Mem) : Option (Int32 × Mem) :=
    (gI 9 12 S a0).bind fun v1 =>
      (if v1 ≤ (0 : Int32) then
      (ck 9 S a0).bind fun c2 =>
      (f_X9_here a0 S).bind fun q3 =>
      (f_X9_isFigure q3.1).bind fun v4 =>
      (if v4 = (0 : Int32) then
      (ck 9 q3.2 a0).bind fun c22 =>
      (f_X9_faults a0 (1 : Int32) q3.2).bind fun S23 =>
      some ((0 : Int32), S23)
      else
      (gI 9 11 q3.2 a0).bind fun v5 =>
      f_X9_number_b36 FU a0 x1 v5 (0 : Int32) q3.2)
      else
      some ((0 : Int32), S))
set_option maxHeartbeats 4000000 in
set_option maxRecDepth 100000 in
theorem w_X9_number_b95 {p : Program} {l : Launch} {e : Env} {s : State} {m : MethodId} {args : Array Value} {below : List Frame} {meth : Method} {c : Code} {b0 : Nat} {D : va_G} {cy : Nat → ClassId} {q : (Int32 × Mem)} (C0 : Cx p m c cX9_number 5 s args RX9 D cy) (hr : meth.sig.returnType = some .int) (hlocks : meth.locks = false) (k36 : Nat → Int32 → Int32 → Int32 → Mem → Option (Int32 × Mem)) (hk36 : ∀ (a0 : Nat) (x1 : Int32) (x3 : Int32) (x4 : Int32) (S : Mem) (H : Heap) (locs : List Loc) (ls : Array Slot), Wd b0 D cy S s.heap H locs → lv_has ls 5 [(0, .ref (b0 + a0)), (1, .int x1), (3, .int x3), (4, .int x4)] → k36 a0 x1 x3 x4 S = some q → W p l e rm_X9_number s m args below meth c H locs 0 0 (MQ below (Qp b0 D cy (some (.int q.1)) q.2) args s 0 0 (fun q => b0 ≤ q)) (F0 m 36 ls [])) : ∀ (a0 : Nat) (x1 : Int32) (x3 : Int32) (t0 : Int32) (S : Mem) (H : Heap) (locs : List Loc) (ls : Array Slot), Wd b0 D cy S s.heap H locs → lv_has ls 5 [(0, .ref (b0 + a0)), (1, .int x1), (3, .int x3)] → f_X9_number_b95 k36 a0 x1 x3 t0 S = some q → W p l e rm_X9_number s m args below meth c H locs 0 0 (MQ below (Qp b0 D cy (some (.int q.1)) q.2) args s 0 0 (fun q => b0 ≤ q)) (F0 m 95 ls [.int t0]) := by
  intro a0 x1 x3 t0 S H locs ls hw hl h
  rw [f_X9_number_b95] at h
  refine lv_istore (lv' := [(4, .int t0), (0, .ref (b0 + a0)), (1, .int x1), (3, .int x3)]) C0.hx C0.hb dX9_number_95 hl (by decide) rfl (fun ls hl => ?_)
  refine lv_aload_n C0.hx C0.hb dX9_number_97 rfl (lv_at hl 1 rfl) ?_
  refine lv_dup C0.hx C0.hb dX9_number_98 rfl ?_
  obtain ⟨v17, hv17, h⟩ := Option.bind_eq_some_iff.mp h
  refine q_getI C0 hw hv17 rfl in_9 (by decide) kw_873 dX9_number_99 ?_
  refine lv_iconst (v := (1 : Int32)) C0.hx C0.hb dX9_number_102 (by decide) ?_
  refine lv_iadd C0.hx C0.hb dX9_number_103 ?_
  obtain ⟨S18, hS18, h⟩ := Option.bind_eq_some_iff.mp h
  refine q_putI C0 hw hS18 rfl in_9 tyX9_ok nmX9 ⟨by decide, by decide, rfl, rfl⟩ rfl kw_873 dX9_number_104 (fun H locs hw => ?_)
  refine lv_goto (tgt := 36) C0.hx C0.hb dX9_number_107 (by decide) ?_
  exact hk36 a0 x1 x3 t0 S18 _ _ _ hw (lv_sub hl [1, 2, 3, 0] rfl) h
set_option maxHeartbeats 4000000 in
set_option maxRecDepth 100000 in
theorem w_X9_number_b126 {p : Program} {l : Launch} {e : Env} {s : State} {m : MethodId} {args : Array Value} {below : List Frame} {meth : Method} {c : Code} {b0 : Nat} {D : va_G} {cy : Nat → ClassId} {q : (Int32 × Mem)} (C0 : Cx p m c cX9_number 5 s args RX9 D cy) (hr : meth.sig.returnType = some .int) (hlocks : meth.locks = false) : ∀ (a0 : Nat) (x3 : Int32) (x4 : Int32) (S : Mem) (H : Heap) (locs : List Loc) (ls : Array Slot), Wd b0 D cy S s.heap H locs → lv_has ls 5 [(0, .ref (b0 + a0)), (3, .int x3), (4, .int x4)] → f_X9_number_b126  a0 x3 x4 S = some q → W p l e rm_X9_number s m args below meth c H locs 0 0 (MQ below (Qp b0 D cy (some (.int q.1)) q.2) args s 0 0 (fun q => b0 ≤ q)) (F0 m 126 ls []) := by
  intro a0 x3 x4 S H locs ls hw hl h
  rw [f_X9_number_b126] at h
  refine lv_aload_n C0.hx C0.hb dX9_number_126 rfl (lv_at hl 0 rfl) ?_
  refine lv_iconst (v := (2 : Int32)) C0.hx C0.hb dX9_number_127 (by decide) ?_
  obtain ⟨c9, hc9, h⟩ := Option.bind_eq_some_iff.mp h
  obtain ⟨S10, hS10, h⟩ := Option.bind_eq_some_iff.mp h
  refine q_callV (n := 1) (av := [.int (2 : Int32)]) (rest := []) (st1 := []) C0 hw (m_X9_faults l b0 D cy S a0 (2 : Int32) hS10) hc9 rfl (by decide) (goodV kw_972 kw_974 kw_27 kw_72 kw_975) ⟨rfl, rfl⟩ (by decide +kernel) ⟨(Nat.le_of_ble_eq_true rfl), (Nat.le_of_ble_eq_true rfl)⟩ rfl hl.1 rfl (Nat.le_of_ble_eq_true rfl) dX9_number_128 ⟨Nat.zero_le _, Nat.zero_le _⟩ rfl (fun H locs hw => ?_)
  refine lv_aload_n C0.hx C0.hb dX9_number_131 rfl (lv_at hl 0 rfl) ?_
  refine lv_iload_n C0.hx C0.hb dX9_number_132 rfl (lv_at hl 1 rfl) ?_
  obtain ⟨S11, hS11, h⟩ := Option.bind_eq_some_iff.mp h
  refine q_putI C0 hw hS11 rfl in_9 tyX9_ok nmX9 ⟨by decide, by decide, rfl, rfl⟩ rfl kw_873 dX9_number_133 (fun H locs hw => ?_)
  refine lv_iload C0.hx C0.hb dX9_number_136 (lv_at hl 2 rfl) ?_
  obtain rfl := Option.some.inj h
  exact q_reti C0 hw hr hlocks dX9_number_138
set_option maxHeartbeats 4000000 in
set_option maxRecDepth 100000 in
theorem w_X9_number_b110 {p : Program} {l : Launch} {e : Env} {s : State} {m : MethodId} {args : Array Value} {below : List Frame} {meth : Method} {c : Code} {b0 : Nat} {D : va_G} {cy : Nat → ClassId} {q : (Int32 × Mem)} (C0 : Cx p m c cX9_number 5 s args RX9 D cy) (hr : meth.sig.returnType = some .int) (hlocks : meth.locks = false) : ∀ (a0 : Nat) (x1 : Int32) (x3 : Int32) (x4 : Int32) (S : Mem) (H : Heap) (locs : List Loc) (ls : Array Slot), Wd b0 D cy S s.heap H locs → lv_has ls 5 [(0, .ref (b0 + a0)), (1, .int x1), (3, .int x3), (4, .int x4)] → f_X9_number_b110  a0 x1 x3 x4 S = some q → W p l e rm_X9_number s m args below meth c H locs 0 0 (MQ below (Qp b0 D cy (some (.int q.1)) q.2) args s 0 0 (fun q => b0 ≤ q)) (F0 m 110 ls []) := by
  intro a0 x1 x3 x4 S H locs ls hw hl h
  rw [f_X9_number_b110] at h
  refine lv_aload_n C0.hx C0.hb dX9_number_110 rfl (lv_at hl 0 rfl) ?_
  obtain ⟨v8, hv8, h⟩ := Option.bind_eq_some_iff.mp h
  refine q_getI C0 hw hv8 rfl in_9 (by decide) kw_873 dX9_number_111 ?_
  refine lv_iload_n C0.hx C0.hb dX9_number_114 rfl (lv_at hl 2 rfl) ?_
  refine lv_isub C0.hx C0.hb dX9_number_115 ?_
  refine lv_iconst (v := (3 : Int32)) C0.hx C0.hb dX9_number_116 (by decide) ?_
  refine lv_icmp_gt (tgt := 126) C0.hx C0.hb dX9_number_117 (by decide) (fun hc => ?_) (fun hc => ?_)
  · have h := (if_pos hc).symm.trans h
    exact w_X9_number_b126 C0 hr hlocks a0 x3 x4 S _ _ _ hw (lv_sub hl [0, 2, 3] rfl) h
  · have h := (if_neg hc).symm.trans h
    refine lv_iload C0.hx C0.hb dX9_number_120 (lv_at hl 3 rfl) ?_
    refine lv_iload_n C0.hx C0.hb dX9_number_122 rfl (lv_at hl 1 rfl) ?_
    refine lv_icmp_le (tgt := 136) C0.hx C0.hb dX9_number_123 (by decide) (fun hc => ?_) (fun hc => ?_)
    · have h := (if_pos hc).symm.trans h
      refine lv_iload C0.hx C0.hb dX9_number_136 (lv_at hl 3 rfl) ?_
      obtain rfl := Option.some.inj h
      exact q_reti C0 hw hr hlocks dX9_number_138
    · have h := (if_neg hc).symm.trans h
      exact w_X9_number_b126 C0 hr hlocks a0 x3 x4 S _ _ _ hw (lv_sub hl [0, 2, 3] rfl) h
set_option maxHeartbeats 4000000 in
set_option maxRecDepth 100000 in
theorem w_X9_number_b36 {p : Program} {l : Launch} {e : Env} {s : State} {m : MethodId} {args : Array Value} {below : List Frame} {meth : Method} {c : Code} {b0 : Nat} {D : va_G} {cy : Nat → ClassId} {q : (Int32 × Mem)} (C0 : Cx p m c cX9_number 5 s args RX9 D cy) (hr : meth.sig.returnType = some .int) (hlocks : meth.locks = false) : ∀ (n : Nat) (a0 : Nat) (x1 : Int32) (x3 : Int32) (x4 : Int32) (S : Mem) (H : Heap) (locs : List Loc) (ls : Array Slot), Wd b0 D cy S s.heap H locs → lv_has ls 5 [(0, .ref (b0 + a0)), (1, .int x1), (3, .int x3), (4, .int x4)] → f_X9_number_b36  n a0 x1 x3 x4 S = some q → W p l e rm_X9_number s m args below meth c H locs 0 0 (MQ below (Qp b0 D cy (some (.int q.1)) q.2) args s 0 0 (fun q => b0 ≤ q)) (F0 m 36 ls []) := by
  intro n
  induction n with
  | zero => intro a0 x1 x3 x4 S H locs ls hw hl h; exact absurd h (by simp [f_X9_number_b36])
  | succ n ih =>
    intro a0 x1 x3 x4 S H locs ls hw hl h
    rw [f_X9_number_b36] at h
    refine lv_aload_n C0.hx C0.hb dX9_number_36 rfl (lv_at hl 0 rfl) ?_
    obtain ⟨v6, hv6, h⟩ := Option.bind_eq_some_iff.mp h
    refine q_getI C0 hw hv6 rfl in_9 (by decide) kw_873 dX9_number_37 ?_
    refine lv_aload_n C0.hx C0.hb dX9_number_40 rfl (lv_at hl 0 rfl) ?_
    obtain ⟨v7, hv7, h⟩ := Option.bind_eq_some_iff.mp h
    refine q_getI C0 hw hv7 rfl in_9 (by decide) kw_872 dX9_number_41 ?_
    refine lv_icmp_ge (tgt := 110) C0.hx C0.hb dX9_number_44 (by decide) (fun hc => ?_) (fun hc => ?_)
    · have h := (if_pos hc).symm.trans h
      exact w_X9_number_b110 C0 hr hlocks a0 x1 x3 x4 S _ _ _ hw (lv_sub hl [0, 1, 2, 3] rfl) h
    · have h := (if_neg hc).symm.trans h
      refine lv_aload_n C0.hx C0.hb dX9_number_47 rfl (lv_at hl 0 rfl) ?_
      obtain ⟨r12, hr12, h⟩ := Option.bind_eq_some_iff.mp h
      refine q_getR C0 hw hr12 rfl in_9 (by decide) kw_871 dX9_number_48 ?_
      refine lv_aload_n C0.hx C0.hb dX9_number_51 rfl (lv_at hl 0 rfl) ?_
      obtain ⟨v13, hv13, h⟩ := Option.bind_eq_some_iff.mp h
      refine q_getI C0 hw hv13 rfl in_9 (by decide) kw_873 dX9_number_52 ?_
      obtain ⟨v14, hv14, h⟩ := Option.bind_eq_some_iff.mp h
      refine q_ldI C0 hw hv14 dX9_number_55 ?_
      obtain ⟨v15, hv15, h⟩ := Option.bind_eq_some_iff.mp h
      refine q_callS (n := 1) (av := [.int v14]) (rest := []) (st1 := [.int v15]) C0 hw (m_X9_isFigure l b0 D cy S v14 hv15) (goodS kw_980 kw_981 kw_72 kw_982) ⟨rfl, rfl⟩ (by decide +kernel) ⟨(Nat.le_of_ble_eq_true rfl), (Nat.le_of_ble_eq_true rfl)⟩ rfl hl.1 rfl (Nat.le_of_ble_eq_true rfl) dX9_number_56 ⟨Nat.zero_le _, Nat.zero_le _⟩ rfl (fun H locs hw => ?_)
      refine lv_if_eq (tgt := 110) C0.hx C0.hb dX9_number_59 (by decide) (fun hc => ?_) (fun hc => ?_)
      · have h := (if_pos hc).symm.trans h
        exact w_X9_number_b110 C0 hr hlocks a0 x1 x3 x4 S _ _ _ hw (lv_sub hl [0, 1, 2, 3] rfl) h
      · have h := (if_neg hc).symm.trans h
        refine lv_aload_n C0.hx C0.hb dX9_number_62 rfl (lv_at hl 0 rfl) ?_
        obtain ⟨v16, hv16, h⟩ := Option.bind_eq_some_iff.mp h
        refine q_getI C0 hw hv16 rfl in_9 (by decide) kw_873 dX9_number_63 ?_
        refine lv_iload_n C0.hx C0.hb dX9_number_66 rfl (lv_at hl 2 rfl) ?_
        refine lv_isub C0.hx C0.hb dX9_number_67 ?_
        refine lv_iconst (v := (4 : Int32)) C0.hx C0.hb dX9_number_68 (by decide) ?_
        refine lv_icmp_ge (tgt := 93) C0.hx C0.hb dX9_number_69 (by decide) (fun hc => ?_) (fun hc => ?_)
        · have h := (if_pos hc).symm.trans h
          refine lv_iload C0.hx C0.hb dX9_number_93 (lv_at hl 3 rfl) ?_
          exact w_X9_number_b95 C0 hr hlocks (fun a0 x1 x3 x4 S => f_X9_number_b36  n a0 x1 x3 x4 S) ih a0 x1 x3 x4 S _ _ _ hw (lv_sub hl [0, 1, 2] rfl) h
        · have h := (if_neg hc).symm.trans h
          refine lv_bipush (v := (10 : Int32)) C0.hx C0.hb dX9_number_72 (by decide) ?_
          refine lv_iload C0.hx C0.hb dX9_number_74 (lv_at hl 3 rfl) ?_
          refine lv_imul C0.hx C0.hb dX9_number_76 ?_
          refine lv_aload_n C0.hx C0.hb dX9_number_77 rfl (lv_at hl 0 rfl) ?_
          obtain ⟨r19, hr19, h⟩ := Option.bind_eq_some_iff.mp h
          refine q_getR C0 hw hr19 rfl in_9 (by decide) kw_871 dX9_number_78 ?_
          refine lv_aload_n C0.hx C0.hb dX9_number_81 rfl (lv_at hl 0 rfl) ?_
          obtain ⟨v20, hv20, h⟩ := Option.bind_eq_some_iff.mp h
          refine q_getI C0 hw hv20 rfl in_9 (by decide) kw_873 dX9_number_82 ?_
          obtain ⟨v21, hv21, h⟩ := Option.bind_eq_some_iff.mp h
          refine q_ldI C0 hw hv21 dX9_number_85 ?_
          refine lv_iadd C0.hx C0.hb dX9_number_86 ?_
          refine lv_bipush (v := (48 : Int32)) C0.hx C0.hb dX9_number_87 (by decide) ?_
          refine lv_isub C0.hx C0.hb dX9_number_89 ?_
          refine lv_goto (tgt := 95) C0.hx C0.hb dX9_number_90 (by decide) ?_
          exact w_X9_number_b95 C0 hr hlocks (fun a0 x1 x3 x4 S => f_X9_number_b36  n a0 x1 x3 x4 S) ih a0 x1 x3 ((((10 : Int32) * x4) + v21) - (48 : Int32)) S _ _ _ hw (lv_sub hl [0, 1, 2] rfl) h
set_option maxHeartbeats 4000000 in
set_option maxRecDepth 100000 in
theorem m_X9_number (l : Launch) (b0 : Nat) (D : va_G) (cy : Nat → ClassId) (S : Mem) (a0 : Nat) (x1 : Int32) {q : (Int32 × Mem)} (h : f_X9_number a0 x1 S = some q) : Met l yX9_number [.code yX9_number cX9_number 5 (some .int)] rm_X9_number (Pr b0 D cy S [.ref (b0 + a0), .int x1]) (Qp b0 D cy (some (.int q.1)) q.2) 0 0 (fun q => b0 ≤ q) := by
  refine Met.ofW (cc := cX9_number) (maxL := 5) (ret := some .int) (by decide) rfl ?_
  intro p e s m args below meth c s₁ B hml hv
  obtain ⟨rfl, hP, hK, hT⟩ := hv
  have C0 : Cx p m c cX9_number 5 s (List.toArray [.ref (b0 + a0), .int x1]) RX9 D cy := ⟨⟨B.exec, B.bytes, hml, findClass_of_methodNamed B.named, fun w h => hT w h _⟩, hK, hT⟩
  have hr : meth.sig.returnType = some .int := B.returns
  have hlocks := B.notSynchronized
  have hw : Wd b0 D cy S s.heap s.heap [] := ⟨hP, va_S.rf⟩
  have hl := lv_entry ([.ref (b0 + a0), .int x1]) (n := 5) (Nat.le_of_ble_eq_true rfl)
  rw [lg_entry_eq]
  generalize (lg_sl ([.ref (b0 + a0), .int x1]) ++ List.replicate (5 - (lg_sl ([.ref (b0 + a0), .int x1])).length) Slot.unset).toArray = ls at hl ⊢
  have hl : lv_has ls 5 [(0, .ref (b0 + a0)), (1, .int x1)] := hl
  rw [f_X9_number] at h
  show W p l e rm_X9_number s m _ below meth c s.heap [] 0 0 _ _
  refine lv_aload_n C0.hx C0.hb dX9_number_0 rfl (lv_at hl 0 rfl) ?_
  obtain ⟨v1, hv1, h⟩ := Option.bind_eq_some_iff.mp h
  refine q_getI C0 hw hv1 rfl in_9 (by decide) kw_874 dX9_number_1 ?_
  refine lv_if_le (tgt := 9) C0.hx C0.hb dX9_number_4 (by decide) (fun hc => ?_) (fun hc => ?_)
  · have h := (if_pos hc).symm.trans h
    refine lv_aload_n C0.hx C0.hb dX9_number_9 rfl (lv_at hl 0 rfl) ?_
    obtain ⟨c2, hc2, h⟩ := Option.bind_eq_some_iff.mp h
    obtain ⟨q3, hq3, h⟩ := Option.bind_eq_some_iff.mp h
    refine q_callV (n := 0) (av := []) (rest := []) (st1 := [.int q3.1]) C0 hw (m_X9_here l b0 D cy S a0 hq3) hc2 rfl (by decide) (goodV kw_960 kw_962 kw_24 kw_72 kw_963) ⟨rfl, rfl⟩ (by decide +kernel) ⟨(Nat.le_of_ble_eq_true rfl), (Nat.le_of_ble_eq_true rfl)⟩ rfl hl.1 rfl (Nat.le_of_ble_eq_true rfl) dX9_number_10 ⟨Nat.zero_le _, Nat.zero_le _⟩ rfl (fun H locs hw => ?_)
    refine lv_istore_n (lv' := [(2, .int q3.1), (0, .ref (b0 + a0)), (1, .int x1)]) C0.hx C0.hb dX9_number_13 rfl hl (by decide) rfl (fun ls hl => ?_)
    refine lv_iload_n C0.hx C0.hb dX9_number_14 rfl (lv_at hl 0 rfl) ?_
    obtain ⟨v4, hv4, h⟩ := Option.bind_eq_some_iff.mp h
    refine q_callS (n := 1) (av := [.int q3.1]) (rest := []) (st1 := [.int v4]) C0 hw (m_X9_isFigure l b0 D cy q3.2 q3.1 hv4) (goodS kw_980 kw_981 kw_72 kw_982) ⟨rfl, rfl⟩ (by decide +kernel) ⟨(Nat.le_of_ble_eq_true rfl), (Nat.le_of_ble_eq_true rfl)⟩ rfl hl.1 rfl (Nat.le_of_ble_eq_true rfl) dX9_number_15 ⟨Nat.zero_le _, Nat.zero_le _⟩ rfl (fun H locs hw => ?_)
    refine lv_if_ne (tgt := 28) C0.hx C0.hb dX9_number_18 (by decide) (fun hc => ?_) (fun hc => ?_)
    · have h := (if_neg hc).symm.trans h
      refine lv_aload_n C0.hx C0.hb dX9_number_28 rfl (lv_at hl 1 rfl) ?_
      obtain ⟨v5, hv5, h⟩ := Option.bind_eq_some_iff.mp h
      refine q_getI C0 hw hv5 rfl in_9 (by decide) kw_873 dX9_number_29 ?_
      refine lv_istore_n (lv' := [(3, .int v5), (2, .int q3.1), (0, .ref (b0 + a0)), (1, .int x1)]) C0.hx C0.hb dX9_number_32 rfl hl (by decide) rfl (fun ls hl => ?_)
      refine lv_iconst (v := (0 : Int32)) C0.hx C0.hb dX9_number_33 (by decide) ?_
      refine lv_istore (lv' := [(4, .int (0 : Int32)), (3, .int v5), (2, .int q3.1), (0, .ref (b0 + a0)), (1, .int x1)]) C0.hx C0.hb dX9_number_34 hl (by decide) rfl (fun ls hl => ?_)
      exact w_X9_number_b36 C0 hr hlocks FU a0 x1 v5 (0 : Int32) q3.2 _ _ _ hw (lv_sub hl [3, 4, 1, 0] rfl) h
    · have h := (if_pos hc).symm.trans h
      refine lv_aload_n C0.hx C0.hb dX9_number_21 rfl (lv_at hl 1 rfl) ?_
      refine lv_iconst (v := (1 : Int32)) C0.hx C0.hb dX9_number_22 (by decide) ?_
      obtain ⟨c22, hc22, h⟩ := Option.bind_eq_some_iff.mp h
      obtain ⟨S23, hS23, h⟩ := Option.bind_eq_some_iff.mp h
      refine q_callV (n := 1) (av := [.int (1 : Int32)]) (rest := []) (st1 := []) C0 hw (m_X9_faults l b0 D cy q3.2 a0 (1 : Int32) hS23) hc22 rfl (by decide) (goodV kw_972 kw_974 kw_27 kw_72 kw_975) ⟨rfl, rfl⟩ (by decide +kernel) ⟨(Nat.le_of_ble_eq_true rfl), (Nat.le_of_ble_eq_true rfl)⟩ rfl hl.1 rfl (Nat.le_of_ble_eq_true rfl) dX9_number_23 ⟨Nat.zero_le _, Nat.zero_le _⟩ rfl (fun H locs hw => ?_)
      refine lv_iconst (v := (0 : Int32)) C0.hx C0.hb dX9_number_26 (by decide) ?_
      obtain rfl := Option.some.inj h
      exact q_reti C0 hw hr hlocks dX9_number_27
  · have h := (if_neg hc).symm.trans h
    refine lv_iconst (v := (0 : Int32)) C0.hx C0.hb dX9_number_7 (by decide) ?_
    obtain rfl := Option.some.inj h
    exact q_reti C0 hw hr hlocks dX9_number_8
abbrev rm_X9_ends : Room := { frames := 1, cells := 0, slots := 0, locals := 21 }
def f_X9_ends_b38 (t0 : Int32) (t1 : Int32) (t2 : Nat) (S : Mem) : Option Mem :=
    (pI 9 11 S t2 (t1 + t0)).bind fun S4 =>
      some S4
def f_X9_ends_b21 (a0 : Nat) (S : Mem) : Option Mem :=
    (gI 9 11 S a0).bind fun v2 =>
      (gI 9 12 S a0).bind fun v3 =>
      (if v3 = (0 : Int32) then
      f_X9_ends_b38 (1 : Int32) v2 a0 S
      else
      f_X9_ends_b38 (0 : Int32) v2 a0 S)
def f_X9_ends (a0 : Nat) (S : Mem) : Option Mem :=
    (gI 9 12 S a0).bind fun v1 =>
      (if v1 = (0 : Int32) then
      (ck 9 S a0).bind fun c5 =>
      (f_X9_here a0 S).bind fun q6 =>
      (if q6.1 = (59 : Int32) then
      f_X9_ends_b21 a0 q6.2
      else
      (ck 9 q6.2 a0).bind fun c7 =>
      (f_X9_faults a0 (1 : Int32) q6.2).bind fun S8 =>
      f_X9_ends_b21 a0 S8)
      else
      f_X9_ends_b21 a0 S)
set_option maxHeartbeats 4000000 in
set_option maxRecDepth 100000 in
theorem w_X9_ends_b38 {p : Program} {l : Launch} {e : Env} {s : State} {m : MethodId} {args : Array Value} {below : List Frame} {meth : Method} {c : Code} {b0 : Nat} {D : va_G} {cy : Nat → ClassId} {q : Mem} (C0 : Cx p m c cX9_ends 1 s args RX9 D cy) (hr : meth.sig.returnType = none) (hlocks : meth.locks = false) : ∀ (t0 : Int32) (t1 : Int32) (t2 : Nat) (S : Mem) (H : Heap) (locs : List Loc) (ls : Array Slot), Wd b0 D cy S s.heap H locs → lv_has ls 1 [] → f_X9_ends_b38  t0 t1 t2 S = some q → W p l e rm_X9_ends s m args below meth c H locs 0 0 (MQ below (Qp b0 D cy none q) args s 0 0 (fun q => b0 ≤ q)) (F0 m 38 ls [.int t0, .int t1, .ref (b0 + t2)]) := by
  intro t0 t1 t2 S H locs ls hw hl h
  rw [f_X9_ends_b38] at h
  refine lv_iadd C0.hx C0.hb dX9_ends_38 ?_
  obtain ⟨S4, hS4, h⟩ := Option.bind_eq_some_iff.mp h
  refine q_putI C0 hw hS4 rfl in_9 tyX9_ok nmX9 ⟨by decide, by decide, rfl, rfl⟩ rfl kw_873 dX9_ends_39 (fun H locs hw => ?_)
  obtain rfl := Option.some.inj h
  exact q_retv C0 hw hr hlocks dX9_ends_42
set_option maxHeartbeats 4000000 in
set_option maxRecDepth 100000 in
theorem w_X9_ends_b21 {p : Program} {l : Launch} {e : Env} {s : State} {m : MethodId} {args : Array Value} {below : List Frame} {meth : Method} {c : Code} {b0 : Nat} {D : va_G} {cy : Nat → ClassId} {q : Mem} (C0 : Cx p m c cX9_ends 1 s args RX9 D cy) (hr : meth.sig.returnType = none) (hlocks : meth.locks = false) : ∀ (a0 : Nat) (S : Mem) (H : Heap) (locs : List Loc) (ls : Array Slot), Wd b0 D cy S s.heap H locs → lv_has ls 1 [(0, .ref (b0 + a0))] → f_X9_ends_b21  a0 S = some q → W p l e rm_X9_ends s m args below meth c H locs 0 0 (MQ below (Qp b0 D cy none q) args s 0 0 (fun q => b0 ≤ q)) (F0 m 21 ls []) := by
  intro a0 S H locs ls hw hl h
  rw [f_X9_ends_b21] at h
  refine lv_aload_n C0.hx C0.hb dX9_ends_21 rfl (lv_at hl 0 rfl) ?_
  refine lv_dup C0.hx C0.hb dX9_ends_22 rfl ?_
  obtain ⟨v2, hv2, h⟩ := Option.bind_eq_some_iff.mp h
  refine q_getI C0 hw hv2 rfl in_9 (by decide) kw_873 dX9_ends_23 ?_
  refine lv_aload_n C0.hx C0.hb dX9_ends_26 rfl (lv_at hl 0 rfl) ?_
  obtain ⟨v3, hv3, h⟩ := Option.bind_eq_some_iff.mp h
  refine q_getI C0 hw hv3 rfl in_9 (by decide) kw_874 dX9_ends_27 ?_
  refine lv_if_ne (tgt := 37) C0.hx C0.hb dX9_ends_30 (by decide) (fun hc => ?_) (fun hc => ?_)
  · have h := (if_neg hc).symm.trans h
    refine lv_iconst (v := (0 : Int32)) C0.hx C0.hb dX9_ends_37 (by decide) ?_
    exact w_X9_ends_b38 C0 hr hlocks (0 : Int32) v2 a0 S _ _ _ hw (lv_sub hl [] rfl) h
  · have h := (if_pos hc).symm.trans h
    refine lv_iconst (v := (1 : Int32)) C0.hx C0.hb dX9_ends_33 (by decide) ?_
    refine lv_goto (tgt := 38) C0.hx C0.hb dX9_ends_34 (by decide) ?_
    exact w_X9_ends_b38 C0 hr hlocks (1 : Int32) v2 a0 S _ _ _ hw (lv_sub hl [] rfl) h
set_option maxHeartbeats 4000000 in
set_option maxRecDepth 100000 in
theorem m_X9_ends (l : Launch) (b0 : Nat) (D : va_G) (cy : Nat → ClassId) (S : Mem) (a0 : Nat) {q : Mem} (h : f_X9_ends a0 S = some q) : Met l yX9_ends [.code yX9_ends cX9_ends 1 (none)] rm_X9_ends (Pr b0 D cy S [.ref (b0 + a0)]) (Qp b0 D cy none q) 0 0 (fun q => b0 ≤ q) := by
  refine Met.ofW (cc := cX9_ends) (maxL := 1) (ret := none) (by decide) rfl ?_
  intro p e s m args below meth c s₁ B hml hv
  obtain ⟨rfl, hP, hK, hT⟩ := hv
  have C0 : Cx p m c cX9_ends 1 s (List.toArray [.ref (b0 + a0)]) RX9 D cy := ⟨⟨B.exec, B.bytes, hml, findClass_of_methodNamed B.named, fun w h => hT w h _⟩, hK, hT⟩
  have hr : meth.sig.returnType = none := B.returns
  have hlocks := B.notSynchronized
  have hw : Wd b0 D cy S s.heap s.heap [] := ⟨hP, va_S.rf⟩
  have hl := lv_entry ([.ref (b0 + a0)]) (n := 1) (Nat.le_of_ble_eq_true rfl)
  rw [lg_entry_eq]
  generalize (lg_sl ([.ref (b0 + a0)]) ++ List.replicate (1 - (lg_sl ([.ref (b0 + a0)])).length) Slot.unset).toArray = ls at hl ⊢
  have hl : lv_has ls 1 [(0, .ref (b0 + a0))] := hl
  rw [f_X9_ends] at h
  show W p l e rm_X9_ends s m _ below meth c s.heap [] 0 0 _ _
  refine lv_aload_n C0.hx C0.hb dX9_ends_0 rfl (lv_at hl 0 rfl) ?_
  obtain ⟨v1, hv1, h⟩ := Option.bind_eq_some_iff.mp h
  refine q_getI C0 hw hv1 rfl in_9 (by decide) kw_874 dX9_ends_1 ?_
  refine lv_if_ne (tgt := 21) C0.hx C0.hb dX9_ends_4 (by decide) (fun hc => ?_) (fun hc => ?_)
  · have h := (if_neg hc).symm.trans h
    exact w_X9_ends_b21 C0 hr hlocks a0 S _ _ _ hw (lv_sub hl [0] rfl) h
  · have h := (if_pos hc).symm.trans h
    refine lv_aload_n C0.hx C0.hb dX9_ends_7 rfl (lv_at hl 0 rfl) ?_
    obtain ⟨c5, hc5, h⟩ := Option.bind_eq_some_iff.mp h
    obtain ⟨q6, hq6, h⟩ := Option.bind_eq_some_iff.mp h
    refine q_callV (n := 0) (av := []) (rest := []) (st1 := [.int q6.1]) C0 hw (m_X9_here l b0 D cy S a0 hq6) hc5 rfl (by decide) (goodV kw_960 kw_962 kw_24 kw_72 kw_963) ⟨rfl, rfl⟩ (by decide +kernel) ⟨(Nat.le_of_ble_eq_true rfl), (Nat.le_of_ble_eq_true rfl)⟩ rfl hl.1 rfl (Nat.le_of_ble_eq_true rfl) dX9_ends_8 ⟨Nat.zero_le _, Nat.zero_le _⟩ rfl (fun H locs hw => ?_)
    refine lv_bipush (v := (59 : Int32)) C0.hx C0.hb dX9_ends_11 (by decide) ?_
    refine lv_icmp_eq (tgt := 21) C0.hx C0.hb dX9_ends_13 (by decide) (fun hc => ?_) (fun hc => ?_)
    · have h := (if_pos hc).symm.trans h
      exact w_X9_ends_b21 C0 hr hlocks a0 q6.2 _ _ _ hw (lv_sub hl [0] rfl) h
    · have h := (if_neg hc).symm.trans h
      refine lv_aload_n C0.hx C0.hb dX9_ends_16 rfl (lv_at hl 0 rfl) ?_
      refine lv_iconst (v := (1 : Int32)) C0.hx C0.hb dX9_ends_17 (by decide) ?_
      obtain ⟨c7, hc7, h⟩ := Option.bind_eq_some_iff.mp h
      obtain ⟨S8, hS8, h⟩ := Option.bind_eq_some_iff.mp h
      refine q_callV (n := 1) (av := [.int (1 : Int32)]) (rest := []) (st1 := []) C0 hw (m_X9_faults l b0 D cy q6.2 a0 (1 : Int32) hS8) hc7 rfl (by decide) (goodV kw_972 kw_974 kw_27 kw_72 kw_975) ⟨rfl, rfl⟩ (by decide +kernel) ⟨(Nat.le_of_ble_eq_true rfl), (Nat.le_of_ble_eq_true rfl)⟩ rfl hl.1 rfl (Nat.le_of_ble_eq_true rfl) dX9_ends_18 ⟨Nat.zero_le _, Nat.zero_le _⟩ rfl (fun H locs hw => ?_)
      exact w_X9_ends_b21 C0 hr hlocks a0 S8 _ _ _ hw (lv_sub hl [0] rfl) h
abbrev rm_X9_readRule : Room := { frames := 3, cells := 0, slots := 0, locals := 69 }
def f_X9_readRule (a0 : Nat) (S : Mem) : Option Mem :=
    (gR 9 14 S a0).bind fun r1 =>
      (ldI S r1 (0 : Int32)).bind fun v2 =>
      (if v2 = (-1 : Int32) then
      (gI 9 11 S a0).bind fun v3 =>
      (pI 9 11 S a0 (v3 + (1 : Int32))).bind fun S4 =>
      (ck 9 S4 a0).bind fun c5 =>
      (f_X9_number a0 (63 : Int32) S4).bind fun q6 =>
      (ck 9 q6.2 a0).bind fun c7 =>
      (f_X9_ends a0 q6.2).bind fun S8 =>
      (gR 9 14 S8 a0).bind fun r9 =>
      (stI S8 r9 (0 : Int32) q6.1).bind fun S10 =>
      some S10
      else
      (ck 9 S a0).bind fun c11 =>
      (f_X9_faults a0 (3 : Int32) S).bind fun S12 =>
      some S12)
set_option maxHeartbeats 4000000 in
set_option maxRecDepth 100000 in
theorem m_X9_readRule (l : Launch) (b0 : Nat) (D : va_G) (cy : Nat → ClassId) (S : Mem) (a0 : Nat) {q : Mem} (h : f_X9_readRule a0 S = some q) : Met l yX9_readRule [.code yX9_readRule cX9_readRule 2 (none)] rm_X9_readRule (Pr b0 D cy S [.ref (b0 + a0)]) (Qp b0 D cy none q) 0 0 (fun q => b0 ≤ q) := by
  refine Met.ofW (cc := cX9_readRule) (maxL := 2) (ret := none) (by decide) rfl ?_
  intro p e s m args below meth c s₁ B hml hv
  obtain ⟨rfl, hP, hK, hT⟩ := hv
  have C0 : Cx p m c cX9_readRule 2 s (List.toArray [.ref (b0 + a0)]) RX9 D cy := ⟨⟨B.exec, B.bytes, hml, findClass_of_methodNamed B.named, fun w h => hT w h _⟩, hK, hT⟩
  have hr : meth.sig.returnType = none := B.returns
  have hlocks := B.notSynchronized
  have hw : Wd b0 D cy S s.heap s.heap [] := ⟨hP, va_S.rf⟩
  have hl := lv_entry ([.ref (b0 + a0)]) (n := 2) (Nat.le_of_ble_eq_true rfl)
  rw [lg_entry_eq]
  generalize (lg_sl ([.ref (b0 + a0)]) ++ List.replicate (2 - (lg_sl ([.ref (b0 + a0)])).length) Slot.unset).toArray = ls at hl ⊢
  have hl : lv_has ls 2 [(0, .ref (b0 + a0))] := hl
  rw [f_X9_readRule] at h
  show W p l e rm_X9_readRule s m _ below meth c s.heap [] 0 0 _ _
  refine lv_aload_n C0.hx C0.hb dX9_readRule_0 rfl (lv_at hl 0 rfl) ?_
  obtain ⟨r1, hr1, h⟩ := Option.bind_eq_some_iff.mp h
  refine q_getR C0 hw hr1 rfl in_9 (by decide) kw_876 dX9_readRule_1 ?_
  refine lv_iconst (v := (0 : Int32)) C0.hx C0.hb dX9_readRule_4 (by decide) ?_
  obtain ⟨v2, hv2, h⟩ := Option.bind_eq_some_iff.mp h
  refine q_ldI C0 hw hv2 dX9_readRule_5 ?_
  refine lv_iconst (v := (-1 : Int32)) C0.hx C0.hb dX9_readRule_6 (by decide) ?_
  refine lv_icmp_eq (tgt := 16) C0.hx C0.hb dX9_readRule_7 (by decide) (fun hc => ?_) (fun hc => ?_)
  · have h := (if_pos hc).symm.trans h
    refine lv_aload_n C0.hx C0.hb dX9_readRule_16 rfl (lv_at hl 0 rfl) ?_
    refine lv_dup C0.hx C0.hb dX9_readRule_17 rfl ?_
    obtain ⟨v3, hv3, h⟩ := Option.bind_eq_some_iff.mp h
    refine q_getI C0 hw hv3 rfl in_9 (by decide) kw_873 dX9_readRule_18 ?_
    refine lv_iconst (v := (1 : Int32)) C0.hx C0.hb dX9_readRule_21 (by decide) ?_
    refine lv_iadd C0.hx C0.hb dX9_readRule_22 ?_
    obtain ⟨S4, hS4, h⟩ := Option.bind_eq_some_iff.mp h
    refine q_putI C0 hw hS4 rfl in_9 tyX9_ok nmX9 ⟨by decide, by decide, rfl, rfl⟩ rfl kw_873 dX9_readRule_23 (fun H locs hw => ?_)
    refine lv_aload_n C0.hx C0.hb dX9_readRule_26 rfl (lv_at hl 0 rfl) ?_
    refine lv_bipush (v := (63 : Int32)) C0.hx C0.hb dX9_readRule_27 (by decide) ?_
    obtain ⟨c5, hc5, h⟩ := Option.bind_eq_some_iff.mp h
    obtain ⟨q6, hq6, h⟩ := Option.bind_eq_some_iff.mp h
    refine q_callV (n := 1) (av := [.int (63 : Int32)]) (rest := []) (st1 := [.int q6.1]) C0 hw (m_X9_number l b0 D cy S4 a0 (63 : Int32) hq6) hc5 rfl (by decide) (goodV kw_976 kw_978 kw_28 kw_72 kw_979) ⟨rfl, rfl⟩ (by decide +kernel) ⟨(Nat.le_of_ble_eq_true rfl), (Nat.le_of_ble_eq_true rfl)⟩ rfl hl.1 rfl (Nat.le_of_ble_eq_true rfl) dX9_readRule_29 ⟨Nat.zero_le _, Nat.zero_le _⟩ rfl (fun H locs hw => ?_)
    refine lv_istore_n (lv' := [(1, .int q6.1), (0, .ref (b0 + a0))]) C0.hx C0.hb dX9_readRule_32 rfl hl (by decide) rfl (fun ls hl => ?_)
    refine lv_aload_n C0.hx C0.hb dX9_readRule_33 rfl (lv_at hl 1 rfl) ?_
    obtain ⟨c7, hc7, h⟩ := Option.bind_eq_some_iff.mp h
    obtain ⟨S8, hS8, h⟩ := Option.bind_eq_some_iff.mp h
    refine q_callV (n := 0) (av := []) (rest := []) (st1 := []) C0 hw (m_X9_ends l b0 D cy q6.2 a0 hS8) hc7 rfl (by decide) (goodV kw_985 kw_987 kw_29 kw_72 kw_988) ⟨rfl, rfl⟩ (by decide +kernel) ⟨(Nat.le_of_ble_eq_true rfl), (Nat.le_of_ble_eq_true rfl)⟩ rfl hl.1 rfl (Nat.le_of_ble_eq_true rfl) dX9_readRule_34 ⟨Nat.zero_le _, Nat.zero_le _⟩ rfl (fun H locs hw => ?_)
    refine lv_aload_n C0.hx C0.hb dX9_readRule_37 rfl (lv_at hl 1 rfl) ?_
    obtain ⟨r9, hr9, h⟩ := Option.bind_eq_some_iff.mp h
    refine q_getR C0 hw hr9 rfl in_9 (by decide) kw_876 dX9_readRule_38 ?_
    refine lv_iconst (v := (0 : Int32)) C0.hx C0.hb dX9_readRule_41 (by decide) ?_
    refine lv_iload_n C0.hx C0.hb dX9_readRule_42 rfl (lv_at hl 0 rfl) ?_
    obtain ⟨S10, hS10, h⟩ := Option.bind_eq_some_iff.mp h
    refine q_stI C0 hw hS10 dX9_readRule_43 (fun H locs hw => ?_)
    obtain rfl := Option.some.inj h
    exact q_retv C0 hw hr hlocks dX9_readRule_44
  · have h := (if_neg hc).symm.trans h
    refine lv_aload_n C0.hx C0.hb dX9_readRule_10 rfl (lv_at hl 0 rfl) ?_
    refine lv_iconst (v := (3 : Int32)) C0.hx C0.hb dX9_readRule_11 (by decide) ?_
    obtain ⟨c11, hc11, h⟩ := Option.bind_eq_some_iff.mp h
    obtain ⟨S12, hS12, h⟩ := Option.bind_eq_some_iff.mp h
    refine q_callV (n := 1) (av := [.int (3 : Int32)]) (rest := []) (st1 := []) C0 hw (m_X9_faults l b0 D cy S a0 (3 : Int32) hS12) hc11 rfl (by decide) (goodV kw_972 kw_974 kw_27 kw_72 kw_975) ⟨rfl, rfl⟩ (by decide +kernel) ⟨(Nat.le_of_ble_eq_true rfl), (Nat.le_of_ble_eq_true rfl)⟩ rfl hl.1 rfl (Nat.le_of_ble_eq_true rfl) dX9_readRule_12 ⟨Nat.zero_le _, Nat.zero_le _⟩ rfl (fun H locs hw => ?_)
    obtain rfl := Option.some.inj h
    exact q_retv C0 hw hr hlocks dX9_readRule_15
