abbrev rm_X9_ring : Room := { frames := 4, cells := 0, slots := 0, locals := 109 }
def f_X9_ring_b88 (k20 : Nat → Int32 → Int32 → Int32 → Mem → Option (Int32 × Mem)) (a0 : Nat) (x1 : Int32) (x3 : Int32) (t0 : Int32) (S : Mem) : Option (Int32 × Mem) :=
    k20 a0 x1 t0 x3 S
def f_X9_ring_b83 (k20 : Nat → Int32 → Int32 → Int32 → Mem → Option (Int32 × Mem)) (a0 : Nat) (x1 : Int32) (x3 : Int32) (S : Mem) : Option (Int32 × Mem) :=
    f_X9_ring_b88 k20 a0 x1 x3 (1 : Int32) S
def f_X9_ring_b62 (k20 : Nat → Int32 → Int32 → Int32 → Mem → Option (Int32 × Mem)) (a0 : Nat) (x1 : Int32) (x2 : Int32) (t0 : Int32) (S : Mem) : Option (Int32 × Mem) :=
    (if x2 = (0 : Int32) then
      (gR 9 7 S a0).bind fun r9 =>
      (ldJ S r9 (2 : Int32)).bind fun u10 =>
      (gR 9 17 S a0).bind fun r11 =>
      (ldJ S r11 (2 : Int32)).bind fun u12 =>
      (if (lg_cmp u10 u12) = (0 : Int32) then
      f_X9_ring_b88 k20 a0 x1 t0 (0 : Int32) S
      else
      f_X9_ring_b83 k20 a0 x1 t0 S)
      else
      f_X9_ring_b83 k20 a0 x1 t0 S)
def f_X9_ring_b61 (k20 : Nat → Int32 → Int32 → Int32 → Mem → Option (Int32 × Mem)) (a0 : Nat) (x1 : Int32) (x2 : Int32) (S : Mem) : Option (Int32 × Mem) :=
    f_X9_ring_b62 k20 a0 x1 x2 (0 : Int32) S
def f_X9_ring_b92 (a0 : Nat) (x1 : Int32) (x3 : Int32) (S : Mem) : Option (Int32 × Mem) :=
    (ck 9 S a0).bind fun c4 =>
      (f_X9_backs a0 S).bind fun S5 =>
      (if x3 = (0 : Int32) then
      some ((-1 : Int32), S5)
      else
      some (x1, S5))
def f_X9_ring_b20 : Nat → Nat → Int32 → Int32 → Int32 → Mem → Option (Int32 × Mem)
  | 0, _, _, _, _, _ => none
  | n + 1, a0, x1, x2, x3, S =>
    (if (100 : Int32) ≤ x1 then
      f_X9_ring_b92 a0 x1 x3 S
      else
      (if x3 = (0 : Int32) then
      (ck 9 S a0).bind fun c6 =>
      (f_X9_goesBy a0 S).bind fun S7 =>
      (some (x1 + (1 : Int32))).bind fun v8 =>
      (if x2 = (0 : Int32) then
      f_X9_ring_b61 (fun a0 x1 x2 x3 S => f_X9_ring_b20  n a0 x1 x2 x3 S) a0 v8 x2 S7
      else
      (gR 9 7 S7 a0).bind fun r13 =>
      (ldJ S7 r13 (2 : Int32)).bind fun u14 =>
      (gR 9 17 S7 a0).bind fun r15 =>
      (ldJ S7 r15 (2 : Int32)).bind fun u16 =>
      (if (lg_cmp u14 u16) = (0 : Int32) then
      f_X9_ring_b62 (fun a0 x1 x2 x3 S => f_X9_ring_b20  n a0 x1 x2 x3 S) a0 v8 x2 (1 : Int32) S7
      else
      f_X9_ring_b61 (fun a0 x1 x2 x3 S => f_X9_ring_b20  n a0 x1 x2 x3 S) a0 v8 x2 S7))
      else
      f_X9_ring_b92 a0 x1 x3 S))
def f_X9_ring (a0 : Nat) (S : Mem) : Option (Int32 × Mem) :=
    (gI 9 1 S a0).bind fun v1 =>
      (if v1 = (0 : Int32) then
      some ((-1000000003 : Int32), S)
      else
      (ck 9 S a0).bind fun c2 =>
      (f_X9_asides a0 S).bind fun S3 =>
      f_X9_ring_b20 FU a0 (0 : Int32) (0 : Int32) (0 : Int32) S3)
set_option maxHeartbeats 4000000 in
set_option maxRecDepth 100000 in
theorem w_X9_ring_b88 {p : Program} {l : Launch} {e : Env} {s : State} {m : MethodId} {args : Array Value} {below : List Frame} {meth : Method} {c : Code} {b0 : Nat} {D : va_G} {cy : Nat → ClassId} {q : (Int32 × Mem)} (C0 : Cx p m c cX9_ring 4 s args RX9 D cy) (hr : meth.sig.returnType = some .int) (hlocks : meth.locks = false) (k20 : Nat → Int32 → Int32 → Int32 → Mem → Option (Int32 × Mem)) (hk20 : ∀ (a0 : Nat) (x1 : Int32) (x2 : Int32) (x3 : Int32) (S : Mem) (H : Heap) (locs : List Loc) (ls : Array Slot), Wd b0 D cy S s.heap H locs → lv_has ls 4 [(0, .ref (b0 + a0)), (1, .int x1), (2, .int x2), (3, .int x3)] → k20 a0 x1 x2 x3 S = some q → W p l e rm_X9_ring s m args below meth c H locs 0 0 (MQ below (Qp b0 D cy (some (.int q.1)) q.2) args s 0 0 (fun q => b0 ≤ q)) (F0 m 20 ls [])) : ∀ (a0 : Nat) (x1 : Int32) (x3 : Int32) (t0 : Int32) (S : Mem) (H : Heap) (locs : List Loc) (ls : Array Slot), Wd b0 D cy S s.heap H locs → lv_has ls 4 [(0, .ref (b0 + a0)), (1, .int x1), (3, .int x3)] → f_X9_ring_b88 k20 a0 x1 x3 t0 S = some q → W p l e rm_X9_ring s m args below meth c H locs 0 0 (MQ below (Qp b0 D cy (some (.int q.1)) q.2) args s 0 0 (fun q => b0 ≤ q)) (F0 m 88 ls [.int t0]) := by
  intro a0 x1 x3 t0 S H locs ls hw hl h
  rw [f_X9_ring_b88] at h
  refine lv_istore_n (lv' := [(2, .int t0), (0, .ref (b0 + a0)), (1, .int x1), (3, .int x3)]) C0.hx C0.hb dX9_ring_88 rfl hl (by decide) rfl (fun ls hl => ?_)
  refine lv_goto (tgt := 20) C0.hx C0.hb dX9_ring_89 (by decide) ?_
  exact hk20 a0 x1 t0 x3 S _ _ _ hw (lv_sub hl [1, 2, 0, 3] rfl) h
set_option maxHeartbeats 4000000 in
set_option maxRecDepth 100000 in
theorem w_X9_ring_b83 {p : Program} {l : Launch} {e : Env} {s : State} {m : MethodId} {args : Array Value} {below : List Frame} {meth : Method} {c : Code} {b0 : Nat} {D : va_G} {cy : Nat → ClassId} {q : (Int32 × Mem)} (C0 : Cx p m c cX9_ring 4 s args RX9 D cy) (hr : meth.sig.returnType = some .int) (hlocks : meth.locks = false) (k20 : Nat → Int32 → Int32 → Int32 → Mem → Option (Int32 × Mem)) (hk20 : ∀ (a0 : Nat) (x1 : Int32) (x2 : Int32) (x3 : Int32) (S : Mem) (H : Heap) (locs : List Loc) (ls : Array Slot), Wd b0 D cy S s.heap H locs → lv_has ls 4 [(0, .ref (b0 + a0)), (1, .int x1), (2, .int x2), (3, .int x3)] → k20 a0 x1 x2 x3 S = some q → W p l e rm_X9_ring s m args below meth c H locs 0 0 (MQ below (Qp b0 D cy (some (.int q.1)) q.2) args s 0 0 (fun q => b0 ≤ q)) (F0 m 20 ls [])) : ∀ (a0 : Nat) (x1 : Int32) (x3 : Int32) (S : Mem) (H : Heap) (locs : List Loc) (ls : Array Slot), Wd b0 D cy S s.heap H locs → lv_has ls 4 [(0, .ref (b0 + a0)), (1, .int x1), (3, .int x3)] → f_X9_ring_b83 k20 a0 x1 x3 S = some q → W p l e rm_X9_ring s m args below meth c H locs 0 0 (MQ below (Qp b0 D cy (some (.int q.1)) q.2) args s 0 0 (fun q => b0 ≤ q)) (F0 m 83 ls []) := by
  intro a0 x1 x3 S H locs ls hw hl h
  rw [f_X9_ring_b83] at h
  refine lv_iconst (v := (1 : Int32)) C0.hx C0.hb dX9_ring_83 (by decide) ?_
  refine lv_goto (tgt := 88) C0.hx C0.hb dX9_ring_84 (by decide) ?_
  exact w_X9_ring_b88 C0 hr hlocks k20 hk20 a0 x1 x3 (1 : Int32) S _ _ _ hw (lv_sub hl [0, 1, 2] rfl) h
set_option maxHeartbeats 4000000 in
set_option maxRecDepth 100000 in
theorem w_X9_ring_b62 {p : Program} {l : Launch} {e : Env} {s : State} {m : MethodId} {args : Array Value} {below : List Frame} {meth : Method} {c : Code} {b0 : Nat} {D : va_G} {cy : Nat → ClassId} {q : (Int32 × Mem)} (C0 : Cx p m c cX9_ring 4 s args RX9 D cy) (hr : meth.sig.returnType = some .int) (hlocks : meth.locks = false) (k20 : Nat → Int32 → Int32 → Int32 → Mem → Option (Int32 × Mem)) (hk20 : ∀ (a0 : Nat) (x1 : Int32) (x2 : Int32) (x3 : Int32) (S : Mem) (H : Heap) (locs : List Loc) (ls : Array Slot), Wd b0 D cy S s.heap H locs → lv_has ls 4 [(0, .ref (b0 + a0)), (1, .int x1), (2, .int x2), (3, .int x3)] → k20 a0 x1 x2 x3 S = some q → W p l e rm_X9_ring s m args below meth c H locs 0 0 (MQ below (Qp b0 D cy (some (.int q.1)) q.2) args s 0 0 (fun q => b0 ≤ q)) (F0 m 20 ls [])) : ∀ (a0 : Nat) (x1 : Int32) (x2 : Int32) (t0 : Int32) (S : Mem) (H : Heap) (locs : List Loc) (ls : Array Slot), Wd b0 D cy S s.heap H locs → lv_has ls 4 [(0, .ref (b0 + a0)), (1, .int x1), (2, .int x2)] → f_X9_ring_b62 k20 a0 x1 x2 t0 S = some q → W p l e rm_X9_ring s m args below meth c H locs 0 0 (MQ below (Qp b0 D cy (some (.int q.1)) q.2) args s 0 0 (fun q => b0 ≤ q)) (F0 m 62 ls [.int t0]) := by
  intro a0 x1 x2 t0 S H locs ls hw hl h
  rw [f_X9_ring_b62] at h
  refine lv_istore_n (lv' := [(3, .int t0), (0, .ref (b0 + a0)), (1, .int x1), (2, .int x2)]) C0.hx C0.hb dX9_ring_62 rfl hl (by decide) rfl (fun ls hl => ?_)
  refine lv_iload_n C0.hx C0.hb dX9_ring_63 rfl (lv_at hl 3 rfl) ?_
  refine lv_if_ne (tgt := 83) C0.hx C0.hb dX9_ring_64 (by decide) (fun hc => ?_) (fun hc => ?_)
  · have h := (if_neg hc).symm.trans h
    exact w_X9_ring_b83 C0 hr hlocks k20 hk20 a0 x1 t0 S _ _ _ hw (lv_sub hl [1, 2, 0] rfl) h
  · have h := (if_pos hc).symm.trans h
    refine lv_aload_n C0.hx C0.hb dX9_ring_67 rfl (lv_at hl 1 rfl) ?_
    obtain ⟨r9, hr9, h⟩ := Option.bind_eq_some_iff.mp h
    refine q_getR C0 hw hr9 rfl in_9 (by decide) kw_869 dX9_ring_68 ?_
    refine lv_iconst (v := (2 : Int32)) C0.hx C0.hb dX9_ring_71 (by decide) ?_
    obtain ⟨u10, hu10, h⟩ := Option.bind_eq_some_iff.mp h
    refine q_ldJ C0 hw hu10 dX9_ring_72 ?_
    refine lv_aload_n C0.hx C0.hb dX9_ring_73 rfl (lv_at hl 1 rfl) ?_
    obtain ⟨r11, hr11, h⟩ := Option.bind_eq_some_iff.mp h
    refine q_getR C0 hw hr11 rfl in_9 (by decide) kw_879 dX9_ring_74 ?_
    refine lv_iconst (v := (2 : Int32)) C0.hx C0.hb dX9_ring_77 (by decide) ?_
    obtain ⟨u12, hu12, h⟩ := Option.bind_eq_some_iff.mp h
    refine q_ldJ C0 hw hu12 dX9_ring_78 ?_
    refine W.lcmp C0.hx C0.hb dX9_ring_79 ?_
    refine lv_if_eq (tgt := 87) C0.hx C0.hb dX9_ring_80 (by decide) (fun hc => ?_) (fun hc => ?_)
    · have h := (if_pos hc).symm.trans h
      refine lv_iconst (v := (0 : Int32)) C0.hx C0.hb dX9_ring_87 (by decide) ?_
      exact w_X9_ring_b88 C0 hr hlocks k20 hk20 a0 x1 t0 (0 : Int32) S _ _ _ hw (lv_sub hl [1, 2, 0] rfl) h
    · have h := (if_neg hc).symm.trans h
      exact w_X9_ring_b83 C0 hr hlocks k20 hk20 a0 x1 t0 S _ _ _ hw (lv_sub hl [1, 2, 0] rfl) h
set_option maxHeartbeats 4000000 in
set_option maxRecDepth 100000 in
theorem w_X9_ring_b61 {p : Program} {l : Launch} {e : Env} {s : State} {m : MethodId} {args : Array Value} {below : List Frame} {meth : Method} {c : Code} {b0 : Nat} {D : va_G} {cy : Nat → ClassId} {q : (Int32 × Mem)} (C0 : Cx p m c cX9_ring 4 s args RX9 D cy) (hr : meth.sig.returnType = some .int) (hlocks : meth.locks = false) (k20 : Nat → Int32 → Int32 → Int32 → Mem → Option (Int32 × Mem)) (hk20 : ∀ (a0 : Nat) (x1 : Int32) (x2 : Int32) (x3 : Int32) (S : Mem) (H : Heap) (locs : List Loc) (ls : Array Slot), Wd b0 D cy S s.heap H locs → lv_has ls 4 [(0, .ref (b0 + a0)), (1, .int x1), (2, .int x2), (3, .int x3)] → k20 a0 x1 x2 x3 S = some q → W p l e rm_X9_ring s m args below meth c H locs 0 0 (MQ below (Qp b0 D cy (some (.int q.1)) q.2) args s 0 0 (fun q => b0 ≤ q)) (F0 m 20 ls [])) : ∀ (a0 : Nat) (x1 : Int32) (x2 : Int32) (S : Mem) (H : Heap) (locs : List Loc) (ls : Array Slot), Wd b0 D cy S s.heap H locs → lv_has ls 4 [(0, .ref (b0 + a0)), (1, .int x1), (2, .int x2)] → f_X9_ring_b61 k20 a0 x1 x2 S = some q → W p l e rm_X9_ring s m args below meth c H locs 0 0 (MQ below (Qp b0 D cy (some (.int q.1)) q.2) args s 0 0 (fun q => b0 ≤ q)) (F0 m 61 ls []) := by
  intro a0 x1 x2 S H locs ls hw hl h
  rw [f_X9_ring_b61] at h
  refine lv_iconst (v := (0 : Int32)) C0.hx C0.hb dX9_ring_61 (by decide) ?_
  exact w_X9_ring_b62 C0 hr hlocks k20 hk20 a0 x1 x2 (0 : Int32) S _ _ _ hw (lv_sub hl [0, 1, 2] rfl) h
set_option maxHeartbeats 4000000 in
set_option maxRecDepth 100000 in
theorem w_X9_ring_b92 {p : Program} {l : Launch} {e : Env} {s : State} {m : MethodId} {args : Array Value} {below : List Frame} {meth : Method} {c : Code} {b0 : Nat} {D : va_G} {cy : Nat → ClassId} {q : (Int32 × Mem)} (C0 : Cx p m c cX9_ring 4 s args RX9 D cy) (hr : meth.sig.returnType = some .int) (hlocks : meth.locks = false) : ∀ (a0 : Nat) (x1 : Int32) (x3 : Int32) (S : Mem) (H : Heap) (locs : List Loc) (ls : Array Slot), Wd b0 D cy S s.heap H locs → lv_has ls 4 [(0, .ref (b0 + a0)), (1, .int x1), (3, .int x3)] → f_X9_ring_b92  a0 x1 x3 S = some q → W p l e rm_X9_ring s m args below meth c H locs 0 0 (MQ below (Qp b0 D cy (some (.int q.1)) q.2) args s 0 0 (fun q => b0 ≤ q)) (F0 m 92 ls []) := by
  intro a0 x1 x3 S H locs ls hw hl h
  rw [f_X9_ring_b92] at h
  refine lv_aload_n C0.hx C0.hb dX9_ring_92 rfl (lv_at hl 0 rfl) ?_
  obtain ⟨c4, hc4, h⟩ := Option.bind_eq_some_iff.mp h
  obtain ⟨S5, hS5, h⟩ := Option.bind_eq_some_iff.mp h
  refine q_callV (n := 0) (av := []) (rest := []) (st1 := []) C0 hw (m_X9_backs l b0 D cy S a0 hS5) hc4 rfl (by decide) (goodV kw_1185 kw_1187 kw_56 kw_72 kw_1188) ⟨rfl, rfl⟩ (by decide +kernel) ⟨(Nat.le_of_ble_eq_true rfl), (Nat.le_of_ble_eq_true rfl)⟩ rfl hl.1 rfl (Nat.le_of_ble_eq_true rfl) dX9_ring_93 ⟨Nat.zero_le _, Nat.zero_le _⟩ rfl (fun H locs hw => ?_)
  refine lv_iload_n C0.hx C0.hb dX9_ring_96 rfl (lv_at hl 2 rfl) ?_
  refine lv_if_eq (tgt := 104) C0.hx C0.hb dX9_ring_97 (by decide) (fun hc => ?_) (fun hc => ?_)
  · have h := (if_pos hc).symm.trans h
    refine lv_iconst (v := (-1 : Int32)) C0.hx C0.hb dX9_ring_104 (by decide) ?_
    obtain rfl := Option.some.inj h
    exact q_reti C0 hw hr hlocks dX9_ring_105
  · have h := (if_neg hc).symm.trans h
    refine lv_iload_n C0.hx C0.hb dX9_ring_100 rfl (lv_at hl 1 rfl) ?_
    refine lv_goto (tgt := 105) C0.hx C0.hb dX9_ring_101 (by decide) ?_
    obtain rfl := Option.some.inj h
    exact q_reti C0 hw hr hlocks dX9_ring_105
set_option maxHeartbeats 4000000 in
set_option maxRecDepth 100000 in
theorem w_X9_ring_b20 {p : Program} {l : Launch} {e : Env} {s : State} {m : MethodId} {args : Array Value} {below : List Frame} {meth : Method} {c : Code} {b0 : Nat} {D : va_G} {cy : Nat → ClassId} {q : (Int32 × Mem)} (C0 : Cx p m c cX9_ring 4 s args RX9 D cy) (hr : meth.sig.returnType = some .int) (hlocks : meth.locks = false) : ∀ (n : Nat) (a0 : Nat) (x1 : Int32) (x2 : Int32) (x3 : Int32) (S : Mem) (H : Heap) (locs : List Loc) (ls : Array Slot), Wd b0 D cy S s.heap H locs → lv_has ls 4 [(0, .ref (b0 + a0)), (1, .int x1), (2, .int x2), (3, .int x3)] → f_X9_ring_b20  n a0 x1 x2 x3 S = some q → W p l e rm_X9_ring s m args below meth c H locs 0 0 (MQ below (Qp b0 D cy (some (.int q.1)) q.2) args s 0 0 (fun q => b0 ≤ q)) (F0 m 20 ls []) := by
  intro n
  induction n with
  | zero => intro a0 x1 x2 x3 S H locs ls hw hl h; exact absurd h (by simp [f_X9_ring_b20])
  | succ n ih =>
    intro a0 x1 x2 x3 S H locs ls hw hl h
    rw [f_X9_ring_b20] at h
    refine lv_iload_n C0.hx C0.hb dX9_ring_20 rfl (lv_at hl 1 rfl) ?_
    refine lv_bipush (v := (100 : Int32)) C0.hx C0.hb dX9_ring_21 (by decide) ?_
    refine lv_icmp_ge (tgt := 92) C0.hx C0.hb dX9_ring_23 (by decide) (fun hc => ?_) (fun hc => ?_)
    · have h := (if_pos hc).symm.trans h
      exact w_X9_ring_b92 C0 hr hlocks a0 x1 x3 S _ _ _ hw (lv_sub hl [0, 1, 3] rfl) h
    · have h := (if_neg hc).symm.trans h
      refine lv_iload_n C0.hx C0.hb dX9_ring_26 rfl (lv_at hl 3 rfl) ?_
      refine lv_if_ne (tgt := 92) C0.hx C0.hb dX9_ring_27 (by decide) (fun hc => ?_) (fun hc => ?_)
      · have h := (if_neg hc).symm.trans h
        exact w_X9_ring_b92 C0 hr hlocks a0 x1 x3 S _ _ _ hw (lv_sub hl [0, 1, 3] rfl) h
      · have h := (if_pos hc).symm.trans h
        refine lv_aload_n C0.hx C0.hb dX9_ring_30 rfl (lv_at hl 0 rfl) ?_
        obtain ⟨c6, hc6, h⟩ := Option.bind_eq_some_iff.mp h
        obtain ⟨S7, hS7, h⟩ := Option.bind_eq_some_iff.mp h
        refine q_callV (n := 0) (av := []) (rest := []) (st1 := []) C0 hw (m_X9_goesBy l b0 D cy S a0 hS7) hc6 rfl (by decide) (goodV kw_1087 kw_1089 kw_45 kw_72 kw_1090) ⟨rfl, rfl⟩ (by decide +kernel) ⟨(Nat.le_of_ble_eq_true rfl), (Nat.le_of_ble_eq_true rfl)⟩ rfl hl.1 rfl (Nat.le_of_ble_eq_true rfl) dX9_ring_31 ⟨Nat.zero_le _, Nat.zero_le _⟩ rfl (fun H locs hw => ?_)
        obtain ⟨v8, hv8, h⟩ := Option.bind_eq_some_iff.mp h
        refine lv_iinc (v := v8) (lv' := [(1, .int v8), (0, .ref (b0 + a0)), (2, .int x2), (3, .int x3)]) C0.hx C0.hb dX9_ring_34 hl (k := 1) rfl (by rw [← Option.some.inj hv8]; rfl) (by decide) rfl (fun ls hl => ?_)
        refine lv_iload_n C0.hx C0.hb dX9_ring_37 rfl (lv_at hl 2 rfl) ?_
        refine lv_if_eq (tgt := 61) C0.hx C0.hb dX9_ring_38 (by decide) (fun hc => ?_) (fun hc => ?_)
        · have h := (if_pos hc).symm.trans h
          exact w_X9_ring_b61 C0 hr hlocks (fun a0 x1 x2 x3 S => f_X9_ring_b20  n a0 x1 x2 x3 S) ih a0 v8 x2 S7 _ _ _ hw (lv_sub hl [1, 0, 2] rfl) h
        · have h := (if_neg hc).symm.trans h
          refine lv_aload_n C0.hx C0.hb dX9_ring_41 rfl (lv_at hl 1 rfl) ?_
          obtain ⟨r13, hr13, h⟩ := Option.bind_eq_some_iff.mp h
          refine q_getR C0 hw hr13 rfl in_9 (by decide) kw_869 dX9_ring_42 ?_
          refine lv_iconst (v := (2 : Int32)) C0.hx C0.hb dX9_ring_45 (by decide) ?_
          obtain ⟨u14, hu14, h⟩ := Option.bind_eq_some_iff.mp h
          refine q_ldJ C0 hw hu14 dX9_ring_46 ?_
          refine lv_aload_n C0.hx C0.hb dX9_ring_47 rfl (lv_at hl 1 rfl) ?_
          obtain ⟨r15, hr15, h⟩ := Option.bind_eq_some_iff.mp h
          refine q_getR C0 hw hr15 rfl in_9 (by decide) kw_879 dX9_ring_48 ?_
          refine lv_iconst (v := (2 : Int32)) C0.hx C0.hb dX9_ring_51 (by decide) ?_
          obtain ⟨u16, hu16, h⟩ := Option.bind_eq_some_iff.mp h
          refine q_ldJ C0 hw hu16 dX9_ring_52 ?_
          refine W.lcmp C0.hx C0.hb dX9_ring_53 ?_
          refine lv_if_ne (tgt := 61) C0.hx C0.hb dX9_ring_54 (by decide) (fun hc => ?_) (fun hc => ?_)
          · have h := (if_neg hc).symm.trans h
            exact w_X9_ring_b61 C0 hr hlocks (fun a0 x1 x2 x3 S => f_X9_ring_b20  n a0 x1 x2 x3 S) ih a0 v8 x2 S7 _ _ _ hw (lv_sub hl [1, 0, 2] rfl) h
          · have h := (if_pos hc).symm.trans h
            refine lv_iconst (v := (1 : Int32)) C0.hx C0.hb dX9_ring_57 (by decide) ?_
            refine lv_goto (tgt := 62) C0.hx C0.hb dX9_ring_58 (by decide) ?_
            exact w_X9_ring_b62 C0 hr hlocks (fun a0 x1 x2 x3 S => f_X9_ring_b20  n a0 x1 x2 x3 S) ih a0 v8 x2 (1 : Int32) S7 _ _ _ hw (lv_sub hl [1, 0, 2] rfl) h
set_option maxHeartbeats 4000000 in
set_option maxRecDepth 100000 in
theorem m_X9_ring (l : Launch) (b0 : Nat) (D : va_G) (cy : Nat → ClassId) (S : Mem) (a0 : Nat) {q : (Int32 × Mem)} (h : f_X9_ring a0 S = some q) : Met l yX9_ring [.code yX9_ring cX9_ring 4 (some .int)] rm_X9_ring (Pr b0 D cy S [.ref (b0 + a0)]) (Qp b0 D cy (some (.int q.1)) q.2) 0 0 (fun q => b0 ≤ q) := by
  refine Met.ofW (cc := cX9_ring) (maxL := 4) (ret := some .int) (by decide) rfl ?_
  intro p e s m args below meth c s₁ B hml hv
  obtain ⟨rfl, hP, hK, hT⟩ := hv
  have C0 : Cx p m c cX9_ring 4 s (List.toArray [.ref (b0 + a0)]) RX9 D cy := ⟨⟨B.exec, B.bytes, hml, findClass_of_methodNamed B.named, fun w h => hT w h _⟩, hK, hT⟩
  have hr : meth.sig.returnType = some .int := B.returns
  have hlocks := B.notSynchronized
  have hw : Wd b0 D cy S s.heap s.heap [] := ⟨hP, va_S.rf⟩
  have hl := lv_entry ([.ref (b0 + a0)]) (n := 4) (Nat.le_of_ble_eq_true rfl)
  rw [lg_entry_eq]
  generalize (lg_sl ([.ref (b0 + a0)]) ++ List.replicate (4 - (lg_sl ([.ref (b0 + a0)])).length) Slot.unset).toArray = ls at hl ⊢
  have hl : lv_has ls 4 [(0, .ref (b0 + a0))] := hl
  rw [f_X9_ring] at h
  show W p l e rm_X9_ring s m _ below meth c s.heap [] 0 0 _ _
  refine lv_aload_n C0.hx C0.hb dX9_ring_0 rfl (lv_at hl 0 rfl) ?_
  obtain ⟨v1, hv1, h⟩ := Option.bind_eq_some_iff.mp h
  refine q_getI C0 hw hv1 rfl in_9 (by decide) kw_863 dX9_ring_1 ?_
  refine lv_if_ne (tgt := 10) C0.hx C0.hb dX9_ring_4 (by decide) (fun hc => ?_) (fun hc => ?_)
  · have h := (if_neg hc).symm.trans h
    refine lv_aload_n C0.hx C0.hb dX9_ring_10 rfl (lv_at hl 0 rfl) ?_
    obtain ⟨c2, hc2, h⟩ := Option.bind_eq_some_iff.mp h
    obtain ⟨S3, hS3, h⟩ := Option.bind_eq_some_iff.mp h
    refine q_callV (n := 0) (av := []) (rest := []) (st1 := []) C0 hw (m_X9_asides l b0 D cy S a0 hS3) hc2 rfl (by decide) (goodV kw_1181 kw_1183 kw_55 kw_72 kw_1184) ⟨rfl, rfl⟩ (by decide +kernel) ⟨(Nat.le_of_ble_eq_true rfl), (Nat.le_of_ble_eq_true rfl)⟩ rfl hl.1 rfl (Nat.le_of_ble_eq_true rfl) dX9_ring_11 ⟨Nat.zero_le _, Nat.zero_le _⟩ rfl (fun H locs hw => ?_)
    refine lv_iconst (v := (0 : Int32)) C0.hx C0.hb dX9_ring_14 (by decide) ?_
    refine lv_istore_n (lv' := [(1, .int (0 : Int32)), (0, .ref (b0 + a0))]) C0.hx C0.hb dX9_ring_15 rfl hl (by decide) rfl (fun ls hl => ?_)
    refine lv_iconst (v := (0 : Int32)) C0.hx C0.hb dX9_ring_16 (by decide) ?_
    refine lv_istore_n (lv' := [(2, .int (0 : Int32)), (1, .int (0 : Int32)), (0, .ref (b0 + a0))]) C0.hx C0.hb dX9_ring_17 rfl hl (by decide) rfl (fun ls hl => ?_)
    refine lv_iconst (v := (0 : Int32)) C0.hx C0.hb dX9_ring_18 (by decide) ?_
    refine lv_istore_n (lv' := [(3, .int (0 : Int32)), (2, .int (0 : Int32)), (1, .int (0 : Int32)), (0, .ref (b0 + a0))]) C0.hx C0.hb dX9_ring_19 rfl hl (by decide) rfl (fun ls hl => ?_)
    exact w_X9_ring_b20 C0 hr hlocks FU a0 (0 : Int32) (0 : Int32) (0 : Int32) S3 _ _ _ hw (lv_sub hl [3, 2, 1, 0] rfl) h
  · have h := (if_pos hc).symm.trans h
    refine lv_ldc C0.hx C0.hb C0.ho (C0.w kw_1077) dX9_ring_7 ?_
    obtain rfl := Option.some.inj h
    exact q_reti C0 hw hr hlocks dX9_ring_9
abbrev rm_X9_many : Room := { frames := 0, cells := 0, slots := 0, locals := 0 }
def f_X9_many_b4 : Nat → Int32 → Int32 → Option Int32
  | 0, _, _ => none
  | n + 1, x1, x2 =>
    (if x2 = (0 : Int32) then
      some x1
      else
      (some (x1 + (1 : Int32))).bind fun v1 =>
      (some (x2 &&& (x2 - (1 : Int32)))).bind fun v2 =>
      f_X9_many_b4  n v1 v2)
def f_X9_many (x0 : Int32) : Option Int32 :=
    f_X9_many_b4 FU (0 : Int32) x0
set_option maxHeartbeats 4000000 in
set_option maxRecDepth 100000 in
theorem w_X9_many_b4 {p : Program} {l : Launch} {e : Env} {s : State} {m : MethodId} {args : Array Value} {below : List Frame} {meth : Method} {c : Code} {b0 : Nat} {D : va_G} {cy : Nat → ClassId} {S : Mem} {q : Int32} (C0 : Cx p m c cX9_many 3 s args RX9 D cy) (hr : meth.sig.returnType = some .int) (hlocks : meth.locks = false) : ∀ (n : Nat) (x1 : Int32) (x2 : Int32) (H : Heap) (locs : List Loc) (ls : Array Slot), Wd b0 D cy S s.heap H locs → lv_has ls 3 [(1, .int x1), (2, .int x2)] → f_X9_many_b4  n x1 x2 = some q → W p l e rm_X9_many s m args below meth c H locs 0 0 (MQ below (Qp b0 D cy (some (.int q)) S) args s 0 0 (fun q => b0 ≤ q)) (F0 m 4 ls []) := by
  intro n
  induction n with
  | zero => intro x1 x2 H locs ls hw hl h; exact absurd h (by simp [f_X9_many_b4])
  | succ n ih =>
    intro x1 x2 H locs ls hw hl h
    rw [f_X9_many_b4] at h
    refine lv_iload_n C0.hx C0.hb dX9_many_4 rfl (lv_at hl 1 rfl) ?_
    refine lv_if_eq (tgt := 20) C0.hx C0.hb dX9_many_5 (by decide) (fun hc => ?_) (fun hc => ?_)
    · have h := (if_pos hc).symm.trans h
      refine lv_iload_n C0.hx C0.hb dX9_many_20 rfl (lv_at hl 0 rfl) ?_
      obtain rfl := Option.some.inj h
      exact q_reti C0 hw hr hlocks dX9_many_21
    · have h := (if_neg hc).symm.trans h
      obtain ⟨v1, hv1, h⟩ := Option.bind_eq_some_iff.mp h
      refine lv_iinc (v := v1) (lv' := [(1, .int v1), (2, .int x2)]) C0.hx C0.hb dX9_many_8 hl (k := 0) rfl (by rw [← Option.some.inj hv1]; rfl) (by decide) rfl (fun ls hl => ?_)
      refine lv_iload_n C0.hx C0.hb dX9_many_11 rfl (lv_at hl 1 rfl) ?_
      refine lv_iload_n C0.hx C0.hb dX9_many_12 rfl (lv_at hl 1 rfl) ?_
      refine lv_iconst (v := (1 : Int32)) C0.hx C0.hb dX9_many_13 (by decide) ?_
      refine lv_isub C0.hx C0.hb dX9_many_14 ?_
      refine lv_iand C0.hx C0.hb dX9_many_15 ?_
      obtain ⟨v2, hv2, h⟩ := Option.bind_eq_some_iff.mp h
      refine q_nmI hv2 ?_
      refine lv_istore_n (lv' := [(2, .int v2), (1, .int v1)]) C0.hx C0.hb dX9_many_16 rfl hl (by decide) rfl (fun ls hl => ?_)
      refine lv_goto (tgt := 4) C0.hx C0.hb dX9_many_17 (by decide) ?_
      exact ih v1 v2 _ _ _ hw (lv_sub hl [1, 0] rfl) h
set_option maxHeartbeats 4000000 in
set_option maxRecDepth 100000 in
theorem m_X9_many (l : Launch) (b0 : Nat) (D : va_G) (cy : Nat → ClassId) (S : Mem) (x0 : Int32) {q : Int32} (h : f_X9_many x0 = some q) : Met l yX9_many [.code yX9_many cX9_many 3 (some .int)] rm_X9_many (Pr b0 D cy S [.int x0]) (Qp b0 D cy (some (.int q)) S) 0 0 (fun q => b0 ≤ q) := by
  refine Met.ofW (cc := cX9_many) (maxL := 3) (ret := some .int) (by decide) rfl ?_
  intro p e s m args below meth c s₁ B hml hv
  obtain ⟨rfl, hP, hK, hT⟩ := hv
  have C0 : Cx p m c cX9_many 3 s (List.toArray [.int x0]) RX9 D cy := ⟨⟨B.exec, B.bytes, hml, findClass_of_methodNamed B.named, fun w h => hT w h _⟩, hK, hT⟩
  have hr : meth.sig.returnType = some .int := B.returns
  have hlocks := B.notSynchronized
  have hw : Wd b0 D cy S s.heap s.heap [] := ⟨hP, va_S.rf⟩
  have hl := lv_entry ([.int x0]) (n := 3) (Nat.le_of_ble_eq_true rfl)
  rw [lg_entry_eq]
  generalize (lg_sl ([.int x0]) ++ List.replicate (3 - (lg_sl ([.int x0])).length) Slot.unset).toArray = ls at hl ⊢
  have hl : lv_has ls 3 [(0, .int x0)] := hl
  rw [f_X9_many] at h
  show W p l e rm_X9_many s m _ below meth c s.heap [] 0 0 _ _
  refine lv_iconst (v := (0 : Int32)) C0.hx C0.hb dX9_many_0 (by decide) ?_
  refine lv_istore_n (lv' := [(1, .int (0 : Int32)), (0, .int x0)]) C0.hx C0.hb dX9_many_1 rfl hl (by decide) rfl (fun ls hl => ?_)
  refine lv_iload_n C0.hx C0.hb dX9_many_2 rfl (lv_at hl 1 rfl) ?_
  refine lv_istore_n (lv' := [(2, .int x0), (1, .int (0 : Int32)), (0, .int x0)]) C0.hx C0.hb dX9_many_3 rfl hl (by decide) rfl (fun ls hl => ?_)
  exact w_X9_many_b4 C0 hr hlocks FU (0 : Int32) x0 _ _ _ hw (lv_sub hl [1, 0] rfl) h
abbrev rm_X9_carpets : Room := { frames := 5, cells := 0, slots := 0, locals := 132 }
def f_X9_carpets_b92 (k35 : Nat → Int32 → Int32 → Int32 → Int32 → Mem → Option (Int32 × Mem)) (a0 : Nat) (x1 : Int32) (x2 : Int32) (x3 : Int32) (x4 : Int32) (S : Mem) : Option (Int32 × Mem) :=
    (some (x4 + (1 : Int32))).bind fun v12 =>
      k35 a0 x1 x2 x3 v12 S
def f_X9_carpets_b91 (k35 : Nat → Int32 → Int32 → Int32 → Int32 → Mem → Option (Int32 × Mem)) (a0 : Nat) (x1 : Int32) (x2 : Int32) (x4 : Int32) (t0 : Int32) (S : Mem) : Option (Int32 × Mem) :=
    f_X9_carpets_b92 k35 a0 x1 x2 t0 x4 S
def f_X9_carpets_b63 (k35 : Nat → Int32 → Int32 → Int32 → Int32 → Mem → Option (Int32 × Mem)) (a0 : Nat) (x1 : Int32) (x2 : Int32) (x3 : Int32) (x4 : Int32) (S : Mem) : Option (Int32 × Mem) :=
    (gR 9 7 S a0).bind fun r7 =>
      (ldJ S r7 (4 : Int32)).bind fun u8 =>
      (stJ S r7 (4 : Int32) (u8 ^^^ x4.toInt64)).bind fun S9 =>
      (ck 9 S9 a0).bind fun c10 =>
      (f_X9_whenIn a0 x1 x2 S9).bind fun q11 =>
      (if x2 < q11.1 then
      f_X9_carpets_b91 k35 a0 x1 x2 x4 x3 q11.2
      else
      f_X9_carpets_b91 k35 a0 x1 x2 x4 x4 q11.2)
def f_X9_carpets_b35 : Nat → Nat → Int32 → Int32 → Int32 → Int32 → Mem → Option (Int32 × Mem)
  | 0, _, _, _, _, _, _ => none
  | n + 1, a0, x1, x2, x3, x4, S =>
    (gI 9 1 S a0).bind fun v6 =>
      (if ((1 : Int32) <<< (v6 &&& 31)) ≤ x4 then
      some (x3, S)
      else
      (if x3 = (-1 : Int32) then
      f_X9_carpets_b63 (fun a0 x1 x2 x3 x4 S => f_X9_carpets_b35  n a0 x1 x2 x3 x4 S) a0 x1 x2 x3 x4 S
      else
      (f_X9_many x4).bind fun v13 =>
      (f_X9_many x3).bind fun v14 =>
      (if v14 ≤ v13 then
      f_X9_carpets_b92 (fun a0 x1 x2 x3 x4 S => f_X9_carpets_b35  n a0 x1 x2 x3 x4 S) a0 x1 x2 x3 x4 S
      else
      f_X9_carpets_b63 (fun a0 x1 x2 x3 x4 S => f_X9_carpets_b35  n a0 x1 x2 x3 x4 S) a0 x1 x2 x3 x4 S)))
def f_X9_carpets (a0 : Nat) (x1 : Int32) (x2 : Int32) (S : Mem) : Option (Int32 × Mem) :=
    (ck 9 S a0).bind fun c1 =>
      (f_X9_isRoom a0 x1 S).bind fun v2 =>
      (if v2 = (0 : Int32) then
      some ((-1000000001 : Int32), S)
      else
      (f_X9_in x2.toInt64 (0 : Int64) (20 : Int64)).bind fun v3 =>
      (if v3 = (0 : Int32) then
      some ((-1000000002 : Int32), S)
      else
      (ck 9 S a0).bind fun c4 =>
      (f_X9_asides a0 S).bind fun S5 =>
      f_X9_carpets_b35 FU a0 x1 x2 (-1 : Int32) (0 : Int32) S5))
set_option maxHeartbeats 4000000 in
set_option maxRecDepth 100000 in
theorem w_X9_carpets_b92 {p : Program} {l : Launch} {e : Env} {s : State} {m : MethodId} {args : Array Value} {below : List Frame} {meth : Method} {c : Code} {b0 : Nat} {D : va_G} {cy : Nat → ClassId} {q : (Int32 × Mem)} (C0 : Cx p m c cX9_carpets 5 s args RX9 D cy) (hr : meth.sig.returnType = some .int) (hlocks : meth.locks = false) (k35 : Nat → Int32 → Int32 → Int32 → Int32 → Mem → Option (Int32 × Mem)) (hk35 : ∀ (a0 : Nat) (x1 : Int32) (x2 : Int32) (x3 : Int32) (x4 : Int32) (S : Mem) (H : Heap) (locs : List Loc) (ls : Array Slot), Wd b0 D cy S s.heap H locs → lv_has ls 5 [(0, .ref (b0 + a0)), (1, .int x1), (2, .int x2), (3, .int x3), (4, .int x4)] → k35 a0 x1 x2 x3 x4 S = some q → W p l e rm_X9_carpets s m args below meth c H locs 0 0 (MQ below (Qp b0 D cy (some (.int q.1)) q.2) args s 0 0 (fun q => b0 ≤ q)) (F0 m 35 ls [])) : ∀ (a0 : Nat) (x1 : Int32) (x2 : Int32) (x3 : Int32) (x4 : Int32) (S : Mem) (H : Heap) (locs : List Loc) (ls : Array Slot), Wd b0 D cy S s.heap H locs → lv_has ls 5 [(0, .ref (b0 + a0)), (1, .int x1), (2, .int x2), (3, .int x3), (4, .int x4)] → f_X9_carpets_b92 k35 a0 x1 x2 x3 x4 S = some q → W p l e rm_X9_carpets s m args below meth c H locs 0 0 (MQ below (Qp b0 D cy (some (.int q.1)) q.2) args s 0 0 (fun q => b0 ≤ q)) (F0 m 92 ls []) := by
  intro a0 x1 x2 x3 x4 S H locs ls hw hl h
  rw [f_X9_carpets_b92] at h
  obtain ⟨v12, hv12, h⟩ := Option.bind_eq_some_iff.mp h
  refine lv_iinc (v := v12) (lv' := [(4, .int v12), (0, .ref (b0 + a0)), (1, .int x1), (2, .int x2), (3, .int x3)]) C0.hx C0.hb dX9_carpets_92 hl (k := 4) rfl (by rw [← Option.some.inj hv12]; rfl) (by decide) rfl (fun ls hl => ?_)
  refine lv_goto (tgt := 35) C0.hx C0.hb dX9_carpets_95 (by decide) ?_
  exact hk35 a0 x1 x2 x3 v12 S _ _ _ hw (lv_sub hl [1, 2, 3, 4, 0] rfl) h
set_option maxHeartbeats 4000000 in
set_option maxRecDepth 100000 in
theorem w_X9_carpets_b91 {p : Program} {l : Launch} {e : Env} {s : State} {m : MethodId} {args : Array Value} {below : List Frame} {meth : Method} {c : Code} {b0 : Nat} {D : va_G} {cy : Nat → ClassId} {q : (Int32 × Mem)} (C0 : Cx p m c cX9_carpets 5 s args RX9 D cy) (hr : meth.sig.returnType = some .int) (hlocks : meth.locks = false) (k35 : Nat → Int32 → Int32 → Int32 → Int32 → Mem → Option (Int32 × Mem)) (hk35 : ∀ (a0 : Nat) (x1 : Int32) (x2 : Int32) (x3 : Int32) (x4 : Int32) (S : Mem) (H : Heap) (locs : List Loc) (ls : Array Slot), Wd b0 D cy S s.heap H locs → lv_has ls 5 [(0, .ref (b0 + a0)), (1, .int x1), (2, .int x2), (3, .int x3), (4, .int x4)] → k35 a0 x1 x2 x3 x4 S = some q → W p l e rm_X9_carpets s m args below meth c H locs 0 0 (MQ below (Qp b0 D cy (some (.int q.1)) q.2) args s 0 0 (fun q => b0 ≤ q)) (F0 m 35 ls [])) : ∀ (a0 : Nat) (x1 : Int32) (x2 : Int32) (x4 : Int32) (t0 : Int32) (S : Mem) (H : Heap) (locs : List Loc) (ls : Array Slot), Wd b0 D cy S s.heap H locs → lv_has ls 5 [(0, .ref (b0 + a0)), (1, .int x1), (2, .int x2), (4, .int x4)] → f_X9_carpets_b91 k35 a0 x1 x2 x4 t0 S = some q → W p l e rm_X9_carpets s m args below meth c H locs 0 0 (MQ below (Qp b0 D cy (some (.int q.1)) q.2) args s 0 0 (fun q => b0 ≤ q)) (F0 m 91 ls [.int t0]) := by
  intro a0 x1 x2 x4 t0 S H locs ls hw hl h
  rw [f_X9_carpets_b91] at h
  refine lv_istore_n (lv' := [(3, .int t0), (0, .ref (b0 + a0)), (1, .int x1), (2, .int x2), (4, .int x4)]) C0.hx C0.hb dX9_carpets_91 rfl hl (by decide) rfl (fun ls hl => ?_)
  exact w_X9_carpets_b92 C0 hr hlocks k35 hk35 a0 x1 x2 t0 x4 S _ _ _ hw (lv_sub hl [1, 2, 3, 0, 4] rfl) h
set_option maxHeartbeats 4000000 in
set_option maxRecDepth 100000 in
theorem w_X9_carpets_b63 {p : Program} {l : Launch} {e : Env} {s : State} {m : MethodId} {args : Array Value} {below : List Frame} {meth : Method} {c : Code} {b0 : Nat} {D : va_G} {cy : Nat → ClassId} {q : (Int32 × Mem)} (C0 : Cx p m c cX9_carpets 5 s args RX9 D cy) (hr : meth.sig.returnType = some .int) (hlocks : meth.locks = false) (k35 : Nat → Int32 → Int32 → Int32 → Int32 → Mem → Option (Int32 × Mem)) (hk35 : ∀ (a0 : Nat) (x1 : Int32) (x2 : Int32) (x3 : Int32) (x4 : Int32) (S : Mem) (H : Heap) (locs : List Loc) (ls : Array Slot), Wd b0 D cy S s.heap H locs → lv_has ls 5 [(0, .ref (b0 + a0)), (1, .int x1), (2, .int x2), (3, .int x3), (4, .int x4)] → k35 a0 x1 x2 x3 x4 S = some q → W p l e rm_X9_carpets s m args below meth c H locs 0 0 (MQ below (Qp b0 D cy (some (.int q.1)) q.2) args s 0 0 (fun q => b0 ≤ q)) (F0 m 35 ls [])) : ∀ (a0 : Nat) (x1 : Int32) (x2 : Int32) (x3 : Int32) (x4 : Int32) (S : Mem) (H : Heap) (locs : List Loc) (ls : Array Slot), Wd b0 D cy S s.heap H locs → lv_has ls 5 [(0, .ref (b0 + a0)), (1, .int x1), (2, .int x2), (3, .int x3), (4, .int x4)] → f_X9_carpets_b63 k35 a0 x1 x2 x3 x4 S = some q → W p l e rm_X9_carpets s m args below meth c H locs 0 0 (MQ below (Qp b0 D cy (some (.int q.1)) q.2) args s 0 0 (fun q => b0 ≤ q)) (F0 m 63 ls []) := by
  intro a0 x1 x2 x3 x4 S H locs ls hw hl h
  rw [f_X9_carpets_b63] at h
  refine lv_aload_n C0.hx C0.hb dX9_carpets_63 rfl (lv_at hl 0 rfl) ?_
  obtain ⟨r7, hr7, h⟩ := Option.bind_eq_some_iff.mp h
  refine q_getR C0 hw hr7 rfl in_9 (by decide) kw_869 dX9_carpets_64 ?_
  refine lv_iconst (v := (4 : Int32)) C0.hx C0.hb dX9_carpets_67 (by decide) ?_
  refine lv_dup2_11 C0.hx C0.hb dX9_carpets_68 rfl rfl ?_
  obtain ⟨u8, hu8, h⟩ := Option.bind_eq_some_iff.mp h
  refine q_ldJ C0 hw hu8 dX9_carpets_69 ?_
  refine lv_iload C0.hx C0.hb dX9_carpets_70 (lv_at hl 4 rfl) ?_
  refine lv_i2l C0.hx C0.hb dX9_carpets_72 rfl ?_
  refine lv_lxor C0.hx C0.hb dX9_carpets_73 ?_
  obtain ⟨S9, hS9, h⟩ := Option.bind_eq_some_iff.mp h
  refine q_stJ C0 hw hS9 dX9_carpets_74 (fun H locs hw => ?_)
  refine lv_aload_n C0.hx C0.hb dX9_carpets_75 rfl (lv_at hl 0 rfl) ?_
  refine lv_iload_n C0.hx C0.hb dX9_carpets_76 rfl (lv_at hl 1 rfl) ?_
  refine lv_iload_n C0.hx C0.hb dX9_carpets_77 rfl (lv_at hl 2 rfl) ?_
  obtain ⟨c10, hc10, h⟩ := Option.bind_eq_some_iff.mp h
  obtain ⟨q11, hq11, h⟩ := Option.bind_eq_some_iff.mp h
  refine q_callV (n := 2) (av := [.int x1, .int x2]) (rest := []) (st1 := [.int q11.1]) C0 hw (m_X9_whenIn l b0 D cy S9 a0 x1 x2 hq11) hc10 rfl (by decide) (goodV kw_1193 kw_1195 kw_57 kw_72 kw_1196) ⟨rfl, rfl⟩ (by decide +kernel) ⟨(Nat.le_of_ble_eq_true rfl), (Nat.le_of_ble_eq_true rfl)⟩ rfl hl.1 rfl (Nat.le_of_ble_eq_true rfl) dX9_carpets_78 ⟨Nat.zero_le _, Nat.zero_le _⟩ rfl (fun H locs hw => ?_)
  refine lv_iload_n C0.hx C0.hb dX9_carpets_81 rfl (lv_at hl 2 rfl) ?_
  refine lv_icmp_gt (tgt := 90) C0.hx C0.hb dX9_carpets_82 (by decide) (fun hc => ?_) (fun hc => ?_)
  · have h := (if_pos hc).symm.trans h
    refine lv_iload_n C0.hx C0.hb dX9_carpets_90 rfl (lv_at hl 3 rfl) ?_
    exact w_X9_carpets_b91 C0 hr hlocks k35 hk35 a0 x1 x2 x4 x3 q11.2 _ _ _ hw (lv_sub hl [0, 1, 2, 4] rfl) h
  · have h := (if_neg hc).symm.trans h
    refine lv_iload C0.hx C0.hb dX9_carpets_85 (lv_at hl 4 rfl) ?_
    refine lv_goto (tgt := 91) C0.hx C0.hb dX9_carpets_87 (by decide) ?_
    exact w_X9_carpets_b91 C0 hr hlocks k35 hk35 a0 x1 x2 x4 x4 q11.2 _ _ _ hw (lv_sub hl [0, 1, 2, 4] rfl) h
set_option maxHeartbeats 4000000 in
set_option maxRecDepth 100000 in
theorem w_X9_carpets_b35 {p : Program} {l : Launch} {e : Env} {s : State} {m : MethodId} {args : Array Value} {below : List Frame} {meth : Method} {c : Code} {b0 : Nat} {D : va_G} {cy : Nat → ClassId} {q : (Int32 × Mem)} (C0 : Cx p m c cX9_carpets 5 s args RX9 D cy) (hr : meth.sig.returnType = some .int) (hlocks : meth.locks = false) : ∀ (n : Nat) (a0 : Nat) (x1 : Int32) (x2 : Int32) (x3 : Int32) (x4 : Int32) (S : Mem) (H : Heap) (locs : List Loc) (ls : Array Slot), Wd b0 D cy S s.heap H locs → lv_has ls 5 [(0, .ref (b0 + a0)), (1, .int x1), (2, .int x2), (3, .int x3), (4, .int x4)] → f_X9_carpets_b35  n a0 x1 x2 x3 x4 S = some q → W p l e rm_X9_carpets s m args below meth c H locs 0 0 (MQ below (Qp b0 D cy (some (.int q.1)) q.2) args s 0 0 (fun q => b0 ≤ q)) (F0 m 35 ls []) := by
  intro n
  induction n with
  | zero => intro a0 x1 x2 x3 x4 S H locs ls hw hl h; exact absurd h (by simp [f_X9_carpets_b35])
  | succ n ih =>
    intro a0 x1 x2 x3 x4 S H locs ls hw hl h
    rw [f_X9_carpets_b35] at h
    refine lv_iload C0.hx C0.hb dX9_carpets_35 (lv_at hl 4 rfl) ?_
    refine lv_iconst (v := (1 : Int32)) C0.hx C0.hb dX9_carpets_37 (by decide) ?_
    refine lv_aload_n C0.hx C0.hb dX9_carpets_38 rfl (lv_at hl 0 rfl) ?_
    obtain ⟨v6, hv6, h⟩ := Option.bind_eq_some_iff.mp h
    refine q_getI C0 hw hv6 rfl in_9 (by decide) kw_863 dX9_carpets_39 ?_
    refine lv_ishl C0.hx C0.hb dX9_carpets_42 ?_
    refine lv_icmp_ge (tgt := 98) C0.hx C0.hb dX9_carpets_43 (by decide) (fun hc => ?_) (fun hc => ?_)
    · have h := (if_pos hc).symm.trans h
      refine lv_iload_n C0.hx C0.hb dX9_carpets_98 rfl (lv_at hl 3 rfl) ?_
      obtain rfl := Option.some.inj h
      exact q_reti C0 hw hr hlocks dX9_carpets_99
    · have h := (if_neg hc).symm.trans h
      refine lv_iload_n C0.hx C0.hb dX9_carpets_46 rfl (lv_at hl 3 rfl) ?_
      refine lv_iconst (v := (-1 : Int32)) C0.hx C0.hb dX9_carpets_47 (by decide) ?_
      refine lv_icmp_eq (tgt := 63) C0.hx C0.hb dX9_carpets_48 (by decide) (fun hc => ?_) (fun hc => ?_)
      · have h := (if_pos hc).symm.trans h
        exact w_X9_carpets_b63 C0 hr hlocks (fun a0 x1 x2 x3 x4 S => f_X9_carpets_b35  n a0 x1 x2 x3 x4 S) ih a0 x1 x2 x3 x4 S _ _ _ hw (lv_sub hl [0, 1, 2, 3, 4] rfl) h
      · have h := (if_neg hc).symm.trans h
        refine lv_iload C0.hx C0.hb dX9_carpets_51 (lv_at hl 4 rfl) ?_
        obtain ⟨v13, hv13, h⟩ := Option.bind_eq_some_iff.mp h
        refine q_callS (n := 1) (av := [.int x4]) (rest := []) (st1 := [.int v13]) C0 hw (m_X9_many l b0 D cy S x4 hv13) (goodS kw_1210 kw_1211 kw_72 kw_1212) ⟨rfl, rfl⟩ (by decide +kernel) ⟨(Nat.le_of_ble_eq_true rfl), (Nat.le_of_ble_eq_true rfl)⟩ rfl hl.1 rfl (Nat.le_of_ble_eq_true rfl) dX9_carpets_53 ⟨Nat.zero_le _, Nat.zero_le _⟩ rfl (fun H locs hw => ?_)
        refine lv_iload_n C0.hx C0.hb dX9_carpets_56 rfl (lv_at hl 3 rfl) ?_
        obtain ⟨v14, hv14, h⟩ := Option.bind_eq_some_iff.mp h
        refine q_callS (n := 1) (av := [.int x3]) (rest := [.int v13]) (st1 := [.int v14, .int v13]) C0 hw (m_X9_many l b0 D cy S x3 hv14) (goodS kw_1210 kw_1211 kw_72 kw_1212) ⟨rfl, rfl⟩ (by decide +kernel) ⟨(Nat.le_of_ble_eq_true rfl), (Nat.le_of_ble_eq_true rfl)⟩ rfl hl.1 rfl (Nat.le_of_ble_eq_true rfl) dX9_carpets_57 ⟨Nat.zero_le _, Nat.zero_le _⟩ rfl (fun H locs hw => ?_)
        refine lv_icmp_ge (tgt := 92) C0.hx C0.hb dX9_carpets_60 (by decide) (fun hc => ?_) (fun hc => ?_)
        · have h := (if_pos hc).symm.trans h
          exact w_X9_carpets_b92 C0 hr hlocks (fun a0 x1 x2 x3 x4 S => f_X9_carpets_b35  n a0 x1 x2 x3 x4 S) ih a0 x1 x2 x3 x4 S _ _ _ hw (lv_sub hl [0, 1, 2, 3, 4] rfl) h
        · have h := (if_neg hc).symm.trans h
          exact w_X9_carpets_b63 C0 hr hlocks (fun a0 x1 x2 x3 x4 S => f_X9_carpets_b35  n a0 x1 x2 x3 x4 S) ih a0 x1 x2 x3 x4 S _ _ _ hw (lv_sub hl [0, 1, 2, 3, 4] rfl) h
set_option maxHeartbeats 4000000 in
set_option maxRecDepth 100000 in
theorem m_X9_carpets (l : Launch) (b0 : Nat) (D : va_G) (cy : Nat → ClassId) (S : Mem) (a0 : Nat) (x1 : Int32) (x2 : Int32) {q : (Int32 × Mem)} (h : f_X9_carpets a0 x1 x2 S = some q) : Met l yX9_carpets [.code yX9_carpets cX9_carpets 5 (some .int)] rm_X9_carpets (Pr b0 D cy S [.ref (b0 + a0), .int x1, .int x2]) (Qp b0 D cy (some (.int q.1)) q.2) 0 0 (fun q => b0 ≤ q) := by
  refine Met.ofW (cc := cX9_carpets) (maxL := 5) (ret := some .int) (by decide) rfl ?_
  intro p e s m args below meth c s₁ B hml hv
  obtain ⟨rfl, hP, hK, hT⟩ := hv
  have C0 : Cx p m c cX9_carpets 5 s (List.toArray [.ref (b0 + a0), .int x1, .int x2]) RX9 D cy := ⟨⟨B.exec, B.bytes, hml, findClass_of_methodNamed B.named, fun w h => hT w h _⟩, hK, hT⟩
  have hr : meth.sig.returnType = some .int := B.returns
  have hlocks := B.notSynchronized
  have hw : Wd b0 D cy S s.heap s.heap [] := ⟨hP, va_S.rf⟩
  have hl := lv_entry ([.ref (b0 + a0), .int x1, .int x2]) (n := 5) (Nat.le_of_ble_eq_true rfl)
  rw [lg_entry_eq]
  generalize (lg_sl ([.ref (b0 + a0), .int x1, .int x2]) ++ List.replicate (5 - (lg_sl ([.ref (b0 + a0), .int x1, .int x2])).length) Slot.unset).toArray = ls at hl ⊢
  have hl : lv_has ls 5 [(0, .ref (b0 + a0)), (1, .int x1), (2, .int x2)] := hl
  rw [f_X9_carpets] at h
  show W p l e rm_X9_carpets s m _ below meth c s.heap [] 0 0 _ _
  refine lv_aload_n C0.hx C0.hb dX9_carpets_0 rfl (lv_at hl 0 rfl) ?_
  refine lv_iload_n C0.hx C0.hb dX9_carpets_1 rfl (lv_at hl 1 rfl) ?_
  obtain ⟨c1, hc1, h⟩ := Option.bind_eq_some_iff.mp h
  obtain ⟨v2, hv2, h⟩ := Option.bind_eq_some_iff.mp h
  refine q_callV (n := 1) (av := [.int x1]) (rest := []) (st1 := [.int v2]) C0 hw (m_X9_isRoom l b0 D cy S a0 x1 hv2) hc1 rfl (by decide) (goodV kw_1021 kw_1023 kw_35 kw_72 kw_1024) ⟨rfl, rfl⟩ (by decide +kernel) ⟨(Nat.le_of_ble_eq_true rfl), (Nat.le_of_ble_eq_true rfl)⟩ rfl hl.1 rfl (Nat.le_of_ble_eq_true rfl) dX9_carpets_2 ⟨Nat.zero_le _, Nat.zero_le _⟩ rfl (fun H locs hw => ?_)
  refine lv_if_ne (tgt := 11) C0.hx C0.hb dX9_carpets_5 (by decide) (fun hc => ?_) (fun hc => ?_)
  · have h := (if_neg hc).symm.trans h
    refine lv_iload_n C0.hx C0.hb dX9_carpets_11 rfl (lv_at hl 2 rfl) ?_
    refine lv_i2l C0.hx C0.hb dX9_carpets_12 rfl ?_
    refine lv_lconst (v := (0 : Int64)) C0.hx C0.hb dX9_carpets_13 (by decide) ?_
    refine lv_ldc2 C0.hx C0.hb C0.ho (C0.w kw_1209) dX9_carpets_14 ?_
    obtain ⟨v3, hv3, h⟩ := Option.bind_eq_some_iff.mp h
    refine q_callS (n := 3) (av := [.long x2.toInt64, .long (0 : Int64), .long (20 : Int64)]) (rest := []) (st1 := [.int v3]) C0 hw (m_X9_in l b0 D cy S x2.toInt64 (0 : Int64) (20 : Int64) hv3) (goodS kw_951 kw_952 kw_72 kw_953) ⟨rfl, rfl⟩ (by decide +kernel) ⟨(Nat.le_of_ble_eq_true rfl), (Nat.le_of_ble_eq_true rfl)⟩ rfl hl.1 rfl (Nat.le_of_ble_eq_true rfl) dX9_carpets_17 ⟨Nat.zero_le _, Nat.zero_le _⟩ rfl (fun H locs hw => ?_)
    refine lv_if_ne (tgt := 26) C0.hx C0.hb dX9_carpets_20 (by decide) (fun hc => ?_) (fun hc => ?_)
    · have h := (if_neg hc).symm.trans h
      refine lv_iconst (v := (-1 : Int32)) C0.hx C0.hb dX9_carpets_26 (by decide) ?_
      refine lv_istore_n (lv' := [(3, .int (-1 : Int32)), (0, .ref (b0 + a0)), (1, .int x1), (2, .int x2)]) C0.hx C0.hb dX9_carpets_27 rfl hl (by decide) rfl (fun ls hl => ?_)
      refine lv_aload_n C0.hx C0.hb dX9_carpets_28 rfl (lv_at hl 1 rfl) ?_
      obtain ⟨c4, hc4, h⟩ := Option.bind_eq_some_iff.mp h
      obtain ⟨S5, hS5, h⟩ := Option.bind_eq_some_iff.mp h
      refine q_callV (n := 0) (av := []) (rest := []) (st1 := []) C0 hw (m_X9_asides l b0 D cy S a0 hS5) hc4 rfl (by decide) (goodV kw_1181 kw_1183 kw_55 kw_72 kw_1184) ⟨rfl, rfl⟩ (by decide +kernel) ⟨(Nat.le_of_ble_eq_true rfl), (Nat.le_of_ble_eq_true rfl)⟩ rfl hl.1 rfl (Nat.le_of_ble_eq_true rfl) dX9_carpets_29 ⟨Nat.zero_le _, Nat.zero_le _⟩ rfl (fun H locs hw => ?_)
      refine lv_iconst (v := (0 : Int32)) C0.hx C0.hb dX9_carpets_32 (by decide) ?_
      refine lv_istore (lv' := [(4, .int (0 : Int32)), (3, .int (-1 : Int32)), (0, .ref (b0 + a0)), (1, .int x1), (2, .int x2)]) C0.hx C0.hb dX9_carpets_33 hl (by decide) rfl (fun ls hl => ?_)
      exact w_X9_carpets_b35 C0 hr hlocks FU a0 x1 x2 (-1 : Int32) (0 : Int32) S5 _ _ _ hw (lv_sub hl [2, 3, 4, 1, 0] rfl) h
    · have h := (if_pos hc).symm.trans h
      refine lv_ldc C0.hx C0.hb C0.ho (C0.w kw_954) dX9_carpets_23 ?_
      obtain rfl := Option.some.inj h
      exact q_reti C0 hw hr hlocks dX9_carpets_25
  · have h := (if_pos hc).symm.trans h
    refine lv_ldc C0.hx C0.hb C0.ho (C0.w kw_1025) dX9_carpets_8 ?_
    obtain rfl := Option.some.inj h
    exact q_reti C0 hw hr hlocks dX9_carpets_10
abbrev rm_X9_reached : Room := { frames := 1, cells := 0, slots := 0, locals := 22 }
def f_X9_reached_b155 (S : Mem) (k10 : Nat → Int32 → Int32 → Int32 → Option Int32) (k21 : Nat → Int32 → Int32 → Int32 → Int32 → Option Int32) (a0 : Nat) (x1 : Int32) (x3 : Int32) (x4 : Int32) (t0 : Int32) (t1 : Int32) : Option Int32 :=
    (some (t1 ||| t0)).bind fun v17 =>
      (some (x4 + (1 : Int32))).bind fun v18 =>
      k21 a0 x1 v17 x3 v18
def f_X9_reached_b154 (S : Mem) (k10 : Nat → Int32 → Int32 → Int32 → Option Int32) (k21 : Nat → Int32 → Int32 → Int32 → Int32 → Option Int32) (a0 : Nat) (x1 : Int32) (x3 : Int32) (x4 : Int32) (t0 : Int32) : Option Int32 :=
    f_X9_reached_b155 S k10 k21 a0 x1 x3 x4 (0 : Int32) t0
def f_X9_reached_b115 (S : Mem) (k10 : Nat → Int32 → Int32 → Int32 → Option Int32) (k21 : Nat → Int32 → Int32 → Int32 → Int32 → Option Int32) (a0 : Nat) (x1 : Int32) (x3 : Int32) (x4 : Int32) (x5 : Int32) (x6 : Int32) (x7 : Int32) (t0 : Int32) (t1 : Int32) : Option Int32 :=
    (some (t1 ||| t0)).bind fun v16 =>
      (if x7 = (0 : Int32) then
      f_X9_reached_b154 S k10 k21 a0 x1 x3 x4 v16
      else
      (if (v16 &&& x6) = (0 : Int32) then
      f_X9_reached_b154 S k10 k21 a0 x1 x3 x4 v16
      else
      (gR 9 7 S a0).bind fun r19 =>
      (ldJ S r19 (5 : Int32)).bind fun u20 =>
      (gR 9 4 S a0).bind fun r21 =>
      (ldI S r21 x4).bind fun v22 =>
      (f_X9_has u20 v22).bind fun v23 =>
      (if v23 = (0 : Int32) then
      f_X9_reached_b155 S k10 k21 a0 x1 x3 x4 x5 v16
      else
      f_X9_reached_b154 S k10 k21 a0 x1 x3 x4 v16)))
def f_X9_reached_b114 (S : Mem) (k10 : Nat → Int32 → Int32 → Int32 → Option Int32) (k21 : Nat → Int32 → Int32 → Int32 → Int32 → Option Int32) (a0 : Nat) (x1 : Int32) (x3 : Int32) (x4 : Int32) (x5 : Int32) (x6 : Int32) (x7 : Int32) (t0 : Int32) : Option Int32 :=
    f_X9_reached_b115 S k10 k21 a0 x1 x3 x4 x5 x6 x7 (0 : Int32) t0
def f_X9_reached_b75 (S : Mem) (k10 : Nat → Int32 → Int32 → Int32 → Option Int32) (k21 : Nat → Int32 → Int32 → Int32 → Int32 → Option Int32) (a0 : Nat) (x1 : Int32) (x2 : Int32) (x3 : Int32) (x4 : Int32) (x5 : Int32) (x6 : Int32) (t0 : Int32) : Option Int32 :=
    (if t0 = (0 : Int32) then
      f_X9_reached_b114 S k10 k21 a0 x1 x3 x4 x5 x6 t0 x2
      else
      (if (x2 &&& x5) = (0 : Int32) then
      f_X9_reached_b114 S k10 k21 a0 x1 x3 x4 x5 x6 t0 x2
      else
      (gR 9 7 S a0).bind fun r24 =>
      (ldJ S r24 (5 : Int32)).bind fun u25 =>
      (gR 9 5 S a0).bind fun r26 =>
      (ldI S r26 x4).bind fun v27 =>
      (f_X9_has u25 v27).bind fun v28 =>
      (if v28 = (0 : Int32) then
      f_X9_reached_b115 S k10 k21 a0 x1 x3 x4 x5 x6 t0 x6 x2
      else
      f_X9_reached_b114 S k10 k21 a0 x1 x3 x4 x5 x6 t0 x2)))
def f_X9_reached_b21 (S : Mem) (k10 : Nat → Int32 → Int32 → Int32 → Option Int32) : Nat → Nat → Int32 → Int32 → Int32 → Int32 → Option Int32
  | 0, _, _, _, _, _ => none
  | n + 1, a0, x1, x2, x3, x4 =>
    (gI 9 2 S a0).bind fun v5 =>
      (if v5 ≤ x4 then
      (some (x3 + (1 : Int32))).bind fun v6 =>
      k10 a0 x1 x2 v6
      else
      (gR 9 4 S a0).bind fun r7 =>
      (ldI S r7 x4).bind fun v8 =>
      (some ((1 : Int32) <<< (v8 &&& 31))).bind fun v9 =>
      (gR 9 5 S a0).bind fun r10 =>
      (ldI S r10 x4).bind fun v11 =>
      (some ((1 : Int32) <<< (v11 &&& 31))).bind fun v12 =>
      (gR 9 7 S a0).bind fun r13 =>
      (ldJ S r13 (6 : Int32)).bind fun u14 =>
      (f_X9_has (u14 ||| x1.toInt64) x4).bind fun v15 =>
      (if v15 = (0 : Int32) then
      f_X9_reached_b75 S k10 (fun a0 x1 x2 x3 x4 => f_X9_reached_b21 S k10 n a0 x1 x2 x3 x4) a0 x1 x2 x3 x4 v9 v12 (1 : Int32)
      else
      f_X9_reached_b75 S k10 (fun a0 x1 x2 x3 x4 => f_X9_reached_b21 S k10 n a0 x1 x2 x3 x4) a0 x1 x2 x3 x4 v9 v12 (0 : Int32)))
def f_X9_reached_b10 (S : Mem) : Nat → Nat → Int32 → Int32 → Int32 → Option Int32
  | 0, _, _, _, _ => none
  | n + 1, a0, x1, x2, x3 =>
    (gI 9 1 S a0).bind fun v4 =>
      (if v4 ≤ x3 then
      some x2
      else
      f_X9_reached_b21 S (fun a0 x1 x2 x3 => f_X9_reached_b10 S  n a0 x1 x2 x3) FU a0 x1 x2 x3 (0 : Int32))
def f_X9_reached (a0 : Nat) (x1 : Int32) (S : Mem) : Option Int32 :=
    (ck 9 S a0).bind fun c1 =>
      (f_X9_at a0 (2 : Int32) S).bind fun v2 =>
      (some ((1 : Int32) <<< (v2 &&& 31))).bind fun v3 =>
      f_X9_reached_b10 S FU a0 x1 v3 (0 : Int32)
set_option maxHeartbeats 4000000 in
set_option maxRecDepth 100000 in
theorem w_X9_reached_b155 {p : Program} {l : Launch} {e : Env} {s : State} {m : MethodId} {args : Array Value} {below : List Frame} {meth : Method} {c : Code} {b0 : Nat} {D : va_G} {cy : Nat → ClassId} {S : Mem} {q : Int32} (C0 : Cx p m c cX9_reached 8 s args RX9 D cy) (hr : meth.sig.returnType = some .int) (hlocks : meth.locks = false) (k10 : Nat → Int32 → Int32 → Int32 → Option Int32) (hk10 : ∀ (a0 : Nat) (x1 : Int32) (x2 : Int32) (x3 : Int32) (H : Heap) (locs : List Loc) (ls : Array Slot), Wd b0 D cy S s.heap H locs → lv_has ls 8 [(0, .ref (b0 + a0)), (1, .int x1), (2, .int x2), (3, .int x3)] → k10 a0 x1 x2 x3 = some q → W p l e rm_X9_reached s m args below meth c H locs 0 0 (MQ below (Qp b0 D cy (some (.int q)) S) args s 0 0 (fun q => b0 ≤ q)) (F0 m 10 ls [])) (k21 : Nat → Int32 → Int32 → Int32 → Int32 → Option Int32) (hk21 : ∀ (a0 : Nat) (x1 : Int32) (x2 : Int32) (x3 : Int32) (x4 : Int32) (H : Heap) (locs : List Loc) (ls : Array Slot), Wd b0 D cy S s.heap H locs → lv_has ls 8 [(0, .ref (b0 + a0)), (1, .int x1), (2, .int x2), (3, .int x3), (4, .int x4)] → k21 a0 x1 x2 x3 x4 = some q → W p l e rm_X9_reached s m args below meth c H locs 0 0 (MQ below (Qp b0 D cy (some (.int q)) S) args s 0 0 (fun q => b0 ≤ q)) (F0 m 21 ls [])) : ∀ (a0 : Nat) (x1 : Int32) (x3 : Int32) (x4 : Int32) (t0 : Int32) (t1 : Int32) (H : Heap) (locs : List Loc) (ls : Array Slot), Wd b0 D cy S s.heap H locs → lv_has ls 8 [(0, .ref (b0 + a0)), (1, .int x1), (3, .int x3), (4, .int x4)] → f_X9_reached_b155 S k10 k21 a0 x1 x3 x4 t0 t1 = some q → W p l e rm_X9_reached s m args below meth c H locs 0 0 (MQ below (Qp b0 D cy (some (.int q)) S) args s 0 0 (fun q => b0 ≤ q)) (F0 m 155 ls [.int t0, .int t1]) := by
  intro a0 x1 x3 x4 t0 t1 H locs ls hw hl h
  rw [f_X9_reached_b155] at h
  refine lv_ior C0.hx C0.hb dX9_reached_155 ?_
  obtain ⟨v17, hv17, h⟩ := Option.bind_eq_some_iff.mp h
  refine q_nmI hv17 ?_
  refine lv_istore_n (lv' := [(2, .int v17), (0, .ref (b0 + a0)), (1, .int x1), (3, .int x3), (4, .int x4)]) C0.hx C0.hb dX9_reached_156 rfl hl (by decide) rfl (fun ls hl => ?_)
  obtain ⟨v18, hv18, h⟩ := Option.bind_eq_some_iff.mp h
  refine lv_iinc (v := v18) (lv' := [(4, .int v18), (2, .int v17), (0, .ref (b0 + a0)), (1, .int x1), (3, .int x3)]) C0.hx C0.hb dX9_reached_157 hl (k := 4) rfl (by rw [← Option.some.inj hv18]; rfl) (by decide) rfl (fun ls hl => ?_)
  refine lv_goto (tgt := 21) C0.hx C0.hb dX9_reached_160 (by decide) ?_
  exact hk21 a0 x1 v17 x3 v18 _ _ _ hw (lv_sub hl [2, 3, 1, 4, 0] rfl) h
set_option maxHeartbeats 4000000 in
set_option maxRecDepth 100000 in
theorem w_X9_reached_b154 {p : Program} {l : Launch} {e : Env} {s : State} {m : MethodId} {args : Array Value} {below : List Frame} {meth : Method} {c : Code} {b0 : Nat} {D : va_G} {cy : Nat → ClassId} {S : Mem} {q : Int32} (C0 : Cx p m c cX9_reached 8 s args RX9 D cy) (hr : meth.sig.returnType = some .int) (hlocks : meth.locks = false) (k10 : Nat → Int32 → Int32 → Int32 → Option Int32) (hk10 : ∀ (a0 : Nat) (x1 : Int32) (x2 : Int32) (x3 : Int32) (H : Heap) (locs : List Loc) (ls : Array Slot), Wd b0 D cy S s.heap H locs → lv_has ls 8 [(0, .ref (b0 + a0)), (1, .int x1), (2, .int x2), (3, .int x3)] → k10 a0 x1 x2 x3 = some q → W p l e rm_X9_reached s m args below meth c H locs 0 0 (MQ below (Qp b0 D cy (some (.int q)) S) args s 0 0 (fun q => b0 ≤ q)) (F0 m 10 ls [])) (k21 : Nat → Int32 → Int32 → Int32 → Int32 → Option Int32) (hk21 : ∀ (a0 : Nat) (x1 : Int32) (x2 : Int32) (x3 : Int32) (x4 : Int32) (H : Heap) (locs : List Loc) (ls : Array Slot), Wd b0 D cy S s.heap H locs → lv_has ls 8 [(0, .ref (b0 + a0)), (1, .int x1), (2, .int x2), (3, .int x3), (4, .int x4)] → k21 a0 x1 x2 x3 x4 = some q → W p l e rm_X9_reached s m args below meth c H locs 0 0 (MQ below (Qp b0 D cy (some (.int q)) S) args s 0 0 (fun q => b0 ≤ q)) (F0 m 21 ls [])) : ∀ (a0 : Nat) (x1 : Int32) (x3 : Int32) (x4 : Int32) (t0 : Int32) (H : Heap) (locs : List Loc) (ls : Array Slot), Wd b0 D cy S s.heap H locs → lv_has ls 8 [(0, .ref (b0 + a0)), (1, .int x1), (3, .int x3), (4, .int x4)] → f_X9_reached_b154 S k10 k21 a0 x1 x3 x4 t0 = some q → W p l e rm_X9_reached s m args below meth c H locs 0 0 (MQ below (Qp b0 D cy (some (.int q)) S) args s 0 0 (fun q => b0 ≤ q)) (F0 m 154 ls [.int t0]) := by
  intro a0 x1 x3 x4 t0 H locs ls hw hl h
  rw [f_X9_reached_b154] at h
  refine lv_iconst (v := (0 : Int32)) C0.hx C0.hb dX9_reached_154 (by decide) ?_
  exact w_X9_reached_b155 C0 hr hlocks k10 hk10 k21 hk21 a0 x1 x3 x4 (0 : Int32) t0 _ _ _ hw (lv_sub hl [0, 1, 2, 3] rfl) h
set_option maxHeartbeats 4000000 in
set_option maxRecDepth 100000 in
theorem w_X9_reached_b115 {p : Program} {l : Launch} {e : Env} {s : State} {m : MethodId} {args : Array Value} {below : List Frame} {meth : Method} {c : Code} {b0 : Nat} {D : va_G} {cy : Nat → ClassId} {S : Mem} {q : Int32} (C0 : Cx p m c cX9_reached 8 s args RX9 D cy) (hr : meth.sig.returnType = some .int) (hlocks : meth.locks = false) (k10 : Nat → Int32 → Int32 → Int32 → Option Int32) (hk10 : ∀ (a0 : Nat) (x1 : Int32) (x2 : Int32) (x3 : Int32) (H : Heap) (locs : List Loc) (ls : Array Slot), Wd b0 D cy S s.heap H locs → lv_has ls 8 [(0, .ref (b0 + a0)), (1, .int x1), (2, .int x2), (3, .int x3)] → k10 a0 x1 x2 x3 = some q → W p l e rm_X9_reached s m args below meth c H locs 0 0 (MQ below (Qp b0 D cy (some (.int q)) S) args s 0 0 (fun q => b0 ≤ q)) (F0 m 10 ls [])) (k21 : Nat → Int32 → Int32 → Int32 → Int32 → Option Int32) (hk21 : ∀ (a0 : Nat) (x1 : Int32) (x2 : Int32) (x3 : Int32) (x4 : Int32) (H : Heap) (locs : List Loc) (ls : Array Slot), Wd b0 D cy S s.heap H locs → lv_has ls 8 [(0, .ref (b0 + a0)), (1, .int x1), (2, .int x2), (3, .int x3), (4, .int x4)] → k21 a0 x1 x2 x3 x4 = some q → W p l e rm_X9_reached s m args below meth c H locs 0 0 (MQ below (Qp b0 D cy (some (.int q)) S) args s 0 0 (fun q => b0 ≤ q)) (F0 m 21 ls [])) : ∀ (a0 : Nat) (x1 : Int32) (x3 : Int32) (x4 : Int32) (x5 : Int32) (x6 : Int32) (x7 : Int32) (t0 : Int32) (t1 : Int32) (H : Heap) (locs : List Loc) (ls : Array Slot), Wd b0 D cy S s.heap H locs → lv_has ls 8 [(0, .ref (b0 + a0)), (1, .int x1), (3, .int x3), (4, .int x4), (5, .int x5), (6, .int x6), (7, .int x7)] → f_X9_reached_b115 S k10 k21 a0 x1 x3 x4 x5 x6 x7 t0 t1 = some q → W p l e rm_X9_reached s m args below meth c H locs 0 0 (MQ below (Qp b0 D cy (some (.int q)) S) args s 0 0 (fun q => b0 ≤ q)) (F0 m 115 ls [.int t0, .int t1]) := by
  intro a0 x1 x3 x4 x5 x6 x7 t0 t1 H locs ls hw hl h
  rw [f_X9_reached_b115] at h
  refine lv_ior C0.hx C0.hb dX9_reached_115 ?_
  obtain ⟨v16, hv16, h⟩ := Option.bind_eq_some_iff.mp h
  refine q_nmI hv16 ?_
  refine lv_istore_n (lv' := [(2, .int v16), (0, .ref (b0 + a0)), (1, .int x1), (3, .int x3), (4, .int x4), (5, .int x5), (6, .int x6), (7, .int x7)]) C0.hx C0.hb dX9_reached_116 rfl hl (by decide) rfl (fun ls hl => ?_)
  refine lv_iload_n C0.hx C0.hb dX9_reached_117 rfl (lv_at hl 0 rfl) ?_
  refine lv_iload C0.hx C0.hb dX9_reached_118 (lv_at hl 7 rfl) ?_
  refine lv_if_eq (tgt := 154) C0.hx C0.hb dX9_reached_120 (by decide) (fun hc => ?_) (fun hc => ?_)
  · have h := (if_pos hc).symm.trans h
    exact w_X9_reached_b154 C0 hr hlocks k10 hk10 k21 hk21 a0 x1 x3 x4 v16 _ _ _ hw (lv_sub hl [1, 2, 3, 4] rfl) h
  · have h := (if_neg hc).symm.trans h
    refine lv_iload_n C0.hx C0.hb dX9_reached_123 rfl (lv_at hl 0 rfl) ?_
    refine lv_iload C0.hx C0.hb dX9_reached_124 (lv_at hl 6 rfl) ?_
    refine lv_iand C0.hx C0.hb dX9_reached_126 ?_
    refine lv_if_eq (tgt := 154) C0.hx C0.hb dX9_reached_127 (by decide) (fun hc => ?_) (fun hc => ?_)
    · have h := (if_pos hc).symm.trans h
      exact w_X9_reached_b154 C0 hr hlocks k10 hk10 k21 hk21 a0 x1 x3 x4 v16 _ _ _ hw (lv_sub hl [1, 2, 3, 4] rfl) h
    · have h := (if_neg hc).symm.trans h
      refine lv_aload_n C0.hx C0.hb dX9_reached_130 rfl (lv_at hl 1 rfl) ?_
      obtain ⟨r19, hr19, h⟩ := Option.bind_eq_some_iff.mp h
      refine q_getR C0 hw hr19 rfl in_9 (by decide) kw_869 dX9_reached_131 ?_
      refine lv_iconst (v := (5 : Int32)) C0.hx C0.hb dX9_reached_134 (by decide) ?_
      obtain ⟨u20, hu20, h⟩ := Option.bind_eq_some_iff.mp h
      refine q_ldJ C0 hw hu20 dX9_reached_135 ?_
      refine lv_aload_n C0.hx C0.hb dX9_reached_136 rfl (lv_at hl 1 rfl) ?_
      obtain ⟨r21, hr21, h⟩ := Option.bind_eq_some_iff.mp h
      refine q_getR C0 hw hr21 rfl in_9 (by decide) kw_866 dX9_reached_137 ?_
      refine lv_iload C0.hx C0.hb dX9_reached_140 (lv_at hl 4 rfl) ?_
      obtain ⟨v22, hv22, h⟩ := Option.bind_eq_some_iff.mp h
      refine q_ldI C0 hw hv22 dX9_reached_142 ?_
      obtain ⟨v23, hv23, h⟩ := Option.bind_eq_some_iff.mp h
      refine q_callS (n := 2) (av := [.long u20, .int v22]) (rest := [.int v16]) (st1 := [.int v23, .int v16]) C0 hw (m_X9_has l b0 D cy S u20 v22 hv23) (goodS kw_1026 kw_1027 kw_72 kw_1028) ⟨rfl, rfl⟩ (by decide +kernel) ⟨(Nat.le_of_ble_eq_true rfl), (Nat.le_of_ble_eq_true rfl)⟩ rfl hl.1 rfl (Nat.le_of_ble_eq_true rfl) dX9_reached_143 ⟨Nat.zero_le _, Nat.zero_le _⟩ rfl (fun H locs hw => ?_)
      refine lv_if_ne (tgt := 154) C0.hx C0.hb dX9_reached_146 (by decide) (fun hc => ?_) (fun hc => ?_)
      · have h := (if_neg hc).symm.trans h
        exact w_X9_reached_b154 C0 hr hlocks k10 hk10 k21 hk21 a0 x1 x3 x4 v16 _ _ _ hw (lv_sub hl [1, 2, 3, 4] rfl) h
      · have h := (if_pos hc).symm.trans h
        refine lv_iload C0.hx C0.hb dX9_reached_149 (lv_at hl 5 rfl) ?_
        refine lv_goto (tgt := 155) C0.hx C0.hb dX9_reached_151 (by decide) ?_
        exact w_X9_reached_b155 C0 hr hlocks k10 hk10 k21 hk21 a0 x1 x3 x4 x5 v16 _ _ _ hw (lv_sub hl [1, 2, 3, 4] rfl) h
set_option maxHeartbeats 4000000 in
set_option maxRecDepth 100000 in
theorem w_X9_reached_b114 {p : Program} {l : Launch} {e : Env} {s : State} {m : MethodId} {args : Array Value} {below : List Frame} {meth : Method} {c : Code} {b0 : Nat} {D : va_G} {cy : Nat → ClassId} {S : Mem} {q : Int32} (C0 : Cx p m c cX9_reached 8 s args RX9 D cy) (hr : meth.sig.returnType = some .int) (hlocks : meth.locks = false) (k10 : Nat → Int32 → Int32 → Int32 → Option Int32) (hk10 : ∀ (a0 : Nat) (x1 : Int32) (x2 : Int32) (x3 : Int32) (H : Heap) (locs : List Loc) (ls : Array Slot), Wd b0 D cy S s.heap H locs → lv_has ls 8 [(0, .ref (b0 + a0)), (1, .int x1), (2, .int x2), (3, .int x3)] → k10 a0 x1 x2 x3 = some q → W p l e rm_X9_reached s m args below meth c H locs 0 0 (MQ below (Qp b0 D cy (some (.int q)) S) args s 0 0 (fun q => b0 ≤ q)) (F0 m 10 ls [])) (k21 : Nat → Int32 → Int32 → Int32 → Int32 → Option Int32) (hk21 : ∀ (a0 : Nat) (x1 : Int32) (x2 : Int32) (x3 : Int32) (x4 : Int32) (H : Heap) (locs : List Loc) (ls : Array Slot), Wd b0 D cy S s.heap H locs → lv_has ls 8 [(0, .ref (b0 + a0)), (1, .int x1), (2, .int x2), (3, .int x3), (4, .int x4)] → k21 a0 x1 x2 x3 x4 = some q → W p l e rm_X9_reached s m args below meth c H locs 0 0 (MQ below (Qp b0 D cy (some (.int q)) S) args s 0 0 (fun q => b0 ≤ q)) (F0 m 21 ls [])) : ∀ (a0 : Nat) (x1 : Int32) (x3 : Int32) (x4 : Int32) (x5 : Int32) (x6 : Int32) (x7 : Int32) (t0 : Int32) (H : Heap) (locs : List Loc) (ls : Array Slot), Wd b0 D cy S s.heap H locs → lv_has ls 8 [(0, .ref (b0 + a0)), (1, .int x1), (3, .int x3), (4, .int x4), (5, .int x5), (6, .int x6), (7, .int x7)] → f_X9_reached_b114 S k10 k21 a0 x1 x3 x4 x5 x6 x7 t0 = some q → W p l e rm_X9_reached s m args below meth c H locs 0 0 (MQ below (Qp b0 D cy (some (.int q)) S) args s 0 0 (fun q => b0 ≤ q)) (F0 m 114 ls [.int t0]) := by
  intro a0 x1 x3 x4 x5 x6 x7 t0 H locs ls hw hl h
  rw [f_X9_reached_b114] at h
  refine lv_iconst (v := (0 : Int32)) C0.hx C0.hb dX9_reached_114 (by decide) ?_
  exact w_X9_reached_b115 C0 hr hlocks k10 hk10 k21 hk21 a0 x1 x3 x4 x5 x6 x7 (0 : Int32) t0 _ _ _ hw (lv_sub hl [0, 1, 2, 3, 4, 5, 6] rfl) h
set_option maxHeartbeats 4000000 in
set_option maxRecDepth 100000 in
theorem w_X9_reached_b75 {p : Program} {l : Launch} {e : Env} {s : State} {m : MethodId} {args : Array Value} {below : List Frame} {meth : Method} {c : Code} {b0 : Nat} {D : va_G} {cy : Nat → ClassId} {S : Mem} {q : Int32} (C0 : Cx p m c cX9_reached 8 s args RX9 D cy) (hr : meth.sig.returnType = some .int) (hlocks : meth.locks = false) (k10 : Nat → Int32 → Int32 → Int32 → Option Int32) (hk10 : ∀ (a0 : Nat) (x1 : Int32) (x2 : Int32) (x3 : Int32) (H : Heap) (locs : List Loc) (ls : Array Slot), Wd b0 D cy S s.heap H locs → lv_has ls 8 [(0, .ref (b0 + a0)), (1, .int x1), (2, .int x2), (3, .int x3)] → k10 a0 x1 x2 x3 = some q → W p l e rm_X9_reached s m args below meth c H locs 0 0 (MQ below (Qp b0 D cy (some (.int q)) S) args s 0 0 (fun q => b0 ≤ q)) (F0 m 10 ls [])) (k21 : Nat → Int32 → Int32 → Int32 → Int32 → Option Int32) (hk21 : ∀ (a0 : Nat) (x1 : Int32) (x2 : Int32) (x3 : Int32) (x4 : Int32) (H : Heap) (locs : List Loc) (ls : Array Slot), Wd b0 D cy S s.heap H locs → lv_has ls 8 [(0, .ref (b0 + a0)), (1, .int x1), (2, .int x2), (3, .int x3), (4, .int x4)] → k21 a0 x1 x2 x3 x4 = some q → W p l e rm_X9_reached s m args below meth c H locs 0 0 (MQ below (Qp b0 D cy (some (.int q)) S) args s 0 0 (fun q => b0 ≤ q)) (F0 m 21 ls [])) : ∀ (a0 : Nat) (x1 : Int32) (x2 : Int32) (x3 : Int32) (x4 : Int32) (x5 : Int32) (x6 : Int32) (t0 : Int32) (H : Heap) (locs : List Loc) (ls : Array Slot), Wd b0 D cy S s.heap H locs → lv_has ls 8 [(0, .ref (b0 + a0)), (1, .int x1), (2, .int x2), (3, .int x3), (4, .int x4), (5, .int x5), (6, .int x6)] → f_X9_reached_b75 S k10 k21 a0 x1 x2 x3 x4 x5 x6 t0 = some q → W p l e rm_X9_reached s m args below meth c H locs 0 0 (MQ below (Qp b0 D cy (some (.int q)) S) args s 0 0 (fun q => b0 ≤ q)) (F0 m 75 ls [.int t0]) := by
  intro a0 x1 x2 x3 x4 x5 x6 t0 H locs ls hw hl h
  rw [f_X9_reached_b75] at h
  refine lv_istore (lv' := [(7, .int t0), (0, .ref (b0 + a0)), (1, .int x1), (2, .int x2), (3, .int x3), (4, .int x4), (5, .int x5), (6, .int x6)]) C0.hx C0.hb dX9_reached_75 hl (by decide) rfl (fun ls hl => ?_)
  refine lv_iload_n C0.hx C0.hb dX9_reached_77 rfl (lv_at hl 3 rfl) ?_
  refine lv_iload C0.hx C0.hb dX9_reached_78 (lv_at hl 0 rfl) ?_
  refine lv_if_eq (tgt := 114) C0.hx C0.hb dX9_reached_80 (by decide) (fun hc => ?_) (fun hc => ?_)
  · have h := (if_pos hc).symm.trans h
    exact w_X9_reached_b114 C0 hr hlocks k10 hk10 k21 hk21 a0 x1 x3 x4 x5 x6 t0 x2 _ _ _ hw (lv_sub hl [1, 2, 4, 5, 6, 7, 0] rfl) h
  · have h := (if_neg hc).symm.trans h
    refine lv_iload_n C0.hx C0.hb dX9_reached_83 rfl (lv_at hl 3 rfl) ?_
    refine lv_iload C0.hx C0.hb dX9_reached_84 (lv_at hl 6 rfl) ?_
    refine lv_iand C0.hx C0.hb dX9_reached_86 ?_
    refine lv_if_eq (tgt := 114) C0.hx C0.hb dX9_reached_87 (by decide) (fun hc => ?_) (fun hc => ?_)
    · have h := (if_pos hc).symm.trans h
      exact w_X9_reached_b114 C0 hr hlocks k10 hk10 k21 hk21 a0 x1 x3 x4 x5 x6 t0 x2 _ _ _ hw (lv_sub hl [1, 2, 4, 5, 6, 7, 0] rfl) h
    · have h := (if_neg hc).symm.trans h
      refine lv_aload_n C0.hx C0.hb dX9_reached_90 rfl (lv_at hl 1 rfl) ?_
      obtain ⟨r24, hr24, h⟩ := Option.bind_eq_some_iff.mp h
      refine q_getR C0 hw hr24 rfl in_9 (by decide) kw_869 dX9_reached_91 ?_
      refine lv_iconst (v := (5 : Int32)) C0.hx C0.hb dX9_reached_94 (by decide) ?_
      obtain ⟨u25, hu25, h⟩ := Option.bind_eq_some_iff.mp h
      refine q_ldJ C0 hw hu25 dX9_reached_95 ?_
      refine lv_aload_n C0.hx C0.hb dX9_reached_96 rfl (lv_at hl 1 rfl) ?_
      obtain ⟨r26, hr26, h⟩ := Option.bind_eq_some_iff.mp h
      refine q_getR C0 hw hr26 rfl in_9 (by decide) kw_867 dX9_reached_97 ?_
      refine lv_iload C0.hx C0.hb dX9_reached_100 (lv_at hl 5 rfl) ?_
      obtain ⟨v27, hv27, h⟩ := Option.bind_eq_some_iff.mp h
      refine q_ldI C0 hw hv27 dX9_reached_102 ?_
      obtain ⟨v28, hv28, h⟩ := Option.bind_eq_some_iff.mp h
      refine q_callS (n := 2) (av := [.long u25, .int v27]) (rest := [.int x2]) (st1 := [.int v28, .int x2]) C0 hw (m_X9_has l b0 D cy S u25 v27 hv28) (goodS kw_1026 kw_1027 kw_72 kw_1028) ⟨rfl, rfl⟩ (by decide +kernel) ⟨(Nat.le_of_ble_eq_true rfl), (Nat.le_of_ble_eq_true rfl)⟩ rfl hl.1 rfl (Nat.le_of_ble_eq_true rfl) dX9_reached_103 ⟨Nat.zero_le _, Nat.zero_le _⟩ rfl (fun H locs hw => ?_)
      refine lv_if_ne (tgt := 114) C0.hx C0.hb dX9_reached_106 (by decide) (fun hc => ?_) (fun hc => ?_)
      · have h := (if_neg hc).symm.trans h
        exact w_X9_reached_b114 C0 hr hlocks k10 hk10 k21 hk21 a0 x1 x3 x4 x5 x6 t0 x2 _ _ _ hw (lv_sub hl [1, 2, 4, 5, 6, 7, 0] rfl) h
      · have h := (if_pos hc).symm.trans h
        refine lv_iload C0.hx C0.hb dX9_reached_109 (lv_at hl 7 rfl) ?_
        refine lv_goto (tgt := 115) C0.hx C0.hb dX9_reached_111 (by decide) ?_
        exact w_X9_reached_b115 C0 hr hlocks k10 hk10 k21 hk21 a0 x1 x3 x4 x5 x6 t0 x6 x2 _ _ _ hw (lv_sub hl [1, 2, 4, 5, 6, 7, 0] rfl) h
set_option maxHeartbeats 4000000 in
set_option maxRecDepth 100000 in
theorem w_X9_reached_b21 {p : Program} {l : Launch} {e : Env} {s : State} {m : MethodId} {args : Array Value} {below : List Frame} {meth : Method} {c : Code} {b0 : Nat} {D : va_G} {cy : Nat → ClassId} {S : Mem} {q : Int32} (C0 : Cx p m c cX9_reached 8 s args RX9 D cy) (hr : meth.sig.returnType = some .int) (hlocks : meth.locks = false) (k10 : Nat → Int32 → Int32 → Int32 → Option Int32) (hk10 : ∀ (a0 : Nat) (x1 : Int32) (x2 : Int32) (x3 : Int32) (H : Heap) (locs : List Loc) (ls : Array Slot), Wd b0 D cy S s.heap H locs → lv_has ls 8 [(0, .ref (b0 + a0)), (1, .int x1), (2, .int x2), (3, .int x3)] → k10 a0 x1 x2 x3 = some q → W p l e rm_X9_reached s m args below meth c H locs 0 0 (MQ below (Qp b0 D cy (some (.int q)) S) args s 0 0 (fun q => b0 ≤ q)) (F0 m 10 ls [])) : ∀ (n : Nat) (a0 : Nat) (x1 : Int32) (x2 : Int32) (x3 : Int32) (x4 : Int32) (H : Heap) (locs : List Loc) (ls : Array Slot), Wd b0 D cy S s.heap H locs → lv_has ls 8 [(0, .ref (b0 + a0)), (1, .int x1), (2, .int x2), (3, .int x3), (4, .int x4)] → f_X9_reached_b21 S k10 n a0 x1 x2 x3 x4 = some q → W p l e rm_X9_reached s m args below meth c H locs 0 0 (MQ below (Qp b0 D cy (some (.int q)) S) args s 0 0 (fun q => b0 ≤ q)) (F0 m 21 ls []) := by
  intro n
  induction n with
  | zero => intro a0 x1 x2 x3 x4 H locs ls hw hl h; exact absurd h (by simp [f_X9_reached_b21])
  | succ n ih =>
    intro a0 x1 x2 x3 x4 H locs ls hw hl h
    rw [f_X9_reached_b21] at h
    refine lv_iload C0.hx C0.hb dX9_reached_21 (lv_at hl 4 rfl) ?_
    refine lv_aload_n C0.hx C0.hb dX9_reached_23 rfl (lv_at hl 0 rfl) ?_
    obtain ⟨v5, hv5, h⟩ := Option.bind_eq_some_iff.mp h
    refine q_getI C0 hw hv5 rfl in_9 (by decide) kw_864 dX9_reached_24 ?_
    refine lv_icmp_ge (tgt := 163) C0.hx C0.hb dX9_reached_27 (by decide) (fun hc => ?_) (fun hc => ?_)
    · have h := (if_pos hc).symm.trans h
      obtain ⟨v6, hv6, h⟩ := Option.bind_eq_some_iff.mp h
      refine lv_iinc (v := v6) (lv' := [(3, .int v6), (0, .ref (b0 + a0)), (1, .int x1), (2, .int x2), (4, .int x4)]) C0.hx C0.hb dX9_reached_163 hl (k := 3) rfl (by rw [← Option.some.inj hv6]; rfl) (by decide) rfl (fun ls hl => ?_)
      refine lv_goto (tgt := 10) C0.hx C0.hb dX9_reached_166 (by decide) ?_
      exact hk10 a0 x1 x2 v6 _ _ _ hw (lv_sub hl [1, 2, 3, 0] rfl) h
    · have h := (if_neg hc).symm.trans h
      refine lv_iconst (v := (1 : Int32)) C0.hx C0.hb dX9_reached_30 (by decide) ?_
      refine lv_aload_n C0.hx C0.hb dX9_reached_31 rfl (lv_at hl 0 rfl) ?_
      obtain ⟨r7, hr7, h⟩ := Option.bind_eq_some_iff.mp h
      refine q_getR C0 hw hr7 rfl in_9 (by decide) kw_866 dX9_reached_32 ?_
      refine lv_iload C0.hx C0.hb dX9_reached_35 (lv_at hl 4 rfl) ?_
      obtain ⟨v8, hv8, h⟩ := Option.bind_eq_some_iff.mp h
      refine q_ldI C0 hw hv8 dX9_reached_37 ?_
      refine lv_ishl C0.hx C0.hb dX9_reached_38 ?_
      obtain ⟨v9, hv9, h⟩ := Option.bind_eq_some_iff.mp h
      refine q_nmI hv9 ?_
      refine lv_istore (lv' := [(5, .int v9), (0, .ref (b0 + a0)), (1, .int x1), (2, .int x2), (3, .int x3), (4, .int x4)]) C0.hx C0.hb dX9_reached_39 hl (by decide) rfl (fun ls hl => ?_)
      refine lv_iconst (v := (1 : Int32)) C0.hx C0.hb dX9_reached_41 (by decide) ?_
      refine lv_aload_n C0.hx C0.hb dX9_reached_42 rfl (lv_at hl 1 rfl) ?_
      obtain ⟨r10, hr10, h⟩ := Option.bind_eq_some_iff.mp h
      refine q_getR C0 hw hr10 rfl in_9 (by decide) kw_867 dX9_reached_43 ?_
      refine lv_iload C0.hx C0.hb dX9_reached_46 (lv_at hl 5 rfl) ?_
      obtain ⟨v11, hv11, h⟩ := Option.bind_eq_some_iff.mp h
      refine q_ldI C0 hw hv11 dX9_reached_48 ?_
      refine lv_ishl C0.hx C0.hb dX9_reached_49 ?_
      obtain ⟨v12, hv12, h⟩ := Option.bind_eq_some_iff.mp h
      refine q_nmI hv12 ?_
      refine lv_istore (lv' := [(6, .int v12), (5, .int v9), (0, .ref (b0 + a0)), (1, .int x1), (2, .int x2), (3, .int x3), (4, .int x4)]) C0.hx C0.hb dX9_reached_50 hl (by decide) rfl (fun ls hl => ?_)
      refine lv_aload_n C0.hx C0.hb dX9_reached_52 rfl (lv_at hl 2 rfl) ?_
      obtain ⟨r13, hr13, h⟩ := Option.bind_eq_some_iff.mp h
      refine q_getR C0 hw hr13 rfl in_9 (by decide) kw_869 dX9_reached_53 ?_
      refine lv_bipush (v := (6 : Int32)) C0.hx C0.hb dX9_reached_56 (by decide) ?_
      obtain ⟨u14, hu14, h⟩ := Option.bind_eq_some_iff.mp h
      refine q_ldJ C0 hw hu14 dX9_reached_58 ?_
      refine lv_iload_n C0.hx C0.hb dX9_reached_59 rfl (lv_at hl 3 rfl) ?_
      refine lv_i2l C0.hx C0.hb dX9_reached_60 rfl ?_
      refine lv_lor C0.hx C0.hb dX9_reached_61 ?_
      refine lv_iload C0.hx C0.hb dX9_reached_62 (lv_at hl 6 rfl) ?_
      obtain ⟨v15, hv15, h⟩ := Option.bind_eq_some_iff.mp h
      refine q_callS (n := 2) (av := [.long (u14 ||| x1.toInt64), .int x4]) (rest := []) (st1 := [.int v15]) C0 hw (m_X9_has l b0 D cy S (u14 ||| x1.toInt64) x4 hv15) (goodS kw_1026 kw_1027 kw_72 kw_1028) ⟨rfl, rfl⟩ (by decide +kernel) ⟨(Nat.le_of_ble_eq_true rfl), (Nat.le_of_ble_eq_true rfl)⟩ rfl hl.1 rfl (Nat.le_of_ble_eq_true rfl) dX9_reached_64 ⟨Nat.zero_le _, Nat.zero_le _⟩ rfl (fun H locs hw => ?_)
      refine lv_if_ne (tgt := 74) C0.hx C0.hb dX9_reached_67 (by decide) (fun hc => ?_) (fun hc => ?_)
      · have h := (if_neg hc).symm.trans h
        refine lv_iconst (v := (0 : Int32)) C0.hx C0.hb dX9_reached_74 (by decide) ?_
        exact w_X9_reached_b75 C0 hr hlocks k10 hk10 (fun a0 x1 x2 x3 x4 => f_X9_reached_b21 S k10 n a0 x1 x2 x3 x4) ih a0 x1 x2 x3 x4 v9 v12 (0 : Int32) _ _ _ hw (lv_sub hl [2, 3, 4, 5, 6, 1, 0] rfl) h
      · have h := (if_pos hc).symm.trans h
        refine lv_iconst (v := (1 : Int32)) C0.hx C0.hb dX9_reached_70 (by decide) ?_
        refine lv_goto (tgt := 75) C0.hx C0.hb dX9_reached_71 (by decide) ?_
        exact w_X9_reached_b75 C0 hr hlocks k10 hk10 (fun a0 x1 x2 x3 x4 => f_X9_reached_b21 S k10 n a0 x1 x2 x3 x4) ih a0 x1 x2 x3 x4 v9 v12 (1 : Int32) _ _ _ hw (lv_sub hl [2, 3, 4, 5, 6, 1, 0] rfl) h
set_option maxHeartbeats 4000000 in
set_option maxRecDepth 100000 in
theorem w_X9_reached_b10 {p : Program} {l : Launch} {e : Env} {s : State} {m : MethodId} {args : Array Value} {below : List Frame} {meth : Method} {c : Code} {b0 : Nat} {D : va_G} {cy : Nat → ClassId} {S : Mem} {q : Int32} (C0 : Cx p m c cX9_reached 8 s args RX9 D cy) (hr : meth.sig.returnType = some .int) (hlocks : meth.locks = false) : ∀ (n : Nat) (a0 : Nat) (x1 : Int32) (x2 : Int32) (x3 : Int32) (H : Heap) (locs : List Loc) (ls : Array Slot), Wd b0 D cy S s.heap H locs → lv_has ls 8 [(0, .ref (b0 + a0)), (1, .int x1), (2, .int x2), (3, .int x3)] → f_X9_reached_b10 S  n a0 x1 x2 x3 = some q → W p l e rm_X9_reached s m args below meth c H locs 0 0 (MQ below (Qp b0 D cy (some (.int q)) S) args s 0 0 (fun q => b0 ≤ q)) (F0 m 10 ls []) := by
  intro n
  induction n with
  | zero => intro a0 x1 x2 x3 H locs ls hw hl h; exact absurd h (by simp [f_X9_reached_b10])
  | succ n ih =>
    intro a0 x1 x2 x3 H locs ls hw hl h
    rw [f_X9_reached_b10] at h
    refine lv_iload_n C0.hx C0.hb dX9_reached_10 rfl (lv_at hl 3 rfl) ?_
    refine lv_aload_n C0.hx C0.hb dX9_reached_11 rfl (lv_at hl 0 rfl) ?_
    obtain ⟨v4, hv4, h⟩ := Option.bind_eq_some_iff.mp h
    refine q_getI C0 hw hv4 rfl in_9 (by decide) kw_863 dX9_reached_12 ?_
    refine lv_icmp_ge (tgt := 169) C0.hx C0.hb dX9_reached_15 (by decide) (fun hc => ?_) (fun hc => ?_)
    · have h := (if_pos hc).symm.trans h
      refine lv_iload_n C0.hx C0.hb dX9_reached_169 rfl (lv_at hl 2 rfl) ?_
      obtain rfl := Option.some.inj h
      exact q_reti C0 hw hr hlocks dX9_reached_170
    · have h := (if_neg hc).symm.trans h
      refine lv_iconst (v := (0 : Int32)) C0.hx C0.hb dX9_reached_18 (by decide) ?_
      refine lv_istore (lv' := [(4, .int (0 : Int32)), (0, .ref (b0 + a0)), (1, .int x1), (2, .int x2), (3, .int x3)]) C0.hx C0.hb dX9_reached_19 hl (by decide) rfl (fun ls hl => ?_)
      exact w_X9_reached_b21 C0 hr hlocks (fun a0 x1 x2 x3 => f_X9_reached_b10 S  n a0 x1 x2 x3) ih FU a0 x1 x2 x3 (0 : Int32) _ _ _ hw (lv_sub hl [1, 2, 3, 4, 0] rfl) h
set_option maxHeartbeats 4000000 in
set_option maxRecDepth 100000 in
theorem m_X9_reached (l : Launch) (b0 : Nat) (D : va_G) (cy : Nat → ClassId) (S : Mem) (a0 : Nat) (x1 : Int32) {q : Int32} (h : f_X9_reached a0 x1 S = some q) : Met l yX9_reached [.code yX9_reached cX9_reached 8 (some .int)] rm_X9_reached (Pr b0 D cy S [.ref (b0 + a0), .int x1]) (Qp b0 D cy (some (.int q)) S) 0 0 (fun q => b0 ≤ q) := by
  refine Met.ofW (cc := cX9_reached) (maxL := 8) (ret := some .int) (by decide) rfl ?_
  intro p e s m args below meth c s₁ B hml hv
  obtain ⟨rfl, hP, hK, hT⟩ := hv
  have C0 : Cx p m c cX9_reached 8 s (List.toArray [.ref (b0 + a0), .int x1]) RX9 D cy := ⟨⟨B.exec, B.bytes, hml, findClass_of_methodNamed B.named, fun w h => hT w h _⟩, hK, hT⟩
  have hr : meth.sig.returnType = some .int := B.returns
  have hlocks := B.notSynchronized
  have hw : Wd b0 D cy S s.heap s.heap [] := ⟨hP, va_S.rf⟩
  have hl := lv_entry ([.ref (b0 + a0), .int x1]) (n := 8) (Nat.le_of_ble_eq_true rfl)
  rw [lg_entry_eq]
  generalize (lg_sl ([.ref (b0 + a0), .int x1]) ++ List.replicate (8 - (lg_sl ([.ref (b0 + a0), .int x1])).length) Slot.unset).toArray = ls at hl ⊢
  have hl : lv_has ls 8 [(0, .ref (b0 + a0)), (1, .int x1)] := hl
  rw [f_X9_reached] at h
  show W p l e rm_X9_reached s m _ below meth c s.heap [] 0 0 _ _
  refine lv_iconst (v := (1 : Int32)) C0.hx C0.hb dX9_reached_0 (by decide) ?_
  refine lv_aload_n C0.hx C0.hb dX9_reached_1 rfl (lv_at hl 0 rfl) ?_
  refine lv_iconst (v := (2 : Int32)) C0.hx C0.hb dX9_reached_2 (by decide) ?_
  obtain ⟨c1, hc1, h⟩ := Option.bind_eq_some_iff.mp h
  obtain ⟨v2, hv2, h⟩ := Option.bind_eq_some_iff.mp h
  refine q_callV (n := 1) (av := [.int (2 : Int32)]) (rest := [.int (1 : Int32)]) (st1 := [.int v2, .int (1 : Int32)]) C0 hw (m_X9_at l b0 D cy S a0 (2 : Int32) hv2) hc1 rfl (by decide) (goodV kw_1013 kw_1015 kw_34 kw_72 kw_1016) ⟨rfl, rfl⟩ (by decide +kernel) ⟨(Nat.le_of_ble_eq_true rfl), (Nat.le_of_ble_eq_true rfl)⟩ rfl hl.1 rfl (Nat.le_of_ble_eq_true rfl) dX9_reached_3 ⟨Nat.zero_le _, Nat.zero_le _⟩ rfl (fun H locs hw => ?_)
  refine lv_ishl C0.hx C0.hb dX9_reached_6 ?_
  obtain ⟨v3, hv3, h⟩ := Option.bind_eq_some_iff.mp h
  refine q_nmI hv3 ?_
  refine lv_istore_n (lv' := [(2, .int v3), (0, .ref (b0 + a0)), (1, .int x1)]) C0.hx C0.hb dX9_reached_7 rfl hl (by decide) rfl (fun ls hl => ?_)
  refine lv_iconst (v := (0 : Int32)) C0.hx C0.hb dX9_reached_8 (by decide) ?_
  refine lv_istore_n (lv' := [(3, .int (0 : Int32)), (2, .int v3), (0, .ref (b0 + a0)), (1, .int x1)]) C0.hx C0.hb dX9_reached_9 rfl hl (by decide) rfl (fun ls hl => ?_)
  exact w_X9_reached_b10 C0 hr hlocks FU a0 x1 v3 (0 : Int32) _ _ _ hw (lv_sub hl [2, 3, 1, 0] rfl) h
abbrev rm_X9_bricks : Room := { frames := 2, cells := 0, slots := 0, locals := 49 }
def f_X9_bricks_b92 (S : Mem) (k26 : Nat → Int32 → Int32 → Int32 → Option Int32) (a0 : Nat) (x1 : Int32) (x3 : Int32) (t0 : Int32) : Option Int32 :=
    (some (x3 + (1 : Int32))).bind fun v8 =>
      k26 a0 x1 t0 v8
def f_X9_bricks_b91 (S : Mem) (k26 : Nat → Int32 → Int32 → Int32 → Option Int32) (a0 : Nat) (x1 : Int32) (x2 : Int32) (x3 : Int32) : Option Int32 :=
    f_X9_bricks_b92 S k26 a0 x1 x3 x2
def f_X9_bricks_b68 (S : Mem) (k26 : Nat → Int32 → Int32 → Int32 → Option Int32) (a0 : Nat) (x1 : Int32) (x2 : Int32) (x3 : Int32) (t0 : Int32) : Option Int32 :=
    (if t0 = (0 : Int32) then
      f_X9_bricks_b91 S k26 a0 x1 x2 x3
      else
      (ck 9 S a0).bind fun c9 =>
      (f_X9_reached a0 x3 S).bind fun v10 =>
      (if ((v10 >>> (x1 &&& 31)) &&& (1 : Int32)) = (0 : Int32) then
      f_X9_bricks_b92 S k26 a0 x1 x3 x3
      else
      f_X9_bricks_b91 S k26 a0 x1 x2 x3))
def f_X9_bricks_b63 (S : Mem) (k26 : Nat → Int32 → Int32 → Int32 → Option Int32) (a0 : Nat) (x1 : Int32) (x2 : Int32) (x3 : Int32) : Option Int32 :=
    f_X9_bricks_b68 S k26 a0 x1 x2 x3 (1 : Int32)
def f_X9_bricks_b67 (S : Mem) (k26 : Nat → Int32 → Int32 → Int32 → Option Int32) (a0 : Nat) (x1 : Int32) (x2 : Int32) (x3 : Int32) : Option Int32 :=
    f_X9_bricks_b68 S k26 a0 x1 x2 x3 (0 : Int32)
def f_X9_bricks_b26 (S : Mem) : Nat → Nat → Int32 → Int32 → Int32 → Option Int32
  | 0, _, _, _, _ => none
  | n + 1, a0, x1, x2, x3 =>
    (gI 9 2 S a0).bind fun v5 =>
      (if ((1 : Int32) <<< (v5 &&& 31)) ≤ x3 then
      some x2
      else
      (ck 9 S a0).bind fun c6 =>
      (f_X9_at a0 (6 : Int32) S).bind fun v7 =>
      (if (x3 &&& v7) = (0 : Int32) then
      (if x2 = (-1 : Int32) then
      f_X9_bricks_b63 S (fun a0 x1 x2 x3 => f_X9_bricks_b26 S  n a0 x1 x2 x3) a0 x1 x2 x3
      else
      (f_X9_many x3).bind fun v11 =>
      (f_X9_many x2).bind fun v12 =>
      (if v12 ≤ v11 then
      f_X9_bricks_b67 S (fun a0 x1 x2 x3 => f_X9_bricks_b26 S  n a0 x1 x2 x3) a0 x1 x2 x3
      else
      f_X9_bricks_b63 S (fun a0 x1 x2 x3 => f_X9_bricks_b26 S  n a0 x1 x2 x3) a0 x1 x2 x3))
      else
      f_X9_bricks_b67 S (fun a0 x1 x2 x3 => f_X9_bricks_b26 S  n a0 x1 x2 x3) a0 x1 x2 x3))
def f_X9_bricks (a0 : Nat) (x1 : Int32) (S : Mem) : Option Int32 :=
    (ck 9 S a0).bind fun c1 =>
      (f_X9_isRoom a0 x1 S).bind fun v2 =>
      (if v2 = (0 : Int32) then
      some (-1000000001 : Int32)
      else
      (ck 9 S a0).bind fun c3 =>
      (f_X9_at a0 (2 : Int32) S).bind fun v4 =>
      (if v4 = x1 then
      some (-1 : Int32)
      else
      f_X9_bricks_b26 S FU a0 x1 (-1 : Int32) (0 : Int32)))
set_option maxHeartbeats 4000000 in
set_option maxRecDepth 100000 in
theorem w_X9_bricks_b92 {p : Program} {l : Launch} {e : Env} {s : State} {m : MethodId} {args : Array Value} {below : List Frame} {meth : Method} {c : Code} {b0 : Nat} {D : va_G} {cy : Nat → ClassId} {S : Mem} {q : Int32} (C0 : Cx p m c cX9_bricks 5 s args RX9 D cy) (hr : meth.sig.returnType = some .int) (hlocks : meth.locks = false) (k26 : Nat → Int32 → Int32 → Int32 → Option Int32) (hk26 : ∀ (a0 : Nat) (x1 : Int32) (x2 : Int32) (x3 : Int32) (H : Heap) (locs : List Loc) (ls : Array Slot), Wd b0 D cy S s.heap H locs → lv_has ls 5 [(0, .ref (b0 + a0)), (1, .int x1), (2, .int x2), (3, .int x3)] → k26 a0 x1 x2 x3 = some q → W p l e rm_X9_bricks s m args below meth c H locs 0 0 (MQ below (Qp b0 D cy (some (.int q)) S) args s 0 0 (fun q => b0 ≤ q)) (F0 m 26 ls [])) : ∀ (a0 : Nat) (x1 : Int32) (x3 : Int32) (t0 : Int32) (H : Heap) (locs : List Loc) (ls : Array Slot), Wd b0 D cy S s.heap H locs → lv_has ls 5 [(0, .ref (b0 + a0)), (1, .int x1), (3, .int x3)] → f_X9_bricks_b92 S k26 a0 x1 x3 t0 = some q → W p l e rm_X9_bricks s m args below meth c H locs 0 0 (MQ below (Qp b0 D cy (some (.int q)) S) args s 0 0 (fun q => b0 ≤ q)) (F0 m 92 ls [.int t0]) := by
  intro a0 x1 x3 t0 H locs ls hw hl h
  rw [f_X9_bricks_b92] at h
  refine lv_istore_n (lv' := [(2, .int t0), (0, .ref (b0 + a0)), (1, .int x1), (3, .int x3)]) C0.hx C0.hb dX9_bricks_92 rfl hl (by decide) rfl (fun ls hl => ?_)
  obtain ⟨v8, hv8, h⟩ := Option.bind_eq_some_iff.mp h
  refine lv_iinc (v := v8) (lv' := [(3, .int v8), (2, .int t0), (0, .ref (b0 + a0)), (1, .int x1)]) C0.hx C0.hb dX9_bricks_93 hl (k := 3) rfl (by rw [← Option.some.inj hv8]; rfl) (by decide) rfl (fun ls hl => ?_)
  refine lv_goto (tgt := 26) C0.hx C0.hb dX9_bricks_96 (by decide) ?_
  exact hk26 a0 x1 t0 v8 _ _ _ hw (lv_sub hl [2, 3, 1, 0] rfl) h
set_option maxHeartbeats 4000000 in
set_option maxRecDepth 100000 in
theorem w_X9_bricks_b91 {p : Program} {l : Launch} {e : Env} {s : State} {m : MethodId} {args : Array Value} {below : List Frame} {meth : Method} {c : Code} {b0 : Nat} {D : va_G} {cy : Nat → ClassId} {S : Mem} {q : Int32} (C0 : Cx p m c cX9_bricks 5 s args RX9 D cy) (hr : meth.sig.returnType = some .int) (hlocks : meth.locks = false) (k26 : Nat → Int32 → Int32 → Int32 → Option Int32) (hk26 : ∀ (a0 : Nat) (x1 : Int32) (x2 : Int32) (x3 : Int32) (H : Heap) (locs : List Loc) (ls : Array Slot), Wd b0 D cy S s.heap H locs → lv_has ls 5 [(0, .ref (b0 + a0)), (1, .int x1), (2, .int x2), (3, .int x3)] → k26 a0 x1 x2 x3 = some q → W p l e rm_X9_bricks s m args below meth c H locs 0 0 (MQ below (Qp b0 D cy (some (.int q)) S) args s 0 0 (fun q => b0 ≤ q)) (F0 m 26 ls [])) : ∀ (a0 : Nat) (x1 : Int32) (x2 : Int32) (x3 : Int32) (H : Heap) (locs : List Loc) (ls : Array Slot), Wd b0 D cy S s.heap H locs → lv_has ls 5 [(0, .ref (b0 + a0)), (1, .int x1), (2, .int x2), (3, .int x3)] → f_X9_bricks_b91 S k26 a0 x1 x2 x3 = some q → W p l e rm_X9_bricks s m args below meth c H locs 0 0 (MQ below (Qp b0 D cy (some (.int q)) S) args s 0 0 (fun q => b0 ≤ q)) (F0 m 91 ls []) := by
  intro a0 x1 x2 x3 H locs ls hw hl h
  rw [f_X9_bricks_b91] at h
  refine lv_iload_n C0.hx C0.hb dX9_bricks_91 rfl (lv_at hl 2 rfl) ?_
  exact w_X9_bricks_b92 C0 hr hlocks k26 hk26 a0 x1 x3 x2 _ _ _ hw (lv_sub hl [0, 1, 3] rfl) h
set_option maxHeartbeats 4000000 in
set_option maxRecDepth 100000 in
theorem w_X9_bricks_b68 {p : Program} {l : Launch} {e : Env} {s : State} {m : MethodId} {args : Array Value} {below : List Frame} {meth : Method} {c : Code} {b0 : Nat} {D : va_G} {cy : Nat → ClassId} {S : Mem} {q : Int32} (C0 : Cx p m c cX9_bricks 5 s args RX9 D cy) (hr : meth.sig.returnType = some .int) (hlocks : meth.locks = false) (k26 : Nat → Int32 → Int32 → Int32 → Option Int32) (hk26 : ∀ (a0 : Nat) (x1 : Int32) (x2 : Int32) (x3 : Int32) (H : Heap) (locs : List Loc) (ls : Array Slot), Wd b0 D cy S s.heap H locs → lv_has ls 5 [(0, .ref (b0 + a0)), (1, .int x1), (2, .int x2), (3, .int x3)] → k26 a0 x1 x2 x3 = some q → W p l e rm_X9_bricks s m args below meth c H locs 0 0 (MQ below (Qp b0 D cy (some (.int q)) S) args s 0 0 (fun q => b0 ≤ q)) (F0 m 26 ls [])) : ∀ (a0 : Nat) (x1 : Int32) (x2 : Int32) (x3 : Int32) (t0 : Int32) (H : Heap) (locs : List Loc) (ls : Array Slot), Wd b0 D cy S s.heap H locs → lv_has ls 5 [(0, .ref (b0 + a0)), (1, .int x1), (2, .int x2), (3, .int x3)] → f_X9_bricks_b68 S k26 a0 x1 x2 x3 t0 = some q → W p l e rm_X9_bricks s m args below meth c H locs 0 0 (MQ below (Qp b0 D cy (some (.int q)) S) args s 0 0 (fun q => b0 ≤ q)) (F0 m 68 ls [.int t0]) := by
  intro a0 x1 x2 x3 t0 H locs ls hw hl h
  rw [f_X9_bricks_b68] at h
  refine lv_istore (lv' := [(4, .int t0), (0, .ref (b0 + a0)), (1, .int x1), (2, .int x2), (3, .int x3)]) C0.hx C0.hb dX9_bricks_68 hl (by decide) rfl (fun ls hl => ?_)
  refine lv_iload C0.hx C0.hb dX9_bricks_70 (lv_at hl 0 rfl) ?_
  refine lv_if_eq (tgt := 91) C0.hx C0.hb dX9_bricks_72 (by decide) (fun hc => ?_) (fun hc => ?_)
  · have h := (if_pos hc).symm.trans h
    exact w_X9_bricks_b91 C0 hr hlocks k26 hk26 a0 x1 x2 x3 _ _ _ hw (lv_sub hl [1, 2, 3, 4] rfl) h
  · have h := (if_neg hc).symm.trans h
    refine lv_aload_n C0.hx C0.hb dX9_bricks_75 rfl (lv_at hl 1 rfl) ?_
    refine lv_iload_n C0.hx C0.hb dX9_bricks_76 rfl (lv_at hl 4 rfl) ?_
    obtain ⟨c9, hc9, h⟩ := Option.bind_eq_some_iff.mp h
    obtain ⟨v10, hv10, h⟩ := Option.bind_eq_some_iff.mp h
    refine q_callV (n := 1) (av := [.int x3]) (rest := []) (st1 := [.int v10]) C0 hw (m_X9_reached l b0 D cy S a0 x3 hv10) hc9 rfl (by decide) (goodV kw_1217 kw_1219 kw_58 kw_72 kw_1220) ⟨rfl, rfl⟩ (by decide +kernel) ⟨(Nat.le_of_ble_eq_true rfl), (Nat.le_of_ble_eq_true rfl)⟩ rfl hl.1 rfl (Nat.le_of_ble_eq_true rfl) dX9_bricks_77 ⟨Nat.zero_le _, Nat.zero_le _⟩ rfl (fun H locs hw => ?_)
    refine lv_iload_n C0.hx C0.hb dX9_bricks_80 rfl (lv_at hl 2 rfl) ?_
    refine lv_ishr C0.hx C0.hb dX9_bricks_81 ?_
    refine lv_iconst (v := (1 : Int32)) C0.hx C0.hb dX9_bricks_82 (by decide) ?_
    refine lv_iand C0.hx C0.hb dX9_bricks_83 ?_
    refine lv_if_ne (tgt := 91) C0.hx C0.hb dX9_bricks_84 (by decide) (fun hc => ?_) (fun hc => ?_)
    · have h := (if_neg hc).symm.trans h
      exact w_X9_bricks_b91 C0 hr hlocks k26 hk26 a0 x1 x2 x3 _ _ _ hw (lv_sub hl [1, 2, 3, 4] rfl) h
    · have h := (if_pos hc).symm.trans h
      refine lv_iload_n C0.hx C0.hb dX9_bricks_87 rfl (lv_at hl 4 rfl) ?_
      refine lv_goto (tgt := 92) C0.hx C0.hb dX9_bricks_88 (by decide) ?_
      exact w_X9_bricks_b92 C0 hr hlocks k26 hk26 a0 x1 x3 x3 _ _ _ hw (lv_sub hl [1, 2, 4] rfl) h
set_option maxHeartbeats 4000000 in
set_option maxRecDepth 100000 in
theorem w_X9_bricks_b63 {p : Program} {l : Launch} {e : Env} {s : State} {m : MethodId} {args : Array Value} {below : List Frame} {meth : Method} {c : Code} {b0 : Nat} {D : va_G} {cy : Nat → ClassId} {S : Mem} {q : Int32} (C0 : Cx p m c cX9_bricks 5 s args RX9 D cy) (hr : meth.sig.returnType = some .int) (hlocks : meth.locks = false) (k26 : Nat → Int32 → Int32 → Int32 → Option Int32) (hk26 : ∀ (a0 : Nat) (x1 : Int32) (x2 : Int32) (x3 : Int32) (H : Heap) (locs : List Loc) (ls : Array Slot), Wd b0 D cy S s.heap H locs → lv_has ls 5 [(0, .ref (b0 + a0)), (1, .int x1), (2, .int x2), (3, .int x3)] → k26 a0 x1 x2 x3 = some q → W p l e rm_X9_bricks s m args below meth c H locs 0 0 (MQ below (Qp b0 D cy (some (.int q)) S) args s 0 0 (fun q => b0 ≤ q)) (F0 m 26 ls [])) : ∀ (a0 : Nat) (x1 : Int32) (x2 : Int32) (x3 : Int32) (H : Heap) (locs : List Loc) (ls : Array Slot), Wd b0 D cy S s.heap H locs → lv_has ls 5 [(0, .ref (b0 + a0)), (1, .int x1), (2, .int x2), (3, .int x3)] → f_X9_bricks_b63 S k26 a0 x1 x2 x3 = some q → W p l e rm_X9_bricks s m args below meth c H locs 0 0 (MQ below (Qp b0 D cy (some (.int q)) S) args s 0 0 (fun q => b0 ≤ q)) (F0 m 63 ls []) := by
  intro a0 x1 x2 x3 H locs ls hw hl h
  rw [f_X9_bricks_b63] at h
  refine lv_iconst (v := (1 : Int32)) C0.hx C0.hb dX9_bricks_63 (by decide) ?_
  refine lv_goto (tgt := 68) C0.hx C0.hb dX9_bricks_64 (by decide) ?_
  exact w_X9_bricks_b68 C0 hr hlocks k26 hk26 a0 x1 x2 x3 (1 : Int32) _ _ _ hw (lv_sub hl [0, 1, 2, 3] rfl) h
set_option maxHeartbeats 4000000 in
set_option maxRecDepth 100000 in
theorem w_X9_bricks_b67 {p : Program} {l : Launch} {e : Env} {s : State} {m : MethodId} {args : Array Value} {below : List Frame} {meth : Method} {c : Code} {b0 : Nat} {D : va_G} {cy : Nat → ClassId} {S : Mem} {q : Int32} (C0 : Cx p m c cX9_bricks 5 s args RX9 D cy) (hr : meth.sig.returnType = some .int) (hlocks : meth.locks = false) (k26 : Nat → Int32 → Int32 → Int32 → Option Int32) (hk26 : ∀ (a0 : Nat) (x1 : Int32) (x2 : Int32) (x3 : Int32) (H : Heap) (locs : List Loc) (ls : Array Slot), Wd b0 D cy S s.heap H locs → lv_has ls 5 [(0, .ref (b0 + a0)), (1, .int x1), (2, .int x2), (3, .int x3)] → k26 a0 x1 x2 x3 = some q → W p l e rm_X9_bricks s m args below meth c H locs 0 0 (MQ below (Qp b0 D cy (some (.int q)) S) args s 0 0 (fun q => b0 ≤ q)) (F0 m 26 ls [])) : ∀ (a0 : Nat) (x1 : Int32) (x2 : Int32) (x3 : Int32) (H : Heap) (locs : List Loc) (ls : Array Slot), Wd b0 D cy S s.heap H locs → lv_has ls 5 [(0, .ref (b0 + a0)), (1, .int x1), (2, .int x2), (3, .int x3)] → f_X9_bricks_b67 S k26 a0 x1 x2 x3 = some q → W p l e rm_X9_bricks s m args below meth c H locs 0 0 (MQ below (Qp b0 D cy (some (.int q)) S) args s 0 0 (fun q => b0 ≤ q)) (F0 m 67 ls []) := by
  intro a0 x1 x2 x3 H locs ls hw hl h
  rw [f_X9_bricks_b67] at h
  refine lv_iconst (v := (0 : Int32)) C0.hx C0.hb dX9_bricks_67 (by decide) ?_
  exact w_X9_bricks_b68 C0 hr hlocks k26 hk26 a0 x1 x2 x3 (0 : Int32) _ _ _ hw (lv_sub hl [0, 1, 2, 3] rfl) h
set_option maxHeartbeats 4000000 in
set_option maxRecDepth 100000 in
theorem w_X9_bricks_b26 {p : Program} {l : Launch} {e : Env} {s : State} {m : MethodId} {args : Array Value} {below : List Frame} {meth : Method} {c : Code} {b0 : Nat} {D : va_G} {cy : Nat → ClassId} {S : Mem} {q : Int32} (C0 : Cx p m c cX9_bricks 5 s args RX9 D cy) (hr : meth.sig.returnType = some .int) (hlocks : meth.locks = false) : ∀ (n : Nat) (a0 : Nat) (x1 : Int32) (x2 : Int32) (x3 : Int32) (H : Heap) (locs : List Loc) (ls : Array Slot), Wd b0 D cy S s.heap H locs → lv_has ls 5 [(0, .ref (b0 + a0)), (1, .int x1), (2, .int x2), (3, .int x3)] → f_X9_bricks_b26 S  n a0 x1 x2 x3 = some q → W p l e rm_X9_bricks s m args below meth c H locs 0 0 (MQ below (Qp b0 D cy (some (.int q)) S) args s 0 0 (fun q => b0 ≤ q)) (F0 m 26 ls []) := by
  intro n
  induction n with
  | zero => intro a0 x1 x2 x3 H locs ls hw hl h; exact absurd h (by simp [f_X9_bricks_b26])
  | succ n ih =>
    intro a0 x1 x2 x3 H locs ls hw hl h
    rw [f_X9_bricks_b26] at h
    refine lv_iload_n C0.hx C0.hb dX9_bricks_26 rfl (lv_at hl 3 rfl) ?_
    refine lv_iconst (v := (1 : Int32)) C0.hx C0.hb dX9_bricks_27 (by decide) ?_
    refine lv_aload_n C0.hx C0.hb dX9_bricks_28 rfl (lv_at hl 0 rfl) ?_
    obtain ⟨v5, hv5, h⟩ := Option.bind_eq_some_iff.mp h
    refine q_getI C0 hw hv5 rfl in_9 (by decide) kw_864 dX9_bricks_29 ?_
    refine lv_ishl C0.hx C0.hb dX9_bricks_32 ?_
    refine lv_icmp_ge (tgt := 99) C0.hx C0.hb dX9_bricks_33 (by decide) (fun hc => ?_) (fun hc => ?_)
    · have h := (if_pos hc).symm.trans h
      refine lv_iload_n C0.hx C0.hb dX9_bricks_99 rfl (lv_at hl 2 rfl) ?_
      obtain rfl := Option.some.inj h
      exact q_reti C0 hw hr hlocks dX9_bricks_100
    · have h := (if_neg hc).symm.trans h
      refine lv_iload_n C0.hx C0.hb dX9_bricks_36 rfl (lv_at hl 3 rfl) ?_
      refine lv_aload_n C0.hx C0.hb dX9_bricks_37 rfl (lv_at hl 0 rfl) ?_
      refine lv_bipush (v := (6 : Int32)) C0.hx C0.hb dX9_bricks_38 (by decide) ?_
      obtain ⟨c6, hc6, h⟩ := Option.bind_eq_some_iff.mp h
      obtain ⟨v7, hv7, h⟩ := Option.bind_eq_some_iff.mp h
      refine q_callV (n := 1) (av := [.int (6 : Int32)]) (rest := [.int x3]) (st1 := [.int v7, .int x3]) C0 hw (m_X9_at l b0 D cy S a0 (6 : Int32) hv7) hc6 rfl (by decide) (goodV kw_1013 kw_1015 kw_34 kw_72 kw_1016) ⟨rfl, rfl⟩ (by decide +kernel) ⟨(Nat.le_of_ble_eq_true rfl), (Nat.le_of_ble_eq_true rfl)⟩ rfl hl.1 rfl (Nat.le_of_ble_eq_true rfl) dX9_bricks_40 ⟨Nat.zero_le _, Nat.zero_le _⟩ rfl (fun H locs hw => ?_)
      refine lv_iand C0.hx C0.hb dX9_bricks_43 ?_
      refine lv_if_ne (tgt := 67) C0.hx C0.hb dX9_bricks_44 (by decide) (fun hc => ?_) (fun hc => ?_)
      · have h := (if_neg hc).symm.trans h
        exact w_X9_bricks_b67 C0 hr hlocks (fun a0 x1 x2 x3 => f_X9_bricks_b26 S  n a0 x1 x2 x3) ih a0 x1 x2 x3 _ _ _ hw (lv_sub hl [0, 1, 2, 3] rfl) h
      · have h := (if_pos hc).symm.trans h
        refine lv_iload_n C0.hx C0.hb dX9_bricks_47 rfl (lv_at hl 2 rfl) ?_
        refine lv_iconst (v := (-1 : Int32)) C0.hx C0.hb dX9_bricks_48 (by decide) ?_
        refine lv_icmp_eq (tgt := 63) C0.hx C0.hb dX9_bricks_49 (by decide) (fun hc => ?_) (fun hc => ?_)
        · have h := (if_pos hc).symm.trans h
          exact w_X9_bricks_b63 C0 hr hlocks (fun a0 x1 x2 x3 => f_X9_bricks_b26 S  n a0 x1 x2 x3) ih a0 x1 x2 x3 _ _ _ hw (lv_sub hl [0, 1, 2, 3] rfl) h
        · have h := (if_neg hc).symm.trans h
          refine lv_iload_n C0.hx C0.hb dX9_bricks_52 rfl (lv_at hl 3 rfl) ?_
          obtain ⟨v11, hv11, h⟩ := Option.bind_eq_some_iff.mp h
          refine q_callS (n := 1) (av := [.int x3]) (rest := []) (st1 := [.int v11]) C0 hw (m_X9_many l b0 D cy S x3 hv11) (goodS kw_1210 kw_1211 kw_72 kw_1212) ⟨rfl, rfl⟩ (by decide +kernel) ⟨(Nat.le_of_ble_eq_true rfl), (Nat.le_of_ble_eq_true rfl)⟩ rfl hl.1 rfl (Nat.le_of_ble_eq_true rfl) dX9_bricks_53 ⟨Nat.zero_le _, Nat.zero_le _⟩ rfl (fun H locs hw => ?_)
          refine lv_iload_n C0.hx C0.hb dX9_bricks_56 rfl (lv_at hl 2 rfl) ?_
          obtain ⟨v12, hv12, h⟩ := Option.bind_eq_some_iff.mp h
          refine q_callS (n := 1) (av := [.int x2]) (rest := [.int v11]) (st1 := [.int v12, .int v11]) C0 hw (m_X9_many l b0 D cy S x2 hv12) (goodS kw_1210 kw_1211 kw_72 kw_1212) ⟨rfl, rfl⟩ (by decide +kernel) ⟨(Nat.le_of_ble_eq_true rfl), (Nat.le_of_ble_eq_true rfl)⟩ rfl hl.1 rfl (Nat.le_of_ble_eq_true rfl) dX9_bricks_57 ⟨Nat.zero_le _, Nat.zero_le _⟩ rfl (fun H locs hw => ?_)
          refine lv_icmp_ge (tgt := 67) C0.hx C0.hb dX9_bricks_60 (by decide) (fun hc => ?_) (fun hc => ?_)
          · have h := (if_pos hc).symm.trans h
            exact w_X9_bricks_b67 C0 hr hlocks (fun a0 x1 x2 x3 => f_X9_bricks_b26 S  n a0 x1 x2 x3) ih a0 x1 x2 x3 _ _ _ hw (lv_sub hl [0, 1, 2, 3] rfl) h
          · have h := (if_neg hc).symm.trans h
            exact w_X9_bricks_b63 C0 hr hlocks (fun a0 x1 x2 x3 => f_X9_bricks_b26 S  n a0 x1 x2 x3) ih a0 x1 x2 x3 _ _ _ hw (lv_sub hl [0, 1, 2, 3] rfl) h
set_option maxHeartbeats 4000000 in
set_option maxRecDepth 100000 in
theorem m_X9_bricks (l : Launch) (b0 : Nat) (D : va_G) (cy : Nat → ClassId) (S : Mem) (a0 : Nat) (x1 : Int32) {q : Int32} (h : f_X9_bricks a0 x1 S = some q) : Met l yX9_bricks [.code yX9_bricks cX9_bricks 5 (some .int)] rm_X9_bricks (Pr b0 D cy S [.ref (b0 + a0), .int x1]) (Qp b0 D cy (some (.int q)) S) 0 0 (fun q => b0 ≤ q) := by
  refine Met.ofW (cc := cX9_bricks) (maxL := 5) (ret := some .int) (by decide) rfl ?_
  intro p e s m args below meth c s₁ B hml hv
  obtain ⟨rfl, hP, hK, hT⟩ := hv
  have C0 : Cx p m c cX9_bricks 5 s (List.toArray [.ref (b0 + a0), .int x1]) RX9 D cy := ⟨⟨B.exec, B.bytes, hml, findClass_of_methodNamed B.named, fun w h => hT w h _⟩, hK, hT⟩
  have hr : meth.sig.returnType = some .int := B.returns
  have hlocks := B.notSynchronized
  have hw : Wd b0 D cy S s.heap s.heap [] := ⟨hP, va_S.rf⟩
  have hl := lv_entry ([.ref (b0 + a0), .int x1]) (n := 5) (Nat.le_of_ble_eq_true rfl)
  rw [lg_entry_eq]
  generalize (lg_sl ([.ref (b0 + a0), .int x1]) ++ List.replicate (5 - (lg_sl ([.ref (b0 + a0), .int x1])).length) Slot.unset).toArray = ls at hl ⊢
  have hl : lv_has ls 5 [(0, .ref (b0 + a0)), (1, .int x1)] := hl
  rw [f_X9_bricks] at h
  show W p l e rm_X9_bricks s m _ below meth c s.heap [] 0 0 _ _
  refine lv_aload_n C0.hx C0.hb dX9_bricks_0 rfl (lv_at hl 0 rfl) ?_
  refine lv_iload_n C0.hx C0.hb dX9_bricks_1 rfl (lv_at hl 1 rfl) ?_
  obtain ⟨c1, hc1, h⟩ := Option.bind_eq_some_iff.mp h
  obtain ⟨v2, hv2, h⟩ := Option.bind_eq_some_iff.mp h
  refine q_callV (n := 1) (av := [.int x1]) (rest := []) (st1 := [.int v2]) C0 hw (m_X9_isRoom l b0 D cy S a0 x1 hv2) hc1 rfl (by decide) (goodV kw_1021 kw_1023 kw_35 kw_72 kw_1024) ⟨rfl, rfl⟩ (by decide +kernel) ⟨(Nat.le_of_ble_eq_true rfl), (Nat.le_of_ble_eq_true rfl)⟩ rfl hl.1 rfl (Nat.le_of_ble_eq_true rfl) dX9_bricks_2 ⟨Nat.zero_le _, Nat.zero_le _⟩ rfl (fun H locs hw => ?_)
  refine lv_if_ne (tgt := 11) C0.hx C0.hb dX9_bricks_5 (by decide) (fun hc => ?_) (fun hc => ?_)
  · have h := (if_neg hc).symm.trans h
    refine lv_aload_n C0.hx C0.hb dX9_bricks_11 rfl (lv_at hl 0 rfl) ?_
    refine lv_iconst (v := (2 : Int32)) C0.hx C0.hb dX9_bricks_12 (by decide) ?_
    obtain ⟨c3, hc3, h⟩ := Option.bind_eq_some_iff.mp h
    obtain ⟨v4, hv4, h⟩ := Option.bind_eq_some_iff.mp h
    refine q_callV (n := 1) (av := [.int (2 : Int32)]) (rest := []) (st1 := [.int v4]) C0 hw (m_X9_at l b0 D cy S a0 (2 : Int32) hv4) hc3 rfl (by decide) (goodV kw_1013 kw_1015 kw_34 kw_72 kw_1016) ⟨rfl, rfl⟩ (by decide +kernel) ⟨(Nat.le_of_ble_eq_true rfl), (Nat.le_of_ble_eq_true rfl)⟩ rfl hl.1 rfl (Nat.le_of_ble_eq_true rfl) dX9_bricks_13 ⟨Nat.zero_le _, Nat.zero_le _⟩ rfl (fun H locs hw => ?_)
    refine lv_iload_n C0.hx C0.hb dX9_bricks_16 rfl (lv_at hl 1 rfl) ?_
    refine lv_icmp_ne (tgt := 22) C0.hx C0.hb dX9_bricks_17 (by decide) (fun hc => ?_) (fun hc => ?_)
    · have h := (if_neg hc).symm.trans h
      refine lv_iconst (v := (-1 : Int32)) C0.hx C0.hb dX9_bricks_22 (by decide) ?_
      refine lv_istore_n (lv' := [(2, .int (-1 : Int32)), (0, .ref (b0 + a0)), (1, .int x1)]) C0.hx C0.hb dX9_bricks_23 rfl hl (by decide) rfl (fun ls hl => ?_)
      refine lv_iconst (v := (0 : Int32)) C0.hx C0.hb dX9_bricks_24 (by decide) ?_
      refine lv_istore_n (lv' := [(3, .int (0 : Int32)), (2, .int (-1 : Int32)), (0, .ref (b0 + a0)), (1, .int x1)]) C0.hx C0.hb dX9_bricks_25 rfl hl (by decide) rfl (fun ls hl => ?_)
      exact w_X9_bricks_b26 C0 hr hlocks FU a0 x1 (-1 : Int32) (0 : Int32) _ _ _ hw (lv_sub hl [2, 3, 1, 0] rfl) h
    · have h := (if_pos hc).symm.trans h
      refine lv_iconst (v := (-1 : Int32)) C0.hx C0.hb dX9_bricks_20 (by decide) ?_
      obtain rfl := Option.some.inj h
      exact q_reti C0 hw hr hlocks dX9_bricks_21
  · have h := (if_pos hc).symm.trans h
    refine lv_ldc C0.hx C0.hb C0.ho (C0.w kw_1025) dX9_bricks_8 ?_
    obtain rfl := Option.some.inj h
    exact q_reti C0 hw hr hlocks dX9_bricks_10
abbrev rm_X9_enters : Room := { frames := 1, cells := 0, slots := 0, locals := 22 }
def f_X9_enters_b78 (x4 : Int32) (t0 : Int32) (t1 : Nat) (S : Mem) : Option Mem :=
    (stI S t1 t0 x4).bind fun S17 =>
      some S17
def f_X9_enters (a0 : Nat) (x1 : Int32) (x2 : Int32) (x3 : Int32) (S : Mem) : Option Mem :=
    (gR 9 18 S a0).bind fun r1 =>
      (ldI S r1 x1).bind fun v2 =>
      (if v2 < (0 : Int32) then
      some S
      else
      (gR 9 7 S a0).bind fun r3 =>
      (ldJ S r3 (6 : Int32)).bind fun u4 =>
      (f_X9_has u4 x3).bind fun v5 =>
      (if v5 = (0 : Int32) then
      (gR 9 7 S a0).bind fun r6 =>
      (ldJ S r6 (5 : Int32)).bind fun u7 =>
      (f_X9_has u7 x2).bind fun v8 =>
      (if v8 = (0 : Int32) then
      (gR 9 18 S a0).bind fun r9 =>
      (ldI S r9 x1).bind fun v10 =>
      (ck 9 S a0).bind fun c11 =>
      (f_X9_at a0 ((10 : Int32) + x2) S).bind fun v12 =>
      (some (v10 + v12)).bind fun v13 =>
      (gR 9 18 S a0).bind fun r14 =>
      (gR 9 18 S a0).bind fun r15 =>
      (ldI S r15 x2).bind fun v16 =>
      (if v16 < (0 : Int32) then
      f_X9_enters_b78 v13 x2 r14 S
      else
      (gR 9 18 S a0).bind fun r18 =>
      (ldI S r18 x2).bind fun v19 =>
      (if v19 ≤ v13 then
      (gR 9 18 S a0).bind fun r20 =>
      (ldI S r20 x2).bind fun v21 =>
      (stI S r14 x2 v21).bind fun S22 =>
      some S22
      else
      f_X9_enters_b78 v13 x2 r14 S))
      else
      some S)
      else
      some S))
set_option maxHeartbeats 4000000 in
set_option maxRecDepth 100000 in
theorem w_X9_enters_b78 {p : Program} {l : Launch} {e : Env} {s : State} {m : MethodId} {args : Array Value} {below : List Frame} {meth : Method} {c : Code} {b0 : Nat} {D : va_G} {cy : Nat → ClassId} {q : Mem} (C0 : Cx p m c cX9_enters 5 s args RX9 D cy) (hr : meth.sig.returnType = none) (hlocks : meth.locks = false) : ∀ (x4 : Int32) (t0 : Int32) (t1 : Nat) (S : Mem) (H : Heap) (locs : List Loc) (ls : Array Slot), Wd b0 D cy S s.heap H locs → lv_has ls 5 [(4, .int x4)] → f_X9_enters_b78  x4 t0 t1 S = some q → W p l e rm_X9_enters s m args below meth c H locs 0 0 (MQ below (Qp b0 D cy none q) args s 0 0 (fun q => b0 ≤ q)) (F0 m 78 ls [.int t0, .ref (b0 + t1)]) := by
  intro x4 t0 t1 S H locs ls hw hl h
  rw [f_X9_enters_b78] at h
  refine lv_iload C0.hx C0.hb dX9_enters_78 (lv_at hl 0 rfl) ?_
  refine lv_goto (tgt := 89) C0.hx C0.hb dX9_enters_80 (by decide) ?_
  obtain ⟨S17, hS17, h⟩ := Option.bind_eq_some_iff.mp h
  refine q_stI C0 hw hS17 dX9_enters_89 (fun H locs hw => ?_)
  obtain rfl := Option.some.inj h
  exact q_retv C0 hw hr hlocks dX9_enters_90
set_option maxHeartbeats 4000000 in
set_option maxRecDepth 100000 in
theorem m_X9_enters (l : Launch) (b0 : Nat) (D : va_G) (cy : Nat → ClassId) (S : Mem) (a0 : Nat) (x1 : Int32) (x2 : Int32) (x3 : Int32) {q : Mem} (h : f_X9_enters a0 x1 x2 x3 S = some q) : Met l yX9_enters [.code yX9_enters cX9_enters 5 (none)] rm_X9_enters (Pr b0 D cy S [.ref (b0 + a0), .int x1, .int x2, .int x3]) (Qp b0 D cy none q) 0 0 (fun q => b0 ≤ q) := by
  refine Met.ofW (cc := cX9_enters) (maxL := 5) (ret := none) (by decide) rfl ?_
  intro p e s m args below meth c s₁ B hml hv
  obtain ⟨rfl, hP, hK, hT⟩ := hv
  have C0 : Cx p m c cX9_enters 5 s (List.toArray [.ref (b0 + a0), .int x1, .int x2, .int x3]) RX9 D cy := ⟨⟨B.exec, B.bytes, hml, findClass_of_methodNamed B.named, fun w h => hT w h _⟩, hK, hT⟩
  have hr : meth.sig.returnType = none := B.returns
  have hlocks := B.notSynchronized
  have hw : Wd b0 D cy S s.heap s.heap [] := ⟨hP, va_S.rf⟩
  have hl := lv_entry ([.ref (b0 + a0), .int x1, .int x2, .int x3]) (n := 5) (Nat.le_of_ble_eq_true rfl)
  rw [lg_entry_eq]
  generalize (lg_sl ([.ref (b0 + a0), .int x1, .int x2, .int x3]) ++ List.replicate (5 - (lg_sl ([.ref (b0 + a0), .int x1, .int x2, .int x3])).length) Slot.unset).toArray = ls at hl ⊢
  have hl : lv_has ls 5 [(0, .ref (b0 + a0)), (1, .int x1), (2, .int x2), (3, .int x3)] := hl
  rw [f_X9_enters] at h
  show W p l e rm_X9_enters s m _ below meth c s.heap [] 0 0 _ _
  refine lv_aload_n C0.hx C0.hb dX9_enters_0 rfl (lv_at hl 0 rfl) ?_
  obtain ⟨r1, hr1, h⟩ := Option.bind_eq_some_iff.mp h
  refine q_getR C0 hw hr1 rfl in_9 (by decide) kw_880 dX9_enters_1 ?_
  refine lv_iload_n C0.hx C0.hb dX9_enters_4 rfl (lv_at hl 1 rfl) ?_
  obtain ⟨v2, hv2, h⟩ := Option.bind_eq_some_iff.mp h
  refine q_ldI C0 hw hv2 dX9_enters_5 ?_
  refine lv_if_lt (tgt := 90) C0.hx C0.hb dX9_enters_6 (by decide) (fun hc => ?_) (fun hc => ?_)
  · have h := (if_pos hc).symm.trans h
    obtain rfl := Option.some.inj h
    exact q_retv C0 hw hr hlocks dX9_enters_90
  · have h := (if_neg hc).symm.trans h
    refine lv_aload_n C0.hx C0.hb dX9_enters_9 rfl (lv_at hl 0 rfl) ?_
    obtain ⟨r3, hr3, h⟩ := Option.bind_eq_some_iff.mp h
    refine q_getR C0 hw hr3 rfl in_9 (by decide) kw_869 dX9_enters_10 ?_
    refine lv_bipush (v := (6 : Int32)) C0.hx C0.hb dX9_enters_13 (by decide) ?_
    obtain ⟨u4, hu4, h⟩ := Option.bind_eq_some_iff.mp h
    refine q_ldJ C0 hw hu4 dX9_enters_15 ?_
    refine lv_iload_n C0.hx C0.hb dX9_enters_16 rfl (lv_at hl 3 rfl) ?_
    obtain ⟨v5, hv5, h⟩ := Option.bind_eq_some_iff.mp h
    refine q_callS (n := 2) (av := [.long u4, .int x3]) (rest := []) (st1 := [.int v5]) C0 hw (m_X9_has l b0 D cy S u4 x3 hv5) (goodS kw_1026 kw_1027 kw_72 kw_1028) ⟨rfl, rfl⟩ (by decide +kernel) ⟨(Nat.le_of_ble_eq_true rfl), (Nat.le_of_ble_eq_true rfl)⟩ rfl hl.1 rfl (Nat.le_of_ble_eq_true rfl) dX9_enters_17 ⟨Nat.zero_le _, Nat.zero_le _⟩ rfl (fun H locs hw => ?_)
    refine lv_if_ne (tgt := 90) C0.hx C0.hb dX9_enters_20 (by decide) (fun hc => ?_) (fun hc => ?_)
    · have h := (if_neg hc).symm.trans h
      obtain rfl := Option.some.inj h
      exact q_retv C0 hw hr hlocks dX9_enters_90
    · have h := (if_pos hc).symm.trans h
      refine lv_aload_n C0.hx C0.hb dX9_enters_23 rfl (lv_at hl 0 rfl) ?_
      obtain ⟨r6, hr6, h⟩ := Option.bind_eq_some_iff.mp h
      refine q_getR C0 hw hr6 rfl in_9 (by decide) kw_869 dX9_enters_24 ?_
      refine lv_iconst (v := (5 : Int32)) C0.hx C0.hb dX9_enters_27 (by decide) ?_
      obtain ⟨u7, hu7, h⟩ := Option.bind_eq_some_iff.mp h
      refine q_ldJ C0 hw hu7 dX9_enters_28 ?_
      refine lv_iload_n C0.hx C0.hb dX9_enters_29 rfl (lv_at hl 2 rfl) ?_
      obtain ⟨v8, hv8, h⟩ := Option.bind_eq_some_iff.mp h
      refine q_callS (n := 2) (av := [.long u7, .int x2]) (rest := []) (st1 := [.int v8]) C0 hw (m_X9_has l b0 D cy S u7 x2 hv8) (goodS kw_1026 kw_1027 kw_72 kw_1028) ⟨rfl, rfl⟩ (by decide +kernel) ⟨(Nat.le_of_ble_eq_true rfl), (Nat.le_of_ble_eq_true rfl)⟩ rfl hl.1 rfl (Nat.le_of_ble_eq_true rfl) dX9_enters_30 ⟨Nat.zero_le _, Nat.zero_le _⟩ rfl (fun H locs hw => ?_)
      refine lv_if_ne (tgt := 90) C0.hx C0.hb dX9_enters_33 (by decide) (fun hc => ?_) (fun hc => ?_)
      · have h := (if_neg hc).symm.trans h
        obtain rfl := Option.some.inj h
        exact q_retv C0 hw hr hlocks dX9_enters_90
      · have h := (if_pos hc).symm.trans h
        refine lv_aload_n C0.hx C0.hb dX9_enters_36 rfl (lv_at hl 0 rfl) ?_
        obtain ⟨r9, hr9, h⟩ := Option.bind_eq_some_iff.mp h
        refine q_getR C0 hw hr9 rfl in_9 (by decide) kw_880 dX9_enters_37 ?_
        refine lv_iload_n C0.hx C0.hb dX9_enters_40 rfl (lv_at hl 1 rfl) ?_
        obtain ⟨v10, hv10, h⟩ := Option.bind_eq_some_iff.mp h
        refine q_ldI C0 hw hv10 dX9_enters_41 ?_
        refine lv_aload_n C0.hx C0.hb dX9_enters_42 rfl (lv_at hl 0 rfl) ?_
        refine lv_bipush (v := (10 : Int32)) C0.hx C0.hb dX9_enters_43 (by decide) ?_
        refine lv_iload_n C0.hx C0.hb dX9_enters_45 rfl (lv_at hl 2 rfl) ?_
        refine lv_iadd C0.hx C0.hb dX9_enters_46 ?_
        obtain ⟨c11, hc11, h⟩ := Option.bind_eq_some_iff.mp h
        obtain ⟨v12, hv12, h⟩ := Option.bind_eq_some_iff.mp h
        refine q_callV (n := 1) (av := [.int ((10 : Int32) + x2)]) (rest := [.int v10]) (st1 := [.int v12, .int v10]) C0 hw (m_X9_at l b0 D cy S a0 ((10 : Int32) + x2) hv12) hc11 rfl (by decide) (goodV kw_1013 kw_1015 kw_34 kw_72 kw_1016) ⟨rfl, rfl⟩ (by decide +kernel) ⟨(Nat.le_of_ble_eq_true rfl), (Nat.le_of_ble_eq_true rfl)⟩ rfl hl.1 rfl (Nat.le_of_ble_eq_true rfl) dX9_enters_47 ⟨Nat.zero_le _, Nat.zero_le _⟩ rfl (fun H locs hw => ?_)
        refine lv_iadd C0.hx C0.hb dX9_enters_50 ?_
        obtain ⟨v13, hv13, h⟩ := Option.bind_eq_some_iff.mp h
        refine q_nmI hv13 ?_
        refine lv_istore (lv' := [(4, .int v13), (0, .ref (b0 + a0)), (1, .int x1), (2, .int x2), (3, .int x3)]) C0.hx C0.hb dX9_enters_51 hl (by decide) rfl (fun ls hl => ?_)
        refine lv_aload_n C0.hx C0.hb dX9_enters_53 rfl (lv_at hl 1 rfl) ?_
        obtain ⟨r14, hr14, h⟩ := Option.bind_eq_some_iff.mp h
        refine q_getR C0 hw hr14 rfl in_9 (by decide) kw_880 dX9_enters_54 ?_
        refine lv_iload_n C0.hx C0.hb dX9_enters_57 rfl (lv_at hl 3 rfl) ?_
        refine lv_aload_n C0.hx C0.hb dX9_enters_58 rfl (lv_at hl 1 rfl) ?_
        obtain ⟨r15, hr15, h⟩ := Option.bind_eq_some_iff.mp h
        refine q_getR C0 hw hr15 rfl in_9 (by decide) kw_880 dX9_enters_59 ?_
        refine lv_iload_n C0.hx C0.hb dX9_enters_62 rfl (lv_at hl 3 rfl) ?_
        obtain ⟨v16, hv16, h⟩ := Option.bind_eq_some_iff.mp h
        refine q_ldI C0 hw hv16 dX9_enters_63 ?_
        refine lv_if_lt (tgt := 78) C0.hx C0.hb dX9_enters_64 (by decide) (fun hc => ?_) (fun hc => ?_)
        · have h := (if_pos hc).symm.trans h
          exact w_X9_enters_b78 C0 hr hlocks v13 x2 r14 S _ _ _ hw (lv_sub hl [0] rfl) h
        · have h := (if_neg hc).symm.trans h
          refine lv_iload C0.hx C0.hb dX9_enters_67 (lv_at hl 0 rfl) ?_
          refine lv_aload_n C0.hx C0.hb dX9_enters_69 rfl (lv_at hl 1 rfl) ?_
          obtain ⟨r18, hr18, h⟩ := Option.bind_eq_some_iff.mp h
          refine q_getR C0 hw hr18 rfl in_9 (by decide) kw_880 dX9_enters_70 ?_
          refine lv_iload_n C0.hx C0.hb dX9_enters_73 rfl (lv_at hl 3 rfl) ?_
          obtain ⟨v19, hv19, h⟩ := Option.bind_eq_some_iff.mp h
          refine q_ldI C0 hw hv19 dX9_enters_74 ?_
          refine lv_icmp_ge (tgt := 83) C0.hx C0.hb dX9_enters_75 (by decide) (fun hc => ?_) (fun hc => ?_)
          · have h := (if_pos hc).symm.trans h
            refine lv_aload_n C0.hx C0.hb dX9_enters_83 rfl (lv_at hl 1 rfl) ?_
            obtain ⟨r20, hr20, h⟩ := Option.bind_eq_some_iff.mp h
            refine q_getR C0 hw hr20 rfl in_9 (by decide) kw_880 dX9_enters_84 ?_
            refine lv_iload_n C0.hx C0.hb dX9_enters_87 rfl (lv_at hl 3 rfl) ?_
            obtain ⟨v21, hv21, h⟩ := Option.bind_eq_some_iff.mp h
            refine q_ldI C0 hw hv21 dX9_enters_88 ?_
            obtain ⟨S22, hS22, h⟩ := Option.bind_eq_some_iff.mp h
            refine q_stI C0 hw hS22 dX9_enters_89 (fun H locs hw => ?_)
            obtain rfl := Option.some.inj h
            exact q_retv C0 hw hr hlocks dX9_enters_90
          · have h := (if_neg hc).symm.trans h
            exact w_X9_enters_b78 C0 hr hlocks v13 x2 r14 S _ _ _ hw (lv_sub hl [0] rfl) h
