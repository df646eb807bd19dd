abbrev rm_X9_quietest : Room := { frames := 2, cells := 0, slots := 0, locals := 46 }
def f_X9_quietest_b38 (k13 : Nat → Int32 → Int32 → Mem → Option (Int32 × Mem)) (a0 : Nat) (x1 : Int32) (x2 : Int32) (t0 : Int32) (t1 : Int32) (t2 : Nat) (S : Mem) : Option (Int32 × Mem) :=
    (stI S t2 t1 t0).bind fun S24 =>
      (some (x2 + (1 : Int32))).bind fun v25 =>
      k13 a0 x1 v25 S24
def f_X9_quietest_b57 (k47 : Nat → Int32 → Int32 → Mem → Option (Int32 × Mem)) : Nat → Nat → Int32 → Int32 → Int32 → Mem → Option (Int32 × Mem)
  | 0, _, _, _, _, _ => none
  | n + 1, a0, x1, x2, x3, S =>
    (gI 9 2 S a0).bind fun v6 =>
      (if v6 ≤ x3 then
      (some (x2 + (1 : Int32))).bind fun v7 =>
      k47 a0 x1 v7 S
      else
      (gR 9 4 S a0).bind fun r8 =>
      (ldI S r8 x3).bind fun v9 =>
      (gR 9 5 S a0).bind fun r10 =>
      (ldI S r10 x3).bind fun v11 =>
      (ck 9 S a0).bind fun c12 =>
      (f_X9_enters a0 v9 v11 x3 S).bind fun S13 =>
      (gR 9 5 S13 a0).bind fun r14 =>
      (ldI S13 r14 x3).bind fun v15 =>
      (gR 9 4 S13 a0).bind fun r16 =>
      (ldI S13 r16 x3).bind fun v17 =>
      (ck 9 S13 a0).bind fun c18 =>
      (f_X9_enters a0 v15 v17 x3 S13).bind fun S19 =>
      (some (x3 + (1 : Int32))).bind fun v20 =>
      f_X9_quietest_b57 k47 n a0 x1 x2 v20 S19)
def f_X9_quietest_b47 : Nat → Nat → Int32 → Int32 → Mem → Option (Int32 × Mem)
  | 0, _, _, _, _ => none
  | n + 1, a0, x1, x2, S =>
    (gI 9 1 S a0).bind fun v3 =>
      (if v3 ≤ x2 then
      (gR 9 18 S a0).bind fun r4 =>
      (ldI S r4 x1).bind fun v5 =>
      some (v5, S)
      else
      f_X9_quietest_b57 (fun a0 x1 x2 S => f_X9_quietest_b47  n a0 x1 x2 S) FU a0 x1 x2 (0 : Int32) S)
def f_X9_quietest_b13 : Nat → Nat → Int32 → Int32 → Mem → Option (Int32 × Mem)
  | 0, _, _, _, _ => none
  | n + 1, a0, x1, x2, S =>
    (if (8 : Int32) ≤ x2 then
      f_X9_quietest_b47 FU a0 x1 (0 : Int32) S
      else
      (gR 9 18 S a0).bind fun r21 =>
      (ck 9 S a0).bind fun c22 =>
      (f_X9_at a0 (2 : Int32) S).bind fun v23 =>
      (if x2 = v23 then
      f_X9_quietest_b38 (fun a0 x1 x2 S => f_X9_quietest_b13  n a0 x1 x2 S) a0 x1 x2 (0 : Int32) x2 r21 S
      else
      f_X9_quietest_b38 (fun a0 x1 x2 S => f_X9_quietest_b13  n a0 x1 x2 S) a0 x1 x2 (-1 : Int32) x2 r21 S))
def f_X9_quietest (a0 : Nat) (x1 : Int32) (S : Mem) : Option (Int32 × Mem) :=
    (ck 9 S a0).bind fun c1 =>
      (f_X9_isRoom a0 x1 S).bind fun v2 =>
      (if v2 = (0 : Int32) then
      some ((-1000000001 : Int32), S)
      else
      f_X9_quietest_b13 FU a0 x1 (0 : Int32) S)
set_option maxHeartbeats 4000000 in
set_option maxRecDepth 100000 in
theorem w_X9_quietest_b38 {p : Program} {l : Launch} {e : Env} {s : State} {m : MethodId} {args : Array Value} {below : List Frame} {meth : Method} {c : Code} {b0 : Nat} {D : va_G} {cy : Nat → ClassId} {q : (Int32 × Mem)} (C0 : Cx p m c cX9_quietest 4 s args RX9 D cy) (hr : meth.sig.returnType = some .int) (hlocks : meth.locks = false) (k13 : Nat → Int32 → Int32 → Mem → Option (Int32 × Mem)) (hk13 : ∀ (a0 : Nat) (x1 : Int32) (x2 : Int32) (S : Mem) (H : Heap) (locs : List Loc) (ls : Array Slot), Wd b0 D cy S s.heap H locs → lv_has ls 4 [(0, .ref (b0 + a0)), (1, .int x1), (2, .int x2)] → k13 a0 x1 x2 S = some q → W p l e rm_X9_quietest s m args below meth c H locs 0 0 (MQ below (Qp b0 D cy (some (.int q.1)) q.2) args s 0 0 (fun q => b0 ≤ q)) (F0 m 13 ls [])) : ∀ (a0 : Nat) (x1 : Int32) (x2 : Int32) (t0 : Int32) (t1 : Int32) (t2 : Nat) (S : Mem) (H : Heap) (locs : List Loc) (ls : Array Slot), Wd b0 D cy S s.heap H locs → lv_has ls 4 [(0, .ref (b0 + a0)), (1, .int x1), (2, .int x2)] → f_X9_quietest_b38 k13 a0 x1 x2 t0 t1 t2 S = some q → W p l e rm_X9_quietest s m args below meth c H locs 0 0 (MQ below (Qp b0 D cy (some (.int q.1)) q.2) args s 0 0 (fun q => b0 ≤ q)) (F0 m 38 ls [.int t0, .int t1, .ref (b0 + t2)]) := by
  intro a0 x1 x2 t0 t1 t2 S H locs ls hw hl h
  rw [f_X9_quietest_b38] at h
  obtain ⟨S24, hS24, h⟩ := Option.bind_eq_some_iff.mp h
  refine q_stI C0 hw hS24 dX9_quietest_38 (fun H locs hw => ?_)
  obtain ⟨v25, hv25, h⟩ := Option.bind_eq_some_iff.mp h
  refine lv_iinc (v := v25) (lv' := [(2, .int v25), (0, .ref (b0 + a0)), (1, .int x1)]) C0.hx C0.hb dX9_quietest_39 hl (k := 2) rfl (by rw [← Option.some.inj hv25]; rfl) (by decide) rfl (fun ls hl => ?_)
  refine lv_goto (tgt := 13) C0.hx C0.hb dX9_quietest_42 (by decide) ?_
  exact hk13 a0 x1 v25 S24 _ _ _ hw (lv_sub hl [1, 2, 0] rfl) h
set_option maxHeartbeats 4000000 in
set_option maxRecDepth 100000 in
theorem w_X9_quietest_b57 {p : Program} {l : Launch} {e : Env} {s : State} {m : MethodId} {args : Array Value} {below : List Frame} {meth : Method} {c : Code} {b0 : Nat} {D : va_G} {cy : Nat → ClassId} {q : (Int32 × Mem)} (C0 : Cx p m c cX9_quietest 4 s args RX9 D cy) (hr : meth.sig.returnType = some .int) (hlocks : meth.locks = false) (k47 : Nat → Int32 → Int32 → Mem → Option (Int32 × Mem)) (hk47 : ∀ (a0 : Nat) (x1 : Int32) (x2 : Int32) (S : Mem) (H : Heap) (locs : List Loc) (ls : Array Slot), Wd b0 D cy S s.heap H locs → lv_has ls 4 [(0, .ref (b0 + a0)), (1, .int x1), (2, .int x2)] → k47 a0 x1 x2 S = some q → W p l e rm_X9_quietest s m args below meth c H locs 0 0 (MQ below (Qp b0 D cy (some (.int q.1)) q.2) args s 0 0 (fun q => b0 ≤ q)) (F0 m 47 ls [])) : ∀ (n : Nat) (a0 : Nat) (x1 : Int32) (x2 : Int32) (x3 : Int32) (S : Mem) (H : Heap) (locs : List Loc) (ls : Array Slot), Wd b0 D cy S s.heap H locs → lv_has ls 4 [(0, .ref (b0 + a0)), (1, .int x1), (2, .int x2), (3, .int x3)] → f_X9_quietest_b57 k47 n a0 x1 x2 x3 S = some q → W p l e rm_X9_quietest s m args below meth c H locs 0 0 (MQ below (Qp b0 D cy (some (.int q.1)) q.2) args s 0 0 (fun q => b0 ≤ q)) (F0 m 57 ls []) := by
  intro n
  induction n with
  | zero => intro a0 x1 x2 x3 S H locs ls hw hl h; exact absurd h (by simp [f_X9_quietest_b57])
  | succ n ih =>
    intro a0 x1 x2 x3 S H locs ls hw hl h
    rw [f_X9_quietest_b57] at h
    refine lv_iload_n C0.hx C0.hb dX9_quietest_57 rfl (lv_at hl 3 rfl) ?_
    refine lv_aload_n C0.hx C0.hb dX9_quietest_58 rfl (lv_at hl 0 rfl) ?_
    obtain ⟨v6, hv6, h⟩ := Option.bind_eq_some_iff.mp h
    refine q_getI C0 hw hv6 rfl in_9 (by decide) kw_864 dX9_quietest_59 ?_
    refine lv_icmp_ge (tgt := 105) C0.hx C0.hb dX9_quietest_62 (by decide) (fun hc => ?_) (fun hc => ?_)
    · have h := (if_pos hc).symm.trans h
      obtain ⟨v7, hv7, h⟩ := Option.bind_eq_some_iff.mp h
      refine lv_iinc (v := v7) (lv' := [(2, .int v7), (0, .ref (b0 + a0)), (1, .int x1), (3, .int x3)]) C0.hx C0.hb dX9_quietest_105 hl (k := 2) rfl (by rw [← Option.some.inj hv7]; rfl) (by decide) rfl (fun ls hl => ?_)
      refine lv_goto (tgt := 47) C0.hx C0.hb dX9_quietest_108 (by decide) ?_
      exact hk47 a0 x1 v7 S _ _ _ hw (lv_sub hl [1, 2, 0] rfl) h
    · have h := (if_neg hc).symm.trans h
      refine lv_aload_n C0.hx C0.hb dX9_quietest_65 rfl (lv_at hl 0 rfl) ?_
      refine lv_aload_n C0.hx C0.hb dX9_quietest_66 rfl (lv_at hl 0 rfl) ?_
      obtain ⟨r8, hr8, h⟩ := Option.bind_eq_some_iff.mp h
      refine q_getR C0 hw hr8 rfl in_9 (by decide) kw_866 dX9_quietest_67 ?_
      refine lv_iload_n C0.hx C0.hb dX9_quietest_70 rfl (lv_at hl 3 rfl) ?_
      obtain ⟨v9, hv9, h⟩ := Option.bind_eq_some_iff.mp h
      refine q_ldI C0 hw hv9 dX9_quietest_71 ?_
      refine lv_aload_n C0.hx C0.hb dX9_quietest_72 rfl (lv_at hl 0 rfl) ?_
      obtain ⟨r10, hr10, h⟩ := Option.bind_eq_some_iff.mp h
      refine q_getR C0 hw hr10 rfl in_9 (by decide) kw_867 dX9_quietest_73 ?_
      refine lv_iload_n C0.hx C0.hb dX9_quietest_76 rfl (lv_at hl 3 rfl) ?_
      obtain ⟨v11, hv11, h⟩ := Option.bind_eq_some_iff.mp h
      refine q_ldI C0 hw hv11 dX9_quietest_77 ?_
      refine lv_iload_n C0.hx C0.hb dX9_quietest_78 rfl (lv_at hl 3 rfl) ?_
      obtain ⟨c12, hc12, h⟩ := Option.bind_eq_some_iff.mp h
      obtain ⟨S13, hS13, h⟩ := Option.bind_eq_some_iff.mp h
      refine q_callV (n := 3) (av := [.int v9, .int v11, .int x3]) (rest := []) (st1 := []) C0 hw (m_X9_enters l b0 D cy S a0 v9 v11 x3 hS13) hc12 rfl (by decide) (goodV kw_1225 kw_1227 kw_59 kw_72 kw_1228) ⟨rfl, rfl⟩ (by decide +kernel) ⟨(Nat.le_of_ble_eq_true rfl), (Nat.le_of_ble_eq_true rfl)⟩ rfl hl.1 rfl (Nat.le_of_ble_eq_true rfl) dX9_quietest_79 ⟨Nat.zero_le _, Nat.zero_le _⟩ rfl (fun H locs hw => ?_)
      refine lv_aload_n C0.hx C0.hb dX9_quietest_82 rfl (lv_at hl 0 rfl) ?_
      refine lv_aload_n C0.hx C0.hb dX9_quietest_83 rfl (lv_at hl 0 rfl) ?_
      obtain ⟨r14, hr14, h⟩ := Option.bind_eq_some_iff.mp h
      refine q_getR C0 hw hr14 rfl in_9 (by decide) kw_867 dX9_quietest_84 ?_
      refine lv_iload_n C0.hx C0.hb dX9_quietest_87 rfl (lv_at hl 3 rfl) ?_
      obtain ⟨v15, hv15, h⟩ := Option.bind_eq_some_iff.mp h
      refine q_ldI C0 hw hv15 dX9_quietest_88 ?_
      refine lv_aload_n C0.hx C0.hb dX9_quietest_89 rfl (lv_at hl 0 rfl) ?_
      obtain ⟨r16, hr16, h⟩ := Option.bind_eq_some_iff.mp h
      refine q_getR C0 hw hr16 rfl in_9 (by decide) kw_866 dX9_quietest_90 ?_
      refine lv_iload_n C0.hx C0.hb dX9_quietest_93 rfl (lv_at hl 3 rfl) ?_
      obtain ⟨v17, hv17, h⟩ := Option.bind_eq_some_iff.mp h
      refine q_ldI C0 hw hv17 dX9_quietest_94 ?_
      refine lv_iload_n C0.hx C0.hb dX9_quietest_95 rfl (lv_at hl 3 rfl) ?_
      obtain ⟨c18, hc18, h⟩ := Option.bind_eq_some_iff.mp h
      obtain ⟨S19, hS19, h⟩ := Option.bind_eq_some_iff.mp h
      refine q_callV (n := 3) (av := [.int v15, .int v17, .int x3]) (rest := []) (st1 := []) C0 hw (m_X9_enters l b0 D cy S13 a0 v15 v17 x3 hS19) hc18 rfl (by decide) (goodV kw_1225 kw_1227 kw_59 kw_72 kw_1228) ⟨rfl, rfl⟩ (by decide +kernel) ⟨(Nat.le_of_ble_eq_true rfl), (Nat.le_of_ble_eq_true rfl)⟩ rfl hl.1 rfl (Nat.le_of_ble_eq_true rfl) dX9_quietest_96 ⟨Nat.zero_le _, Nat.zero_le _⟩ rfl (fun H locs hw => ?_)
      obtain ⟨v20, hv20, h⟩ := Option.bind_eq_some_iff.mp h
      refine lv_iinc (v := v20) (lv' := [(3, .int v20), (0, .ref (b0 + a0)), (1, .int x1), (2, .int x2)]) C0.hx C0.hb dX9_quietest_99 hl (k := 3) rfl (by rw [← Option.some.inj hv20]; rfl) (by decide) rfl (fun ls hl => ?_)
      refine lv_goto (tgt := 57) C0.hx C0.hb dX9_quietest_102 (by decide) ?_
      exact ih a0 x1 x2 v20 S19 _ _ _ hw (lv_sub hl [1, 2, 3, 0] rfl) h
set_option maxHeartbeats 4000000 in
set_option maxRecDepth 100000 in
theorem w_X9_quietest_b47 {p : Program} {l : Launch} {e : Env} {s : State} {m : MethodId} {args : Array Value} {below : List Frame} {meth : Method} {c : Code} {b0 : Nat} {D : va_G} {cy : Nat → ClassId} {q : (Int32 × Mem)} (C0 : Cx p m c cX9_quietest 4 s args RX9 D cy) (hr : meth.sig.returnType = some .int) (hlocks : meth.locks = false) : ∀ (n : Nat) (a0 : Nat) (x1 : Int32) (x2 : Int32) (S : Mem) (H : Heap) (locs : List Loc) (ls : Array Slot), Wd b0 D cy S s.heap H locs → lv_has ls 4 [(0, .ref (b0 + a0)), (1, .int x1), (2, .int x2)] → f_X9_quietest_b47  n a0 x1 x2 S = some q → W p l e rm_X9_quietest s m args below meth c H locs 0 0 (MQ below (Qp b0 D cy (some (.int q.1)) q.2) args s 0 0 (fun q => b0 ≤ q)) (F0 m 47 ls []) := by
  intro n
  induction n with
  | zero => intro a0 x1 x2 S H locs ls hw hl h; exact absurd h (by simp [f_X9_quietest_b47])
  | succ n ih =>
    intro a0 x1 x2 S H locs ls hw hl h
    rw [f_X9_quietest_b47] at h
    refine lv_iload_n C0.hx C0.hb dX9_quietest_47 rfl (lv_at hl 2 rfl) ?_
    refine lv_aload_n C0.hx C0.hb dX9_quietest_48 rfl (lv_at hl 0 rfl) ?_
    obtain ⟨v3, hv3, h⟩ := Option.bind_eq_some_iff.mp h
    refine q_getI C0 hw hv3 rfl in_9 (by decide) kw_863 dX9_quietest_49 ?_
    refine lv_icmp_ge (tgt := 111) C0.hx C0.hb dX9_quietest_52 (by decide) (fun hc => ?_) (fun hc => ?_)
    · have h := (if_pos hc).symm.trans h
      refine lv_aload_n C0.hx C0.hb dX9_quietest_111 rfl (lv_at hl 0 rfl) ?_
      obtain ⟨r4, hr4, h⟩ := Option.bind_eq_some_iff.mp h
      refine q_getR C0 hw hr4 rfl in_9 (by decide) kw_880 dX9_quietest_112 ?_
      refine lv_iload_n C0.hx C0.hb dX9_quietest_115 rfl (lv_at hl 1 rfl) ?_
      obtain ⟨v5, hv5, h⟩ := Option.bind_eq_some_iff.mp h
      refine q_ldI C0 hw hv5 dX9_quietest_116 ?_
      obtain rfl := Option.some.inj h
      exact q_reti C0 hw hr hlocks dX9_quietest_117
    · have h := (if_neg hc).symm.trans h
      refine lv_iconst (v := (0 : Int32)) C0.hx C0.hb dX9_quietest_55 (by decide) ?_
      refine lv_istore_n (lv' := [(3, .int (0 : Int32)), (0, .ref (b0 + a0)), (1, .int x1), (2, .int x2)]) C0.hx C0.hb dX9_quietest_56 rfl hl (by decide) rfl (fun ls hl => ?_)
      exact w_X9_quietest_b57 C0 hr hlocks (fun a0 x1 x2 S => f_X9_quietest_b47  n a0 x1 x2 S) ih FU a0 x1 x2 (0 : Int32) S _ _ _ hw (lv_sub hl [1, 2, 3, 0] rfl) h
set_option maxHeartbeats 4000000 in
set_option maxRecDepth 100000 in
theorem w_X9_quietest_b13 {p : Program} {l : Launch} {e : Env} {s : State} {m : MethodId} {args : Array Value} {below : List Frame} {meth : Method} {c : Code} {b0 : Nat} {D : va_G} {cy : Nat → ClassId} {q : (Int32 × Mem)} (C0 : Cx p m c cX9_quietest 4 s args RX9 D cy) (hr : meth.sig.returnType = some .int) (hlocks : meth.locks = false) : ∀ (n : Nat) (a0 : Nat) (x1 : Int32) (x2 : Int32) (S : Mem) (H : Heap) (locs : List Loc) (ls : Array Slot), Wd b0 D cy S s.heap H locs → lv_has ls 4 [(0, .ref (b0 + a0)), (1, .int x1), (2, .int x2)] → f_X9_quietest_b13  n a0 x1 x2 S = some q → W p l e rm_X9_quietest s m args below meth c H locs 0 0 (MQ below (Qp b0 D cy (some (.int q.1)) q.2) args s 0 0 (fun q => b0 ≤ q)) (F0 m 13 ls []) := by
  intro n
  induction n with
  | zero => intro a0 x1 x2 S H locs ls hw hl h; exact absurd h (by simp [f_X9_quietest_b13])
  | succ n ih =>
    intro a0 x1 x2 S H locs ls hw hl h
    rw [f_X9_quietest_b13] at h
    refine lv_iload_n C0.hx C0.hb dX9_quietest_13 rfl (lv_at hl 2 rfl) ?_
    refine lv_bipush (v := (8 : Int32)) C0.hx C0.hb dX9_quietest_14 (by decide) ?_
    refine lv_icmp_ge (tgt := 45) C0.hx C0.hb dX9_quietest_16 (by decide) (fun hc => ?_) (fun hc => ?_)
    · have h := (if_pos hc).symm.trans h
      refine lv_iconst (v := (0 : Int32)) C0.hx C0.hb dX9_quietest_45 (by decide) ?_
      refine lv_istore_n (lv' := [(2, .int (0 : Int32)), (0, .ref (b0 + a0)), (1, .int x1)]) C0.hx C0.hb dX9_quietest_46 rfl hl (by decide) rfl (fun ls hl => ?_)
      exact w_X9_quietest_b47 C0 hr hlocks FU a0 x1 (0 : Int32) S _ _ _ hw (lv_sub hl [1, 2, 0] rfl) h
    · have h := (if_neg hc).symm.trans h
      refine lv_aload_n C0.hx C0.hb dX9_quietest_19 rfl (lv_at hl 0 rfl) ?_
      obtain ⟨r21, hr21, h⟩ := Option.bind_eq_some_iff.mp h
      refine q_getR C0 hw hr21 rfl in_9 (by decide) kw_880 dX9_quietest_20 ?_
      refine lv_iload_n C0.hx C0.hb dX9_quietest_23 rfl (lv_at hl 2 rfl) ?_
      refine lv_iload_n C0.hx C0.hb dX9_quietest_24 rfl (lv_at hl 2 rfl) ?_
      refine lv_aload_n C0.hx C0.hb dX9_quietest_25 rfl (lv_at hl 0 rfl) ?_
      refine lv_iconst (v := (2 : Int32)) C0.hx C0.hb dX9_quietest_26 (by decide) ?_
      obtain ⟨c22, hc22, h⟩ := Option.bind_eq_some_iff.mp h
      obtain ⟨v23, hv23, h⟩ := Option.bind_eq_some_iff.mp h
      refine q_callV (n := 1) (av := [.int (2 : Int32)]) (rest := [.int x2, .int x2, .ref (b0 + r21)]) (st1 := [.int v23, .int x2, .int x2, .ref (b0 + r21)]) C0 hw (m_X9_at l b0 D cy S a0 (2 : Int32) hv23) hc22 rfl (by decide) (goodV kw_1013 kw_1015 kw_34 kw_72 kw_1016) ⟨rfl, rfl⟩ (by decide +kernel) ⟨(Nat.le_of_ble_eq_true rfl), (Nat.le_of_ble_eq_true rfl)⟩ rfl hl.1 rfl (Nat.le_of_ble_eq_true rfl) dX9_quietest_27 ⟨Nat.zero_le _, Nat.zero_le _⟩ rfl (fun H locs hw => ?_)
      refine lv_icmp_ne (tgt := 37) C0.hx C0.hb dX9_quietest_30 (by decide) (fun hc => ?_) (fun hc => ?_)
      · have h := (if_neg hc).symm.trans h
        refine lv_iconst (v := (-1 : Int32)) C0.hx C0.hb dX9_quietest_37 (by decide) ?_
        exact w_X9_quietest_b38 C0 hr hlocks (fun a0 x1 x2 S => f_X9_quietest_b13  n a0 x1 x2 S) ih a0 x1 x2 (-1 : Int32) x2 r21 S _ _ _ hw (lv_sub hl [0, 1, 2] rfl) h
      · have h := (if_pos hc).symm.trans h
        refine lv_iconst (v := (0 : Int32)) C0.hx C0.hb dX9_quietest_33 (by decide) ?_
        refine lv_goto (tgt := 38) C0.hx C0.hb dX9_quietest_34 (by decide) ?_
        exact w_X9_quietest_b38 C0 hr hlocks (fun a0 x1 x2 S => f_X9_quietest_b13  n a0 x1 x2 S) ih a0 x1 x2 (0 : Int32) x2 r21 S _ _ _ hw (lv_sub hl [0, 1, 2] rfl) h
set_option maxHeartbeats 4000000 in
set_option maxRecDepth 100000 in
theorem m_X9_quietest (l : Launch) (b0 : Nat) (D : va_G) (cy : Nat → ClassId) (S : Mem) (a0 : Nat) (x1 : Int32) {q : (Int32 × Mem)} (h : f_X9_quietest a0 x1 S = some q) : Met l yX9_quietest [.code yX9_quietest cX9_quietest 4 (some .int)] rm_X9_quietest (Pr b0 D cy S [.ref (b0 + a0), .int x1]) (Qp b0 D cy (some (.int q.1)) q.2) 0 0 (fun q => b0 ≤ q) := by
  refine Met.ofW (cc := cX9_quietest) (maxL := 4) (ret := some .int) (by decide) rfl ?_
  intro p e s m args below meth c s₁ B hml hv
  obtain ⟨rfl, hP, hK, hT⟩ := hv
  have C0 : Cx p m c cX9_quietest 4 s (List.toArray [.ref (b0 + a0), .int x1]) RX9 D cy := ⟨⟨B.exec, B.bytes, hml, findClass_of_methodNamed B.named, fun w h => hT w h _⟩, hK, hT⟩
  have hr : meth.sig.returnType = some .int := B.returns
  have hlocks := B.notSynchronized
  have hw : Wd b0 D cy S s.heap s.heap [] := ⟨hP, va_S.rf⟩
  have hl := lv_entry ([.ref (b0 + a0), .int x1]) (n := 4) (Nat.le_of_ble_eq_true rfl)
  rw [lg_entry_eq]
  generalize (lg_sl ([.ref (b0 + a0), .int x1]) ++ List.replicate (4 - (lg_sl ([.ref (b0 + a0), .int x1])).length) Slot.unset).toArray = ls at hl ⊢
  have hl : lv_has ls 4 [(0, .ref (b0 + a0)), (1, .int x1)] := hl
  rw [f_X9_quietest] at h
  show W p l e rm_X9_quietest s m _ below meth c s.heap [] 0 0 _ _
  refine lv_aload_n C0.hx C0.hb dX9_quietest_0 rfl (lv_at hl 0 rfl) ?_
  refine lv_iload_n C0.hx C0.hb dX9_quietest_1 rfl (lv_at hl 1 rfl) ?_
  obtain ⟨c1, hc1, h⟩ := Option.bind_eq_some_iff.mp h
  obtain ⟨v2, hv2, h⟩ := Option.bind_eq_some_iff.mp h
  refine q_callV (n := 1) (av := [.int x1]) (rest := []) (st1 := [.int v2]) C0 hw (m_X9_isRoom l b0 D cy S a0 x1 hv2) hc1 rfl (by decide) (goodV kw_1021 kw_1023 kw_35 kw_72 kw_1024) ⟨rfl, rfl⟩ (by decide +kernel) ⟨(Nat.le_of_ble_eq_true rfl), (Nat.le_of_ble_eq_true rfl)⟩ rfl hl.1 rfl (Nat.le_of_ble_eq_true rfl) dX9_quietest_2 ⟨Nat.zero_le _, Nat.zero_le _⟩ rfl (fun H locs hw => ?_)
  refine lv_if_ne (tgt := 11) C0.hx C0.hb dX9_quietest_5 (by decide) (fun hc => ?_) (fun hc => ?_)
  · have h := (if_neg hc).symm.trans h
    refine lv_iconst (v := (0 : Int32)) C0.hx C0.hb dX9_quietest_11 (by decide) ?_
    refine lv_istore_n (lv' := [(2, .int (0 : Int32)), (0, .ref (b0 + a0)), (1, .int x1)]) C0.hx C0.hb dX9_quietest_12 rfl hl (by decide) rfl (fun ls hl => ?_)
    exact w_X9_quietest_b13 C0 hr hlocks FU a0 x1 (0 : Int32) S _ _ _ hw (lv_sub hl [1, 2, 0] rfl) h
  · have h := (if_pos hc).symm.trans h
    refine lv_ldc C0.hx C0.hb C0.ho (C0.w kw_1025) dX9_quietest_8 ?_
    obtain rfl := Option.some.inj h
    exact q_reti C0 hw hr hlocks dX9_quietest_10
abbrev rm_X9_stand : Room := { frames := 4, cells := 0, slots := 0, locals := 109 }
def f_X9_stand_b58 (k18 : Nat → Int32 → Int32 → Mem → Option (Int32 × Mem)) (a0 : Nat) (x2 : Int32) (t0 : Int32) (S : Mem) : Option (Int32 × Mem) :=
    (some (x2 + (1 : Int32))).bind fun v14 =>
      k18 a0 t0 v14 S
def f_X9_stand_b65 (a0 : Nat) (x1 : Int32) (S : Mem) : Option (Int32 × Mem) :=
    (ck 9 S a0).bind fun c4 =>
      (f_X9_backs a0 S).bind fun S5 =>
      some (x1, S5)
def f_X9_stand_b18 : Nat → Nat → Int32 → Int32 → Mem → Option (Int32 × Mem)
  | 0, _, _, _, _ => none
  | n + 1, a0, x1, x2, S =>
    (if (100 : Int32) ≤ x2 then
      f_X9_stand_b65 a0 x1 S
      else
      (if x1 = (-1 : Int32) then
      (ck 9 S a0).bind fun c6 =>
      (f_X9_goesBy a0 S).bind fun S7 =>
      (gR 9 7 S7 a0).bind fun r8 =>
      (ldJ S7 r8 (2 : Int32)).bind fun u9 =>
      (gR 9 17 S7 a0).bind fun r10 =>
      (ldJ S7 r10 (2 : Int32)).bind fun u11 =>
      (if (lg_cmp u9 u11) = (0 : Int32) then
      f_X9_stand_b58 (fun a0 x1 x2 S => f_X9_stand_b18  n a0 x1 x2 S) a0 x2 (-1 : Int32) S7
      else
      (ck 9 S7 a0).bind fun c12 =>
      (f_X9_at a0 (2 : Int32) S7).bind fun v13 =>
      f_X9_stand_b58 (fun a0 x1 x2 S => f_X9_stand_b18  n a0 x1 x2 S) a0 x2 v13 S7)
      else
      f_X9_stand_b65 a0 x1 S))
def f_X9_stand (a0 : Nat) (S : Mem) : Option (Int32 × Mem) :=
    (gI 9 1 S a0).bind fun v1 =>
      (if v1 = (0 : Int32) then
      some ((-1000000003 : Int32), S)
      else
      (ck 9 S a0).bind fun c2 =>
      (f_X9_asides a0 S).bind fun S3 =>
      f_X9_stand_b18 FU a0 (-1 : Int32) (1 : Int32) S3)
set_option maxHeartbeats 4000000 in
set_option maxRecDepth 100000 in
theorem w_X9_stand_b58 {p : Program} {l : Launch} {e : Env} {s : State} {m : MethodId} {args : Array Value} {below : List Frame} {meth : Method} {c : Code} {b0 : Nat} {D : va_G} {cy : Nat → ClassId} {q : (Int32 × Mem)} (C0 : Cx p m c cX9_stand 3 s args RX9 D cy) (hr : meth.sig.returnType = some .int) (hlocks : meth.locks = false) (k18 : Nat → Int32 → Int32 → Mem → Option (Int32 × Mem)) (hk18 : ∀ (a0 : Nat) (x1 : Int32) (x2 : Int32) (S : Mem) (H : Heap) (locs : List Loc) (ls : Array Slot), Wd b0 D cy S s.heap H locs → lv_has ls 3 [(0, .ref (b0 + a0)), (1, .int x1), (2, .int x2)] → k18 a0 x1 x2 S = some q → W p l e rm_X9_stand s m args below meth c H locs 0 0 (MQ below (Qp b0 D cy (some (.int q.1)) q.2) args s 0 0 (fun q => b0 ≤ q)) (F0 m 18 ls [])) : ∀ (a0 : Nat) (x2 : Int32) (t0 : Int32) (S : Mem) (H : Heap) (locs : List Loc) (ls : Array Slot), Wd b0 D cy S s.heap H locs → lv_has ls 3 [(0, .ref (b0 + a0)), (2, .int x2)] → f_X9_stand_b58 k18 a0 x2 t0 S = some q → W p l e rm_X9_stand s m args below meth c H locs 0 0 (MQ below (Qp b0 D cy (some (.int q.1)) q.2) args s 0 0 (fun q => b0 ≤ q)) (F0 m 58 ls [.int t0]) := by
  intro a0 x2 t0 S H locs ls hw hl h
  rw [f_X9_stand_b58] at h
  refine lv_istore_n (lv' := [(1, .int t0), (0, .ref (b0 + a0)), (2, .int x2)]) C0.hx C0.hb dX9_stand_58 rfl hl (by decide) rfl (fun ls hl => ?_)
  obtain ⟨v14, hv14, h⟩ := Option.bind_eq_some_iff.mp h
  refine lv_iinc (v := v14) (lv' := [(2, .int v14), (1, .int t0), (0, .ref (b0 + a0))]) C0.hx C0.hb dX9_stand_59 hl (k := 2) rfl (by rw [← Option.some.inj hv14]; rfl) (by decide) rfl (fun ls hl => ?_)
  refine lv_goto (tgt := 18) C0.hx C0.hb dX9_stand_62 (by decide) ?_
  exact hk18 a0 t0 v14 S _ _ _ hw (lv_sub hl [2, 1, 0] rfl) h
set_option maxHeartbeats 4000000 in
set_option maxRecDepth 100000 in
theorem w_X9_stand_b65 {p : Program} {l : Launch} {e : Env} {s : State} {m : MethodId} {args : Array Value} {below : List Frame} {meth : Method} {c : Code} {b0 : Nat} {D : va_G} {cy : Nat → ClassId} {q : (Int32 × Mem)} (C0 : Cx p m c cX9_stand 3 s args RX9 D cy) (hr : meth.sig.returnType = some .int) (hlocks : meth.locks = false) : ∀ (a0 : Nat) (x1 : Int32) (S : Mem) (H : Heap) (locs : List Loc) (ls : Array Slot), Wd b0 D cy S s.heap H locs → lv_has ls 3 [(0, .ref (b0 + a0)), (1, .int x1)] → f_X9_stand_b65  a0 x1 S = some q → W p l e rm_X9_stand s m args below meth c H locs 0 0 (MQ below (Qp b0 D cy (some (.int q.1)) q.2) args s 0 0 (fun q => b0 ≤ q)) (F0 m 65 ls []) := by
  intro a0 x1 S H locs ls hw hl h
  rw [f_X9_stand_b65] at h
  refine lv_aload_n C0.hx C0.hb dX9_stand_65 rfl (lv_at hl 0 rfl) ?_
  obtain ⟨c4, hc4, h⟩ := Option.bind_eq_some_iff.mp h
  obtain ⟨S5, hS5, h⟩ := Option.bind_eq_some_iff.mp h
  refine q_callV (n := 0) (av := []) (rest := []) (st1 := []) C0 hw (m_X9_backs l b0 D cy S a0 hS5) hc4 rfl (by decide) (goodV kw_1185 kw_1187 kw_56 kw_72 kw_1188) ⟨rfl, rfl⟩ (by decide +kernel) ⟨(Nat.le_of_ble_eq_true rfl), (Nat.le_of_ble_eq_true rfl)⟩ rfl hl.1 rfl (Nat.le_of_ble_eq_true rfl) dX9_stand_66 ⟨Nat.zero_le _, Nat.zero_le _⟩ rfl (fun H locs hw => ?_)
  refine lv_iload_n C0.hx C0.hb dX9_stand_69 rfl (lv_at hl 1 rfl) ?_
  obtain rfl := Option.some.inj h
  exact q_reti C0 hw hr hlocks dX9_stand_70
set_option maxHeartbeats 4000000 in
set_option maxRecDepth 100000 in
theorem w_X9_stand_b18 {p : Program} {l : Launch} {e : Env} {s : State} {m : MethodId} {args : Array Value} {below : List Frame} {meth : Method} {c : Code} {b0 : Nat} {D : va_G} {cy : Nat → ClassId} {q : (Int32 × Mem)} (C0 : Cx p m c cX9_stand 3 s args RX9 D cy) (hr : meth.sig.returnType = some .int) (hlocks : meth.locks = false) : ∀ (n : Nat) (a0 : Nat) (x1 : Int32) (x2 : Int32) (S : Mem) (H : Heap) (locs : List Loc) (ls : Array Slot), Wd b0 D cy S s.heap H locs → lv_has ls 3 [(0, .ref (b0 + a0)), (1, .int x1), (2, .int x2)] → f_X9_stand_b18  n a0 x1 x2 S = some q → W p l e rm_X9_stand s m args below meth c H locs 0 0 (MQ below (Qp b0 D cy (some (.int q.1)) q.2) args s 0 0 (fun q => b0 ≤ q)) (F0 m 18 ls []) := by
  intro n
  induction n with
  | zero => intro a0 x1 x2 S H locs ls hw hl h; exact absurd h (by simp [f_X9_stand_b18])
  | succ n ih =>
    intro a0 x1 x2 S H locs ls hw hl h
    rw [f_X9_stand_b18] at h
    refine lv_iload_n C0.hx C0.hb dX9_stand_18 rfl (lv_at hl 2 rfl) ?_
    refine lv_bipush (v := (100 : Int32)) C0.hx C0.hb dX9_stand_19 (by decide) ?_
    refine lv_icmp_ge (tgt := 65) C0.hx C0.hb dX9_stand_21 (by decide) (fun hc => ?_) (fun hc => ?_)
    · have h := (if_pos hc).symm.trans h
      exact w_X9_stand_b65 C0 hr hlocks a0 x1 S _ _ _ hw (lv_sub hl [0, 1] rfl) h
    · have h := (if_neg hc).symm.trans h
      refine lv_iload_n C0.hx C0.hb dX9_stand_24 rfl (lv_at hl 1 rfl) ?_
      refine lv_iconst (v := (-1 : Int32)) C0.hx C0.hb dX9_stand_25 (by decide) ?_
      refine lv_icmp_ne (tgt := 65) C0.hx C0.hb dX9_stand_26 (by decide) (fun hc => ?_) (fun hc => ?_)
      · have h := (if_neg hc).symm.trans h
        exact w_X9_stand_b65 C0 hr hlocks a0 x1 S _ _ _ hw (lv_sub hl [0, 1] rfl) h
      · have h := (if_pos hc).symm.trans h
        refine lv_aload_n C0.hx C0.hb dX9_stand_29 rfl (lv_at hl 0 rfl) ?_
        obtain ⟨c6, hc6, h⟩ := Option.bind_eq_some_iff.mp h
        obtain ⟨S7, hS7, h⟩ := Option.bind_eq_some_iff.mp h
        refine q_callV (n := 0) (av := []) (rest := []) (st1 := []) C0 hw (m_X9_goesBy l b0 D cy S a0 hS7) hc6 rfl (by decide) (goodV kw_1087 kw_1089 kw_45 kw_72 kw_1090) ⟨rfl, rfl⟩ (by decide +kernel) ⟨(Nat.le_of_ble_eq_true rfl), (Nat.le_of_ble_eq_true rfl)⟩ rfl hl.1 rfl (Nat.le_of_ble_eq_true rfl) dX9_stand_30 ⟨Nat.zero_le _, Nat.zero_le _⟩ rfl (fun H locs hw => ?_)
        refine lv_aload_n C0.hx C0.hb dX9_stand_33 rfl (lv_at hl 0 rfl) ?_
        obtain ⟨r8, hr8, h⟩ := Option.bind_eq_some_iff.mp h
        refine q_getR C0 hw hr8 rfl in_9 (by decide) kw_869 dX9_stand_34 ?_
        refine lv_iconst (v := (2 : Int32)) C0.hx C0.hb dX9_stand_37 (by decide) ?_
        obtain ⟨u9, hu9, h⟩ := Option.bind_eq_some_iff.mp h
        refine q_ldJ C0 hw hu9 dX9_stand_38 ?_
        refine lv_aload_n C0.hx C0.hb dX9_stand_39 rfl (lv_at hl 0 rfl) ?_
        obtain ⟨r10, hr10, h⟩ := Option.bind_eq_some_iff.mp h
        refine q_getR C0 hw hr10 rfl in_9 (by decide) kw_879 dX9_stand_40 ?_
        refine lv_iconst (v := (2 : Int32)) C0.hx C0.hb dX9_stand_43 (by decide) ?_
        obtain ⟨u11, hu11, h⟩ := Option.bind_eq_some_iff.mp h
        refine q_ldJ C0 hw hu11 dX9_stand_44 ?_
        refine W.lcmp C0.hx C0.hb dX9_stand_45 ?_
        refine lv_if_ne (tgt := 53) C0.hx C0.hb dX9_stand_46 (by decide) (fun hc => ?_) (fun hc => ?_)
        · have h := (if_neg hc).symm.trans h
          refine lv_aload_n C0.hx C0.hb dX9_stand_53 rfl (lv_at hl 0 rfl) ?_
          refine lv_iconst (v := (2 : Int32)) C0.hx C0.hb dX9_stand_54 (by decide) ?_
          obtain ⟨c12, hc12, h⟩ := Option.bind_eq_some_iff.mp h
          obtain ⟨v13, hv13, h⟩ := Option.bind_eq_some_iff.mp h
          refine q_callV (n := 1) (av := [.int (2 : Int32)]) (rest := []) (st1 := [.int v13]) C0 hw (m_X9_at l b0 D cy S7 a0 (2 : Int32) hv13) hc12 rfl (by decide) (goodV kw_1013 kw_1015 kw_34 kw_72 kw_1016) ⟨rfl, rfl⟩ (by decide +kernel) ⟨(Nat.le_of_ble_eq_true rfl), (Nat.le_of_ble_eq_true rfl)⟩ rfl hl.1 rfl (Nat.le_of_ble_eq_true rfl) dX9_stand_55 ⟨Nat.zero_le _, Nat.zero_le _⟩ rfl (fun H locs hw => ?_)
          exact w_X9_stand_b58 C0 hr hlocks (fun a0 x1 x2 S => f_X9_stand_b18  n a0 x1 x2 S) ih a0 x2 v13 S7 _ _ _ hw (lv_sub hl [0, 2] rfl) h
        · have h := (if_pos hc).symm.trans h
          refine lv_iconst (v := (-1 : Int32)) C0.hx C0.hb dX9_stand_49 (by decide) ?_
          refine lv_goto (tgt := 58) C0.hx C0.hb dX9_stand_50 (by decide) ?_
          exact w_X9_stand_b58 C0 hr hlocks (fun a0 x1 x2 S => f_X9_stand_b18  n a0 x1 x2 S) ih a0 x2 (-1 : Int32) S7 _ _ _ hw (lv_sub hl [0, 2] rfl) h
set_option maxHeartbeats 4000000 in
set_option maxRecDepth 100000 in
theorem m_X9_stand (l : Launch) (b0 : Nat) (D : va_G) (cy : Nat → ClassId) (S : Mem) (a0 : Nat) {q : (Int32 × Mem)} (h : f_X9_stand a0 S = some q) : Met l yX9_stand [.code yX9_stand cX9_stand 3 (some .int)] rm_X9_stand (Pr b0 D cy S [.ref (b0 + a0)]) (Qp b0 D cy (some (.int q.1)) q.2) 0 0 (fun q => b0 ≤ q) := by
  refine Met.ofW (cc := cX9_stand) (maxL := 3) (ret := some .int) (by decide) rfl ?_
  intro p e s m args below meth c s₁ B hml hv
  obtain ⟨rfl, hP, hK, hT⟩ := hv
  have C0 : Cx p m c cX9_stand 3 s (List.toArray [.ref (b0 + a0)]) RX9 D cy := ⟨⟨B.exec, B.bytes, hml, findClass_of_methodNamed B.named, fun w h => hT w h _⟩, hK, hT⟩
  have hr : meth.sig.returnType = some .int := B.returns
  have hlocks := B.notSynchronized
  have hw : Wd b0 D cy S s.heap s.heap [] := ⟨hP, va_S.rf⟩
  have hl := lv_entry ([.ref (b0 + a0)]) (n := 3) (Nat.le_of_ble_eq_true rfl)
  rw [lg_entry_eq]
  generalize (lg_sl ([.ref (b0 + a0)]) ++ List.replicate (3 - (lg_sl ([.ref (b0 + a0)])).length) Slot.unset).toArray = ls at hl ⊢
  have hl : lv_has ls 3 [(0, .ref (b0 + a0))] := hl
  rw [f_X9_stand] at h
  show W p l e rm_X9_stand s m _ below meth c s.heap [] 0 0 _ _
  refine lv_aload_n C0.hx C0.hb dX9_stand_0 rfl (lv_at hl 0 rfl) ?_
  obtain ⟨v1, hv1, h⟩ := Option.bind_eq_some_iff.mp h
  refine q_getI C0 hw hv1 rfl in_9 (by decide) kw_863 dX9_stand_1 ?_
  refine lv_if_ne (tgt := 10) C0.hx C0.hb dX9_stand_4 (by decide) (fun hc => ?_) (fun hc => ?_)
  · have h := (if_neg hc).symm.trans h
    refine lv_aload_n C0.hx C0.hb dX9_stand_10 rfl (lv_at hl 0 rfl) ?_
    obtain ⟨c2, hc2, h⟩ := Option.bind_eq_some_iff.mp h
    obtain ⟨S3, hS3, h⟩ := Option.bind_eq_some_iff.mp h
    refine q_callV (n := 0) (av := []) (rest := []) (st1 := []) C0 hw (m_X9_asides l b0 D cy S a0 hS3) hc2 rfl (by decide) (goodV kw_1181 kw_1183 kw_55 kw_72 kw_1184) ⟨rfl, rfl⟩ (by decide +kernel) ⟨(Nat.le_of_ble_eq_true rfl), (Nat.le_of_ble_eq_true rfl)⟩ rfl hl.1 rfl (Nat.le_of_ble_eq_true rfl) dX9_stand_11 ⟨Nat.zero_le _, Nat.zero_le _⟩ rfl (fun H locs hw => ?_)
    refine lv_iconst (v := (-1 : Int32)) C0.hx C0.hb dX9_stand_14 (by decide) ?_
    refine lv_istore_n (lv' := [(1, .int (-1 : Int32)), (0, .ref (b0 + a0))]) C0.hx C0.hb dX9_stand_15 rfl hl (by decide) rfl (fun ls hl => ?_)
    refine lv_iconst (v := (1 : Int32)) C0.hx C0.hb dX9_stand_16 (by decide) ?_
    refine lv_istore_n (lv' := [(2, .int (1 : Int32)), (1, .int (-1 : Int32)), (0, .ref (b0 + a0))]) C0.hx C0.hb dX9_stand_17 rfl hl (by decide) rfl (fun ls hl => ?_)
    exact w_X9_stand_b18 C0 hr hlocks FU a0 (-1 : Int32) (1 : Int32) S3 _ _ _ hw (lv_sub hl [2, 1, 0] rfl) h
  · have h := (if_pos hc).symm.trans h
    refine lv_ldc C0.hx C0.hb C0.ho (C0.w kw_1077) dX9_stand_7 ?_
    obtain rfl := Option.some.inj h
    exact q_reti C0 hw hr hlocks dX9_stand_9
abbrev rm_X9_willHear : Room := { frames := 5, cells := 0, slots := 0, locals := 131 }
def f_X9_willHear_b85 (k38 : Nat → Int32 → Int32 → Mem → Option (Int32 × Mem)) (a0 : Nat) (x3 : Int32) (t0 : Int32) (t1 : Int32) (S : Mem) : Option (Int32 × Mem) :=
    (some (t1 + t0)).bind fun v13 =>
      (some (x3 + (1 : Int32))).bind fun v14 =>
      k38 a0 v13 v14 S
def f_X9_willHear_b84 (k38 : Nat → Int32 → Int32 → Mem → Option (Int32 × Mem)) (a0 : Nat) (x3 : Int32) (t0 : Int32) (S : Mem) : Option (Int32 × Mem) :=
    f_X9_willHear_b85 k38 a0 x3 (0 : Int32) t0 S
def f_X9_willHear_b38 : Nat → Nat → Int32 → Int32 → Mem → Option (Int32 × Mem)
  | 0, _, _, _, _ => none
  | n + 1, a0, x2, x3, S =>
    (gI 9 3 S a0).bind fun v7 =>
      (if v7 ≤ x3 then
      (ck 9 S a0).bind fun c8 =>
      (f_X9_backs a0 S).bind fun S9 =>
      some (x2, S9)
      else
      (gR 9 7 S a0).bind fun r10 =>
      (ldJ S r10 (7 : Int32)).bind fun u11 =>
      (f_X9_has u11 x3).bind fun v12 =>
      (if v12 = (0 : Int32) then
      f_X9_willHear_b84 (fun a0 x2 x3 S => f_X9_willHear_b38  n a0 x2 x3 S) a0 x3 x2 S
      else
      (gR 9 17 S a0).bind fun r15 =>
      (ldJ S r15 (7 : Int32)).bind fun u16 =>
      (f_X9_has u16 x3).bind fun v17 =>
      (if v17 = (0 : Int32) then
      (gR 9 6 S a0).bind fun r18 =>
      (ldI S r18 x3).bind fun v19 =>
      f_X9_willHear_b85 (fun a0 x2 x3 S => f_X9_willHear_b38  n a0 x2 x3 S) a0 x3 v19 x2 S
      else
      f_X9_willHear_b84 (fun a0 x2 x3 S => f_X9_willHear_b38  n a0 x2 x3 S) a0 x3 x2 S)))
def f_X9_willHear (a0 : Nat) (x1 : Int32) (S : Mem) : Option (Int32 × Mem) :=
    (f_X9_in x1.toInt64 (1 : Int64) (100 : Int64)).bind fun v1 =>
      (if v1 = (0 : Int32) then
      some ((-1000000002 : Int32), S)
      else
      (gI 9 1 S a0).bind fun v2 =>
      (if v2 = (0 : Int32) then
      some ((-1000000003 : Int32), S)
      else
      (ck 9 S a0).bind fun c3 =>
      (f_X9_asides a0 S).bind fun S4 =>
      (ck 9 S4 a0).bind fun c5 =>
      (f_X9_goesOn a0 x1 S4).bind fun S6 =>
      f_X9_willHear_b38 FU a0 (0 : Int32) (0 : Int32) S6))
set_option maxHeartbeats 4000000 in
set_option maxRecDepth 100000 in
theorem w_X9_willHear_b85 {p : Program} {l : Launch} {e : Env} {s : State} {m : MethodId} {args : Array Value} {below : List Frame} {meth : Method} {c : Code} {b0 : Nat} {D : va_G} {cy : Nat → ClassId} {q : (Int32 × Mem)} (C0 : Cx p m c cX9_willHear 4 s args RX9 D cy) (hr : meth.sig.returnType = some .int) (hlocks : meth.locks = false) (k38 : Nat → Int32 → Int32 → Mem → Option (Int32 × Mem)) (hk38 : ∀ (a0 : Nat) (x2 : Int32) (x3 : Int32) (S : Mem) (H : Heap) (locs : List Loc) (ls : Array Slot), Wd b0 D cy S s.heap H locs → lv_has ls 4 [(0, .ref (b0 + a0)), (2, .int x2), (3, .int x3)] → k38 a0 x2 x3 S = some q → W p l e rm_X9_willHear s m args below meth c H locs 0 0 (MQ below (Qp b0 D cy (some (.int q.1)) q.2) args s 0 0 (fun q => b0 ≤ q)) (F0 m 38 ls [])) : ∀ (a0 : Nat) (x3 : Int32) (t0 : Int32) (t1 : Int32) (S : Mem) (H : Heap) (locs : List Loc) (ls : Array Slot), Wd b0 D cy S s.heap H locs → lv_has ls 4 [(0, .ref (b0 + a0)), (3, .int x3)] → f_X9_willHear_b85 k38 a0 x3 t0 t1 S = some q → W p l e rm_X9_willHear s m args below meth c H locs 0 0 (MQ below (Qp b0 D cy (some (.int q.1)) q.2) args s 0 0 (fun q => b0 ≤ q)) (F0 m 85 ls [.int t0, .int t1]) := by
  intro a0 x3 t0 t1 S H locs ls hw hl h
  rw [f_X9_willHear_b85] at h
  refine lv_iadd C0.hx C0.hb dX9_willHear_85 ?_
  obtain ⟨v13, hv13, h⟩ := Option.bind_eq_some_iff.mp h
  refine q_nmI hv13 ?_
  refine lv_istore_n (lv' := [(2, .int v13), (0, .ref (b0 + a0)), (3, .int x3)]) C0.hx C0.hb dX9_willHear_86 rfl hl (by decide) rfl (fun ls hl => ?_)
  obtain ⟨v14, hv14, h⟩ := Option.bind_eq_some_iff.mp h
  refine lv_iinc (v := v14) (lv' := [(3, .int v14), (2, .int v13), (0, .ref (b0 + a0))]) C0.hx C0.hb dX9_willHear_87 hl (k := 2) rfl (by rw [← Option.some.inj hv14]; rfl) (by decide) rfl (fun ls hl => ?_)
  refine lv_goto (tgt := 38) C0.hx C0.hb dX9_willHear_90 (by decide) ?_
  exact hk38 a0 v13 v14 S _ _ _ hw (lv_sub hl [2, 1, 0] rfl) h
set_option maxHeartbeats 4000000 in
set_option maxRecDepth 100000 in
theorem w_X9_willHear_b84 {p : Program} {l : Launch} {e : Env} {s : State} {m : MethodId} {args : Array Value} {below : List Frame} {meth : Method} {c : Code} {b0 : Nat} {D : va_G} {cy : Nat → ClassId} {q : (Int32 × Mem)} (C0 : Cx p m c cX9_willHear 4 s args RX9 D cy) (hr : meth.sig.returnType = some .int) (hlocks : meth.locks = false) (k38 : Nat → Int32 → Int32 → Mem → Option (Int32 × Mem)) (hk38 : ∀ (a0 : Nat) (x2 : Int32) (x3 : Int32) (S : Mem) (H : Heap) (locs : List Loc) (ls : Array Slot), Wd b0 D cy S s.heap H locs → lv_has ls 4 [(0, .ref (b0 + a0)), (2, .int x2), (3, .int x3)] → k38 a0 x2 x3 S = some q → W p l e rm_X9_willHear s m args below meth c H locs 0 0 (MQ below (Qp b0 D cy (some (.int q.1)) q.2) args s 0 0 (fun q => b0 ≤ q)) (F0 m 38 ls [])) : ∀ (a0 : Nat) (x3 : Int32) (t0 : Int32) (S : Mem) (H : Heap) (locs : List Loc) (ls : Array Slot), Wd b0 D cy S s.heap H locs → lv_has ls 4 [(0, .ref (b0 + a0)), (3, .int x3)] → f_X9_willHear_b84 k38 a0 x3 t0 S = some q → W p l e rm_X9_willHear s m args below meth c H locs 0 0 (MQ below (Qp b0 D cy (some (.int q.1)) q.2) args s 0 0 (fun q => b0 ≤ q)) (F0 m 84 ls [.int t0]) := by
  intro a0 x3 t0 S H locs ls hw hl h
  rw [f_X9_willHear_b84] at h
  refine lv_iconst (v := (0 : Int32)) C0.hx C0.hb dX9_willHear_84 (by decide) ?_
  exact w_X9_willHear_b85 C0 hr hlocks k38 hk38 a0 x3 (0 : Int32) t0 S _ _ _ hw (lv_sub hl [0, 1] rfl) h
set_option maxHeartbeats 4000000 in
set_option maxRecDepth 100000 in
theorem w_X9_willHear_b38 {p : Program} {l : Launch} {e : Env} {s : State} {m : MethodId} {args : Array Value} {below : List Frame} {meth : Method} {c : Code} {b0 : Nat} {D : va_G} {cy : Nat → ClassId} {q : (Int32 × Mem)} (C0 : Cx p m c cX9_willHear 4 s args RX9 D cy) (hr : meth.sig.returnType = some .int) (hlocks : meth.locks = false) : ∀ (n : Nat) (a0 : Nat) (x2 : Int32) (x3 : Int32) (S : Mem) (H : Heap) (locs : List Loc) (ls : Array Slot), Wd b0 D cy S s.heap H locs → lv_has ls 4 [(0, .ref (b0 + a0)), (2, .int x2), (3, .int x3)] → f_X9_willHear_b38  n a0 x2 x3 S = some q → W p l e rm_X9_willHear s m args below meth c H locs 0 0 (MQ below (Qp b0 D cy (some (.int q.1)) q.2) args s 0 0 (fun q => b0 ≤ q)) (F0 m 38 ls []) := by
  intro n
  induction n with
  | zero => intro a0 x2 x3 S H locs ls hw hl h; exact absurd h (by simp [f_X9_willHear_b38])
  | succ n ih =>
    intro a0 x2 x3 S H locs ls hw hl h
    rw [f_X9_willHear_b38] at h
    refine lv_iload_n C0.hx C0.hb dX9_willHear_38 rfl (lv_at hl 2 rfl) ?_
    refine lv_aload_n C0.hx C0.hb dX9_willHear_39 rfl (lv_at hl 0 rfl) ?_
    obtain ⟨v7, hv7, h⟩ := Option.bind_eq_some_iff.mp h
    refine q_getI C0 hw hv7 rfl in_9 (by decide) kw_865 dX9_willHear_40 ?_
    refine lv_icmp_ge (tgt := 93) C0.hx C0.hb dX9_willHear_43 (by decide) (fun hc => ?_) (fun hc => ?_)
    · have h := (if_pos hc).symm.trans h
      refine lv_aload_n C0.hx C0.hb dX9_willHear_93 rfl (lv_at hl 0 rfl) ?_
      obtain ⟨c8, hc8, h⟩ := Option.bind_eq_some_iff.mp h
      obtain ⟨S9, hS9, h⟩ := Option.bind_eq_some_iff.mp h
      refine q_callV (n := 0) (av := []) (rest := []) (st1 := []) C0 hw (m_X9_backs l b0 D cy S a0 hS9) hc8 rfl (by decide) (goodV kw_1185 kw_1187 kw_56 kw_72 kw_1188) ⟨rfl, rfl⟩ (by decide +kernel) ⟨(Nat.le_of_ble_eq_true rfl), (Nat.le_of_ble_eq_true rfl)⟩ rfl hl.1 rfl (Nat.le_of_ble_eq_true rfl) dX9_willHear_94 ⟨Nat.zero_le _, Nat.zero_le _⟩ rfl (fun H locs hw => ?_)
      refine lv_iload_n C0.hx C0.hb dX9_willHear_97 rfl (lv_at hl 1 rfl) ?_
      obtain rfl := Option.some.inj h
      exact q_reti C0 hw hr hlocks dX9_willHear_98
    · have h := (if_neg hc).symm.trans h
      refine lv_iload_n C0.hx C0.hb dX9_willHear_46 rfl (lv_at hl 1 rfl) ?_
      refine lv_aload_n C0.hx C0.hb dX9_willHear_47 rfl (lv_at hl 0 rfl) ?_
      obtain ⟨r10, hr10, h⟩ := Option.bind_eq_some_iff.mp h
      refine q_getR C0 hw hr10 rfl in_9 (by decide) kw_869 dX9_willHear_48 ?_
      refine lv_bipush (v := (7 : Int32)) C0.hx C0.hb dX9_willHear_51 (by decide) ?_
      obtain ⟨u11, hu11, h⟩ := Option.bind_eq_some_iff.mp h
      refine q_ldJ C0 hw hu11 dX9_willHear_53 ?_
      refine lv_iload_n C0.hx C0.hb dX9_willHear_54 rfl (lv_at hl 2 rfl) ?_
      obtain ⟨v12, hv12, h⟩ := Option.bind_eq_some_iff.mp h
      refine q_callS (n := 2) (av := [.long u11, .int x3]) (rest := [.int x2]) (st1 := [.int v12, .int x2]) C0 hw (m_X9_has l b0 D cy S u11 x3 hv12) (goodS kw_1026 kw_1027 kw_72 kw_1028) ⟨rfl, rfl⟩ (by decide +kernel) ⟨(Nat.le_of_ble_eq_true rfl), (Nat.le_of_ble_eq_true rfl)⟩ rfl hl.1 rfl (Nat.le_of_ble_eq_true rfl) dX9_willHear_55 ⟨Nat.zero_le _, Nat.zero_le _⟩ rfl (fun H locs hw => ?_)
      refine lv_if_eq (tgt := 84) C0.hx C0.hb dX9_willHear_58 (by decide) (fun hc => ?_) (fun hc => ?_)
      · have h := (if_pos hc).symm.trans h
        exact w_X9_willHear_b84 C0 hr hlocks (fun a0 x2 x3 S => f_X9_willHear_b38  n a0 x2 x3 S) ih a0 x3 x2 S _ _ _ hw (lv_sub hl [0, 2] rfl) h
      · have h := (if_neg hc).symm.trans h
        refine lv_aload_n C0.hx C0.hb dX9_willHear_61 rfl (lv_at hl 0 rfl) ?_
        obtain ⟨r15, hr15, h⟩ := Option.bind_eq_some_iff.mp h
        refine q_getR C0 hw hr15 rfl in_9 (by decide) kw_879 dX9_willHear_62 ?_
        refine lv_bipush (v := (7 : Int32)) C0.hx C0.hb dX9_willHear_65 (by decide) ?_
        obtain ⟨u16, hu16, h⟩ := Option.bind_eq_some_iff.mp h
        refine q_ldJ C0 hw hu16 dX9_willHear_67 ?_
        refine lv_iload_n C0.hx C0.hb dX9_willHear_68 rfl (lv_at hl 2 rfl) ?_
        obtain ⟨v17, hv17, h⟩ := Option.bind_eq_some_iff.mp h
        refine q_callS (n := 2) (av := [.long u16, .int x3]) (rest := [.int x2]) (st1 := [.int v17, .int x2]) C0 hw (m_X9_has l b0 D cy S u16 x3 hv17) (goodS kw_1026 kw_1027 kw_72 kw_1028) ⟨rfl, rfl⟩ (by decide +kernel) ⟨(Nat.le_of_ble_eq_true rfl), (Nat.le_of_ble_eq_true rfl)⟩ rfl hl.1 rfl (Nat.le_of_ble_eq_true rfl) dX9_willHear_69 ⟨Nat.zero_le _, Nat.zero_le _⟩ rfl (fun H locs hw => ?_)
        refine lv_if_ne (tgt := 84) C0.hx C0.hb dX9_willHear_72 (by decide) (fun hc => ?_) (fun hc => ?_)
        · have h := (if_neg hc).symm.trans h
          exact w_X9_willHear_b84 C0 hr hlocks (fun a0 x2 x3 S => f_X9_willHear_b38  n a0 x2 x3 S) ih a0 x3 x2 S _ _ _ hw (lv_sub hl [0, 2] rfl) h
        · have h := (if_pos hc).symm.trans h
          refine lv_aload_n C0.hx C0.hb dX9_willHear_75 rfl (lv_at hl 0 rfl) ?_
          obtain ⟨r18, hr18, h⟩ := Option.bind_eq_some_iff.mp h
          refine q_getR C0 hw hr18 rfl in_9 (by decide) kw_868 dX9_willHear_76 ?_
          refine lv_iload_n C0.hx C0.hb dX9_willHear_79 rfl (lv_at hl 2 rfl) ?_
          obtain ⟨v19, hv19, h⟩ := Option.bind_eq_some_iff.mp h
          refine q_ldI C0 hw hv19 dX9_willHear_80 ?_
          refine lv_goto (tgt := 85) C0.hx C0.hb dX9_willHear_81 (by decide) ?_
          exact w_X9_willHear_b85 C0 hr hlocks (fun a0 x2 x3 S => f_X9_willHear_b38  n a0 x2 x3 S) ih a0 x3 v19 x2 S _ _ _ hw (lv_sub hl [0, 2] rfl) h
set_option maxHeartbeats 4000000 in
set_option maxRecDepth 100000 in
theorem m_X9_willHear (l : Launch) (b0 : Nat) (D : va_G) (cy : Nat → ClassId) (S : Mem) (a0 : Nat) (x1 : Int32) {q : (Int32 × Mem)} (h : f_X9_willHear a0 x1 S = some q) : Met l yX9_willHear [.code yX9_willHear cX9_willHear 4 (some .int)] rm_X9_willHear (Pr b0 D cy S [.ref (b0 + a0), .int x1]) (Qp b0 D cy (some (.int q.1)) q.2) 0 0 (fun q => b0 ≤ q) := by
  refine Met.ofW (cc := cX9_willHear) (maxL := 4) (ret := some .int) (by decide) rfl ?_
  intro p e s m args below meth c s₁ B hml hv
  obtain ⟨rfl, hP, hK, hT⟩ := hv
  have C0 : Cx p m c cX9_willHear 4 s (List.toArray [.ref (b0 + a0), .int x1]) RX9 D cy := ⟨⟨B.exec, B.bytes, hml, findClass_of_methodNamed B.named, fun w h => hT w h _⟩, hK, hT⟩
  have hr : meth.sig.returnType = some .int := B.returns
  have hlocks := B.notSynchronized
  have hw : Wd b0 D cy S s.heap s.heap [] := ⟨hP, va_S.rf⟩
  have hl := lv_entry ([.ref (b0 + a0), .int x1]) (n := 4) (Nat.le_of_ble_eq_true rfl)
  rw [lg_entry_eq]
  generalize (lg_sl ([.ref (b0 + a0), .int x1]) ++ List.replicate (4 - (lg_sl ([.ref (b0 + a0), .int x1])).length) Slot.unset).toArray = ls at hl ⊢
  have hl : lv_has ls 4 [(0, .ref (b0 + a0)), (1, .int x1)] := hl
  rw [f_X9_willHear] at h
  show W p l e rm_X9_willHear s m _ below meth c s.heap [] 0 0 _ _
  refine lv_iload_n C0.hx C0.hb dX9_willHear_0 rfl (lv_at hl 1 rfl) ?_
  refine lv_i2l C0.hx C0.hb dX9_willHear_1 rfl ?_
  refine lv_lconst (v := (1 : Int64)) C0.hx C0.hb dX9_willHear_2 (by decide) ?_
  refine lv_ldc2 C0.hx C0.hb C0.ho (C0.w kw_1180) dX9_willHear_3 ?_
  obtain ⟨v1, hv1, h⟩ := Option.bind_eq_some_iff.mp h
  refine q_callS (n := 3) (av := [.long x1.toInt64, .long (1 : Int64), .long (100 : Int64)]) (rest := []) (st1 := [.int v1]) C0 hw (m_X9_in l b0 D cy S x1.toInt64 (1 : Int64) (100 : Int64) hv1) (goodS kw_951 kw_952 kw_72 kw_953) ⟨rfl, rfl⟩ (by decide +kernel) ⟨(Nat.le_of_ble_eq_true rfl), (Nat.le_of_ble_eq_true rfl)⟩ rfl hl.1 rfl (Nat.le_of_ble_eq_true rfl) dX9_willHear_6 ⟨Nat.zero_le _, Nat.zero_le _⟩ rfl (fun H locs hw => ?_)
  refine lv_if_ne (tgt := 15) C0.hx C0.hb dX9_willHear_9 (by decide) (fun hc => ?_) (fun hc => ?_)
  · have h := (if_neg hc).symm.trans h
    refine lv_aload_n C0.hx C0.hb dX9_willHear_15 rfl (lv_at hl 0 rfl) ?_
    obtain ⟨v2, hv2, h⟩ := Option.bind_eq_some_iff.mp h
    refine q_getI C0 hw hv2 rfl in_9 (by decide) kw_863 dX9_willHear_16 ?_
    refine lv_if_ne (tgt := 25) C0.hx C0.hb dX9_willHear_19 (by decide) (fun hc => ?_) (fun hc => ?_)
    · have h := (if_neg hc).symm.trans h
      refine lv_aload_n C0.hx C0.hb dX9_willHear_25 rfl (lv_at hl 0 rfl) ?_
      obtain ⟨c3, hc3, h⟩ := Option.bind_eq_some_iff.mp h
      obtain ⟨S4, hS4, h⟩ := Option.bind_eq_some_iff.mp h
      refine q_callV (n := 0) (av := []) (rest := []) (st1 := []) C0 hw (m_X9_asides l b0 D cy S a0 hS4) hc3 rfl (by decide) (goodV kw_1181 kw_1183 kw_55 kw_72 kw_1184) ⟨rfl, rfl⟩ (by decide +kernel) ⟨(Nat.le_of_ble_eq_true rfl), (Nat.le_of_ble_eq_true rfl)⟩ rfl hl.1 rfl (Nat.le_of_ble_eq_true rfl) dX9_willHear_26 ⟨Nat.zero_le _, Nat.zero_le _⟩ rfl (fun H locs hw => ?_)
      refine lv_aload_n C0.hx C0.hb dX9_willHear_29 rfl (lv_at hl 0 rfl) ?_
      refine lv_iload_n C0.hx C0.hb dX9_willHear_30 rfl (lv_at hl 1 rfl) ?_
      obtain ⟨c5, hc5, h⟩ := Option.bind_eq_some_iff.mp h
      obtain ⟨S6, hS6, h⟩ := Option.bind_eq_some_iff.mp h
      refine q_callV (n := 1) (av := [.int x1]) (rest := []) (st1 := []) C0 hw (m_X9_goesOn l b0 D cy S4 a0 x1 hS6) hc5 rfl (by decide) (goodV kw_1083 kw_1085 kw_44 kw_72 kw_1086) ⟨rfl, rfl⟩ (by decide +kernel) ⟨(Nat.le_of_ble_eq_true rfl), (Nat.le_of_ble_eq_true rfl)⟩ rfl hl.1 rfl (Nat.le_of_ble_eq_true rfl) dX9_willHear_31 ⟨Nat.zero_le _, Nat.zero_le _⟩ rfl (fun H locs hw => ?_)
      refine lv_iconst (v := (0 : Int32)) C0.hx C0.hb dX9_willHear_34 (by decide) ?_
      refine lv_istore_n (lv' := [(2, .int (0 : Int32)), (0, .ref (b0 + a0)), (1, .int x1)]) C0.hx C0.hb dX9_willHear_35 rfl hl (by decide) rfl (fun ls hl => ?_)
      refine lv_iconst (v := (0 : Int32)) C0.hx C0.hb dX9_willHear_36 (by decide) ?_
      refine lv_istore_n (lv' := [(3, .int (0 : Int32)), (2, .int (0 : Int32)), (0, .ref (b0 + a0)), (1, .int x1)]) C0.hx C0.hb dX9_willHear_37 rfl hl (by decide) rfl (fun ls hl => ?_)
      exact w_X9_willHear_b38 C0 hr hlocks FU a0 (0 : Int32) (0 : Int32) S6 _ _ _ hw (lv_sub hl [2, 1, 0] rfl) h
    · have h := (if_pos hc).symm.trans h
      refine lv_ldc C0.hx C0.hb C0.ho (C0.w kw_1077) dX9_willHear_22 ?_
      obtain rfl := Option.some.inj h
      exact q_reti C0 hw hr hlocks dX9_willHear_24
  · have h := (if_pos hc).symm.trans h
    refine lv_ldc C0.hx C0.hb C0.ho (C0.w kw_954) dX9_willHear_12 ?_
    obtain rfl := Option.some.inj h
    exact q_reti C0 hw hr hlocks dX9_willHear_14
abbrev rm_X9_dance : Room := { frames := 1, cells := 0, slots := 0, locals := 25 }
def f_X9_dance_b34 : Nat → Int32 → Int32 → Int64 → Int32 → Option Int32
  | 0, _, _, _, _ => none
  | n + 1, x1, x2, y3, x5 =>
    (if x1 ≤ x5 then
      some (y3.toInt32)
      else
      (some ((y3 * (((100 : Int32) - x2).toInt64)) / (100 : Int64))).bind fun u3 =>
      (some (x5 + (1 : Int32))).bind fun v4 =>
      f_X9_dance_b34  n x1 x2 u3 v4)
def f_X9_dance (a0 : Nat) (x1 : Int32) (x2 : Int32) : Option Int32 :=
    (f_X9_in x1.toInt64 (0 : Int64) (60 : Int64)).bind fun v1 =>
      (if v1 = (0 : Int32) then
      some (-1000000002 : Int32)
      else
      (f_X9_in x2.toInt64 (0 : Int64) (100 : Int64)).bind fun v2 =>
      (if v2 = (0 : Int32) then
      some (-1000000002 : Int32)
      else
      f_X9_dance_b34 FU x1 x2 (1000000000 : Int64) (0 : Int32)))
set_option maxHeartbeats 4000000 in
set_option maxRecDepth 100000 in
theorem w_X9_dance_b34 {p : Program} {l : Launch} {e : Env} {s : State} {m : MethodId} {args : Array Value} {below : List Frame} {meth : Method} {c : Code} {b0 : Nat} {D : va_G} {cy : Nat → ClassId} {S : Mem} {q : Int32} (C0 : Cx p m c cX9_dance 6 s args RX9 D cy) (hr : meth.sig.returnType = some .int) (hlocks : meth.locks = false) : ∀ (n : Nat) (x1 : Int32) (x2 : Int32) (y3 : Int64) (x5 : Int32) (H : Heap) (locs : List Loc) (ls : Array Slot), Wd b0 D cy S s.heap H locs → lv_has ls 6 [(1, .int x1), (2, .int x2), (3, .long y3), (5, .int x5)] → f_X9_dance_b34  n x1 x2 y3 x5 = some q → W p l e rm_X9_dance s m args below meth c H locs 0 0 (MQ below (Qp b0 D cy (some (.int q)) S) args s 0 0 (fun q => b0 ≤ q)) (F0 m 34 ls []) := by
  intro n
  induction n with
  | zero => intro x1 x2 y3 x5 H locs ls hw hl h; exact absurd h (by simp [f_X9_dance_b34])
  | succ n ih =>
    intro x1 x2 y3 x5 H locs ls hw hl h
    rw [f_X9_dance_b34] at h
    refine lv_iload C0.hx C0.hb dX9_dance_34 (lv_at hl 3 rfl) ?_
    refine lv_iload_n C0.hx C0.hb dX9_dance_36 rfl (lv_at hl 0 rfl) ?_
    refine lv_icmp_ge (tgt := 58) C0.hx C0.hb dX9_dance_37 (by decide) (fun hc => ?_) (fun hc => ?_)
    · have h := (if_pos hc).symm.trans h
      refine lv_lload_n C0.hx C0.hb dX9_dance_58 rfl (lv_at hl 2 rfl) ?_
      refine lv_l2i C0.hx C0.hb dX9_dance_59 rfl ?_
      obtain rfl := Option.some.inj h
      exact q_reti C0 hw hr hlocks dX9_dance_60
    · have h := (if_neg hc).symm.trans h
      refine lv_lload_n C0.hx C0.hb dX9_dance_40 rfl (lv_at hl 2 rfl) ?_
      refine lv_bipush (v := (100 : Int32)) C0.hx C0.hb dX9_dance_41 (by decide) ?_
      refine lv_iload_n C0.hx C0.hb dX9_dance_43 rfl (lv_at hl 1 rfl) ?_
      refine lv_isub C0.hx C0.hb dX9_dance_44 ?_
      refine lv_i2l C0.hx C0.hb dX9_dance_45 rfl ?_
      refine lv_lmul C0.hx C0.hb dX9_dance_46 ?_
      refine lv_ldc2 C0.hx C0.hb C0.ho (C0.w kw_1180) dX9_dance_47 ?_
      refine lv_ldiv C0.hx C0.hb dX9_dance_50 (by decide) ?_
      obtain ⟨u3, hu3, h⟩ := Option.bind_eq_some_iff.mp h
      refine q_nmJ hu3 ?_
      refine lv_lstore_n (lv' := [(3, .long u3), (1, .int x1), (2, .int x2), (5, .int x5)]) C0.hx C0.hb dX9_dance_51 rfl hl (by decide) rfl (fun ls hl => ?_)
      obtain ⟨v4, hv4, h⟩ := Option.bind_eq_some_iff.mp h
      refine lv_iinc (v := v4) (lv' := [(5, .int v4), (3, .long u3), (1, .int x1), (2, .int x2)]) C0.hx C0.hb dX9_dance_52 hl (k := 3) rfl (by rw [← Option.some.inj hv4]; rfl) (by decide) rfl (fun ls hl => ?_)
      refine lv_goto (tgt := 34) C0.hx C0.hb dX9_dance_55 (by decide) ?_
      exact ih x1 x2 u3 v4 _ _ _ hw (lv_sub hl [2, 3, 1, 0] rfl) h
set_option maxHeartbeats 4000000 in
set_option maxRecDepth 100000 in
theorem m_X9_dance (l : Launch) (b0 : Nat) (D : va_G) (cy : Nat → ClassId) (S : Mem) (a0 : Nat) (x1 : Int32) (x2 : Int32) {q : Int32} (h : f_X9_dance a0 x1 x2 = some q) : Met l yX9_dance [.code yX9_dance cX9_dance 6 (some .int)] rm_X9_dance (Pr b0 D cy S [.ref (b0 + a0), .int x1, .int x2]) (Qp b0 D cy (some (.int q)) S) 0 0 (fun q => b0 ≤ q) := by
  refine Met.ofW (cc := cX9_dance) (maxL := 6) (ret := some .int) (by decide) rfl ?_
  intro p e s m args below meth c s₁ B hml hv
  obtain ⟨rfl, hP, hK, hT⟩ := hv
  have C0 : Cx p m c cX9_dance 6 s (List.toArray [.ref (b0 + a0), .int x1, .int x2]) RX9 D cy := ⟨⟨B.exec, B.bytes, hml, findClass_of_methodNamed B.named, fun w h => hT w h _⟩, hK, hT⟩
  have hr : meth.sig.returnType = some .int := B.returns
  have hlocks := B.notSynchronized
  have hw : Wd b0 D cy S s.heap s.heap [] := ⟨hP, va_S.rf⟩
  have hl := lv_entry ([.ref (b0 + a0), .int x1, .int x2]) (n := 6) (Nat.le_of_ble_eq_true rfl)
  rw [lg_entry_eq]
  generalize (lg_sl ([.ref (b0 + a0), .int x1, .int x2]) ++ List.replicate (6 - (lg_sl ([.ref (b0 + a0), .int x1, .int x2])).length) Slot.unset).toArray = ls at hl ⊢
  have hl : lv_has ls 6 [(0, .ref (b0 + a0)), (1, .int x1), (2, .int x2)] := hl
  rw [f_X9_dance] at h
  show W p l e rm_X9_dance s m _ below meth c s.heap [] 0 0 _ _
  refine lv_iload_n C0.hx C0.hb dX9_dance_0 rfl (lv_at hl 1 rfl) ?_
  refine lv_i2l C0.hx C0.hb dX9_dance_1 rfl ?_
  refine lv_lconst (v := (0 : Int64)) C0.hx C0.hb dX9_dance_2 (by decide) ?_
  refine lv_ldc2 C0.hx C0.hb C0.ho (C0.w kw_1076) dX9_dance_3 ?_
  obtain ⟨v1, hv1, h⟩ := Option.bind_eq_some_iff.mp h
  refine q_callS (n := 3) (av := [.long x1.toInt64, .long (0 : Int64), .long (60 : Int64)]) (rest := []) (st1 := [.int v1]) C0 hw (m_X9_in l b0 D cy S x1.toInt64 (0 : Int64) (60 : Int64) hv1) (goodS kw_951 kw_952 kw_72 kw_953) ⟨rfl, rfl⟩ (by decide +kernel) ⟨(Nat.le_of_ble_eq_true rfl), (Nat.le_of_ble_eq_true rfl)⟩ rfl hl.1 rfl (Nat.le_of_ble_eq_true rfl) dX9_dance_6 ⟨Nat.zero_le _, Nat.zero_le _⟩ rfl (fun H locs hw => ?_)
  refine lv_if_eq (tgt := 24) C0.hx C0.hb dX9_dance_9 (by decide) (fun hc => ?_) (fun hc => ?_)
  · have h := (if_pos hc).symm.trans h
    refine lv_ldc C0.hx C0.hb C0.ho (C0.w kw_954) dX9_dance_24 ?_
    obtain rfl := Option.some.inj h
    exact q_reti C0 hw hr hlocks dX9_dance_26
  · have h := (if_neg hc).symm.trans h
    refine lv_iload_n C0.hx C0.hb dX9_dance_12 rfl (lv_at hl 2 rfl) ?_
    refine lv_i2l C0.hx C0.hb dX9_dance_13 rfl ?_
    refine lv_lconst (v := (0 : Int64)) C0.hx C0.hb dX9_dance_14 (by decide) ?_
    refine lv_ldc2 C0.hx C0.hb C0.ho (C0.w kw_1180) dX9_dance_15 ?_
    obtain ⟨v2, hv2, h⟩ := Option.bind_eq_some_iff.mp h
    refine q_callS (n := 3) (av := [.long x2.toInt64, .long (0 : Int64), .long (100 : Int64)]) (rest := []) (st1 := [.int v2]) C0 hw (m_X9_in l b0 D cy S x2.toInt64 (0 : Int64) (100 : Int64) hv2) (goodS kw_951 kw_952 kw_72 kw_953) ⟨rfl, rfl⟩ (by decide +kernel) ⟨(Nat.le_of_ble_eq_true rfl), (Nat.le_of_ble_eq_true rfl)⟩ rfl hl.1 rfl (Nat.le_of_ble_eq_true rfl) dX9_dance_18 ⟨Nat.zero_le _, Nat.zero_le _⟩ rfl (fun H locs hw => ?_)
    refine lv_if_ne (tgt := 27) C0.hx C0.hb dX9_dance_21 (by decide) (fun hc => ?_) (fun hc => ?_)
    · have h := (if_neg hc).symm.trans h
      refine lv_ldc2 C0.hx C0.hb C0.ho (C0.w kw_1241) dX9_dance_27 ?_
      refine lv_lstore_n (lv' := [(3, .long (1000000000 : Int64)), (0, .ref (b0 + a0)), (1, .int x1), (2, .int x2)]) C0.hx C0.hb dX9_dance_30 rfl hl (by decide) rfl (fun ls hl => ?_)
      refine lv_iconst (v := (0 : Int32)) C0.hx C0.hb dX9_dance_31 (by decide) ?_
      refine lv_istore (lv' := [(5, .int (0 : Int32)), (3, .long (1000000000 : Int64)), (0, .ref (b0 + a0)), (1, .int x1), (2, .int x2)]) C0.hx C0.hb dX9_dance_32 hl (by decide) rfl (fun ls hl => ?_)
      exact w_X9_dance_b34 C0 hr hlocks FU x1 x2 (1000000000 : Int64) (0 : Int32) _ _ _ hw (lv_sub hl [3, 4, 1, 0] rfl) h
    · have h := (if_pos hc).symm.trans h
      refine lv_ldc C0.hx C0.hb C0.ho (C0.w kw_954) dX9_dance_24 ?_
      obtain rfl := Option.some.inj h
      exact q_reti C0 hw hr hlocks dX9_dance_26
abbrev rm_X9_isFit : Room := { frames := 2, cells := 0, slots := 0, locals := 65 }
def f_X9_isFit_b114 (S : Mem) (k4 : Nat → Int32 → Int32 → Int32 → Option Int32) (a0 : Nat) (x1 : Int32) (x3 : Int32) (t0 : Int32) : Option Int32 :=
    (some (x3 + (1 : Int32))).bind fun v18 =>
      k4 a0 x1 t0 v18
def f_X9_isFit_b4 (S : Mem) : Nat → Nat → Int32 → Int32 → Int32 → Option Int32
  | 0, _, _, _, _ => none
  | n + 1, a0, x1, x2, x3 =>
    (ck 9 S a0).bind fun c1 =>
      (f_X9_at a0 (9 : Int32) S).bind fun v2 =>
      (if v2 ≤ x3 then
      (zok x2).bind fun v3 =>
      some v3
      else
      (if x2 = (0 : Int32) then
      (zok x2).bind fun v4 =>
      some v4
      else
      (gR 9 7 S a0).bind fun r5 =>
      (ldJ S r5 ((32 : Int32) + ((3 : Int32) * x3))).bind fun u6 =>
      (ck 9 S a0).bind fun c7 =>
      (f_X9_wayFrom a0 x3 S).bind fun v8 =>
      (gR 9 7 S a0).bind fun r9 =>
      (ldJ S r9 (((32 : Int32) + ((3 : Int32) * x3)) + (1 : Int32))).bind fun u10 =>
      (gR 9 7 S a0).bind fun r11 =>
      (ldJ S r11 (((32 : Int32) + ((3 : Int32) * x3)) + (2 : Int32))).bind fun u12 =>
      (f_X9_has u6 (34 : Int32)).bind fun v13 =>
      (ck 9 S a0).bind fun c14 =>
      (f_X9_goesTo a0 x1 v8 ((u6 >>> ((6 : Int32).toInt64 &&& 63)) &&& (255 : Int64)) ((u6 >>> ((14 : Int32).toInt64 &&& 63)) &&& (255 : Int64)) ((u6 >>> ((22 : Int32).toInt64 &&& 63)) &&& (4095 : Int64)) u10 u12 v13 S).bind fun v15 =>
      (ck 9 S a0).bind fun c16 =>
      (f_X9_wayTo a0 x3 S).bind fun v17 =>
      (if v15 = v17 then
      f_X9_isFit_b114 S (fun a0 x1 x2 x3 => f_X9_isFit_b4 S  n a0 x1 x2 x3) a0 x1 x3 (1 : Int32)
      else
      f_X9_isFit_b114 S (fun a0 x1 x2 x3 => f_X9_isFit_b4 S  n a0 x1 x2 x3) a0 x1 x3 (0 : Int32))))
def f_X9_isFit (a0 : Nat) (x1 : Int32) (S : Mem) : Option Int32 :=
    f_X9_isFit_b4 S FU a0 x1 (1 : Int32) (0 : Int32)
set_option maxHeartbeats 4000000 in
set_option maxRecDepth 100000 in
theorem w_X9_isFit_b114 {p : Program} {l : Launch} {e : Env} {s : State} {m : MethodId} {args : Array Value} {below : List Frame} {meth : Method} {c : Code} {b0 : Nat} {D : va_G} {cy : Nat → ClassId} {S : Mem} {q : Int32} (C0 : Cx p m c cX9_isFit 6 s args RX9 D cy) (hr : meth.sig.returnType = some .boolean) (hlocks : meth.locks = false) (k4 : Nat → Int32 → Int32 → Int32 → Option Int32) (hk4 : ∀ (a0 : Nat) (x1 : Int32) (x2 : Int32) (x3 : Int32) (H : Heap) (locs : List Loc) (ls : Array Slot), Wd b0 D cy S s.heap H locs → lv_has ls 6 [(0, .ref (b0 + a0)), (1, .int x1), (2, .int x2), (3, .int x3)] → k4 a0 x1 x2 x3 = some q → W p l e rm_X9_isFit s m args below meth c H locs 0 0 (MQ below (Qp b0 D cy (some (.int q)) S) args s 0 0 (fun q => b0 ≤ q)) (F0 m 4 ls [])) : ∀ (a0 : Nat) (x1 : Int32) (x3 : Int32) (t0 : Int32) (H : Heap) (locs : List Loc) (ls : Array Slot), Wd b0 D cy S s.heap H locs → lv_has ls 6 [(0, .ref (b0 + a0)), (1, .int x1), (3, .int x3)] → f_X9_isFit_b114 S k4 a0 x1 x3 t0 = some q → W p l e rm_X9_isFit s m args below meth c H locs 0 0 (MQ below (Qp b0 D cy (some (.int q)) S) args s 0 0 (fun q => b0 ≤ q)) (F0 m 114 ls [.int t0]) := by
  intro a0 x1 x3 t0 H locs ls hw hl h
  rw [f_X9_isFit_b114] at h
  refine lv_istore_n (lv' := [(2, .int t0), (0, .ref (b0 + a0)), (1, .int x1), (3, .int x3)]) C0.hx C0.hb dX9_isFit_114 rfl hl (by decide) rfl (fun ls hl => ?_)
  obtain ⟨v18, hv18, h⟩ := Option.bind_eq_some_iff.mp h
  refine lv_iinc (v := v18) (lv' := [(3, .int v18), (2, .int t0), (0, .ref (b0 + a0)), (1, .int x1)]) C0.hx C0.hb dX9_isFit_115 hl (k := 3) rfl (by rw [← Option.some.inj hv18]; rfl) (by decide) rfl (fun ls hl => ?_)
  refine lv_goto (tgt := 4) C0.hx C0.hb dX9_isFit_118 (by decide) ?_
  exact hk4 a0 x1 t0 v18 _ _ _ hw (lv_sub hl [2, 3, 1, 0] rfl) h
set_option maxHeartbeats 4000000 in
set_option maxRecDepth 100000 in
theorem w_X9_isFit_b4 {p : Program} {l : Launch} {e : Env} {s : State} {m : MethodId} {args : Array Value} {below : List Frame} {meth : Method} {c : Code} {b0 : Nat} {D : va_G} {cy : Nat → ClassId} {S : Mem} {q : Int32} (C0 : Cx p m c cX9_isFit 6 s args RX9 D cy) (hr : meth.sig.returnType = some .boolean) (hlocks : meth.locks = false) : ∀ (n : Nat) (a0 : Nat) (x1 : Int32) (x2 : Int32) (x3 : Int32) (H : Heap) (locs : List Loc) (ls : Array Slot), Wd b0 D cy S s.heap H locs → lv_has ls 6 [(0, .ref (b0 + a0)), (1, .int x1), (2, .int x2), (3, .int x3)] → f_X9_isFit_b4 S  n a0 x1 x2 x3 = some q → W p l e rm_X9_isFit s m args below meth c H locs 0 0 (MQ below (Qp b0 D cy (some (.int q)) S) args s 0 0 (fun q => b0 ≤ q)) (F0 m 4 ls []) := by
  intro n
  induction n with
  | zero => intro a0 x1 x2 x3 H locs ls hw hl h; exact absurd h (by simp [f_X9_isFit_b4])
  | succ n ih =>
    intro a0 x1 x2 x3 H locs ls hw hl h
    rw [f_X9_isFit_b4] at h
    refine lv_iload_n C0.hx C0.hb dX9_isFit_4 rfl (lv_at hl 3 rfl) ?_
    refine lv_aload_n C0.hx C0.hb dX9_isFit_5 rfl (lv_at hl 0 rfl) ?_
    refine lv_bipush (v := (9 : Int32)) C0.hx C0.hb dX9_isFit_6 (by decide) ?_
    obtain ⟨c1, hc1, h⟩ := Option.bind_eq_some_iff.mp h
    obtain ⟨v2, hv2, h⟩ := Option.bind_eq_some_iff.mp h
    refine q_callV (n := 1) (av := [.int (9 : Int32)]) (rest := [.int x3]) (st1 := [.int v2, .int x3]) C0 hw (m_X9_at l b0 D cy S a0 (9 : Int32) hv2) hc1 rfl (by decide) (goodV kw_1013 kw_1015 kw_34 kw_72 kw_1016) ⟨rfl, rfl⟩ (by decide +kernel) ⟨(Nat.le_of_ble_eq_true rfl), (Nat.le_of_ble_eq_true rfl)⟩ rfl hl.1 rfl (Nat.le_of_ble_eq_true rfl) dX9_isFit_8 ⟨Nat.zero_le _, Nat.zero_le _⟩ rfl (fun H locs hw => ?_)
    refine lv_icmp_ge (tgt := 121) C0.hx C0.hb dX9_isFit_11 (by decide) (fun hc => ?_) (fun hc => ?_)
    · have h := (if_pos hc).symm.trans h
      refine lv_iload_n C0.hx C0.hb dX9_isFit_121 rfl (lv_at hl 2 rfl) ?_
      obtain ⟨v3, hv3, h⟩ := Option.bind_eq_some_iff.mp h
      obtain ⟨he, hz⟩ := zok_inv hv3
      subst he
      obtain rfl := Option.some.inj h
      exact q_retz C0 hw hz hr hlocks dX9_isFit_122
    · have h := (if_neg hc).symm.trans h
      refine lv_iload_n C0.hx C0.hb dX9_isFit_14 rfl (lv_at hl 2 rfl) ?_
      refine lv_if_eq (tgt := 121) C0.hx C0.hb dX9_isFit_15 (by decide) (fun hc => ?_) (fun hc => ?_)
      · have h := (if_pos hc).symm.trans h
        refine lv_iload_n C0.hx C0.hb dX9_isFit_121 rfl (lv_at hl 2 rfl) ?_
        obtain ⟨v4, hv4, h⟩ := Option.bind_eq_some_iff.mp h
        obtain ⟨he, hz⟩ := zok_inv hv4
        subst he
        obtain rfl := Option.some.inj h
        exact q_retz C0 hw hz hr hlocks dX9_isFit_122
      · have h := (if_neg hc).symm.trans h
        refine lv_aload_n C0.hx C0.hb dX9_isFit_18 rfl (lv_at hl 0 rfl) ?_
        obtain ⟨r5, hr5, h⟩ := Option.bind_eq_some_iff.mp h
        refine q_getR C0 hw hr5 rfl in_9 (by decide) kw_869 dX9_isFit_19 ?_
        refine lv_bipush (v := (32 : Int32)) C0.hx C0.hb dX9_isFit_22 (by decide) ?_
        refine lv_iconst (v := (3 : Int32)) C0.hx C0.hb dX9_isFit_24 (by decide) ?_
        refine lv_iload_n C0.hx C0.hb dX9_isFit_25 rfl (lv_at hl 3 rfl) ?_
        refine lv_imul C0.hx C0.hb dX9_isFit_26 ?_
        refine lv_iadd C0.hx C0.hb dX9_isFit_27 ?_
        obtain ⟨u6, hu6, h⟩ := Option.bind_eq_some_iff.mp h
        refine q_ldJ C0 hw hu6 dX9_isFit_28 ?_
        refine lv_lstore (lv' := [(4, .long u6), (0, .ref (b0 + a0)), (1, .int x1), (2, .int x2), (3, .int x3)]) C0.hx C0.hb dX9_isFit_29 hl (by decide) rfl (fun ls hl => ?_)
        refine lv_aload_n C0.hx C0.hb dX9_isFit_31 rfl (lv_at hl 1 rfl) ?_
        refine lv_iload_n C0.hx C0.hb dX9_isFit_32 rfl (lv_at hl 2 rfl) ?_
        refine lv_aload_n C0.hx C0.hb dX9_isFit_33 rfl (lv_at hl 1 rfl) ?_
        refine lv_iload_n C0.hx C0.hb dX9_isFit_34 rfl (lv_at hl 4 rfl) ?_
        obtain ⟨c7, hc7, h⟩ := Option.bind_eq_some_iff.mp h
        obtain ⟨v8, hv8, h⟩ := Option.bind_eq_some_iff.mp h
        refine q_callV (n := 1) (av := [.int x3]) (rest := [.int x1, .ref (b0 + a0)]) (st1 := [.int v8, .int x1, .ref (b0 + a0)]) C0 hw (m_X9_wayFrom l b0 D cy S a0 x3 hv8) hc7 rfl (by decide) (goodV kw_1063 kw_1065 kw_41 kw_72 kw_1066) ⟨rfl, rfl⟩ (by decide +kernel) ⟨(Nat.le_of_ble_eq_true rfl), (Nat.le_of_ble_eq_true rfl)⟩ rfl hl.1 rfl (Nat.le_of_ble_eq_true rfl) dX9_isFit_35 ⟨Nat.zero_le _, Nat.zero_le _⟩ rfl (fun H locs hw => ?_)
        refine lv_lload C0.hx C0.hb dX9_isFit_38 (lv_at hl 0 rfl) ?_
        refine lv_bipush (v := (6 : Int32)) C0.hx C0.hb dX9_isFit_40 (by decide) ?_
        refine lv_lshr C0.hx C0.hb dX9_isFit_42 rfl ?_
        refine lv_ldc2 C0.hx C0.hb C0.ho (C0.w kw_950) dX9_isFit_43 ?_
        refine lv_land C0.hx C0.hb dX9_isFit_46 ?_
        refine lv_lload C0.hx C0.hb dX9_isFit_47 (lv_at hl 0 rfl) ?_
        refine lv_bipush (v := (14 : Int32)) C0.hx C0.hb dX9_isFit_49 (by decide) ?_
        refine lv_lshr C0.hx C0.hb dX9_isFit_51 rfl ?_
        refine lv_ldc2 C0.hx C0.hb C0.ho (C0.w kw_950) dX9_isFit_52 ?_
        refine lv_land C0.hx C0.hb dX9_isFit_55 ?_
        refine lv_lload C0.hx C0.hb dX9_isFit_56 (lv_at hl 0 rfl) ?_
        refine lv_bipush (v := (22 : Int32)) C0.hx C0.hb dX9_isFit_58 (by decide) ?_
        refine lv_lshr C0.hx C0.hb dX9_isFit_60 rfl ?_
        refine lv_ldc2 C0.hx C0.hb C0.ho (C0.w kw_1250) dX9_isFit_61 ?_
        refine lv_land C0.hx C0.hb dX9_isFit_64 ?_
        refine lv_aload_n C0.hx C0.hb dX9_isFit_65 rfl (lv_at hl 1 rfl) ?_
        obtain ⟨r9, hr9, h⟩ := Option.bind_eq_some_iff.mp h
        refine q_getR C0 hw hr9 rfl in_9 (by decide) kw_869 dX9_isFit_66 ?_
        refine lv_bipush (v := (32 : Int32)) C0.hx C0.hb dX9_isFit_69 (by decide) ?_
        refine lv_iconst (v := (3 : Int32)) C0.hx C0.hb dX9_isFit_71 (by decide) ?_
        refine lv_iload_n C0.hx C0.hb dX9_isFit_72 rfl (lv_at hl 4 rfl) ?_
        refine lv_imul C0.hx C0.hb dX9_isFit_73 ?_
        refine lv_iadd C0.hx C0.hb dX9_isFit_74 ?_
        refine lv_iconst (v := (1 : Int32)) C0.hx C0.hb dX9_isFit_75 (by decide) ?_
        refine lv_iadd C0.hx C0.hb dX9_isFit_76 ?_
        obtain ⟨u10, hu10, h⟩ := Option.bind_eq_some_iff.mp h
        refine q_ldJ C0 hw hu10 dX9_isFit_77 ?_
        refine lv_aload_n C0.hx C0.hb dX9_isFit_78 rfl (lv_at hl 1 rfl) ?_
        obtain ⟨r11, hr11, h⟩ := Option.bind_eq_some_iff.mp h
        refine q_getR C0 hw hr11 rfl in_9 (by decide) kw_869 dX9_isFit_79 ?_
        refine lv_bipush (v := (32 : Int32)) C0.hx C0.hb dX9_isFit_82 (by decide) ?_
        refine lv_iconst (v := (3 : Int32)) C0.hx C0.hb dX9_isFit_84 (by decide) ?_
        refine lv_iload_n C0.hx C0.hb dX9_isFit_85 rfl (lv_at hl 4 rfl) ?_
        refine lv_imul C0.hx C0.hb dX9_isFit_86 ?_
        refine lv_iadd C0.hx C0.hb dX9_isFit_87 ?_
        refine lv_iconst (v := (2 : Int32)) C0.hx C0.hb dX9_isFit_88 (by decide) ?_
        refine lv_iadd C0.hx C0.hb dX9_isFit_89 ?_
        obtain ⟨u12, hu12, h⟩ := Option.bind_eq_some_iff.mp h
        refine q_ldJ C0 hw hu12 dX9_isFit_90 ?_
        refine lv_lload C0.hx C0.hb dX9_isFit_91 (lv_at hl 0 rfl) ?_
        refine lv_bipush (v := (34 : Int32)) C0.hx C0.hb dX9_isFit_93 (by decide) ?_
        obtain ⟨v13, hv13, h⟩ := Option.bind_eq_some_iff.mp h
        refine q_callSw 13 (n := 2) (av := [.long u6, .int (34 : Int32)]) (rest := [.long u12, .long u10, .long ((u6 >>> ((22 : Int32).toInt64 &&& 63)) &&& (4095 : Int64)), .long ((u6 >>> ((14 : Int32).toInt64 &&& 63)) &&& (255 : Int64)), .long ((u6 >>> ((6 : Int32).toInt64 &&& 63)) &&& (255 : Int64)), .int v8, .int x1, .ref (b0 + a0)]) (st1 := [.int v13, .long u12, .long u10, .long ((u6 >>> ((22 : Int32).toInt64 &&& 63)) &&& (4095 : Int64)), .long ((u6 >>> ((14 : Int32).toInt64 &&& 63)) &&& (255 : Int64)), .long ((u6 >>> ((6 : Int32).toInt64 &&& 63)) &&& (255 : Int64)), .int v8, .int x1, .ref (b0 + a0)]) C0 hw (m_X9_has l b0 D cy S u6 (34 : Int32) hv13) (goodS kw_1026 kw_1027 kw_72 kw_1028) ⟨rfl, rfl⟩ (by decide +kernel) ⟨(Nat.le_of_ble_eq_true rfl), (Nat.le_of_ble_eq_true rfl)⟩ rfl hl.1 rfl (Nat.le_of_ble_eq_true rfl) dX9_isFit_95 ⟨Nat.zero_le _, Nat.zero_le _⟩ rfl (fun H locs hw => ?_)
        obtain ⟨c14, hc14, h⟩ := Option.bind_eq_some_iff.mp h
        obtain ⟨v15, hv15, h⟩ := Option.bind_eq_some_iff.mp h
        refine q_callV (n := 8) (av := [.int x1, .int v8, .long ((u6 >>> ((6 : Int32).toInt64 &&& 63)) &&& (255 : Int64)), .long ((u6 >>> ((14 : Int32).toInt64 &&& 63)) &&& (255 : Int64)), .long ((u6 >>> ((22 : Int32).toInt64 &&& 63)) &&& (4095 : Int64)), .long u10, .long u12, .int v13]) (rest := []) (st1 := [.int v15]) C0 hw (m_X9_goesTo l b0 D cy S a0 x1 v8 ((u6 >>> ((6 : Int32).toInt64 &&& 63)) &&& (255 : Int64)) ((u6 >>> ((14 : Int32).toInt64 &&& 63)) &&& (255 : Int64)) ((u6 >>> ((22 : Int32).toInt64 &&& 63)) &&& (4095 : Int64)) u10 u12 v13 hv15) hc14 rfl (by decide) (goodV kw_1104 kw_1106 kw_49 kw_72 kw_1107) ⟨rfl, rfl⟩ (by decide +kernel) ⟨(Nat.le_of_ble_eq_true rfl), (Nat.le_of_ble_eq_true rfl)⟩ rfl hl.1 rfl (Nat.le_of_ble_eq_true rfl) dX9_isFit_98 ⟨Nat.zero_le _, Nat.zero_le _⟩ rfl (fun H locs hw => ?_)
        refine lv_aload_n C0.hx C0.hb dX9_isFit_101 rfl (lv_at hl 1 rfl) ?_
        refine lv_iload_n C0.hx C0.hb dX9_isFit_102 rfl (lv_at hl 4 rfl) ?_
        obtain ⟨c16, hc16, h⟩ := Option.bind_eq_some_iff.mp h
        obtain ⟨v17, hv17, h⟩ := Option.bind_eq_some_iff.mp h
        refine q_callV (n := 1) (av := [.int x3]) (rest := [.int v15]) (st1 := [.int v17, .int v15]) C0 hw (m_X9_wayTo l b0 D cy S a0 x3 hv17) hc16 rfl (by decide) (goodV kw_1068 kw_1070 kw_42 kw_72 kw_1071) ⟨rfl, rfl⟩ (by decide +kernel) ⟨(Nat.le_of_ble_eq_true rfl), (Nat.le_of_ble_eq_true rfl)⟩ rfl hl.1 rfl (Nat.le_of_ble_eq_true rfl) dX9_isFit_103 ⟨Nat.zero_le _, Nat.zero_le _⟩ rfl (fun H locs hw => ?_)
        refine lv_icmp_ne (tgt := 113) C0.hx C0.hb dX9_isFit_106 (by decide) (fun hc => ?_) (fun hc => ?_)
        · have h := (if_neg hc).symm.trans h
          refine lv_iconst (v := (0 : Int32)) C0.hx C0.hb dX9_isFit_113 (by decide) ?_
          exact w_X9_isFit_b114 C0 hr hlocks (fun a0 x1 x2 x3 => f_X9_isFit_b4 S  n a0 x1 x2 x3) ih a0 x1 x3 (0 : Int32) _ _ _ hw (lv_sub hl [1, 2, 4] rfl) h
        · have h := (if_pos hc).symm.trans h
          refine lv_iconst (v := (1 : Int32)) C0.hx C0.hb dX9_isFit_109 (by decide) ?_
          refine lv_goto (tgt := 114) C0.hx C0.hb dX9_isFit_110 (by decide) ?_
          exact w_X9_isFit_b114 C0 hr hlocks (fun a0 x1 x2 x3 => f_X9_isFit_b4 S  n a0 x1 x2 x3) ih a0 x1 x3 (1 : Int32) _ _ _ hw (lv_sub hl [1, 2, 4] rfl) h
set_option maxHeartbeats 4000000 in
set_option maxRecDepth 100000 in
theorem m_X9_isFit (l : Launch) (b0 : Nat) (D : va_G) (cy : Nat → ClassId) (S : Mem) (a0 : Nat) (x1 : Int32) {q : Int32} (h : f_X9_isFit a0 x1 S = some q) : Met l yX9_isFit [.code yX9_isFit cX9_isFit 6 (some .boolean)] rm_X9_isFit (Pr b0 D cy S [.ref (b0 + a0), .int x1]) (Qp b0 D cy (some (.int q)) S) 0 0 (fun q => b0 ≤ q) := by
  refine Met.ofW (cc := cX9_isFit) (maxL := 6) (ret := some .boolean) (by decide) rfl ?_
  intro p e s m args below meth c s₁ B hml hv
  obtain ⟨rfl, hP, hK, hT⟩ := hv
  have C0 : Cx p m c cX9_isFit 6 s (List.toArray [.ref (b0 + a0), .int x1]) RX9 D cy := ⟨⟨B.exec, B.bytes, hml, findClass_of_methodNamed B.named, fun w h => hT w h _⟩, hK, hT⟩
  have hr : meth.sig.returnType = some .boolean := B.returns
  have hlocks := B.notSynchronized
  have hw : Wd b0 D cy S s.heap s.heap [] := ⟨hP, va_S.rf⟩
  have hl := lv_entry ([.ref (b0 + a0), .int x1]) (n := 6) (Nat.le_of_ble_eq_true rfl)
  rw [lg_entry_eq]
  generalize (lg_sl ([.ref (b0 + a0), .int x1]) ++ List.replicate (6 - (lg_sl ([.ref (b0 + a0), .int x1])).length) Slot.unset).toArray = ls at hl ⊢
  have hl : lv_has ls 6 [(0, .ref (b0 + a0)), (1, .int x1)] := hl
  rw [f_X9_isFit] at h
  show W p l e rm_X9_isFit s m _ below meth c s.heap [] 0 0 _ _
  refine lv_iconst (v := (1 : Int32)) C0.hx C0.hb dX9_isFit_0 (by decide) ?_
  refine lv_istore_n (lv' := [(2, .int (1 : Int32)), (0, .ref (b0 + a0)), (1, .int x1)]) C0.hx C0.hb dX9_isFit_1 rfl hl (by decide) rfl (fun ls hl => ?_)
  refine lv_iconst (v := (0 : Int32)) C0.hx C0.hb dX9_isFit_2 (by decide) ?_
  refine lv_istore_n (lv' := [(3, .int (0 : Int32)), (2, .int (1 : Int32)), (0, .ref (b0 + a0)), (1, .int x1)]) C0.hx C0.hb dX9_isFit_3 rfl hl (by decide) rfl (fun ls hl => ?_)
  exact w_X9_isFit_b4 C0 hr hlocks FU a0 x1 (1 : Int32) (0 : Int32) _ _ _ hw (lv_sub hl [2, 3, 1, 0] rfl) h
abbrev rm_X9_fit : Room := { frames := 3, cells := 0, slots := 0, locals := 90 }
def f_X9_fit_b38 (S : Mem) (k7 : Nat → Int32 → Int32 → Int32 → Int32 → Option Int32) (a0 : Nat) (x1 : Int32) (x2 : Int32) (x3 : Int32) (x4 : Int32) : Option Int32 :=
    (some (x4 + (1 : Int32))).bind fun v3 =>
      k7 a0 x1 x2 x3 v3
def f_X9_fit_b34 (S : Mem) (k7 : Nat → Int32 → Int32 → Int32 → Int32 → Option Int32) (a0 : Nat) (x1 : Int32) (x2 : Int32) (x4 : Int32) (t0 : Int32) : Option Int32 :=
    (some (x2 + (1 : Int32))).bind fun v4 =>
      f_X9_fit_b38 S k7 a0 x1 v4 t0 x4
def f_X9_fit_b7 (S : Mem) : Nat → Nat → Int32 → Int32 → Int32 → Int32 → Option Int32
  | 0, _, _, _, _, _ => none
  | n + 1, a0, x1, x2, x3, x4 =>
    (if (64 : Int32) ≤ x4 then
      (if x1 = (-1 : Int32) then
      some x2
      else
      some x3)
      else
      (ck 9 S a0).bind fun c1 =>
      (f_X9_isFit a0 x4 S).bind fun v2 =>
      (if v2 = (0 : Int32) then
      f_X9_fit_b38 S (fun a0 x1 x2 x3 x4 => f_X9_fit_b7 S  n a0 x1 x2 x3 x4) a0 x1 x2 x3 x4
      else
      (if x2 = x1 then
      f_X9_fit_b34 S (fun a0 x1 x2 x3 x4 => f_X9_fit_b7 S  n a0 x1 x2 x3 x4) a0 x1 x2 x4 x4
      else
      f_X9_fit_b34 S (fun a0 x1 x2 x3 x4 => f_X9_fit_b7 S  n a0 x1 x2 x3 x4) a0 x1 x2 x4 x3)))
def f_X9_fit (a0 : Nat) (x1 : Int32) (S : Mem) : Option Int32 :=
    f_X9_fit_b7 S FU a0 x1 (0 : Int32) (-1 : Int32) (0 : Int32)
set_option maxHeartbeats 4000000 in
set_option maxRecDepth 100000 in
theorem w_X9_fit_b38 {p : Program} {l : Launch} {e : Env} {s : State} {m : MethodId} {args : Array Value} {below : List Frame} {meth : Method} {c : Code} {b0 : Nat} {D : va_G} {cy : Nat → ClassId} {S : Mem} {q : Int32} (C0 : Cx p m c cX9_fit 5 s args RX9 D cy) (hr : meth.sig.returnType = some .int) (hlocks : meth.locks = false) (k7 : Nat → Int32 → Int32 → Int32 → Int32 → Option Int32) (hk7 : ∀ (a0 : Nat) (x1 : Int32) (x2 : Int32) (x3 : Int32) (x4 : Int32) (H : Heap) (locs : List Loc) (ls : Array Slot), Wd b0 D cy S s.heap H locs → lv_has ls 5 [(0, .ref (b0 + a0)), (1, .int x1), (2, .int x2), (3, .int x3), (4, .int x4)] → k7 a0 x1 x2 x3 x4 = some q → W p l e rm_X9_fit s m args below meth c H locs 0 0 (MQ below (Qp b0 D cy (some (.int q)) S) args s 0 0 (fun q => b0 ≤ q)) (F0 m 7 ls [])) : ∀ (a0 : Nat) (x1 : Int32) (x2 : Int32) (x3 : Int32) (x4 : Int32) (H : Heap) (locs : List Loc) (ls : Array Slot), Wd b0 D cy S s.heap H locs → lv_has ls 5 [(0, .ref (b0 + a0)), (1, .int x1), (2, .int x2), (3, .int x3), (4, .int x4)] → f_X9_fit_b38 S k7 a0 x1 x2 x3 x4 = some q → W p l e rm_X9_fit s m args below meth c H locs 0 0 (MQ below (Qp b0 D cy (some (.int q)) S) args s 0 0 (fun q => b0 ≤ q)) (F0 m 38 ls []) := by
  intro a0 x1 x2 x3 x4 H locs ls hw hl h
  rw [f_X9_fit_b38] at h
  obtain ⟨v3, hv3, h⟩ := Option.bind_eq_some_iff.mp h
  refine lv_iinc (v := v3) (lv' := [(4, .int v3), (0, .ref (b0 + a0)), (1, .int x1), (2, .int x2), (3, .int x3)]) C0.hx C0.hb dX9_fit_38 hl (k := 4) rfl (by rw [← Option.some.inj hv3]; rfl) (by decide) rfl (fun ls hl => ?_)
  refine lv_goto (tgt := 7) C0.hx C0.hb dX9_fit_41 (by decide) ?_
  exact hk7 a0 x1 x2 x3 v3 _ _ _ hw (lv_sub hl [1, 2, 3, 4, 0] rfl) h
set_option maxHeartbeats 4000000 in
set_option maxRecDepth 100000 in
theorem w_X9_fit_b34 {p : Program} {l : Launch} {e : Env} {s : State} {m : MethodId} {args : Array Value} {below : List Frame} {meth : Method} {c : Code} {b0 : Nat} {D : va_G} {cy : Nat → ClassId} {S : Mem} {q : Int32} (C0 : Cx p m c cX9_fit 5 s args RX9 D cy) (hr : meth.sig.returnType = some .int) (hlocks : meth.locks = false) (k7 : Nat → Int32 → Int32 → Int32 → Int32 → Option Int32) (hk7 : ∀ (a0 : Nat) (x1 : Int32) (x2 : Int32) (x3 : Int32) (x4 : Int32) (H : Heap) (locs : List Loc) (ls : Array Slot), Wd b0 D cy S s.heap H locs → lv_has ls 5 [(0, .ref (b0 + a0)), (1, .int x1), (2, .int x2), (3, .int x3), (4, .int x4)] → k7 a0 x1 x2 x3 x4 = some q → W p l e rm_X9_fit s m args below meth c H locs 0 0 (MQ below (Qp b0 D cy (some (.int q)) S) args s 0 0 (fun q => b0 ≤ q)) (F0 m 7 ls [])) : ∀ (a0 : Nat) (x1 : Int32) (x2 : Int32) (x4 : Int32) (t0 : Int32) (H : Heap) (locs : List Loc) (ls : Array Slot), Wd b0 D cy S s.heap H locs → lv_has ls 5 [(0, .ref (b0 + a0)), (1, .int x1), (2, .int x2), (4, .int x4)] → f_X9_fit_b34 S k7 a0 x1 x2 x4 t0 = some q → W p l e rm_X9_fit s m args below meth c H locs 0 0 (MQ below (Qp b0 D cy (some (.int q)) S) args s 0 0 (fun q => b0 ≤ q)) (F0 m 34 ls [.int t0]) := by
  intro a0 x1 x2 x4 t0 H locs ls hw hl h
  rw [f_X9_fit_b34] at h
  refine lv_istore_n (lv' := [(3, .int t0), (0, .ref (b0 + a0)), (1, .int x1), (2, .int x2), (4, .int x4)]) C0.hx C0.hb dX9_fit_34 rfl hl (by decide) rfl (fun ls hl => ?_)
  obtain ⟨v4, hv4, h⟩ := Option.bind_eq_some_iff.mp h
  refine lv_iinc (v := v4) (lv' := [(2, .int v4), (3, .int t0), (0, .ref (b0 + a0)), (1, .int x1), (4, .int x4)]) C0.hx C0.hb dX9_fit_35 hl (k := 3) rfl (by rw [← Option.some.inj hv4]; rfl) (by decide) rfl (fun ls hl => ?_)
  exact w_X9_fit_b38 C0 hr hlocks k7 hk7 a0 x1 v4 t0 x4 _ _ _ hw (lv_sub hl [2, 3, 0, 1, 4] rfl) h
set_option maxHeartbeats 4000000 in
set_option maxRecDepth 100000 in
theorem w_X9_fit_b7 {p : Program} {l : Launch} {e : Env} {s : State} {m : MethodId} {args : Array Value} {below : List Frame} {meth : Method} {c : Code} {b0 : Nat} {D : va_G} {cy : Nat → ClassId} {S : Mem} {q : Int32} (C0 : Cx p m c cX9_fit 5 s args RX9 D cy) (hr : meth.sig.returnType = some .int) (hlocks : meth.locks = false) : ∀ (n : Nat) (a0 : Nat) (x1 : Int32) (x2 : Int32) (x3 : Int32) (x4 : Int32) (H : Heap) (locs : List Loc) (ls : Array Slot), Wd b0 D cy S s.heap H locs → lv_has ls 5 [(0, .ref (b0 + a0)), (1, .int x1), (2, .int x2), (3, .int x3), (4, .int x4)] → f_X9_fit_b7 S  n a0 x1 x2 x3 x4 = some q → W p l e rm_X9_fit s m args below meth c H locs 0 0 (MQ below (Qp b0 D cy (some (.int q)) S) args s 0 0 (fun q => b0 ≤ q)) (F0 m 7 ls []) := by
  intro n
  induction n with
  | zero => intro a0 x1 x2 x3 x4 H locs ls hw hl h; exact absurd h (by simp [f_X9_fit_b7])
  | succ n ih =>
    intro a0 x1 x2 x3 x4 H locs ls hw hl h
    rw [f_X9_fit_b7] at h
    refine lv_iload C0.hx C0.hb dX9_fit_7 (lv_at hl 4 rfl) ?_
    refine lv_bipush (v := (64 : Int32)) C0.hx C0.hb dX9_fit_9 (by decide) ?_
    refine lv_icmp_ge (tgt := 44) C0.hx C0.hb dX9_fit_11 (by decide) (fun hc => ?_) (fun hc => ?_)
    · have h := (if_pos hc).symm.trans h
      refine lv_iload_n C0.hx C0.hb dX9_fit_44 rfl (lv_at hl 1 rfl) ?_
      refine lv_iconst (v := (-1 : Int32)) C0.hx C0.hb dX9_fit_45 (by decide) ?_
      refine lv_icmp_ne (tgt := 53) C0.hx C0.hb dX9_fit_46 (by decide) (fun hc => ?_) (fun hc => ?_)
      · have h := (if_neg hc).symm.trans h
        refine lv_iload_n C0.hx C0.hb dX9_fit_53 rfl (lv_at hl 3 rfl) ?_
        obtain rfl := Option.some.inj h
        exact q_reti C0 hw hr hlocks dX9_fit_54
      · have h := (if_pos hc).symm.trans h
        refine lv_iload_n C0.hx C0.hb dX9_fit_49 rfl (lv_at hl 2 rfl) ?_
        refine lv_goto (tgt := 54) C0.hx C0.hb dX9_fit_50 (by decide) ?_
        obtain rfl := Option.some.inj h
        exact q_reti C0 hw hr hlocks dX9_fit_54
    · have h := (if_neg hc).symm.trans h
      refine lv_aload_n C0.hx C0.hb dX9_fit_14 rfl (lv_at hl 0 rfl) ?_
      refine lv_iload C0.hx C0.hb dX9_fit_15 (lv_at hl 4 rfl) ?_
      obtain ⟨c1, hc1, h⟩ := Option.bind_eq_some_iff.mp h
      obtain ⟨v2, hv2, h⟩ := Option.bind_eq_some_iff.mp h
      refine q_callV (n := 1) (av := [.int x4]) (rest := []) (st1 := [.int v2]) C0 hw (m_X9_isFit l b0 D cy S a0 x4 hv2) hc1 rfl (by decide) (goodV kw_1246 kw_1248 kw_60 kw_72 kw_1249) ⟨rfl, rfl⟩ (by decide +kernel) ⟨(Nat.le_of_ble_eq_true rfl), (Nat.le_of_ble_eq_true rfl)⟩ rfl hl.1 rfl (Nat.le_of_ble_eq_true rfl) dX9_fit_17 ⟨Nat.zero_le _, Nat.zero_le _⟩ rfl (fun H locs hw => ?_)
      refine lv_if_eq (tgt := 38) C0.hx C0.hb dX9_fit_20 (by decide) (fun hc => ?_) (fun hc => ?_)
      · have h := (if_pos hc).symm.trans h
        exact w_X9_fit_b38 C0 hr hlocks (fun a0 x1 x2 x3 x4 => f_X9_fit_b7 S  n a0 x1 x2 x3 x4) ih a0 x1 x2 x3 x4 _ _ _ hw (lv_sub hl [0, 1, 2, 3, 4] rfl) h
      · have h := (if_neg hc).symm.trans h
        refine lv_iload_n C0.hx C0.hb dX9_fit_23 rfl (lv_at hl 2 rfl) ?_
        refine lv_iload_n C0.hx C0.hb dX9_fit_24 rfl (lv_at hl 1 rfl) ?_
        refine lv_icmp_ne (tgt := 33) C0.hx C0.hb dX9_fit_25 (by decide) (fun hc => ?_) (fun hc => ?_)
        · have h := (if_neg hc).symm.trans h
          refine lv_iload_n C0.hx C0.hb dX9_fit_33 rfl (lv_at hl 3 rfl) ?_
          exact w_X9_fit_b34 C0 hr hlocks (fun a0 x1 x2 x3 x4 => f_X9_fit_b7 S  n a0 x1 x2 x3 x4) ih a0 x1 x2 x4 x3 _ _ _ hw (lv_sub hl [0, 1, 2, 4] rfl) h
        · have h := (if_pos hc).symm.trans h
          refine lv_iload C0.hx C0.hb dX9_fit_28 (lv_at hl 4 rfl) ?_
          refine lv_goto (tgt := 34) C0.hx C0.hb dX9_fit_30 (by decide) ?_
          exact w_X9_fit_b34 C0 hr hlocks (fun a0 x1 x2 x3 x4 => f_X9_fit_b7 S  n a0 x1 x2 x3 x4) ih a0 x1 x2 x4 x4 _ _ _ hw (lv_sub hl [0, 1, 2, 4] rfl) h
set_option maxHeartbeats 4000000 in
set_option maxRecDepth 100000 in
theorem m_X9_fit (l : Launch) (b0 : Nat) (D : va_G) (cy : Nat → ClassId) (S : Mem) (a0 : Nat) (x1 : Int32) {q : Int32} (h : f_X9_fit a0 x1 S = some q) : Met l yX9_fit [.code yX9_fit cX9_fit 5 (some .int)] rm_X9_fit (Pr b0 D cy S [.ref (b0 + a0), .int x1]) (Qp b0 D cy (some (.int q)) S) 0 0 (fun q => b0 ≤ q) := by
  refine Met.ofW (cc := cX9_fit) (maxL := 5) (ret := some .int) (by decide) rfl ?_
  intro p e s m args below meth c s₁ B hml hv
  obtain ⟨rfl, hP, hK, hT⟩ := hv
  have C0 : Cx p m c cX9_fit 5 s (List.toArray [.ref (b0 + a0), .int x1]) RX9 D cy := ⟨⟨B.exec, B.bytes, hml, findClass_of_methodNamed B.named, fun w h => hT w h _⟩, hK, hT⟩
  have hr : meth.sig.returnType = some .int := B.returns
  have hlocks := B.notSynchronized
  have hw : Wd b0 D cy S s.heap s.heap [] := ⟨hP, va_S.rf⟩
  have hl := lv_entry ([.ref (b0 + a0), .int x1]) (n := 5) (Nat.le_of_ble_eq_true rfl)
  rw [lg_entry_eq]
  generalize (lg_sl ([.ref (b0 + a0), .int x1]) ++ List.replicate (5 - (lg_sl ([.ref (b0 + a0), .int x1])).length) Slot.unset).toArray = ls at hl ⊢
  have hl : lv_has ls 5 [(0, .ref (b0 + a0)), (1, .int x1)] := hl
  rw [f_X9_fit] at h
  show W p l e rm_X9_fit s m _ below meth c s.heap [] 0 0 _ _
  refine lv_iconst (v := (0 : Int32)) C0.hx C0.hb dX9_fit_0 (by decide) ?_
  refine lv_istore_n (lv' := [(2, .int (0 : Int32)), (0, .ref (b0 + a0)), (1, .int x1)]) C0.hx C0.hb dX9_fit_1 rfl hl (by decide) rfl (fun ls hl => ?_)
  refine lv_iconst (v := (-1 : Int32)) C0.hx C0.hb dX9_fit_2 (by decide) ?_
  refine lv_istore_n (lv' := [(3, .int (-1 : Int32)), (2, .int (0 : Int32)), (0, .ref (b0 + a0)), (1, .int x1)]) C0.hx C0.hb dX9_fit_3 rfl hl (by decide) rfl (fun ls hl => ?_)
  refine lv_iconst (v := (0 : Int32)) C0.hx C0.hb dX9_fit_4 (by decide) ?_
  refine lv_istore (lv' := [(4, .int (0 : Int32)), (3, .int (-1 : Int32)), (2, .int (0 : Int32)), (0, .ref (b0 + a0)), (1, .int x1)]) C0.hx C0.hb dX9_fit_5 hl (by decide) rfl (fun ls hl => ?_)
  exact w_X9_fit_b7 C0 hr hlocks FU a0 x1 (0 : Int32) (-1 : Int32) (0 : Int32) _ _ _ hw (lv_sub hl [3, 4, 2, 1, 0] rfl) h
