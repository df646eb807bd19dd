abbrev rm_X9_tells : Room := { frames := 3, cells := 0, slots := 0, locals := 90 }
def f_X9_tells_b36 (k4 : Nat → Int32 → Int32 → Mem → Option (Int32 × Mem)) (a0 : Nat) (x2 : Int32) (t0 : Int32) (t1 : Int32) (S : Mem) : Option (Int32 × Mem) :=
    (some (t1 + t0)).bind fun v26 =>
      (some (x2 + (1 : Int32))).bind fun v27 =>
      k4 a0 v26 v27 S
def f_X9_tells_b163 (k51 : Nat → Int32 → Int32 → Int32 → Mem → Option (Int32 × Mem)) (k90 : Nat → Int32 → Int32 → Int32 → Int32 → Int32 → Mem → Option (Int32 × Mem)) (a0 : Nat) (x2 : Int32) (x3 : Int32) (x4 : Int32) (x5 : Int32) (x6 : Int32) (S : Mem) : Option (Int32 × Mem) :=
    (some (x6 + (1 : Int32))).bind fun v5 =>
      k90 a0 x2 x3 x4 x5 v5 S
def f_X9_tells_b161 (k51 : Nat → Int32 → Int32 → Int32 → Mem → Option (Int32 × Mem)) (k90 : Nat → Int32 → Int32 → Int32 → Int32 → Int32 → Mem → Option (Int32 × Mem)) (a0 : Nat) (x2 : Int32) (x3 : Int32) (x4 : Int32) (x6 : Int32) (t0 : Int32) (S : Mem) : Option (Int32 × Mem) :=
    f_X9_tells_b163 k51 k90 a0 x2 x3 x4 t0 x6 S
def f_X9_tells_b194 (k51 : Nat → Int32 → Int32 → Int32 → Mem → Option (Int32 × Mem)) (a0 : Nat) (x2 : Int32) (x4 : Int32) (t0 : Int32) (S : Mem) : Option (Int32 × Mem) :=
    (some (x4 + (1 : Int32))).bind fun v2 =>
      k51 a0 x2 t0 v2 S
def f_X9_tells_b181 (k51 : Nat → Int32 → Int32 → Int32 → Mem → Option (Int32 × Mem)) (a0 : Nat) (x3 : Int32) (x4 : Int32) (x5 : Int32) (t0 : Int32) (S : Mem) : Option (Int32 × Mem) :=
    (if x3 ≤ x5 then
      f_X9_tells_b194 k51 a0 t0 x4 x3 S
      else
      f_X9_tells_b194 k51 a0 t0 x4 x5 S)
def f_X9_tells_b90 (k51 : Nat → Int32 → Int32 → Int32 → Mem → Option (Int32 × Mem)) : Nat → Nat → Int32 → Int32 → Int32 → Int32 → Int32 → Mem → Option (Int32 × Mem)
  | 0, _, _, _, _, _, _, _ => none
  | n + 1, a0, x2, x3, x4, x5, x6, S =>
    (if (64 : Int32) ≤ x6 then
      (if x3 ≤ x5 then
      f_X9_tells_b181 k51 a0 x3 x4 x5 x2 S
      else
      f_X9_tells_b181 k51 a0 x3 x4 x5 x4 S)
      else
      (gR 9 19 S a0).bind fun r3 =>
      (ldZ S r3 x6).bind fun v4 =>
      (if v4 = (0 : Int32) then
      f_X9_tells_b163 k51 (fun a0 x2 x3 x4 x5 x6 S => f_X9_tells_b90 k51 n a0 x2 x3 x4 x5 x6 S) a0 x2 x3 x4 x5 x6 S
      else
      (gR 9 7 S a0).bind fun r6 =>
      (ldJ S r6 (4 : Int32)).bind fun u7 =>
      (ck 9 S a0).bind fun c8 =>
      (f_X9_goesNext a0 x6 (u7 ^^^ ((1 : Int64) <<< (x4.toInt64 &&& 63))) S).bind fun v9 =>
      (gR 9 20 S a0).bind fun r10 =>
      (ldI S r10 v9).bind fun v11 =>
      (stI S r10 v9 (v11 + (1 : Int32))).bind fun S12 =>
      (gR 9 20 S12 a0).bind fun r13 =>
      (ldI S12 r13 v9).bind fun v14 =>
      (if v14 ≤ x5 then
      f_X9_tells_b161 k51 (fun a0 x2 x3 x4 x5 x6 S => f_X9_tells_b90 k51 n a0 x2 x3 x4 x5 x6 S) a0 x2 x3 x4 x6 x5 S12
      else
      (gR 9 20 S12 a0).bind fun r15 =>
      (ldI S12 r15 v9).bind fun v16 =>
      f_X9_tells_b161 k51 (fun a0 x2 x3 x4 x5 x6 S => f_X9_tells_b90 k51 n a0 x2 x3 x4 x5 x6 S) a0 x2 x3 x4 x6 v16 S12)))
def f_X9_tells_b63 (k51 : Nat → Int32 → Int32 → Int32 → Mem → Option (Int32 × Mem)) : Nat → Nat → Int32 → Int32 → Int32 → Int32 → Mem → Option (Int32 × Mem)
  | 0, _, _, _, _, _, _ => none
  | n + 1, a0, x2, x3, x4, x5, S =>
    (if (8 : Int32) ≤ x5 then
      f_X9_tells_b90 k51 FU a0 x2 x3 x4 (0 : Int32) (0 : Int32) S
      else
      (gR 9 20 S a0).bind fun r17 =>
      (stI S r17 x5 (0 : Int32)).bind fun S18 =>
      (some (x5 + (1 : Int32))).bind fun v19 =>
      f_X9_tells_b63 k51 n a0 x2 x3 x4 v19 S18)
def f_X9_tells_b51 : Nat → Nat → Int32 → Int32 → Int32 → Mem → Option (Int32 × Mem)
  | 0, _, _, _, _, _ => none
  | n + 1, a0, x2, x3, x4, S =>
    (gI 9 1 S a0).bind fun v1 =>
      (if v1 ≤ x4 then
      some (x2, S)
      else
      f_X9_tells_b63 (fun a0 x2 x3 x4 S => f_X9_tells_b51  n a0 x2 x3 x4 S) FU a0 x2 x3 x4 (0 : Int32) S)
def f_X9_tells_b4 : Nat → Nat → Int32 → Int32 → Mem → Option (Int32 × Mem)
  | 0, _, _, _, _ => none
  | n + 1, a0, x1, x2, S =>
    (if (64 : Int32) ≤ x2 then
      f_X9_tells_b51 FU a0 (-1 : Int32) x1 (0 : Int32) S
      else
      (gR 9 19 S a0).bind fun r20 =>
      (ck 9 S a0).bind fun c21 =>
      (f_X9_isFit a0 x2 S).bind fun v22 =>
      (stZ S r20 x2 v22).bind fun S23 =>
      (gR 9 19 S23 a0).bind fun r24 =>
      (ldZ S23 r24 x2).bind fun v25 =>
      (if v25 = (0 : Int32) then
      f_X9_tells_b36 (fun a0 x1 x2 S => f_X9_tells_b4  n a0 x1 x2 S) a0 x2 (0 : Int32) x1 S23
      else
      f_X9_tells_b36 (fun a0 x1 x2 S => f_X9_tells_b4  n a0 x1 x2 S) a0 x2 (1 : Int32) x1 S23))
def f_X9_tells (a0 : Nat) (S : Mem) : Option (Int32 × Mem) :=
    f_X9_tells_b4 FU a0 (0 : Int32) (0 : Int32) S
set_option maxHeartbeats 4000000 in
set_option maxRecDepth 100000 in
theorem w_X9_tells_b36 {p : Program} {l : Launch} {e : Env} {s : State} {m : MethodId} {args : Array Value} {below : List Frame} {meth : Method} {c : Code} {b0 : Nat} {D : va_G} {cy : Nat → ClassId} {q : (Int32 × Mem)} (C0 : Cx p m c cX9_tells 8 s args RX9 D cy) (hr : meth.sig.returnType = some .int) (hlocks : meth.locks = false) (k4 : Nat → Int32 → Int32 → Mem → Option (Int32 × Mem)) (hk4 : ∀ (a0 : Nat) (x1 : Int32) (x2 : Int32) (S : Mem) (H : Heap) (locs : List Loc) (ls : Array Slot), Wd b0 D cy S s.heap H locs → lv_has ls 8 [(0, .ref (b0 + a0)), (1, .int x1), (2, .int x2)] → k4 a0 x1 x2 S = some q → W p l e rm_X9_tells s m args below meth c H locs 0 0 (MQ below (Qp b0 D cy (some (.int q.1)) q.2) args s 0 0 (fun q => b0 ≤ q)) (F0 m 4 ls [])) : ∀ (a0 : Nat) (x2 : Int32) (t0 : Int32) (t1 : Int32) (S : Mem) (H : Heap) (locs : List Loc) (ls : Array Slot), Wd b0 D cy S s.heap H locs → lv_has ls 8 [(0, .ref (b0 + a0)), (2, .int x2)] → f_X9_tells_b36 k4 a0 x2 t0 t1 S = some q → W p l e rm_X9_tells s m args below meth c H locs 0 0 (MQ below (Qp b0 D cy (some (.int q.1)) q.2) args s 0 0 (fun q => b0 ≤ q)) (F0 m 36 ls [.int t0, .int t1]) := by
  intro a0 x2 t0 t1 S H locs ls hw hl h
  rw [f_X9_tells_b36] at h
  refine lv_iadd C0.hx C0.hb dX9_tells_36 ?_
  obtain ⟨v26, hv26, h⟩ := Option.bind_eq_some_iff.mp h
  refine q_nmI hv26 ?_
  refine lv_istore_n (lv' := [(1, .int v26), (0, .ref (b0 + a0)), (2, .int x2)]) C0.hx C0.hb dX9_tells_37 rfl hl (by decide) rfl (fun ls hl => ?_)
  obtain ⟨v27, hv27, h⟩ := Option.bind_eq_some_iff.mp h
  refine lv_iinc (v := v27) (lv' := [(2, .int v27), (1, .int v26), (0, .ref (b0 + a0))]) C0.hx C0.hb dX9_tells_38 hl (k := 2) rfl (by rw [← Option.some.inj hv27]; rfl) (by decide) rfl (fun ls hl => ?_)
  refine lv_goto (tgt := 4) C0.hx C0.hb dX9_tells_41 (by decide) ?_
  exact hk4 a0 v26 v27 S _ _ _ hw (lv_sub hl [2, 1, 0] rfl) h
set_option maxHeartbeats 4000000 in
set_option maxRecDepth 100000 in
theorem w_X9_tells_b163 {p : Program} {l : Launch} {e : Env} {s : State} {m : MethodId} {args : Array Value} {below : List Frame} {meth : Method} {c : Code} {b0 : Nat} {D : va_G} {cy : Nat → ClassId} {q : (Int32 × Mem)} (C0 : Cx p m c cX9_tells 8 s args RX9 D cy) (hr : meth.sig.returnType = some .int) (hlocks : meth.locks = false) (k51 : Nat → Int32 → Int32 → Int32 → Mem → Option (Int32 × Mem)) (hk51 : ∀ (a0 : Nat) (x2 : Int32) (x3 : Int32) (x4 : Int32) (S : Mem) (H : Heap) (locs : List Loc) (ls : Array Slot), Wd b0 D cy S s.heap H locs → lv_has ls 8 [(0, .ref (b0 + a0)), (2, .int x2), (3, .int x3), (4, .int x4)] → k51 a0 x2 x3 x4 S = some q → W p l e rm_X9_tells s m args below meth c H locs 0 0 (MQ below (Qp b0 D cy (some (.int q.1)) q.2) args s 0 0 (fun q => b0 ≤ q)) (F0 m 51 ls [])) (k90 : Nat → Int32 → Int32 → Int32 → Int32 → Int32 → Mem → Option (Int32 × Mem)) (hk90 : ∀ (a0 : Nat) (x2 : Int32) (x3 : Int32) (x4 : Int32) (x5 : Int32) (x6 : Int32) (S : Mem) (H : Heap) (locs : List Loc) (ls : Array Slot), Wd b0 D cy S s.heap H locs → lv_has ls 8 [(0, .ref (b0 + a0)), (2, .int x2), (3, .int x3), (4, .int x4), (5, .int x5), (6, .int x6)] → k90 a0 x2 x3 x4 x5 x6 S = some q → W p l e rm_X9_tells s m args below meth c H locs 0 0 (MQ below (Qp b0 D cy (some (.int q.1)) q.2) args s 0 0 (fun q => b0 ≤ q)) (F0 m 90 ls [])) : ∀ (a0 : Nat) (x2 : Int32) (x3 : Int32) (x4 : Int32) (x5 : Int32) (x6 : Int32) (S : Mem) (H : Heap) (locs : List Loc) (ls : Array Slot), Wd b0 D cy S s.heap H locs → lv_has ls 8 [(0, .ref (b0 + a0)), (2, .int x2), (3, .int x3), (4, .int x4), (5, .int x5), (6, .int x6)] → f_X9_tells_b163 k51 k90 a0 x2 x3 x4 x5 x6 S = some q → W p l e rm_X9_tells s m args below meth c H locs 0 0 (MQ below (Qp b0 D cy (some (.int q.1)) q.2) args s 0 0 (fun q => b0 ≤ q)) (F0 m 163 ls []) := by
  intro a0 x2 x3 x4 x5 x6 S H locs ls hw hl h
  rw [f_X9_tells_b163] at h
  obtain ⟨v5, hv5, h⟩ := Option.bind_eq_some_iff.mp h
  refine lv_iinc (v := v5) (lv' := [(6, .int v5), (0, .ref (b0 + a0)), (2, .int x2), (3, .int x3), (4, .int x4), (5, .int x5)]) C0.hx C0.hb dX9_tells_163 hl (k := 5) rfl (by rw [← Option.some.inj hv5]; rfl) (by decide) rfl (fun ls hl => ?_)
  refine lv_goto (tgt := 90) C0.hx C0.hb dX9_tells_166 (by decide) ?_
  exact hk90 a0 x2 x3 x4 x5 v5 S _ _ _ hw (lv_sub hl [1, 2, 3, 4, 5, 0] rfl) h
set_option maxHeartbeats 4000000 in
set_option maxRecDepth 100000 in
theorem w_X9_tells_b161 {p : Program} {l : Launch} {e : Env} {s : State} {m : MethodId} {args : Array Value} {below : List Frame} {meth : Method} {c : Code} {b0 : Nat} {D : va_G} {cy : Nat → ClassId} {q : (Int32 × Mem)} (C0 : Cx p m c cX9_tells 8 s args RX9 D cy) (hr : meth.sig.returnType = some .int) (hlocks : meth.locks = false) (k51 : Nat → Int32 → Int32 → Int32 → Mem → Option (Int32 × Mem)) (hk51 : ∀ (a0 : Nat) (x2 : Int32) (x3 : Int32) (x4 : Int32) (S : Mem) (H : Heap) (locs : List Loc) (ls : Array Slot), Wd b0 D cy S s.heap H locs → lv_has ls 8 [(0, .ref (b0 + a0)), (2, .int x2), (3, .int x3), (4, .int x4)] → k51 a0 x2 x3 x4 S = some q → W p l e rm_X9_tells s m args below meth c H locs 0 0 (MQ below (Qp b0 D cy (some (.int q.1)) q.2) args s 0 0 (fun q => b0 ≤ q)) (F0 m 51 ls [])) (k90 : Nat → Int32 → Int32 → Int32 → Int32 → Int32 → Mem → Option (Int32 × Mem)) (hk90 : ∀ (a0 : Nat) (x2 : Int32) (x3 : Int32) (x4 : Int32) (x5 : Int32) (x6 : Int32) (S : Mem) (H : Heap) (locs : List Loc) (ls : Array Slot), Wd b0 D cy S s.heap H locs → lv_has ls 8 [(0, .ref (b0 + a0)), (2, .int x2), (3, .int x3), (4, .int x4), (5, .int x5), (6, .int x6)] → k90 a0 x2 x3 x4 x5 x6 S = some q → W p l e rm_X9_tells s m args below meth c H locs 0 0 (MQ below (Qp b0 D cy (some (.int q.1)) q.2) args s 0 0 (fun q => b0 ≤ q)) (F0 m 90 ls [])) : ∀ (a0 : Nat) (x2 : Int32) (x3 : Int32) (x4 : Int32) (x6 : Int32) (t0 : Int32) (S : Mem) (H : Heap) (locs : List Loc) (ls : Array Slot), Wd b0 D cy S s.heap H locs → lv_has ls 8 [(0, .ref (b0 + a0)), (2, .int x2), (3, .int x3), (4, .int x4), (6, .int x6)] → f_X9_tells_b161 k51 k90 a0 x2 x3 x4 x6 t0 S = some q → W p l e rm_X9_tells s m args below meth c H locs 0 0 (MQ below (Qp b0 D cy (some (.int q.1)) q.2) args s 0 0 (fun q => b0 ≤ q)) (F0 m 161 ls [.int t0]) := by
  intro a0 x2 x3 x4 x6 t0 S H locs ls hw hl h
  rw [f_X9_tells_b161] at h
  refine lv_istore (lv' := [(5, .int t0), (0, .ref (b0 + a0)), (2, .int x2), (3, .int x3), (4, .int x4), (6, .int x6)]) C0.hx C0.hb dX9_tells_161 hl (by decide) rfl (fun ls hl => ?_)
  exact w_X9_tells_b163 C0 hr hlocks k51 hk51 k90 hk90 a0 x2 x3 x4 t0 x6 S _ _ _ hw (lv_sub hl [1, 2, 3, 4, 0, 5] rfl) h
set_option maxHeartbeats 4000000 in
set_option maxRecDepth 100000 in
theorem w_X9_tells_b194 {p : Program} {l : Launch} {e : Env} {s : State} {m : MethodId} {args : Array Value} {below : List Frame} {meth : Method} {c : Code} {b0 : Nat} {D : va_G} {cy : Nat → ClassId} {q : (Int32 × Mem)} (C0 : Cx p m c cX9_tells 8 s args RX9 D cy) (hr : meth.sig.returnType = some .int) (hlocks : meth.locks = false) (k51 : Nat → Int32 → Int32 → Int32 → Mem → Option (Int32 × Mem)) (hk51 : ∀ (a0 : Nat) (x2 : Int32) (x3 : Int32) (x4 : Int32) (S : Mem) (H : Heap) (locs : List Loc) (ls : Array Slot), Wd b0 D cy S s.heap H locs → lv_has ls 8 [(0, .ref (b0 + a0)), (2, .int x2), (3, .int x3), (4, .int x4)] → k51 a0 x2 x3 x4 S = some q → W p l e rm_X9_tells s m args below meth c H locs 0 0 (MQ below (Qp b0 D cy (some (.int q.1)) q.2) args s 0 0 (fun q => b0 ≤ q)) (F0 m 51 ls [])) : ∀ (a0 : Nat) (x2 : Int32) (x4 : Int32) (t0 : Int32) (S : Mem) (H : Heap) (locs : List Loc) (ls : Array Slot), Wd b0 D cy S s.heap H locs → lv_has ls 8 [(0, .ref (b0 + a0)), (2, .int x2), (4, .int x4)] → f_X9_tells_b194 k51 a0 x2 x4 t0 S = some q → W p l e rm_X9_tells s m args below meth c H locs 0 0 (MQ below (Qp b0 D cy (some (.int q.1)) q.2) args s 0 0 (fun q => b0 ≤ q)) (F0 m 194 ls [.int t0]) := by
  intro a0 x2 x4 t0 S H locs ls hw hl h
  rw [f_X9_tells_b194] at h
  refine lv_istore_n (lv' := [(3, .int t0), (0, .ref (b0 + a0)), (2, .int x2), (4, .int x4)]) C0.hx C0.hb dX9_tells_194 rfl hl (by decide) rfl (fun ls hl => ?_)
  obtain ⟨v2, hv2, h⟩ := Option.bind_eq_some_iff.mp h
  refine lv_iinc (v := v2) (lv' := [(4, .int v2), (3, .int t0), (0, .ref (b0 + a0)), (2, .int x2)]) C0.hx C0.hb dX9_tells_195 hl (k := 3) rfl (by rw [← Option.some.inj hv2]; rfl) (by decide) rfl (fun ls hl => ?_)
  refine lv_goto (tgt := 51) C0.hx C0.hb dX9_tells_198 (by decide) ?_
  exact hk51 a0 x2 t0 v2 S _ _ _ hw (lv_sub hl [2, 3, 1, 0] rfl) h
set_option maxHeartbeats 4000000 in
set_option maxRecDepth 100000 in
theorem w_X9_tells_b181 {p : Program} {l : Launch} {e : Env} {s : State} {m : MethodId} {args : Array Value} {below : List Frame} {meth : Method} {c : Code} {b0 : Nat} {D : va_G} {cy : Nat → ClassId} {q : (Int32 × Mem)} (C0 : Cx p m c cX9_tells 8 s args RX9 D cy) (hr : meth.sig.returnType = some .int) (hlocks : meth.locks = false) (k51 : Nat → Int32 → Int32 → Int32 → Mem → Option (Int32 × Mem)) (hk51 : ∀ (a0 : Nat) (x2 : Int32) (x3 : Int32) (x4 : Int32) (S : Mem) (H : Heap) (locs : List Loc) (ls : Array Slot), Wd b0 D cy S s.heap H locs → lv_has ls 8 [(0, .ref (b0 + a0)), (2, .int x2), (3, .int x3), (4, .int x4)] → k51 a0 x2 x3 x4 S = some q → W p l e rm_X9_tells s m args below meth c H locs 0 0 (MQ below (Qp b0 D cy (some (.int q.1)) q.2) args s 0 0 (fun q => b0 ≤ q)) (F0 m 51 ls [])) : ∀ (a0 : Nat) (x3 : Int32) (x4 : Int32) (x5 : Int32) (t0 : Int32) (S : Mem) (H : Heap) (locs : List Loc) (ls : Array Slot), Wd b0 D cy S s.heap H locs → lv_has ls 8 [(0, .ref (b0 + a0)), (3, .int x3), (4, .int x4), (5, .int x5)] → f_X9_tells_b181 k51 a0 x3 x4 x5 t0 S = some q → W p l e rm_X9_tells s m args below meth c H locs 0 0 (MQ below (Qp b0 D cy (some (.int q.1)) q.2) args s 0 0 (fun q => b0 ≤ q)) (F0 m 181 ls [.int t0]) := by
  intro a0 x3 x4 x5 t0 S H locs ls hw hl h
  rw [f_X9_tells_b181] at h
  refine lv_istore_n (lv' := [(2, .int t0), (0, .ref (b0 + a0)), (3, .int x3), (4, .int x4), (5, .int x5)]) C0.hx C0.hb dX9_tells_181 rfl hl (by decide) rfl (fun ls hl => ?_)
  refine lv_iload C0.hx C0.hb dX9_tells_182 (lv_at hl 4 rfl) ?_
  refine lv_iload_n C0.hx C0.hb dX9_tells_184 rfl (lv_at hl 2 rfl) ?_
  refine lv_icmp_ge (tgt := 193) C0.hx C0.hb dX9_tells_185 (by decide) (fun hc => ?_) (fun hc => ?_)
  · have h := (if_pos hc).symm.trans h
    refine lv_iload_n C0.hx C0.hb dX9_tells_193 rfl (lv_at hl 2 rfl) ?_
    exact w_X9_tells_b194 C0 hr hlocks k51 hk51 a0 t0 x4 x3 S _ _ _ hw (lv_sub hl [1, 0, 3] rfl) h
  · have h := (if_neg hc).symm.trans h
    refine lv_iload C0.hx C0.hb dX9_tells_188 (lv_at hl 4 rfl) ?_
    refine lv_goto (tgt := 194) C0.hx C0.hb dX9_tells_190 (by decide) ?_
    exact w_X9_tells_b194 C0 hr hlocks k51 hk51 a0 t0 x4 x5 S _ _ _ hw (lv_sub hl [1, 0, 3] rfl) h
set_option maxHeartbeats 4000000 in
set_option maxRecDepth 100000 in
theorem w_X9_tells_b90 {p : Program} {l : Launch} {e : Env} {s : State} {m : MethodId} {args : Array Value} {below : List Frame} {meth : Method} {c : Code} {b0 : Nat} {D : va_G} {cy : Nat → ClassId} {q : (Int32 × Mem)} (C0 : Cx p m c cX9_tells 8 s args RX9 D cy) (hr : meth.sig.returnType = some .int) (hlocks : meth.locks = false) (k51 : Nat → Int32 → Int32 → Int32 → Mem → Option (Int32 × Mem)) (hk51 : ∀ (a0 : Nat) (x2 : Int32) (x3 : Int32) (x4 : Int32) (S : Mem) (H : Heap) (locs : List Loc) (ls : Array Slot), Wd b0 D cy S s.heap H locs → lv_has ls 8 [(0, .ref (b0 + a0)), (2, .int x2), (3, .int x3), (4, .int x4)] → k51 a0 x2 x3 x4 S = some q → W p l e rm_X9_tells s m args below meth c H locs 0 0 (MQ below (Qp b0 D cy (some (.int q.1)) q.2) args s 0 0 (fun q => b0 ≤ q)) (F0 m 51 ls [])) : ∀ (n : Nat) (a0 : Nat) (x2 : Int32) (x3 : Int32) (x4 : Int32) (x5 : Int32) (x6 : Int32) (S : Mem) (H : Heap) (locs : List Loc) (ls : Array Slot), Wd b0 D cy S s.heap H locs → lv_has ls 8 [(0, .ref (b0 + a0)), (2, .int x2), (3, .int x3), (4, .int x4), (5, .int x5), (6, .int x6)] → f_X9_tells_b90 k51 n a0 x2 x3 x4 x5 x6 S = some q → W p l e rm_X9_tells s m args below meth c H locs 0 0 (MQ below (Qp b0 D cy (some (.int q.1)) q.2) args s 0 0 (fun q => b0 ≤ q)) (F0 m 90 ls []) := by
  intro n
  induction n with
  | zero => intro a0 x2 x3 x4 x5 x6 S H locs ls hw hl h; exact absurd h (by simp [f_X9_tells_b90])
  | succ n ih =>
    intro a0 x2 x3 x4 x5 x6 S H locs ls hw hl h
    rw [f_X9_tells_b90] at h
    refine lv_iload C0.hx C0.hb dX9_tells_90 (lv_at hl 5 rfl) ?_
    refine lv_bipush (v := (64 : Int32)) C0.hx C0.hb dX9_tells_92 (by decide) ?_
    refine lv_icmp_ge (tgt := 169) C0.hx C0.hb dX9_tells_94 (by decide) (fun hc => ?_) (fun hc => ?_)
    · have h := (if_pos hc).symm.trans h
      refine lv_iload C0.hx C0.hb dX9_tells_169 (lv_at hl 4 rfl) ?_
      refine lv_iload_n C0.hx C0.hb dX9_tells_171 rfl (lv_at hl 2 rfl) ?_
      refine lv_icmp_ge (tgt := 180) C0.hx C0.hb dX9_tells_172 (by decide) (fun hc => ?_) (fun hc => ?_)
      · have h := (if_pos hc).symm.trans h
        refine lv_iload_n C0.hx C0.hb dX9_tells_180 rfl (lv_at hl 1 rfl) ?_
        exact w_X9_tells_b181 C0 hr hlocks k51 hk51 a0 x3 x4 x5 x2 S _ _ _ hw (lv_sub hl [0, 2, 3, 4] rfl) h
      · have h := (if_neg hc).symm.trans h
        refine lv_iload C0.hx C0.hb dX9_tells_175 (lv_at hl 3 rfl) ?_
        refine lv_goto (tgt := 181) C0.hx C0.hb dX9_tells_177 (by decide) ?_
        exact w_X9_tells_b181 C0 hr hlocks k51 hk51 a0 x3 x4 x5 x4 S _ _ _ hw (lv_sub hl [0, 2, 3, 4] rfl) h
    · have h := (if_neg hc).symm.trans h
      refine lv_aload_n C0.hx C0.hb dX9_tells_97 rfl (lv_at hl 0 rfl) ?_
      obtain ⟨r3, hr3, h⟩ := Option.bind_eq_some_iff.mp h
      refine q_getR C0 hw hr3 rfl in_9 (by decide) kw_881 dX9_tells_98 ?_
      refine lv_iload C0.hx C0.hb dX9_tells_101 (lv_at hl 5 rfl) ?_
      obtain ⟨v4, hv4, h⟩ := Option.bind_eq_some_iff.mp h
      refine q_ldZ C0 hw hv4 dX9_tells_103 ?_
      refine lv_if_eq (tgt := 163) C0.hx C0.hb dX9_tells_104 (by decide) (fun hc => ?_) (fun hc => ?_)
      · have h := (if_pos hc).symm.trans h
        exact w_X9_tells_b163 C0 hr hlocks k51 hk51 (fun a0 x2 x3 x4 x5 x6 S => f_X9_tells_b90 k51 n a0 x2 x3 x4 x5 x6 S) ih a0 x2 x3 x4 x5 x6 S _ _ _ hw (lv_sub hl [0, 1, 2, 3, 4, 5] rfl) h
      · have h := (if_neg hc).symm.trans h
        refine lv_aload_n C0.hx C0.hb dX9_tells_107 rfl (lv_at hl 0 rfl) ?_
        refine lv_iload C0.hx C0.hb dX9_tells_108 (lv_at hl 5 rfl) ?_
        refine lv_aload_n C0.hx C0.hb dX9_tells_110 rfl (lv_at hl 0 rfl) ?_
        obtain ⟨r6, hr6, h⟩ := Option.bind_eq_some_iff.mp h
        refine q_getR C0 hw hr6 rfl in_9 (by decide) kw_869 dX9_tells_111 ?_
        refine lv_iconst (v := (4 : Int32)) C0.hx C0.hb dX9_tells_114 (by decide) ?_
        obtain ⟨u7, hu7, h⟩ := Option.bind_eq_some_iff.mp h
        refine q_ldJ C0 hw hu7 dX9_tells_115 ?_
        refine lv_lconst (v := (1 : Int64)) C0.hx C0.hb dX9_tells_116 (by decide) ?_
        refine lv_iload C0.hx C0.hb dX9_tells_117 (lv_at hl 3 rfl) ?_
        refine lv_lshl C0.hx C0.hb dX9_tells_119 rfl ?_
        refine lv_lxor C0.hx C0.hb dX9_tells_120 ?_
        obtain ⟨c8, hc8, h⟩ := Option.bind_eq_some_iff.mp h
        obtain ⟨v9, hv9, h⟩ := Option.bind_eq_some_iff.mp h
        refine q_callV (n := 2) (av := [.int x6, .long (u7 ^^^ ((1 : Int64) <<< (x4.toInt64 &&& 63)))]) (rest := []) (st1 := [.int v9]) C0 hw (m_X9_goesNext l b0 D cy S a0 x6 (u7 ^^^ ((1 : Int64) <<< (x4.toInt64 &&& 63))) hv9) hc8 rfl (by decide) (goodV kw_1096 kw_1098 kw_47 kw_72 kw_1099) ⟨rfl, rfl⟩ (by decide +kernel) ⟨(Nat.le_of_ble_eq_true rfl), (Nat.le_of_ble_eq_true rfl)⟩ rfl hl.1 rfl (Nat.le_of_ble_eq_true rfl) dX9_tells_121 ⟨Nat.zero_le _, Nat.zero_le _⟩ rfl (fun H locs hw => ?_)
        refine lv_istore (lv' := [(7, .int v9), (0, .ref (b0 + a0)), (2, .int x2), (3, .int x3), (4, .int x4), (5, .int x5), (6, .int x6)]) C0.hx C0.hb dX9_tells_124 hl (by decide) rfl (fun ls hl => ?_)
        refine lv_aload_n C0.hx C0.hb dX9_tells_126 rfl (lv_at hl 1 rfl) ?_
        obtain ⟨r10, hr10, h⟩ := Option.bind_eq_some_iff.mp h
        refine q_getR C0 hw hr10 rfl in_9 (by decide) kw_882 dX9_tells_127 ?_
        refine lv_iload C0.hx C0.hb dX9_tells_130 (lv_at hl 0 rfl) ?_
        refine lv_dup2_11 C0.hx C0.hb dX9_tells_132 rfl rfl ?_
        obtain ⟨v11, hv11, h⟩ := Option.bind_eq_some_iff.mp h
        refine q_ldI C0 hw hv11 dX9_tells_133 ?_
        refine lv_iconst (v := (1 : Int32)) C0.hx C0.hb dX9_tells_134 (by decide) ?_
        refine lv_iadd C0.hx C0.hb dX9_tells_135 ?_
        obtain ⟨S12, hS12, h⟩ := Option.bind_eq_some_iff.mp h
        refine q_stI C0 hw hS12 dX9_tells_136 (fun H locs hw => ?_)
        refine lv_aload_n C0.hx C0.hb dX9_tells_137 rfl (lv_at hl 1 rfl) ?_
        obtain ⟨r13, hr13, h⟩ := Option.bind_eq_some_iff.mp h
        refine q_getR C0 hw hr13 rfl in_9 (by decide) kw_882 dX9_tells_138 ?_
        refine lv_iload C0.hx C0.hb dX9_tells_141 (lv_at hl 0 rfl) ?_
        obtain ⟨v14, hv14, h⟩ := Option.bind_eq_some_iff.mp h
        refine q_ldI C0 hw hv14 dX9_tells_143 ?_
        refine lv_iload C0.hx C0.hb dX9_tells_144 (lv_at hl 5 rfl) ?_
        refine lv_icmp_le (tgt := 159) C0.hx C0.hb dX9_tells_146 (by decide) (fun hc => ?_) (fun hc => ?_)
        · have h := (if_pos hc).symm.trans h
          refine lv_iload C0.hx C0.hb dX9_tells_159 (lv_at hl 5 rfl) ?_
          exact w_X9_tells_b161 C0 hr hlocks k51 hk51 (fun a0 x2 x3 x4 x5 x6 S => f_X9_tells_b90 k51 n a0 x2 x3 x4 x5 x6 S) ih a0 x2 x3 x4 x6 x5 S12 _ _ _ hw (lv_sub hl [1, 2, 3, 4, 6] rfl) h
        · have h := (if_neg hc).symm.trans h
          refine lv_aload_n C0.hx C0.hb dX9_tells_149 rfl (lv_at hl 1 rfl) ?_
          obtain ⟨r15, hr15, h⟩ := Option.bind_eq_some_iff.mp h
          refine q_getR C0 hw hr15 rfl in_9 (by decide) kw_882 dX9_tells_150 ?_
          refine lv_iload C0.hx C0.hb dX9_tells_153 (lv_at hl 0 rfl) ?_
          obtain ⟨v16, hv16, h⟩ := Option.bind_eq_some_iff.mp h
          refine q_ldI C0 hw hv16 dX9_tells_155 ?_
          refine lv_goto (tgt := 161) C0.hx C0.hb dX9_tells_156 (by decide) ?_
          exact w_X9_tells_b161 C0 hr hlocks k51 hk51 (fun a0 x2 x3 x4 x5 x6 S => f_X9_tells_b90 k51 n a0 x2 x3 x4 x5 x6 S) ih a0 x2 x3 x4 x6 v16 S12 _ _ _ hw (lv_sub hl [1, 2, 3, 4, 6] rfl) h
set_option maxHeartbeats 4000000 in
set_option maxRecDepth 100000 in
theorem w_X9_tells_b63 {p : Program} {l : Launch} {e : Env} {s : State} {m : MethodId} {args : Array Value} {below : List Frame} {meth : Method} {c : Code} {b0 : Nat} {D : va_G} {cy : Nat → ClassId} {q : (Int32 × Mem)} (C0 : Cx p m c cX9_tells 8 s args RX9 D cy) (hr : meth.sig.returnType = some .int) (hlocks : meth.locks = false) (k51 : Nat → Int32 → Int32 → Int32 → Mem → Option (Int32 × Mem)) (hk51 : ∀ (a0 : Nat) (x2 : Int32) (x3 : Int32) (x4 : Int32) (S : Mem) (H : Heap) (locs : List Loc) (ls : Array Slot), Wd b0 D cy S s.heap H locs → lv_has ls 8 [(0, .ref (b0 + a0)), (2, .int x2), (3, .int x3), (4, .int x4)] → k51 a0 x2 x3 x4 S = some q → W p l e rm_X9_tells s m args below meth c H locs 0 0 (MQ below (Qp b0 D cy (some (.int q.1)) q.2) args s 0 0 (fun q => b0 ≤ q)) (F0 m 51 ls [])) : ∀ (n : Nat) (a0 : Nat) (x2 : Int32) (x3 : Int32) (x4 : Int32) (x5 : Int32) (S : Mem) (H : Heap) (locs : List Loc) (ls : Array Slot), Wd b0 D cy S s.heap H locs → lv_has ls 8 [(0, .ref (b0 + a0)), (2, .int x2), (3, .int x3), (4, .int x4), (5, .int x5)] → f_X9_tells_b63 k51 n a0 x2 x3 x4 x5 S = some q → W p l e rm_X9_tells s m args below meth c H locs 0 0 (MQ below (Qp b0 D cy (some (.int q.1)) q.2) args s 0 0 (fun q => b0 ≤ q)) (F0 m 63 ls []) := by
  intro n
  induction n with
  | zero => intro a0 x2 x3 x4 x5 S H locs ls hw hl h; exact absurd h (by simp [f_X9_tells_b63])
  | succ n ih =>
    intro a0 x2 x3 x4 x5 S H locs ls hw hl h
    rw [f_X9_tells_b63] at h
    refine lv_iload C0.hx C0.hb dX9_tells_63 (lv_at hl 4 rfl) ?_
    refine lv_bipush (v := (8 : Int32)) C0.hx C0.hb dX9_tells_65 (by decide) ?_
    refine lv_icmp_ge (tgt := 84) C0.hx C0.hb dX9_tells_67 (by decide) (fun hc => ?_) (fun hc => ?_)
    · have h := (if_pos hc).symm.trans h
      refine lv_iconst (v := (0 : Int32)) C0.hx C0.hb dX9_tells_84 (by decide) ?_
      refine lv_istore (lv' := [(5, .int (0 : Int32)), (0, .ref (b0 + a0)), (2, .int x2), (3, .int x3), (4, .int x4)]) C0.hx C0.hb dX9_tells_85 hl (by decide) rfl (fun ls hl => ?_)
      refine lv_iconst (v := (0 : Int32)) C0.hx C0.hb dX9_tells_87 (by decide) ?_
      refine lv_istore (lv' := [(6, .int (0 : Int32)), (5, .int (0 : Int32)), (0, .ref (b0 + a0)), (2, .int x2), (3, .int x3), (4, .int x4)]) C0.hx C0.hb dX9_tells_88 hl (by decide) rfl (fun ls hl => ?_)
      exact w_X9_tells_b90 C0 hr hlocks k51 hk51 FU a0 x2 x3 x4 (0 : Int32) (0 : Int32) S _ _ _ hw (lv_sub hl [2, 3, 4, 5, 1, 0] rfl) h
    · have h := (if_neg hc).symm.trans h
      refine lv_aload_n C0.hx C0.hb dX9_tells_70 rfl (lv_at hl 0 rfl) ?_
      obtain ⟨r17, hr17, h⟩ := Option.bind_eq_some_iff.mp h
      refine q_getR C0 hw hr17 rfl in_9 (by decide) kw_882 dX9_tells_71 ?_
      refine lv_iload C0.hx C0.hb dX9_tells_74 (lv_at hl 4 rfl) ?_
      refine lv_iconst (v := (0 : Int32)) C0.hx C0.hb dX9_tells_76 (by decide) ?_
      obtain ⟨S18, hS18, h⟩ := Option.bind_eq_some_iff.mp h
      refine q_stI C0 hw hS18 dX9_tells_77 (fun H locs hw => ?_)
      obtain ⟨v19, hv19, h⟩ := Option.bind_eq_some_iff.mp h
      refine lv_iinc (v := v19) (lv' := [(5, .int v19), (0, .ref (b0 + a0)), (2, .int x2), (3, .int x3), (4, .int x4)]) C0.hx C0.hb dX9_tells_78 hl (k := 4) rfl (by rw [← Option.some.inj hv19]; rfl) (by decide) rfl (fun ls hl => ?_)
      refine lv_goto (tgt := 63) C0.hx C0.hb dX9_tells_81 (by decide) ?_
      exact ih a0 x2 x3 x4 v19 S18 _ _ _ hw (lv_sub hl [1, 2, 3, 4, 0] rfl) h
set_option maxHeartbeats 4000000 in
set_option maxRecDepth 100000 in
theorem w_X9_tells_b51 {p : Program} {l : Launch} {e : Env} {s : State} {m : MethodId} {args : Array Value} {below : List Frame} {meth : Method} {c : Code} {b0 : Nat} {D : va_G} {cy : Nat → ClassId} {q : (Int32 × Mem)} (C0 : Cx p m c cX9_tells 8 s args RX9 D cy) (hr : meth.sig.returnType = some .int) (hlocks : meth.locks = false) : ∀ (n : Nat) (a0 : Nat) (x2 : Int32) (x3 : Int32) (x4 : Int32) (S : Mem) (H : Heap) (locs : List Loc) (ls : Array Slot), Wd b0 D cy S s.heap H locs → lv_has ls 8 [(0, .ref (b0 + a0)), (2, .int x2), (3, .int x3), (4, .int x4)] → f_X9_tells_b51  n a0 x2 x3 x4 S = some q → W p l e rm_X9_tells s m args below meth c H locs 0 0 (MQ below (Qp b0 D cy (some (.int q.1)) q.2) args s 0 0 (fun q => b0 ≤ q)) (F0 m 51 ls []) := by
  intro n
  induction n with
  | zero => intro a0 x2 x3 x4 S H locs ls hw hl h; exact absurd h (by simp [f_X9_tells_b51])
  | succ n ih =>
    intro a0 x2 x3 x4 S H locs ls hw hl h
    rw [f_X9_tells_b51] at h
    refine lv_iload C0.hx C0.hb dX9_tells_51 (lv_at hl 3 rfl) ?_
    refine lv_aload_n C0.hx C0.hb dX9_tells_53 rfl (lv_at hl 0 rfl) ?_
    obtain ⟨v1, hv1, h⟩ := Option.bind_eq_some_iff.mp h
    refine q_getI C0 hw hv1 rfl in_9 (by decide) kw_863 dX9_tells_54 ?_
    refine lv_icmp_ge (tgt := 201) C0.hx C0.hb dX9_tells_57 (by decide) (fun hc => ?_) (fun hc => ?_)
    · have h := (if_pos hc).symm.trans h
      refine lv_iload_n C0.hx C0.hb dX9_tells_201 rfl (lv_at hl 1 rfl) ?_
      obtain rfl := Option.some.inj h
      exact q_reti C0 hw hr hlocks dX9_tells_202
    · have h := (if_neg hc).symm.trans h
      refine lv_iconst (v := (0 : Int32)) C0.hx C0.hb dX9_tells_60 (by decide) ?_
      refine lv_istore (lv' := [(5, .int (0 : Int32)), (0, .ref (b0 + a0)), (2, .int x2), (3, .int x3), (4, .int x4)]) C0.hx C0.hb dX9_tells_61 hl (by decide) rfl (fun ls hl => ?_)
      exact w_X9_tells_b63 C0 hr hlocks (fun a0 x2 x3 x4 S => f_X9_tells_b51  n a0 x2 x3 x4 S) ih FU a0 x2 x3 x4 (0 : Int32) S _ _ _ hw (lv_sub hl [1, 2, 3, 4, 0] rfl) h
set_option maxHeartbeats 4000000 in
set_option maxRecDepth 100000 in
theorem w_X9_tells_b4 {p : Program} {l : Launch} {e : Env} {s : State} {m : MethodId} {args : Array Value} {below : List Frame} {meth : Method} {c : Code} {b0 : Nat} {D : va_G} {cy : Nat → ClassId} {q : (Int32 × Mem)} (C0 : Cx p m c cX9_tells 8 s args RX9 D cy) (hr : meth.sig.returnType = some .int) (hlocks : meth.locks = false) : ∀ (n : Nat) (a0 : Nat) (x1 : Int32) (x2 : Int32) (S : Mem) (H : Heap) (locs : List Loc) (ls : Array Slot), Wd b0 D cy S s.heap H locs → lv_has ls 8 [(0, .ref (b0 + a0)), (1, .int x1), (2, .int x2)] → f_X9_tells_b4  n a0 x1 x2 S = some q → W p l e rm_X9_tells s m args below meth c H locs 0 0 (MQ below (Qp b0 D cy (some (.int q.1)) q.2) args s 0 0 (fun q => b0 ≤ q)) (F0 m 4 ls []) := by
  intro n
  induction n with
  | zero => intro a0 x1 x2 S H locs ls hw hl h; exact absurd h (by simp [f_X9_tells_b4])
  | succ n ih =>
    intro a0 x1 x2 S H locs ls hw hl h
    rw [f_X9_tells_b4] at h
    refine lv_iload_n C0.hx C0.hb dX9_tells_4 rfl (lv_at hl 2 rfl) ?_
    refine lv_bipush (v := (64 : Int32)) C0.hx C0.hb dX9_tells_5 (by decide) ?_
    refine lv_icmp_ge (tgt := 44) C0.hx C0.hb dX9_tells_7 (by decide) (fun hc => ?_) (fun hc => ?_)
    · have h := (if_pos hc).symm.trans h
      refine lv_iconst (v := (-1 : Int32)) C0.hx C0.hb dX9_tells_44 (by decide) ?_
      refine lv_istore_n (lv' := [(2, .int (-1 : Int32)), (0, .ref (b0 + a0)), (1, .int x1)]) C0.hx C0.hb dX9_tells_45 rfl hl (by decide) rfl (fun ls hl => ?_)
      refine lv_iload_n C0.hx C0.hb dX9_tells_46 rfl (lv_at hl 2 rfl) ?_
      refine lv_istore_n (lv' := [(3, .int x1), (2, .int (-1 : Int32)), (0, .ref (b0 + a0)), (1, .int x1)]) C0.hx C0.hb dX9_tells_47 rfl hl (by decide) rfl (fun ls hl => ?_)
      refine lv_iconst (v := (0 : Int32)) C0.hx C0.hb dX9_tells_48 (by decide) ?_
      refine lv_istore (lv' := [(4, .int (0 : Int32)), (3, .int x1), (2, .int (-1 : Int32)), (0, .ref (b0 + a0)), (1, .int x1)]) C0.hx C0.hb dX9_tells_49 hl (by decide) rfl (fun ls hl => ?_)
      exact w_X9_tells_b51 C0 hr hlocks FU a0 (-1 : Int32) x1 (0 : Int32) S _ _ _ hw (lv_sub hl [3, 2, 1, 0] rfl) h
    · have h := (if_neg hc).symm.trans h
      refine lv_aload_n C0.hx C0.hb dX9_tells_10 rfl (lv_at hl 0 rfl) ?_
      obtain ⟨r20, hr20, h⟩ := Option.bind_eq_some_iff.mp h
      refine q_getR C0 hw hr20 rfl in_9 (by decide) kw_881 dX9_tells_11 ?_
      refine lv_iload_n C0.hx C0.hb dX9_tells_14 rfl (lv_at hl 2 rfl) ?_
      refine lv_aload_n C0.hx C0.hb dX9_tells_15 rfl (lv_at hl 0 rfl) ?_
      refine lv_iload_n C0.hx C0.hb dX9_tells_16 rfl (lv_at hl 2 rfl) ?_
      obtain ⟨c21, hc21, h⟩ := Option.bind_eq_some_iff.mp h
      obtain ⟨v22, hv22, h⟩ := Option.bind_eq_some_iff.mp h
      refine q_callV (n := 1) (av := [.int x2]) (rest := [.int x2, .ref (b0 + r20)]) (st1 := [.int v22, .int x2, .ref (b0 + r20)]) C0 hw (m_X9_isFit l b0 D cy S a0 x2 hv22) hc21 rfl (by decide) (goodV kw_1246 kw_1248 kw_60 kw_72 kw_1249) ⟨rfl, rfl⟩ (by decide +kernel) ⟨(Nat.le_of_ble_eq_true rfl), (Nat.le_of_ble_eq_true rfl)⟩ rfl hl.1 rfl (Nat.le_of_ble_eq_true rfl) dX9_tells_17 ⟨Nat.zero_le _, Nat.zero_le _⟩ rfl (fun H locs hw => ?_)
      obtain ⟨S23, hS23, h⟩ := Option.bind_eq_some_iff.mp h
      refine q_stZ C0 hw hS23 dX9_tells_20 (fun H locs hw => ?_)
      refine lv_iload_n C0.hx C0.hb dX9_tells_21 rfl (lv_at hl 1 rfl) ?_
      refine lv_aload_n C0.hx C0.hb dX9_tells_22 rfl (lv_at hl 0 rfl) ?_
      obtain ⟨r24, hr24, h⟩ := Option.bind_eq_some_iff.mp h
      refine q_getR C0 hw hr24 rfl in_9 (by decide) kw_881 dX9_tells_23 ?_
      refine lv_iload_n C0.hx C0.hb dX9_tells_26 rfl (lv_at hl 2 rfl) ?_
      obtain ⟨v25, hv25, h⟩ := Option.bind_eq_some_iff.mp h
      refine q_ldZ C0 hw hv25 dX9_tells_27 ?_
      refine lv_if_eq (tgt := 35) C0.hx C0.hb dX9_tells_28 (by decide) (fun hc => ?_) (fun hc => ?_)
      · have h := (if_pos hc).symm.trans h
        refine lv_iconst (v := (0 : Int32)) C0.hx C0.hb dX9_tells_35 (by decide) ?_
        exact w_X9_tells_b36 C0 hr hlocks (fun a0 x1 x2 S => f_X9_tells_b4  n a0 x1 x2 S) ih a0 x2 (0 : Int32) x1 S23 _ _ _ hw (lv_sub hl [0, 2] rfl) h
      · have h := (if_neg hc).symm.trans h
        refine lv_iconst (v := (1 : Int32)) C0.hx C0.hb dX9_tells_31 (by decide) ?_
        refine lv_goto (tgt := 36) C0.hx C0.hb dX9_tells_32 (by decide) ?_
        exact w_X9_tells_b36 C0 hr hlocks (fun a0 x1 x2 S => f_X9_tells_b4  n a0 x1 x2 S) ih a0 x2 (1 : Int32) x1 S23 _ _ _ hw (lv_sub hl [0, 2] rfl) h
set_option maxHeartbeats 4000000 in
set_option maxRecDepth 100000 in
theorem m_X9_tells (l : Launch) (b0 : Nat) (D : va_G) (cy : Nat → ClassId) (S : Mem) (a0 : Nat) {q : (Int32 × Mem)} (h : f_X9_tells a0 S = some q) : Met l yX9_tells [.code yX9_tells cX9_tells 8 (some .int)] rm_X9_tells (Pr b0 D cy S [.ref (b0 + a0)]) (Qp b0 D cy (some (.int q.1)) q.2) 0 0 (fun q => b0 ≤ q) := by
  refine Met.ofW (cc := cX9_tells) (maxL := 8) (ret := some .int) (by decide) rfl ?_
  intro p e s m args below meth c s₁ B hml hv
  obtain ⟨rfl, hP, hK, hT⟩ := hv
  have C0 : Cx p m c cX9_tells 8 s (List.toArray [.ref (b0 + a0)]) RX9 D cy := ⟨⟨B.exec, B.bytes, hml, findClass_of_methodNamed B.named, fun w h => hT w h _⟩, hK, hT⟩
  have hr : meth.sig.returnType = some .int := B.returns
  have hlocks := B.notSynchronized
  have hw : Wd b0 D cy S s.heap s.heap [] := ⟨hP, va_S.rf⟩
  have hl := lv_entry ([.ref (b0 + a0)]) (n := 8) (Nat.le_of_ble_eq_true rfl)
  rw [lg_entry_eq]
  generalize (lg_sl ([.ref (b0 + a0)]) ++ List.replicate (8 - (lg_sl ([.ref (b0 + a0)])).length) Slot.unset).toArray = ls at hl ⊢
  have hl : lv_has ls 8 [(0, .ref (b0 + a0))] := hl
  rw [f_X9_tells] at h
  show W p l e rm_X9_tells s m _ below meth c s.heap [] 0 0 _ _
  refine lv_iconst (v := (0 : Int32)) C0.hx C0.hb dX9_tells_0 (by decide) ?_
  refine lv_istore_n (lv' := [(1, .int (0 : Int32)), (0, .ref (b0 + a0))]) C0.hx C0.hb dX9_tells_1 rfl hl (by decide) rfl (fun ls hl => ?_)
  refine lv_iconst (v := (0 : Int32)) C0.hx C0.hb dX9_tells_2 (by decide) ?_
  refine lv_istore_n (lv' := [(2, .int (0 : Int32)), (1, .int (0 : Int32)), (0, .ref (b0 + a0))]) C0.hx C0.hb dX9_tells_3 rfl hl (by decide) rfl (fun ls hl => ?_)
  exact w_X9_tells_b4 C0 hr hlocks FU a0 (0 : Int32) (0 : Int32) S _ _ _ hw (lv_sub hl [2, 1, 0] rfl) h
abbrev rm_X9_goesSo : Room := { frames := 4, cells := 0, slots := 0, locals := 109 }
def f_X9_goesSo_b47 (k13 : Nat → Int32 → Int32 → Int32 → Mem → Option (Int32 × Mem)) (a0 : Nat) (x2 : Int32) (x4 : Int32) (t0 : Int32) (S : Mem) : Option (Int32 × Mem) :=
    (some (x4 + (1 : Int32))).bind fun v12 =>
      k13 a0 x2 t0 v12 S
def f_X9_goesSo_b54 (a0 : Nat) (x3 : Int32) (S : Mem) : Option (Int32 × Mem) :=
    (ck 9 S a0).bind fun c3 =>
      (f_X9_backs a0 S).bind fun S4 =>
      (zok x3).bind fun v5 =>
      some (v5, S4)
def f_X9_goesSo_b13 : Nat → Nat → Int32 → Int32 → Int32 → Mem → Option (Int32 × Mem)
  | 0, _, _, _, _, _ => none
  | n + 1, a0, x2, x3, x4, S =>
    (if x2 ≤ x4 then
      f_X9_goesSo_b54 a0 x3 S
      else
      (if x3 = (0 : Int32) then
      f_X9_goesSo_b54 a0 x3 S
      else
      (ck 9 S a0).bind fun c6 =>
      (f_X9_goesBy a0 S).bind fun S7 =>
      (ck 9 S7 a0).bind fun c8 =>
      (f_X9_at a0 (2 : Int32) S7).bind fun v9 =>
      (gR 9 21 S7 a0).bind fun r10 =>
      (ldI S7 r10 x4).bind fun v11 =>
      (if v9 = v11 then
      f_X9_goesSo_b47 (fun a0 x2 x3 x4 S => f_X9_goesSo_b13  n a0 x2 x3 x4 S) a0 x2 x4 (1 : Int32) S7
      else
      f_X9_goesSo_b47 (fun a0 x2 x3 x4 S => f_X9_goesSo_b13  n a0 x2 x3 x4 S) a0 x2 x4 (0 : Int32) S7)))
def f_X9_goesSo (a0 : Nat) (x1 : Int32) (x2 : Int32) (S : Mem) : Option (Int32 × Mem) :=
    (gR 9 7 S a0).bind fun r1 =>
      (stJ S r1 (0 : Int32) x1.toInt64).bind fun S2 =>
      f_X9_goesSo_b13 FU a0 x2 (1 : Int32) (0 : Int32) S2
set_option maxHeartbeats 4000000 in
set_option maxRecDepth 100000 in
theorem w_X9_goesSo_b47 {p : Program} {l : Launch} {e : Env} {s : State} {m : MethodId} {args : Array Value} {below : List Frame} {meth : Method} {c : Code} {b0 : Nat} {D : va_G} {cy : Nat → ClassId} {q : (Int32 × Mem)} (C0 : Cx p m c cX9_goesSo 5 s args RX9 D cy) (hr : meth.sig.returnType = some .boolean) (hlocks : meth.locks = false) (k13 : Nat → Int32 → Int32 → Int32 → Mem → Option (Int32 × Mem)) (hk13 : ∀ (a0 : Nat) (x2 : Int32) (x3 : Int32) (x4 : Int32) (S : Mem) (H : Heap) (locs : List Loc) (ls : Array Slot), Wd b0 D cy S s.heap H locs → lv_has ls 5 [(0, .ref (b0 + a0)), (2, .int x2), (3, .int x3), (4, .int x4)] → k13 a0 x2 x3 x4 S = some q → W p l e rm_X9_goesSo s m args below meth c H locs 0 0 (MQ below (Qp b0 D cy (some (.int q.1)) q.2) args s 0 0 (fun q => b0 ≤ q)) (F0 m 13 ls [])) : ∀ (a0 : Nat) (x2 : Int32) (x4 : Int32) (t0 : Int32) (S : Mem) (H : Heap) (locs : List Loc) (ls : Array Slot), Wd b0 D cy S s.heap H locs → lv_has ls 5 [(0, .ref (b0 + a0)), (2, .int x2), (4, .int x4)] → f_X9_goesSo_b47 k13 a0 x2 x4 t0 S = some q → W p l e rm_X9_goesSo s m args below meth c H locs 0 0 (MQ below (Qp b0 D cy (some (.int q.1)) q.2) args s 0 0 (fun q => b0 ≤ q)) (F0 m 47 ls [.int t0]) := by
  intro a0 x2 x4 t0 S H locs ls hw hl h
  rw [f_X9_goesSo_b47] at h
  refine lv_istore_n (lv' := [(3, .int t0), (0, .ref (b0 + a0)), (2, .int x2), (4, .int x4)]) C0.hx C0.hb dX9_goesSo_47 rfl hl (by decide) rfl (fun ls hl => ?_)
  obtain ⟨v12, hv12, h⟩ := Option.bind_eq_some_iff.mp h
  refine lv_iinc (v := v12) (lv' := [(4, .int v12), (3, .int t0), (0, .ref (b0 + a0)), (2, .int x2)]) C0.hx C0.hb dX9_goesSo_48 hl (k := 3) rfl (by rw [← Option.some.inj hv12]; rfl) (by decide) rfl (fun ls hl => ?_)
  refine lv_goto (tgt := 13) C0.hx C0.hb dX9_goesSo_51 (by decide) ?_
  exact hk13 a0 x2 t0 v12 S _ _ _ hw (lv_sub hl [2, 3, 1, 0] rfl) h
set_option maxHeartbeats 4000000 in
set_option maxRecDepth 100000 in
theorem w_X9_goesSo_b54 {p : Program} {l : Launch} {e : Env} {s : State} {m : MethodId} {args : Array Value} {below : List Frame} {meth : Method} {c : Code} {b0 : Nat} {D : va_G} {cy : Nat → ClassId} {q : (Int32 × Mem)} (C0 : Cx p m c cX9_goesSo 5 s args RX9 D cy) (hr : meth.sig.returnType = some .boolean) (hlocks : meth.locks = false) : ∀ (a0 : Nat) (x3 : Int32) (S : Mem) (H : Heap) (locs : List Loc) (ls : Array Slot), Wd b0 D cy S s.heap H locs → lv_has ls 5 [(0, .ref (b0 + a0)), (3, .int x3)] → f_X9_goesSo_b54  a0 x3 S = some q → W p l e rm_X9_goesSo s m args below meth c H locs 0 0 (MQ below (Qp b0 D cy (some (.int q.1)) q.2) args s 0 0 (fun q => b0 ≤ q)) (F0 m 54 ls []) := by
  intro a0 x3 S H locs ls hw hl h
  rw [f_X9_goesSo_b54] at h
  refine lv_aload_n C0.hx C0.hb dX9_goesSo_54 rfl (lv_at hl 0 rfl) ?_
  obtain ⟨c3, hc3, h⟩ := Option.bind_eq_some_iff.mp h
  obtain ⟨S4, hS4, h⟩ := Option.bind_eq_some_iff.mp h
  refine q_callV (n := 0) (av := []) (rest := []) (st1 := []) C0 hw (m_X9_backs l b0 D cy S a0 hS4) hc3 rfl (by decide) (goodV kw_1185 kw_1187 kw_56 kw_72 kw_1188) ⟨rfl, rfl⟩ (by decide +kernel) ⟨(Nat.le_of_ble_eq_true rfl), (Nat.le_of_ble_eq_true rfl)⟩ rfl hl.1 rfl (Nat.le_of_ble_eq_true rfl) dX9_goesSo_55 ⟨Nat.zero_le _, Nat.zero_le _⟩ rfl (fun H locs hw => ?_)
  refine lv_iload_n C0.hx C0.hb dX9_goesSo_58 rfl (lv_at hl 1 rfl) ?_
  obtain ⟨v5, hv5, h⟩ := Option.bind_eq_some_iff.mp h
  obtain ⟨he, hz⟩ := zok_inv hv5
  subst he
  obtain rfl := Option.some.inj h
  exact q_retz C0 hw hz hr hlocks dX9_goesSo_59
set_option maxHeartbeats 4000000 in
set_option maxRecDepth 100000 in
theorem w_X9_goesSo_b13 {p : Program} {l : Launch} {e : Env} {s : State} {m : MethodId} {args : Array Value} {below : List Frame} {meth : Method} {c : Code} {b0 : Nat} {D : va_G} {cy : Nat → ClassId} {q : (Int32 × Mem)} (C0 : Cx p m c cX9_goesSo 5 s args RX9 D cy) (hr : meth.sig.returnType = some .boolean) (hlocks : meth.locks = false) : ∀ (n : Nat) (a0 : Nat) (x2 : Int32) (x3 : Int32) (x4 : Int32) (S : Mem) (H : Heap) (locs : List Loc) (ls : Array Slot), Wd b0 D cy S s.heap H locs → lv_has ls 5 [(0, .ref (b0 + a0)), (2, .int x2), (3, .int x3), (4, .int x4)] → f_X9_goesSo_b13  n a0 x2 x3 x4 S = some q → W p l e rm_X9_goesSo s m args below meth c H locs 0 0 (MQ below (Qp b0 D cy (some (.int q.1)) q.2) args s 0 0 (fun q => b0 ≤ q)) (F0 m 13 ls []) := by
  intro n
  induction n with
  | zero => intro a0 x2 x3 x4 S H locs ls hw hl h; exact absurd h (by simp [f_X9_goesSo_b13])
  | succ n ih =>
    intro a0 x2 x3 x4 S H locs ls hw hl h
    rw [f_X9_goesSo_b13] at h
    refine lv_iload C0.hx C0.hb dX9_goesSo_13 (lv_at hl 3 rfl) ?_
    refine lv_iload_n C0.hx C0.hb dX9_goesSo_15 rfl (lv_at hl 1 rfl) ?_
    refine lv_icmp_ge (tgt := 54) C0.hx C0.hb dX9_goesSo_16 (by decide) (fun hc => ?_) (fun hc => ?_)
    · have h := (if_pos hc).symm.trans h
      exact w_X9_goesSo_b54 C0 hr hlocks a0 x3 S _ _ _ hw (lv_sub hl [0, 2] rfl) h
    · have h := (if_neg hc).symm.trans h
      refine lv_iload_n C0.hx C0.hb dX9_goesSo_19 rfl (lv_at hl 2 rfl) ?_
      refine lv_if_eq (tgt := 54) C0.hx C0.hb dX9_goesSo_20 (by decide) (fun hc => ?_) (fun hc => ?_)
      · have h := (if_pos hc).symm.trans h
        exact w_X9_goesSo_b54 C0 hr hlocks a0 x3 S _ _ _ hw (lv_sub hl [0, 2] rfl) h
      · have h := (if_neg hc).symm.trans h
        refine lv_aload_n C0.hx C0.hb dX9_goesSo_23 rfl (lv_at hl 0 rfl) ?_
        obtain ⟨c6, hc6, h⟩ := Option.bind_eq_some_iff.mp h
        obtain ⟨S7, hS7, h⟩ := Option.bind_eq_some_iff.mp h
        refine q_callV (n := 0) (av := []) (rest := []) (st1 := []) C0 hw (m_X9_goesBy l b0 D cy S a0 hS7) hc6 rfl (by decide) (goodV kw_1087 kw_1089 kw_45 kw_72 kw_1090) ⟨rfl, rfl⟩ (by decide +kernel) ⟨(Nat.le_of_ble_eq_true rfl), (Nat.le_of_ble_eq_true rfl)⟩ rfl hl.1 rfl (Nat.le_of_ble_eq_true rfl) dX9_goesSo_24 ⟨Nat.zero_le _, Nat.zero_le _⟩ rfl (fun H locs hw => ?_)
        refine lv_aload_n C0.hx C0.hb dX9_goesSo_27 rfl (lv_at hl 0 rfl) ?_
        refine lv_iconst (v := (2 : Int32)) C0.hx C0.hb dX9_goesSo_28 (by decide) ?_
        obtain ⟨c8, hc8, h⟩ := Option.bind_eq_some_iff.mp h
        obtain ⟨v9, hv9, h⟩ := Option.bind_eq_some_iff.mp h
        refine q_callV (n := 1) (av := [.int (2 : Int32)]) (rest := []) (st1 := [.int v9]) C0 hw (m_X9_at l b0 D cy S7 a0 (2 : Int32) hv9) hc8 rfl (by decide) (goodV kw_1013 kw_1015 kw_34 kw_72 kw_1016) ⟨rfl, rfl⟩ (by decide +kernel) ⟨(Nat.le_of_ble_eq_true rfl), (Nat.le_of_ble_eq_true rfl)⟩ rfl hl.1 rfl (Nat.le_of_ble_eq_true rfl) dX9_goesSo_29 ⟨Nat.zero_le _, Nat.zero_le _⟩ rfl (fun H locs hw => ?_)
        refine lv_aload_n C0.hx C0.hb dX9_goesSo_32 rfl (lv_at hl 0 rfl) ?_
        obtain ⟨r10, hr10, h⟩ := Option.bind_eq_some_iff.mp h
        refine q_getR C0 hw hr10 rfl in_9 (by decide) kw_883 dX9_goesSo_33 ?_
        refine lv_iload C0.hx C0.hb dX9_goesSo_36 (lv_at hl 3 rfl) ?_
        obtain ⟨v11, hv11, h⟩ := Option.bind_eq_some_iff.mp h
        refine q_ldI C0 hw hv11 dX9_goesSo_38 ?_
        refine lv_icmp_ne (tgt := 46) C0.hx C0.hb dX9_goesSo_39 (by decide) (fun hc => ?_) (fun hc => ?_)
        · have h := (if_neg hc).symm.trans h
          refine lv_iconst (v := (0 : Int32)) C0.hx C0.hb dX9_goesSo_46 (by decide) ?_
          exact w_X9_goesSo_b47 C0 hr hlocks (fun a0 x2 x3 x4 S => f_X9_goesSo_b13  n a0 x2 x3 x4 S) ih a0 x2 x4 (0 : Int32) S7 _ _ _ hw (lv_sub hl [0, 1, 3] rfl) h
        · have h := (if_pos hc).symm.trans h
          refine lv_iconst (v := (1 : Int32)) C0.hx C0.hb dX9_goesSo_42 (by decide) ?_
          refine lv_goto (tgt := 47) C0.hx C0.hb dX9_goesSo_43 (by decide) ?_
          exact w_X9_goesSo_b47 C0 hr hlocks (fun a0 x2 x3 x4 S => f_X9_goesSo_b13  n a0 x2 x3 x4 S) ih a0 x2 x4 (1 : Int32) S7 _ _ _ hw (lv_sub hl [0, 1, 3] rfl) h
set_option maxHeartbeats 4000000 in
set_option maxRecDepth 100000 in
theorem m_X9_goesSo (l : Launch) (b0 : Nat) (D : va_G) (cy : Nat → ClassId) (S : Mem) (a0 : Nat) (x1 : Int32) (x2 : Int32) {q : (Int32 × Mem)} (h : f_X9_goesSo a0 x1 x2 S = some q) : Met l yX9_goesSo [.code yX9_goesSo cX9_goesSo 5 (some .boolean)] rm_X9_goesSo (Pr b0 D cy S [.ref (b0 + a0), .int x1, .int x2]) (Qp b0 D cy (some (.int q.1)) q.2) 0 0 (fun q => b0 ≤ q) := by
  refine Met.ofW (cc := cX9_goesSo) (maxL := 5) (ret := some .boolean) (by decide) rfl ?_
  intro p e s m args below meth c s₁ B hml hv
  obtain ⟨rfl, hP, hK, hT⟩ := hv
  have C0 : Cx p m c cX9_goesSo 5 s (List.toArray [.ref (b0 + a0), .int x1, .int x2]) RX9 D cy := ⟨⟨B.exec, B.bytes, hml, findClass_of_methodNamed B.named, fun w h => hT w h _⟩, hK, hT⟩
  have hr : meth.sig.returnType = some .boolean := B.returns
  have hlocks := B.notSynchronized
  have hw : Wd b0 D cy S s.heap s.heap [] := ⟨hP, va_S.rf⟩
  have hl := lv_entry ([.ref (b0 + a0), .int x1, .int x2]) (n := 5) (Nat.le_of_ble_eq_true rfl)
  rw [lg_entry_eq]
  generalize (lg_sl ([.ref (b0 + a0), .int x1, .int x2]) ++ List.replicate (5 - (lg_sl ([.ref (b0 + a0), .int x1, .int x2])).length) Slot.unset).toArray = ls at hl ⊢
  have hl : lv_has ls 5 [(0, .ref (b0 + a0)), (1, .int x1), (2, .int x2)] := hl
  rw [f_X9_goesSo] at h
  show W p l e rm_X9_goesSo s m _ below meth c s.heap [] 0 0 _ _
  refine lv_aload_n C0.hx C0.hb dX9_goesSo_0 rfl (lv_at hl 0 rfl) ?_
  obtain ⟨r1, hr1, h⟩ := Option.bind_eq_some_iff.mp h
  refine q_getR C0 hw hr1 rfl in_9 (by decide) kw_869 dX9_goesSo_1 ?_
  refine lv_iconst (v := (0 : Int32)) C0.hx C0.hb dX9_goesSo_4 (by decide) ?_
  refine lv_iload_n C0.hx C0.hb dX9_goesSo_5 rfl (lv_at hl 1 rfl) ?_
  refine lv_i2l C0.hx C0.hb dX9_goesSo_6 rfl ?_
  obtain ⟨S2, hS2, h⟩ := Option.bind_eq_some_iff.mp h
  refine q_stJ C0 hw hS2 dX9_goesSo_7 (fun H locs hw => ?_)
  refine lv_iconst (v := (1 : Int32)) C0.hx C0.hb dX9_goesSo_8 (by decide) ?_
  refine lv_istore_n (lv' := [(3, .int (1 : Int32)), (0, .ref (b0 + a0)), (1, .int x1), (2, .int x2)]) C0.hx C0.hb dX9_goesSo_9 rfl hl (by decide) rfl (fun ls hl => ?_)
  refine lv_iconst (v := (0 : Int32)) C0.hx C0.hb dX9_goesSo_10 (by decide) ?_
  refine lv_istore (lv' := [(4, .int (0 : Int32)), (3, .int (1 : Int32)), (0, .ref (b0 + a0)), (1, .int x1), (2, .int x2)]) C0.hx C0.hb dX9_goesSo_11 hl (by decide) rfl (fun ls hl => ?_)
  exact w_X9_goesSo_b13 C0 hr hlocks FU a0 x2 (1 : Int32) (0 : Int32) S2 _ _ _ hw (lv_sub hl [2, 4, 1, 0] rfl) h
abbrev rm_X9_apart : Room := { frames := 0, cells := 0, slots := 0, locals := 0 }
def f_X9_apart (x0 : Int32) (x1 : Int32) : Option Int32 :=
    (if x1 ≤ x0 then
      some (x0 - x1)
      else
      some (x1 - x0))
set_option maxHeartbeats 4000000 in
set_option maxRecDepth 100000 in
theorem m_X9_apart (l : Launch) (b0 : Nat) (D : va_G) (cy : Nat → ClassId) (S : Mem) (x0 : Int32) (x1 : Int32) {q : Int32} (h : f_X9_apart x0 x1 = some q) : Met l yX9_apart [.code yX9_apart cX9_apart 2 (some .int)] rm_X9_apart (Pr b0 D cy S [.int x0, .int x1]) (Qp b0 D cy (some (.int q)) S) 0 0 (fun q => b0 ≤ q) := by
  refine Met.ofW (cc := cX9_apart) (maxL := 2) (ret := some .int) (by decide) rfl ?_
  intro p e s m args below meth c s₁ B hml hv
  obtain ⟨rfl, hP, hK, hT⟩ := hv
  have C0 : Cx p m c cX9_apart 2 s (List.toArray [.int x0, .int x1]) RX9 D cy := ⟨⟨B.exec, B.bytes, hml, findClass_of_methodNamed B.named, fun w h => hT w h _⟩, hK, hT⟩
  have hr : meth.sig.returnType = some .int := B.returns
  have hlocks := B.notSynchronized
  have hw : Wd b0 D cy S s.heap s.heap [] := ⟨hP, va_S.rf⟩
  have hl := lv_entry ([.int x0, .int x1]) (n := 2) (Nat.le_of_ble_eq_true rfl)
  rw [lg_entry_eq]
  generalize (lg_sl ([.int x0, .int x1]) ++ List.replicate (2 - (lg_sl ([.int x0, .int x1])).length) Slot.unset).toArray = ls at hl ⊢
  have hl : lv_has ls 2 [(0, .int x0), (1, .int x1)] := hl
  rw [f_X9_apart] at h
  show W p l e rm_X9_apart s m _ below meth c s.heap [] 0 0 _ _
  refine lv_iload_n C0.hx C0.hb dX9_apart_0 rfl (lv_at hl 0 rfl) ?_
  refine lv_iload_n C0.hx C0.hb dX9_apart_1 rfl (lv_at hl 1 rfl) ?_
  refine lv_icmp_ge (tgt := 11) C0.hx C0.hb dX9_apart_2 (by decide) (fun hc => ?_) (fun hc => ?_)
  · have h := (if_pos hc).symm.trans h
    refine lv_iload_n C0.hx C0.hb dX9_apart_11 rfl (lv_at hl 0 rfl) ?_
    refine lv_iload_n C0.hx C0.hb dX9_apart_12 rfl (lv_at hl 1 rfl) ?_
    refine lv_isub C0.hx C0.hb dX9_apart_13 ?_
    obtain rfl := Option.some.inj h
    exact q_reti C0 hw hr hlocks dX9_apart_14
  · have h := (if_neg hc).symm.trans h
    refine lv_iload_n C0.hx C0.hb dX9_apart_5 rfl (lv_at hl 1 rfl) ?_
    refine lv_iload_n C0.hx C0.hb dX9_apart_6 rfl (lv_at hl 0 rfl) ?_
    refine lv_isub C0.hx C0.hb dX9_apart_7 ?_
    refine lv_goto (tgt := 14) C0.hx C0.hb dX9_apart_8 (by decide) ?_
    obtain rfl := Option.some.inj h
    exact q_reti C0 hw hr hlocks dX9_apart_14
abbrev rm_X9_differ : Room := { frames := 1, cells := 0, slots := 0, locals := 21 }
def f_X9_differ (x0 : Int32) (x1 : Int32) : Option Int32 :=
    (f_X9_apart (x0 / (16 : Int32)) (x1 / (16 : Int32))).bind fun v1 =>
      (f_X9_apart (irI (x0 / (4 : Int32)) (4 : Int32)) (irI (x1 / (4 : Int32)) (4 : Int32))).bind fun v2 =>
      (f_X9_apart (irI x0 (4 : Int32)) (irI x1 (4 : Int32))).bind fun v3 =>
      some ((v1 + v2) + v3)
set_option maxHeartbeats 4000000 in
set_option maxRecDepth 100000 in
theorem m_X9_differ (l : Launch) (b0 : Nat) (D : va_G) (cy : Nat → ClassId) (S : Mem) (x0 : Int32) (x1 : Int32) {q : Int32} (h : f_X9_differ x0 x1 = some q) : Met l yX9_differ [.code yX9_differ cX9_differ 2 (some .int)] rm_X9_differ (Pr b0 D cy S [.int x0, .int x1]) (Qp b0 D cy (some (.int q)) S) 0 0 (fun q => b0 ≤ q) := by
  refine Met.ofW (cc := cX9_differ) (maxL := 2) (ret := some .int) (by decide) rfl ?_
  intro p e s m args below meth c s₁ B hml hv
  obtain ⟨rfl, hP, hK, hT⟩ := hv
  have C0 : Cx p m c cX9_differ 2 s (List.toArray [.int x0, .int x1]) RX9 D cy := ⟨⟨B.exec, B.bytes, hml, findClass_of_methodNamed B.named, fun w h => hT w h _⟩, hK, hT⟩
  have hr : meth.sig.returnType = some .int := B.returns
  have hlocks := B.notSynchronized
  have hw : Wd b0 D cy S s.heap s.heap [] := ⟨hP, va_S.rf⟩
  have hl := lv_entry ([.int x0, .int x1]) (n := 2) (Nat.le_of_ble_eq_true rfl)
  rw [lg_entry_eq]
  generalize (lg_sl ([.int x0, .int x1]) ++ List.replicate (2 - (lg_sl ([.int x0, .int x1])).length) Slot.unset).toArray = ls at hl ⊢
  have hl : lv_has ls 2 [(0, .int x0), (1, .int x1)] := hl
  rw [f_X9_differ] at h
  show W p l e rm_X9_differ s m _ below meth c s.heap [] 0 0 _ _
  refine lv_iload_n C0.hx C0.hb dX9_differ_0 rfl (lv_at hl 0 rfl) ?_
  refine lv_bipush (v := (16 : Int32)) C0.hx C0.hb dX9_differ_1 (by decide) ?_
  refine lv_idiv C0.hx C0.hb dX9_differ_3 (by decide) ?_
  refine lv_iload_n C0.hx C0.hb dX9_differ_4 rfl (lv_at hl 1 rfl) ?_
  refine lv_bipush (v := (16 : Int32)) C0.hx C0.hb dX9_differ_5 (by decide) ?_
  refine lv_idiv C0.hx C0.hb dX9_differ_7 (by decide) ?_
  obtain ⟨v1, hv1, h⟩ := Option.bind_eq_some_iff.mp h
  refine q_callS (n := 2) (av := [.int (x0 / (16 : Int32)), .int (x1 / (16 : Int32))]) (rest := []) (st1 := [.int v1]) C0 hw (m_X9_apart l b0 D cy S (x0 / (16 : Int32)) (x1 / (16 : Int32)) hv1) (goodS kw_1263 kw_1264 kw_72 kw_1265) ⟨rfl, rfl⟩ (by decide +kernel) ⟨(Nat.le_of_ble_eq_true rfl), (Nat.le_of_ble_eq_true rfl)⟩ rfl hl.1 rfl (Nat.le_of_ble_eq_true rfl) dX9_differ_8 ⟨Nat.zero_le _, Nat.zero_le _⟩ rfl (fun H locs hw => ?_)
  refine lv_iload_n C0.hx C0.hb dX9_differ_11 rfl (lv_at hl 0 rfl) ?_
  refine lv_iconst (v := (4 : Int32)) C0.hx C0.hb dX9_differ_12 (by decide) ?_
  refine lv_idiv C0.hx C0.hb dX9_differ_13 (by decide) ?_
  refine lv_iconst (v := (4 : Int32)) C0.hx C0.hb dX9_differ_14 (by decide) ?_
  refine lv_irem C0.hx C0.hb dX9_differ_15 (by decide) ?_
  refine lv_iload_n C0.hx C0.hb dX9_differ_16 rfl (lv_at hl 1 rfl) ?_
  refine lv_iconst (v := (4 : Int32)) C0.hx C0.hb dX9_differ_17 (by decide) ?_
  refine lv_idiv C0.hx C0.hb dX9_differ_18 (by decide) ?_
  refine lv_iconst (v := (4 : Int32)) C0.hx C0.hb dX9_differ_19 (by decide) ?_
  refine lv_irem C0.hx C0.hb dX9_differ_20 (by decide) ?_
  obtain ⟨v2, hv2, h⟩ := Option.bind_eq_some_iff.mp h
  refine q_callS (n := 2) (av := [.int (irI (x0 / (4 : Int32)) (4 : Int32)), .int (irI (x1 / (4 : Int32)) (4 : Int32))]) (rest := [.int v1]) (st1 := [.int v2, .int v1]) C0 hw (m_X9_apart l b0 D cy S (irI (x0 / (4 : Int32)) (4 : Int32)) (irI (x1 / (4 : Int32)) (4 : Int32)) hv2) (goodS kw_1263 kw_1264 kw_72 kw_1265) ⟨rfl, rfl⟩ (by decide +kernel) ⟨(Nat.le_of_ble_eq_true rfl), (Nat.le_of_ble_eq_true rfl)⟩ rfl hl.1 rfl (Nat.le_of_ble_eq_true rfl) dX9_differ_21 ⟨Nat.zero_le _, Nat.zero_le _⟩ rfl (fun H locs hw => ?_)
  refine lv_iadd C0.hx C0.hb dX9_differ_24 ?_
  refine lv_iload_n C0.hx C0.hb dX9_differ_25 rfl (lv_at hl 0 rfl) ?_
  refine lv_iconst (v := (4 : Int32)) C0.hx C0.hb dX9_differ_26 (by decide) ?_
  refine lv_irem C0.hx C0.hb dX9_differ_27 (by decide) ?_
  refine lv_iload_n C0.hx C0.hb dX9_differ_28 rfl (lv_at hl 1 rfl) ?_
  refine lv_iconst (v := (4 : Int32)) C0.hx C0.hb dX9_differ_29 (by decide) ?_
  refine lv_irem C0.hx C0.hb dX9_differ_30 (by decide) ?_
  obtain ⟨v3, hv3, h⟩ := Option.bind_eq_some_iff.mp h
  refine q_callS (n := 2) (av := [.int (irI x0 (4 : Int32)), .int (irI x1 (4 : Int32))]) (rest := [.int (v1 + v2)]) (st1 := [.int v3, .int (v1 + v2)]) C0 hw (m_X9_apart l b0 D cy S (irI x0 (4 : Int32)) (irI x1 (4 : Int32)) hv3) (goodS kw_1263 kw_1264 kw_72 kw_1265) ⟨rfl, rfl⟩ (by decide +kernel) ⟨(Nat.le_of_ble_eq_true rfl), (Nat.le_of_ble_eq_true rfl)⟩ rfl hl.1 rfl (Nat.le_of_ble_eq_true rfl) dX9_differ_31 ⟨Nat.zero_le _, Nat.zero_le _⟩ rfl (fun H locs hw => ?_)
  refine lv_iadd C0.hx C0.hb dX9_differ_34 ?_
  obtain rfl := Option.some.inj h
  exact q_reti C0 hw hr hlocks dX9_differ_35
abbrev rm_X9_teachFor : Room := { frames := 5, cells := 0, slots := 0, locals := 133 }
def f_X9_teachFor_b177 (k112 : Nat → Int32 → Int32 → Int32 → Mem → Option (Int32 × Mem)) (a0 : Nat) (x2 : Int32) (x5 : Int32) (t0 : Int32) (S : Mem) : Option (Int32 × Mem) :=
    (some (x5 + (1 : Int32))).bind fun v5 =>
      k112 a0 x2 t0 v5 S
def f_X9_teachFor_b175 (k112 : Nat → Int32 → Int32 → Int32 → Mem → Option (Int32 × Mem)) (a0 : Nat) (x2 : Int32) (x4 : Int32) (x5 : Int32) (S : Mem) : Option (Int32 × Mem) :=
    f_X9_teachFor_b177 k112 a0 x2 x5 x4 S
def f_X9_teachFor_b153 (k112 : Nat → Int32 → Int32 → Int32 → Mem → Option (Int32 × Mem)) (a0 : Nat) (x2 : Int32) (x4 : Int32) (x5 : Int32) (t0 : Int32) (S : Mem) : Option (Int32 × Mem) :=
    (if t0 = (0 : Int32) then
      f_X9_teachFor_b175 k112 a0 x2 x4 x5 S
      else
      (ck 9 S a0).bind fun c6 =>
      (f_X9_goesSo a0 x5 x2 S).bind fun q7 =>
      (if q7.1 = (0 : Int32) then
      f_X9_teachFor_b175 k112 a0 x2 x4 x5 q7.2
      else
      f_X9_teachFor_b177 k112 a0 x2 x5 x5 q7.2))
def f_X9_teachFor_b148 (k112 : Nat → Int32 → Int32 → Int32 → Mem → Option (Int32 × Mem)) (a0 : Nat) (x2 : Int32) (x4 : Int32) (x5 : Int32) (S : Mem) : Option (Int32 × Mem) :=
    f_X9_teachFor_b153 k112 a0 x2 x4 x5 (1 : Int32) S
def f_X9_teachFor_b112 : Nat → Nat → Int32 → Int32 → Int32 → Mem → Option (Int32 × Mem)
  | 0, _, _, _, _, _ => none
  | n + 1, a0, x2, x4, x5, S =>
    (if (64 : Int32) ≤ x5 then
      some (x4, S)
      else
      (if x4 = (-1 : Int32) then
      f_X9_teachFor_b148 (fun a0 x2 x4 x5 S => f_X9_teachFor_b112  n a0 x2 x4 x5 S) a0 x2 x4 x5 S
      else
      (ck 9 S a0).bind fun c8 =>
      (f_X9_at a0 (0 : Int32) S).bind fun v9 =>
      (f_X9_differ x5 v9).bind fun v10 =>
      (ck 9 S a0).bind fun c11 =>
      (f_X9_at a0 (0 : Int32) S).bind fun v12 =>
      (f_X9_differ x4 v12).bind fun v13 =>
      (if v13 ≤ v10 then
      f_X9_teachFor_b153 (fun a0 x2 x4 x5 S => f_X9_teachFor_b112  n a0 x2 x4 x5 S) a0 x2 x4 x5 (0 : Int32) S
      else
      f_X9_teachFor_b148 (fun a0 x2 x4 x5 S => f_X9_teachFor_b112  n a0 x2 x4 x5 S) a0 x2 x4 x5 S)))
def f_X9_teachFor_b57 : Nat → Nat → Int32 → Int32 → Int32 → Mem → Option (Int32 × Mem)
  | 0, _, _, _, _, _ => none
  | n + 1, a0, x1, x2, x3, S =>
    (if x3 ≤ (0 : Int32) then
      (ck 9 S a0).bind fun c3 =>
      (f_X9_asides a0 S).bind fun S4 =>
      f_X9_teachFor_b112 FU a0 x2 (-1 : Int32) (0 : Int32) S4
      else
      (dvI x1 x3).bind fun v14 =>
      (some ((irI v14 (10 : Int32)) - (1 : Int32))).bind fun v15 =>
      (ck 9 S a0).bind fun c16 =>
      (f_X9_isRoom a0 v15 S).bind fun v17 =>
      (if v17 = (0 : Int32) then
      some ((-1000000002 : Int32), S)
      else
      (gR 9 21 S a0).bind fun r18 =>
      (stI S r18 x2 v15).bind fun S19 =>
      (some (x2 + (1 : Int32))).bind fun v20 =>
      (some (x3 / (10 : Int32))).bind fun v21 =>
      f_X9_teachFor_b57  n a0 x1 v20 v21 S19))
def f_X9_teachFor_b41 : Nat → Nat → Int32 → Int32 → Int32 → Mem → Option (Int32 × Mem)
  | 0, _, _, _, _, _ => none
  | n + 1, a0, x1, x2, x3, S =>
    (dvI x1 x3).bind fun v2 =>
      (if v2 ≤ (9 : Int32) then
      f_X9_teachFor_b57 FU a0 x1 x2 x3 S
      else
      (some (x3 * (10 : Int32))).bind fun v22 =>
      f_X9_teachFor_b41  n a0 x1 x2 v22 S)
def f_X9_teachFor (a0 : Nat) (x1 : Int32) (S : Mem) : Option (Int32 × Mem) :=
    (f_X9_in x1.toInt64 (0 : Int64) (99999999 : Int64)).bind fun v1 =>
      (if v1 = (0 : Int32) then
      some ((-1000000002 : Int32), S)
      else
      (if x1 = (0 : Int32) then
      (gI 9 1 S a0).bind fun v23 =>
      (if v23 = (0 : Int32) then
      some ((-1000000003 : Int32), S)
      else
      (ck 9 S a0).bind fun c24 =>
      (f_X9_at a0 (0 : Int32) S).bind fun v25 =>
      some (v25, S))
      else
      f_X9_teachFor_b41 FU a0 x1 (0 : Int32) (1 : Int32) S))
set_option maxHeartbeats 4000000 in
set_option maxRecDepth 100000 in
theorem w_X9_teachFor_b177 {p : Program} {l : Launch} {e : Env} {s : State} {m : MethodId} {args : Array Value} {below : List Frame} {meth : Method} {c : Code} {b0 : Nat} {D : va_G} {cy : Nat → ClassId} {q : (Int32 × Mem)} (C0 : Cx p m c cX9_teachFor 7 s args RX9 D cy) (hr : meth.sig.returnType = some .int) (hlocks : meth.locks = false) (k112 : Nat → Int32 → Int32 → Int32 → Mem → Option (Int32 × Mem)) (hk112 : ∀ (a0 : Nat) (x2 : Int32) (x4 : Int32) (x5 : Int32) (S : Mem) (H : Heap) (locs : List Loc) (ls : Array Slot), Wd b0 D cy S s.heap H locs → lv_has ls 7 [(0, .ref (b0 + a0)), (2, .int x2), (4, .int x4), (5, .int x5)] → k112 a0 x2 x4 x5 S = some q → W p l e rm_X9_teachFor s m args below meth c H locs 0 0 (MQ below (Qp b0 D cy (some (.int q.1)) q.2) args s 0 0 (fun q => b0 ≤ q)) (F0 m 112 ls [])) : ∀ (a0 : Nat) (x2 : Int32) (x5 : Int32) (t0 : Int32) (S : Mem) (H : Heap) (locs : List Loc) (ls : Array Slot), Wd b0 D cy S s.heap H locs → lv_has ls 7 [(0, .ref (b0 + a0)), (2, .int x2), (5, .int x5)] → f_X9_teachFor_b177 k112 a0 x2 x5 t0 S = some q → W p l e rm_X9_teachFor s m args below meth c H locs 0 0 (MQ below (Qp b0 D cy (some (.int q.1)) q.2) args s 0 0 (fun q => b0 ≤ q)) (F0 m 177 ls [.int t0]) := by
  intro a0 x2 x5 t0 S H locs ls hw hl h
  rw [f_X9_teachFor_b177] at h
  refine lv_istore (lv' := [(4, .int t0), (0, .ref (b0 + a0)), (2, .int x2), (5, .int x5)]) C0.hx C0.hb dX9_teachFor_177 hl (by decide) rfl (fun ls hl => ?_)
  obtain ⟨v5, hv5, h⟩ := Option.bind_eq_some_iff.mp h
  refine lv_iinc (v := v5) (lv' := [(5, .int v5), (4, .int t0), (0, .ref (b0 + a0)), (2, .int x2)]) C0.hx C0.hb dX9_teachFor_179 hl (k := 3) rfl (by rw [← Option.some.inj hv5]; rfl) (by decide) rfl (fun ls hl => ?_)
  refine lv_goto (tgt := 112) C0.hx C0.hb dX9_teachFor_182 (by decide) ?_
  exact hk112 a0 x2 t0 v5 S _ _ _ hw (lv_sub hl [2, 3, 1, 0] rfl) h
set_option maxHeartbeats 4000000 in
set_option maxRecDepth 100000 in
theorem w_X9_teachFor_b175 {p : Program} {l : Launch} {e : Env} {s : State} {m : MethodId} {args : Array Value} {below : List Frame} {meth : Method} {c : Code} {b0 : Nat} {D : va_G} {cy : Nat → ClassId} {q : (Int32 × Mem)} (C0 : Cx p m c cX9_teachFor 7 s args RX9 D cy) (hr : meth.sig.returnType = some .int) (hlocks : meth.locks = false) (k112 : Nat → Int32 → Int32 → Int32 → Mem → Option (Int32 × Mem)) (hk112 : ∀ (a0 : Nat) (x2 : Int32) (x4 : Int32) (x5 : Int32) (S : Mem) (H : Heap) (locs : List Loc) (ls : Array Slot), Wd b0 D cy S s.heap H locs → lv_has ls 7 [(0, .ref (b0 + a0)), (2, .int x2), (4, .int x4), (5, .int x5)] → k112 a0 x2 x4 x5 S = some q → W p l e rm_X9_teachFor s m args below meth c H locs 0 0 (MQ below (Qp b0 D cy (some (.int q.1)) q.2) args s 0 0 (fun q => b0 ≤ q)) (F0 m 112 ls [])) : ∀ (a0 : Nat) (x2 : Int32) (x4 : Int32) (x5 : Int32) (S : Mem) (H : Heap) (locs : List Loc) (ls : Array Slot), Wd b0 D cy S s.heap H locs → lv_has ls 7 [(0, .ref (b0 + a0)), (2, .int x2), (4, .int x4), (5, .int x5)] → f_X9_teachFor_b175 k112 a0 x2 x4 x5 S = some q → W p l e rm_X9_teachFor s m args below meth c H locs 0 0 (MQ below (Qp b0 D cy (some (.int q.1)) q.2) args s 0 0 (fun q => b0 ≤ q)) (F0 m 175 ls []) := by
  intro a0 x2 x4 x5 S H locs ls hw hl h
  rw [f_X9_teachFor_b175] at h
  refine lv_iload C0.hx C0.hb dX9_teachFor_175 (lv_at hl 2 rfl) ?_
  exact w_X9_teachFor_b177 C0 hr hlocks k112 hk112 a0 x2 x5 x4 S _ _ _ hw (lv_sub hl [0, 1, 3] rfl) h
set_option maxHeartbeats 4000000 in
set_option maxRecDepth 100000 in
theorem w_X9_teachFor_b153 {p : Program} {l : Launch} {e : Env} {s : State} {m : MethodId} {args : Array Value} {below : List Frame} {meth : Method} {c : Code} {b0 : Nat} {D : va_G} {cy : Nat → ClassId} {q : (Int32 × Mem)} (C0 : Cx p m c cX9_teachFor 7 s args RX9 D cy) (hr : meth.sig.returnType = some .int) (hlocks : meth.locks = false) (k112 : Nat → Int32 → Int32 → Int32 → Mem → Option (Int32 × Mem)) (hk112 : ∀ (a0 : Nat) (x2 : Int32) (x4 : Int32) (x5 : Int32) (S : Mem) (H : Heap) (locs : List Loc) (ls : Array Slot), Wd b0 D cy S s.heap H locs → lv_has ls 7 [(0, .ref (b0 + a0)), (2, .int x2), (4, .int x4), (5, .int x5)] → k112 a0 x2 x4 x5 S = some q → W p l e rm_X9_teachFor s m args below meth c H locs 0 0 (MQ below (Qp b0 D cy (some (.int q.1)) q.2) args s 0 0 (fun q => b0 ≤ q)) (F0 m 112 ls [])) : ∀ (a0 : Nat) (x2 : Int32) (x4 : Int32) (x5 : Int32) (t0 : Int32) (S : Mem) (H : Heap) (locs : List Loc) (ls : Array Slot), Wd b0 D cy S s.heap H locs → lv_has ls 7 [(0, .ref (b0 + a0)), (2, .int x2), (4, .int x4), (5, .int x5)] → f_X9_teachFor_b153 k112 a0 x2 x4 x5 t0 S = some q → W p l e rm_X9_teachFor s m args below meth c H locs 0 0 (MQ below (Qp b0 D cy (some (.int q.1)) q.2) args s 0 0 (fun q => b0 ≤ q)) (F0 m 153 ls [.int t0]) := by
  intro a0 x2 x4 x5 t0 S H locs ls hw hl h
  rw [f_X9_teachFor_b153] at h
  refine lv_istore (lv' := [(6, .int t0), (0, .ref (b0 + a0)), (2, .int x2), (4, .int x4), (5, .int x5)]) C0.hx C0.hb dX9_teachFor_153 hl (by decide) rfl (fun ls hl => ?_)
  refine lv_iload C0.hx C0.hb dX9_teachFor_155 (lv_at hl 0 rfl) ?_
  refine lv_if_eq (tgt := 175) C0.hx C0.hb dX9_teachFor_157 (by decide) (fun hc => ?_) (fun hc => ?_)
  · have h := (if_pos hc).symm.trans h
    exact w_X9_teachFor_b175 C0 hr hlocks k112 hk112 a0 x2 x4 x5 S _ _ _ hw (lv_sub hl [1, 2, 3, 4] rfl) h
  · have h := (if_neg hc).symm.trans h
    refine lv_aload_n C0.hx C0.hb dX9_teachFor_160 rfl (lv_at hl 1 rfl) ?_
    refine lv_iload C0.hx C0.hb dX9_teachFor_161 (lv_at hl 4 rfl) ?_
    refine lv_iload_n C0.hx C0.hb dX9_teachFor_163 rfl (lv_at hl 2 rfl) ?_
    obtain ⟨c6, hc6, h⟩ := Option.bind_eq_some_iff.mp h
    obtain ⟨q7, hq7, h⟩ := Option.bind_eq_some_iff.mp h
    refine q_callV (n := 2) (av := [.int x5, .int x2]) (rest := []) (st1 := [.int q7.1]) C0 hw (m_X9_goesSo l b0 D cy S a0 x5 x2 hq7) hc6 rfl (by decide) (goodV kw_1266 kw_1268 kw_61 kw_72 kw_1269) ⟨rfl, rfl⟩ (by decide +kernel) ⟨(Nat.le_of_ble_eq_true rfl), (Nat.le_of_ble_eq_true rfl)⟩ rfl hl.1 rfl (Nat.le_of_ble_eq_true rfl) dX9_teachFor_164 ⟨Nat.zero_le _, Nat.zero_le _⟩ rfl (fun H locs hw => ?_)
    refine lv_if_eq (tgt := 175) C0.hx C0.hb dX9_teachFor_167 (by decide) (fun hc => ?_) (fun hc => ?_)
    · have h := (if_pos hc).symm.trans h
      exact w_X9_teachFor_b175 C0 hr hlocks k112 hk112 a0 x2 x4 x5 q7.2 _ _ _ hw (lv_sub hl [1, 2, 3, 4] rfl) h
    · have h := (if_neg hc).symm.trans h
      refine lv_iload C0.hx C0.hb dX9_teachFor_170 (lv_at hl 4 rfl) ?_
      refine lv_goto (tgt := 177) C0.hx C0.hb dX9_teachFor_172 (by decide) ?_
      exact w_X9_teachFor_b177 C0 hr hlocks k112 hk112 a0 x2 x5 x5 q7.2 _ _ _ hw (lv_sub hl [1, 2, 4] rfl) h
set_option maxHeartbeats 4000000 in
set_option maxRecDepth 100000 in
theorem w_X9_teachFor_b148 {p : Program} {l : Launch} {e : Env} {s : State} {m : MethodId} {args : Array Value} {below : List Frame} {meth : Method} {c : Code} {b0 : Nat} {D : va_G} {cy : Nat → ClassId} {q : (Int32 × Mem)} (C0 : Cx p m c cX9_teachFor 7 s args RX9 D cy) (hr : meth.sig.returnType = some .int) (hlocks : meth.locks = false) (k112 : Nat → Int32 → Int32 → Int32 → Mem → Option (Int32 × Mem)) (hk112 : ∀ (a0 : Nat) (x2 : Int32) (x4 : Int32) (x5 : Int32) (S : Mem) (H : Heap) (locs : List Loc) (ls : Array Slot), Wd b0 D cy S s.heap H locs → lv_has ls 7 [(0, .ref (b0 + a0)), (2, .int x2), (4, .int x4), (5, .int x5)] → k112 a0 x2 x4 x5 S = some q → W p l e rm_X9_teachFor s m args below meth c H locs 0 0 (MQ below (Qp b0 D cy (some (.int q.1)) q.2) args s 0 0 (fun q => b0 ≤ q)) (F0 m 112 ls [])) : ∀ (a0 : Nat) (x2 : Int32) (x4 : Int32) (x5 : Int32) (S : Mem) (H : Heap) (locs : List Loc) (ls : Array Slot), Wd b0 D cy S s.heap H locs → lv_has ls 7 [(0, .ref (b0 + a0)), (2, .int x2), (4, .int x4), (5, .int x5)] → f_X9_teachFor_b148 k112 a0 x2 x4 x5 S = some q → W p l e rm_X9_teachFor s m args below meth c H locs 0 0 (MQ below (Qp b0 D cy (some (.int q.1)) q.2) args s 0 0 (fun q => b0 ≤ q)) (F0 m 148 ls []) := by
  intro a0 x2 x4 x5 S H locs ls hw hl h
  rw [f_X9_teachFor_b148] at h
  refine lv_iconst (v := (1 : Int32)) C0.hx C0.hb dX9_teachFor_148 (by decide) ?_
  refine lv_goto (tgt := 153) C0.hx C0.hb dX9_teachFor_149 (by decide) ?_
  exact w_X9_teachFor_b153 C0 hr hlocks k112 hk112 a0 x2 x4 x5 (1 : Int32) S _ _ _ hw (lv_sub hl [0, 1, 2, 3] rfl) h
set_option maxHeartbeats 4000000 in
set_option maxRecDepth 100000 in
theorem w_X9_teachFor_b112 {p : Program} {l : Launch} {e : Env} {s : State} {m : MethodId} {args : Array Value} {below : List Frame} {meth : Method} {c : Code} {b0 : Nat} {D : va_G} {cy : Nat → ClassId} {q : (Int32 × Mem)} (C0 : Cx p m c cX9_teachFor 7 s args RX9 D cy) (hr : meth.sig.returnType = some .int) (hlocks : meth.locks = false) : ∀ (n : Nat) (a0 : Nat) (x2 : Int32) (x4 : Int32) (x5 : Int32) (S : Mem) (H : Heap) (locs : List Loc) (ls : Array Slot), Wd b0 D cy S s.heap H locs → lv_has ls 7 [(0, .ref (b0 + a0)), (2, .int x2), (4, .int x4), (5, .int x5)] → f_X9_teachFor_b112  n a0 x2 x4 x5 S = some q → W p l e rm_X9_teachFor s m args below meth c H locs 0 0 (MQ below (Qp b0 D cy (some (.int q.1)) q.2) args s 0 0 (fun q => b0 ≤ q)) (F0 m 112 ls []) := by
  intro n
  induction n with
  | zero => intro a0 x2 x4 x5 S H locs ls hw hl h; exact absurd h (by simp [f_X9_teachFor_b112])
  | succ n ih =>
    intro a0 x2 x4 x5 S H locs ls hw hl h
    rw [f_X9_teachFor_b112] at h
    refine lv_iload C0.hx C0.hb dX9_teachFor_112 (lv_at hl 3 rfl) ?_
    refine lv_bipush (v := (64 : Int32)) C0.hx C0.hb dX9_teachFor_114 (by decide) ?_
    refine lv_icmp_ge (tgt := 185) C0.hx C0.hb dX9_teachFor_116 (by decide) (fun hc => ?_) (fun hc => ?_)
    · have h := (if_pos hc).symm.trans h
      refine lv_iload C0.hx C0.hb dX9_teachFor_185 (lv_at hl 2 rfl) ?_
      obtain rfl := Option.some.inj h
      exact q_reti C0 hw hr hlocks dX9_teachFor_187
    · have h := (if_neg hc).symm.trans h
      refine lv_iload C0.hx C0.hb dX9_teachFor_119 (lv_at hl 2 rfl) ?_
      refine lv_iconst (v := (-1 : Int32)) C0.hx C0.hb dX9_teachFor_121 (by decide) ?_
      refine lv_icmp_eq (tgt := 148) C0.hx C0.hb dX9_teachFor_122 (by decide) (fun hc => ?_) (fun hc => ?_)
      · have h := (if_pos hc).symm.trans h
        exact w_X9_teachFor_b148 C0 hr hlocks (fun a0 x2 x4 x5 S => f_X9_teachFor_b112  n a0 x2 x4 x5 S) ih a0 x2 x4 x5 S _ _ _ hw (lv_sub hl [0, 1, 2, 3] rfl) h
      · have h := (if_neg hc).symm.trans h
        refine lv_iload C0.hx C0.hb dX9_teachFor_125 (lv_at hl 3 rfl) ?_
        refine lv_aload_n C0.hx C0.hb dX9_teachFor_127 rfl (lv_at hl 0 rfl) ?_
        refine lv_iconst (v := (0 : Int32)) C0.hx C0.hb dX9_teachFor_128 (by decide) ?_
        obtain ⟨c8, hc8, h⟩ := Option.bind_eq_some_iff.mp h
        obtain ⟨v9, hv9, h⟩ := Option.bind_eq_some_iff.mp h
        refine q_callV (n := 1) (av := [.int (0 : Int32)]) (rest := [.int x5]) (st1 := [.int v9, .int x5]) C0 hw (m_X9_at l b0 D cy S a0 (0 : Int32) hv9) hc8 rfl (by decide) (goodV kw_1013 kw_1015 kw_34 kw_72 kw_1016) ⟨rfl, rfl⟩ (by decide +kernel) ⟨(Nat.le_of_ble_eq_true rfl), (Nat.le_of_ble_eq_true rfl)⟩ rfl hl.1 rfl (Nat.le_of_ble_eq_true rfl) dX9_teachFor_129 ⟨Nat.zero_le _, Nat.zero_le _⟩ rfl (fun H locs hw => ?_)
        obtain ⟨v10, hv10, h⟩ := Option.bind_eq_some_iff.mp h
        refine q_callS (n := 2) (av := [.int x5, .int v9]) (rest := []) (st1 := [.int v10]) C0 hw (m_X9_differ l b0 D cy S x5 v9 hv10) (goodS kw_1260 kw_1261 kw_72 kw_1262) ⟨rfl, rfl⟩ (by decide +kernel) ⟨(Nat.le_of_ble_eq_true rfl), (Nat.le_of_ble_eq_true rfl)⟩ rfl hl.1 rfl (Nat.le_of_ble_eq_true rfl) dX9_teachFor_132 ⟨Nat.zero_le _, Nat.zero_le _⟩ rfl (fun H locs hw => ?_)
        refine lv_iload C0.hx C0.hb dX9_teachFor_135 (lv_at hl 2 rfl) ?_
        refine lv_aload_n C0.hx C0.hb dX9_teachFor_137 rfl (lv_at hl 0 rfl) ?_
        refine lv_iconst (v := (0 : Int32)) C0.hx C0.hb dX9_teachFor_138 (by decide) ?_
        obtain ⟨c11, hc11, h⟩ := Option.bind_eq_some_iff.mp h
        obtain ⟨v12, hv12, h⟩ := Option.bind_eq_some_iff.mp h
        refine q_callV (n := 1) (av := [.int (0 : Int32)]) (rest := [.int x4, .int v10]) (st1 := [.int v12, .int x4, .int v10]) C0 hw (m_X9_at l b0 D cy S a0 (0 : Int32) hv12) hc11 rfl (by decide) (goodV kw_1013 kw_1015 kw_34 kw_72 kw_1016) ⟨rfl, rfl⟩ (by decide +kernel) ⟨(Nat.le_of_ble_eq_true rfl), (Nat.le_of_ble_eq_true rfl)⟩ rfl hl.1 rfl (Nat.le_of_ble_eq_true rfl) dX9_teachFor_139 ⟨Nat.zero_le _, Nat.zero_le _⟩ rfl (fun H locs hw => ?_)
        obtain ⟨v13, hv13, h⟩ := Option.bind_eq_some_iff.mp h
        refine q_callS (n := 2) (av := [.int x4, .int v12]) (rest := [.int v10]) (st1 := [.int v13, .int v10]) C0 hw (m_X9_differ l b0 D cy S x4 v12 hv13) (goodS kw_1260 kw_1261 kw_72 kw_1262) ⟨rfl, rfl⟩ (by decide +kernel) ⟨(Nat.le_of_ble_eq_true rfl), (Nat.le_of_ble_eq_true rfl)⟩ rfl hl.1 rfl (Nat.le_of_ble_eq_true rfl) dX9_teachFor_142 ⟨Nat.zero_le _, Nat.zero_le _⟩ rfl (fun H locs hw => ?_)
        refine lv_icmp_ge (tgt := 152) C0.hx C0.hb dX9_teachFor_145 (by decide) (fun hc => ?_) (fun hc => ?_)
        · have h := (if_pos hc).symm.trans h
          refine lv_iconst (v := (0 : Int32)) C0.hx C0.hb dX9_teachFor_152 (by decide) ?_
          exact w_X9_teachFor_b153 C0 hr hlocks (fun a0 x2 x4 x5 S => f_X9_teachFor_b112  n a0 x2 x4 x5 S) ih a0 x2 x4 x5 (0 : Int32) S _ _ _ hw (lv_sub hl [0, 1, 2, 3] rfl) h
        · have h := (if_neg hc).symm.trans h
          exact w_X9_teachFor_b148 C0 hr hlocks (fun a0 x2 x4 x5 S => f_X9_teachFor_b112  n a0 x2 x4 x5 S) ih a0 x2 x4 x5 S _ _ _ hw (lv_sub hl [0, 1, 2, 3] rfl) h
set_option maxHeartbeats 4000000 in
set_option maxRecDepth 100000 in
theorem w_X9_teachFor_b57 {p : Program} {l : Launch} {e : Env} {s : State} {m : MethodId} {args : Array Value} {below : List Frame} {meth : Method} {c : Code} {b0 : Nat} {D : va_G} {cy : Nat → ClassId} {q : (Int32 × Mem)} (C0 : Cx p m c cX9_teachFor 7 s args RX9 D cy) (hr : meth.sig.returnType = some .int) (hlocks : meth.locks = false) : ∀ (n : Nat) (a0 : Nat) (x1 : Int32) (x2 : Int32) (x3 : Int32) (S : Mem) (H : Heap) (locs : List Loc) (ls : Array Slot), Wd b0 D cy S s.heap H locs → lv_has ls 7 [(0, .ref (b0 + a0)), (1, .int x1), (2, .int x2), (3, .int x3)] → f_X9_teachFor_b57  n a0 x1 x2 x3 S = some q → W p l e rm_X9_teachFor s m args below meth c H locs 0 0 (MQ below (Qp b0 D cy (some (.int q.1)) q.2) args s 0 0 (fun q => b0 ≤ q)) (F0 m 57 ls []) := by
  intro n
  induction n with
  | zero => intro a0 x1 x2 x3 S H locs ls hw hl h; exact absurd h (by simp [f_X9_teachFor_b57])
  | succ n ih =>
    intro a0 x1 x2 x3 S H locs ls hw hl h
    rw [f_X9_teachFor_b57] at h
    refine lv_iload_n C0.hx C0.hb dX9_teachFor_57 rfl (lv_at hl 3 rfl) ?_
    refine lv_if_le (tgt := 102) C0.hx C0.hb dX9_teachFor_58 (by decide) (fun hc => ?_) (fun hc => ?_)
    · have h := (if_pos hc).symm.trans h
      refine lv_iconst (v := (-1 : Int32)) C0.hx C0.hb dX9_teachFor_102 (by decide) ?_
      refine lv_istore (lv' := [(4, .int (-1 : Int32)), (0, .ref (b0 + a0)), (1, .int x1), (2, .int x2), (3, .int x3)]) C0.hx C0.hb dX9_teachFor_103 hl (by decide) rfl (fun ls hl => ?_)
      refine lv_aload_n C0.hx C0.hb dX9_teachFor_105 rfl (lv_at hl 1 rfl) ?_
      obtain ⟨c3, hc3, h⟩ := Option.bind_eq_some_iff.mp h
      obtain ⟨S4, hS4, h⟩ := Option.bind_eq_some_iff.mp h
      refine q_callV (n := 0) (av := []) (rest := []) (st1 := []) C0 hw (m_X9_asides l b0 D cy S a0 hS4) hc3 rfl (by decide) (goodV kw_1181 kw_1183 kw_55 kw_72 kw_1184) ⟨rfl, rfl⟩ (by decide +kernel) ⟨(Nat.le_of_ble_eq_true rfl), (Nat.le_of_ble_eq_true rfl)⟩ rfl hl.1 rfl (Nat.le_of_ble_eq_true rfl) dX9_teachFor_106 ⟨Nat.zero_le _, Nat.zero_le _⟩ rfl (fun H locs hw => ?_)
      refine lv_iconst (v := (0 : Int32)) C0.hx C0.hb dX9_teachFor_109 (by decide) ?_
      refine lv_istore (lv' := [(5, .int (0 : Int32)), (4, .int (-1 : Int32)), (0, .ref (b0 + a0)), (1, .int x1), (2, .int x2), (3, .int x3)]) C0.hx C0.hb dX9_teachFor_110 hl (by decide) rfl (fun ls hl => ?_)
      exact w_X9_teachFor_b112 C0 hr hlocks FU a0 x2 (-1 : Int32) (0 : Int32) S4 _ _ _ hw (lv_sub hl [2, 4, 1, 0] rfl) h
    · have h := (if_neg hc).symm.trans h
      refine lv_iload_n C0.hx C0.hb dX9_teachFor_61 rfl (lv_at hl 1 rfl) ?_
      refine lv_iload_n C0.hx C0.hb dX9_teachFor_62 rfl (lv_at hl 3 rfl) ?_
      obtain ⟨v14, hv14, h⟩ := Option.bind_eq_some_iff.mp h
      refine q_dvI C0 hv14 dX9_teachFor_63 ?_
      refine lv_bipush (v := (10 : Int32)) C0.hx C0.hb dX9_teachFor_64 (by decide) ?_
      refine lv_irem C0.hx C0.hb dX9_teachFor_66 (by decide) ?_
      refine lv_iconst (v := (1 : Int32)) C0.hx C0.hb dX9_teachFor_67 (by decide) ?_
      refine lv_isub C0.hx C0.hb dX9_teachFor_68 ?_
      obtain ⟨v15, hv15, h⟩ := Option.bind_eq_some_iff.mp h
      refine q_nmI hv15 ?_
      refine lv_istore (lv' := [(4, .int v15), (0, .ref (b0 + a0)), (1, .int x1), (2, .int x2), (3, .int x3)]) C0.hx C0.hb dX9_teachFor_69 hl (by decide) rfl (fun ls hl => ?_)
      refine lv_aload_n C0.hx C0.hb dX9_teachFor_71 rfl (lv_at hl 1 rfl) ?_
      refine lv_iload C0.hx C0.hb dX9_teachFor_72 (lv_at hl 0 rfl) ?_
      obtain ⟨c16, hc16, h⟩ := Option.bind_eq_some_iff.mp h
      obtain ⟨v17, hv17, h⟩ := Option.bind_eq_some_iff.mp h
      refine q_callV (n := 1) (av := [.int v15]) (rest := []) (st1 := [.int v17]) C0 hw (m_X9_isRoom l b0 D cy S a0 v15 hv17) hc16 rfl (by decide) (goodV kw_1021 kw_1023 kw_35 kw_72 kw_1024) ⟨rfl, rfl⟩ (by decide +kernel) ⟨(Nat.le_of_ble_eq_true rfl), (Nat.le_of_ble_eq_true rfl)⟩ rfl hl.1 rfl (Nat.le_of_ble_eq_true rfl) dX9_teachFor_74 ⟨Nat.zero_le _, Nat.zero_le _⟩ rfl (fun H locs hw => ?_)
      refine lv_if_ne (tgt := 83) C0.hx C0.hb dX9_teachFor_77 (by decide) (fun hc => ?_) (fun hc => ?_)
      · have h := (if_neg hc).symm.trans h
        refine lv_aload_n C0.hx C0.hb dX9_teachFor_83 rfl (lv_at hl 1 rfl) ?_
        obtain ⟨r18, hr18, h⟩ := Option.bind_eq_some_iff.mp h
        refine q_getR C0 hw hr18 rfl in_9 (by decide) kw_883 dX9_teachFor_84 ?_
        refine lv_iload_n C0.hx C0.hb dX9_teachFor_87 rfl (lv_at hl 3 rfl) ?_
        refine lv_iload C0.hx C0.hb dX9_teachFor_88 (lv_at hl 0 rfl) ?_
        obtain ⟨S19, hS19, h⟩ := Option.bind_eq_some_iff.mp h
        refine q_stI C0 hw hS19 dX9_teachFor_90 (fun H locs hw => ?_)
        obtain ⟨v20, hv20, h⟩ := Option.bind_eq_some_iff.mp h
        refine lv_iinc (v := v20) (lv' := [(2, .int v20), (4, .int v15), (0, .ref (b0 + a0)), (1, .int x1), (3, .int x3)]) C0.hx C0.hb dX9_teachFor_91 hl (k := 3) rfl (by rw [← Option.some.inj hv20]; rfl) (by decide) rfl (fun ls hl => ?_)
        refine lv_iload_n C0.hx C0.hb dX9_teachFor_94 rfl (lv_at hl 4 rfl) ?_
        refine lv_bipush (v := (10 : Int32)) C0.hx C0.hb dX9_teachFor_95 (by decide) ?_
        refine lv_idiv C0.hx C0.hb dX9_teachFor_97 (by decide) ?_
        obtain ⟨v21, hv21, h⟩ := Option.bind_eq_some_iff.mp h
        refine q_nmI hv21 ?_
        refine lv_istore_n (lv' := [(3, .int v21), (2, .int v20), (4, .int v15), (0, .ref (b0 + a0)), (1, .int x1)]) C0.hx C0.hb dX9_teachFor_98 rfl hl (by decide) rfl (fun ls hl => ?_)
        refine lv_goto (tgt := 57) C0.hx C0.hb dX9_teachFor_99 (by decide) ?_
        exact ih a0 x1 v20 v21 S19 _ _ _ hw (lv_sub hl [3, 4, 1, 0] rfl) h
      · have h := (if_pos hc).symm.trans h
        refine lv_ldc C0.hx C0.hb C0.ho (C0.w kw_954) dX9_teachFor_80 ?_
        obtain rfl := Option.some.inj h
        exact q_reti C0 hw hr hlocks dX9_teachFor_82
set_option maxHeartbeats 4000000 in
set_option maxRecDepth 100000 in
theorem w_X9_teachFor_b41 {p : Program} {l : Launch} {e : Env} {s : State} {m : MethodId} {args : Array Value} {below : List Frame} {meth : Method} {c : Code} {b0 : Nat} {D : va_G} {cy : Nat → ClassId} {q : (Int32 × Mem)} (C0 : Cx p m c cX9_teachFor 7 s args RX9 D cy) (hr : meth.sig.returnType = some .int) (hlocks : meth.locks = false) : ∀ (n : Nat) (a0 : Nat) (x1 : Int32) (x2 : Int32) (x3 : Int32) (S : Mem) (H : Heap) (locs : List Loc) (ls : Array Slot), Wd b0 D cy S s.heap H locs → lv_has ls 7 [(0, .ref (b0 + a0)), (1, .int x1), (2, .int x2), (3, .int x3)] → f_X9_teachFor_b41  n a0 x1 x2 x3 S = some q → W p l e rm_X9_teachFor s m args below meth c H locs 0 0 (MQ below (Qp b0 D cy (some (.int q.1)) q.2) args s 0 0 (fun q => b0 ≤ q)) (F0 m 41 ls []) := by
  intro n
  induction n with
  | zero => intro a0 x1 x2 x3 S H locs ls hw hl h; exact absurd h (by simp [f_X9_teachFor_b41])
  | succ n ih =>
    intro a0 x1 x2 x3 S H locs ls hw hl h
    rw [f_X9_teachFor_b41] at h
    refine lv_iload_n C0.hx C0.hb dX9_teachFor_41 rfl (lv_at hl 1 rfl) ?_
    refine lv_iload_n C0.hx C0.hb dX9_teachFor_42 rfl (lv_at hl 3 rfl) ?_
    obtain ⟨v2, hv2, h⟩ := Option.bind_eq_some_iff.mp h
    refine q_dvI C0 hv2 dX9_teachFor_43 ?_
    refine lv_bipush (v := (9 : Int32)) C0.hx C0.hb dX9_teachFor_44 (by decide) ?_
    refine lv_icmp_le (tgt := 57) C0.hx C0.hb dX9_teachFor_46 (by decide) (fun hc => ?_) (fun hc => ?_)
    · have h := (if_pos hc).symm.trans h
      exact w_X9_teachFor_b57 C0 hr hlocks FU a0 x1 x2 x3 S _ _ _ hw (lv_sub hl [0, 1, 2, 3] rfl) h
    · have h := (if_neg hc).symm.trans h
      refine lv_iload_n C0.hx C0.hb dX9_teachFor_49 rfl (lv_at hl 3 rfl) ?_
      refine lv_bipush (v := (10 : Int32)) C0.hx C0.hb dX9_teachFor_50 (by decide) ?_
      refine lv_imul C0.hx C0.hb dX9_teachFor_52 ?_
      obtain ⟨v22, hv22, h⟩ := Option.bind_eq_some_iff.mp h
      refine q_nmI hv22 ?_
      refine lv_istore_n (lv' := [(3, .int v22), (0, .ref (b0 + a0)), (1, .int x1), (2, .int x2)]) C0.hx C0.hb dX9_teachFor_53 rfl hl (by decide) rfl (fun ls hl => ?_)
      refine lv_goto (tgt := 41) C0.hx C0.hb dX9_teachFor_54 (by decide) ?_
      exact ih a0 x1 x2 v22 S _ _ _ hw (lv_sub hl [1, 2, 3, 0] rfl) h
set_option maxHeartbeats 4000000 in
set_option maxRecDepth 100000 in
theorem m_X9_teachFor (l : Launch) (b0 : Nat) (D : va_G) (cy : Nat → ClassId) (S : Mem) (a0 : Nat) (x1 : Int32) {q : (Int32 × Mem)} (h : f_X9_teachFor a0 x1 S = some q) : Met l yX9_teachFor [.code yX9_teachFor cX9_teachFor 7 (some .int)] rm_X9_teachFor (Pr b0 D cy S [.ref (b0 + a0), .int x1]) (Qp b0 D cy (some (.int q.1)) q.2) 0 0 (fun q => b0 ≤ q) := by
  refine Met.ofW (cc := cX9_teachFor) (maxL := 7) (ret := some .int) (by decide) rfl ?_
  intro p e s m args below meth c s₁ B hml hv
  obtain ⟨rfl, hP, hK, hT⟩ := hv
  have C0 : Cx p m c cX9_teachFor 7 s (List.toArray [.ref (b0 + a0), .int x1]) RX9 D cy := ⟨⟨B.exec, B.bytes, hml, findClass_of_methodNamed B.named, fun w h => hT w h _⟩, hK, hT⟩
  have hr : meth.sig.returnType = some .int := B.returns
  have hlocks := B.notSynchronized
  have hw : Wd b0 D cy S s.heap s.heap [] := ⟨hP, va_S.rf⟩
  have hl := lv_entry ([.ref (b0 + a0), .int x1]) (n := 7) (Nat.le_of_ble_eq_true rfl)
  rw [lg_entry_eq]
  generalize (lg_sl ([.ref (b0 + a0), .int x1]) ++ List.replicate (7 - (lg_sl ([.ref (b0 + a0), .int x1])).length) Slot.unset).toArray = ls at hl ⊢
  have hl : lv_has ls 7 [(0, .ref (b0 + a0)), (1, .int x1)] := hl
  rw [f_X9_teachFor] at h
  show W p l e rm_X9_teachFor s m _ below meth c s.heap [] 0 0 _ _
  refine lv_iload_n C0.hx C0.hb dX9_teachFor_0 rfl (lv_at hl 1 rfl) ?_
  refine lv_i2l C0.hx C0.hb dX9_teachFor_1 rfl ?_
  refine lv_lconst (v := (0 : Int64)) C0.hx C0.hb dX9_teachFor_2 (by decide) ?_
  refine lv_ldc2 C0.hx C0.hb C0.ho (C0.w kw_1259) dX9_teachFor_3 ?_
  obtain ⟨v1, hv1, h⟩ := Option.bind_eq_some_iff.mp h
  refine q_callS (n := 3) (av := [.long x1.toInt64, .long (0 : Int64), .long (99999999 : Int64)]) (rest := []) (st1 := [.int v1]) C0 hw (m_X9_in l b0 D cy S x1.toInt64 (0 : Int64) (99999999 : Int64) hv1) (goodS kw_951 kw_952 kw_72 kw_953) ⟨rfl, rfl⟩ (by decide +kernel) ⟨(Nat.le_of_ble_eq_true rfl), (Nat.le_of_ble_eq_true rfl)⟩ rfl hl.1 rfl (Nat.le_of_ble_eq_true rfl) dX9_teachFor_6 ⟨Nat.zero_le _, Nat.zero_le _⟩ rfl (fun H locs hw => ?_)
  refine lv_if_ne (tgt := 15) C0.hx C0.hb dX9_teachFor_9 (by decide) (fun hc => ?_) (fun hc => ?_)
  · have h := (if_neg hc).symm.trans h
    refine lv_iload_n C0.hx C0.hb dX9_teachFor_15 rfl (lv_at hl 1 rfl) ?_
    refine lv_if_ne (tgt := 37) C0.hx C0.hb dX9_teachFor_16 (by decide) (fun hc => ?_) (fun hc => ?_)
    · have h := (if_neg hc).symm.trans h
      refine lv_iconst (v := (0 : Int32)) C0.hx C0.hb dX9_teachFor_37 (by decide) ?_
      refine lv_istore_n (lv' := [(2, .int (0 : Int32)), (0, .ref (b0 + a0)), (1, .int x1)]) C0.hx C0.hb dX9_teachFor_38 rfl hl (by decide) rfl (fun ls hl => ?_)
      refine lv_iconst (v := (1 : Int32)) C0.hx C0.hb dX9_teachFor_39 (by decide) ?_
      refine lv_istore_n (lv' := [(3, .int (1 : Int32)), (2, .int (0 : Int32)), (0, .ref (b0 + a0)), (1, .int x1)]) C0.hx C0.hb dX9_teachFor_40 rfl hl (by decide) rfl (fun ls hl => ?_)
      exact w_X9_teachFor_b41 C0 hr hlocks FU a0 x1 (0 : Int32) (1 : Int32) S _ _ _ hw (lv_sub hl [2, 3, 1, 0] rfl) h
    · have h := (if_pos hc).symm.trans h
      refine lv_aload_n C0.hx C0.hb dX9_teachFor_19 rfl (lv_at hl 0 rfl) ?_
      obtain ⟨v23, hv23, h⟩ := Option.bind_eq_some_iff.mp h
      refine q_getI C0 hw hv23 rfl in_9 (by decide) kw_863 dX9_teachFor_20 ?_
      refine lv_if_ne (tgt := 31) C0.hx C0.hb dX9_teachFor_23 (by decide) (fun hc => ?_) (fun hc => ?_)
      · have h := (if_neg hc).symm.trans h
        refine lv_aload_n C0.hx C0.hb dX9_teachFor_31 rfl (lv_at hl 0 rfl) ?_
        refine lv_iconst (v := (0 : Int32)) C0.hx C0.hb dX9_teachFor_32 (by decide) ?_
        obtain ⟨c24, hc24, h⟩ := Option.bind_eq_some_iff.mp h
        obtain ⟨v25, hv25, h⟩ := Option.bind_eq_some_iff.mp h
        refine q_callV (n := 1) (av := [.int (0 : Int32)]) (rest := []) (st1 := [.int v25]) C0 hw (m_X9_at l b0 D cy S a0 (0 : Int32) hv25) hc24 rfl (by decide) (goodV kw_1013 kw_1015 kw_34 kw_72 kw_1016) ⟨rfl, rfl⟩ (by decide +kernel) ⟨(Nat.le_of_ble_eq_true rfl), (Nat.le_of_ble_eq_true rfl)⟩ rfl hl.1 rfl (Nat.le_of_ble_eq_true rfl) dX9_teachFor_33 ⟨Nat.zero_le _, Nat.zero_le _⟩ rfl (fun H locs hw => ?_)
        obtain rfl := Option.some.inj h
        exact q_reti C0 hw hr hlocks dX9_teachFor_36
      · have h := (if_pos hc).symm.trans h
        refine lv_ldc C0.hx C0.hb C0.ho (C0.w kw_1077) dX9_teachFor_26 ?_
        refine lv_goto (tgt := 36) C0.hx C0.hb dX9_teachFor_28 (by decide) ?_
        obtain rfl := Option.some.inj h
        exact q_reti C0 hw hr hlocks dX9_teachFor_36
  · have h := (if_pos hc).symm.trans h
    refine lv_ldc C0.hx C0.hb C0.ho (C0.w kw_954) dX9_teachFor_12 ?_
    obtain rfl := Option.some.inj h
    exact q_reti C0 hw hr hlocks dX9_teachFor_14
abbrev rm_X9_otherwise : Room := { frames := 4, cells := 0, slots := 0, locals := 109 }
def f_X9_otherwise_b103 (k69 : Nat → Int32 → Int32 → Mem → Option (Int32 × Mem)) (a0 : Nat) (x3 : Int32) (t0 : Int32) (S : Mem) : Option (Int32 × Mem) :=
    (some (x3 + (1 : Int32))).bind fun v17 =>
      k69 a0 t0 v17 S
def f_X9_otherwise_b110 (a0 : Nat) (x2 : Int32) (S : Mem) : Option (Int32 × Mem) :=
    (ck 9 S a0).bind fun c9 =>
      (f_X9_backs a0 S).bind fun S10 =>
      some (x2, S10)
def f_X9_otherwise_b69 : Nat → Nat → Int32 → Int32 → Mem → Option (Int32 × Mem)
  | 0, _, _, _, _ => none
  | n + 1, a0, x2, x3, S =>
    (if (101 : Int32) ≤ x3 then
      f_X9_otherwise_b110 a0 x2 S
      else
      (if x2 = (-1 : Int32) then
      (ck 9 S a0).bind fun c11 =>
      (f_X9_goesBy a0 S).bind fun S12 =>
      (ck 9 S12 a0).bind fun c13 =>
      (f_X9_at a0 (2 : Int32) S12).bind fun v14 =>
      (gR 9 22 S12 a0).bind fun r15 =>
      (ldI S12 r15 x3).bind fun v16 =>
      (if v14 = v16 then
      f_X9_otherwise_b103 (fun a0 x2 x3 S => f_X9_otherwise_b69  n a0 x2 x3 S) a0 x3 (-1 : Int32) S12
      else
      f_X9_otherwise_b103 (fun a0 x2 x3 S => f_X9_otherwise_b69  n a0 x2 x3 S) a0 x3 x3 S12)
      else
      f_X9_otherwise_b110 a0 x2 S))
def f_X9_otherwise_b26 : Nat → Nat → Int32 → Int32 → Mem → Option (Int32 × Mem)
  | 0, _, _, _, _ => none
  | n + 1, a0, x1, x2, S =>
    (if (101 : Int32) ≤ x2 then
      (ck 9 S a0).bind fun c5 =>
      (f_X9_backs a0 S).bind fun S6 =>
      (gR 9 7 S6 a0).bind fun r7 =>
      (stJ S6 r7 (0 : Int32) x1.toInt64).bind fun S8 =>
      f_X9_otherwise_b69 FU a0 (-1 : Int32) (1 : Int32) S8
      else
      (ck 9 S a0).bind fun c18 =>
      (f_X9_goesBy a0 S).bind fun S19 =>
      (gR 9 22 S19 a0).bind fun r20 =>
      (ck 9 S19 a0).bind fun c21 =>
      (f_X9_at a0 (2 : Int32) S19).bind fun v22 =>
      (stI S19 r20 x2 v22).bind fun S23 =>
      (some (x2 + (1 : Int32))).bind fun v24 =>
      f_X9_otherwise_b26  n a0 x1 v24 S23)
def f_X9_otherwise (a0 : Nat) (x1 : Int32) (S : Mem) : Option (Int32 × Mem) :=
    (f_X9_isRule x1).bind fun v1 =>
      (if v1 = (0 : Int32) then
      some ((-1000000001 : Int32), S)
      else
      (gI 9 1 S a0).bind fun v2 =>
      (if v2 = (0 : Int32) then
      some ((-1000000003 : Int32), S)
      else
      (ck 9 S a0).bind fun c3 =>
      (f_X9_asides a0 S).bind fun S4 =>
      f_X9_otherwise_b26 FU a0 x1 (1 : Int32) S4))
set_option maxHeartbeats 4000000 in
set_option maxRecDepth 100000 in
theorem w_X9_otherwise_b103 {p : Program} {l : Launch} {e : Env} {s : State} {m : MethodId} {args : Array Value} {below : List Frame} {meth : Method} {c : Code} {b0 : Nat} {D : va_G} {cy : Nat → ClassId} {q : (Int32 × Mem)} (C0 : Cx p m c cX9_otherwise 4 s args RX9 D cy) (hr : meth.sig.returnType = some .int) (hlocks : meth.locks = false) (k69 : Nat → Int32 → Int32 → Mem → Option (Int32 × Mem)) (hk69 : ∀ (a0 : Nat) (x2 : Int32) (x3 : Int32) (S : Mem) (H : Heap) (locs : List Loc) (ls : Array Slot), Wd b0 D cy S s.heap H locs → lv_has ls 4 [(0, .ref (b0 + a0)), (2, .int x2), (3, .int x3)] → k69 a0 x2 x3 S = some q → W p l e rm_X9_otherwise s m args below meth c H locs 0 0 (MQ below (Qp b0 D cy (some (.int q.1)) q.2) args s 0 0 (fun q => b0 ≤ q)) (F0 m 69 ls [])) : ∀ (a0 : Nat) (x3 : Int32) (t0 : Int32) (S : Mem) (H : Heap) (locs : List Loc) (ls : Array Slot), Wd b0 D cy S s.heap H locs → lv_has ls 4 [(0, .ref (b0 + a0)), (3, .int x3)] → f_X9_otherwise_b103 k69 a0 x3 t0 S = some q → W p l e rm_X9_otherwise s m args below meth c H locs 0 0 (MQ below (Qp b0 D cy (some (.int q.1)) q.2) args s 0 0 (fun q => b0 ≤ q)) (F0 m 103 ls [.int t0]) := by
  intro a0 x3 t0 S H locs ls hw hl h
  rw [f_X9_otherwise_b103] at h
  refine lv_istore_n (lv' := [(2, .int t0), (0, .ref (b0 + a0)), (3, .int x3)]) C0.hx C0.hb dX9_otherwise_103 rfl hl (by decide) rfl (fun ls hl => ?_)
  obtain ⟨v17, hv17, h⟩ := Option.bind_eq_some_iff.mp h
  refine lv_iinc (v := v17) (lv' := [(3, .int v17), (2, .int t0), (0, .ref (b0 + a0))]) C0.hx C0.hb dX9_otherwise_104 hl (k := 2) rfl (by rw [← Option.some.inj hv17]; rfl) (by decide) rfl (fun ls hl => ?_)
  refine lv_goto (tgt := 69) C0.hx C0.hb dX9_otherwise_107 (by decide) ?_
  exact hk69 a0 t0 v17 S _ _ _ hw (lv_sub hl [2, 1, 0] rfl) h
set_option maxHeartbeats 4000000 in
set_option maxRecDepth 100000 in
theorem w_X9_otherwise_b110 {p : Program} {l : Launch} {e : Env} {s : State} {m : MethodId} {args : Array Value} {below : List Frame} {meth : Method} {c : Code} {b0 : Nat} {D : va_G} {cy : Nat → ClassId} {q : (Int32 × Mem)} (C0 : Cx p m c cX9_otherwise 4 s args RX9 D cy) (hr : meth.sig.returnType = some .int) (hlocks : meth.locks = false) : ∀ (a0 : Nat) (x2 : Int32) (S : Mem) (H : Heap) (locs : List Loc) (ls : Array Slot), Wd b0 D cy S s.heap H locs → lv_has ls 4 [(0, .ref (b0 + a0)), (2, .int x2)] → f_X9_otherwise_b110  a0 x2 S = some q → W p l e rm_X9_otherwise s m args below meth c H locs 0 0 (MQ below (Qp b0 D cy (some (.int q.1)) q.2) args s 0 0 (fun q => b0 ≤ q)) (F0 m 110 ls []) := by
  intro a0 x2 S H locs ls hw hl h
  rw [f_X9_otherwise_b110] at h
  refine lv_aload_n C0.hx C0.hb dX9_otherwise_110 rfl (lv_at hl 0 rfl) ?_
  obtain ⟨c9, hc9, h⟩ := Option.bind_eq_some_iff.mp h
  obtain ⟨S10, hS10, h⟩ := Option.bind_eq_some_iff.mp h
  refine q_callV (n := 0) (av := []) (rest := []) (st1 := []) C0 hw (m_X9_backs l b0 D cy S a0 hS10) hc9 rfl (by decide) (goodV kw_1185 kw_1187 kw_56 kw_72 kw_1188) ⟨rfl, rfl⟩ (by decide +kernel) ⟨(Nat.le_of_ble_eq_true rfl), (Nat.le_of_ble_eq_true rfl)⟩ rfl hl.1 rfl (Nat.le_of_ble_eq_true rfl) dX9_otherwise_111 ⟨Nat.zero_le _, Nat.zero_le _⟩ rfl (fun H locs hw => ?_)
  refine lv_iload_n C0.hx C0.hb dX9_otherwise_114 rfl (lv_at hl 1 rfl) ?_
  obtain rfl := Option.some.inj h
  exact q_reti C0 hw hr hlocks dX9_otherwise_115
set_option maxHeartbeats 4000000 in
set_option maxRecDepth 100000 in
theorem w_X9_otherwise_b69 {p : Program} {l : Launch} {e : Env} {s : State} {m : MethodId} {args : Array Value} {below : List Frame} {meth : Method} {c : Code} {b0 : Nat} {D : va_G} {cy : Nat → ClassId} {q : (Int32 × Mem)} (C0 : Cx p m c cX9_otherwise 4 s args RX9 D cy) (hr : meth.sig.returnType = some .int) (hlocks : meth.locks = false) : ∀ (n : Nat) (a0 : Nat) (x2 : Int32) (x3 : Int32) (S : Mem) (H : Heap) (locs : List Loc) (ls : Array Slot), Wd b0 D cy S s.heap H locs → lv_has ls 4 [(0, .ref (b0 + a0)), (2, .int x2), (3, .int x3)] → f_X9_otherwise_b69  n a0 x2 x3 S = some q → W p l e rm_X9_otherwise s m args below meth c H locs 0 0 (MQ below (Qp b0 D cy (some (.int q.1)) q.2) args s 0 0 (fun q => b0 ≤ q)) (F0 m 69 ls []) := by
  intro n
  induction n with
  | zero => intro a0 x2 x3 S H locs ls hw hl h; exact absurd h (by simp [f_X9_otherwise_b69])
  | succ n ih =>
    intro a0 x2 x3 S H locs ls hw hl h
    rw [f_X9_otherwise_b69] at h
    refine lv_iload_n C0.hx C0.hb dX9_otherwise_69 rfl (lv_at hl 2 rfl) ?_
    refine lv_bipush (v := (101 : Int32)) C0.hx C0.hb dX9_otherwise_70 (by decide) ?_
    refine lv_icmp_ge (tgt := 110) C0.hx C0.hb dX9_otherwise_72 (by decide) (fun hc => ?_) (fun hc => ?_)
    · have h := (if_pos hc).symm.trans h
      exact w_X9_otherwise_b110 C0 hr hlocks a0 x2 S _ _ _ hw (lv_sub hl [0, 1] rfl) h
    · have h := (if_neg hc).symm.trans h
      refine lv_iload_n C0.hx C0.hb dX9_otherwise_75 rfl (lv_at hl 1 rfl) ?_
      refine lv_iconst (v := (-1 : Int32)) C0.hx C0.hb dX9_otherwise_76 (by decide) ?_
      refine lv_icmp_ne (tgt := 110) C0.hx C0.hb dX9_otherwise_77 (by decide) (fun hc => ?_) (fun hc => ?_)
      · have h := (if_neg hc).symm.trans h
        exact w_X9_otherwise_b110 C0 hr hlocks a0 x2 S _ _ _ hw (lv_sub hl [0, 1] rfl) h
      · have h := (if_pos hc).symm.trans h
        refine lv_aload_n C0.hx C0.hb dX9_otherwise_80 rfl (lv_at hl 0 rfl) ?_
        obtain ⟨c11, hc11, h⟩ := Option.bind_eq_some_iff.mp h
        obtain ⟨S12, hS12, h⟩ := Option.bind_eq_some_iff.mp h
        refine q_callV (n := 0) (av := []) (rest := []) (st1 := []) C0 hw (m_X9_goesBy l b0 D cy S a0 hS12) hc11 rfl (by decide) (goodV kw_1087 kw_1089 kw_45 kw_72 kw_1090) ⟨rfl, rfl⟩ (by decide +kernel) ⟨(Nat.le_of_ble_eq_true rfl), (Nat.le_of_ble_eq_true rfl)⟩ rfl hl.1 rfl (Nat.le_of_ble_eq_true rfl) dX9_otherwise_81 ⟨Nat.zero_le _, Nat.zero_le _⟩ rfl (fun H locs hw => ?_)
        refine lv_aload_n C0.hx C0.hb dX9_otherwise_84 rfl (lv_at hl 0 rfl) ?_
        refine lv_iconst (v := (2 : Int32)) C0.hx C0.hb dX9_otherwise_85 (by decide) ?_
        obtain ⟨c13, hc13, h⟩ := Option.bind_eq_some_iff.mp h
        obtain ⟨v14, hv14, h⟩ := Option.bind_eq_some_iff.mp h
        refine q_callV (n := 1) (av := [.int (2 : Int32)]) (rest := []) (st1 := [.int v14]) C0 hw (m_X9_at l b0 D cy S12 a0 (2 : Int32) hv14) hc13 rfl (by decide) (goodV kw_1013 kw_1015 kw_34 kw_72 kw_1016) ⟨rfl, rfl⟩ (by decide +kernel) ⟨(Nat.le_of_ble_eq_true rfl), (Nat.le_of_ble_eq_true rfl)⟩ rfl hl.1 rfl (Nat.le_of_ble_eq_true rfl) dX9_otherwise_86 ⟨Nat.zero_le _, Nat.zero_le _⟩ rfl (fun H locs hw => ?_)
        refine lv_aload_n C0.hx C0.hb dX9_otherwise_89 rfl (lv_at hl 0 rfl) ?_
        obtain ⟨r15, hr15, h⟩ := Option.bind_eq_some_iff.mp h
        refine q_getR C0 hw hr15 rfl in_9 (by decide) kw_884 dX9_otherwise_90 ?_
        refine lv_iload_n C0.hx C0.hb dX9_otherwise_93 rfl (lv_at hl 2 rfl) ?_
        obtain ⟨v16, hv16, h⟩ := Option.bind_eq_some_iff.mp h
        refine q_ldI C0 hw hv16 dX9_otherwise_94 ?_
        refine lv_icmp_ne (tgt := 102) C0.hx C0.hb dX9_otherwise_95 (by decide) (fun hc => ?_) (fun hc => ?_)
        · have h := (if_neg hc).symm.trans h
          refine lv_iload_n C0.hx C0.hb dX9_otherwise_102 rfl (lv_at hl 2 rfl) ?_
          exact w_X9_otherwise_b103 C0 hr hlocks (fun a0 x2 x3 S => f_X9_otherwise_b69  n a0 x2 x3 S) ih a0 x3 x3 S12 _ _ _ hw (lv_sub hl [0, 2] rfl) h
        · have h := (if_pos hc).symm.trans h
          refine lv_iconst (v := (-1 : Int32)) C0.hx C0.hb dX9_otherwise_98 (by decide) ?_
          refine lv_goto (tgt := 103) C0.hx C0.hb dX9_otherwise_99 (by decide) ?_
          exact w_X9_otherwise_b103 C0 hr hlocks (fun a0 x2 x3 S => f_X9_otherwise_b69  n a0 x2 x3 S) ih a0 x3 (-1 : Int32) S12 _ _ _ hw (lv_sub hl [0, 2] rfl) h
set_option maxHeartbeats 4000000 in
set_option maxRecDepth 100000 in
theorem w_X9_otherwise_b26 {p : Program} {l : Launch} {e : Env} {s : State} {m : MethodId} {args : Array Value} {below : List Frame} {meth : Method} {c : Code} {b0 : Nat} {D : va_G} {cy : Nat → ClassId} {q : (Int32 × Mem)} (C0 : Cx p m c cX9_otherwise 4 s args RX9 D cy) (hr : meth.sig.returnType = some .int) (hlocks : meth.locks = false) : ∀ (n : Nat) (a0 : Nat) (x1 : Int32) (x2 : Int32) (S : Mem) (H : Heap) (locs : List Loc) (ls : Array Slot), Wd b0 D cy S s.heap H locs → lv_has ls 4 [(0, .ref (b0 + a0)), (1, .int x1), (2, .int x2)] → f_X9_otherwise_b26  n a0 x1 x2 S = some q → W p l e rm_X9_otherwise s m args below meth c H locs 0 0 (MQ below (Qp b0 D cy (some (.int q.1)) q.2) args s 0 0 (fun q => b0 ≤ q)) (F0 m 26 ls []) := by
  intro n
  induction n with
  | zero => intro a0 x1 x2 S H locs ls hw hl h; exact absurd h (by simp [f_X9_otherwise_b26])
  | succ n ih =>
    intro a0 x1 x2 S H locs ls hw hl h
    rw [f_X9_otherwise_b26] at h
    refine lv_iload_n C0.hx C0.hb dX9_otherwise_26 rfl (lv_at hl 2 rfl) ?_
    refine lv_bipush (v := (101 : Int32)) C0.hx C0.hb dX9_otherwise_27 (by decide) ?_
    refine lv_icmp_ge (tgt := 53) C0.hx C0.hb dX9_otherwise_29 (by decide) (fun hc => ?_) (fun hc => ?_)
    · have h := (if_pos hc).symm.trans h
      refine lv_aload_n C0.hx C0.hb dX9_otherwise_53 rfl (lv_at hl 0 rfl) ?_
      obtain ⟨c5, hc5, h⟩ := Option.bind_eq_some_iff.mp h
      obtain ⟨S6, hS6, h⟩ := Option.bind_eq_some_iff.mp h
      refine q_callV (n := 0) (av := []) (rest := []) (st1 := []) C0 hw (m_X9_backs l b0 D cy S a0 hS6) hc5 rfl (by decide) (goodV kw_1185 kw_1187 kw_56 kw_72 kw_1188) ⟨rfl, rfl⟩ (by decide +kernel) ⟨(Nat.le_of_ble_eq_true rfl), (Nat.le_of_ble_eq_true rfl)⟩ rfl hl.1 rfl (Nat.le_of_ble_eq_true rfl) dX9_otherwise_54 ⟨Nat.zero_le _, Nat.zero_le _⟩ rfl (fun H locs hw => ?_)
      refine lv_aload_n C0.hx C0.hb dX9_otherwise_57 rfl (lv_at hl 0 rfl) ?_
      obtain ⟨r7, hr7, h⟩ := Option.bind_eq_some_iff.mp h
      refine q_getR C0 hw hr7 rfl in_9 (by decide) kw_869 dX9_otherwise_58 ?_
      refine lv_iconst (v := (0 : Int32)) C0.hx C0.hb dX9_otherwise_61 (by decide) ?_
      refine lv_iload_n C0.hx C0.hb dX9_otherwise_62 rfl (lv_at hl 1 rfl) ?_
      refine lv_i2l C0.hx C0.hb dX9_otherwise_63 rfl ?_
      obtain ⟨S8, hS8, h⟩ := Option.bind_eq_some_iff.mp h
      refine q_stJ C0 hw hS8 dX9_otherwise_64 (fun H locs hw => ?_)
      refine lv_iconst (v := (-1 : Int32)) C0.hx C0.hb dX9_otherwise_65 (by decide) ?_
      refine lv_istore_n (lv' := [(2, .int (-1 : Int32)), (0, .ref (b0 + a0)), (1, .int x1)]) C0.hx C0.hb dX9_otherwise_66 rfl hl (by decide) rfl (fun ls hl => ?_)
      refine lv_iconst (v := (1 : Int32)) C0.hx C0.hb dX9_otherwise_67 (by decide) ?_
      refine lv_istore_n (lv' := [(3, .int (1 : Int32)), (2, .int (-1 : Int32)), (0, .ref (b0 + a0)), (1, .int x1)]) C0.hx C0.hb dX9_otherwise_68 rfl hl (by decide) rfl (fun ls hl => ?_)
      exact w_X9_otherwise_b69 C0 hr hlocks FU a0 (-1 : Int32) (1 : Int32) S8 _ _ _ hw (lv_sub hl [2, 1, 0] rfl) h
    · have h := (if_neg hc).symm.trans h
      refine lv_aload_n C0.hx C0.hb dX9_otherwise_32 rfl (lv_at hl 0 rfl) ?_
      obtain ⟨c18, hc18, h⟩ := Option.bind_eq_some_iff.mp h
      obtain ⟨S19, hS19, h⟩ := Option.bind_eq_some_iff.mp h
      refine q_callV (n := 0) (av := []) (rest := []) (st1 := []) C0 hw (m_X9_goesBy l b0 D cy S a0 hS19) hc18 rfl (by decide) (goodV kw_1087 kw_1089 kw_45 kw_72 kw_1090) ⟨rfl, rfl⟩ (by decide +kernel) ⟨(Nat.le_of_ble_eq_true rfl), (Nat.le_of_ble_eq_true rfl)⟩ rfl hl.1 rfl (Nat.le_of_ble_eq_true rfl) dX9_otherwise_33 ⟨Nat.zero_le _, Nat.zero_le _⟩ rfl (fun H locs hw => ?_)
      refine lv_aload_n C0.hx C0.hb dX9_otherwise_36 rfl (lv_at hl 0 rfl) ?_
      obtain ⟨r20, hr20, h⟩ := Option.bind_eq_some_iff.mp h
      refine q_getR C0 hw hr20 rfl in_9 (by decide) kw_884 dX9_otherwise_37 ?_
      refine lv_iload_n C0.hx C0.hb dX9_otherwise_40 rfl (lv_at hl 2 rfl) ?_
      refine lv_aload_n C0.hx C0.hb dX9_otherwise_41 rfl (lv_at hl 0 rfl) ?_
      refine lv_iconst (v := (2 : Int32)) C0.hx C0.hb dX9_otherwise_42 (by decide) ?_
      obtain ⟨c21, hc21, h⟩ := Option.bind_eq_some_iff.mp h
      obtain ⟨v22, hv22, h⟩ := Option.bind_eq_some_iff.mp h
      refine q_callV (n := 1) (av := [.int (2 : Int32)]) (rest := [.int x2, .ref (b0 + r20)]) (st1 := [.int v22, .int x2, .ref (b0 + r20)]) C0 hw (m_X9_at l b0 D cy S19 a0 (2 : Int32) hv22) hc21 rfl (by decide) (goodV kw_1013 kw_1015 kw_34 kw_72 kw_1016) ⟨rfl, rfl⟩ (by decide +kernel) ⟨(Nat.le_of_ble_eq_true rfl), (Nat.le_of_ble_eq_true rfl)⟩ rfl hl.1 rfl (Nat.le_of_ble_eq_true rfl) dX9_otherwise_43 ⟨Nat.zero_le _, Nat.zero_le _⟩ rfl (fun H locs hw => ?_)
      obtain ⟨S23, hS23, h⟩ := Option.bind_eq_some_iff.mp h
      refine q_stI C0 hw hS23 dX9_otherwise_46 (fun H locs hw => ?_)
      obtain ⟨v24, hv24, h⟩ := Option.bind_eq_some_iff.mp h
      refine lv_iinc (v := v24) (lv' := [(2, .int v24), (0, .ref (b0 + a0)), (1, .int x1)]) C0.hx C0.hb dX9_otherwise_47 hl (k := 2) rfl (by rw [← Option.some.inj hv24]; rfl) (by decide) rfl (fun ls hl => ?_)
      refine lv_goto (tgt := 26) C0.hx C0.hb dX9_otherwise_50 (by decide) ?_
      exact ih a0 x1 v24 S23 _ _ _ hw (lv_sub hl [1, 2, 0] rfl) h
set_option maxHeartbeats 4000000 in
set_option maxRecDepth 100000 in
theorem m_X9_otherwise (l : Launch) (b0 : Nat) (D : va_G) (cy : Nat → ClassId) (S : Mem) (a0 : Nat) (x1 : Int32) {q : (Int32 × Mem)} (h : f_X9_otherwise a0 x1 S = some q) : Met l yX9_otherwise [.code yX9_otherwise cX9_otherwise 4 (some .int)] rm_X9_otherwise (Pr b0 D cy S [.ref (b0 + a0), .int x1]) (Qp b0 D cy (some (.int q.1)) q.2) 0 0 (fun q => b0 ≤ q) := by
  refine Met.ofW (cc := cX9_otherwise) (maxL := 4) (ret := some .int) (by decide) rfl ?_
  intro p e s m args below meth c s₁ B hml hv
  obtain ⟨rfl, hP, hK, hT⟩ := hv
  have C0 : Cx p m c cX9_otherwise 4 s (List.toArray [.ref (b0 + a0), .int x1]) RX9 D cy := ⟨⟨B.exec, B.bytes, hml, findClass_of_methodNamed B.named, fun w h => hT w h _⟩, hK, hT⟩
  have hr : meth.sig.returnType = some .int := B.returns
  have hlocks := B.notSynchronized
  have hw : Wd b0 D cy S s.heap s.heap [] := ⟨hP, va_S.rf⟩
  have hl := lv_entry ([.ref (b0 + a0), .int x1]) (n := 4) (Nat.le_of_ble_eq_true rfl)
  rw [lg_entry_eq]
  generalize (lg_sl ([.ref (b0 + a0), .int x1]) ++ List.replicate (4 - (lg_sl ([.ref (b0 + a0), .int x1])).length) Slot.unset).toArray = ls at hl ⊢
  have hl : lv_has ls 4 [(0, .ref (b0 + a0)), (1, .int x1)] := hl
  rw [f_X9_otherwise] at h
  show W p l e rm_X9_otherwise s m _ below meth c s.heap [] 0 0 _ _
  refine lv_iload_n C0.hx C0.hb dX9_otherwise_0 rfl (lv_at hl 1 rfl) ?_
  obtain ⟨v1, hv1, h⟩ := Option.bind_eq_some_iff.mp h
  refine q_callS (n := 1) (av := [.int x1]) (rest := []) (st1 := [.int v1]) C0 hw (m_X9_isRule l b0 D cy S x1 hv1) (goodS kw_1152 kw_1153 kw_72 kw_1154) ⟨rfl, rfl⟩ (by decide +kernel) ⟨(Nat.le_of_ble_eq_true rfl), (Nat.le_of_ble_eq_true rfl)⟩ rfl hl.1 rfl (Nat.le_of_ble_eq_true rfl) dX9_otherwise_1 ⟨Nat.zero_le _, Nat.zero_le _⟩ rfl (fun H locs hw => ?_)
  refine lv_if_ne (tgt := 10) C0.hx C0.hb dX9_otherwise_4 (by decide) (fun hc => ?_) (fun hc => ?_)
  · have h := (if_neg hc).symm.trans h
    refine lv_aload_n C0.hx C0.hb dX9_otherwise_10 rfl (lv_at hl 0 rfl) ?_
    obtain ⟨v2, hv2, h⟩ := Option.bind_eq_some_iff.mp h
    refine q_getI C0 hw hv2 rfl in_9 (by decide) kw_863 dX9_otherwise_11 ?_
    refine lv_if_ne (tgt := 20) C0.hx C0.hb dX9_otherwise_14 (by decide) (fun hc => ?_) (fun hc => ?_)
    · have h := (if_neg hc).symm.trans h
      refine lv_aload_n C0.hx C0.hb dX9_otherwise_20 rfl (lv_at hl 0 rfl) ?_
      obtain ⟨c3, hc3, h⟩ := Option.bind_eq_some_iff.mp h
      obtain ⟨S4, hS4, h⟩ := Option.bind_eq_some_iff.mp h
      refine q_callV (n := 0) (av := []) (rest := []) (st1 := []) C0 hw (m_X9_asides l b0 D cy S a0 hS4) hc3 rfl (by decide) (goodV kw_1181 kw_1183 kw_55 kw_72 kw_1184) ⟨rfl, rfl⟩ (by decide +kernel) ⟨(Nat.le_of_ble_eq_true rfl), (Nat.le_of_ble_eq_true rfl)⟩ rfl hl.1 rfl (Nat.le_of_ble_eq_true rfl) dX9_otherwise_21 ⟨Nat.zero_le _, Nat.zero_le _⟩ rfl (fun H locs hw => ?_)
      refine lv_iconst (v := (1 : Int32)) C0.hx C0.hb dX9_otherwise_24 (by decide) ?_
      refine lv_istore_n (lv' := [(2, .int (1 : Int32)), (0, .ref (b0 + a0)), (1, .int x1)]) C0.hx C0.hb dX9_otherwise_25 rfl hl (by decide) rfl (fun ls hl => ?_)
      exact w_X9_otherwise_b26 C0 hr hlocks FU a0 x1 (1 : Int32) S4 _ _ _ hw (lv_sub hl [1, 2, 0] rfl) h
    · have h := (if_pos hc).symm.trans h
      refine lv_ldc C0.hx C0.hb C0.ho (C0.w kw_1077) dX9_otherwise_17 ?_
      obtain rfl := Option.some.inj h
      exact q_reti C0 hw hr hlocks dX9_otherwise_19
  · have h := (if_pos hc).symm.trans h
    refine lv_ldc C0.hx C0.hb C0.ho (C0.w kw_1025) dX9_otherwise_7 ?_
    obtain rfl := Option.some.inj h
    exact q_reti C0 hw hr hlocks dX9_otherwise_9
