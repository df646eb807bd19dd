/-! the tables' words, at every state of the run -/
def okw : Cond → Bool
  | .methodLinkNest _ _ _ _ => true
  | .arrayOver (.object _) => true
  | w => goodWord w
def tb : List Cond := lw_tbl.filter okw
theorem tb_ok : ∀ w ∈ tb, okw w = true := fun w h => (List.mem_filter.mp h).2
theorem tb_in {w : Cond} {i : Nat} (h : lw_tbl[i]? = some w) (hk : okw w = true) : w ∈ tb := List.mem_filter.mpr ⟨List.mem_of_getElem? h, hk⟩
def TB (U : State) : Prop := ∀ w ∈ tb, ∀ a : Array Value, w.before a U = true
theorem okw_warm {w : Cond} (hk : okw w = true) {s U : State} (hW : s.WarmedH U.vm) (h : ∀ a : Array Value, w.before a s = true) (a : Array Value) : w.before a U = true := by
  unfold okw at hk
  split at hk
  · exact va_Nw.use rfl (va_Nw.warmM hW (h #[]))
  · exact va_AO.use (va_AO.moved hW.alike (va_AO.of (h #[])))
  · exact word_at hW (good_of_word hk) (h #[])
theorem TB.warm {s U : State} (hW : s.WarmedH U.vm) (h : TB s) : TB U := fun w hw a => okw_warm (tb_ok w hw) hW (h w hw) a
/-! a method's context; its world; its start and end -/
def Cx (p : Program) (m : MethodId) (c : Code) (cc : ByteArray) (nL : Nat) (s : State) (args : Array Value) (own : String) (D : va_G) (cy : Nat → ClassId) : Prop :=
  CallFix p m c cc nL s args tb own ∧ va_K D vwCl (tyl cy) s ∧ TB s
def Wd (b0 : Nat) (D : va_G) (cy : Nat → ClassId) (S : Mem) (H0 H : Heap) (locs : List Loc) : Prop :=
  va_P D vwCl (wl b0 cy S) H ∧ va_S (fun q => b0 ≤ q) H0 H locs
def Pr (b0 : Nat) (D : va_G) (cy : Nat → ClassId) (S : Mem) (av : List Value) : Array Value → State → Prop :=
  va_Pc av (fun U => va_P D vwCl (wl b0 cy S) U.heap ∧ va_K D vwCl (tyl cy) U ∧ TB U)
def Qp (b0 : Nat) (D : va_G) (cy : Nat → ClassId) (v : Option Value) (S : Mem) : Array Value → State → Outcome → State → Prop :=
  fun _ st oc t => (oc = .returned v ∧ va_P D vwCl (wl b0 cy S) t.heap) ∧ va_F (fun q => b0 ≤ q) st t
/-- the same for what makes cells: where the heap ends -/
def PrN (b0 : Nat) (D : va_G) (cy : Nat → ClassId) (S : Mem) (av : List Value) : Array Value → State → Prop :=
  va_Pc av (fun U => U.heap.size = b0 + S.1 ∧ va_P D vwCl (wl b0 cy S) U.heap ∧ va_K D vwCl (tyl cy) U ∧ TB U)
theorem Pr_blind {b0 : Nat} {D : va_G} {cy : Nat → ClassId} {S : Mem} {av : List Value} : FrameBlind (Pr b0 D cy S av) :=
  fun a U g mk q => ⟨q.1, q.2.1, va_K.moved (u := U) (U := U.calling g mk a) (Vm.Alike.refl U.vm) q.2.2.1, TB.warm (s := U) (U := U.calling g mk a) (State.WarmedH.refl U) q.2.2.2⟩
theorem PrN_blind {b0 : Nat} {D : va_G} {cy : Nat → ClassId} {S : Mem} {av : List Value} : FrameBlind (PrN b0 D cy S av) :=
  fun a U g mk q => ⟨q.1, q.2.1, q.2.2.1, va_K.moved (u := U) (U := U.calling g mk a) (Vm.Alike.refl U.vm) q.2.2.2.1, TB.warm (s := U) (U := U.calling g mk a) (State.WarmedH.refl U) q.2.2.2.2⟩
section QR
variable {p : Program} {l : Launch} {e : Env} {R : Room} {s : State} {m : MethodId} {args : Array Value} {below : List Frame} {meth : Method} {c : Code} {H : Heap} {locs : List Loc} {cells slots : Nat} {Q : State → Prop}
variable {cc : ByteArray} {nL pc : Nat} {ls : Array Slot} {rest : List Value} {b0 : Nat} {D : va_G} {cy : Nat → ClassId} {S : Mem} {own : String}
theorem Cx.hx (C0 : Cx p m c cc nL s args own D cy) : p.tables.exec = Jvm.exec := C0.1.1
theorem Cx.hb (C0 : Cx p m c cc nL s args own D cy) : c.code = cc := C0.1.2.1
theorem Cx.ho (C0 : Cx p m c cc nL s args own D cy) : s.vm.findClass own = some m.cls := C0.1.2.2.2.1
theorem Cx.w (C0 : Cx p m c cc nL s args own D cy) {w : Cond} (h : w ∈ tb) : w.before args s = true := C0.2.2 w h args
theorem W_size {g : JFrame} (k : H.size ≤ s.heap.size + cells → W p l e R s m args below meth c H locs cells slots Q g) : W p l e R s m args below meth c H locs cells slots Q g :=
  fun T hT X => k (by rw [← hT]; exact X.heapSize) T hT X
theorem q_getI {C : String} {T : u_T} {N ci index k a : Nat} {x : Int32} (C0 : Cx p m c cc nL s args own D cy) (hw : Wd b0 D cy S s.heap H locs) (h : gI ci k S a = some x) (hc : vwCl[ci]? = some (C, T, N)) (hin : ∀ w ∈ u_ws C T N, w ∈ tb) (hf : ci < 10 ∧ k < N ∧ (ft ci).getD k 9 = 0) (hl : Cond.fieldLink own index (T k).1 (T k).2.1 (T k).2.2.1 ∈ tb) (hdg : decode cc pc = .ok (.getfield index, 3))
    (kk : W p l e R s m args below meth c H locs cells slots Q (F0 m (pc + 3) ls (.int x :: rest))) : W p l e R s m args below meth c H locs cells slots Q (F0 m pc ls (.ref (b0 + a) :: rest)) := by
  unfold gI at h
  split at h
  case isTrue hh =>
    obtain ⟨h1, h2⟩ := ft_lt hf.2.2 (by decide)
    refine va_get (fs := flds b0 S a ci) C0.hx C0.hb (fun w hw => C0.w hw) hin C0.ho C0.2.1 hw.1 a (by rw [wl_get hh.1, cel_O hh.2 hf.1]) hc k hf.2.1 (C0.w hl) (fun _ h => h) (v := .int x) ?_ hdg kk
    rw [flds_get h1, h2, ← Option.some.inj h]
    rfl
  case isFalse => cases h
theorem q_getJ {C : String} {T : u_T} {N ci index k a : Nat} {x : Int64} (C0 : Cx p m c cc nL s args own D cy) (hw : Wd b0 D cy S s.heap H locs) (h : gJ ci k S a = some x) (hc : vwCl[ci]? = some (C, T, N)) (hin : ∀ w ∈ u_ws C T N, w ∈ tb) (hf : ci < 10 ∧ k < N ∧ (ft ci).getD k 9 = 1) (hl : Cond.fieldLink own index (T k).1 (T k).2.1 (T k).2.2.1 ∈ tb) (hdg : decode cc pc = .ok (.getfield index, 3))
    (kk : W p l e R s m args below meth c H locs cells slots Q (F0 m (pc + 3) ls (.long x :: rest))) : W p l e R s m args below meth c H locs cells slots Q (F0 m pc ls (.ref (b0 + a) :: rest)) := by
  unfold gJ at h
  split at h
  case isTrue hh =>
    obtain ⟨h1, h2⟩ := ft_lt hf.2.2 (by decide)
    refine va_get (fs := flds b0 S a ci) C0.hx C0.hb (fun w hw => C0.w hw) hin C0.ho C0.2.1 hw.1 a (by rw [wl_get hh.1, cel_O hh.2 hf.1]) hc k hf.2.1 (C0.w hl) (fun _ h => h) (v := .long x) ?_ hdg kk
    rw [flds_get h1, h2, ← Option.some.inj h]
    rfl
  case isFalse => cases h
theorem q_getR {C : String} {T : u_T} {N ci index k a : Nat} {x : Nat} (C0 : Cx p m c cc nL s args own D cy) (hw : Wd b0 D cy S s.heap H locs) (h : gR ci k S a = some x) (hc : vwCl[ci]? = some (C, T, N)) (hin : ∀ w ∈ u_ws C T N, w ∈ tb) (hf : ci < 10 ∧ k < N ∧ (ft ci).getD k 9 = 2) (hl : Cond.fieldLink own index (T k).1 (T k).2.1 (T k).2.2.1 ∈ tb) (hdg : decode cc pc = .ok (.getfield index, 3))
    (kk : W p l e R s m args below meth c H locs cells slots Q (F0 m (pc + 3) ls (.ref (b0 + x) :: rest))) : W p l e R s m args below meth c H locs cells slots Q (F0 m pc ls (.ref (b0 + a) :: rest)) := by
  unfold gR at h
  split at h
  case isTrue hh =>
    obtain ⟨h1, h2⟩ := ft_lt hf.2.2 (by decide)
    refine va_get (fs := flds b0 S a ci) C0.hx C0.hb (fun w hw => C0.w hw) hin C0.ho C0.2.1 hw.1 a (by rw [wl_get hh.1, cel_O hh.2 hf.1]) hc k hf.2.1 (C0.w hl) (fun _ h => h) (v := .ref (b0 + x)) ?_ hdg kk
    rw [flds_get h1, h2]
    simp [fval, h, va_rf]
  case isFalse => cases h
theorem Wd.row {S' : Mem} {a : Nat} {e' : va_E} {H1 : Heap} {locs1 : List Loc} (ha : a < S.1) (hN : S'.1 = S.1) (hne : ∀ x, x ≠ a → cel b0 cy S' x = cel b0 cy S x) (he : cel b0 cy S' a = e') (hP : va_P D vwCl ((wl b0 cy S).set a (b0 + a, e')) H1) (hS : va_S (fun q => b0 ≤ q) s.heap H1 locs1) : Wd b0 D cy S' s.heap H1 locs1 :=
  ⟨by rw [← wl_set ha hN hne he]; exact hP, hS⟩
theorem q_putI {C : String} {T : u_T} {N ci index k a : Nat} {x : Int32} {S1 : Mem} {ty0 : Nat → FieldType} (C0 : Cx p m c cc nL s args own D cy) (hw : Wd b0 D cy S s.heap H locs) (h : pI ci k S a x = some S1) (hc : vwCl[ci]? = some (C, T, N)) (hin : ∀ w ∈ u_ws C T N, w ∈ tb) (hty : ∀ k, k < N → parseFieldDescriptor (T k).2.2.1 = some (ty0 k)) (hnm : ∀ a, a < N → ∀ b, b < N → a ≠ b → (T a).2.1 ≠ (T b).2.1) (hf : ci < 10 ∧ k < N ∧ (ft ci).getD k 9 = 0 ∧ (T k).2.2.2 = false) (hd : ty0 k = .int) (hl : Cond.fieldLink own index (T k).1 (T k).2.1 (T k).2.2.1 ∈ tb) (hdg : decode cc pc = .ok (.putfield index, 3))
    (kk : ∀ (H : Heap) (locs : List Loc), Wd b0 D cy S1 s.heap H locs → W p l e R s m args below meth c H locs cells slots Q (F0 m (pc + 3) ls rest)) : W p l e R s m args below meth c H locs cells slots Q (F0 m pc ls (.int x :: .ref (b0 + a) :: rest)) := by
  unfold pI at h
  split at h
  case isTrue hh =>
    obtain rfl := Option.some.inj h
    obtain ⟨h1, h2⟩ := ft_lt hf.2.2.1 (by decide)
    refine va_put (fs := flds b0 S a ci) (ty := .int) C0.hx C0.hb (fun w hw => C0.w hw) hin ty0 hty hnm C0.ho C0.2.1 hw.1 wl_D hw.2 a (by rw [wl_get hh.1, cel_O hh.2 hf.1]) hc k hf.2.1 (C0.w hl) (fun _ h => h) hf.2.2.2 (by rw [hty k hf.2.1, hd]) rfl rfl (by rw [flds_len]; exact h1) hdg (fun H1 locs1 hP _ hS => kk H1 locs1 ?_)
    refine Wd.row hh.1 rfl cel_rowI ?_ hP hS
    rw [cel_O hh.2 hf.1, flds_setI hf.2.2.1]
  case isFalse => cases h
theorem q_putZ {C : String} {T : u_T} {N ci index k a : Nat} {x : Int32} {S1 : Mem} {ty0 : Nat → FieldType} (C0 : Cx p m c cc nL s args own D cy) (hw : Wd b0 D cy S s.heap H locs) (h : pZ ci k S a x = some S1) (hc : vwCl[ci]? = some (C, T, N)) (hin : ∀ w ∈ u_ws C T N, w ∈ tb) (hty : ∀ k, k < N → parseFieldDescriptor (T k).2.2.1 = some (ty0 k)) (hnm : ∀ a, a < N → ∀ b, b < N → a ≠ b → (T a).2.1 ≠ (T b).2.1) (hf : ci < 10 ∧ k < N ∧ (ft ci).getD k 9 = 0 ∧ (T k).2.2.2 = false) (hd : ty0 k = .boolean) (hl : Cond.fieldLink own index (T k).1 (T k).2.1 (T k).2.2.1 ∈ tb) (hdg : decode cc pc = .ok (.putfield index, 3))
    (kk : ∀ (H : Heap) (locs : List Loc), Wd b0 D cy S1 s.heap H locs → W p l e R s m args below meth c H locs cells slots Q (F0 m (pc + 3) ls rest)) : W p l e R s m args below meth c H locs cells slots Q (F0 m pc ls (.int x :: .ref (b0 + a) :: rest)) := by
  unfold pZ at h
  split at h
  case isTrue hh =>
    obtain ⟨hh, hx⟩ := hh
    obtain rfl := Option.some.inj h
    obtain ⟨h1, h2⟩ := ft_lt hf.2.2.1 (by decide)
    refine va_put (fs := flds b0 S a ci) (ty := .boolean) C0.hx C0.hb (fun w hw => C0.w hw) hin ty0 hty hnm C0.ho C0.2.1 hw.1 wl_D hw.2 a (by rw [wl_get hh.1, cel_O hh.2 hf.1]) hc k hf.2.1 (C0.w hl) (fun _ h => h) hf.2.2.2 (by rw [hty k hf.2.1, hd]) (by rcases hx with rfl | rfl <;> rfl) (by rcases hx with rfl | rfl <;> rfl) (by rw [flds_len]; exact h1) hdg (fun H1 locs1 hP _ hS => kk H1 locs1 ?_)
    refine Wd.row hh.1 rfl cel_rowI ?_ hP hS
    rw [cel_O hh.2 hf.1, flds_setI hf.2.2.1]
  case isFalse => cases h
theorem q_putJ {C : String} {T : u_T} {N ci index k a : Nat} {x : Int64} {S1 : Mem} {ty0 : Nat → FieldType} (C0 : Cx p m c cc nL s args own D cy) (hw : Wd b0 D cy S s.heap H locs) (h : pJ ci k S a x = some S1) (hc : vwCl[ci]? = some (C, T, N)) (hin : ∀ w ∈ u_ws C T N, w ∈ tb) (hty : ∀ k, k < N → parseFieldDescriptor (T k).2.2.1 = some (ty0 k)) (hnm : ∀ a, a < N → ∀ b, b < N → a ≠ b → (T a).2.1 ≠ (T b).2.1) (hf : ci < 10 ∧ k < N ∧ (ft ci).getD k 9 = 1 ∧ (T k).2.2.2 = false) (hd : ty0 k = .long) (hl : Cond.fieldLink own index (T k).1 (T k).2.1 (T k).2.2.1 ∈ tb) (hdg : decode cc pc = .ok (.putfield index, 3))
    (kk : ∀ (H : Heap) (locs : List Loc), Wd b0 D cy S1 s.heap H locs → W p l e R s m args below meth c H locs cells slots Q (F0 m (pc + 3) ls rest)) : W p l e R s m args below meth c H locs cells slots Q (F0 m pc ls (.long x :: .ref (b0 + a) :: rest)) := by
  unfold pJ at h
  split at h
  case isTrue hh =>
    obtain rfl := Option.some.inj h
    obtain ⟨h1, h2⟩ := ft_lt hf.2.2.1 (by decide)
    refine va_put (fs := flds b0 S a ci) (ty := .long) C0.hx C0.hb (fun w hw => C0.w hw) hin ty0 hty hnm C0.ho C0.2.1 hw.1 wl_D hw.2 a (by rw [wl_get hh.1, cel_O hh.2 hf.1]) hc k hf.2.1 (C0.w hl) (fun _ h => h) hf.2.2.2 (by rw [hty k hf.2.1, hd]) rfl rfl (by rw [flds_len]; exact h1) hdg (fun H1 locs1 hP _ hS => kk H1 locs1 ?_)
    refine Wd.row hh.1 rfl cel_rowJ ?_ hP hS
    rw [cel_O hh.2 hf.1, flds_setJ hf.2.2.1]
  case isFalse => cases h
theorem q_putR {C : String} {T : u_T} {N ci index k a v : Nat} {S1 : Mem} {ty0 : Nat → FieldType} (C0 : Cx p m c cc nL s args own D cy) (hw : Wd b0 D cy S s.heap H locs) (h : pR ci k S a v = some S1) (hc : vwCl[ci]? = some (C, T, N)) (hin : ∀ w ∈ u_ws C T N, w ∈ tb) (hty : ∀ k, k < N → parseFieldDescriptor (T k).2.2.1 = some (ty0 k)) (hnm : ∀ a, a < N → ∀ b, b < N → a ≠ b → (T a).2.1 ≠ (T b).2.1) (hf : ci < 10 ∧ k < N ∧ (ft ci).getD k 9 = 2 ∧ (T k).2.2.2 = false) (hd : ∀ x : Nat, narrow (ty0 k) (.ref x) = .ref x ∧ fits (ty0 k) (.ref x) = true) (hl : Cond.fieldLink own index (T k).1 (T k).2.1 (T k).2.2.1 ∈ tb) (hdg : decode cc pc = .ok (.putfield index, 3))
    (kk : ∀ (H : Heap) (locs : List Loc), Wd b0 D cy S1 s.heap H locs → W p l e R s m args below meth c H locs cells slots Q (F0 m (pc + 3) ls rest)) : W p l e R s m args below meth c H locs cells slots Q (F0 m pc ls (.ref (b0 + v) :: .ref (b0 + a) :: rest)) := by
  unfold pR at h
  split at h
  case isTrue hh =>
    obtain rfl := Option.some.inj h
    obtain ⟨h1, h2⟩ := ft_lt hf.2.2.1 (by decide)
    refine va_put (fs := flds b0 S a ci) (ty := ty0 k) C0.hx C0.hb (fun w hw => C0.w hw) hin ty0 hty hnm C0.ho C0.2.1 hw.1 wl_D hw.2 a (by rw [wl_get hh.1, cel_O hh.2 hf.1]) hc k hf.2.1 (C0.w hl) (fun _ h => h) hf.2.2.2 (hty k hf.2.1) (hd _).1 (hd _).2 (by rw [flds_len]; exact h1) hdg (fun H1 locs1 hP _ hS => kk H1 locs1 ?_)
    refine Wd.row hh.1 rfl cel_rowR ?_ hP hS
    rw [cel_O hh.2 hf.1, flds_setR hf.2.2.1]
  case isFalse => cases h
theorem q_putF {C : String} {T : u_T} {N ci index k a v : Nat} {S1 : Mem} {ty0 : Nat → FieldType} (C0 : Cx p m c cc nL s args own D cy) (hw : Wd b0 D cy S s.heap H locs) (hmn : meth.name = "<init>") (h : pR ci k S a v = some S1) (hc : vwCl[ci]? = some (C, T, N)) (hin : ∀ w ∈ u_ws C T N, w ∈ tb) (hty : ∀ k, k < N → parseFieldDescriptor (T k).2.2.1 = some (ty0 k)) (hnm : ∀ a, a < N → ∀ b, b < N → a ≠ b → (T a).2.1 ≠ (T b).2.1) (hf : ci < 10 ∧ k < N ∧ (ft ci).getD k 9 = 2 ∧ (T k).2.2.2 = true ∧ (T k).1 = own) (hd : ∀ x : Nat, narrow (ty0 k) (.ref x) = .ref x ∧ fits (ty0 k) (.ref x) = true) (hl : Cond.fieldLink own index (T k).1 (T k).2.1 (T k).2.2.1 ∈ tb) (hdg : decode cc pc = .ok (.putfield index, 3))
    (kk : ∀ (H : Heap) (locs : List Loc), Wd b0 D cy S1 s.heap H locs → W p l e R s m args below meth c H locs cells slots Q (F0 m (pc + 3) ls rest)) : W p l e R s m args below meth c H locs cells slots Q (F0 m pc ls (.ref (b0 + v) :: .ref (b0 + a) :: rest)) := by
  unfold pR at h
  split at h
  case isTrue hh =>
    obtain rfl := Option.some.inj h
    obtain ⟨h1, h2⟩ := ft_lt hf.2.2.1 (by decide)
    refine va_putF (fs := flds b0 S a ci) (ty := ty0 k) C0.hx C0.hb (fun w hw => C0.w hw) hin ty0 hty hnm C0.ho C0.2.1 hw.1 wl_D hw.2 a (by rw [wl_get hh.1, cel_O hh.2 hf.1]) hc k hf.2.1 (C0.w hl) (fun _ h => h) hf.2.2.2.1 hmn hf.2.2.2.2 (hty k hf.2.1) (hd _).1 (hd _).2 (by rw [flds_len]; exact h1) hdg (fun H1 locs1 hP _ hS => kk H1 locs1 ?_)
    refine Wd.row hh.1 rfl cel_rowR ?_ hP hS
    rw [cel_O hh.2 hf.1, flds_setR hf.2.2.1]
  case isFalse => cases h
/-! arrays -/
theorem vin {i : Int32} {n : Nat} (h : ¬ i < 0 ∧ i.toNatClampNeg < n) : vp_in i n := fun q => q.elim h.1 (fun q => absurd h.2 (Nat.not_lt.mpr q))
theorem q_ldI {a : Nat} {i x : Int32} (C0 : Cx p m c cc nL s args own D cy) (hw : Wd b0 D cy S s.heap H locs) (h : ldI S a i = some x) (hdg : decode cc pc = .ok (.iaload, 1))
    (kk : W p l e R s m args below meth c H locs cells slots Q (F0 m (pc + 1) ls (.int x :: rest))) : W p l e R s m args below meth c H locs cells slots Q (F0 m pc ls (.int i :: .ref (b0 + a) :: rest)) := by
  unfold ldI at h
  split at h
  case isTrue hh =>
    obtain rfl := Option.some.inj h
    exact va_iald C0.hx C0.hb C0.2.1 hw.1 a 0 (by rw [wl_get hh.1.1, cel_I hh.1.2]) rfl (vin hh.2) hdg kk
  case isFalse => cases h
theorem q_ldZ {a : Nat} {i x : Int32} (C0 : Cx p m c cc nL s args own D cy) (hw : Wd b0 D cy S s.heap H locs) (h : ldZ S a i = some x) (hdg : decode cc pc = .ok (.baload, 1))
    (kk : W p l e R s m args below meth c H locs cells slots Q (F0 m (pc + 1) ls (.int x :: rest))) : W p l e R s m args below meth c H locs cells slots Q (F0 m pc ls (.int i :: .ref (b0 + a) :: rest)) := by
  unfold ldZ at h
  split at h
  case isTrue hh =>
    obtain rfl := Option.some.inj h
    exact va_zald C0.hx C0.hb C0.2.1 hw.1 a 2 (by rw [wl_get hh.1.1, cel_Z hh.1.2]) rfl (vin hh.2) hdg kk
  case isFalse => cases h
theorem q_ldJ {a : Nat} {i : Int32} {x : Int64} (C0 : Cx p m c cc nL s args own D cy) (hw : Wd b0 D cy S s.heap H locs) (h : ldJ S a i = some x) (hdg : decode cc pc = .ok (.laload, 1))
    (kk : W p l e R s m args below meth c H locs cells slots Q (F0 m (pc + 1) ls (.long x :: rest))) : W p l e R s m args below meth c H locs cells slots Q (F0 m pc ls (.int i :: .ref (b0 + a) :: rest)) := by
  unfold ldJ at h
  split at h
  case isTrue hh =>
    obtain rfl := Option.some.inj h
    exact va_lald C0.hx C0.hb C0.2.1 hw.1 a 1 (by rw [wl_get hh.1.1, cel_J hh.1.2]) rfl (vin hh.2) hdg kk
  case isFalse => cases h
theorem q_ldR13 {a x : Nat} {i : Int32} (C0 : Cx p m c cc nL s args own D cy) (hw : Wd b0 D cy S s.heap H locs) (h : ldR 13 S a i = some x) (hdg : decode cc pc = .ok (.aaload, 1))
    (kk : W p l e R s m args below meth c H locs cells slots Q (F0 m (pc + 1) ls (.ref (b0 + x) :: rest))) : W p l e R s m args below meth c H locs cells slots Q (F0 m pc ls (.int i :: .ref (b0 + a) :: rest)) := by
  unfold ldR at h
  split at h
  case isTrue hh =>
    refine va_aldq C0.hx C0.hb C0.2.1 hw.1 a 3 (by rw [wl_get hh.1.1, cel_13 hh.1.2]) rfl (vin hh.2) hdg ?_
    rw [show va_rf (rfs b0 S a i.toNatClampNeg) = .ref (b0 + x) by simp [rfs, h, va_rf]]
    exact kk
  case isFalse => cases h
theorem q_ldR14 {a x : Nat} {i : Int32} (C0 : Cx p m c cc nL s args own D cy) (hw : Wd b0 D cy S s.heap H locs) (h : ldR 14 S a i = some x) (hdg : decode cc pc = .ok (.aaload, 1))
    (kk : W p l e R s m args below meth c H locs cells slots Q (F0 m (pc + 1) ls (.ref (b0 + x) :: rest))) : W p l e R s m args below meth c H locs cells slots Q (F0 m pc ls (.int i :: .ref (b0 + a) :: rest)) := by
  unfold ldR at h
  split at h
  case isTrue hh =>
    refine va_aldq C0.hx C0.hb C0.2.1 hw.1 a 4 (by rw [wl_get hh.1.1, cel_14 hh.1.2]) rfl (vin hh.2) hdg ?_
    rw [show va_rf (rfs b0 S a i.toNatClampNeg) = .ref (b0 + x) by simp [rfs, h, va_rf]]
    exact kk
  case isFalse => cases h
theorem q_stI {a : Nat} {i x : Int32} {S1 : Mem} (C0 : Cx p m c cc nL s args own D cy) (hw : Wd b0 D cy S s.heap H locs) (h : stI S a i x = some S1) (hdg : decode cc pc = .ok (.iastore, 1))
    (kk : ∀ (H : Heap) (locs : List Loc), Wd b0 D cy S1 s.heap H locs → W p l e R s m args below meth c H locs cells slots Q (F0 m (pc + 1) ls rest)) : W p l e R s m args below meth c H locs cells slots Q (F0 m pc ls (.int x :: .int i :: .ref (b0 + a) :: rest)) := by
  unfold stI at h
  split at h
  case isTrue hh =>
    obtain rfl := Option.some.inj h
    refine va_iast C0.hx C0.hb C0.2.1 hw.1 wl_D hw.2 a 0 (by rw [wl_get hh.1.1, cel_I hh.1.2]) rfl (vin hh.2) hdg (fun H1 locs1 hP _ hS => kk H1 locs1 ?_)
    refine Wd.row hh.1.1 rfl cel_rowI ?_ hP hS
    rw [cel_I hh.1.2]
    simp [rowI]
  case isFalse => cases h
theorem vnarZ {x : Int32} (h : x = 0 ∨ x = 1) : vp_nar .boolean x = x := by rcases h with rfl | rfl <;> rfl
theorem q_stZ {a : Nat} {i x : Int32} {S1 : Mem} (C0 : Cx p m c cc nL s args own D cy) (hw : Wd b0 D cy S s.heap H locs) (h : stZ S a i x = some S1) (hdg : decode cc pc = .ok (.bastore, 1))
    (kk : ∀ (H : Heap) (locs : List Loc), Wd b0 D cy S1 s.heap H locs → W p l e R s m args below meth c H locs cells slots Q (F0 m (pc + 1) ls rest)) : W p l e R s m args below meth c H locs cells slots Q (F0 m pc ls (.int x :: .int i :: .ref (b0 + a) :: rest)) := by
  unfold stZ at h
  split at h
  case isTrue hh =>
    obtain ⟨hh, hx⟩ := hh
    obtain rfl := Option.some.inj h
    refine va_zast C0.hx C0.hb C0.2.1 hw.1 wl_D hw.2 a 2 (by rw [wl_get hh.1.1, cel_Z hh.1.2]) rfl (vin hh.2) hdg (fun H1 locs1 hP _ hS => kk H1 locs1 ?_)
    rw [vnarZ hx] at hP
    refine Wd.row hh.1.1 rfl cel_rowI ?_ hP hS
    rw [cel_Z hh.1.2]
    simp [rowI]
  case isFalse => cases h
theorem q_stJ {a : Nat} {i : Int32} {x : Int64} {S1 : Mem} (C0 : Cx p m c cc nL s args own D cy) (hw : Wd b0 D cy S s.heap H locs) (h : stJ S a i x = some S1) (hdg : decode cc pc = .ok (.lastore, 1))
    (kk : ∀ (H : Heap) (locs : List Loc), Wd b0 D cy S1 s.heap H locs → W p l e R s m args below meth c H locs cells slots Q (F0 m (pc + 1) ls rest)) : W p l e R s m args below meth c H locs cells slots Q (F0 m pc ls (.long x :: .int i :: .ref (b0 + a) :: rest)) := by
  unfold stJ at h
  split at h
  case isTrue hh =>
    obtain rfl := Option.some.inj h
    refine va_last C0.hx C0.hb C0.2.1 hw.1 wl_D hw.2 a 1 (by rw [wl_get hh.1.1, cel_J hh.1.2]) rfl (vin hh.2) hdg (fun H1 locs1 hP _ hS => kk H1 locs1 ?_)
    refine Wd.row hh.1.1 rfl cel_rowJ ?_ hP hS
    rw [cel_J hh.1.2]
    simp [rowJ]
  case isFalse => cases h
theorem rfs_row {a k v : Nat} : rfs b0 (rowR S a (va_up (S.2.2.2 a) k (some v))) a = va_up (rfs b0 S a) k (some (b0 + v)) := by
  funext j
  by_cases hj : j = k
  · subst hj; simp [rfs, rowR, va_up]
  · simp [rfs, rowR, va_up, hj]
theorem q_stR13 {a v : Nat} {i : Int32} {S1 : Mem} (C0 : Cx p m c cc nL s args own D cy) (hw : Wd b0 D cy S s.heap H locs) (h : stR 13 1 S a i v = some S1) (hdg : decode cc pc = .ok (.aastore, 1))
    (kk : ∀ (H : Heap) (locs : List Loc), Wd b0 D cy S1 s.heap H locs → W p l e R s m args below meth c H locs cells slots Q (F0 m (pc + 1) ls rest)) : W p l e R s m args below meth c H locs cells slots Q (F0 m pc ls (.ref (b0 + v) :: .int i :: .ref (b0 + a) :: rest)) := by
  unfold stR at h
  split at h
  case isTrue hh =>
    obtain ⟨hh, hx⟩ := hh
    obtain rfl := Option.some.inj h
    refine va_astq (r := (RX1, TX1, 3)) C0.hx C0.hb C0.2.1 hw.1 wl_D hw.2 a 3 v 1 (by rw [wl_get hh.1.1, cel_13 hh.1.2]) rfl (by rw [wl_get hx.1, cel_O hx.2 (by decide)]) rfl (vin hh.2) hdg (fun H1 locs1 hP _ hS => kk H1 locs1 ?_)
    refine Wd.row hh.1.1 rfl cel_rowR ?_ hP hS
    rw [cel_13 hh.1.2, rfs_row]
  case isFalse => cases h
theorem q_stR14 {a v : Nat} {i : Int32} {S1 : Mem} (C0 : Cx p m c cc nL s args own D cy) (hw : Wd b0 D cy S s.heap H locs) (h : stR 14 5 S a i v = some S1) (hdg : decode cc pc = .ok (.aastore, 1))
    (kk : ∀ (H : Heap) (locs : List Loc), Wd b0 D cy S1 s.heap H locs → W p l e R s m args below meth c H locs cells slots Q (F0 m (pc + 1) ls rest)) : W p l e R s m args below meth c H locs cells slots Q (F0 m pc ls (.ref (b0 + v) :: .int i :: .ref (b0 + a) :: rest)) := by
  unfold stR at h
  split at h
  case isTrue hh =>
    obtain ⟨hh, hx⟩ := hh
    obtain rfl := Option.some.inj h
    refine va_astq (r := (RX5, TX5, 8)) C0.hx C0.hb C0.2.1 hw.1 wl_D hw.2 a 4 v 5 (by rw [wl_get hh.1.1, cel_14 hh.1.2]) rfl (by rw [wl_get hx.1, cel_O hx.2 (by decide)]) rfl (vin hh.2) hdg (fun H1 locs1 hP _ hS => kk H1 locs1 ?_)
    refine Wd.row hh.1.1 rfl cel_rowR ?_ hP hS
    rw [cel_14 hh.1.2, rfs_row]
  case isFalse => cases h
theorem q_len {a : Nat} {v : Int32} (C0 : Cx p m c cc nL s args own D cy) (hw : Wd b0 D cy S s.heap H locs) (h : lnI S a = some v) (hdg : decode cc pc = .ok (.arraylength, 1))
    (kk : W p l e R s m args below meth c H locs cells slots Q (F0 m (pc + 1) ls (.int v :: rest))) : W p l e R s m args below meth c H locs cells slots Q (F0 m pc ls (.ref (b0 + a) :: rest)) := by
  unfold lnI at h
  split at h
  case isTrue hh =>
    obtain rfl := Option.some.inj h
    exact va_alen C0.hx C0.hb C0.2.1 hw.1 a 0 (by rw [wl_get hh.1, cel_I hh.2]) (ty := .int) rfl rfl hdg kk
  case isFalse => cases h
theorem q_cp {a b index : Nat} {i j n : Int32} {S1 : Mem} (C0 : Cx p m c cc nL s args own D cy) (hw : Wd b0 D cy S s.heap H locs) (h : cpI S a i b j n = some S1) (hl : Cond.methodLink own index arraycopyName ∈ tb) (hnat : Cond.native arraycopyName ∈ tb) (hst : Cond.static arraycopyName ∈ tb) (hini : Cond.initialized "java/lang/System" ∈ tb) (hsz : ls.size = nL)
    (hframes : 1 ≤ R.frames) (hlocals : (rest.map fun v => v.category).sum + (nativeFrameWords "java/lang/System" "arraycopy" 5 + 11) ≤ R.locals) (hdg : decode cc pc = .ok (.invokestatic index, 3))
    (kk : ∀ (H : Heap) (locs : List Loc), Wd b0 D cy S1 s.heap H locs → W p l e R s m args below meth c H locs cells slots Q (F0 m (pc + 3) ls rest)) : W p l e R s m args below meth c H locs cells slots Q (F0 m pc ls (.int n :: .int j :: .ref (b0 + b) :: .int i :: .ref (b0 + a) :: rest)) := by
  unfold cpI at h
  split at h
  case isTrue hh =>
    obtain ⟨⟨ha, hb⟩, hz, hn⟩ := hh
    obtain rfl := Option.some.inj h
    refine va_copyi (ty := .int) C0.hx C0.hb (by rw [C0.1.2.2.1, hsz]) C0.ho (C0.w hl) (C0.w hnat) (C0.w hst) (C0.w hini) C0.2.1 hw.1 wl_D hw.2 a b 0 0 (by rw [wl_get ha.1, cel_I ha.2]) (by rw [wl_get hb.1, cel_I hb.2]) rfl rfl rfl hz.1 hz.2.1 hz.2.2 hn.1 hn.2 (fun _ _ => rfl) hframes hlocals hdg (fun H1 locs1 hP _ hS => kk H1 locs1 ?_)
    refine Wd.row hb.1 rfl cel_rowI ?_ hP hS
    rw [cel_I hb.2]
    simp [rowI]
  case isFalse => cases h
/-! names for numbers; divisions -/
theorem q_nmI {x y : Int32} (h : some x = some y) (kk : W p l e R s m args below meth c H locs cells slots Q (F0 m pc ls (.int y :: rest))) : W p l e R s m args below meth c H locs cells slots Q (F0 m pc ls (.int x :: rest)) := by
  obtain rfl := Option.some.inj h
  exact kk
theorem q_nmJ {x y : Int64} (h : some x = some y) (kk : W p l e R s m args below meth c H locs cells slots Q (F0 m pc ls (.long y :: rest))) : W p l e R s m args below meth c H locs cells slots Q (F0 m pc ls (.long x :: rest)) := by
  obtain rfl := Option.some.inj h
  exact kk
theorem q_dvI {x y z : Int32} (C0 : Cx p m c cc nL s args own D cy) (h : dvI x y = some z) (hdg : decode cc pc = .ok (.idiv, 1)) (kk : W p l e R s m args below meth c H locs cells slots Q (F0 m (pc + 1) ls (.int z :: rest))) : W p l e R s m args below meth c H locs cells slots Q (F0 m pc ls (.int y :: .int x :: rest)) := by
  unfold dvI at h
  split at h
  case isTrue => cases h
  case isFalse hh =>
    obtain rfl := Option.some.inj h
    exact lv_idiv C0.hx C0.hb hdg hh kk
theorem q_rmI {x y z : Int32} (C0 : Cx p m c cc nL s args own D cy) (h : rmI x y = some z) (hdg : decode cc pc = .ok (.irem, 1)) (kk : W p l e R s m args below meth c H locs cells slots Q (F0 m (pc + 1) ls (.int z :: rest))) : W p l e R s m args below meth c H locs cells slots Q (F0 m pc ls (.int y :: .int x :: rest)) := by
  unfold rmI at h
  split at h
  case isTrue => cases h
  case isFalse hh =>
    obtain rfl := Option.some.inj h
    exact lv_irem C0.hx C0.hb hdg hh kk
theorem q_dvJ {x y z : Int64} (C0 : Cx p m c cc nL s args own D cy) (h : dvJ x y = some z) (hdg : decode cc pc = .ok (.ldiv, 1)) (kk : W p l e R s m args below meth c H locs cells slots Q (F0 m (pc + 1) ls (.long z :: rest))) : W p l e R s m args below meth c H locs cells slots Q (F0 m pc ls (.long y :: .long x :: rest)) := by
  unfold dvJ at h
  split at h
  case isTrue => cases h
  case isFalse hh =>
    obtain rfl := Option.some.inj h
    exact lv_ldiv C0.hx C0.hb hdg hh kk
theorem q_rmJ {x y z : Int64} (C0 : Cx p m c cc nL s args own D cy) (h : rmJ x y = some z) (hdg : decode cc pc = .ok (.lrem, 1)) (kk : W p l e R s m args below meth c H locs cells slots Q (F0 m (pc + 1) ls (.long z :: rest))) : W p l e R s m args below meth c H locs cells slots Q (F0 m pc ls (.long y :: .long x :: rest)) := by
  unfold rmJ at h
  split at h
  case isTrue => cases h
  case isFalse hh =>
    obtain rfl := Option.some.inj h
    exact lv_lrem C0.hx C0.hb hdg hh kk
/-! calls -/
theorem q_call {v : Option Value} {S1 : Mem} {a : Array Value} {st0 st1 : List Value} {mc ms : Nat} (hr : va_Run p l e R s m args below meth c H locs cells slots mc ms (F0 m pc ls st0) rest (Qp b0 D cy v S1 a) (fun q => b0 ≤ q)) (hw : Wd b0 D cy S s.heap H locs) (h1 : v.toList ++ rest = st1)
    (kk : ∀ (H : Heap) (locs : List Loc), Wd b0 D cy S1 s.heap H locs → W p l e R s m args below meth c H locs (cells + mc) (slots + ms) Q (F0 m (pc + 3) ls st1)) : W p l e R s m args below meth c H locs cells slots Q (F0 m pc ls st0) := by
  intro T hT X
  obtain ⟨v', st₀, t, T', L, h0, X', hL, e1, e2, ⟨⟨hv, hP⟩, hz, hk⟩, st⟩ := hr T hT X
  cases hv
  subst h1
  rw [h0] at hz hk
  have hS := hw.2
  obtain ⟨t2, a1, b1⟩ := kk T'.heap (locs ++ L) ⟨by rw [e1]; exact hP, Nat.le_trans hS.1 (by rw [e1]; exact hz), fun q h1 h2 => by rw [e1, hk q (Nat.lt_of_lt_of_le h1 hS.1) h2]; exact hS.2.1 q h1 h2, fun q hq => by
      rcases List.mem_append.mp hq with h | h
      · exact hS.2.2 q h
      · exact hL q h⟩ T' rfl X'
  exact ⟨t2, st t2 a1, b1⟩
theorem ck_cell {ci a : Nat} {u : Unit} (h : ck ci S a = some u) : a < S.1 ∧ kd a = ci := by
  unfold ck at h
  split at h
  case isTrue hh => exact hh
  case isFalse => cases h
theorem q_pre {av : List Value} (C0 : Cx p m c cc nL s args own D cy) (hw : Wd b0 D cy S s.heap H locs) : PreS s H (Pr b0 D cy S av) av :=
  ⟨Pr_blind, fun U hU hW => ⟨rfl, by rw [hU]; exact hw.1, va_K.moved hW.alike C0.2.1, TB.warm hW C0.2.2⟩⟩
theorem q_preV {ci a : Nat} {u : Unit} {av : List Value} {C : String} {T : u_T} {N : Nat} (C0 : Cx p m c cc nL s args own D cy) (hw : Wd b0 D cy S s.heap H locs) (hk : ck ci S a = some u) (hc : vwCl[ci]? = some (C, T, N)) (hci : ci < 10) : PreV s H C (b0 + a) (Pr b0 D cy S (.ref (b0 + a) :: av)) av :=
  ⟨Pr_blind, va_recv (q := (C, T, N)) C0.2.1 hw.1 hc (q0 := a) (by rw [wl_get (ck_cell hk).1, cel_O (ck_cell hk).2 hci]), (q_pre C0 hw).2⟩
theorem goodV {index : Nat} {C : String} {y : MethodName} {bytes : ByteArray} {maxL : Nat} {ret : Option FieldType} (h1 : Cond.methodLink own index y ∈ tb) (h2 : Cond.instanceMethod y ∈ tb) (h3 : Cond.selects C y y ∈ tb) (h4 : Cond.initialized C ∈ tb) (h5 : Cond.code y bytes maxL ret ∈ tb) : GoodIn tb (wsV own index C y [.code y bytes maxL ret]) := by
  intro w hw
  simp only [wsV, List.cons_append, List.nil_append, List.mem_cons, List.not_mem_nil, or_false] at hw
  rcases hw with rfl | rfl | rfl | rfl | rfl
  · exact ⟨h1, Or.inl rfl⟩
  · exact ⟨h2, Or.inl rfl⟩
  · exact ⟨h3, Or.inl rfl⟩
  · exact ⟨h4, Or.inl rfl⟩
  · exact ⟨h5, Or.inl rfl⟩
theorem goodS {index : Nat} {y : MethodName} {bytes : ByteArray} {maxL : Nat} {ret : Option FieldType} (h1 : Cond.methodLink own index y ∈ tb) (h2 : Cond.static y ∈ tb) (h4 : Cond.initialized y.cls ∈ tb) (h5 : Cond.code y bytes maxL ret ∈ tb) : GoodIn tb (va_wsS own index y [.code y bytes maxL ret]) := by
  intro w hw
  simp only [va_wsS, List.cons_append, List.nil_append, List.mem_cons, List.not_mem_nil, or_false] at hw
  rcases hw with rfl | rfl | rfl | rfl
  · exact ⟨h1, Or.inl rfl⟩
  · exact ⟨h2, Or.inl rfl⟩
  · exact ⟨h4, Or.inl rfl⟩
  · exact ⟨h5, Or.inl rfl⟩
theorem good1 {y : MethodName} {bytes : ByteArray} {maxL : Nat} {ret : Option FieldType} (h5 : Cond.code y bytes maxL ret ∈ tb) : GoodIn tb [.code y bytes maxL ret] := by
  intro w hw
  simp only [List.mem_cons, List.not_mem_nil, or_false] at hw
  subst hw
  exact ⟨h5, Or.inl rfl⟩
theorem q_callV {v : Option Value} {S1 : Mem} {st0 st1 av : List Value} {index n ci a N maxL : Nat} {u : Unit} {C : String} {T : u_T} {y : MethodName} {bytes : ByteArray} {ret : Option FieldType} {rm : Room} (C0 : Cx p m c cc nL s args own D cy) (hw : Wd b0 D cy S s.heap H locs)
    (hM : Met l y [.code y bytes maxL ret] rm (Pr b0 D cy S (.ref (b0 + a) :: av)) (Qp b0 D cy v S1) 0 0 (fun q => b0 ≤ q)) (hk : ck ci S a = some u) (hc : vwCl[ci]? = some (C, T, N)) (hci : ci < 10) (hG : GoodIn tb (wsV own index C y [.code y bytes maxL ret])) (hrm : rm.cells = 0 ∧ rm.slots = 0)
    (hd : y.cls = C ∧ y.cls ≠ "java/lang/invoke/MethodHandle" ∧ y.cls ≠ "java/lang/invoke/VarHandle" ∧ (parseMethodDescriptor y.desc).map (fun d => d.parameters.length) = some n) (hR : rm.frames + 1 ≤ R.frames ∧ 8 + (maxL + 11) + rm.locals ≤ R.locals) (hn : av.length = n) (hsz : ls.size = nL) (hst : st0 = av.reverse ++ .ref (b0 + a) :: rest) (hro : (rest.map fun v => v.category).sum ≤ 8) (hdg : decode cc pc = .ok (.invokevirtual index, 3)) (hf : cells ≤ R.cells ∧ slots ≤ R.slots) (h1 : v.toList ++ rest = st1)
    (kk : ∀ (H : Heap) (locs : List Loc), Wd b0 D cy S1 s.heap H locs → W p l e R s m args below meth c H locs cells slots Q (F0 m (pc + 3) ls st1)) : W p l e R s m args below meth c H locs cells slots Q (F0 m pc ls st0) := by
  subst hst
  exact q_call (mc := 0) (ms := 0) (va_runV (As := av) (rest := rest) C0.1 hM (cwV n C0.1.2.2.2.2 hG rfl hrm.1 hrm.2 hd hR) (q_preV C0 hw hk hc hci) rfl hn hsz rfl (lv_room hro) hdg hf) hw h1 kk
theorem q_callS {v : Option Value} {S1 : Mem} {st0 st1 av : List Value} {index n maxL : Nat} {y : MethodName} {bytes : ByteArray} {ret : Option FieldType} {rm : Room} (C0 : Cx p m c cc nL s args own D cy) (hw : Wd b0 D cy S s.heap H locs)
    (hM : Met l y [.code y bytes maxL ret] rm (Pr b0 D cy S av) (Qp b0 D cy v S1) 0 0 (fun q => b0 ≤ q)) (hG : GoodIn tb (va_wsS own index y [.code y bytes maxL ret])) (hrm : rm.cells = 0 ∧ rm.slots = 0)
    (hd : y.cls ≠ "java/lang/invoke/MethodHandle" ∧ y.cls ≠ "java/lang/invoke/VarHandle" ∧ (parseMethodDescriptor y.desc).map (fun d => d.parameters.length) = some n) (hR : rm.frames + 1 ≤ R.frames ∧ 8 + (maxL + 11) + rm.locals ≤ R.locals) (hn : av.length = n) (hsz : ls.size = nL) (hst : st0 = av.reverse ++ rest) (hro : (rest.map fun v => v.category).sum ≤ 8) (hdg : decode cc pc = .ok (.invokestatic index, 3)) (hf : cells ≤ R.cells ∧ slots ≤ R.slots) (h1 : v.toList ++ rest = st1)
    (kk : ∀ (H : Heap) (locs : List Loc), Wd b0 D cy S1 s.heap H locs → W p l e R s m args below meth c H locs cells slots Q (F0 m (pc + 3) ls st1)) : W p l e R s m args below meth c H locs cells slots Q (F0 m pc ls st0) := by
  subst hst
  exact q_call (mc := 0) (ms := 0) (va_runS (As := av) (rest := rest) C0.1 hM (va_cwS n C0.1.2.2.2.2 hG rfl hrm.1 hrm.2 hd hR) (q_pre C0 hw) rfl hn hsz rfl (lv_room hro) hdg hf) hw h1 kk
theorem q_callSN {v : Option Value} {S1 : Mem} {st0 st1 av : List Value} {index n maxL : Nat} {host : String} {y : MethodName} {bytes : ByteArray} {ret : Option FieldType} {rm : Room} (C0 : Cx p m c cc nL s args own D cy) (hw : Wd b0 D cy S s.heap H locs)
    (hM : Met l y [.code y bytes maxL ret] rm (Pr b0 D cy S av) (Qp b0 D cy v S1) 0 0 (fun q => b0 ≤ q)) (hl : Cond.methodLinkNest own index y host ∈ tb) (hs : Cond.static y ∈ tb) (hi : Cond.initialized y.cls ∈ tb) (hcd : Cond.code y bytes maxL ret ∈ tb) (hrm : rm.cells = 0 ∧ rm.slots = 0)
    (hd : y.cls ≠ "java/lang/invoke/MethodHandle" ∧ y.cls ≠ "java/lang/invoke/VarHandle" ∧ (parseMethodDescriptor y.desc).map (fun d => d.parameters.length) = some n) (hR : rm.frames + 1 ≤ R.frames ∧ 8 + (maxL + 11) + rm.locals ≤ R.locals) (hn : av.length = n) (hsz : ls.size = nL) (hst : st0 = av.reverse ++ rest) (hro : (rest.map fun v => v.category).sum ≤ 8) (hdg : decode cc pc = .ok (.invokestatic index, 3)) (hf : cells ≤ R.cells ∧ slots ≤ R.slots) (h1 : v.toList ++ rest = st1)
    (kk : ∀ (H : Heap) (locs : List Loc), Wd b0 D cy S1 s.heap H locs → W p l e R s m args below meth c H locs cells slots Q (F0 m (pc + 3) ls st1)) : W p l e R s m args below meth c H locs cells slots Q (F0 m pc ls st0) := by
  subst hst
  exact q_call (mc := 0) (ms := 0) (va_runSN (As := av) (rest := rest) C0.1 hM ⟨va_cnB n C0.1.2.2.2.2 (good1 hcd) rfl hrm.1 hrm.2 (C0.2.2 _ hl #[]) (C0.w hi) hd hR, C0.w hs, trivial⟩ (q_pre C0 hw) rfl hn hsz rfl (lv_room hro) hdg hf) hw h1 kk
/-! returns -/
theorem q_reti {x : Int32} (C0 : Cx p m c cc nL s args own D cy) (hw : Wd b0 D cy S s.heap H locs) (hr : meth.sig.returnType = some .int) (hlocks : meth.locks = false) (hdg : decode cc pc = .ok (.ireturn, 1)) : W p l e R s m args below meth c H locs cells slots (MQ below (Qp b0 D cy (some (.int x)) S) args s cells slots (fun q => b0 ≤ q)) (F0 m pc ls [.int x]) :=
  W.iret C0.hx C0.hb hr (fun t ht hW => ⟨⟨rfl, by rw [ht]; exact hw.1⟩, hw.2.F ht⟩) hw.2.2.2 hdg hlocks
theorem q_retz {x : Int32} (C0 : Cx p m c cc nL s args own D cy) (hw : Wd b0 D cy S s.heap H locs) (hz : x = 0 ∨ x = 1) (hr : meth.sig.returnType = some .boolean) (hlocks : meth.locks = false) (hdg : decode cc pc = .ok (.ireturn, 1)) : W p l e R s m args below meth c H locs cells slots (MQ below (Qp b0 D cy (some (.int x)) S) args s cells slots (fun q => b0 ≤ q)) (F0 m pc ls [.int x]) :=
  W.zret C0.hx C0.hb hr (by rcases hz with rfl | rfl <;> rfl) (fun t ht hW => ⟨⟨rfl, by rw [ht]; exact hw.1⟩, hw.2.F ht⟩) hw.2.2.2 hdg hlocks
theorem q_retl {x : Int64} (C0 : Cx p m c cc nL s args own D cy) (hw : Wd b0 D cy S s.heap H locs) (hr : meth.sig.returnType = some .long) (hlocks : meth.locks = false) (hdg : decode cc pc = .ok (.lreturn, 1)) : W p l e R s m args below meth c H locs cells slots (MQ below (Qp b0 D cy (some (.long x)) S) args s cells slots (fun q => b0 ≤ q)) (F0 m pc ls [.long x]) :=
  W.lret C0.hx C0.hb hr (fun t ht hW => ⟨⟨rfl, by rw [ht]; exact hw.1⟩, hw.2.F ht⟩) hw.2.2.2 hdg hlocks
theorem q_retv (C0 : Cx p m c cc nL s args own D cy) (hw : Wd b0 D cy S s.heap H locs) (hr : meth.sig.returnType = none) (hlocks : meth.locks = false) (hdg : decode cc pc = .ok (.return_, 1)) : W p l e R s m args below meth c H locs cells slots (MQ below (Qp b0 D cy none S) args s cells slots (fun q => b0 ≤ q)) (F0 m pc ls []) :=
  W.vret C0.hx C0.hb hr (fun t ht hW => ⟨⟨rfl, by rw [ht]; exact hw.1⟩, hw.2.F ht⟩) hw.2.2.2 hdg hlocks
theorem zok_inv {x y : Int32} (h : zok x = some y) : x = y ∧ (x = 0 ∨ x = 1) := by
  unfold zok at h
  split at h
  case isTrue hh => exact ⟨Option.some.inj h, hh⟩
  case isFalse => cases h
end QR
