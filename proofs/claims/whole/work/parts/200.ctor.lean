/-! what makes cells: constructors -/
def QpN (b0 : Nat) (D : va_G) (cy : Nat → ClassId) (S0 : Mem) (mc : Nat) (S : Mem) : Array Value → State → Outcome → State → Prop :=
  fun a st oc t => Qp b0 D cy none S a st oc t ∧ S0.1 + mc ≤ S.1
/-- the start: the heap ends where the cells end -/
def PrM (b0 : Nat) (D : va_G) (cy : Nat → ClassId) (S : Mem) (av : List Value) : Array Value → State → Prop :=
  va_Pc av (fun U => U.heap.size ≤ b0 + S.1 ∧ 0 < S.1 ∧ va_P D vwCl (wl b0 cy S) U.heap ∧ va_K D vwCl (tyl cy) U ∧ TB U)
theorem PrM_blind {b0 : Nat} {D : va_G} {cy : Nat → ClassId} {S : Mem} {av : List Value} : FrameBlind (PrM b0 D cy S av) :=
  fun a U g mk q => ⟨q.1, q.2.1, q.2.2.1, q.2.2.2.1, va_K.moved (u := U) (U := U.calling g mk a) (Vm.Alike.refl U.vm) q.2.2.2.2.1, TB.warm (s := U) (U := U.calling g mk a) (State.WarmedH.refl U) q.2.2.2.2.2⟩
theorem fval_new {b0 : Nat} {S : Mem} {t k : Nat} : fval b0 (newC S) S.1 t k = if t = 0 then .int 0 else if t = 1 then .long 0 else .null := by
  simp [fval, newC, va_rf]
theorem flds_new {b0 : Nat} {S : Mem} {ci j : Nat} (h : j < (ft ci).length) : vp_V (flds b0 (newC S) S.1 ci) j = if (ft ci).getD j 0 = 0 then .int 0 else if (ft ci).getD j 0 = 1 then .long 0 else .null := by
  rw [vp_V, List.getD_eq_getElem?_getD, flds_get h, fval_new]
  rfl
theorem wl_low {b0 : Nat} {D : va_G} {cy : Nat → ClassId} {S : Mem} {H : Heap} (h0 : 0 < S.1) (hP : va_P D vwCl (wl b0 cy S) H) : b0 + S.1 ≤ H.size := by
  have h := (hP (S.1 - 1) _ (wl_get (by omega))).lt
  dsimp only at h
  omega
theorem wl_addr {b0 q : Nat} {D : va_G} {cy : Nat → ClassId} {S : Mem} {e : va_E} {H : Heap} (hP : va_P D vwCl (wl b0 cy S ++ [(q, e)]) H) (hD : va_D (fun q => b0 ≤ q) (wl b0 cy S ++ [(q, e)])) (hz : H.size ≤ b0 + S.1 + 1) : q = b0 + S.1 := by
  have hlen : (wl b0 cy S).length = S.1 := by simp [wl]
  have hg : (wl b0 cy S ++ [(q, e)])[S.1]? = some (q, e) := by
    rw [List.getElem?_append_right (by omega), hlen, Nat.sub_self]; rfl
  have h1 := (hP S.1 _ hg).lt
  have h2 : b0 ≤ q := hD.2 S.1 _ hg
  dsimp only at h1
  rcases Nat.lt_or_ge q (b0 + S.1) with h3 | h3
  · have h4 : (wl b0 cy S ++ [(q, e)])[q - b0]? = some (b0 + (q - b0), cel b0 cy S (q - b0)) := by
      rw [List.getElem?_append_left (by omega), wl_get (by omega)]
    have := hD.1 (q - b0) S.1 _ _ h4 hg (by dsimp only; omega)
    omega
  · omega
section QC
variable {p : Program} {l : Launch} {e : Env} {R : Room} {s : State} {m : MethodId} {args : Array Value} {below : List Frame} {meth : Method} {c : Code} {H : Heap} {locs : List Loc} {cells slots : Nat} {Q : State → Prop}
variable {cc : ByteArray} {nL pc : Nat} {ls : Array Slot} {rest : List Value} {b0 : Nat} {D : va_G} {cy : Nat → ClassId} {S S0 : Mem} {own : String}
theorem q_newO {C : String} {T : u_T} {N ci index : Nat} {S1 : Mem} {ty : Nat → FieldType} (C0 : Cx p m c cc nL s args own D cy) (hw : Wd b0 D cy S s.heap H locs) (hN : s.heap.size + cells ≤ b0 + S.1) (hb0 : b0 ≤ s.heap.size) (h : newO ci S = some S1) (hc : vwCl[ci]? = some (C, T, N)) (hin : ∀ w ∈ u_ws C T N, w ∈ tb) (hty : ∀ k, k < N → parseFieldDescriptor (T k).2.2.1 = some (ty k)) (hci : ci < 10 ∧ (ft ci).length = N)
    (hdf : ∀ j, j < N → defaultValue (ty j) = if (ft ci).getD j 0 = 0 then .int 0 else if (ft ci).getD j 0 = 1 then .long 0 else .null) (hl : Cond.classLink own index C ∈ tb) (hi : Cond.instantiable C N ∈ tb) (hini : Cond.initialized C ∈ tb) (hcells : cells + 1 ≤ R.cells) (hslots : slots + N ≤ R.slots) (hdg : decode cc pc = .ok (.new index, 3))
    (kk : ∀ H : Heap, Wd b0 D cy S1 s.heap H locs → s.heap.size + (cells + 1) ≤ b0 + S1.1 → W p l e R s m args below meth c H locs (cells + 1) (slots + N) Q (F0 m (pc + 3) ls (.ref (b0 + S.1) :: rest))) : W p l e R s m args below meth c H locs cells slots Q (F0 m pc ls rest) := by
  unfold newO at h
  split at h
  case isTrue hh =>
    obtain rfl := Option.some.inj h
    refine va_new (fs := flds b0 (newC S) S.1 ci) C0.hx C0.hb (fun w hw => C0.w hw) hin ty hty C0.ho (C0.w hl) (C0.w hi) (C0.w hini) C0.2.1 hw.1 wl_D hw.2 (fun q h => Nat.le_trans hb0 h) hc (fun j hj => by rw [flds_new (by rw [hci.2]; exact hj)]; exact hdf j hj) hcells hslots hdg (fun q H1 hP hD hS => W_size (fun hz => ?_))
    obtain rfl := wl_addr hP hD (by omega)
    exact kk H1 ⟨by rw [← wl_new (cel_O hh hci.1)]; exact hP, hS⟩ (by show _ ≤ b0 + (S.1 + 1); omega)
  case isFalse => cases h
theorem newA_I {S1 : Mem} {n : Int32} {q : Nat} (h : newA q n S = some S1) : S1 = newC S ∧ kd S.1 = q ∧ ¬ n < 0 ∧ n.toNatClampNeg = ln S.1 := by
  unfold newA at h
  split at h
  case isTrue hh => exact ⟨(Option.some.inj h).symm, hh⟩
  case isFalse => cases h
theorem va_K.cls {cyA cyB : ClassId} {ty : FieldType} {tys : List (ClassId × FieldType)} {k : Nat} (hK : va_K D vwCl (tys ++ [(cyA, ty)]) s) (hk : tys[k]? = some (cyB, ty)) : cyA = cyB := by
  have h1 := (hK.2 tys.length (cyA, ty) (by simp)).2
  have hlt : k < tys.length := (List.getElem?_eq_some_iff.mp hk).1
  have h2 := (hK.2 k (cyB, ty) (by rw [List.getElem?_append_left hlt]; exact hk)).2
  unfold va_RA at h1 h2
  cases ty with
  | object C =>
    obtain ⟨_, _, _, _, _, h1⟩ := h1
    obtain ⟨_, _, _, _, _, h2⟩ := h2
    exact Option.some.inj (h1.symm.trans h2)
  | _ => exact Option.some.inj (h1.symm.trans h2)
theorem newC_I : (newC S).2.1 S.1 = fun _ => 0 := by simp [newC]
theorem newC_J : (newC S).2.2.1 S.1 = fun _ => 0 := by simp [newC]
theorem q_newI {n : Int32} {S1 : Mem} {N : Nat} (C0 : Cx p m c cc nL s args own D cy) (hw : Wd b0 D cy S s.heap H locs) (hN : s.heap.size + cells ≤ b0 + S.1) (hb0 : b0 ≤ s.heap.size) (h : newA 10 n S = some S1) (hl : Cond.arrayClass .int ∈ tb) (hn : n.toNatClampNeg = N) (hbt : N * 4 ≤ 536870912) (hcells : cells + 1 ≤ R.cells) (hslots : slots + N ≤ R.slots) (hdg : decode cc pc = .ok (.newarray .int, 2))
    (kk : ∀ H : Heap, Wd b0 D cy S1 s.heap H locs → s.heap.size + (cells + 1) ≤ b0 + S1.1 → W p l e R s m args below meth c H locs (cells + 1) (slots + N) Q (F0 m (pc + 2) ls (.ref (b0 + S.1) :: rest))) : W p l e R s m args below meth c H locs cells slots Q (F0 m pc ls (.int n :: rest)) := by
  obtain ⟨rfl, hh, h0, h2⟩ := newA_I h
  refine va_newa (a0 := (N, .inl (fun _ => 0))) C0.hx C0.hb (atype := .int) (C0.w hl) (ty := .int) rfl C0.2.1 hw.1 wl_D hw.2 (fun q h => Nat.le_trans hb0 h) (fun _ => rfl) h0 hn hbt hcells hslots hdg (fun q cA H1 hK hP hD hS => W_size (fun hz => ?_))
  obtain rfl := va_K.cls (k := 0) hK rfl
  obtain rfl := wl_addr hP hD (by omega)
  exact kk H1 ⟨by rw [← wl_new (e := .inl (cy 0, N, .inl (fun _ => 0))) (by rw [cel_I hh, ← h2, hn, newC_I])]; exact hP, hS⟩ (by show _ ≤ b0 + (S.1 + 1); omega)
theorem q_newJ {n : Int32} {S1 : Mem} {N : Nat} (C0 : Cx p m c cc nL s args own D cy) (hw : Wd b0 D cy S s.heap H locs) (hN : s.heap.size + cells ≤ b0 + S.1) (hb0 : b0 ≤ s.heap.size) (h : newA 11 n S = some S1) (hl : Cond.arrayClass .long ∈ tb) (hn : n.toNatClampNeg = N) (hbt : N * 8 ≤ 536870912) (hcells : cells + 1 ≤ R.cells) (hslots : slots + N ≤ R.slots) (hdg : decode cc pc = .ok (.newarray .long, 2))
    (kk : ∀ H : Heap, Wd b0 D cy S1 s.heap H locs → s.heap.size + (cells + 1) ≤ b0 + S1.1 → W p l e R s m args below meth c H locs (cells + 1) (slots + N) Q (F0 m (pc + 2) ls (.ref (b0 + S.1) :: rest))) : W p l e R s m args below meth c H locs cells slots Q (F0 m pc ls (.int n :: rest)) := by
  obtain ⟨rfl, hh, h0, h2⟩ := newA_I h
  refine va_newa (a0 := (N, .inr (.inl (fun _ => 0)))) C0.hx C0.hb (atype := .long) (C0.w hl) (ty := .long) rfl C0.2.1 hw.1 wl_D hw.2 (fun q h => Nat.le_trans hb0 h) (fun _ => rfl) h0 hn hbt hcells hslots hdg (fun q cA H1 hK hP hD hS => W_size (fun hz => ?_))
  obtain rfl := va_K.cls (k := 1) hK rfl
  obtain rfl := wl_addr hP hD (by omega)
  exact kk H1 ⟨by rw [← wl_new (e := .inl (cy 1, N, .inr (.inl (fun _ => 0)))) (by rw [cel_J hh, ← h2, hn, newC_J])]; exact hP, hS⟩ (by show _ ≤ b0 + (S.1 + 1); omega)
theorem q_newZ {n : Int32} {S1 : Mem} {N : Nat} (C0 : Cx p m c cc nL s args own D cy) (hw : Wd b0 D cy S s.heap H locs) (hN : s.heap.size + cells ≤ b0 + S.1) (hb0 : b0 ≤ s.heap.size) (h : newA 12 n S = some S1) (hl : Cond.arrayClass .boolean ∈ tb) (hn : n.toNatClampNeg = N) (hbt : N * 1 ≤ 536870912) (hcells : cells + 1 ≤ R.cells) (hslots : slots + N ≤ R.slots) (hdg : decode cc pc = .ok (.newarray .boolean, 2))
    (kk : ∀ H : Heap, Wd b0 D cy S1 s.heap H locs → s.heap.size + (cells + 1) ≤ b0 + S1.1 → W p l e R s m args below meth c H locs (cells + 1) (slots + N) Q (F0 m (pc + 2) ls (.ref (b0 + S.1) :: rest))) : W p l e R s m args below meth c H locs cells slots Q (F0 m pc ls (.int n :: rest)) := by
  obtain ⟨rfl, hh, h0, h2⟩ := newA_I h
  refine va_newa (a0 := (N, .inl (fun _ => 0))) C0.hx C0.hb (atype := .boolean) (C0.w hl) (ty := .boolean) rfl C0.2.1 hw.1 wl_D hw.2 (fun q h => Nat.le_trans hb0 h) (fun _ => rfl) h0 hn hbt hcells hslots hdg (fun q cA H1 hK hP hD hS => W_size (fun hz => ?_))
  obtain rfl := va_K.cls (k := 2) hK rfl
  obtain rfl := wl_addr hP hD (by omega)
  exact kk H1 ⟨by rw [← wl_new (e := .inl (cy 2, N, .inl (fun _ => 0))) (by rw [cel_Z hh, ← h2, hn, newC_I])]; exact hP, hS⟩ (by show _ ≤ b0 + (S.1 + 1); omega)
theorem rfs_new : rfs b0 (newC S) S.1 = fun _ => none := by
  funext k
  simp [rfs, newC]
theorem q_new13 {n : Int32} {S1 : Mem} {N index : Nat} (C0 : Cx p m c cc nL s args own D cy) (hw : Wd b0 D cy S s.heap H locs) (hN : s.heap.size + cells ≤ b0 + S.1) (hb0 : b0 ≤ s.heap.size) (h : newA 13 n S = some S1) (hcl : Cond.classLink own index "SlipperDuke$Image" ∈ tb) (hl : Cond.arrayOver (.object "SlipperDuke$Image") ∈ tb) (hn : n.toNatClampNeg = N) (hbt : N * 4 ≤ 536870912) (hcells : cells + 1 ≤ R.cells) (hslots : slots + N ≤ R.slots) (hdg : decode cc pc = .ok (.anewarray index, 3))
    (kk : ∀ H : Heap, Wd b0 D cy S1 s.heap H locs → s.heap.size + (cells + 1) ≤ b0 + S1.1 → W p l e R s m args below meth c H locs (cells + 1) (slots + N) Q (F0 m (pc + 3) ls (.ref (b0 + S.1) :: rest))) : W p l e R s m args below meth c H locs cells slots Q (F0 m pc ls (.int n :: rest)) := by
  obtain ⟨rfl, hh, h0, h2⟩ := newA_I h
  refine va_newq C0.hx C0.hb C0.ho (C0.w hcl) (va_AO.of (C0.w hl)) C0.2.1 hw.1 wl_D hw.2 (fun q h => Nat.le_trans hb0 h) h0 hn hbt hcells hslots hdg (fun q cA H1 hK hP hD hS => W_size (fun hz => ?_))
  obtain rfl := va_K.cls (k := 3) hK rfl
  obtain rfl := wl_addr hP hD (by omega)
  exact kk H1 ⟨by rw [← wl_new (show _ = _ from by rw [cel_13 hh, ← h2, hn, rfs_new])]; exact hP, hS⟩ (by show _ ≤ b0 + (S.1 + 1); omega)
theorem q_new14 {n : Int32} {S1 : Mem} {N index : Nat} (C0 : Cx p m c cc nL s args own D cy) (hw : Wd b0 D cy S s.heap H locs) (hN : s.heap.size + cells ≤ b0 + S.1) (hb0 : b0 ≤ s.heap.size) (h : newA 14 n S = some S1) (hcl : Cond.classLink own index "SlipperDuke$State" ∈ tb) (hl : Cond.arrayOver (.object "SlipperDuke$State") ∈ tb) (hn : n.toNatClampNeg = N) (hbt : N * 4 ≤ 536870912) (hcells : cells + 1 ≤ R.cells) (hslots : slots + N ≤ R.slots) (hdg : decode cc pc = .ok (.anewarray index, 3))
    (kk : ∀ H : Heap, Wd b0 D cy S1 s.heap H locs → s.heap.size + (cells + 1) ≤ b0 + S1.1 → W p l e R s m args below meth c H locs (cells + 1) (slots + N) Q (F0 m (pc + 3) ls (.ref (b0 + S.1) :: rest))) : W p l e R s m args below meth c H locs cells slots Q (F0 m pc ls (.int n :: rest)) := by
  obtain ⟨rfl, hh, h0, h2⟩ := newA_I h
  refine va_newq C0.hx C0.hb C0.ho (C0.w hcl) (va_AO.of (C0.w hl)) C0.2.1 hw.1 wl_D hw.2 (fun q h => Nat.le_trans hb0 h) h0 hn hbt hcells hslots hdg (fun q cA H1 hK hP hD hS => W_size (fun hz => ?_))
  obtain rfl := va_K.cls (k := 4) hK rfl
  obtain rfl := wl_addr hP hD (by omega)
  exact kk H1 ⟨by rw [← wl_new (show _ = _ from by rw [cel_14 hh, ← h2, hn, rfs_new])]; exact hP, hS⟩ (by show _ ≤ b0 + (S.1 + 1); omega)
theorem q_callN {S1 : Mem} {a : Array Value} {st0 : List Value} {mc ms : Nat} (hr : va_Run p l e R s m args below meth c H locs cells slots mc ms (F0 m pc ls st0) rest (QpN b0 D cy S mc S1 a) (fun q => b0 ≤ q)) (hw : Wd b0 D cy S s.heap H locs) (hN : s.heap.size + cells ≤ b0 + S.1)
    (kk : ∀ (H : Heap) (locs : List Loc), Wd b0 D cy S1 s.heap H locs → s.heap.size + (cells + mc) ≤ b0 + S1.1 → W p l e R s m args below meth c H locs (cells + mc) (slots + ms) Q (F0 m (pc + 3) ls rest)) : W p l e R s m args below meth c H locs cells slots Q (F0 m pc ls st0) := by
  intro T hT X
  obtain ⟨v', st₀, t, T', L, h0, X', hL, e1, e2, ⟨⟨⟨hv, hP⟩, hz, hk⟩, hmc⟩, st⟩ := hr T hT X
  cases hv
  rw [h0] at hz hk
  have hS := hw.2
  obtain ⟨t2, a1, b1⟩ := kk T'.heap (locs ++ L) ⟨by rw [e1]; exact hP, Nat.le_trans hS.1 (by rw [e1]; exact hz), fun q h1 h2 => by rw [e1, hk q (Nat.lt_of_lt_of_le h1 hS.1) h2]; exact hS.2.1 q h1 h2, fun q hq => by
      rcases List.mem_append.mp hq with h | h
      · exact hS.2.2 q h
      · exact hL q h⟩ (by omega) T' rfl X'
  exact ⟨t2, st t2 a1, b1⟩
theorem q_preM {av : List Value} (C0 : Cx p m c cc nL s args own D cy) (hw : Wd b0 D cy S s.heap H locs) (hH : H.size ≤ b0 + S.1) (h0 : 0 < S.1) : PreS s H (PrM b0 D cy S av) av :=
  ⟨PrM_blind, fun U hU hW => ⟨rfl, by rw [hU]; exact hH, h0, by rw [hU]; exact hw.1, va_K.moved hW.alike C0.2.1, TB.warm hW C0.2.2⟩⟩
theorem q_callI {S1 : Mem} {index a maxL mc ms : Nat} {y : MethodName} {bytes : ByteArray} {rm : Room} (C0 : Cx p m c cc nL s args own D cy) (hw : Wd b0 D cy S s.heap H locs) (hN : s.heap.size + cells ≤ b0 + S.1) (h0 : 0 < S.1)
    (hM : Met l y [.code y bytes maxL none] rm (PrM b0 D cy S [.ref (b0 + a)]) (QpN b0 D cy S mc S1) mc ms (fun q => b0 ≤ q)) (hl : Cond.methodLink own index y ∈ tb) (hi : Cond.instanceMethod y ∈ tb) (hini : Cond.initialized y.cls ∈ tb) (hcd : Cond.code y bytes maxL none ∈ tb) (hrm : rm.cells = mc ∧ rm.slots = ms) (hy1 : y.name = "<init>")
    (hd : y.cls ≠ "java/lang/invoke/MethodHandle" ∧ y.cls ≠ "java/lang/invoke/VarHandle" ∧ (parseMethodDescriptor y.desc).map (fun d => d.parameters.length) = some 0) (hR : rm.frames + 1 ≤ R.frames ∧ 8 + (maxL + 11) + rm.locals ≤ R.locals) (hsz : ls.size = nL) (hro : (rest.map fun v => v.category).sum ≤ 8) (hdg : decode cc pc = .ok (.invokespecial index, 3)) (hf : cells + mc ≤ R.cells ∧ slots + ms ≤ R.slots)
    (kk : ∀ (H : Heap) (locs : List Loc), Wd b0 D cy S1 s.heap H locs → s.heap.size + (cells + mc) ≤ b0 + S1.1 → W p l e R s m args below meth c H locs (cells + mc) (slots + ms) Q (F0 m (pc + 3) ls rest)) : W p l e R s m args below meth c H locs cells slots Q (F0 m pc ls (.ref (b0 + a) :: rest)) :=
  W_size (fun hz => q_callN (mc := mc) (ms := ms) (va_runI (As := []) (rest := rest) C0.1 hM (cwI 0 C0.1.2.2.2.2 (good1 hcd) rfl hrm.1 hrm.2 (C0.w hini) (C0.w hl) (C0.w hi) hy1 hd hR) (q_preM C0 hw (by omega) h0) rfl rfl hsz rfl (lv_room hro) hdg hf) hw hN kk)
theorem q_callIN {S1 : Mem} {index a maxL mc ms : Nat} {host : String} {y : MethodName} {bytes : ByteArray} {rm : Room} (C0 : Cx p m c cc nL s args own D cy) (hw : Wd b0 D cy S s.heap H locs) (hN : s.heap.size + cells ≤ b0 + S.1) (h0 : 0 < S.1)
    (hM : Met l y [.code y bytes maxL none] rm (PrM b0 D cy S [.ref (b0 + a)]) (QpN b0 D cy S mc S1) mc ms (fun q => b0 ≤ q)) (hl : Cond.methodLinkNest own index y host ∈ tb) (hi : Cond.instanceMethod y ∈ tb) (hini : Cond.initialized y.cls ∈ tb) (hcd : Cond.code y bytes maxL none ∈ tb) (hrm : rm.cells = mc ∧ rm.slots = ms) (hy1 : y.name = "<init>")
    (hd : y.cls ≠ "java/lang/invoke/MethodHandle" ∧ y.cls ≠ "java/lang/invoke/VarHandle" ∧ (parseMethodDescriptor y.desc).map (fun d => d.parameters.length) = some 0) (hR : rm.frames + 1 ≤ R.frames ∧ 8 + (maxL + 11) + rm.locals ≤ R.locals) (hsz : ls.size = nL) (hro : (rest.map fun v => v.category).sum ≤ 8) (hdg : decode cc pc = .ok (.invokespecial index, 3)) (hf : cells + mc ≤ R.cells ∧ slots + ms ≤ R.slots)
    (kk : ∀ (H : Heap) (locs : List Loc), Wd b0 D cy S1 s.heap H locs → s.heap.size + (cells + mc) ≤ b0 + S1.1 → W p l e R s m args below meth c H locs (cells + mc) (slots + ms) Q (F0 m (pc + 3) ls rest)) : W p l e R s m args below meth c H locs cells slots Q (F0 m pc ls (.ref (b0 + a) :: rest)) :=
  W_size (fun hz => q_callN (mc := mc) (ms := ms) (va_runIN (As := []) (rest := rest) C0.1 hM ⟨va_cnB 0 C0.1.2.2.2.2 (good1 hcd) rfl hrm.1 hrm.2 (C0.2.2 _ hl #[]) (C0.w hini) hd hR, hy1, C0.w hi⟩ (q_preM C0 hw (by omega) h0) rfl rfl hsz rfl (lv_room hro) hdg hf) hw hN kk)
theorem q_retN (C0 : Cx p m c cc nL s args own D cy) (hw : Wd b0 D cy S s.heap H locs) (hlow : b0 + S0.1 ≤ s.heap.size) (hN : s.heap.size + cells ≤ b0 + S.1) (hr : meth.sig.returnType = none) (hlocks : meth.locks = false) (hdg : decode cc pc = .ok (.return_, 1)) : W p l e R s m args below meth c H locs cells slots (MQ below (QpN b0 D cy S0 cells S) args s cells slots (fun q => b0 ≤ q)) (F0 m pc ls []) :=
  W.vret C0.hx C0.hb hr (fun t ht hW => ⟨⟨⟨rfl, by rw [ht]; exact hw.1⟩, hw.2.F ht⟩, by omega⟩) hw.2.2.2 hdg hlocks
theorem pI_1 {ci k a : Nat} {v : Int32} {S1 : Mem} (h : pI ci k S a v = some S1) : S1.1 = S.1 := by
  unfold pI at h
  split at h
  case isTrue => rw [← Option.some.inj h]; rfl
  case isFalse => cases h
theorem pR_1 {ci k a v : Nat} {S1 : Mem} (h : pR ci k S a v = some S1) : S1.1 = S.1 := by
  unfold pR at h
  split at h
  case isTrue => rw [← Option.some.inj h]; rfl
  case isFalse => cases h
theorem stR_1 {q ci a v : Nat} {i : Int32} {S1 : Mem} (h : stR q ci S a i v = some S1) : S1.1 = S.1 := by
  unfold stR at h
  split at h
  case isTrue => rw [← Option.some.inj h]; rfl
  case isFalse => cases h
theorem newO_1 {ci : Nat} {S1 : Mem} (h : newO ci S = some S1) : S1.1 = S.1 + 1 := by
  unfold newO at h
  split at h
  case isTrue => rw [← Option.some.inj h]; rfl
  case isFalse => cases h
theorem newA_1 {q : Nat} {n : Int32} {S1 : Mem} (h : newA q n S = some S1) : S1.1 = S.1 + 1 := by
  rw [(newA_I h).1]; rfl
end QC
