/-! a call with more than eight words below its arguments -/
section QW
variable {p : Program} {l : Launch} {e : Env} {R : Room} {s : State} {m : MethodId} {args : Array Value} {below : List Frame} {meth : Method} {c : Code} {H : Heap} {locs : List Loc} {cells slots : Nat} {Q : State → Prop}
variable {cc : ByteArray} {nL pc : Nat} {ls : Array Slot} {rest : List Value} {b0 : Nat} {D : va_G} {cy : Nat → ClassId} {S : Mem} {own : String}
theorem q_callVw (K : Nat) {v : Option Value} {S1 : Mem} {st0 st1 av : List Value} {index n ci a N maxL : Nat} {u : Unit} {C : String} {T : u_T} {y : MethodName} {bytes : ByteArray} {ret : Option FieldType} {rm : Room} (C0 : Cx p m c cc nL s args own D cy) (hw : Wd b0 D cy S s.heap H locs)
    (hM : Met l y [.code y bytes maxL ret] rm (Pr b0 D cy S (.ref (b0 + a) :: av)) (Qp b0 D cy v S1) 0 0 (fun q => b0 ≤ q)) (hk : ck ci S a = some u) (hc : vwCl[ci]? = some (C, T, N)) (hci : ci < 10) (hG : GoodIn tb (wsV own index C y [.code y bytes maxL ret])) (hrm : rm.cells = 0 ∧ rm.slots = 0)
    (hd : y.cls = C ∧ y.cls ≠ "java/lang/invoke/MethodHandle" ∧ y.cls ≠ "java/lang/invoke/VarHandle" ∧ (parseMethodDescriptor y.desc).map (fun d => d.parameters.length) = some n) (hR : rm.frames + 1 ≤ R.frames ∧ K + (maxL + 11) + rm.locals ≤ R.locals) (hn : av.length = n) (hsz : ls.size = nL) (hst : st0 = av.reverse ++ .ref (b0 + a) :: rest) (hro : (rest.map fun v => v.category).sum ≤ K) (hdg : decode cc pc = .ok (.invokevirtual index, 3)) (hf : cells ≤ R.cells ∧ slots ≤ R.slots) (h1 : v.toList ++ rest = st1)
    (kk : ∀ (H : Heap) (locs : List Loc), Wd b0 D cy S1 s.heap H locs → W p l e R s m args below meth c H locs cells slots Q (F0 m (pc + 3) ls st1)) : W p l e R s m args below meth c H locs cells slots Q (F0 m pc ls st0) := by
  subst hst
  obtain ⟨hx, hb, hml, ho, hts⟩ := id C0.1
  have ok : ∀ w ∈ wsV own index C y [.code y bytes maxL ret], w.before args s = true := fun w h => hts w (hG w h).1
  have hl := ok (.methodLink own index y) (by simp [wsV])
  have hin := ok (.instanceMethod y) (by simp [wsV])
  have hse := ok (.selects C y y) (by simp [wsV])
  have hini := ok (.initialized C) (by simp [wsV])
  have hcode := ok (.code y bytes maxL ret) (by simp [wsV])
  have hG2 : GoodIn tb [.code y bytes maxL ret] := fun w h => hG w (by unfold wsV; exact List.mem_append_right _ h)
  obtain ⟨hblind, ⟨cellB, hcB, hoB, hclB⟩, hPc⟩ := q_preV (av := av) C0 hw hk hc hci
  have hK : Back l R p e below s args y 3 K (PreOf R 0 0 (Pr b0 D cy S (.ref (b0 + a) :: av))) (PostOf (Qp b0 D cy v S1) 0 0 (fun q => b0 ≤ q)) :=
    back_of (bytes := bytes) (maxL := maxL) (ret := ret) hM hblind hrm.1 hrm.2 hR.1 hR.2 (pay_in hts hG2) List.mem_cons_self (fun a' U hW => word_at hW (Or.inl rfl) (by rw [hd.1]; exact hini))
  refine q_call (mc := 0) (ms := 0) (a := (Value.ref (b0 + a) :: av).toArray) (rest := rest) (fun T hT X => ?_) hw h1 kk
  obtain ⟨v', vm₁, ⟨U', l2, c2, s2⟩, hW₁, X', ⟨g', mk, t, L, e1, e2, hq, h1, hL, h2, h3⟩, st⟩ := callV X hx (C := C) (bytes := bytes) (maxL := maxL) (ret := ret) ho hl hin hse hcode ⟨hd.2.1, hd.2.2.1⟩ hK (by rw [hT]; exact hcB) hoB hclB (g := F0 m pc ls (av.reverse ++ .ref (b0 + a) :: rest)) rfl (hsz.trans hml.symm) (argsL := av) (rest := rest)
    (fun sig h => by have h2 := hd.2.2.2; rw [h] at h2; exact hn.trans (Option.some.inj h2).symm) rfl (by show 2 * 0 + _ ≤ K; omega) (by rw [hb]; exact hdg) (fun vm₁ hW₁ => ⟨hf.1, hf.2, hPc (T.setVm vm₁) hT hW₁⟩)
  dsimp only [Pt.U, Pt.locs, Pt.cells, Pt.slots] at X' e1 e2 h1 h2 h3 st
  subst h1; subst h2; subst h3
  exact ⟨v', (T.setVm vm₁).calling g' mk (Value.ref (b0 + a) :: av).toArray, t, U', L, hT, X', hL, e1, e2, hq, st⟩
theorem q_callSw (K : Nat) {v : Option Value} {S1 : Mem} {st0 st1 av : List Value} {index n maxL : Nat} {y : MethodName} {bytes : ByteArray} {ret : Option FieldType} {rm : Room} (C0 : Cx p m c cc nL s args own D cy) (hw : Wd b0 D cy S s.heap H locs)
    (hM : Met l y [.code y bytes maxL ret] rm (Pr b0 D cy S av) (Qp b0 D cy v S1) 0 0 (fun q => b0 ≤ q)) (hG : GoodIn tb (va_wsS own index y [.code y bytes maxL ret])) (hrm : rm.cells = 0 ∧ rm.slots = 0)
    (hd : y.cls ≠ "java/lang/invoke/MethodHandle" ∧ y.cls ≠ "java/lang/invoke/VarHandle" ∧ (parseMethodDescriptor y.desc).map (fun d => d.parameters.length) = some n) (hR : rm.frames + 1 ≤ R.frames ∧ K + (maxL + 11) + rm.locals ≤ R.locals) (hn : av.length = n) (hsz : ls.size = nL) (hst : st0 = av.reverse ++ rest) (hro : (rest.map fun v => v.category).sum ≤ K) (hdg : decode cc pc = .ok (.invokestatic index, 3)) (hf : cells ≤ R.cells ∧ slots ≤ R.slots) (h1 : v.toList ++ rest = st1)
    (kk : ∀ (H : Heap) (locs : List Loc), Wd b0 D cy S1 s.heap H locs → W p l e R s m args below meth c H locs cells slots Q (F0 m (pc + 3) ls st1)) : W p l e R s m args below meth c H locs cells slots Q (F0 m pc ls st0) := by
  subst hst
  obtain ⟨hx, hb, hml, ho, hts⟩ := id C0.1
  have ok : ∀ w ∈ va_wsS own index y [.code y bytes maxL ret], w.before args s = true := fun w h => hts w (hG w h).1
  have hl := ok (.methodLink own index y) (by simp [va_wsS])
  have hstt := ok (.static y) (by simp [va_wsS])
  have hini := ok (.initialized y.cls) (by simp [va_wsS])
  have hcode := ok (.code y bytes maxL ret) (by simp [va_wsS])
  have hG2 : GoodIn tb [.code y bytes maxL ret] := fun w h => hG w (by unfold va_wsS; exact List.mem_append_right _ h)
  obtain ⟨hblind, hPc⟩ := q_pre (av := av) C0 hw
  have hK : Back l R p e below s args y 3 K (PreOf R 0 0 (Pr b0 D cy S av)) (PostOf (Qp b0 D cy v S1) 0 0 (fun q => b0 ≤ q)) :=
    back_of (bytes := bytes) (maxL := maxL) (ret := ret) hM hblind hrm.1 hrm.2 hR.1 hR.2 (pay_in hts hG2) List.mem_cons_self (fun a' U hW => word_at hW (Or.inl rfl) hini)
  refine q_call (mc := 0) (ms := 0) (a := av.toArray) (rest := rest) (fun T hT X => ?_) hw h1 kk
  obtain ⟨v', vm₁, ⟨U', l2, c2, s2⟩, hW₁, X', ⟨g', mk, t, L, e1, e2, hq, h1, hL, h2, h3⟩, st⟩ := callS X hx (bytes := bytes) (maxL := maxL) (ret := ret) ho hl hstt hini hcode ⟨hd.1, hd.2.1⟩ hK (g := F0 m pc ls (av.reverse ++ rest)) rfl (hsz.trans hml.symm) (argsL := av) (rest := rest)
    (fun sig h => by have h2 := hd.2.2; rw [h] at h2; exact hn.trans (Option.some.inj h2).symm) rfl (by show 2 * 0 + _ ≤ K; omega) (by rw [hb]; exact hdg) (fun vm₁ hW₁ => ⟨hf.1, hf.2, hPc (T.setVm vm₁) hT hW₁⟩)
  dsimp only [Pt.U, Pt.locs, Pt.cells, Pt.slots] at X' e1 e2 h1 h2 h3 st
  subst h1; subst h2; subst h3
  exact ⟨v', (T.setVm vm₁).calling g' mk av.toArray, t, U', L, hT, X', hL, e1, e2, hq, st⟩
end QW
