abbrev rm_X9_becomes : Room := { frames := 0, cells := 0, slots := 0, locals := 0 }
def f_X9_becomes_b204 : Nat → Nat → Int32 → Mem → Option Mem
  | 0, _, _, _ => none
  | n + 1, a0, x1, S =>
    (gI 9 3 S a0).bind fun v18 =>
      (if v18 ≤ x1 then
      (pI 9 24 S a0 (0 : Int32)).bind fun S19 =>
      (pI 9 16 S19 a0 (0 : Int32)).bind fun S20 =>
      (gR 9 26 S20 a0).bind fun r21 =>
      (stZ S20 r21 (0 : Int32) (0 : Int32)).bind fun S22 =>
      (gR 9 26 S22 a0).bind fun r23 =>
      (stZ S22 r23 (1 : Int32) (0 : Int32)).bind fun S24 =>
      some S24
      else
      (gR 9 7 S a0).bind fun r25 =>
      (gR 9 14 S a0).bind fun r26 =>
      (ldI S r26 ((44 : Int32) + ((2 : Int32) * x1))).bind fun v27 =>
      (stJ S r25 ((26 : Int32) + x1) v27.toInt64).bind fun S28 =>
      (gR 9 6 S28 a0).bind fun r29 =>
      (gR 9 14 S28 a0).bind fun r30 =>
      (ldI S28 r30 ((45 : Int32) + ((2 : Int32) * x1))).bind fun v31 =>
      (stI S28 r29 x1 v31).bind fun S32 =>
      (some (x1 + (1 : Int32))).bind fun v33 =>
      f_X9_becomes_b204  n a0 v33 S32)
def f_X9_becomes_b154 : Nat → Nat → Int32 → Mem → Option Mem
  | 0, _, _, _ => none
  | n + 1, a0, x1, S =>
    (gI 9 2 S a0).bind fun v17 =>
      (if v17 ≤ x1 then
      f_X9_becomes_b204 FU a0 (0 : Int32) S
      else
      (gR 9 4 S a0).bind fun r34 =>
      (gR 9 14 S a0).bind fun r35 =>
      (ldI S r35 ((20 : Int32) + ((2 : Int32) * x1))).bind fun v36 =>
      (stI S r34 x1 v36).bind fun S37 =>
      (gR 9 5 S37 a0).bind fun r38 =>
      (gR 9 14 S37 a0).bind fun r39 =>
      (ldI S37 r39 ((21 : Int32) + ((2 : Int32) * x1))).bind fun v40 =>
      (stI S37 r38 x1 v40).bind fun S41 =>
      (some (x1 + (1 : Int32))).bind fun v42 =>
      f_X9_becomes_b154  n a0 v42 S41)
def f_X9_becomes_b96 : Nat → Nat → Int32 → Mem → Option Mem
  | 0, _, _, _ => none
  | n + 1, a0, x1, S =>
    (gI 9 1 S a0).bind fun v16 =>
      (if v16 ≤ x1 then
      f_X9_becomes_b154 FU a0 (0 : Int32) S
      else
      (gR 9 7 S a0).bind fun r43 =>
      (gR 9 14 S a0).bind fun r44 =>
      (ldI S r44 ((4 : Int32) + ((2 : Int32) * x1))).bind fun v45 =>
      (stJ S r43 ((10 : Int32) + x1) v45.toInt64).bind fun S46 =>
      (gR 9 7 S46 a0).bind fun r47 =>
      (ldJ S46 r47 (4 : Int32)).bind fun u48 =>
      (gR 9 14 S46 a0).bind fun r49 =>
      (ldI S46 r49 ((5 : Int32) + ((2 : Int32) * x1))).bind fun v50 =>
      (stJ S46 r47 (4 : Int32) (u48 ||| (v50.toInt64 <<< (x1.toInt64 &&& 63)))).bind fun S51 =>
      (some (x1 + (1 : Int32))).bind fun v52 =>
      f_X9_becomes_b96  n a0 v52 S51)
def f_X9_becomes_b93 (a0 : Nat) (t0 : Int64) (t1 : Int32) (t2 : Nat) (S : Mem) : Option Mem :=
    (stJ S t2 t1 t0).bind fun S15 =>
      f_X9_becomes_b96 FU a0 (0 : Int32) S15
def f_X9_becomes_b37 (a0 : Nat) (t0 : Int32) (t1 : Nat) (S : Mem) : Option Mem :=
    (pZ 9 0 S t1 t0).bind fun S3 =>
      (gR 9 14 S3 a0).bind fun r4 =>
      (ldI S3 r4 (1 : Int32)).bind fun v5 =>
      (pI 9 1 S3 a0 v5).bind fun S6 =>
      (gR 9 14 S6 a0).bind fun r7 =>
      (ldI S6 r7 (2 : Int32)).bind fun v8 =>
      (pI 9 2 S6 a0 v8).bind fun S9 =>
      (gR 9 14 S9 a0).bind fun r10 =>
      (ldI S9 r10 (3 : Int32)).bind fun v11 =>
      (pI 9 3 S9 a0 v11).bind fun S12 =>
      (gR 9 7 S12 a0).bind fun r13 =>
      (gI 9 0 S12 a0).bind fun v14 =>
      (if v14 = (0 : Int32) then
      f_X9_becomes_b93 a0 (0 : Int64) (0 : Int32) r13 S12
      else
      (gR 9 14 S12 a0).bind fun r53 =>
      (ldI S12 r53 (0 : Int32)).bind fun v54 =>
      f_X9_becomes_b93 a0 v54.toInt64 (0 : Int32) r13 S12)
def f_X9_becomes_b2 : Nat → Nat → Int32 → Mem → Option Mem
  | 0, _, _, _ => none
  | n + 1, a0, x1, S =>
    (if (80 : Int32) ≤ x1 then
      (gR 9 14 S a0).bind fun r1 =>
      (ldI S r1 (0 : Int32)).bind fun v2 =>
      (if v2 = (-1 : Int32) then
      f_X9_becomes_b37 a0 (0 : Int32) a0 S
      else
      f_X9_becomes_b37 a0 (1 : Int32) a0 S)
      else
      (gR 9 7 S a0).bind fun r55 =>
      (stJ S r55 x1 (0 : Int64)).bind fun S56 =>
      (some (x1 + (1 : Int32))).bind fun v57 =>
      f_X9_becomes_b2  n a0 v57 S56)
def f_X9_becomes (a0 : Nat) (S : Mem) : Option Mem :=
    f_X9_becomes_b2 FU a0 (0 : Int32) S
set_option maxHeartbeats 4000000 in
set_option maxRecDepth 100000 in
theorem w_X9_becomes_b204 {p : Program} {l : Launch} {e : Env} {s : State} {m : MethodId} {args : Array Value} {below : List Frame} {meth : Method} {c : Code} {b0 : Nat} {D : va_G} {cy : Nat → ClassId} {q : Mem} (C0 : Cx p m c cX9_becomes 2 s args RX9 D cy) (hr : meth.sig.returnType = none) (hlocks : meth.locks = false) : ∀ (n : Nat) (a0 : Nat) (x1 : Int32) (S : Mem) (H : Heap) (locs : List Loc) (ls : Array Slot), Wd b0 D cy S s.heap H locs → lv_has ls 2 [(0, .ref (b0 + a0)), (1, .int x1)] → f_X9_becomes_b204  n a0 x1 S = some q → W p l e rm_X9_becomes s m args below meth c H locs 0 0 (MQ below (Qp b0 D cy none q) args s 0 0 (fun q => b0 ≤ q)) (F0 m 204 ls []) := by
  intro n
  induction n with
  | zero => intro a0 x1 S H locs ls hw hl h; exact absurd h (by simp [f_X9_becomes_b204])
  | succ n ih =>
    intro a0 x1 S H locs ls hw hl h
    rw [f_X9_becomes_b204] at h
    refine lv_iload_n C0.hx C0.hb dX9_becomes_204 rfl (lv_at hl 1 rfl) ?_
    refine lv_aload_n C0.hx C0.hb dX9_becomes_205 rfl (lv_at hl 0 rfl) ?_
    obtain ⟨v18, hv18, h⟩ := Option.bind_eq_some_iff.mp h
    refine q_getI C0 hw hv18 rfl in_9 (by decide) kw_865 dX9_becomes_206 ?_
    refine lv_icmp_ge (tgt := 256) C0.hx C0.hb dX9_becomes_209 (by decide) (fun hc => ?_) (fun hc => ?_)
    · have h := (if_pos hc).symm.trans h
      refine lv_aload_n C0.hx C0.hb dX9_becomes_256 rfl (lv_at hl 0 rfl) ?_
      refine lv_iconst (v := (0 : Int32)) C0.hx C0.hb dX9_becomes_257 (by decide) ?_
      obtain ⟨S19, hS19, h⟩ := Option.bind_eq_some_iff.mp h
      refine q_putI C0 hw hS19 rfl in_9 tyX9_ok nmX9 ⟨by decide, by decide, rfl, rfl⟩ rfl kw_886 dX9_becomes_258 (fun H locs hw => ?_)
      refine lv_aload_n C0.hx C0.hb dX9_becomes_261 rfl (lv_at hl 0 rfl) ?_
      refine lv_iconst (v := (0 : Int32)) C0.hx C0.hb dX9_becomes_262 (by decide) ?_
      obtain ⟨S20, hS20, h⟩ := Option.bind_eq_some_iff.mp h
      refine q_putI C0 hw hS20 rfl in_9 tyX9_ok nmX9 ⟨by decide, by decide, rfl, rfl⟩ rfl kw_878 dX9_becomes_263 (fun H locs hw => ?_)
      refine lv_aload_n C0.hx C0.hb dX9_becomes_266 rfl (lv_at hl 0 rfl) ?_
      obtain ⟨r21, hr21, h⟩ := Option.bind_eq_some_iff.mp h
      refine q_getR C0 hw hr21 rfl in_9 (by decide) kw_888 dX9_becomes_267 ?_
      refine lv_iconst (v := (0 : Int32)) C0.hx C0.hb dX9_becomes_270 (by decide) ?_
      refine lv_iconst (v := (0 : Int32)) C0.hx C0.hb dX9_becomes_271 (by decide) ?_
      obtain ⟨S22, hS22, h⟩ := Option.bind_eq_some_iff.mp h
      refine q_stZ C0 hw hS22 dX9_becomes_272 (fun H locs hw => ?_)
      refine lv_aload_n C0.hx C0.hb dX9_becomes_273 rfl (lv_at hl 0 rfl) ?_
      obtain ⟨r23, hr23, h⟩ := Option.bind_eq_some_iff.mp h
      refine q_getR C0 hw hr23 rfl in_9 (by decide) kw_888 dX9_becomes_274 ?_
      refine lv_iconst (v := (1 : Int32)) C0.hx C0.hb dX9_becomes_277 (by decide) ?_
      refine lv_iconst (v := (0 : Int32)) C0.hx C0.hb dX9_becomes_278 (by decide) ?_
      obtain ⟨S24, hS24, h⟩ := Option.bind_eq_some_iff.mp h
      refine q_stZ C0 hw hS24 dX9_becomes_279 (fun H locs hw => ?_)
      obtain rfl := Option.some.inj h
      exact q_retv C0 hw hr hlocks dX9_becomes_280
    · have h := (if_neg hc).symm.trans h
      refine lv_aload_n C0.hx C0.hb dX9_becomes_212 rfl (lv_at hl 0 rfl) ?_
      obtain ⟨r25, hr25, h⟩ := Option.bind_eq_some_iff.mp h
      refine q_getR C0 hw hr25 rfl in_9 (by decide) kw_869 dX9_becomes_213 ?_
      refine lv_bipush (v := (26 : Int32)) C0.hx C0.hb dX9_becomes_216 (by decide) ?_
      refine lv_iload_n C0.hx C0.hb dX9_becomes_218 rfl (lv_at hl 1 rfl) ?_
      refine lv_iadd C0.hx C0.hb dX9_becomes_219 ?_
      refine lv_aload_n C0.hx C0.hb dX9_becomes_220 rfl (lv_at hl 0 rfl) ?_
      obtain ⟨r26, hr26, h⟩ := Option.bind_eq_some_iff.mp h
      refine q_getR C0 hw hr26 rfl in_9 (by decide) kw_876 dX9_becomes_221 ?_
      refine lv_bipush (v := (44 : Int32)) C0.hx C0.hb dX9_becomes_224 (by decide) ?_
      refine lv_iconst (v := (2 : Int32)) C0.hx C0.hb dX9_becomes_226 (by decide) ?_
      refine lv_iload_n C0.hx C0.hb dX9_becomes_227 rfl (lv_at hl 1 rfl) ?_
      refine lv_imul C0.hx C0.hb dX9_becomes_228 ?_
      refine lv_iadd C0.hx C0.hb dX9_becomes_229 ?_
      obtain ⟨v27, hv27, h⟩ := Option.bind_eq_some_iff.mp h
      refine q_ldI C0 hw hv27 dX9_becomes_230 ?_
      refine lv_i2l C0.hx C0.hb dX9_becomes_231 rfl ?_
      obtain ⟨S28, hS28, h⟩ := Option.bind_eq_some_iff.mp h
      refine q_stJ C0 hw hS28 dX9_becomes_232 (fun H locs hw => ?_)
      refine lv_aload_n C0.hx C0.hb dX9_becomes_233 rfl (lv_at hl 0 rfl) ?_
      obtain ⟨r29, hr29, h⟩ := Option.bind_eq_some_iff.mp h
      refine q_getR C0 hw hr29 rfl in_9 (by decide) kw_868 dX9_becomes_234 ?_
      refine lv_iload_n C0.hx C0.hb dX9_becomes_237 rfl (lv_at hl 1 rfl) ?_
      refine lv_aload_n C0.hx C0.hb dX9_becomes_238 rfl (lv_at hl 0 rfl) ?_
      obtain ⟨r30, hr30, h⟩ := Option.bind_eq_some_iff.mp h
      refine q_getR C0 hw hr30 rfl in_9 (by decide) kw_876 dX9_becomes_239 ?_
      refine lv_bipush (v := (45 : Int32)) C0.hx C0.hb dX9_becomes_242 (by decide) ?_
      refine lv_iconst (v := (2 : Int32)) C0.hx C0.hb dX9_becomes_244 (by decide) ?_
      refine lv_iload_n C0.hx C0.hb dX9_becomes_245 rfl (lv_at hl 1 rfl) ?_
      refine lv_imul C0.hx C0.hb dX9_becomes_246 ?_
      refine lv_iadd C0.hx C0.hb dX9_becomes_247 ?_
      obtain ⟨v31, hv31, h⟩ := Option.bind_eq_some_iff.mp h
      refine q_ldI C0 hw hv31 dX9_becomes_248 ?_
      obtain ⟨S32, hS32, h⟩ := Option.bind_eq_some_iff.mp h
      refine q_stI C0 hw hS32 dX9_becomes_249 (fun H locs hw => ?_)
      obtain ⟨v33, hv33, h⟩ := Option.bind_eq_some_iff.mp h
      refine lv_iinc (v := v33) (lv' := [(1, .int v33), (0, .ref (b0 + a0))]) C0.hx C0.hb dX9_becomes_250 hl (k := 1) rfl (by rw [← Option.some.inj hv33]; rfl) (by decide) rfl (fun ls hl => ?_)
      refine lv_goto (tgt := 204) C0.hx C0.hb dX9_becomes_253 (by decide) ?_
      exact ih a0 v33 S32 _ _ _ hw (lv_sub hl [1, 0] rfl) h
set_option maxHeartbeats 4000000 in
set_option maxRecDepth 100000 in
theorem w_X9_becomes_b154 {p : Program} {l : Launch} {e : Env} {s : State} {m : MethodId} {args : Array Value} {below : List Frame} {meth : Method} {c : Code} {b0 : Nat} {D : va_G} {cy : Nat → ClassId} {q : Mem} (C0 : Cx p m c cX9_becomes 2 s args RX9 D cy) (hr : meth.sig.returnType = none) (hlocks : meth.locks = false) : ∀ (n : Nat) (a0 : Nat) (x1 : Int32) (S : Mem) (H : Heap) (locs : List Loc) (ls : Array Slot), Wd b0 D cy S s.heap H locs → lv_has ls 2 [(0, .ref (b0 + a0)), (1, .int x1)] → f_X9_becomes_b154  n a0 x1 S = some q → W p l e rm_X9_becomes s m args below meth c H locs 0 0 (MQ below (Qp b0 D cy none q) args s 0 0 (fun q => b0 ≤ q)) (F0 m 154 ls []) := by
  intro n
  induction n with
  | zero => intro a0 x1 S H locs ls hw hl h; exact absurd h (by simp [f_X9_becomes_b154])
  | succ n ih =>
    intro a0 x1 S H locs ls hw hl h
    rw [f_X9_becomes_b154] at h
    refine lv_iload_n C0.hx C0.hb dX9_becomes_154 rfl (lv_at hl 1 rfl) ?_
    refine lv_aload_n C0.hx C0.hb dX9_becomes_155 rfl (lv_at hl 0 rfl) ?_
    obtain ⟨v17, hv17, h⟩ := Option.bind_eq_some_iff.mp h
    refine q_getI C0 hw hv17 rfl in_9 (by decide) kw_864 dX9_becomes_156 ?_
    refine lv_icmp_ge (tgt := 202) C0.hx C0.hb dX9_becomes_159 (by decide) (fun hc => ?_) (fun hc => ?_)
    · have h := (if_pos hc).symm.trans h
      refine lv_iconst (v := (0 : Int32)) C0.hx C0.hb dX9_becomes_202 (by decide) ?_
      refine lv_istore_n (lv' := [(1, .int (0 : Int32)), (0, .ref (b0 + a0))]) C0.hx C0.hb dX9_becomes_203 rfl hl (by decide) rfl (fun ls hl => ?_)
      exact w_X9_becomes_b204 C0 hr hlocks FU a0 (0 : Int32) S _ _ _ hw (lv_sub hl [1, 0] rfl) h
    · have h := (if_neg hc).symm.trans h
      refine lv_aload_n C0.hx C0.hb dX9_becomes_162 rfl (lv_at hl 0 rfl) ?_
      obtain ⟨r34, hr34, h⟩ := Option.bind_eq_some_iff.mp h
      refine q_getR C0 hw hr34 rfl in_9 (by decide) kw_866 dX9_becomes_163 ?_
      refine lv_iload_n C0.hx C0.hb dX9_becomes_166 rfl (lv_at hl 1 rfl) ?_
      refine lv_aload_n C0.hx C0.hb dX9_becomes_167 rfl (lv_at hl 0 rfl) ?_
      obtain ⟨r35, hr35, h⟩ := Option.bind_eq_some_iff.mp h
      refine q_getR C0 hw hr35 rfl in_9 (by decide) kw_876 dX9_becomes_168 ?_
      refine lv_bipush (v := (20 : Int32)) C0.hx C0.hb dX9_becomes_171 (by decide) ?_
      refine lv_iconst (v := (2 : Int32)) C0.hx C0.hb dX9_becomes_173 (by decide) ?_
      refine lv_iload_n C0.hx C0.hb dX9_becomes_174 rfl (lv_at hl 1 rfl) ?_
      refine lv_imul C0.hx C0.hb dX9_becomes_175 ?_
      refine lv_iadd C0.hx C0.hb dX9_becomes_176 ?_
      obtain ⟨v36, hv36, h⟩ := Option.bind_eq_some_iff.mp h
      refine q_ldI C0 hw hv36 dX9_becomes_177 ?_
      obtain ⟨S37, hS37, h⟩ := Option.bind_eq_some_iff.mp h
      refine q_stI C0 hw hS37 dX9_becomes_178 (fun H locs hw => ?_)
      refine lv_aload_n C0.hx C0.hb dX9_becomes_179 rfl (lv_at hl 0 rfl) ?_
      obtain ⟨r38, hr38, h⟩ := Option.bind_eq_some_iff.mp h
      refine q_getR C0 hw hr38 rfl in_9 (by decide) kw_867 dX9_becomes_180 ?_
      refine lv_iload_n C0.hx C0.hb dX9_becomes_183 rfl (lv_at hl 1 rfl) ?_
      refine lv_aload_n C0.hx C0.hb dX9_becomes_184 rfl (lv_at hl 0 rfl) ?_
      obtain ⟨r39, hr39, h⟩ := Option.bind_eq_some_iff.mp h
      refine q_getR C0 hw hr39 rfl in_9 (by decide) kw_876 dX9_becomes_185 ?_
      refine lv_bipush (v := (21 : Int32)) C0.hx C0.hb dX9_becomes_188 (by decide) ?_
      refine lv_iconst (v := (2 : Int32)) C0.hx C0.hb dX9_becomes_190 (by decide) ?_
      refine lv_iload_n C0.hx C0.hb dX9_becomes_191 rfl (lv_at hl 1 rfl) ?_
      refine lv_imul C0.hx C0.hb dX9_becomes_192 ?_
      refine lv_iadd C0.hx C0.hb dX9_becomes_193 ?_
      obtain ⟨v40, hv40, h⟩ := Option.bind_eq_some_iff.mp h
      refine q_ldI C0 hw hv40 dX9_becomes_194 ?_
      obtain ⟨S41, hS41, h⟩ := Option.bind_eq_some_iff.mp h
      refine q_stI C0 hw hS41 dX9_becomes_195 (fun H locs hw => ?_)
      obtain ⟨v42, hv42, h⟩ := Option.bind_eq_some_iff.mp h
      refine lv_iinc (v := v42) (lv' := [(1, .int v42), (0, .ref (b0 + a0))]) C0.hx C0.hb dX9_becomes_196 hl (k := 1) rfl (by rw [← Option.some.inj hv42]; rfl) (by decide) rfl (fun ls hl => ?_)
      refine lv_goto (tgt := 154) C0.hx C0.hb dX9_becomes_199 (by decide) ?_
      exact ih a0 v42 S41 _ _ _ hw (lv_sub hl [1, 0] rfl) h
set_option maxHeartbeats 4000000 in
set_option maxRecDepth 100000 in
theorem w_X9_becomes_b96 {p : Program} {l : Launch} {e : Env} {s : State} {m : MethodId} {args : Array Value} {below : List Frame} {meth : Method} {c : Code} {b0 : Nat} {D : va_G} {cy : Nat → ClassId} {q : Mem} (C0 : Cx p m c cX9_becomes 2 s args RX9 D cy) (hr : meth.sig.returnType = none) (hlocks : meth.locks = false) : ∀ (n : Nat) (a0 : Nat) (x1 : Int32) (S : Mem) (H : Heap) (locs : List Loc) (ls : Array Slot), Wd b0 D cy S s.heap H locs → lv_has ls 2 [(0, .ref (b0 + a0)), (1, .int x1)] → f_X9_becomes_b96  n a0 x1 S = some q → W p l e rm_X9_becomes s m args below meth c H locs 0 0 (MQ below (Qp b0 D cy none q) args s 0 0 (fun q => b0 ≤ q)) (F0 m 96 ls []) := by
  intro n
  induction n with
  | zero => intro a0 x1 S H locs ls hw hl h; exact absurd h (by simp [f_X9_becomes_b96])
  | succ n ih =>
    intro a0 x1 S H locs ls hw hl h
    rw [f_X9_becomes_b96] at h
    refine lv_iload_n C0.hx C0.hb dX9_becomes_96 rfl (lv_at hl 1 rfl) ?_
    refine lv_aload_n C0.hx C0.hb dX9_becomes_97 rfl (lv_at hl 0 rfl) ?_
    obtain ⟨v16, hv16, h⟩ := Option.bind_eq_some_iff.mp h
    refine q_getI C0 hw hv16 rfl in_9 (by decide) kw_863 dX9_becomes_98 ?_
    refine lv_icmp_ge (tgt := 152) C0.hx C0.hb dX9_becomes_101 (by decide) (fun hc => ?_) (fun hc => ?_)
    · have h := (if_pos hc).symm.trans h
      refine lv_iconst (v := (0 : Int32)) C0.hx C0.hb dX9_becomes_152 (by decide) ?_
      refine lv_istore_n (lv' := [(1, .int (0 : Int32)), (0, .ref (b0 + a0))]) C0.hx C0.hb dX9_becomes_153 rfl hl (by decide) rfl (fun ls hl => ?_)
      exact w_X9_becomes_b154 C0 hr hlocks FU a0 (0 : Int32) S _ _ _ hw (lv_sub hl [1, 0] rfl) h
    · have h := (if_neg hc).symm.trans h
      refine lv_aload_n C0.hx C0.hb dX9_becomes_104 rfl (lv_at hl 0 rfl) ?_
      obtain ⟨r43, hr43, h⟩ := Option.bind_eq_some_iff.mp h
      refine q_getR C0 hw hr43 rfl in_9 (by decide) kw_869 dX9_becomes_105 ?_
      refine lv_bipush (v := (10 : Int32)) C0.hx C0.hb dX9_becomes_108 (by decide) ?_
      refine lv_iload_n C0.hx C0.hb dX9_becomes_110 rfl (lv_at hl 1 rfl) ?_
      refine lv_iadd C0.hx C0.hb dX9_becomes_111 ?_
      refine lv_aload_n C0.hx C0.hb dX9_becomes_112 rfl (lv_at hl 0 rfl) ?_
      obtain ⟨r44, hr44, h⟩ := Option.bind_eq_some_iff.mp h
      refine q_getR C0 hw hr44 rfl in_9 (by decide) kw_876 dX9_becomes_113 ?_
      refine lv_iconst (v := (4 : Int32)) C0.hx C0.hb dX9_becomes_116 (by decide) ?_
      refine lv_iconst (v := (2 : Int32)) C0.hx C0.hb dX9_becomes_117 (by decide) ?_
      refine lv_iload_n C0.hx C0.hb dX9_becomes_118 rfl (lv_at hl 1 rfl) ?_
      refine lv_imul C0.hx C0.hb dX9_becomes_119 ?_
      refine lv_iadd C0.hx C0.hb dX9_becomes_120 ?_
      obtain ⟨v45, hv45, h⟩ := Option.bind_eq_some_iff.mp h
      refine q_ldI C0 hw hv45 dX9_becomes_121 ?_
      refine lv_i2l C0.hx C0.hb dX9_becomes_122 rfl ?_
      obtain ⟨S46, hS46, h⟩ := Option.bind_eq_some_iff.mp h
      refine q_stJ C0 hw hS46 dX9_becomes_123 (fun H locs hw => ?_)
      refine lv_aload_n C0.hx C0.hb dX9_becomes_124 rfl (lv_at hl 0 rfl) ?_
      obtain ⟨r47, hr47, h⟩ := Option.bind_eq_some_iff.mp h
      refine q_getR C0 hw hr47 rfl in_9 (by decide) kw_869 dX9_becomes_125 ?_
      refine lv_iconst (v := (4 : Int32)) C0.hx C0.hb dX9_becomes_128 (by decide) ?_
      refine lv_dup2_11 C0.hx C0.hb dX9_becomes_129 rfl rfl ?_
      obtain ⟨u48, hu48, h⟩ := Option.bind_eq_some_iff.mp h
      refine q_ldJ C0 hw hu48 dX9_becomes_130 ?_
      refine lv_aload_n C0.hx C0.hb dX9_becomes_131 rfl (lv_at hl 0 rfl) ?_
      obtain ⟨r49, hr49, h⟩ := Option.bind_eq_some_iff.mp h
      refine q_getR C0 hw hr49 rfl in_9 (by decide) kw_876 dX9_becomes_132 ?_
      refine lv_iconst (v := (5 : Int32)) C0.hx C0.hb dX9_becomes_135 (by decide) ?_
      refine lv_iconst (v := (2 : Int32)) C0.hx C0.hb dX9_becomes_136 (by decide) ?_
      refine lv_iload_n C0.hx C0.hb dX9_becomes_137 rfl (lv_at hl 1 rfl) ?_
      refine lv_imul C0.hx C0.hb dX9_becomes_138 ?_
      refine lv_iadd C0.hx C0.hb dX9_becomes_139 ?_
      obtain ⟨v50, hv50, h⟩ := Option.bind_eq_some_iff.mp h
      refine q_ldI C0 hw hv50 dX9_becomes_140 ?_
      refine lv_i2l C0.hx C0.hb dX9_becomes_141 rfl ?_
      refine lv_iload_n C0.hx C0.hb dX9_becomes_142 rfl (lv_at hl 1 rfl) ?_
      refine lv_lshl C0.hx C0.hb dX9_becomes_143 rfl ?_
      refine lv_lor C0.hx C0.hb dX9_becomes_144 ?_
      obtain ⟨S51, hS51, h⟩ := Option.bind_eq_some_iff.mp h
      refine q_stJ C0 hw hS51 dX9_becomes_145 (fun H locs hw => ?_)
      obtain ⟨v52, hv52, h⟩ := Option.bind_eq_some_iff.mp h
      refine lv_iinc (v := v52) (lv' := [(1, .int v52), (0, .ref (b0 + a0))]) C0.hx C0.hb dX9_becomes_146 hl (k := 1) rfl (by rw [← Option.some.inj hv52]; rfl) (by decide) rfl (fun ls hl => ?_)
      refine lv_goto (tgt := 96) C0.hx C0.hb dX9_becomes_149 (by decide) ?_
      exact ih a0 v52 S51 _ _ _ hw (lv_sub hl [1, 0] rfl) h
set_option maxHeartbeats 4000000 in
set_option maxRecDepth 100000 in
theorem w_X9_becomes_b93 {p : Program} {l : Launch} {e : Env} {s : State} {m : MethodId} {args : Array Value} {below : List Frame} {meth : Method} {c : Code} {b0 : Nat} {D : va_G} {cy : Nat → ClassId} {q : Mem} (C0 : Cx p m c cX9_becomes 2 s args RX9 D cy) (hr : meth.sig.returnType = none) (hlocks : meth.locks = false) : ∀ (a0 : Nat) (t0 : Int64) (t1 : Int32) (t2 : Nat) (S : Mem) (H : Heap) (locs : List Loc) (ls : Array Slot), Wd b0 D cy S s.heap H locs → lv_has ls 2 [(0, .ref (b0 + a0))] → f_X9_becomes_b93  a0 t0 t1 t2 S = some q → W p l e rm_X9_becomes s m args below meth c H locs 0 0 (MQ below (Qp b0 D cy none q) args s 0 0 (fun q => b0 ≤ q)) (F0 m 93 ls [.long t0, .int t1, .ref (b0 + t2)]) := by
  intro a0 t0 t1 t2 S H locs ls hw hl h
  rw [f_X9_becomes_b93] at h
  obtain ⟨S15, hS15, h⟩ := Option.bind_eq_some_iff.mp h
  refine q_stJ C0 hw hS15 dX9_becomes_93 (fun H locs hw => ?_)
  refine lv_iconst (v := (0 : Int32)) C0.hx C0.hb dX9_becomes_94 (by decide) ?_
  refine lv_istore_n (lv' := [(1, .int (0 : Int32)), (0, .ref (b0 + a0))]) C0.hx C0.hb dX9_becomes_95 rfl hl (by decide) rfl (fun ls hl => ?_)
  exact w_X9_becomes_b96 C0 hr hlocks FU a0 (0 : Int32) S15 _ _ _ hw (lv_sub hl [1, 0] rfl) h
set_option maxHeartbeats 4000000 in
set_option maxRecDepth 100000 in
theorem w_X9_becomes_b37 {p : Program} {l : Launch} {e : Env} {s : State} {m : MethodId} {args : Array Value} {below : List Frame} {meth : Method} {c : Code} {b0 : Nat} {D : va_G} {cy : Nat → ClassId} {q : Mem} (C0 : Cx p m c cX9_becomes 2 s args RX9 D cy) (hr : meth.sig.returnType = none) (hlocks : meth.locks = false) : ∀ (a0 : Nat) (t0 : Int32) (t1 : Nat) (S : Mem) (H : Heap) (locs : List Loc) (ls : Array Slot), Wd b0 D cy S s.heap H locs → lv_has ls 2 [(0, .ref (b0 + a0))] → f_X9_becomes_b37  a0 t0 t1 S = some q → W p l e rm_X9_becomes s m args below meth c H locs 0 0 (MQ below (Qp b0 D cy none q) args s 0 0 (fun q => b0 ≤ q)) (F0 m 37 ls [.int t0, .ref (b0 + t1)]) := by
  intro a0 t0 t1 S H locs ls hw hl h
  rw [f_X9_becomes_b37] at h
  obtain ⟨S3, hS3, h⟩ := Option.bind_eq_some_iff.mp h
  refine q_putZ C0 hw hS3 rfl in_9 tyX9_ok nmX9 ⟨by decide, by decide, rfl, rfl⟩ rfl kw_862 dX9_becomes_37 (fun H locs hw => ?_)
  refine lv_aload_n C0.hx C0.hb dX9_becomes_40 rfl (lv_at hl 0 rfl) ?_
  refine lv_aload_n C0.hx C0.hb dX9_becomes_41 rfl (lv_at hl 0 rfl) ?_
  obtain ⟨r4, hr4, h⟩ := Option.bind_eq_some_iff.mp h
  refine q_getR C0 hw hr4 rfl in_9 (by decide) kw_876 dX9_becomes_42 ?_
  refine lv_iconst (v := (1 : Int32)) C0.hx C0.hb dX9_becomes_45 (by decide) ?_
  obtain ⟨v5, hv5, h⟩ := Option.bind_eq_some_iff.mp h
  refine q_ldI C0 hw hv5 dX9_becomes_46 ?_
  obtain ⟨S6, hS6, h⟩ := Option.bind_eq_some_iff.mp h
  refine q_putI C0 hw hS6 rfl in_9 tyX9_ok nmX9 ⟨by decide, by decide, rfl, rfl⟩ rfl kw_863 dX9_becomes_47 (fun H locs hw => ?_)
  refine lv_aload_n C0.hx C0.hb dX9_becomes_50 rfl (lv_at hl 0 rfl) ?_
  refine lv_aload_n C0.hx C0.hb dX9_becomes_51 rfl (lv_at hl 0 rfl) ?_
  obtain ⟨r7, hr7, h⟩ := Option.bind_eq_some_iff.mp h
  refine q_getR C0 hw hr7 rfl in_9 (by decide) kw_876 dX9_becomes_52 ?_
  refine lv_iconst (v := (2 : Int32)) C0.hx C0.hb dX9_becomes_55 (by decide) ?_
  obtain ⟨v8, hv8, h⟩ := Option.bind_eq_some_iff.mp h
  refine q_ldI C0 hw hv8 dX9_becomes_56 ?_
  obtain ⟨S9, hS9, h⟩ := Option.bind_eq_some_iff.mp h
  refine q_putI C0 hw hS9 rfl in_9 tyX9_ok nmX9 ⟨by decide, by decide, rfl, rfl⟩ rfl kw_864 dX9_becomes_57 (fun H locs hw => ?_)
  refine lv_aload_n C0.hx C0.hb dX9_becomes_60 rfl (lv_at hl 0 rfl) ?_
  refine lv_aload_n C0.hx C0.hb dX9_becomes_61 rfl (lv_at hl 0 rfl) ?_
  obtain ⟨r10, hr10, h⟩ := Option.bind_eq_some_iff.mp h
  refine q_getR C0 hw hr10 rfl in_9 (by decide) kw_876 dX9_becomes_62 ?_
  refine lv_iconst (v := (3 : Int32)) C0.hx C0.hb dX9_becomes_65 (by decide) ?_
  obtain ⟨v11, hv11, h⟩ := Option.bind_eq_some_iff.mp h
  refine q_ldI C0 hw hv11 dX9_becomes_66 ?_
  obtain ⟨S12, hS12, h⟩ := Option.bind_eq_some_iff.mp h
  refine q_putI C0 hw hS12 rfl in_9 tyX9_ok nmX9 ⟨by decide, by decide, rfl, rfl⟩ rfl kw_865 dX9_becomes_67 (fun H locs hw => ?_)
  refine lv_aload_n C0.hx C0.hb dX9_becomes_70 rfl (lv_at hl 0 rfl) ?_
  obtain ⟨r13, hr13, h⟩ := Option.bind_eq_some_iff.mp h
  refine q_getR C0 hw hr13 rfl in_9 (by decide) kw_869 dX9_becomes_71 ?_
  refine lv_iconst (v := (0 : Int32)) C0.hx C0.hb dX9_becomes_74 (by decide) ?_
  refine lv_aload_n C0.hx C0.hb dX9_becomes_75 rfl (lv_at hl 0 rfl) ?_
  obtain ⟨v14, hv14, h⟩ := Option.bind_eq_some_iff.mp h
  refine q_getI C0 hw hv14 rfl in_9 (by decide) kw_862 dX9_becomes_76 ?_
  refine lv_if_eq (tgt := 92) C0.hx C0.hb dX9_becomes_79 (by decide) (fun hc => ?_) (fun hc => ?_)
  · have h := (if_pos hc).symm.trans h
    refine lv_lconst (v := (0 : Int64)) C0.hx C0.hb dX9_becomes_92 (by decide) ?_
    exact w_X9_becomes_b93 C0 hr hlocks a0 (0 : Int64) (0 : Int32) r13 S12 _ _ _ hw (lv_sub hl [0] rfl) h
  · have h := (if_neg hc).symm.trans h
    refine lv_aload_n C0.hx C0.hb dX9_becomes_82 rfl (lv_at hl 0 rfl) ?_
    obtain ⟨r53, hr53, h⟩ := Option.bind_eq_some_iff.mp h
    refine q_getR C0 hw hr53 rfl in_9 (by decide) kw_876 dX9_becomes_83 ?_
    refine lv_iconst (v := (0 : Int32)) C0.hx C0.hb dX9_becomes_86 (by decide) ?_
    obtain ⟨v54, hv54, h⟩ := Option.bind_eq_some_iff.mp h
    refine q_ldI C0 hw hv54 dX9_becomes_87 ?_
    refine lv_i2l C0.hx C0.hb dX9_becomes_88 rfl ?_
    refine lv_goto (tgt := 93) C0.hx C0.hb dX9_becomes_89 (by decide) ?_
    exact w_X9_becomes_b93 C0 hr hlocks a0 v54.toInt64 (0 : Int32) r13 S12 _ _ _ hw (lv_sub hl [0] rfl) h
set_option maxHeartbeats 4000000 in
set_option maxRecDepth 100000 in
theorem w_X9_becomes_b2 {p : Program} {l : Launch} {e : Env} {s : State} {m : MethodId} {args : Array Value} {below : List Frame} {meth : Method} {c : Code} {b0 : Nat} {D : va_G} {cy : Nat → ClassId} {q : Mem} (C0 : Cx p m c cX9_becomes 2 s args RX9 D cy) (hr : meth.sig.returnType = none) (hlocks : meth.locks = false) : ∀ (n : Nat) (a0 : Nat) (x1 : Int32) (S : Mem) (H : Heap) (locs : List Loc) (ls : Array Slot), Wd b0 D cy S s.heap H locs → lv_has ls 2 [(0, .ref (b0 + a0)), (1, .int x1)] → f_X9_becomes_b2  n a0 x1 S = some q → W p l e rm_X9_becomes s m args below meth c H locs 0 0 (MQ below (Qp b0 D cy none q) args s 0 0 (fun q => b0 ≤ q)) (F0 m 2 ls []) := by
  intro n
  induction n with
  | zero => intro a0 x1 S H locs ls hw hl h; exact absurd h (by simp [f_X9_becomes_b2])
  | succ n ih =>
    intro a0 x1 S H locs ls hw hl h
    rw [f_X9_becomes_b2] at h
    refine lv_iload_n C0.hx C0.hb dX9_becomes_2 rfl (lv_at hl 1 rfl) ?_
    refine lv_bipush (v := (80 : Int32)) C0.hx C0.hb dX9_becomes_3 (by decide) ?_
    refine lv_icmp_ge (tgt := 21) C0.hx C0.hb dX9_becomes_5 (by decide) (fun hc => ?_) (fun hc => ?_)
    · have h := (if_pos hc).symm.trans h
      refine lv_aload_n C0.hx C0.hb dX9_becomes_21 rfl (lv_at hl 0 rfl) ?_
      refine lv_aload_n C0.hx C0.hb dX9_becomes_22 rfl (lv_at hl 0 rfl) ?_
      obtain ⟨r1, hr1, h⟩ := Option.bind_eq_some_iff.mp h
      refine q_getR C0 hw hr1 rfl in_9 (by decide) kw_876 dX9_becomes_23 ?_
      refine lv_iconst (v := (0 : Int32)) C0.hx C0.hb dX9_becomes_26 (by decide) ?_
      obtain ⟨v2, hv2, h⟩ := Option.bind_eq_some_iff.mp h
      refine q_ldI C0 hw hv2 dX9_becomes_27 ?_
      refine lv_iconst (v := (-1 : Int32)) C0.hx C0.hb dX9_becomes_28 (by decide) ?_
      refine lv_icmp_eq (tgt := 36) C0.hx C0.hb dX9_becomes_29 (by decide) (fun hc => ?_) (fun hc => ?_)
      · have h := (if_pos hc).symm.trans h
        refine lv_iconst (v := (0 : Int32)) C0.hx C0.hb dX9_becomes_36 (by decide) ?_
        exact w_X9_becomes_b37 C0 hr hlocks a0 (0 : Int32) a0 S _ _ _ hw (lv_sub hl [0] rfl) h
      · have h := (if_neg hc).symm.trans h
        refine lv_iconst (v := (1 : Int32)) C0.hx C0.hb dX9_becomes_32 (by decide) ?_
        refine lv_goto (tgt := 37) C0.hx C0.hb dX9_becomes_33 (by decide) ?_
        exact w_X9_becomes_b37 C0 hr hlocks a0 (1 : Int32) a0 S _ _ _ hw (lv_sub hl [0] rfl) h
    · have h := (if_neg hc).symm.trans h
      refine lv_aload_n C0.hx C0.hb dX9_becomes_8 rfl (lv_at hl 0 rfl) ?_
      obtain ⟨r55, hr55, h⟩ := Option.bind_eq_some_iff.mp h
      refine q_getR C0 hw hr55 rfl in_9 (by decide) kw_869 dX9_becomes_9 ?_
      refine lv_iload_n C0.hx C0.hb dX9_becomes_12 rfl (lv_at hl 1 rfl) ?_
      refine lv_lconst (v := (0 : Int64)) C0.hx C0.hb dX9_becomes_13 (by decide) ?_
      obtain ⟨S56, hS56, h⟩ := Option.bind_eq_some_iff.mp h
      refine q_stJ C0 hw hS56 dX9_becomes_14 (fun H locs hw => ?_)
      obtain ⟨v57, hv57, h⟩ := Option.bind_eq_some_iff.mp h
      refine lv_iinc (v := v57) (lv' := [(1, .int v57), (0, .ref (b0 + a0))]) C0.hx C0.hb dX9_becomes_15 hl (k := 1) rfl (by rw [← Option.some.inj hv57]; rfl) (by decide) rfl (fun ls hl => ?_)
      refine lv_goto (tgt := 2) C0.hx C0.hb dX9_becomes_18 (by decide) ?_
      exact ih a0 v57 S56 _ _ _ hw (lv_sub hl [1, 0] rfl) h
set_option maxHeartbeats 4000000 in
set_option maxRecDepth 100000 in
theorem m_X9_becomes (l : Launch) (b0 : Nat) (D : va_G) (cy : Nat → ClassId) (S : Mem) (a0 : Nat) {q : Mem} (h : f_X9_becomes a0 S = some q) : Met l yX9_becomes [.code yX9_becomes cX9_becomes 2 (none)] rm_X9_becomes (Pr b0 D cy S [.ref (b0 + a0)]) (Qp b0 D cy none q) 0 0 (fun q => b0 ≤ q) := by
  refine Met.ofW (cc := cX9_becomes) (maxL := 2) (ret := none) (by decide) rfl ?_
  intro p e s m args below meth c s₁ B hml hv
  obtain ⟨rfl, hP, hK, hT⟩ := hv
  have C0 : Cx p m c cX9_becomes 2 s (List.toArray [.ref (b0 + a0)]) RX9 D cy := ⟨⟨B.exec, B.bytes, hml, findClass_of_methodNamed B.named, fun w h => hT w h _⟩, hK, hT⟩
  have hr : meth.sig.returnType = none := B.returns
  have hlocks := B.notSynchronized
  have hw : Wd b0 D cy S s.heap s.heap [] := ⟨hP, va_S.rf⟩
  have hl := lv_entry ([.ref (b0 + a0)]) (n := 2) (Nat.le_of_ble_eq_true rfl)
  rw [lg_entry_eq]
  generalize (lg_sl ([.ref (b0 + a0)]) ++ List.replicate (2 - (lg_sl ([.ref (b0 + a0)])).length) Slot.unset).toArray = ls at hl ⊢
  have hl : lv_has ls 2 [(0, .ref (b0 + a0))] := hl
  rw [f_X9_becomes] at h
  show W p l e rm_X9_becomes s m _ below meth c s.heap [] 0 0 _ _
  refine lv_iconst (v := (0 : Int32)) C0.hx C0.hb dX9_becomes_0 (by decide) ?_
  refine lv_istore_n (lv' := [(1, .int (0 : Int32)), (0, .ref (b0 + a0))]) C0.hx C0.hb dX9_becomes_1 rfl hl (by decide) rfl (fun ls hl => ?_)
  exact w_X9_becomes_b2 C0 hr hlocks FU a0 (0 : Int32) S _ _ _ hw (lv_sub hl [1, 0] rfl) h
abbrev rm_X9_palace : Room := { frames := 5, cells := 0, slots := 0, locals := 117 }
def f_X9_palace_b79 (k51 : Nat → Int32 → Mem → Option (Int32 × Mem)) (a0 : Nat) (t0 : Int32) (S : Mem) : Option (Int32 × Mem) :=
    k51 a0 t0 S
def f_X9_palace_b78 (k51 : Nat → Int32 → Mem → Option (Int32 × Mem)) (a0 : Nat) (S : Mem) : Option (Int32 × Mem) :=
    f_X9_palace_b79 k51 a0 (0 : Int32) S
def f_X9_palace_b104 (a0 : Nat) (t0 : Int32) (t1 : Nat) (S : Mem) : Option (Int32 × Mem) :=
    (pI 9 13 S t1 t0).bind fun S10 =>
      (gI 9 12 S10 a0).bind fun v11 =>
      (if v11 ≤ (0 : Int32) then
      (ck 9 S10 a0).bind fun c12 =>
      (f_X9_becomes a0 S10).bind fun S13 =>
      (gI 9 1 S13 a0).bind fun v14 =>
      some (v14, S13)
      else
      (gI 9 12 S10 a0).bind fun v15 =>
      some (((-10 : Int32) - v15), S10))
def f_X9_palace_b51 : Nat → Nat → Int32 → Mem → Option (Int32 × Mem)
  | 0, _, _, _ => none
  | n + 1, a0, x1, S =>
    (if x1 = (0 : Int32) then
      (pI 9 10 S a0 (0 : Int32)).bind fun S7 =>
      (gI 9 12 S7 a0).bind fun v8 =>
      (if v8 = (0 : Int32) then
      f_X9_palace_b104 a0 (-1 : Int32) a0 S7
      else
      (gI 9 11 S7 a0).bind fun v9 =>
      f_X9_palace_b104 a0 v9 a0 S7)
      else
      (ck 9 S a0).bind fun c16 =>
      (f_X9_readClause a0 S).bind fun S17 =>
      (gI 9 12 S17 a0).bind fun v18 =>
      (if v18 = (0 : Int32) then
      (ck 9 S17 a0).bind fun c19 =>
      (f_X9_here a0 S17).bind fun q20 =>
      (if q20.1 = (-1 : Int32) then
      f_X9_palace_b78 (fun a0 x1 S => f_X9_palace_b51  n a0 x1 S) a0 q20.2
      else
      f_X9_palace_b79 (fun a0 x1 S => f_X9_palace_b51  n a0 x1 S) a0 (1 : Int32) q20.2)
      else
      f_X9_palace_b78 (fun a0 x1 S => f_X9_palace_b51  n a0 x1 S) a0 S17))
def f_X9_palace_b50 (a0 : Nat) (t0 : Int32) (S : Mem) : Option (Int32 × Mem) :=
    f_X9_palace_b51 FU a0 t0 S
def f_X9_palace_b19 : Nat → Nat → Int32 → Mem → Option (Int32 × Mem)
  | 0, _, _, _ => none
  | n + 1, a0, x1, S =>
    (if (4 : Int32) ≤ x1 then
      (ck 9 S a0).bind fun c5 =>
      (f_X9_here a0 S).bind fun q6 =>
      (if q6.1 = (-1 : Int32) then
      f_X9_palace_b50 a0 (0 : Int32) q6.2
      else
      f_X9_palace_b50 a0 (1 : Int32) q6.2)
      else
      (gR 9 14 S a0).bind fun r21 =>
      (stI S r21 x1 (0 : Int32)).bind fun S22 =>
      (some (x1 + (1 : Int32))).bind fun v23 =>
      f_X9_palace_b19  n a0 v23 S22)
def f_X9_palace (a0 : Nat) (S : Mem) : Option (Int32 × Mem) :=
    (pI 9 11 S a0 (0 : Int32)).bind fun S1 =>
      (pI 9 12 S1 a0 (0 : Int32)).bind fun S2 =>
      (gR 9 14 S2 a0).bind fun r3 =>
      (stI S2 r3 (0 : Int32) (-1 : Int32)).bind fun S4 =>
      f_X9_palace_b19 FU a0 (1 : Int32) S4
set_option maxHeartbeats 4000000 in
set_option maxRecDepth 100000 in
theorem w_X9_palace_b79 {p : Program} {l : Launch} {e : Env} {s : State} {m : MethodId} {args : Array Value} {below : List Frame} {meth : Method} {c : Code} {b0 : Nat} {D : va_G} {cy : Nat → ClassId} {q : (Int32 × Mem)} (C0 : Cx p m c cX9_palace 2 s args RX9 D cy) (hr : meth.sig.returnType = some .int) (hlocks : meth.locks = false) (k51 : Nat → Int32 → Mem → Option (Int32 × Mem)) (hk51 : ∀ (a0 : Nat) (x1 : Int32) (S : Mem) (H : Heap) (locs : List Loc) (ls : Array Slot), Wd b0 D cy S s.heap H locs → lv_has ls 2 [(0, .ref (b0 + a0)), (1, .int x1)] → k51 a0 x1 S = some q → W p l e rm_X9_palace s m args below meth c H locs 0 0 (MQ below (Qp b0 D cy (some (.int q.1)) q.2) args s 0 0 (fun q => b0 ≤ q)) (F0 m 51 ls [])) : ∀ (a0 : Nat) (t0 : Int32) (S : Mem) (H : Heap) (locs : List Loc) (ls : Array Slot), Wd b0 D cy S s.heap H locs → lv_has ls 2 [(0, .ref (b0 + a0))] → f_X9_palace_b79 k51 a0 t0 S = some q → W p l e rm_X9_palace s m args below meth c H locs 0 0 (MQ below (Qp b0 D cy (some (.int q.1)) q.2) args s 0 0 (fun q => b0 ≤ q)) (F0 m 79 ls [.int t0]) := by
  intro a0 t0 S H locs ls hw hl h
  rw [f_X9_palace_b79] at h
  refine lv_istore_n (lv' := [(1, .int t0), (0, .ref (b0 + a0))]) C0.hx C0.hb dX9_palace_79 rfl hl (by decide) rfl (fun ls hl => ?_)
  refine lv_goto (tgt := 51) C0.hx C0.hb dX9_palace_80 (by decide) ?_
  exact hk51 a0 t0 S _ _ _ hw (lv_sub hl [1, 0] rfl) h
set_option maxHeartbeats 4000000 in
set_option maxRecDepth 100000 in
theorem w_X9_palace_b78 {p : Program} {l : Launch} {e : Env} {s : State} {m : MethodId} {args : Array Value} {below : List Frame} {meth : Method} {c : Code} {b0 : Nat} {D : va_G} {cy : Nat → ClassId} {q : (Int32 × Mem)} (C0 : Cx p m c cX9_palace 2 s args RX9 D cy) (hr : meth.sig.returnType = some .int) (hlocks : meth.locks = false) (k51 : Nat → Int32 → Mem → Option (Int32 × Mem)) (hk51 : ∀ (a0 : Nat) (x1 : Int32) (S : Mem) (H : Heap) (locs : List Loc) (ls : Array Slot), Wd b0 D cy S s.heap H locs → lv_has ls 2 [(0, .ref (b0 + a0)), (1, .int x1)] → k51 a0 x1 S = some q → W p l e rm_X9_palace s m args below meth c H locs 0 0 (MQ below (Qp b0 D cy (some (.int q.1)) q.2) args s 0 0 (fun q => b0 ≤ q)) (F0 m 51 ls [])) : ∀ (a0 : Nat) (S : Mem) (H : Heap) (locs : List Loc) (ls : Array Slot), Wd b0 D cy S s.heap H locs → lv_has ls 2 [(0, .ref (b0 + a0))] → f_X9_palace_b78 k51 a0 S = some q → W p l e rm_X9_palace s m args below meth c H locs 0 0 (MQ below (Qp b0 D cy (some (.int q.1)) q.2) args s 0 0 (fun q => b0 ≤ q)) (F0 m 78 ls []) := by
  intro a0 S H locs ls hw hl h
  rw [f_X9_palace_b78] at h
  refine lv_iconst (v := (0 : Int32)) C0.hx C0.hb dX9_palace_78 (by decide) ?_
  exact w_X9_palace_b79 C0 hr hlocks k51 hk51 a0 (0 : Int32) S _ _ _ hw (lv_sub hl [0] rfl) h
set_option maxHeartbeats 4000000 in
set_option maxRecDepth 100000 in
theorem w_X9_palace_b104 {p : Program} {l : Launch} {e : Env} {s : State} {m : MethodId} {args : Array Value} {below : List Frame} {meth : Method} {c : Code} {b0 : Nat} {D : va_G} {cy : Nat → ClassId} {q : (Int32 × Mem)} (C0 : Cx p m c cX9_palace 2 s args RX9 D cy) (hr : meth.sig.returnType = some .int) (hlocks : meth.locks = false) : ∀ (a0 : Nat) (t0 : Int32) (t1 : Nat) (S : Mem) (H : Heap) (locs : List Loc) (ls : Array Slot), Wd b0 D cy S s.heap H locs → lv_has ls 2 [(0, .ref (b0 + a0))] → f_X9_palace_b104  a0 t0 t1 S = some q → W p l e rm_X9_palace s m args below meth c H locs 0 0 (MQ below (Qp b0 D cy (some (.int q.1)) q.2) args s 0 0 (fun q => b0 ≤ q)) (F0 m 104 ls [.int t0, .ref (b0 + t1)]) := by
  intro a0 t0 t1 S H locs ls hw hl h
  rw [f_X9_palace_b104] at h
  obtain ⟨S10, hS10, h⟩ := Option.bind_eq_some_iff.mp h
  refine q_putI C0 hw hS10 rfl in_9 tyX9_ok nmX9 ⟨by decide, by decide, rfl, rfl⟩ rfl kw_875 dX9_palace_104 (fun H locs hw => ?_)
  refine lv_aload_n C0.hx C0.hb dX9_palace_107 rfl (lv_at hl 0 rfl) ?_
  obtain ⟨v11, hv11, h⟩ := Option.bind_eq_some_iff.mp h
  refine q_getI C0 hw hv11 rfl in_9 (by decide) kw_874 dX9_palace_108 ?_
  refine lv_if_le (tgt := 122) C0.hx C0.hb dX9_palace_111 (by decide) (fun hc => ?_) (fun hc => ?_)
  · have h := (if_pos hc).symm.trans h
    refine lv_aload_n C0.hx C0.hb dX9_palace_122 rfl (lv_at hl 0 rfl) ?_
    obtain ⟨c12, hc12, h⟩ := Option.bind_eq_some_iff.mp h
    obtain ⟨S13, hS13, h⟩ := Option.bind_eq_some_iff.mp h
    refine q_callV (n := 0) (av := []) (rest := []) (st1 := []) C0 hw (m_X9_becomes l b0 D cy S10 a0 hS13) hc12 rfl (by decide) (goodV kw_1001 kw_1003 kw_33 kw_72 kw_1004) ⟨rfl, rfl⟩ (by decide +kernel) ⟨(Nat.le_of_ble_eq_true rfl), (Nat.le_of_ble_eq_true rfl)⟩ rfl hl.1 rfl (Nat.le_of_ble_eq_true rfl) dX9_palace_123 ⟨Nat.zero_le _, Nat.zero_le _⟩ rfl (fun H locs hw => ?_)
    refine lv_aload_n C0.hx C0.hb dX9_palace_126 rfl (lv_at hl 0 rfl) ?_
    obtain ⟨v14, hv14, h⟩ := Option.bind_eq_some_iff.mp h
    refine q_getI C0 hw hv14 rfl in_9 (by decide) kw_863 dX9_palace_127 ?_
    obtain rfl := Option.some.inj h
    exact q_reti C0 hw hr hlocks dX9_palace_130
  · have h := (if_neg hc).symm.trans h
    refine lv_bipush (v := (-10 : Int32)) C0.hx C0.hb dX9_palace_114 (by decide) ?_
    refine lv_aload_n C0.hx C0.hb dX9_palace_116 rfl (lv_at hl 0 rfl) ?_
    obtain ⟨v15, hv15, h⟩ := Option.bind_eq_some_iff.mp h
    refine q_getI C0 hw hv15 rfl in_9 (by decide) kw_874 dX9_palace_117 ?_
    refine lv_isub C0.hx C0.hb dX9_palace_120 ?_
    obtain rfl := Option.some.inj h
    exact q_reti C0 hw hr hlocks dX9_palace_121
set_option maxHeartbeats 4000000 in
set_option maxRecDepth 100000 in
theorem w_X9_palace_b51 {p : Program} {l : Launch} {e : Env} {s : State} {m : MethodId} {args : Array Value} {below : List Frame} {meth : Method} {c : Code} {b0 : Nat} {D : va_G} {cy : Nat → ClassId} {q : (Int32 × Mem)} (C0 : Cx p m c cX9_palace 2 s args RX9 D cy) (hr : meth.sig.returnType = some .int) (hlocks : meth.locks = false) : ∀ (n : Nat) (a0 : Nat) (x1 : Int32) (S : Mem) (H : Heap) (locs : List Loc) (ls : Array Slot), Wd b0 D cy S s.heap H locs → lv_has ls 2 [(0, .ref (b0 + a0)), (1, .int x1)] → f_X9_palace_b51  n a0 x1 S = some q → W p l e rm_X9_palace s m args below meth c H locs 0 0 (MQ below (Qp b0 D cy (some (.int q.1)) q.2) args s 0 0 (fun q => b0 ≤ q)) (F0 m 51 ls []) := by
  intro n
  induction n with
  | zero => intro a0 x1 S H locs ls hw hl h; exact absurd h (by simp [f_X9_palace_b51])
  | succ n ih =>
    intro a0 x1 S H locs ls hw hl h
    rw [f_X9_palace_b51] at h
    refine lv_iload_n C0.hx C0.hb dX9_palace_51 rfl (lv_at hl 1 rfl) ?_
    refine lv_if_eq (tgt := 83) C0.hx C0.hb dX9_palace_52 (by decide) (fun hc => ?_) (fun hc => ?_)
    · have h := (if_pos hc).symm.trans h
      refine lv_aload_n C0.hx C0.hb dX9_palace_83 rfl (lv_at hl 0 rfl) ?_
      refine lv_iconst (v := (0 : Int32)) C0.hx C0.hb dX9_palace_84 (by decide) ?_
      obtain ⟨S7, hS7, h⟩ := Option.bind_eq_some_iff.mp h
      refine q_putI C0 hw hS7 rfl in_9 tyX9_ok nmX9 ⟨by decide, by decide, rfl, rfl⟩ rfl kw_872 dX9_palace_85 (fun H locs hw => ?_)
      refine lv_aload_n C0.hx C0.hb dX9_palace_88 rfl (lv_at hl 0 rfl) ?_
      refine lv_aload_n C0.hx C0.hb dX9_palace_89 rfl (lv_at hl 0 rfl) ?_
      obtain ⟨v8, hv8, h⟩ := Option.bind_eq_some_iff.mp h
      refine q_getI C0 hw hv8 rfl in_9 (by decide) kw_874 dX9_palace_90 ?_
      refine lv_if_ne (tgt := 100) C0.hx C0.hb dX9_palace_93 (by decide) (fun hc => ?_) (fun hc => ?_)
      · have h := (if_neg hc).symm.trans h
        refine lv_aload_n C0.hx C0.hb dX9_palace_100 rfl (lv_at hl 0 rfl) ?_
        obtain ⟨v9, hv9, h⟩ := Option.bind_eq_some_iff.mp h
        refine q_getI C0 hw hv9 rfl in_9 (by decide) kw_873 dX9_palace_101 ?_
        exact w_X9_palace_b104 C0 hr hlocks a0 v9 a0 S7 _ _ _ hw (lv_sub hl [0] rfl) h
      · have h := (if_pos hc).symm.trans h
        refine lv_iconst (v := (-1 : Int32)) C0.hx C0.hb dX9_palace_96 (by decide) ?_
        refine lv_goto (tgt := 104) C0.hx C0.hb dX9_palace_97 (by decide) ?_
        exact w_X9_palace_b104 C0 hr hlocks a0 (-1 : Int32) a0 S7 _ _ _ hw (lv_sub hl [0] rfl) h
    · have h := (if_neg hc).symm.trans h
      refine lv_aload_n C0.hx C0.hb dX9_palace_55 rfl (lv_at hl 0 rfl) ?_
      obtain ⟨c16, hc16, h⟩ := Option.bind_eq_some_iff.mp h
      obtain ⟨S17, hS17, h⟩ := Option.bind_eq_some_iff.mp h
      refine q_callV (n := 0) (av := []) (rest := []) (st1 := []) C0 hw (m_X9_readClause l b0 D cy S a0 hS17) hc16 rfl (by decide) (goodV kw_964 kw_966 kw_25 kw_72 kw_967) ⟨rfl, rfl⟩ (by decide +kernel) ⟨(Nat.le_of_ble_eq_true rfl), (Nat.le_of_ble_eq_true rfl)⟩ rfl hl.1 rfl (Nat.le_of_ble_eq_true rfl) dX9_palace_56 ⟨Nat.zero_le _, Nat.zero_le _⟩ rfl (fun H locs hw => ?_)
      refine lv_aload_n C0.hx C0.hb dX9_palace_59 rfl (lv_at hl 0 rfl) ?_
      obtain ⟨v18, hv18, h⟩ := Option.bind_eq_some_iff.mp h
      refine q_getI C0 hw hv18 rfl in_9 (by decide) kw_874 dX9_palace_60 ?_
      refine lv_if_ne (tgt := 78) C0.hx C0.hb dX9_palace_63 (by decide) (fun hc => ?_) (fun hc => ?_)
      · have h := (if_neg hc).symm.trans h
        exact w_X9_palace_b78 C0 hr hlocks (fun a0 x1 S => f_X9_palace_b51  n a0 x1 S) ih a0 S17 _ _ _ hw (lv_sub hl [0] rfl) h
      · have h := (if_pos hc).symm.trans h
        refine lv_aload_n C0.hx C0.hb dX9_palace_66 rfl (lv_at hl 0 rfl) ?_
        obtain ⟨c19, hc19, h⟩ := Option.bind_eq_some_iff.mp h
        obtain ⟨q20, hq20, h⟩ := Option.bind_eq_some_iff.mp h
        refine q_callV (n := 0) (av := []) (rest := []) (st1 := [.int q20.1]) C0 hw (m_X9_here l b0 D cy S17 a0 hq20) hc19 rfl (by decide) (goodV kw_960 kw_962 kw_24 kw_72 kw_963) ⟨rfl, rfl⟩ (by decide +kernel) ⟨(Nat.le_of_ble_eq_true rfl), (Nat.le_of_ble_eq_true rfl)⟩ rfl hl.1 rfl (Nat.le_of_ble_eq_true rfl) dX9_palace_67 ⟨Nat.zero_le _, Nat.zero_le _⟩ rfl (fun H locs hw => ?_)
        refine lv_iconst (v := (-1 : Int32)) C0.hx C0.hb dX9_palace_70 (by decide) ?_
        refine lv_icmp_eq (tgt := 78) C0.hx C0.hb dX9_palace_71 (by decide) (fun hc => ?_) (fun hc => ?_)
        · have h := (if_pos hc).symm.trans h
          exact w_X9_palace_b78 C0 hr hlocks (fun a0 x1 S => f_X9_palace_b51  n a0 x1 S) ih a0 q20.2 _ _ _ hw (lv_sub hl [0] rfl) h
        · have h := (if_neg hc).symm.trans h
          refine lv_iconst (v := (1 : Int32)) C0.hx C0.hb dX9_palace_74 (by decide) ?_
          refine lv_goto (tgt := 79) C0.hx C0.hb dX9_palace_75 (by decide) ?_
          exact w_X9_palace_b79 C0 hr hlocks (fun a0 x1 S => f_X9_palace_b51  n a0 x1 S) ih a0 (1 : Int32) q20.2 _ _ _ hw (lv_sub hl [0] rfl) h
set_option maxHeartbeats 4000000 in
set_option maxRecDepth 100000 in
theorem w_X9_palace_b50 {p : Program} {l : Launch} {e : Env} {s : State} {m : MethodId} {args : Array Value} {below : List Frame} {meth : Method} {c : Code} {b0 : Nat} {D : va_G} {cy : Nat → ClassId} {q : (Int32 × Mem)} (C0 : Cx p m c cX9_palace 2 s args RX9 D cy) (hr : meth.sig.returnType = some .int) (hlocks : meth.locks = false) : ∀ (a0 : Nat) (t0 : Int32) (S : Mem) (H : Heap) (locs : List Loc) (ls : Array Slot), Wd b0 D cy S s.heap H locs → lv_has ls 2 [(0, .ref (b0 + a0))] → f_X9_palace_b50  a0 t0 S = some q → W p l e rm_X9_palace s m args below meth c H locs 0 0 (MQ below (Qp b0 D cy (some (.int q.1)) q.2) args s 0 0 (fun q => b0 ≤ q)) (F0 m 50 ls [.int t0]) := by
  intro a0 t0 S H locs ls hw hl h
  rw [f_X9_palace_b50] at h
  refine lv_istore_n (lv' := [(1, .int t0), (0, .ref (b0 + a0))]) C0.hx C0.hb dX9_palace_50 rfl hl (by decide) rfl (fun ls hl => ?_)
  exact w_X9_palace_b51 C0 hr hlocks FU a0 t0 S _ _ _ hw (lv_sub hl [1, 0] rfl) h
set_option maxHeartbeats 4000000 in
set_option maxRecDepth 100000 in
theorem w_X9_palace_b19 {p : Program} {l : Launch} {e : Env} {s : State} {m : MethodId} {args : Array Value} {below : List Frame} {meth : Method} {c : Code} {b0 : Nat} {D : va_G} {cy : Nat → ClassId} {q : (Int32 × Mem)} (C0 : Cx p m c cX9_palace 2 s args RX9 D cy) (hr : meth.sig.returnType = some .int) (hlocks : meth.locks = false) : ∀ (n : Nat) (a0 : Nat) (x1 : Int32) (S : Mem) (H : Heap) (locs : List Loc) (ls : Array Slot), Wd b0 D cy S s.heap H locs → lv_has ls 2 [(0, .ref (b0 + a0)), (1, .int x1)] → f_X9_palace_b19  n a0 x1 S = some q → W p l e rm_X9_palace s m args below meth c H locs 0 0 (MQ below (Qp b0 D cy (some (.int q.1)) q.2) args s 0 0 (fun q => b0 ≤ q)) (F0 m 19 ls []) := by
  intro n
  induction n with
  | zero => intro a0 x1 S H locs ls hw hl h; exact absurd h (by simp [f_X9_palace_b19])
  | succ n ih =>
    intro a0 x1 S H locs ls hw hl h
    rw [f_X9_palace_b19] at h
    refine lv_iload_n C0.hx C0.hb dX9_palace_19 rfl (lv_at hl 1 rfl) ?_
    refine lv_iconst (v := (4 : Int32)) C0.hx C0.hb dX9_palace_20 (by decide) ?_
    refine lv_icmp_ge (tgt := 37) C0.hx C0.hb dX9_palace_21 (by decide) (fun hc => ?_) (fun hc => ?_)
    · have h := (if_pos hc).symm.trans h
      refine lv_aload_n C0.hx C0.hb dX9_palace_37 rfl (lv_at hl 0 rfl) ?_
      obtain ⟨c5, hc5, h⟩ := Option.bind_eq_some_iff.mp h
      obtain ⟨q6, hq6, h⟩ := Option.bind_eq_some_iff.mp h
      refine q_callV (n := 0) (av := []) (rest := []) (st1 := [.int q6.1]) C0 hw (m_X9_here l b0 D cy S a0 hq6) hc5 rfl (by decide) (goodV kw_960 kw_962 kw_24 kw_72 kw_963) ⟨rfl, rfl⟩ (by decide +kernel) ⟨(Nat.le_of_ble_eq_true rfl), (Nat.le_of_ble_eq_true rfl)⟩ rfl hl.1 rfl (Nat.le_of_ble_eq_true rfl) dX9_palace_38 ⟨Nat.zero_le _, Nat.zero_le _⟩ rfl (fun H locs hw => ?_)
      refine lv_iconst (v := (-1 : Int32)) C0.hx C0.hb dX9_palace_41 (by decide) ?_
      refine lv_icmp_eq (tgt := 49) C0.hx C0.hb dX9_palace_42 (by decide) (fun hc => ?_) (fun hc => ?_)
      · have h := (if_pos hc).symm.trans h
        refine lv_iconst (v := (0 : Int32)) C0.hx C0.hb dX9_palace_49 (by decide) ?_
        exact w_X9_palace_b50 C0 hr hlocks a0 (0 : Int32) q6.2 _ _ _ hw (lv_sub hl [0] rfl) h
      · have h := (if_neg hc).symm.trans h
        refine lv_iconst (v := (1 : Int32)) C0.hx C0.hb dX9_palace_45 (by decide) ?_
        refine lv_goto (tgt := 50) C0.hx C0.hb dX9_palace_46 (by decide) ?_
        exact w_X9_palace_b50 C0 hr hlocks a0 (1 : Int32) q6.2 _ _ _ hw (lv_sub hl [0] rfl) h
    · have h := (if_neg hc).symm.trans h
      refine lv_aload_n C0.hx C0.hb dX9_palace_24 rfl (lv_at hl 0 rfl) ?_
      obtain ⟨r21, hr21, h⟩ := Option.bind_eq_some_iff.mp h
      refine q_getR C0 hw hr21 rfl in_9 (by decide) kw_876 dX9_palace_25 ?_
      refine lv_iload_n C0.hx C0.hb dX9_palace_28 rfl (lv_at hl 1 rfl) ?_
      refine lv_iconst (v := (0 : Int32)) C0.hx C0.hb dX9_palace_29 (by decide) ?_
      obtain ⟨S22, hS22, h⟩ := Option.bind_eq_some_iff.mp h
      refine q_stI C0 hw hS22 dX9_palace_30 (fun H locs hw => ?_)
      obtain ⟨v23, hv23, h⟩ := Option.bind_eq_some_iff.mp h
      refine lv_iinc (v := v23) (lv' := [(1, .int v23), (0, .ref (b0 + a0))]) C0.hx C0.hb dX9_palace_31 hl (k := 1) rfl (by rw [← Option.some.inj hv23]; rfl) (by decide) rfl (fun ls hl => ?_)
      refine lv_goto (tgt := 19) C0.hx C0.hb dX9_palace_34 (by decide) ?_
      exact ih a0 v23 S22 _ _ _ hw (lv_sub hl [1, 0] rfl) h
set_option maxHeartbeats 4000000 in
set_option maxRecDepth 100000 in
theorem m_X9_palace (l : Launch) (b0 : Nat) (D : va_G) (cy : Nat → ClassId) (S : Mem) (a0 : Nat) {q : (Int32 × Mem)} (h : f_X9_palace a0 S = some q) : Met l yX9_palace [.code yX9_palace cX9_palace 2 (some .int)] rm_X9_palace (Pr b0 D cy S [.ref (b0 + a0)]) (Qp b0 D cy (some (.int q.1)) q.2) 0 0 (fun q => b0 ≤ q) := by
  refine Met.ofW (cc := cX9_palace) (maxL := 2) (ret := some .int) (by decide) rfl ?_
  intro p e s m args below meth c s₁ B hml hv
  obtain ⟨rfl, hP, hK, hT⟩ := hv
  have C0 : Cx p m c cX9_palace 2 s (List.toArray [.ref (b0 + a0)]) RX9 D cy := ⟨⟨B.exec, B.bytes, hml, findClass_of_methodNamed B.named, fun w h => hT w h _⟩, hK, hT⟩
  have hr : meth.sig.returnType = some .int := B.returns
  have hlocks := B.notSynchronized
  have hw : Wd b0 D cy S s.heap s.heap [] := ⟨hP, va_S.rf⟩
  have hl := lv_entry ([.ref (b0 + a0)]) (n := 2) (Nat.le_of_ble_eq_true rfl)
  rw [lg_entry_eq]
  generalize (lg_sl ([.ref (b0 + a0)]) ++ List.replicate (2 - (lg_sl ([.ref (b0 + a0)])).length) Slot.unset).toArray = ls at hl ⊢
  have hl : lv_has ls 2 [(0, .ref (b0 + a0))] := hl
  rw [f_X9_palace] at h
  show W p l e rm_X9_palace s m _ below meth c s.heap [] 0 0 _ _
  refine lv_aload_n C0.hx C0.hb dX9_palace_0 rfl (lv_at hl 0 rfl) ?_
  refine lv_iconst (v := (0 : Int32)) C0.hx C0.hb dX9_palace_1 (by decide) ?_
  obtain ⟨S1, hS1, h⟩ := Option.bind_eq_some_iff.mp h
  refine q_putI C0 hw hS1 rfl in_9 tyX9_ok nmX9 ⟨by decide, by decide, rfl, rfl⟩ rfl kw_873 dX9_palace_2 (fun H locs hw => ?_)
  refine lv_aload_n C0.hx C0.hb dX9_palace_5 rfl (lv_at hl 0 rfl) ?_
  refine lv_iconst (v := (0 : Int32)) C0.hx C0.hb dX9_palace_6 (by decide) ?_
  obtain ⟨S2, hS2, h⟩ := Option.bind_eq_some_iff.mp h
  refine q_putI C0 hw hS2 rfl in_9 tyX9_ok nmX9 ⟨by decide, by decide, rfl, rfl⟩ rfl kw_874 dX9_palace_7 (fun H locs hw => ?_)
  refine lv_aload_n C0.hx C0.hb dX9_palace_10 rfl (lv_at hl 0 rfl) ?_
  obtain ⟨r3, hr3, h⟩ := Option.bind_eq_some_iff.mp h
  refine q_getR C0 hw hr3 rfl in_9 (by decide) kw_876 dX9_palace_11 ?_
  refine lv_iconst (v := (0 : Int32)) C0.hx C0.hb dX9_palace_14 (by decide) ?_
  refine lv_iconst (v := (-1 : Int32)) C0.hx C0.hb dX9_palace_15 (by decide) ?_
  obtain ⟨S4, hS4, h⟩ := Option.bind_eq_some_iff.mp h
  refine q_stI C0 hw hS4 dX9_palace_16 (fun H locs hw => ?_)
  refine lv_iconst (v := (1 : Int32)) C0.hx C0.hb dX9_palace_17 (by decide) ?_
  refine lv_istore_n (lv' := [(1, .int (1 : Int32)), (0, .ref (b0 + a0))]) C0.hx C0.hb dX9_palace_18 rfl hl (by decide) rfl (fun ls hl => ?_)
  exact w_X9_palace_b19 C0 hr hlocks FU a0 (1 : Int32) S4 _ _ _ hw (lv_sub hl [1, 0] rfl) h
abbrev rm_X9_fault : Room := { frames := 0, cells := 0, slots := 0, locals := 0 }
def f_X9_fault (a0 : Nat) (S : Mem) : Option Int32 :=
    (gI 9 13 S a0).bind fun v1 =>
      some v1
set_option maxHeartbeats 4000000 in
set_option maxRecDepth 100000 in
theorem m_X9_fault (l : Launch) (b0 : Nat) (D : va_G) (cy : Nat → ClassId) (S : Mem) (a0 : Nat) {q : Int32} (h : f_X9_fault a0 S = some q) : Met l yX9_fault [.code yX9_fault cX9_fault 1 (some .int)] rm_X9_fault (Pr b0 D cy S [.ref (b0 + a0)]) (Qp b0 D cy (some (.int q)) S) 0 0 (fun q => b0 ≤ q) := by
  refine Met.ofW (cc := cX9_fault) (maxL := 1) (ret := some .int) (by decide) rfl ?_
  intro p e s m args below meth c s₁ B hml hv
  obtain ⟨rfl, hP, hK, hT⟩ := hv
  have C0 : Cx p m c cX9_fault 1 s (List.toArray [.ref (b0 + a0)]) RX9 D cy := ⟨⟨B.exec, B.bytes, hml, findClass_of_methodNamed B.named, fun w h => hT w h _⟩, hK, hT⟩
  have hr : meth.sig.returnType = some .int := B.returns
  have hlocks := B.notSynchronized
  have hw : Wd b0 D cy S s.heap s.heap [] := ⟨hP, va_S.rf⟩
  have hl := lv_entry ([.ref (b0 + a0)]) (n := 1) (Nat.le_of_ble_eq_true rfl)
  rw [lg_entry_eq]
  generalize (lg_sl ([.ref (b0 + a0)]) ++ List.replicate (1 - (lg_sl ([.ref (b0 + a0)])).length) Slot.unset).toArray = ls at hl ⊢
  have hl : lv_has ls 1 [(0, .ref (b0 + a0))] := hl
  rw [f_X9_fault] at h
  show W p l e rm_X9_fault s m _ below meth c s.heap [] 0 0 _ _
  refine lv_aload_n C0.hx C0.hb dX9_fault_0 rfl (lv_at hl 0 rfl) ?_
  obtain ⟨v1, hv1, h⟩ := Option.bind_eq_some_iff.mp h
  refine q_getI C0 hw hv1 rfl in_9 (by decide) kw_875 dX9_fault_1 ?_
  obtain rfl := Option.some.inj h
  exact q_reti C0 hw hr hlocks dX9_fault_4
abbrev rm_X9_told : Room := { frames := 1, cells := 0, slots := 0, locals := 21 }
def f_X9_told (a0 : Nat) (x1 : Int32) (S : Mem) : Option Int32 :=
    (if x1 = (0 : Int32) then
      (gI 9 1 S a0).bind fun v1 =>
      some v1
      else
      if x1 = (1 : Int32) then
      (gI 9 2 S a0).bind fun v2 =>
      some v2
      else
      if x1 = (2 : Int32) then
      (gI 9 3 S a0).bind fun v3 =>
      some v3
      else
      if x1 = (3 : Int32) then
      (gI 9 10 S a0).bind fun v4 =>
      some v4
      else
      if x1 = (4 : Int32) then
      (gI 9 0 S a0).bind fun v5 =>
      (if v5 = (0 : Int32) then
      some (-1 : Int32)
      else
      (ck 9 S a0).bind fun c6 =>
      (f_X9_at a0 (0 : Int32) S).bind fun v7 =>
      some v7)
      else
      if x1 = (5 : Int32) then
      (ck 9 S a0).bind fun c8 =>
      (f_X9_at a0 (1 : Int32) S).bind fun v9 =>
      some v9
      else
      if x1 = (6 : Int32) then
      (gI 9 1 S a0).bind fun v10 =>
      (if v10 = (0 : Int32) then
      some (-1 : Int32)
      else
      (ck 9 S a0).bind fun c11 =>
      (f_X9_at a0 (2 : Int32) S).bind fun v12 =>
      some v12)
      else
      if x1 = (7 : Int32) then
      (ck 9 S a0).bind fun c13 =>
      (f_X9_at a0 (3 : Int32) S).bind fun v14 =>
      some v14
      else
      if x1 = (8 : Int32) then
      (ck 9 S a0).bind fun c15 =>
      (f_X9_at a0 (4 : Int32) S).bind fun v16 =>
      some v16
      else
      if x1 = (9 : Int32) then
      (ck 9 S a0).bind fun c17 =>
      (f_X9_at a0 (5 : Int32) S).bind fun v18 =>
      some v18
      else
      if x1 = (10 : Int32) then
      (ck 9 S a0).bind fun c19 =>
      (f_X9_at a0 (6 : Int32) S).bind fun v20 =>
      some v20
      else
      if x1 = (11 : Int32) then
      (ck 9 S a0).bind fun c21 =>
      (f_X9_at a0 (7 : Int32) S).bind fun v22 =>
      some v22
      else
      if x1 = (12 : Int32) then
      (ck 9 S a0).bind fun c23 =>
      (f_X9_at a0 (8 : Int32) S).bind fun v24 =>
      some v24
      else
      if x1 = (13 : Int32) then
      (ck 9 S a0).bind fun c25 =>
      (f_X9_at a0 (9 : Int32) S).bind fun v26 =>
      some v26
      else
      if x1 = (14 : Int32) then
      (gI 9 24 S a0).bind fun v27 =>
      some v27
      else
      if x1 = (15 : Int32) then
      (gI 9 16 S a0).bind fun v28 =>
      some v28
      else
      (some (-1000000002 : Int32)))
set_option maxHeartbeats 4000000 in
set_option maxRecDepth 100000 in
theorem m_X9_told (l : Launch) (b0 : Nat) (D : va_G) (cy : Nat → ClassId) (S : Mem) (a0 : Nat) (x1 : Int32) {q : Int32} (h : f_X9_told a0 x1 S = some q) : Met l yX9_told [.code yX9_told cX9_told 2 (some .int)] rm_X9_told (Pr b0 D cy S [.ref (b0 + a0), .int x1]) (Qp b0 D cy (some (.int q)) S) 0 0 (fun q => b0 ≤ q) := by
  refine Met.ofW (cc := cX9_told) (maxL := 2) (ret := some .int) (by decide) rfl ?_
  intro p e s m args below meth c s₁ B hml hv
  obtain ⟨rfl, hP, hK, hT⟩ := hv
  have C0 : Cx p m c cX9_told 2 s (List.toArray [.ref (b0 + a0), .int x1]) RX9 D cy := ⟨⟨B.exec, B.bytes, hml, findClass_of_methodNamed B.named, fun w h => hT w h _⟩, hK, hT⟩
  have hr : meth.sig.returnType = some .int := B.returns
  have hlocks := B.notSynchronized
  have hw : Wd b0 D cy S s.heap s.heap [] := ⟨hP, va_S.rf⟩
  have hl := lv_entry ([.ref (b0 + a0), .int x1]) (n := 2) (Nat.le_of_ble_eq_true rfl)
  rw [lg_entry_eq]
  generalize (lg_sl ([.ref (b0 + a0), .int x1]) ++ List.replicate (2 - (lg_sl ([.ref (b0 + a0), .int x1])).length) Slot.unset).toArray = ls at hl ⊢
  have hl : lv_has ls 2 [(0, .ref (b0 + a0)), (1, .int x1)] := hl
  rw [f_X9_told] at h
  show W p l e rm_X9_told s m _ below meth c s.heap [] 0 0 _ _
  refine lv_iload_n C0.hx C0.hb dX9_told_0 rfl (lv_at hl 1 rfl) ?_
  by_cases hc0 : x1 = (0 : Int32)
  · have h := (if_pos hc0).symm.trans h
    refine lv_tableIn (off := 79) (tgt := 80) C0.hx C0.hb dX9_told_1 (by rw [hc0]; decide) (by rw [hc0]; decide) (by rw [hc0]; rfl) (by decide) ?_
    refine lv_aload_n C0.hx C0.hb dX9_told_80 rfl (lv_at hl 0 rfl) ?_
    obtain ⟨v1, hv1, h⟩ := Option.bind_eq_some_iff.mp h
    refine q_getI C0 hw hv1 rfl in_9 (by decide) kw_863 dX9_told_81 ?_
    obtain rfl := Option.some.inj h
    exact q_reti C0 hw hr hlocks dX9_told_84
  · have h := (if_neg hc0).symm.trans h
    by_cases hc1 : x1 = (1 : Int32)
    · have h := (if_pos hc1).symm.trans h
      refine lv_tableIn (off := 84) (tgt := 85) C0.hx C0.hb dX9_told_1 (by rw [hc1]; decide) (by rw [hc1]; decide) (by rw [hc1]; rfl) (by decide) ?_
      refine lv_aload_n C0.hx C0.hb dX9_told_85 rfl (lv_at hl 0 rfl) ?_
      obtain ⟨v2, hv2, h⟩ := Option.bind_eq_some_iff.mp h
      refine q_getI C0 hw hv2 rfl in_9 (by decide) kw_864 dX9_told_86 ?_
      obtain rfl := Option.some.inj h
      exact q_reti C0 hw hr hlocks dX9_told_89
    · have h := (if_neg hc1).symm.trans h
      by_cases hc2 : x1 = (2 : Int32)
      · have h := (if_pos hc2).symm.trans h
        refine lv_tableIn (off := 89) (tgt := 90) C0.hx C0.hb dX9_told_1 (by rw [hc2]; decide) (by rw [hc2]; decide) (by rw [hc2]; rfl) (by decide) ?_
        refine lv_aload_n C0.hx C0.hb dX9_told_90 rfl (lv_at hl 0 rfl) ?_
        obtain ⟨v3, hv3, h⟩ := Option.bind_eq_some_iff.mp h
        refine q_getI C0 hw hv3 rfl in_9 (by decide) kw_865 dX9_told_91 ?_
        obtain rfl := Option.some.inj h
        exact q_reti C0 hw hr hlocks dX9_told_94
      · have h := (if_neg hc2).symm.trans h
        by_cases hc3 : x1 = (3 : Int32)
        · have h := (if_pos hc3).symm.trans h
          refine lv_tableIn (off := 94) (tgt := 95) C0.hx C0.hb dX9_told_1 (by rw [hc3]; decide) (by rw [hc3]; decide) (by rw [hc3]; rfl) (by decide) ?_
          refine lv_aload_n C0.hx C0.hb dX9_told_95 rfl (lv_at hl 0 rfl) ?_
          obtain ⟨v4, hv4, h⟩ := Option.bind_eq_some_iff.mp h
          refine q_getI C0 hw hv4 rfl in_9 (by decide) kw_872 dX9_told_96 ?_
          obtain rfl := Option.some.inj h
          exact q_reti C0 hw hr hlocks dX9_told_99
        · have h := (if_neg hc3).symm.trans h
          by_cases hc4 : x1 = (4 : Int32)
          · have h := (if_pos hc4).symm.trans h
            refine lv_tableIn (off := 99) (tgt := 100) C0.hx C0.hb dX9_told_1 (by rw [hc4]; decide) (by rw [hc4]; decide) (by rw [hc4]; rfl) (by decide) ?_
            refine lv_aload_n C0.hx C0.hb dX9_told_100 rfl (lv_at hl 0 rfl) ?_
            obtain ⟨v5, hv5, h⟩ := Option.bind_eq_some_iff.mp h
            refine q_getI C0 hw hv5 rfl in_9 (by decide) kw_862 dX9_told_101 ?_
            refine lv_if_eq (tgt := 115) C0.hx C0.hb dX9_told_104 (by decide) (fun hc => ?_) (fun hc => ?_)
            · have h := (if_pos hc).symm.trans h
              refine lv_iconst (v := (-1 : Int32)) C0.hx C0.hb dX9_told_115 (by decide) ?_
              obtain rfl := Option.some.inj h
              exact q_reti C0 hw hr hlocks dX9_told_116
            · have h := (if_neg hc).symm.trans h
              refine lv_aload_n C0.hx C0.hb dX9_told_107 rfl (lv_at hl 0 rfl) ?_
              refine lv_iconst (v := (0 : Int32)) C0.hx C0.hb dX9_told_108 (by decide) ?_
              obtain ⟨c6, hc6, h⟩ := Option.bind_eq_some_iff.mp h
              obtain ⟨v7, hv7, h⟩ := Option.bind_eq_some_iff.mp h
              refine q_callV (n := 1) (av := [.int (0 : Int32)]) (rest := []) (st1 := [.int v7]) C0 hw (m_X9_at l b0 D cy S a0 (0 : Int32) hv7) hc6 rfl (by decide) (goodV kw_1013 kw_1015 kw_34 kw_72 kw_1016) ⟨rfl, rfl⟩ (by decide +kernel) ⟨(Nat.le_of_ble_eq_true rfl), (Nat.le_of_ble_eq_true rfl)⟩ rfl hl.1 rfl (Nat.le_of_ble_eq_true rfl) dX9_told_109 ⟨Nat.zero_le _, Nat.zero_le _⟩ rfl (fun H locs hw => ?_)
              refine lv_goto (tgt := 116) C0.hx C0.hb dX9_told_112 (by decide) ?_
              obtain rfl := Option.some.inj h
              exact q_reti C0 hw hr hlocks dX9_told_116
          · have h := (if_neg hc4).symm.trans h
            by_cases hc5 : x1 = (5 : Int32)
            · have h := (if_pos hc5).symm.trans h
              refine lv_tableIn (off := 116) (tgt := 117) C0.hx C0.hb dX9_told_1 (by rw [hc5]; decide) (by rw [hc5]; decide) (by rw [hc5]; rfl) (by decide) ?_
              refine lv_aload_n C0.hx C0.hb dX9_told_117 rfl (lv_at hl 0 rfl) ?_
              refine lv_iconst (v := (1 : Int32)) C0.hx C0.hb dX9_told_118 (by decide) ?_
              obtain ⟨c8, hc8, h⟩ := Option.bind_eq_some_iff.mp h
              obtain ⟨v9, hv9, h⟩ := Option.bind_eq_some_iff.mp h
              refine q_callV (n := 1) (av := [.int (1 : Int32)]) (rest := []) (st1 := [.int v9]) C0 hw (m_X9_at l b0 D cy S a0 (1 : Int32) hv9) hc8 rfl (by decide) (goodV kw_1013 kw_1015 kw_34 kw_72 kw_1016) ⟨rfl, rfl⟩ (by decide +kernel) ⟨(Nat.le_of_ble_eq_true rfl), (Nat.le_of_ble_eq_true rfl)⟩ rfl hl.1 rfl (Nat.le_of_ble_eq_true rfl) dX9_told_119 ⟨Nat.zero_le _, Nat.zero_le _⟩ rfl (fun H locs hw => ?_)
              obtain rfl := Option.some.inj h
              exact q_reti C0 hw hr hlocks dX9_told_122
            · have h := (if_neg hc5).symm.trans h
              by_cases hc6 : x1 = (6 : Int32)
              · have h := (if_pos hc6).symm.trans h
                refine lv_tableIn (off := 122) (tgt := 123) C0.hx C0.hb dX9_told_1 (by rw [hc6]; decide) (by rw [hc6]; decide) (by rw [hc6]; rfl) (by decide) ?_
                refine lv_aload_n C0.hx C0.hb dX9_told_123 rfl (lv_at hl 0 rfl) ?_
                obtain ⟨v10, hv10, h⟩ := Option.bind_eq_some_iff.mp h
                refine q_getI C0 hw hv10 rfl in_9 (by decide) kw_863 dX9_told_124 ?_
                refine lv_if_ne (tgt := 134) C0.hx C0.hb dX9_told_127 (by decide) (fun hc => ?_) (fun hc => ?_)
                · have h := (if_neg hc).symm.trans h
                  refine lv_aload_n C0.hx C0.hb dX9_told_134 rfl (lv_at hl 0 rfl) ?_
                  refine lv_iconst (v := (2 : Int32)) C0.hx C0.hb dX9_told_135 (by decide) ?_
                  obtain ⟨c11, hc11, h⟩ := Option.bind_eq_some_iff.mp h
                  obtain ⟨v12, hv12, h⟩ := Option.bind_eq_some_iff.mp h
                  refine q_callV (n := 1) (av := [.int (2 : Int32)]) (rest := []) (st1 := [.int v12]) C0 hw (m_X9_at l b0 D cy S a0 (2 : Int32) hv12) hc11 rfl (by decide) (goodV kw_1013 kw_1015 kw_34 kw_72 kw_1016) ⟨rfl, rfl⟩ (by decide +kernel) ⟨(Nat.le_of_ble_eq_true rfl), (Nat.le_of_ble_eq_true rfl)⟩ rfl hl.1 rfl (Nat.le_of_ble_eq_true rfl) dX9_told_136 ⟨Nat.zero_le _, Nat.zero_le _⟩ rfl (fun H locs hw => ?_)
                  obtain rfl := Option.some.inj h
                  exact q_reti C0 hw hr hlocks dX9_told_139
                · have h := (if_pos hc).symm.trans h
                  refine lv_iconst (v := (-1 : Int32)) C0.hx C0.hb dX9_told_130 (by decide) ?_
                  refine lv_goto (tgt := 139) C0.hx C0.hb dX9_told_131 (by decide) ?_
                  obtain rfl := Option.some.inj h
                  exact q_reti C0 hw hr hlocks dX9_told_139
              · have h := (if_neg hc6).symm.trans h
                by_cases hc7 : x1 = (7 : Int32)
                · have h := (if_pos hc7).symm.trans h
                  refine lv_tableIn (off := 139) (tgt := 140) C0.hx C0.hb dX9_told_1 (by rw [hc7]; decide) (by rw [hc7]; decide) (by rw [hc7]; rfl) (by decide) ?_
                  refine lv_aload_n C0.hx C0.hb dX9_told_140 rfl (lv_at hl 0 rfl) ?_
                  refine lv_iconst (v := (3 : Int32)) C0.hx C0.hb dX9_told_141 (by decide) ?_
                  obtain ⟨c13, hc13, h⟩ := Option.bind_eq_some_iff.mp h
                  obtain ⟨v14, hv14, h⟩ := Option.bind_eq_some_iff.mp h
                  refine q_callV (n := 1) (av := [.int (3 : Int32)]) (rest := []) (st1 := [.int v14]) C0 hw (m_X9_at l b0 D cy S a0 (3 : Int32) hv14) hc13 rfl (by decide) (goodV kw_1013 kw_1015 kw_34 kw_72 kw_1016) ⟨rfl, rfl⟩ (by decide +kernel) ⟨(Nat.le_of_ble_eq_true rfl), (Nat.le_of_ble_eq_true rfl)⟩ rfl hl.1 rfl (Nat.le_of_ble_eq_true rfl) dX9_told_142 ⟨Nat.zero_le _, Nat.zero_le _⟩ rfl (fun H locs hw => ?_)
                  obtain rfl := Option.some.inj h
                  exact q_reti C0 hw hr hlocks dX9_told_145
                · have h := (if_neg hc7).symm.trans h
                  by_cases hc8 : x1 = (8 : Int32)
                  · have h := (if_pos hc8).symm.trans h
                    refine lv_tableIn (off := 145) (tgt := 146) C0.hx C0.hb dX9_told_1 (by rw [hc8]; decide) (by rw [hc8]; decide) (by rw [hc8]; rfl) (by decide) ?_
                    refine lv_aload_n C0.hx C0.hb dX9_told_146 rfl (lv_at hl 0 rfl) ?_
                    refine lv_iconst (v := (4 : Int32)) C0.hx C0.hb dX9_told_147 (by decide) ?_
                    obtain ⟨c15, hc15, h⟩ := Option.bind_eq_some_iff.mp h
                    obtain ⟨v16, hv16, h⟩ := Option.bind_eq_some_iff.mp h
                    refine q_callV (n := 1) (av := [.int (4 : Int32)]) (rest := []) (st1 := [.int v16]) C0 hw (m_X9_at l b0 D cy S a0 (4 : Int32) hv16) hc15 rfl (by decide) (goodV kw_1013 kw_1015 kw_34 kw_72 kw_1016) ⟨rfl, rfl⟩ (by decide +kernel) ⟨(Nat.le_of_ble_eq_true rfl), (Nat.le_of_ble_eq_true rfl)⟩ rfl hl.1 rfl (Nat.le_of_ble_eq_true rfl) dX9_told_148 ⟨Nat.zero_le _, Nat.zero_le _⟩ rfl (fun H locs hw => ?_)
                    obtain rfl := Option.some.inj h
                    exact q_reti C0 hw hr hlocks dX9_told_151
                  · have h := (if_neg hc8).symm.trans h
                    by_cases hc9 : x1 = (9 : Int32)
                    · have h := (if_pos hc9).symm.trans h
                      refine lv_tableIn (off := 151) (tgt := 152) C0.hx C0.hb dX9_told_1 (by rw [hc9]; decide) (by rw [hc9]; decide) (by rw [hc9]; rfl) (by decide) ?_
                      refine lv_aload_n C0.hx C0.hb dX9_told_152 rfl (lv_at hl 0 rfl) ?_
                      refine lv_iconst (v := (5 : Int32)) C0.hx C0.hb dX9_told_153 (by decide) ?_
                      obtain ⟨c17, hc17, h⟩ := Option.bind_eq_some_iff.mp h
                      obtain ⟨v18, hv18, h⟩ := Option.bind_eq_some_iff.mp h
                      refine q_callV (n := 1) (av := [.int (5 : Int32)]) (rest := []) (st1 := [.int v18]) C0 hw (m_X9_at l b0 D cy S a0 (5 : Int32) hv18) hc17 rfl (by decide) (goodV kw_1013 kw_1015 kw_34 kw_72 kw_1016) ⟨rfl, rfl⟩ (by decide +kernel) ⟨(Nat.le_of_ble_eq_true rfl), (Nat.le_of_ble_eq_true rfl)⟩ rfl hl.1 rfl (Nat.le_of_ble_eq_true rfl) dX9_told_154 ⟨Nat.zero_le _, Nat.zero_le _⟩ rfl (fun H locs hw => ?_)
                      obtain rfl := Option.some.inj h
                      exact q_reti C0 hw hr hlocks dX9_told_157
                    · have h := (if_neg hc9).symm.trans h
                      by_cases hc10 : x1 = (10 : Int32)
                      · have h := (if_pos hc10).symm.trans h
                        refine lv_tableIn (off := 157) (tgt := 158) C0.hx C0.hb dX9_told_1 (by rw [hc10]; decide) (by rw [hc10]; decide) (by rw [hc10]; rfl) (by decide) ?_
                        refine lv_aload_n C0.hx C0.hb dX9_told_158 rfl (lv_at hl 0 rfl) ?_
                        refine lv_bipush (v := (6 : Int32)) C0.hx C0.hb dX9_told_159 (by decide) ?_
                        obtain ⟨c19, hc19, h⟩ := Option.bind_eq_some_iff.mp h
                        obtain ⟨v20, hv20, h⟩ := Option.bind_eq_some_iff.mp h
                        refine q_callV (n := 1) (av := [.int (6 : Int32)]) (rest := []) (st1 := [.int v20]) C0 hw (m_X9_at l b0 D cy S a0 (6 : Int32) hv20) hc19 rfl (by decide) (goodV kw_1013 kw_1015 kw_34 kw_72 kw_1016) ⟨rfl, rfl⟩ (by decide +kernel) ⟨(Nat.le_of_ble_eq_true rfl), (Nat.le_of_ble_eq_true rfl)⟩ rfl hl.1 rfl (Nat.le_of_ble_eq_true rfl) dX9_told_161 ⟨Nat.zero_le _, Nat.zero_le _⟩ rfl (fun H locs hw => ?_)
                        obtain rfl := Option.some.inj h
                        exact q_reti C0 hw hr hlocks dX9_told_164
                      · have h := (if_neg hc10).symm.trans h
                        by_cases hc11 : x1 = (11 : Int32)
                        · have h := (if_pos hc11).symm.trans h
                          refine lv_tableIn (off := 164) (tgt := 165) C0.hx C0.hb dX9_told_1 (by rw [hc11]; decide) (by rw [hc11]; decide) (by rw [hc11]; rfl) (by decide) ?_
                          refine lv_aload_n C0.hx C0.hb dX9_told_165 rfl (lv_at hl 0 rfl) ?_
                          refine lv_bipush (v := (7 : Int32)) C0.hx C0.hb dX9_told_166 (by decide) ?_
                          obtain ⟨c21, hc21, h⟩ := Option.bind_eq_some_iff.mp h
                          obtain ⟨v22, hv22, h⟩ := Option.bind_eq_some_iff.mp h
                          refine q_callV (n := 1) (av := [.int (7 : Int32)]) (rest := []) (st1 := [.int v22]) C0 hw (m_X9_at l b0 D cy S a0 (7 : Int32) hv22) hc21 rfl (by decide) (goodV kw_1013 kw_1015 kw_34 kw_72 kw_1016) ⟨rfl, rfl⟩ (by decide +kernel) ⟨(Nat.le_of_ble_eq_true rfl), (Nat.le_of_ble_eq_true rfl)⟩ rfl hl.1 rfl (Nat.le_of_ble_eq_true rfl) dX9_told_168 ⟨Nat.zero_le _, Nat.zero_le _⟩ rfl (fun H locs hw => ?_)
                          obtain rfl := Option.some.inj h
                          exact q_reti C0 hw hr hlocks dX9_told_171
                        · have h := (if_neg hc11).symm.trans h
                          by_cases hc12 : x1 = (12 : Int32)
                          · have h := (if_pos hc12).symm.trans h
                            refine lv_tableIn (off := 171) (tgt := 172) C0.hx C0.hb dX9_told_1 (by rw [hc12]; decide) (by rw [hc12]; decide) (by rw [hc12]; rfl) (by decide) ?_
                            refine lv_aload_n C0.hx C0.hb dX9_told_172 rfl (lv_at hl 0 rfl) ?_
                            refine lv_bipush (v := (8 : Int32)) C0.hx C0.hb dX9_told_173 (by decide) ?_
                            obtain ⟨c23, hc23, h⟩ := Option.bind_eq_some_iff.mp h
                            obtain ⟨v24, hv24, h⟩ := Option.bind_eq_some_iff.mp h
                            refine q_callV (n := 1) (av := [.int (8 : Int32)]) (rest := []) (st1 := [.int v24]) C0 hw (m_X9_at l b0 D cy S a0 (8 : Int32) hv24) hc23 rfl (by decide) (goodV kw_1013 kw_1015 kw_34 kw_72 kw_1016) ⟨rfl, rfl⟩ (by decide +kernel) ⟨(Nat.le_of_ble_eq_true rfl), (Nat.le_of_ble_eq_true rfl)⟩ rfl hl.1 rfl (Nat.le_of_ble_eq_true rfl) dX9_told_175 ⟨Nat.zero_le _, Nat.zero_le _⟩ rfl (fun H locs hw => ?_)
                            obtain rfl := Option.some.inj h
                            exact q_reti C0 hw hr hlocks dX9_told_178
                          · have h := (if_neg hc12).symm.trans h
                            by_cases hc13 : x1 = (13 : Int32)
                            · have h := (if_pos hc13).symm.trans h
                              refine lv_tableIn (off := 178) (tgt := 179) C0.hx C0.hb dX9_told_1 (by rw [hc13]; decide) (by rw [hc13]; decide) (by rw [hc13]; rfl) (by decide) ?_
                              refine lv_aload_n C0.hx C0.hb dX9_told_179 rfl (lv_at hl 0 rfl) ?_
                              refine lv_bipush (v := (9 : Int32)) C0.hx C0.hb dX9_told_180 (by decide) ?_
                              obtain ⟨c25, hc25, h⟩ := Option.bind_eq_some_iff.mp h
                              obtain ⟨v26, hv26, h⟩ := Option.bind_eq_some_iff.mp h
                              refine q_callV (n := 1) (av := [.int (9 : Int32)]) (rest := []) (st1 := [.int v26]) C0 hw (m_X9_at l b0 D cy S a0 (9 : Int32) hv26) hc25 rfl (by decide) (goodV kw_1013 kw_1015 kw_34 kw_72 kw_1016) ⟨rfl, rfl⟩ (by decide +kernel) ⟨(Nat.le_of_ble_eq_true rfl), (Nat.le_of_ble_eq_true rfl)⟩ rfl hl.1 rfl (Nat.le_of_ble_eq_true rfl) dX9_told_182 ⟨Nat.zero_le _, Nat.zero_le _⟩ rfl (fun H locs hw => ?_)
                              obtain rfl := Option.some.inj h
                              exact q_reti C0 hw hr hlocks dX9_told_185
                            · have h := (if_neg hc13).symm.trans h
                              by_cases hc14 : x1 = (14 : Int32)
                              · have h := (if_pos hc14).symm.trans h
                                refine lv_tableIn (off := 185) (tgt := 186) C0.hx C0.hb dX9_told_1 (by rw [hc14]; decide) (by rw [hc14]; decide) (by rw [hc14]; rfl) (by decide) ?_
                                refine lv_aload_n C0.hx C0.hb dX9_told_186 rfl (lv_at hl 0 rfl) ?_
                                obtain ⟨v27, hv27, h⟩ := Option.bind_eq_some_iff.mp h
                                refine q_getI C0 hw hv27 rfl in_9 (by decide) kw_886 dX9_told_187 ?_
                                obtain rfl := Option.some.inj h
                                exact q_reti C0 hw hr hlocks dX9_told_190
                              · have h := (if_neg hc14).symm.trans h
                                by_cases hc15 : x1 = (15 : Int32)
                                · have h := (if_pos hc15).symm.trans h
                                  refine lv_tableIn (off := 190) (tgt := 191) C0.hx C0.hb dX9_told_1 (by rw [hc15]; decide) (by rw [hc15]; decide) (by rw [hc15]; rfl) (by decide) ?_
                                  refine lv_aload_n C0.hx C0.hb dX9_told_191 rfl (lv_at hl 0 rfl) ?_
                                  obtain ⟨v28, hv28, h⟩ := Option.bind_eq_some_iff.mp h
                                  refine q_getI C0 hw hv28 rfl in_9 (by decide) kw_878 dX9_told_192 ?_
                                  obtain rfl := Option.some.inj h
                                  exact q_reti C0 hw hr hlocks dX9_told_195
                                · have h := (if_neg hc15).symm.trans h
                                  refine lv_tableOut (tgt := 196) C0.hx C0.hb dX9_told_1 (by have n0 := lv_neT (a := 0) hc0 (by decide); have n1 := lv_neT (a := 1) hc1 (by decide); have n2 := lv_neT (a := 2) hc2 (by decide); have n3 := lv_neT (a := 3) hc3 (by decide); have n4 := lv_neT (a := 4) hc4 (by decide); have n5 := lv_neT (a := 5) hc5 (by decide); have n6 := lv_neT (a := 6) hc6 (by decide); have n7 := lv_neT (a := 7) hc7 (by decide); have n8 := lv_neT (a := 8) hc8 (by decide); have n9 := lv_neT (a := 9) hc9 (by decide); have n10 := lv_neT (a := 10) hc10 (by decide); have n11 := lv_neT (a := 11) hc11 (by decide); have n12 := lv_neT (a := 12) hc12 (by decide); have n13 := lv_neT (a := 13) hc13 (by decide); have n14 := lv_neT (a := 14) hc14 (by decide); have n15 := lv_neT (a := 15) hc15 (by decide); omega) (by decide) ?_
                                  refine lv_ldc C0.hx C0.hb C0.ho (C0.w kw_954) dX9_told_196 ?_
                                  obtain rfl := Option.some.inj h
                                  exact q_reti C0 hw hr hlocks dX9_told_198
abbrev rm_X9_beside : Room := { frames := 1, cells := 0, slots := 0, locals := 24 }
def f_X9_beside_b49 (S : Mem) (k4 : Nat → Int32 → Int32 → Int32 → Option Int32) (a0 : Nat) (x1 : Int32) (x3 : Int32) (t0 : Int32) (t1 : Int32) : Option Int32 :=
    (some (t1 ||| t0)).bind fun v4 =>
      (some (x3 + (1 : Int32))).bind fun v5 =>
      k4 a0 x1 v4 v5
def f_X9_beside_b48 (S : Mem) (k4 : Nat → Int32 → Int32 → Int32 → Option Int32) (a0 : Nat) (x1 : Int32) (x3 : Int32) (t0 : Int32) : Option Int32 :=
    f_X9_beside_b49 S k4 a0 x1 x3 (0 : Int32) t0
def f_X9_beside_b4 (S : Mem) : Nat → Nat → Int32 → Int32 → Int32 → Option Int32
  | 0, _, _, _, _ => none
  | n + 1, a0, x1, x2, x3 =>
    (gI 9 1 S a0).bind fun v1 =>
      (if v1 ≤ x3 then
      some x2
      else
      (ck 9 S a0).bind fun c2 =>
      (f_X9_doorBetween a0 x1 x3 S).bind fun v3 =>
      (if v3 = (-1 : Int32) then
      f_X9_beside_b48 S (fun a0 x1 x2 x3 => f_X9_beside_b4 S  n a0 x1 x2 x3) a0 x1 x3 x2
      else
      (gR 9 7 S a0).bind fun r6 =>
      (ldJ S r6 (6 : Int32)).bind fun u7 =>
      (f_X9_has u7 v3).bind fun v8 =>
      (if v8 = (0 : Int32) then
      f_X9_beside_b49 S (fun a0 x1 x2 x3 => f_X9_beside_b4 S  n a0 x1 x2 x3) a0 x1 x3 ((1 : Int32) <<< (x3 &&& 31)) x2
      else
      f_X9_beside_b48 S (fun a0 x1 x2 x3 => f_X9_beside_b4 S  n a0 x1 x2 x3) a0 x1 x3 x2)))
def f_X9_beside (a0 : Nat) (x1 : Int32) (S : Mem) : Option Int32 :=
    f_X9_beside_b4 S FU a0 x1 (0 : Int32) (0 : Int32)
set_option maxHeartbeats 4000000 in
set_option maxRecDepth 100000 in
theorem w_X9_beside_b49 {p : Program} {l : Launch} {e : Env} {s : State} {m : MethodId} {args : Array Value} {below : List Frame} {meth : Method} {c : Code} {b0 : Nat} {D : va_G} {cy : Nat → ClassId} {S : Mem} {q : Int32} (C0 : Cx p m c cX9_beside 5 s args RX9 D cy) (hr : meth.sig.returnType = some .int) (hlocks : meth.locks = false) (k4 : Nat → Int32 → Int32 → Int32 → Option Int32) (hk4 : ∀ (a0 : Nat) (x1 : Int32) (x2 : Int32) (x3 : Int32) (H : Heap) (locs : List Loc) (ls : Array Slot), Wd b0 D cy S s.heap H locs → lv_has ls 5 [(0, .ref (b0 + a0)), (1, .int x1), (2, .int x2), (3, .int x3)] → k4 a0 x1 x2 x3 = some q → W p l e rm_X9_beside s m args below meth c H locs 0 0 (MQ below (Qp b0 D cy (some (.int q)) S) args s 0 0 (fun q => b0 ≤ q)) (F0 m 4 ls [])) : ∀ (a0 : Nat) (x1 : Int32) (x3 : Int32) (t0 : Int32) (t1 : Int32) (H : Heap) (locs : List Loc) (ls : Array Slot), Wd b0 D cy S s.heap H locs → lv_has ls 5 [(0, .ref (b0 + a0)), (1, .int x1), (3, .int x3)] → f_X9_beside_b49 S k4 a0 x1 x3 t0 t1 = some q → W p l e rm_X9_beside s m args below meth c H locs 0 0 (MQ below (Qp b0 D cy (some (.int q)) S) args s 0 0 (fun q => b0 ≤ q)) (F0 m 49 ls [.int t0, .int t1]) := by
  intro a0 x1 x3 t0 t1 H locs ls hw hl h
  rw [f_X9_beside_b49] at h
  refine lv_ior C0.hx C0.hb dX9_beside_49 ?_
  obtain ⟨v4, hv4, h⟩ := Option.bind_eq_some_iff.mp h
  refine q_nmI hv4 ?_
  refine lv_istore_n (lv' := [(2, .int v4), (0, .ref (b0 + a0)), (1, .int x1), (3, .int x3)]) C0.hx C0.hb dX9_beside_50 rfl hl (by decide) rfl (fun ls hl => ?_)
  obtain ⟨v5, hv5, h⟩ := Option.bind_eq_some_iff.mp h
  refine lv_iinc (v := v5) (lv' := [(3, .int v5), (2, .int v4), (0, .ref (b0 + a0)), (1, .int x1)]) C0.hx C0.hb dX9_beside_51 hl (k := 3) rfl (by rw [← Option.some.inj hv5]; rfl) (by decide) rfl (fun ls hl => ?_)
  refine lv_goto (tgt := 4) C0.hx C0.hb dX9_beside_54 (by decide) ?_
  exact hk4 a0 x1 v4 v5 _ _ _ hw (lv_sub hl [2, 3, 1, 0] rfl) h
set_option maxHeartbeats 4000000 in
set_option maxRecDepth 100000 in
theorem w_X9_beside_b48 {p : Program} {l : Launch} {e : Env} {s : State} {m : MethodId} {args : Array Value} {below : List Frame} {meth : Method} {c : Code} {b0 : Nat} {D : va_G} {cy : Nat → ClassId} {S : Mem} {q : Int32} (C0 : Cx p m c cX9_beside 5 s args RX9 D cy) (hr : meth.sig.returnType = some .int) (hlocks : meth.locks = false) (k4 : Nat → Int32 → Int32 → Int32 → Option Int32) (hk4 : ∀ (a0 : Nat) (x1 : Int32) (x2 : Int32) (x3 : Int32) (H : Heap) (locs : List Loc) (ls : Array Slot), Wd b0 D cy S s.heap H locs → lv_has ls 5 [(0, .ref (b0 + a0)), (1, .int x1), (2, .int x2), (3, .int x3)] → k4 a0 x1 x2 x3 = some q → W p l e rm_X9_beside s m args below meth c H locs 0 0 (MQ below (Qp b0 D cy (some (.int q)) S) args s 0 0 (fun q => b0 ≤ q)) (F0 m 4 ls [])) : ∀ (a0 : Nat) (x1 : Int32) (x3 : Int32) (t0 : Int32) (H : Heap) (locs : List Loc) (ls : Array Slot), Wd b0 D cy S s.heap H locs → lv_has ls 5 [(0, .ref (b0 + a0)), (1, .int x1), (3, .int x3)] → f_X9_beside_b48 S k4 a0 x1 x3 t0 = some q → W p l e rm_X9_beside s m args below meth c H locs 0 0 (MQ below (Qp b0 D cy (some (.int q)) S) args s 0 0 (fun q => b0 ≤ q)) (F0 m 48 ls [.int t0]) := by
  intro a0 x1 x3 t0 H locs ls hw hl h
  rw [f_X9_beside_b48] at h
  refine lv_iconst (v := (0 : Int32)) C0.hx C0.hb dX9_beside_48 (by decide) ?_
  exact w_X9_beside_b49 C0 hr hlocks k4 hk4 a0 x1 x3 (0 : Int32) t0 _ _ _ hw (lv_sub hl [0, 1, 2] rfl) h
set_option maxHeartbeats 4000000 in
set_option maxRecDepth 100000 in
theorem w_X9_beside_b4 {p : Program} {l : Launch} {e : Env} {s : State} {m : MethodId} {args : Array Value} {below : List Frame} {meth : Method} {c : Code} {b0 : Nat} {D : va_G} {cy : Nat → ClassId} {S : Mem} {q : Int32} (C0 : Cx p m c cX9_beside 5 s args RX9 D cy) (hr : meth.sig.returnType = some .int) (hlocks : meth.locks = false) : ∀ (n : Nat) (a0 : Nat) (x1 : Int32) (x2 : Int32) (x3 : Int32) (H : Heap) (locs : List Loc) (ls : Array Slot), Wd b0 D cy S s.heap H locs → lv_has ls 5 [(0, .ref (b0 + a0)), (1, .int x1), (2, .int x2), (3, .int x3)] → f_X9_beside_b4 S  n a0 x1 x2 x3 = some q → W p l e rm_X9_beside s m args below meth c H locs 0 0 (MQ below (Qp b0 D cy (some (.int q)) S) args s 0 0 (fun q => b0 ≤ q)) (F0 m 4 ls []) := by
  intro n
  induction n with
  | zero => intro a0 x1 x2 x3 H locs ls hw hl h; exact absurd h (by simp [f_X9_beside_b4])
  | succ n ih =>
    intro a0 x1 x2 x3 H locs ls hw hl h
    rw [f_X9_beside_b4] at h
    refine lv_iload_n C0.hx C0.hb dX9_beside_4 rfl (lv_at hl 3 rfl) ?_
    refine lv_aload_n C0.hx C0.hb dX9_beside_5 rfl (lv_at hl 0 rfl) ?_
    obtain ⟨v1, hv1, h⟩ := Option.bind_eq_some_iff.mp h
    refine q_getI C0 hw hv1 rfl in_9 (by decide) kw_863 dX9_beside_6 ?_
    refine lv_icmp_ge (tgt := 57) C0.hx C0.hb dX9_beside_9 (by decide) (fun hc => ?_) (fun hc => ?_)
    · have h := (if_pos hc).symm.trans h
      refine lv_iload_n C0.hx C0.hb dX9_beside_57 rfl (lv_at hl 2 rfl) ?_
      obtain rfl := Option.some.inj h
      exact q_reti C0 hw hr hlocks dX9_beside_58
    · have h := (if_neg hc).symm.trans h
      refine lv_aload_n C0.hx C0.hb dX9_beside_12 rfl (lv_at hl 0 rfl) ?_
      refine lv_iload_n C0.hx C0.hb dX9_beside_13 rfl (lv_at hl 1 rfl) ?_
      refine lv_iload_n C0.hx C0.hb dX9_beside_14 rfl (lv_at hl 3 rfl) ?_
      obtain ⟨c2, hc2, h⟩ := Option.bind_eq_some_iff.mp h
      obtain ⟨v3, hv3, h⟩ := Option.bind_eq_some_iff.mp h
      refine q_callV (n := 2) (av := [.int x1, .int x3]) (rest := []) (st1 := [.int v3]) C0 hw (m_X9_doorBetween l b0 D cy S a0 x1 x3 hv3) hc2 rfl (by decide) (goodV kw_1047 kw_1049 kw_39 kw_72 kw_1050) ⟨rfl, rfl⟩ (by decide +kernel) ⟨(Nat.le_of_ble_eq_true rfl), (Nat.le_of_ble_eq_true rfl)⟩ rfl hl.1 rfl (Nat.le_of_ble_eq_true rfl) dX9_beside_15 ⟨Nat.zero_le _, Nat.zero_le _⟩ rfl (fun H locs hw => ?_)
      refine lv_istore (lv' := [(4, .int v3), (0, .ref (b0 + a0)), (1, .int x1), (2, .int x2), (3, .int x3)]) C0.hx C0.hb dX9_beside_18 hl (by decide) rfl (fun ls hl => ?_)
      refine lv_iload_n C0.hx C0.hb dX9_beside_20 rfl (lv_at hl 3 rfl) ?_
      refine lv_iload C0.hx C0.hb dX9_beside_21 (lv_at hl 0 rfl) ?_
      refine lv_iconst (v := (-1 : Int32)) C0.hx C0.hb dX9_beside_23 (by decide) ?_
      refine lv_icmp_eq (tgt := 48) C0.hx C0.hb dX9_beside_24 (by decide) (fun hc => ?_) (fun hc => ?_)
      · have h := (if_pos hc).symm.trans h
        exact w_X9_beside_b48 C0 hr hlocks (fun a0 x1 x2 x3 => f_X9_beside_b4 S  n a0 x1 x2 x3) ih a0 x1 x3 x2 _ _ _ hw (lv_sub hl [1, 2, 4] rfl) h
      · have h := (if_neg hc).symm.trans h
        refine lv_aload_n C0.hx C0.hb dX9_beside_27 rfl (lv_at hl 1 rfl) ?_
        obtain ⟨r6, hr6, h⟩ := Option.bind_eq_some_iff.mp h
        refine q_getR C0 hw hr6 rfl in_9 (by decide) kw_869 dX9_beside_28 ?_
        refine lv_bipush (v := (6 : Int32)) C0.hx C0.hb dX9_beside_31 (by decide) ?_
        obtain ⟨u7, hu7, h⟩ := Option.bind_eq_some_iff.mp h
        refine q_ldJ C0 hw hu7 dX9_beside_33 ?_
        refine lv_iload C0.hx C0.hb dX9_beside_34 (lv_at hl 0 rfl) ?_
        obtain ⟨v8, hv8, h⟩ := Option.bind_eq_some_iff.mp h
        refine q_callS (n := 2) (av := [.long u7, .int v3]) (rest := [.int x2]) (st1 := [.int v8, .int x2]) C0 hw (m_X9_has l b0 D cy S u7 v3 hv8) (goodS kw_1026 kw_1027 kw_72 kw_1028) ⟨rfl, rfl⟩ (by decide +kernel) ⟨(Nat.le_of_ble_eq_true rfl), (Nat.le_of_ble_eq_true rfl)⟩ rfl hl.1 rfl (Nat.le_of_ble_eq_true rfl) dX9_beside_36 ⟨Nat.zero_le _, Nat.zero_le _⟩ rfl (fun H locs hw => ?_)
        refine lv_if_ne (tgt := 48) C0.hx C0.hb dX9_beside_39 (by decide) (fun hc => ?_) (fun hc => ?_)
        · have h := (if_neg hc).symm.trans h
          exact w_X9_beside_b48 C0 hr hlocks (fun a0 x1 x2 x3 => f_X9_beside_b4 S  n a0 x1 x2 x3) ih a0 x1 x3 x2 _ _ _ hw (lv_sub hl [1, 2, 4] rfl) h
        · have h := (if_pos hc).symm.trans h
          refine lv_iconst (v := (1 : Int32)) C0.hx C0.hb dX9_beside_42 (by decide) ?_
          refine lv_iload_n C0.hx C0.hb dX9_beside_43 rfl (lv_at hl 4 rfl) ?_
          refine lv_ishl C0.hx C0.hb dX9_beside_44 ?_
          refine lv_goto (tgt := 49) C0.hx C0.hb dX9_beside_45 (by decide) ?_
          exact w_X9_beside_b49 C0 hr hlocks (fun a0 x1 x2 x3 => f_X9_beside_b4 S  n a0 x1 x2 x3) ih a0 x1 x3 ((1 : Int32) <<< (x3 &&& 31)) x2 _ _ _ hw (lv_sub hl [1, 2, 4] rfl) h
set_option maxHeartbeats 4000000 in
set_option maxRecDepth 100000 in
theorem m_X9_beside (l : Launch) (b0 : Nat) (D : va_G) (cy : Nat → ClassId) (S : Mem) (a0 : Nat) (x1 : Int32) {q : Int32} (h : f_X9_beside a0 x1 S = some q) : Met l yX9_beside [.code yX9_beside cX9_beside 5 (some .int)] rm_X9_beside (Pr b0 D cy S [.ref (b0 + a0), .int x1]) (Qp b0 D cy (some (.int q)) S) 0 0 (fun q => b0 ≤ q) := by
  refine Met.ofW (cc := cX9_beside) (maxL := 5) (ret := some .int) (by decide) rfl ?_
  intro p e s m args below meth c s₁ B hml hv
  obtain ⟨rfl, hP, hK, hT⟩ := hv
  have C0 : Cx p m c cX9_beside 5 s (List.toArray [.ref (b0 + a0), .int x1]) RX9 D cy := ⟨⟨B.exec, B.bytes, hml, findClass_of_methodNamed B.named, fun w h => hT w h _⟩, hK, hT⟩
  have hr : meth.sig.returnType = some .int := B.returns
  have hlocks := B.notSynchronized
  have hw : Wd b0 D cy S s.heap s.heap [] := ⟨hP, va_S.rf⟩
  have hl := lv_entry ([.ref (b0 + a0), .int x1]) (n := 5) (Nat.le_of_ble_eq_true rfl)
  rw [lg_entry_eq]
  generalize (lg_sl ([.ref (b0 + a0), .int x1]) ++ List.replicate (5 - (lg_sl ([.ref (b0 + a0), .int x1])).length) Slot.unset).toArray = ls at hl ⊢
  have hl : lv_has ls 5 [(0, .ref (b0 + a0)), (1, .int x1)] := hl
  rw [f_X9_beside] at h
  show W p l e rm_X9_beside s m _ below meth c s.heap [] 0 0 _ _
  refine lv_iconst (v := (0 : Int32)) C0.hx C0.hb dX9_beside_0 (by decide) ?_
  refine lv_istore_n (lv' := [(2, .int (0 : Int32)), (0, .ref (b0 + a0)), (1, .int x1)]) C0.hx C0.hb dX9_beside_1 rfl hl (by decide) rfl (fun ls hl => ?_)
  refine lv_iconst (v := (0 : Int32)) C0.hx C0.hb dX9_beside_2 (by decide) ?_
  refine lv_istore_n (lv' := [(3, .int (0 : Int32)), (2, .int (0 : Int32)), (0, .ref (b0 + a0)), (1, .int x1)]) C0.hx C0.hb dX9_beside_3 rfl hl (by decide) rfl (fun ls hl => ?_)
  exact w_X9_beside_b4 C0 hr hlocks FU a0 x1 (0 : Int32) (0 : Int32) _ _ _ hw (lv_sub hl [2, 3, 1, 0] rfl) h
