/-! the two are made -/
def lk (L : List ((Nat × Nat) × Nat)) : Nat → Nat → Option Nat := match L with
  | [] => fun _ _ => none
  | x :: L => fun a k => if a = x.1.1 ∧ k = x.1.2 then some x.2 else lk L a k
def zm (N : Nat) (I : Nat → Nat → Int32) (L : List ((Nat × Nat) × Nat)) : Mem := (N, I, (fun _ _ => 0), lk L)
def wfL (N : Nat) (L : List ((Nat × Nat) × Nat)) : Bool := L.all (fun x => decide (x.1.1 < N))
theorem wfL_c {N a k v : Nat} {L : List ((Nat × Nat) × Nat)} (h : wfL N L = true) (ha : a < N) : wfL N (((a, k), v) :: L) = true := by
  unfold wfL at *
  rw [List.all_cons, h]; simp [ha]
theorem wfL_m {N M : Nat} {L : List ((Nat × Nat) × Nat)} (h : wfL N L = true) (hm : N ≤ M) : wfL M L = true := by
  unfold wfL at *
  rw [List.all_eq_true] at *
  intro x hx
  have := of_decide_eq_true (h x hx)
  exact decide_eq_true (by omega)
theorem lk_no {N : Nat} {L : List ((Nat × Nat) × Nat)} (h : wfL N L = true) : lk L N = fun _ => none := by
  induction L with
  | nil => rfl
  | cons x L ih =>
    unfold wfL at h
    rw [List.all_cons, Bool.and_eq_true] at h
    have := of_decide_eq_true h.1
    funext k
    show (if N = x.1.1 ∧ k = x.1.2 then some x.2 else lk L N k) = none
    rw [if_neg (by omega), ih h.2]
theorem newC_z {N : Nat} {I : Nat → Nat → Int32} {L : List ((Nat × Nat) × Nat)} (hL : wfL N L = true) (hI : I N = fun _ => 0) : newC (zm N I L) = zm (N + 1) I L := by
  unfold newC zm
  have e1 : (fun x => if x = N then (fun _ => (0 : Int32)) else I x) = I := by
    funext x
    by_cases q : x = N
    · subst q; rw [if_pos rfl, hI]
    · rw [if_neg q]
  have e2 : (fun x : Nat => if x = N then (fun _ : Nat => (0 : Int64)) else (fun _ => 0)) = fun _ _ => 0 := by
    funext x; split <;> rfl
  have e3 : (fun x => if x = N then (fun _ => none) else lk L x) = lk L := by
    funext x
    by_cases q : x = N
    · subst q; rw [if_pos rfl, lk_no hL]
    · rw [if_neg q]
  show (N + 1, (fun x => if x = N then (fun _ => (0 : Int32)) else I x), (fun x : Nat => if x = N then (fun _ : Nat => (0 : Int64)) else (fun _ => 0)), (fun x => if x = N then (fun _ => none) else lk L x)) = _
  rw [e1, e2, e3]
theorem rowR_z {N a k v : Nat} {I : Nat → Nat → Int32} {L : List ((Nat × Nat) × Nat)} : rowR (zm N I L) a (va_up ((zm N I L).2.2.2 a) k (some v)) = zm N I (((a, k), v) :: L) := by
  unfold rowR zm
  have : (fun x => if x = a then va_up (lk L a) k (some v) else lk L x) = lk (((a, k), v) :: L) := by
    funext x j
    show (if x = a then va_up (lk L a) k (some v) else lk L x) j = if x = a ∧ j = k then some v else lk L x j
    by_cases q : x = a
    · subst q
      rw [if_pos rfl]
      by_cases z : j = k
      · subst z; rw [va_up_self, if_pos ⟨rfl, rfl⟩]
      · rw [va_up_ne _ _ z, if_neg (fun w => z w.2)]
    · rw [if_neg q, if_neg (fun w => q w.1)]
  show (N, I, (fun _ _ => 0), (fun x => if x = a then va_up (lk L a) k (some v) else lk L x)) = _
  rw [this]
def zI (I : Nat → Nat → Int32) (N : Nat) : Prop := ∀ x, N ≤ x → I x = fun _ => 0
section
variable {N a k v ci q n : Nat} {I : Nat → Nat → Int32} {L : List ((Nat × Nat) × Nat)}
theorem nO (hL : wfL N L = true) (hI : zI I N) (hk : kd N = ci) : newO ci (zm N I L) = some (zm (N + 1) I L) := by
  unfold newO
  rw [if_pos (by exact hk), newC_z hL (hI N (Nat.le_refl _))]
theorem nA (hL : wfL N L = true) (hI : zI I N) (hk : kd N = q) (hn : ln N = n) (h31 : n < 2 ^ 31) : newA q (nI n) (zm N I L) = some (zm (N + 1) I L) := by
  unfold newA
  rw [if_pos ⟨hk, nI_pos h31, by rw [nI_clamp h31]; exact hn.symm⟩, newC_z hL (hI N (Nat.le_refl _))]
theorem zR (ha : a < N) (hk : kd a = ci) : pR ci k (zm N I L) a v = some (zm N I (((a, k), v) :: L)) := by
  unfold pR
  rw [if_pos ⟨ha, hk⟩, rowR_z]
end
def okS (N : Nat) : Bool := decide (kd N = 4) && decide (kd (N + 1) = 10) && decide (ln (N + 1) = 8) && decide (kd (N + 2) = 7) && decide (kd (N + 3) = 10) && decide (ln (N + 3) = 16) && decide (kd (N + 4) = 10) && decide (ln (N + 4) = 16) && decide (kd (N + 5) = 10) && decide (ln (N + 5) = 16) && decide (kd (N + 6) = 10) && decide (ln (N + 6) = 16) && decide (kd (N + 7) = 10) && decide (ln (N + 7) = 8) && decide (kd (N + 8) = 10) && decide (ln (N + 8) = 6)
theorem i_X4 {N a : Nat} {I : Nat → Nat → Int32} {L : List ((Nat × Nat) × Nat)} (hL : wfL N L = true) (hI : zI I N) (ha : a < N) (k1 : kd a = 4) (k2 : kd N = 10) (k3 : ln N = 8) : f_X4_init a (zm N I L) = some (zm (N + 1) I (((a, 7), N) :: L)) := by
  unfold f_X4_init
  exact bs (nA (n := 8) hL hI k2 k3 (by decide)) (bs (zR (by omega) k1) rfl)
theorem i_X7 {N a : Nat} {I : Nat → Nat → Int32} {L : List ((Nat × Nat) × Nat)} (hL : wfL N L = true) (hI : zI I N) (ha : a < N) (k1 : kd a = 7) (h0 : kd N = 10 ∧ ln N = 16) (h1 : kd (N + 1) = 10 ∧ ln (N + 1) = 16) (h2 : kd (N + 2) = 10 ∧ ln (N + 2) = 16) (h3 : kd (N + 3) = 10 ∧ ln (N + 3) = 16) : f_X7_init a (zm N I L) = some (zm (N + 4) I (((a, 5), N + 3) :: ((a, 4), N + 2) :: ((a, 3), N + 1) :: ((a, 2), N) :: L)) := by
  have i1 : zI I (N + 1) := fun x hx => hI x (by omega)
  have i2 : zI I (N + 2) := fun x hx => hI x (by omega)
  have i3 : zI I (N + 3) := fun x hx => hI x (by omega)
  have w1 : wfL (N + 1) (((a, 2), N) :: L) = true := wfL_c (wfL_m hL (by omega)) (by omega)
  have w2 : wfL (N + 2) (((a, 3), N + 1) :: ((a, 2), N) :: L) = true := wfL_c (wfL_m w1 (by omega)) (by omega)
  have w3 : wfL (N + 3) (((a, 4), N + 2) :: ((a, 3), N + 1) :: ((a, 2), N) :: L) = true := wfL_c (wfL_m w2 (by omega)) (by omega)
  unfold f_X7_init
  exact bs (nA (n := 16) hL hI h0.1 h0.2 (by decide)) (bs (zR (by omega) k1) (bs (nA (n := 16) w1 i1 h1.1 h1.2 (by decide)) (bs (zR (by omega) k1) (bs (nA (n := 16) w2 i2 h2.1 h2.2 (by decide)) (bs (zR (by omega) k1) (bs (nA (n := 16) w3 i3 h3.1 h3.2 (by decide)) (bs (zR (by omega) k1) rfl)))))))
def blk (a N : Nat) (L : List ((Nat × Nat) × Nat)) : List ((Nat × Nat) × Nat) := ((a, 7), N + 8) :: ((a, 6), N + 7) :: ((a, 1), N + 2) :: ((N + 2, 5), N + 3 + 3) :: ((N + 2, 4), N + 3 + 2) :: ((N + 2, 3), N + 3 + 1) :: ((N + 2, 2), N + 3) :: ((a, 0), N) :: ((N, 7), N + 1) :: L
theorem i_X5 {N a : Nat} {I : Nat → Nat → Int32} {L : List ((Nat × Nat) × Nat)} (hL : wfL N L = true) (hI : zI I N) (ha : a < N) (k5 : kd a = 5) (hk : okS N = true) : f_X5_init a (zm N I L) = some (zm (N + 9) I (blk a N L)) ∧ wfL (N + 9) (blk a N L) = true := by
  unfold okS at hk
  simp only [Bool.and_eq_true, decide_eq_true_eq] at hk
  obtain ⟨⟨⟨⟨⟨⟨⟨⟨⟨⟨⟨⟨⟨⟨⟨h0, h1⟩, h1'⟩, h2⟩, h3⟩, h3'⟩, h4⟩, h4'⟩, h5⟩, h5'⟩, h6⟩, h6'⟩, h7⟩, h7'⟩, h8⟩, h8'⟩ := hk
  have ii : ∀ j, zI I (N + j) := fun j x hx => hI x (by omega)
  have w1 : wfL (N + 1) L = true := wfL_m hL (by omega)
  have w2 : wfL (N + 2) (((N, 7), N + 1) :: L) = true := wfL_c (wfL_m w1 (by omega)) (by omega)
  have w3 : wfL (N + 2) (((a, 0), N) :: ((N, 7), N + 1) :: L) = true := wfL_c w2 (by omega)
  have w4 : wfL (N + 3) (((a, 0), N) :: ((N, 7), N + 1) :: L) = true := wfL_m w3 (by omega)
  have w5 : wfL (N + 7) (((a, 1), N + 2) :: ((N + 2, 5), N + 3 + 3) :: ((N + 2, 4), N + 3 + 2) :: ((N + 2, 3), N + 3 + 1) :: ((N + 2, 2), N + 3) :: ((a, 0), N) :: ((N, 7), N + 1) :: L) = true := wfL_c (wfL_c (wfL_c (wfL_c (wfL_c (wfL_m w4 (by omega)) (by omega)) (by omega)) (by omega)) (by omega)) (by omega)
  have w6 : wfL (N + 8) (((a, 6), N + 7) :: ((a, 1), N + 2) :: ((N + 2, 5), N + 3 + 3) :: ((N + 2, 4), N + 3 + 2) :: ((N + 2, 3), N + 3 + 1) :: ((N + 2, 2), N + 3) :: ((a, 0), N) :: ((N, 7), N + 1) :: L) = true := wfL_c (wfL_m w5 (by omega)) (by omega)
  refine ⟨?_, wfL_c (wfL_m w6 (by omega)) (by omega)⟩
  unfold f_X5_init
  exact bs (nO hL hI h0) (bs (i_X4 (N := N + 1) (a := N) w1 (ii 1) (by omega) h0 h1 h1') (bs (zR (by omega) k5) (bs (nO (N := N + 2) w3 (ii 2) h2) (bs (i_X7 (N := N + 3) (a := N + 2) w4 (ii 3) (by omega) h2 ⟨h3, h3'⟩ ⟨h4, h4'⟩ ⟨h5, h5'⟩ ⟨h6, h6'⟩) (bs (zR (by omega) k5) (bs (nA (N := N + 7) (n := 8) w5 (ii 7) h7 h7' (by decide)) (bs (zR (by omega) k5) (bs (nA (N := N + 8) (n := 6) w6 (ii 8) h8 h8' (by decide)) (bs (zR (by omega) k5) rfl)))))))))
theorem i_X2 {N a : Nat} {I : Nat → Nat → Int32} {L : List ((Nat × Nat) × Nat)} (hL : wfL N L = true) (hI : zI I N) (ha : a < N) (k1 : kd a = 2) (h0 : kd N = 10 ∧ ln N = 12) (h1 : kd (N + 1) = 10 ∧ ln (N + 1) = 12) (h2 : kd (N + 2) = 10 ∧ ln (N + 2) = 6) (h3 : kd (N + 3) = 10 ∧ ln (N + 3) = 6) : f_X2_init a (zm N I L) = some (zm (N + 4) I (((a, 10), N + 3) :: ((a, 9), N + 2) :: ((a, 8), N + 1) :: ((a, 7), N) :: L)) := by
  have i1 : zI I (N + 1) := fun x hx => hI x (by omega)
  have i2 : zI I (N + 2) := fun x hx => hI x (by omega)
  have i3 : zI I (N + 3) := fun x hx => hI x (by omega)
  have w1 : wfL (N + 1) (((a, 7), N) :: L) = true := wfL_c (wfL_m hL (by omega)) (by omega)
  have w2 : wfL (N + 2) (((a, 8), N + 1) :: ((a, 7), N) :: L) = true := wfL_c (wfL_m w1 (by omega)) (by omega)
  have w3 : wfL (N + 3) (((a, 9), N + 2) :: ((a, 8), N + 1) :: ((a, 7), N) :: L) = true := wfL_c (wfL_m w2 (by omega)) (by omega)
  unfold f_X2_init
  exact bs (nA (n := 12) hL hI h0.1 h0.2 (by decide)) (bs (zR (by omega) k1) (bs (nA (n := 12) w1 i1 h1.1 h1.2 (by decide)) (bs (zR (by omega) k1) (bs (nA (n := 6) w2 i2 h2.1 h2.2 (by decide)) (bs (zR (by omega) k1) (bs (nA (n := 6) w3 i3 h3.1 h3.2 (by decide)) (bs (zR (by omega) k1) rfl)))))))
/-! the class: cells 0 to 215 -/
def I1 : Nat → Nat → Int32 := fun x => if x = 1 then upd (fun _ => 0) 2 (-1) else fun _ => 0
theorem zI1 {N : Nat} (h : 2 ≤ N) : zI I1 N := fun x hx => if_neg (by omega)
def La : List ((Nat × Nat) × Nat) := ((1, 4), 7) :: ((1, 3), 2) :: ((2, 10), 6) :: ((2, 9), 5) :: ((2, 8), 4) :: ((2, 7), 3) :: []
theorem i_X6 : f_X6_init 1 (zm 2 (fun _ _ => 0) []) = some (zm 8 I1 La) := by
  have e : pI 6 2 (zm 2 (fun _ _ => 0) []) 1 (-1 : Int32) = some (zm 2 I1 []) := if_pos ⟨by decide, by decide +kernel⟩
  unfold f_X6_init
  exact bs e (bs (nO (N := 2) rfl (zI1 (by decide)) (by decide +kernel)) (bs (i_X2 (N := 3) (a := 2) rfl (zI1 (by decide)) (by decide) (by decide +kernel) (by decide +kernel) (by decide +kernel) (by decide +kernel) (by decide +kernel)) (bs (zR (by decide) (by decide +kernel)) (bs (nA (N := 7) (n := 240) (by decide) (zI1 (by decide)) (by decide +kernel) (by decide +kernel) (by decide)) (bs (zR (by decide) (by decide +kernel)) rfl)))))
def Lb : List ((Nat × Nat) × Nat) := ((0, 1), 8) :: ((8, 10), 12) :: ((8, 9), 11) :: ((8, 8), 10) :: ((8, 7), 9) :: ((0, 0), 1) :: La
def Lc : List ((Nat × Nat) × Nat) := ((0, 2), 13) :: blk 13 14 Lb
def L3 : Nat → List ((Nat × Nat) × Nat)
  | 0 => ((23, 2), 24) :: Lc
  | i + 1 => ((24, i), 25 + 10 * i) :: blk (25 + 10 * i) (26 + 10 * i) (L3 i)
theorem L3_w : ∀ i, i < 17 → wfL (25 + 10 * i) (L3 i) = true := by decide +kernel
theorem L3_r : ∀ i, i < 17 → lk (L3 i) 23 2 = some 24 := by decide +kernel
theorem k3_s : ∀ i, i < 16 → okS (26 + 10 * i) = true ∧ kd (25 + 10 * i) = 5 := by decide +kernel
theorem st3 {i : Nat} (hi : i < 16) {K : Mem → Option Mem} {r : Option Mem} (hK : K (zm (25 + 10 * (i + 1)) I1 (L3 (i + 1))) = r) : ((gR 3 2 (zm (25 + 10 * i) I1 (L3 i)) 23).bind fun r3 => (newO 5 (zm (25 + 10 * i) I1 (L3 i))).bind fun S4 => (f_X5_init (zm (25 + 10 * i) I1 (L3 i)).1 S4).bind fun S5 => (stR 14 5 S5 r3 (nI i) (zm (25 + 10 * i) I1 (L3 i)).1).bind fun S6 => K S6) = r := by
  obtain ⟨h1, h2⟩ := k3_s i hi
  have hw := L3_w i (by omega)
  have l24 : ln 24 = 16 := by decide +kernel
  have k24 : kd 24 = 14 := by decide +kernel
  have g : gR 3 2 (zm (25 + 10 * i) I1 (L3 i)) 23 = some 24 := (if_pos ⟨by show 23 < 25 + 10 * i; omega, by decide +kernel⟩).trans (L3_r i (by omega))
  obtain ⟨x1, x2⟩ := i_X5 (N := 26 + 10 * i) (a := 25 + 10 * i) (I := I1) (L := L3 i) (wfL_m hw (by omega)) (zI1 (by omega)) (by omega) h2 h1
  have s : stR 14 5 (zm (26 + 10 * i + 9) I1 (blk (25 + 10 * i) (26 + 10 * i) (L3 i))) 24 (nI i) (25 + 10 * i) = some (zm (25 + 10 * (i + 1)) I1 (L3 (i + 1))) := by
    have e : (nI i).toNatClampNeg = i := nI_clamp (by omega)
    unfold stR
    rw [if_pos ⟨⟨⟨by show 24 < 26 + 10 * i + 9; omega, k24⟩, nI_pos (by omega), by rw [e, l24]; exact hi⟩, by show 25 + 10 * i < 26 + 10 * i + 9; omega, h2⟩, e, rowR_z, show 26 + 10 * i + 9 = 25 + 10 * (i + 1) by omega]
    rfl
  refine bs g (bs (a := zm (26 + 10 * i) I1 (L3 i)) ?_ (bs x1 (bs s hK)))
  rw [nO hw (zI1 (by omega)) h2, show 25 + 10 * i + 1 = 26 + 10 * i by omega]
set_option maxRecDepth 10000 in
theorem i_X3 : f_X3_init 23 (zm 24 I1 Lc) = some (zm 185 I1 (L3 16)) := by
  unfold f_X3_init
  refine bs (a := zm 25 I1 Lc) (nA (N := 24) (n := 16) (by decide +kernel) (zI1 (by decide)) (by decide +kernel) (by decide +kernel) (by decide)) (bs (a := zm 25 I1 (L3 0)) (zR (by decide) (by decide +kernel)) ?_)
  exact st3 (i := 0) (by decide) (st3 (i := 1) (by decide) (st3 (i := 2) (by decide) (st3 (i := 3) (by decide) (st3 (i := 4) (by decide) (st3 (i := 5) (by decide) (st3 (i := 6) (by decide) (st3 (i := 7) (by decide) (st3 (i := 8) (by decide) (st3 (i := 9) (by decide) (st3 (i := 10) (by decide) (st3 (i := 11) (by decide) (st3 (i := 12) (by decide) (st3 (i := 13) (by decide) (st3 (i := 14) (by decide) (st3 (i := 15) (by decide) rfl)))))))))))))))
def Ld : List ((Nat × Nat) × Nat) := ((0, 5), 186) :: ((186, 2), 188) :: ((186, 1), 187) :: ((0, 4), 185) :: ((0, 3), 23) :: L3 16
def Le : List ((Nat × Nat) × Nat) := ((0, 9), 193) :: ((0, 8), 191) :: ((191, 7), 192) :: ((0, 7), 189) :: ((189, 7), 190) :: Ld
def Lf : List ((Nat × Nat) × Nat) := ((185, 0), 194) :: ((194, 2), 195) :: blk 195 196 Le
def Lg : List ((Nat × Nat) × Nat) := ((185, 1), 205) :: ((205, 2), 206) :: blk 206 207 Lf
theorem i_X1 {N : Nat} {L : List ((Nat × Nat) × Nat)} (hL : wfL N L = true) (hN : 2 ≤ N) (k1 : kd N = 1) (k2 : kd (N + 1) = 5) (k3 : okS (N + 2) = true) : f_X1_init N (zm (N + 1) I1 L) = some (zm (N + 11) I1 (((N, 2), N + 1) :: blk (N + 1) (N + 2) L)) := by
  obtain ⟨x1, x2⟩ := i_X5 (N := N + 2) (a := N + 1) (I := I1) (L := L) (wfL_m hL (by omega)) (zI1 (by omega)) (by omega) k2 k3
  unfold f_X1_init
  exact bs (nO (N := N + 1) (wfL_m hL (by omega)) (zI1 (by omega)) k2) (bs x1 (bs (zR (by omega) k1) rfl))
theorem Lw : wfL 13 Lb = true ∧ wfL 23 Lc = true ∧ wfL 185 (((0, 3), 23) :: L3 16) = true ∧ wfL 186 (((0, 4), 185) :: ((0, 3), 23) :: L3 16) = true ∧ wfL 187 (((0, 4), 185) :: ((0, 3), 23) :: L3 16) = true ∧ wfL 188 (((186, 1), 187) :: ((0, 4), 185) :: ((0, 3), 23) :: L3 16) = true ∧ wfL 189 Ld = true ∧ wfL 191 (((0, 7), 189) :: ((189, 7), 190) :: Ld) = true ∧ wfL 193 (((0, 8), 191) :: ((191, 7), 192) :: ((0, 7), 189) :: ((189, 7), 190) :: Ld) = true ∧ wfL 194 Le = true ∧ wfL 205 Lf = true ∧ wfL 216 Lg = true := by decide +kernel
theorem i_X8 : f_X8_init 0 (newC S00) = some (zm 216 I1 Lg) := by
  obtain ⟨w1, w2, w3, w4, w5, w6, w7, w8, w9, w10, w11, w12⟩ := Lw
  have e0 : newC S00 = zm 1 (fun _ _ => 0) [] := newC_z (N := 0) (I := fun _ _ => 0) (L := []) rfl rfl
  have z0 : zI (fun _ _ => (0 : Int32)) 1 := fun _ _ => rfl
  rw [e0]
  obtain ⟨s1, s2⟩ := i_X5 (N := 14) (a := 13) (I := I1) (L := Lb) (wfL_m w1 (by decide)) (zI1 (by decide)) (by decide) (by decide +kernel) (by decide +kernel)
  have iX0 : f_X0_init 186 (zm 187 I1 (((0, 4), 185) :: ((0, 3), 23) :: L3 16)) = some (zm 189 I1 (((186, 2), 188) :: ((186, 1), 187) :: ((0, 4), 185) :: ((0, 3), 23) :: L3 16)) := by
    unfold f_X0_init
    exact bs (nA (N := 187) (n := 15) w5 (zI1 (by decide)) (by decide +kernel) (by decide +kernel) (by decide)) (bs (zR (by decide) (by decide +kernel)) (bs (nA (N := 188) (n := 15) w6 (zI1 (by decide)) (by decide +kernel) (by decide +kernel) (by decide)) (bs (zR (by decide) (by decide +kernel)) rfl)))
  have g1 : gR 8 4 (zm 194 I1 Le) 0 = some 185 := (if_pos ⟨by decide, by decide +kernel⟩).trans rfl
  have g2 : gR 8 4 (zm 205 I1 Lf) 0 = some 185 := (if_pos ⟨by decide, by decide +kernel⟩).trans rfl
  have l185 : ln 185 = 2 := by decide +kernel
  have t1 : stR 13 1 (zm 205 I1 (((194, 2), 195) :: blk 195 196 Le)) 185 (0 : Int32) 194 = some (zm 205 I1 Lf) := by
    unfold stR
    rw [if_pos ⟨⟨⟨by decide, by decide +kernel⟩, by decide, by rw [l185]; decide⟩, by decide, by decide +kernel⟩, show (0 : Int32).toNatClampNeg = 0 from by decide, rowR_z]
    rfl
  have t2 : stR 13 1 (zm 216 I1 (((205, 2), 206) :: blk 206 207 Lf)) 185 (1 : Int32) 205 = some (zm 216 I1 Lg) := by
    unfold stR
    rw [if_pos ⟨⟨⟨by decide, by decide +kernel⟩, by decide, by rw [l185]; decide⟩, by decide, by decide +kernel⟩, show (1 : Int32).toNatClampNeg = 1 from by decide, rowR_z]
    rfl
  unfold f_X8_init
  refine bs (nO (N := 1) rfl z0 (by decide +kernel)) (bs i_X6 (bs (a := zm 8 I1 (((0, 0), 1) :: La)) (zR (by decide) (by decide +kernel)) (bs (nO (N := 8) (by decide +kernel) (zI1 (by decide)) (by decide +kernel)) (bs (i_X2 (N := 9) (a := 8) (by decide +kernel) (zI1 (by decide)) (by decide) (by decide +kernel) (by decide +kernel) (by decide +kernel) (by decide +kernel) (by decide +kernel)) (bs (a := zm 13 I1 Lb) (zR (by decide) (by decide +kernel)) (bs (nO (N := 13) w1 (zI1 (by decide)) (by decide +kernel)) (bs s1 (bs (a := zm 23 I1 Lc) (zR (by decide) (by decide +kernel)) (bs (nO (N := 23) w2 (zI1 (by decide)) (by decide +kernel)) (bs i_X3 (bs (zR (by decide) (by decide +kernel)) ?_)))))))))))
  refine bs (nA (N := 185) (n := 2) w3 (zI1 (by decide)) (by decide +kernel) l185 (by decide)) (bs (zR (by decide) (by decide +kernel)) (bs (nO (N := 186) w4 (zI1 (by decide)) (by decide +kernel)) (bs iX0 (bs (a := zm 189 I1 Ld) (zR (by decide) (by decide +kernel)) (bs (nO (N := 189) w7 (zI1 (by decide)) (by decide +kernel)) (bs (i_X4 (N := 190) (a := 189) (wfL_m w7 (by decide)) (zI1 (by decide)) (by decide) (by decide +kernel) (by decide +kernel) (by decide +kernel)) (bs (zR (by decide) (by decide +kernel)) (bs (nO (N := 191) w8 (zI1 (by decide)) (by decide +kernel)) (bs (i_X4 (N := 192) (a := 191) (wfL_m w8 (by decide)) (zI1 (by decide)) (by decide) (by decide +kernel) (by decide +kernel) (by decide +kernel)) (bs (zR (by decide) (by decide +kernel)) (bs (nA (N := 193) (n := 8) w9 (zI1 (by decide)) (by decide +kernel) (by decide +kernel) (by decide)) (bs (a := zm 194 I1 Le) (zR (by decide) (by decide +kernel)) ?_))))))))))))
  exact bs g1 (bs (nO (N := 194) w10 (zI1 (by decide)) (by decide +kernel)) (bs (i_X1 (N := 194) w10 (by decide) (by decide +kernel) (by decide +kernel) (by decide +kernel)) (bs t1 (bs g2 (bs (nO (N := 205) w11 (zI1 (by decide)) (by decide +kernel)) (bs (i_X1 (N := 205) w11 (by decide) (by decide +kernel) (by decide +kernel) (by decide +kernel)) (bs t2 rfl)))))))
