theorem wu_0 {P : Pal} {h : Nat} {n : Nat → Nat} (hw : wfN P h n) {v : Nat} (hv : v < 64) : wfN P h (va_up n 0 v) := by
  obtain ⟨w0, w1, w2, w3, w4, w5, w6, w7, w8, w9, wn, wz, wg, wgz, wc⟩ := hw
  exact ⟨by rw [va_up_self]; exact hv, by rw [va_up_ne _ _ (by decide)]; exact w1, by rw [va_up_ne _ _ (by decide)]; exact w2, by rw [va_up_ne _ _ (by decide)]; exact w3, by rw [va_up_ne _ _ (by decide)]; exact w4, by rw [va_up_ne _ _ (by decide)]; exact w5, by rw [va_up_ne _ _ (by decide)]; exact w6, by rw [va_up_ne _ _ (by decide)]; exact w7, by rw [va_up_ne _ _ (by decide)]; exact w8, by rw [va_up_ne _ _ (by decide)]; exact w9, fun a => by rw [va_up_ne _ _ (by omega)]; exact wn a, fun a h1 h2 => by rw [va_up_ne _ _ (by omega)]; exact wz a h1 h2, fun a h1 => by rw [va_up_ne _ _ (by omega)]; exact wg a h1, fun a h1 h2 => by rw [va_up_ne _ _ (by omega)]; exact wgz a h1 h2, fun p h1 => by rw [va_up_ne _ _ (by omega)]; exact wc p h1⟩
theorem wu_2 {P : Pal} {h : Nat} {n : Nat → Nat} (hw : wfN P h n) {v : Nat} (hv : v < rms P) : wfN P h (va_up n 2 v) := by
  obtain ⟨w0, w1, w2, w3, w4, w5, w6, w7, w8, w9, wn, wz, wg, wgz, wc⟩ := hw
  exact ⟨by rw [va_up_ne _ _ (by decide)]; exact w0, by rw [va_up_ne _ _ (by decide)]; exact w1, by rw [va_up_self]; exact Or.inl hv, by rw [va_up_ne _ _ (by decide)]; exact w3, by rw [va_up_ne _ _ (by decide)]; exact w4, by rw [va_up_ne _ _ (by decide)]; exact w5, by rw [va_up_ne _ _ (by decide)]; exact w6, by rw [va_up_ne _ _ (by decide)]; exact w7, by rw [va_up_ne _ _ (by decide)]; exact w8, by rw [va_up_ne _ _ (by decide)]; exact w9, fun a => by rw [va_up_ne _ _ (by omega)]; exact wn a, fun a h1 h2 => by rw [va_up_ne _ _ (by omega)]; exact wz a h1 h2, fun a h1 => by rw [va_up_ne _ _ (by omega)]; exact wg a h1, fun a h1 h2 => by rw [va_up_ne _ _ (by omega)]; exact wgz a h1 h2, fun p h1 => by rw [va_up_ne _ _ (by omega)]; exact wc p h1⟩
theorem wu_3 {P : Pal} {h : Nat} {n : Nat → Nat} (hw : wfN P h n) {v : Nat} (hv : v ≤ 999) : wfN P h (va_up n 3 v) := by
  obtain ⟨w0, w1, w2, w3, w4, w5, w6, w7, w8, w9, wn, wz, wg, wgz, wc⟩ := hw
  exact ⟨by rw [va_up_ne _ _ (by decide)]; exact w0, by rw [va_up_ne _ _ (by decide)]; exact w1, by rw [va_up_ne _ _ (by decide)]; exact w2, by rw [va_up_self]; exact hv, by rw [va_up_ne _ _ (by decide)]; exact w4, by rw [va_up_ne _ _ (by decide)]; exact w5, by rw [va_up_ne _ _ (by decide)]; exact w6, by rw [va_up_ne _ _ (by decide)]; exact w7, by rw [va_up_ne _ _ (by decide)]; exact w8, by rw [va_up_ne _ _ (by decide)]; exact w9, fun a => by rw [va_up_ne _ _ (by omega)]; exact wn a, fun a h1 h2 => by rw [va_up_ne _ _ (by omega)]; exact wz a h1 h2, fun a h1 => by rw [va_up_ne _ _ (by omega)]; exact wg a h1, fun a h1 h2 => by rw [va_up_ne _ _ (by omega)]; exact wgz a h1 h2, fun p h1 => by rw [va_up_ne _ _ (by omega)]; exact wc p h1⟩
theorem wu_4 {P : Pal} {h : Nat} {n : Nat → Nat} (hw : wfN P h n) {v : Nat} (hv : v < 2 ^ rms P) : wfN P h (va_up n 4 v) := by
  obtain ⟨w0, w1, w2, w3, w4, w5, w6, w7, w8, w9, wn, wz, wg, wgz, wc⟩ := hw
  exact ⟨by rw [va_up_ne _ _ (by decide)]; exact w0, by rw [va_up_ne _ _ (by decide)]; exact w1, by rw [va_up_ne _ _ (by decide)]; exact w2, by rw [va_up_ne _ _ (by decide)]; exact w3, by rw [va_up_self]; exact hv, by rw [va_up_ne _ _ (by decide)]; exact w5, by rw [va_up_ne _ _ (by decide)]; exact w6, by rw [va_up_ne _ _ (by decide)]; exact w7, by rw [va_up_ne _ _ (by decide)]; exact w8, by rw [va_up_ne _ _ (by decide)]; exact w9, fun a => by rw [va_up_ne _ _ (by omega)]; exact wn a, fun a h1 h2 => by rw [va_up_ne _ _ (by omega)]; exact wz a h1 h2, fun a h1 => by rw [va_up_ne _ _ (by omega)]; exact wg a h1, fun a h1 h2 => by rw [va_up_ne _ _ (by omega)]; exact wgz a h1 h2, fun p h1 => by rw [va_up_ne _ _ (by omega)]; exact wc p h1⟩
theorem wu_5 {P : Pal} {h : Nat} {n : Nat → Nat} (hw : wfN P h n) {v : Nat} (hv : v < 2 ^ rms P) : wfN P h (va_up n 5 v) := by
  obtain ⟨w0, w1, w2, w3, w4, w5, w6, w7, w8, w9, wn, wz, wg, wgz, wc⟩ := hw
  exact ⟨by rw [va_up_ne _ _ (by decide)]; exact w0, by rw [va_up_ne _ _ (by decide)]; exact w1, by rw [va_up_ne _ _ (by decide)]; exact w2, by rw [va_up_ne _ _ (by decide)]; exact w3, by rw [va_up_ne _ _ (by decide)]; exact w4, by rw [va_up_self]; exact hv, by rw [va_up_ne _ _ (by decide)]; exact w6, by rw [va_up_ne _ _ (by decide)]; exact w7, by rw [va_up_ne _ _ (by decide)]; exact w8, by rw [va_up_ne _ _ (by decide)]; exact w9, fun a => by rw [va_up_ne _ _ (by omega)]; exact wn a, fun a h1 h2 => by rw [va_up_ne _ _ (by omega)]; exact wz a h1 h2, fun a h1 => by rw [va_up_ne _ _ (by omega)]; exact wg a h1, fun a h1 h2 => by rw [va_up_ne _ _ (by omega)]; exact wgz a h1 h2, fun p h1 => by rw [va_up_ne _ _ (by omega)]; exact wc p h1⟩
theorem wu_6 {P : Pal} {h : Nat} {n : Nat → Nat} (hw : wfN P h n) {v : Nat} (hv : v < 2 ^ drs P) : wfN P h (va_up n 6 v) := by
  obtain ⟨w0, w1, w2, w3, w4, w5, w6, w7, w8, w9, wn, wz, wg, wgz, wc⟩ := hw
  exact ⟨by rw [va_up_ne _ _ (by decide)]; exact w0, by rw [va_up_ne _ _ (by decide)]; exact w1, by rw [va_up_ne _ _ (by decide)]; exact w2, by rw [va_up_ne _ _ (by decide)]; exact w3, by rw [va_up_ne _ _ (by decide)]; exact w4, by rw [va_up_ne _ _ (by decide)]; exact w5, by rw [va_up_self]; exact hv, by rw [va_up_ne _ _ (by decide)]; exact w7, by rw [va_up_ne _ _ (by decide)]; exact w8, by rw [va_up_ne _ _ (by decide)]; exact w9, fun a => by rw [va_up_ne _ _ (by omega)]; exact wn a, fun a h1 h2 => by rw [va_up_ne _ _ (by omega)]; exact wz a h1 h2, fun a h1 => by rw [va_up_ne _ _ (by omega)]; exact wg a h1, fun a h1 h2 => by rw [va_up_ne _ _ (by omega)]; exact wgz a h1 h2, fun p h1 => by rw [va_up_ne _ _ (by omega)]; exact wc p h1⟩
theorem wu_7 {P : Pal} {h : Nat} {n : Nat → Nat} (hw : wfN P h n) {v : Nat} (hv : v < 2 ^ pts P) : wfN P h (va_up n 7 v) := by
  obtain ⟨w0, w1, w2, w3, w4, w5, w6, w7, w8, w9, wn, wz, wg, wgz, wc⟩ := hw
  exact ⟨by rw [va_up_ne _ _ (by decide)]; exact w0, by rw [va_up_ne _ _ (by decide)]; exact w1, by rw [va_up_ne _ _ (by decide)]; exact w2, by rw [va_up_ne _ _ (by decide)]; exact w3, by rw [va_up_ne _ _ (by decide)]; exact w4, by rw [va_up_ne _ _ (by decide)]; exact w5, by rw [va_up_ne _ _ (by decide)]; exact w6, by rw [va_up_self]; exact hv, by rw [va_up_ne _ _ (by decide)]; exact w8, by rw [va_up_ne _ _ (by decide)]; exact w9, fun a => by rw [va_up_ne _ _ (by omega)]; exact wn a, fun a h1 h2 => by rw [va_up_ne _ _ (by omega)]; exact wz a h1 h2, fun a h1 => by rw [va_up_ne _ _ (by omega)]; exact wg a h1, fun a h1 h2 => by rw [va_up_ne _ _ (by omega)]; exact wgz a h1 h2, fun p h1 => by rw [va_up_ne _ _ (by omega)]; exact wc p h1⟩
theorem wu_10 {P : Pal} {h : Nat} {n : Nat → Nat} (hw : wfN P h n) {a v : Nat} (ha : a < rms P) (h8 : rms P ≤ 8) (hv : v ≤ 9) : wfN P h (va_up n (10 + a) v) := by
  obtain ⟨w0, w1, w2, w3, w4, w5, w6, w7, w8, w9, wn, wz, wg, wgz, wc⟩ := hw
  refine ⟨by rw [va_up_ne _ _ (by omega)]; exact w0, by rw [va_up_ne _ _ (by omega)]; exact w1, by rw [va_up_ne _ _ (by omega)]; exact w2, by rw [va_up_ne _ _ (by omega)]; exact w3, by rw [va_up_ne _ _ (by omega)]; exact w4, by rw [va_up_ne _ _ (by omega)]; exact w5, by rw [va_up_ne _ _ (by omega)]; exact w6, by rw [va_up_ne _ _ (by omega)]; exact w7, by rw [va_up_ne _ _ (by omega)]; exact w8, by rw [va_up_ne _ _ (by omega)]; exact w9, fun b => ?_, fun b h1 h2 => ?_, fun b h1 => by rw [va_up_ne _ _ (by omega)]; exact wg b h1, fun b h1 h2 => by rw [va_up_ne _ _ (by omega)]; exact wgz b h1 h2, fun p h1 => by rw [va_up_ne _ _ (by omega)]; exact wc p h1⟩
  · by_cases q : b = a
    · subst q; rw [va_up_self]; exact Or.inl hv
    · rw [va_up_ne _ _ (by omega)]; exact wn b
  · rw [va_up_ne _ _ (by omega)]; exact wz b h1 h2
theorem wu_26 {P : Pal} {h : Nat} {n : Nat → Nat} (hw : wfN P h n) {p v : Nat} (hp : p < pts P) (hv : v < rms P) : wfN P h (va_up n (26 + p) v) := by
  obtain ⟨w0, w1, w2, w3, w4, w5, w6, w7, w8, w9, wn, wz, wg, wgz, wc⟩ := hw
  refine ⟨by rw [va_up_ne _ _ (by omega)]; exact w0, by rw [va_up_ne _ _ (by omega)]; exact w1, by rw [va_up_ne _ _ (by omega)]; exact w2, by rw [va_up_ne _ _ (by omega)]; exact w3, by rw [va_up_ne _ _ (by omega)]; exact w4, by rw [va_up_ne _ _ (by omega)]; exact w5, by rw [va_up_ne _ _ (by omega)]; exact w6, by rw [va_up_ne _ _ (by omega)]; exact w7, by rw [va_up_ne _ _ (by omega)]; exact w8, by rw [va_up_ne _ _ (by omega)]; exact w9, fun b => ?_, fun b h1 h2 => by rw [va_up_ne _ _ (by omega)]; exact wz b h1 h2, fun b h1 => by rw [va_up_ne _ _ (by omega)]; exact wg b h1, fun b h1 h2 => by rw [va_up_ne _ _ (by omega)]; exact wgz b h1 h2, fun b h1 => ?_⟩
  · by_cases hb : b < 8
    · rw [va_up_ne _ _ (by omega)]; exact wn b
    · exact Or.inr (by omega)
  · by_cases q : b = p
    · subst q; rw [va_up_self]; exact hv
    · rw [va_up_ne _ _ (by omega)]; exact wc b h1
theorem gt_lt {P : Pal} {r w ca na br no ct : Nat} {wo : Bool} (hw : w < 8) (hr : rms P ≤ 8) : gtN P r w ca na br no ct wo < 8 ∧ (gtN P r w ca na br no ct wo ≠ w → gtN P r w ca na br no ct wo < rms P ∧ opn P w na br (gtN P r w ca na br no ct wo) = true) := by
  unfold gtN
  cases h : bst (opn P w na br) (plN r ca no ct wo) (rms P) with
  | none => exact ⟨hw, fun q => absurd rfl q⟩
  | some q =>
    have := bst_lt h
    exact ⟨by dsimp only; omega, fun _ => ⟨this.1, this.2.1⟩⟩
theorem rem_at {P : Pal} {to : Nat} {n : Nat → Nat} {j : Nat} (h : j < 32) (h9 : j ≠ 9) : remN P to n j = n j := by
  unfold remN
  rw [va_up_ne _ _ h9, va_up_ne _ _ (by omega), va_up_ne _ _ (by omega), va_up_ne _ _ (by omega), shf_at h h9]
theorem rem_9 {P : Pal} {to : Nat} {n : Nat → Nat} : remN P to n 9 = shfN n 9 + 1 := by
  unfold remN
  rw [va_up_self]
theorem go_wf {P : Pal} {h to : Nat} {n : Nat → Nat} (hw : wfN P h n) (hp : pts P ≤ 6) (ht : to ≠ n 2 → to < rms P) : wfN P h (goN P to n) := by
  unfold goN
  split
  · exact hw
  · have h9 : n 9 ≤ 16 := hw.2.2.2.2.2.2.2.2.2.1
    have w1 : wfN P h (remN P to n) := wf_congr hw (fun j h1 h2 => rem_at h1 h2) (by rw [rem_9]; have := shf_9 h9; omega) hp
    exact wu_3 (wu_2 w1 (ht (by assumption))) (by omega)
theorem wu_1 {P : Pal} {h : Nat} {n : Nat → Nat} (hw : wfN P h n) {v : Nat} (hv : v ≤ h) : wfN P h (va_up n 1 v) := by
  obtain ⟨w0, w1, w2, w3, w4, w5, w6, w7, w8, w9, wn, wz, wg, wgz, wc⟩ := hw
  exact ⟨by rw [va_up_ne _ _ (by omega)]; exact w0, by rw [va_up_self]; exact hv, by rw [va_up_ne _ _ (by omega)]; exact w2, by rw [va_up_ne _ _ (by omega)]; exact w3, by rw [va_up_ne _ _ (by omega)]; exact w4, by rw [va_up_ne _ _ (by omega)]; exact w5, by rw [va_up_ne _ _ (by omega)]; exact w6, by rw [va_up_ne _ _ (by omega)]; exact w7, by rw [va_up_ne _ _ (by omega)]; exact w8, by rw [va_up_ne _ _ (by omega)]; exact w9, fun a => by rw [va_up_ne _ _ (by omega)]; exact wn a, fun a h1 h2 => by rw [va_up_ne _ _ (by omega)]; exact wz a h1 h2, fun a h1 => by rw [va_up_ne _ _ (by omega)]; exact wg a h1, fun a h1 h2 => by rw [va_up_ne _ _ (by omega)]; exact wgz a h1 h2, fun p h1 => by rw [va_up_ne _ _ (by omega)]; exact wc p h1⟩
theorem wu_18 {P : Pal} {h : Nat} {n : Nat → Nat} (hw : wfN P h n) {a v : Nat} (ha : a < rms P) (h8 : rms P ≤ 8) (hv : v ≤ h) : wfN P h (va_up n (18 + a) v) := by
  obtain ⟨w0, w1, w2, w3, w4, w5, w6, w7, w8, w9, wn, wz, wg, wgz, wc⟩ := hw
  refine ⟨by rw [va_up_ne _ _ (by omega)]; exact w0, by rw [va_up_ne _ _ (by omega)]; exact w1, by rw [va_up_ne _ _ (by omega)]; exact w2, by rw [va_up_ne _ _ (by omega)]; exact w3, by rw [va_up_ne _ _ (by omega)]; exact w4, by rw [va_up_ne _ _ (by omega)]; exact w5, by rw [va_up_ne _ _ (by omega)]; exact w6, by rw [va_up_ne _ _ (by omega)]; exact w7, by rw [va_up_ne _ _ (by omega)]; exact w8, by rw [va_up_ne _ _ (by omega)]; exact w9, fun b => ?_, fun b h1 h2 => by rw [va_up_ne _ _ (by omega)]; exact wz b h1 h2, fun b h1 => ?_, fun b h1 h2 => by rw [va_up_ne _ _ (by omega)]; exact wgz b h1 h2, fun p h1 => by rw [va_up_ne _ _ (by omega)]; exact wc p h1⟩
  · by_cases hb : b < 8
    · rw [va_up_ne _ _ (by omega)]; exact wn b
    · exact Or.inr (by omega)
  · by_cases q : b = a
    · subst q; rw [va_up_self]; exact hv
    · rw [va_up_ne _ _ (by omega)]; exact wg b h1
theorem wf_mono {P : Pal} {h h' : Nat} {n : Nat → Nat} (hw : wfN P h n) (hh : h ≤ h') : wfN P h' n := by
  obtain ⟨w0, w1, w2, w3, w4, w5, w6, w7, w8, w9, wn, wz, wg, wgz, wc⟩ := hw
  exact ⟨w0, by omega, w2, w3, w4, w5, w6, w7, w8, w9, wn, wz, fun a h1 => by have := wg a h1; omega, wgz, wc⟩
theorem wf_2 {P : Pal} {h : Nat} {n : Nat → Nat} (hw : wfN P h n) (h0 : 0 < rms P) : n 2 < rms P := by
  have := hw.2.2.1; omega
theorem nx_lt {P : Pal} {h : Nat} {n : Nat → Nat} (hP : wfP P) (hw : wfN P h n) (r ca : Nat) : nxN P n r ca < 8 ∧ (nxN P n r ca ≠ n 2 → nxN P n r ca < rms P ∧ opn P (n 2) (n 5) (n 6) (nxN P n r ca) = true) :=
  gt_lt (wfb hP hw).2.2.1 hP.1
theorem go_1 {P : Pal} {to : Nat} {n : Nat → Nat} : goN P to n 1 = n 1 := by
  unfold goN
  split
  · rfl
  · rw [va_up_ne _ _ (by omega), va_up_ne _ _ (by omega), rem_at (by omega) (by omega)]
theorem gb_wf {P : Pal} {h : Nat} {n : Nat → Nat} (hP : wfP P) (hw : wfN P h n) (h0 : 0 < rms P) : wfN P (h + 1) (gbN P n) := by
  have h2 := wf_2 hw h0
  have hr := hP.1
  have w1 : wfN P (h + 1) (va_up n (18 + n 2) (n (18 + n 2) + 1)) := wu_18 (wf_mono hw (by omega)) h2 hP.1 (by have := (wfb hP hw).2.2.2.2.2.2.2.2.2.2.2.1 (n 2) (by omega); omega)
  have w2 := hea_wf (k := pts P) w1 (Nat.le_refl _)
  have e1 : heaN P (pts P) (va_up n (18 + n 2) (n (18 + n 2) + 1)) 1 = n 1 := by rw [hea_at _ 1 (by decide) (by decide), va_up_ne _ _ (by omega)]
  unfold gbN
  dsimp only
  generalize heaN P (pts P) (va_up n (18 + n 2) (n (18 + n 2) + 1)) = v at w2 e1 ⊢
  have w3 : wfN P (h + 1) (goN P (nxN P v (v 0) (v 4)) v) := go_wf w2 hP.2.2.1 (fun q => ((nx_lt hP w2 _ _).2 q).1)
  refine wu_1 w3 ?_
  rw [go_1, e1]
  have := hw.2.1
  omega
