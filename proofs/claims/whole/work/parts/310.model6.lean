theorem m_goesBy {S : Mem} {P : Pal} {n : Nat → Nat} (h : RMb S P) {hh : Nat} (hw : wfN P hh n) (hh31 : hh < 2 ^ 30) (h0 : 0 < rms P) : f_X9_goesBy 216 (sn S n) = some (sn S (gbN P n)) := by
  have hP := h.2.2.2.2.2.2.2
  have hr8 := hP.1
  obtain ⟨w0, w1, w2, w3, w4, w5, w6, w7, w8, w9, wn, wg, wc⟩ := wfb hP hw
  have wgn := wg (n 2) w2
  have h2 := wf_2 hw h0
  obtain ⟨r4, r5, r6, r7, -⟩ := mR h.1
  have hS := h.1.1
  have e2 : f_X9_at 216 (nI 2) (sn S n) = some (nI (n 2)) := m_at h.1 (by omega)
  have hv1 : wfN P (hh + 1) (va_up n (18 + n 2) (n (18 + n 2) + 1)) := wu_18 (wf_mono hw (by omega)) h2 hP.1 (by omega)
  have e3 := m_hears h hv1
  have hv2 := hea_wf (k := pts P) hv1 (Nat.le_refl _)
  unfold gbN
  dsimp only
  unfold f_X9_goesBy
  simp (disch := omega) only [Option.bind_some, ↓reduceIte, if_true, if_false, zi, zj, sn_gR, sn_gI, sn_ck, sn_ldI, sn_ld, sn_st, mck, mgI, r7, e2, nI_add, lN_add, e3]
  generalize heaN P (pts P) (va_up n (18 + n 2) (n (18 + n 2) + 1)) = v at hv2 ⊢
  obtain ⟨v0, v1, v2, v3, v4, v5, v6, v7, v8, v9, vn, vg, vc⟩ := wfb hP hv2
  have a0 : f_X9_at 216 (nI 0) (sn S v) = some (nI (v 0)) := m_at h.1 (by omega)
  have a2 : f_X9_at 216 (nI 2) (sn S v) = some (nI (v 2)) := m_at h.1 (by omega)
  have a4 : f_X9_goesNext 216 (nI (v 0)) (lN (v 4)) (sn S v) = some (nI (nxN P v (v 0) (v 4))) := m_goesNext h hv2 (by omega) v0 (by omega)
  have hnx := nx_lt hP hv2 (v 0) (v 4)
  have b86 : ∀ u : Nat → Nat, f_X9_goesBy_b86 216 (sn S u) = some (sn S (va_up u 1 (u 1 + 1))) := by
    intro u
    unfold f_X9_goesBy_b86
    simp (disch := omega) only [Option.bind_some, ↓reduceIte, if_true, if_false, zi, zj, sn_gR, sn_gI, sn_ck, sn_ldI, sn_ld, sn_st, mck, mgI, r7, lN_add]
  simp (disch := omega) only [Option.bind_some, ↓reduceIte, if_true, if_false, zi, zj, sn_gR, sn_gI, sn_ck, sn_ldI, sn_ld, sn_st, mck, mgI, r7, a0, a2, a4, nI_eq]
  generalize nxN P v (v 0) (v 4) = to at hnx ⊢
  have a5 := m_remembers h hv2 (by omega) hnx.1
  unfold goN
  by_cases q : to = v 2
  · rw [if_pos q, if_pos q, b86]
  · rw [if_neg q, if_neg q]
    have r3 : remN P to v 3 = v 3 := rem_at (by omega) (by omega)
    simp (disch := omega) only [Option.bind_some, ↓reduceIte, if_true, if_false, zi, zj, sn_gR, sn_gI, sn_ck, sn_ldI, sn_ld, sn_st, mck, mgI, r7, a5, nI_l, up_at, Nat.reduceEqDiff, lc_ge, f_X9_goesBy_b84, lN_add, r3]
    by_cases q2 : 999 ≤ v 3
    · rw [if_pos q2, b86, show min 999 (v 3 + 1) = v 3 + 0 by omega]; rfl
    · rw [if_neg q2, b86, show min 999 (v 3 + 1) = v 3 + 1 by omega]; rfl
theorem m_goesOn_b {S : Mem} {P : Pal} (h : RMb S P) (h0 : 0 < rms P) {k : Nat} (hk : k < 2 ^ 20) : ∀ (m i fu : Nat) (n : Nat → Nat) (hh : Nat), wfN P hh n → hh + m < 2 ^ 29 → k = i + m → m < fu → f_X9_goesOn_b2 fu 216 (nI k) (nI i) (sn S n) = some (sn S (gonN P m n)) := by
  have hP := h.2.2.2.2.2.2.2
  have hS := h.1.1
  intro m
  induction m with
  | zero =>
    intro i fu n hh hw h29 hki hf
    obtain ⟨fu, rfl⟩ : ∃ z, fu = z + 1 := ⟨fu - 1, by omega⟩
    rw [f_X9_goesOn_b2]
    simp (disch := omega) only [Option.bind_some, ↓reduceIte, if_true, if_false, zi, zj, nI_leI, zt_lt, zf_lt, zt_le, zf_le, zf_eq]
    rfl
  | succ m ih =>
    intro i fu n hh hw h29 hki hf
    obtain ⟨fu, rfl⟩ : ∃ z, fu = z + 1 := ⟨fu - 1, by omega⟩
    have e := m_goesBy h hw (by omega) h0
    rw [f_X9_goesOn_b2]
    simp (disch := omega) only [Option.bind_some, ↓reduceIte, if_true, if_false, zi, zj, sn_gR, sn_gI, sn_ck, sn_ldI, sn_ld, sn_st, mck, mgI, nI_leI, zt_lt, zf_lt, zt_le, zf_le, zf_eq, e, nI_add]
    rw [gonN]
    exact ih (i + 1) fu _ (hh + 1) (gb_wf hP hw h0) (by omega) (by omega) (by omega)
theorem m_goesOn {S : Mem} {P : Pal} {n : Nat → Nat} (h : RMb S P) (h0 : 0 < rms P) {k hh : Nat} (hk : k ≤ 100) (hw : wfN P hh n) (hh28 : hh < 2 ^ 28) : f_X9_goesOn 216 (nI k) (sn S n) = some (sn S (gonN P k n)) := by
  unfold f_X9_goesOn
  rw [zi]
  exact m_goesOn_b h h0 (by omega) k 0 FU n hh hw (by omega) (by omega) (by unfold FU; omega)
