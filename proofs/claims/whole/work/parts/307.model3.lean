theorem wfb {P : Pal} {h : Nat} {n : Nat → Nat} (hP : wfP P) (hw : wfN P h n) : n 0 < 64 ∧ n 1 ≤ h ∧ n 2 < 8 ∧ n 3 ≤ 999 ∧ n 4 < 256 ∧ n 5 < 256 ∧ n 6 < 4096 ∧ n 7 < 64 ∧ n 8 ≤ 999999 ∧ n 9 ≤ 16 ∧ (∀ a, a < 8 → n (10 + a) ≤ 9) ∧ (∀ a, a < 8 → n (18 + a) ≤ h) ∧ (∀ p, p < pts P → n (26 + p) < 8) := by
  obtain ⟨w0, w1, w2, w3, w4, w5, w6, w7, w8, w9, wn, wz, wg, wgz, wc⟩ := hw
  have p1 : 2 ^ rms P ≤ 2 ^ 8 := Nat.pow_le_pow_right (by decide) hP.1
  have p2 : 2 ^ drs P ≤ 2 ^ 12 := Nat.pow_le_pow_right (by decide) hP.2.1
  have p3 : 2 ^ pts P ≤ 2 ^ 6 := Nat.pow_le_pow_right (by decide) hP.2.2.1
  have hr := hP.1
  refine ⟨w0, w1, by omega, w3, by omega, by omega, by omega, by omega, w8, w9, fun a ha => ?_, fun a ha => wg a ha, fun p hp => by have := wc p hp; omega⟩
  rcases wn a with h | h
  · exact h
  · omega
theorem noi_lt {P : Pal} {n : Nat → Nat} (hr : rms P ≤ 8) (hn : ∀ a, a < 8 → n (10 + a) < 16) : noiN P n < 2 ^ 32 := by
  have hg : ∀ a, (fun a => if a < 8 then n (10 + a) else 0) a < 16 := by
    intro a; dsimp only; split
    · exact hn a (by assumption)
    · decide
  have e : noiN P n = pn (fun a => if a < 8 then n (10 + a) else 0) (rms P) := pn_congr _ (fun a ha => by simp [show a < 8 by omega])
  rw [e]
  exact Nat.lt_of_lt_of_le (pn_lt hg _) (Nat.pow_le_pow_right (by decide) (by omega))
theorem cnt_lt32 {P : Pal} {n : Nat → Nat} (hr : rms P ≤ 8) : cntN P n < 2 ^ 32 :=
  Nat.lt_of_lt_of_le (pn_lt cnt_lt _) (Nat.pow_le_pow_right (by decide) (by omega))
theorem m_goesNext {S : Mem} {P : Pal} {n : Nat → Nat} (h : RMb S P) {hh r ca : Nat} (hw : wfN P hh n) (hh31 : hh < 2 ^ 31) (hr : r < 64) (hca : ca < 2 ^ 62) : f_X9_goesNext 216 (nI r) (lN ca) (sn S n) = some (nI (nxN P n r ca)) := by
  have hP := h.2.2.2.2.2.2.2
  obtain ⟨w0, w1, w2, w3, w4, w5, w6, w7, w8, w9, wn, wg, wc⟩ := wfb hP hw
  obtain ⟨r4, r5, r6, r7, -⟩ := mR h.1
  have hS := h.1.1
  have e2 : f_X9_at 216 (nI 2) (sn S n) = some (nI (n 2)) := m_at h.1 (by omega)
  have e3 := m_noises (n := n) h (fun a ha => by have := wn a ha; omega)
  have e4 := m_counts (n := n) h (fun a ha => by have := wg a ha; omega)
  have e5 := m_isWorn (n := n) h.1 (by omega)
  have l1 := noi_lt (n := n) hP.1 (fun a ha => by have := wn a ha; omega)
  have l2 := cnt_lt32 (n := n) hP.1
  have e6 : f_X9_goesTo 216 (nI r) (nI (n 2)) (lN ca) (lN (n 5)) (lN (n 6)) (lN (noiN P n)) (lN (cntN P n)) (nI (if wornN n then 1 else 0)) (sn S n) = some (nI (gtN P r (n 2) ca (n 5) (n 6) (noiN P n) (cntN P n) (wornN n))) :=
    m_goesTo h hr w2 hca (by omega) (by omega) (by omega) (by omega)
  unfold f_X9_goesNext
  simp (disch := omega) only [Option.bind_some, ↓reduceIte, if_true, if_false, zi, zj, sn_gR, sn_gI, sn_ck, sn_ldI, sn_ld, sn_st, mck, mgI, r7, e2, e3, e4, e5, e6]
  rfl
theorem hea_at {P : Pal} {n : Nat → Nat} : ∀ (k j : Nat), j ≠ 7 → j ≠ 8 → heaN P k n j = n j
  | 0, _, _, _ => rfl
  | k + 1, j, h7, h8 => by
    rw [heaN, hea1]
    split
    · rw [va_up_ne _ _ h8, va_up_ne _ _ h7, hea_at k j h7 h8]
    · exact hea_at k j h7 h8
theorem hea_b {P : Pal} {n : Nat → Nat} (h7 : n 7 < 2 ^ pts P) (h8 : n 8 ≤ 999999) : ∀ (k : Nat), k ≤ pts P → heaN P k n 7 < 2 ^ pts P ∧ heaN P k n 8 ≤ 999999
  | 0, _ => ⟨h7, h8⟩
  | k + 1, hk => by
    have ih := hea_b h7 h8 k (by omega)
    rw [heaN, hea1]
    split
    · refine ⟨?_, ?_⟩
      · rw [va_up_ne _ _ (by decide), va_up_self]
        exact Nat.or_lt_two_pow ih.1 (Nat.pow_lt_pow_right (by decide) (by omega))
      · rw [va_up_self]; omega
    · exact ih
theorem hea_wf {P : Pal} {h : Nat} {n : Nat → Nat} (hw : wfN P h n) {k : Nat} (hk : k ≤ pts P) : wfN P h (heaN P k n) := by
  obtain ⟨w0, w1, w2, w3, w4, w5, w6, w7, w8, w9, wn, wz, wg, wgz, wc⟩ := hw
  have hb := hea_b w7 w8 k hk
  have e : ∀ j, j ≠ 7 → j ≠ 8 → heaN P k n j = n j := fun j => hea_at k j
  refine ⟨by rw [e 0 (by decide) (by decide)]; exact w0, by rw [e 1 (by decide) (by decide)]; exact w1, by rw [e 2 (by decide) (by decide)]; exact w2, by rw [e 3 (by decide) (by decide)]; exact w3, by rw [e 4 (by decide) (by decide)]; exact w4, by rw [e 5 (by decide) (by decide)]; exact w5, by rw [e 6 (by decide) (by decide)]; exact w6, hb.1, hb.2, by rw [e 9 (by decide) (by decide)]; exact w9, ?_, ?_, ?_, ?_, ?_⟩
  · intro a; rw [e _ (by omega) (by omega)]; exact wn a
  · intro a h1 h2; rw [e _ (by omega) (by omega)]; exact wz a h1 h2
  · intro a h1; rw [e _ (by omega) (by omega)]; exact wg a h1
  · intro a h1 h2; rw [e _ (by omega) (by omega)]; exact wgz a h1 h2
  · intro p hp; rw [e _ (by omega) (by omega)]; exact wc p hp
theorem m_hears_b {S : Mem} {P : Pal} {n : Nat → Nat} (h : RMb S P) {hh : Nat} (hw : wfN P hh n) : ∀ (m k fu : Nat), pts P = k + m → m < fu → f_X9_hears_b2 fu 216 (nI k) (sn S (heaN P k n)) = some (sn S (heaN P (pts P) n)) := by
  have hP := h.2.2.2.2.2.2.2
  obtain ⟨r4, r5, r6, r7, -⟩ := mR h.1
  have hS := h.1.1
  have h3 := h.2.2.2.1
  have hpt := hP.2.2.1
  intro m
  induction m with
  | zero =>
    intro k fu hk hf
    obtain ⟨fu, rfl⟩ : ∃ z, fu = z + 1 := ⟨fu - 1, by omega⟩
    rw [f_X9_hears_b2]
    simp (disch := omega) only [Option.bind_some, ↓reduceIte, if_true, if_false, zi, zj, sn_gR, sn_gI, sn_ck, sn_ldI, sn_ld, sn_st, mck, mgI, h3, nI_leI, zt_lt, zf_lt, zt_le, zf_le, zf_eq]
    rw [show k = pts P by omega]
  | succ m ih =>
    intro k fu hk hf
    obtain ⟨fu, rfl⟩ : ∃ z, fu = z + 1 := ⟨fu - 1, by omega⟩
    have ih := ih (k + 1) fu (by omega) (by omega)
    obtain ⟨w0, w1, w2, w3, w4, w5, w6, w7, w8, w9, wn, wg, wc⟩ := wfb hP (hea_wf hw (k := k) (by omega))
    have wck := wc k (by omega)
    have e6 := h.2.2.2.2.2.2.1 k (by omega)
    have hwo := hP.2.2.2.2.2 k (by omega)
    rw [heaN, hea1] at ih
    generalize heaN P k n = v at *
    rw [f_X9_hears_b2]
    simp (disch := omega) only [Option.bind_some, ↓reduceIte, if_true, if_false, zi, zj, sn_gR, sn_gI, sn_ck, sn_ldI, sn_ld, sn_st, mck, mgI, h3, r7, r6, nI_leI, nI_add, zt_lt, zf_lt, zt_le, zf_le, zf_eq, lc_eq, m_has, nI_eq, f_X9_hears_b107]
    by_cases q1 : v (26 + k) = v 2
    · by_cases q2 : (v 7).testBit k
      · rw [if_neg (by simp [q2])] at ih
        simp only [q1, q2, if_true, Nat.one_ne_zero, if_false]
        exact ih
      · have q3 : (v 7).testBit k = false := by simpa using q2
        rw [if_pos ⟨q1, q3⟩] at ih
        simp (disch := omega) only [q1, q3, Bool.false_eq_true, Option.bind_some, ↓reduceIte, if_true, if_false, zi, zj, sn_gR, sn_gI, sn_ck, sn_ldI, sn_ld, sn_st, mck, mgI, r7, r6, nI_l, zm_shl, fb_orL, ld_219, e6, up_at, Nat.reduceEqDiff, lN_add, lc_le, f_X9_hears_b106, f_X9_hears_b107, nI_add, Nat.one_mul]
        by_cases q4 : v 8 + wor P k ≤ 999999
        · rw [if_pos q4]
          rw [show min 999999 (v 8 + wor P k) = v 8 + wor P k by omega] at ih
          simp only [bx_uu] at ih ⊢
          exact ih
        · rw [if_neg q4]
          rw [show min 999999 (v 8 + wor P k) = 999999 by omega] at ih
          simp only [bx_uu] at ih ⊢
          exact ih
    · rw [if_neg (fun q => q1 q.1)] at ih
      simp only [q1, if_false]
      exact ih
theorem m_hears {S : Mem} {P : Pal} {n : Nat → Nat} (h : RMb S P) {hh : Nat} (hw : wfN P hh n) : f_X9_hears 216 (sn S n) = some (sn S (heaN P (pts P) n)) := by
  unfold f_X9_hears
  rw [zi]
  exact m_hears_b h hw (pts P) 0 FU (by omega) (by have := h.2.2.2.2.2.2.2.2.2.1; unfold FU; omega)
