theorem noi_congr {P : Pal} {n m : Nat → Nat} (h : ∀ j, 10 ≤ j → j < 10 + rms P → n j = m j) : noiN P n = noiN P m := pn_congr _ (fun a ha => h (10 + a) (by omega) (by omega))
theorem cnt_congr {P : Pal} {n m : Nat → Nat} (h : ∀ j, 18 ≤ j → j < 18 + rms P → n j = m j) : cntN P n = cntN P m := pn_congr _ (fun a ha => by rw [h (18 + a) (by omega) (by omega)])
theorem noi_up {P : Pal} {n : Nat → Nat} {k v : Nat} (hr : rms P ≤ 8) (h : k < 10 ∨ 18 ≤ k) : noiN P (va_up n k v) = noiN P n := noi_congr (fun j h1 h2 => va_up_ne _ _ (by omega))
theorem cnt_up {P : Pal} {n : Nat → Nat} {k v : Nat} (hr : rms P ≤ 8) (h : k < 18 ∨ 26 ≤ k) : cntN P (va_up n k v) = cntN P n := cnt_congr (fun j h1 h2 => va_up_ne _ _ (by omega))
theorem m_rem58 {S : Mem} {P : Pal} {n : Nat → Nat} (h : RMb S P) {hh to : Nat} (hw : wfN P hh n) (hh31 : hh < 2 ^ 31) (h9 : n 9 ≤ 15) (ht : to < 8) : f_X9_remembers_b58 216 (nI to) (sn S n) = some (sn S (va_up (va_up (va_up (va_up n (32 + 3 * n 9) (ent1 n to)) (32 + 3 * n 9 + 1) (noiN P n)) (32 + 3 * n 9 + 2) (cntN P n)) 9 (n 9 + 1))) := by
  have hP := h.2.2.2.2.2.2.2
  have hr8 := hP.1
  obtain ⟨w0, w1, w2, w3, w4, w5, w6, w7, w8, w9, wn, wg, wc⟩ := wfb hP hw
  obtain ⟨r4, r5, r6, r7, -⟩ := mR h.1
  have hS := h.1.1
  have e9 : f_X9_at 216 (nI 9) (sn S n) = some (nI (n 9)) := m_at h.1 (by omega)
  have e5 := m_isWorn (n := n) h.1 (by omega)
  have key : ∀ v : Nat, f_X9_remembers_b131 216 (nI (32 + 3 * n 9)) (lN 0) (lN v) (nI (32 + 3 * n 9)) 220 (sn S n) = some (sn S (va_up (va_up (va_up (va_up n (32 + 3 * n 9) v) (32 + 3 * n 9 + 1) (noiN P n)) (32 + 3 * n 9 + 2) (cntN P n)) 9 (n 9 + 1))) := by
    intro v
    have e3 := m_noises (n := va_up n (32 + 3 * n 9) v) h (fun a ha => by rw [va_up_ne _ _ (by omega)]; have := wn a ha; omega)
    have e4 := m_counts (n := va_up (va_up n (32 + 3 * n 9) v) (32 + 3 * n 9 + 1) (noiN P n)) h (fun a ha => by rw [va_up_ne _ _ (by omega), va_up_ne _ _ (by omega)]; have := wg a ha; omega)
    rw [noi_up hr8 (by omega)] at e3
    rw [cnt_up hr8 (by omega), cnt_up hr8 (by omega)] at e4
    unfold f_X9_remembers_b131
    simp (disch := omega) only [Option.bind_some, ↓reduceIte, if_true, if_false, zi, zj, sn_gR, sn_gI, sn_ck, sn_ldI, sn_ld, sn_st, mck, mgI, r7, fb_orL, Nat.or_zero, e3, e4, nI_add, up_at, zt_lt, zf_lt, zt_le, zf_le, zf_eq, lN_add]
  unfold f_X9_remembers_b58
  simp (disch := omega) only [Option.bind_some, ↓reduceIte, if_true, if_false, zi, zj, sn_gR, sn_gI, sn_ck, sn_ldI, sn_ld, sn_st, mck, mgI, r7, e9, e5, nI_eq, pk_mul, nI_add, nI_l, zm_shl, zm_or]
  cases hwn : wornN n with
  | false =>
    simp only [Bool.false_eq_true, if_false, if_true]
    rw [key]
    unfold ent1
    rw [hwn]
    congr 6
    simp only [Bool.false_eq_true, if_false]; omega
  | true =>
    simp only [if_true, Nat.one_ne_zero, if_false]
    have hor : lN (n 2 + to * 2 ^ 3 + n 4 * 2 ^ 6 + n 5 * 2 ^ 14 + n 6 * 2 ^ 22) ||| lN 17179869184 = lN (ent1 n to) := by
      have := zm_or (a := n 2 + to * 2 ^ 3 + n 4 * 2 ^ 6 + n 5 * 2 ^ 14 + n 6 * 2 ^ 22) (b := 1) (k := 34) (by omega)
      rw [show 1 * 2 ^ 34 = 17179869184 by decide] at this
      rw [this]
      unfold ent1
      rw [hwn]
      congr 1
      simp only [if_true]; omega
    have k2 := key (ent1 n to)
    unfold f_X9_remembers_b131 at k2 ⊢
    rw [hor]
    rw [fb_orL, Nat.or_zero] at k2
    exact k2
def sh3 (n : Nat → Nat) (k : Nat) : Nat → Nat := fun j => if 32 ≤ j ∧ j < 32 + k then n (j + 3) else n j
theorem sh3_up (n : Nat → Nat) (k : Nat) : va_up (sh3 n k) (32 + k) (n (32 + k + 3)) = sh3 n (k + 1) := by
  funext j
  by_cases h : j = 32 + k
  · subst h; simp [va_up, sh3]
  · rw [va_up_ne _ _ h]
    unfold sh3
    by_cases h2 : 32 ≤ j ∧ j < 32 + k
    · rw [if_pos h2, if_pos (by omega)]
    · rw [if_neg h2, if_neg (by omega)]
theorem m_rem16 {S : Mem} {P : Pal} {n : Nat → Nat} (h : RMb S P) {to : Nat} : ∀ (m k fu : Nat), 45 = k + m → m < fu → f_X9_remembers_b16 fu 216 (nI to) (nI (k + 3)) (sn S (sh3 n k)) = f_X9_remembers_b58 216 (nI to) (sn S (va_up (sh3 n 45) 9 15)) := by
  obtain ⟨r4, r5, r6, r7, -⟩ := mR h.1
  have hS := h.1.1
  intro m
  induction m with
  | zero =>
    intro k fu hk hf
    obtain ⟨fu, rfl⟩ : ∃ z, fu = z + 1 := ⟨fu - 1, by omega⟩
    rw [f_X9_remembers_b16, show k = 45 by omega]
    simp (disch := omega) only [Option.bind_some, ↓reduceIte, if_true, if_false, zi, zj, sn_gR, sn_gI, sn_ck, sn_ldI, sn_ld, sn_st, mck, mgI, r7, nI_leI, zt_lt, zf_lt, zt_le, zf_le, zf_eq]
  | succ m ih =>
    intro k fu hk hf
    obtain ⟨fu, rfl⟩ : ∃ z, fu = z + 1 := ⟨fu - 1, by omega⟩
    have e1 : sh3 n k (32 + (k + 3)) = n (32 + k + 3) := by unfold sh3; rw [if_neg (by omega)]; congr 1
    rw [f_X9_remembers_b16, ← ih (k + 1) fu (by omega) (by omega)]
    simp (disch := omega) only [Option.bind_some, ↓reduceIte, if_true, if_false, zi, zj, sn_gR, sn_gI, sn_ck, sn_ldI, sn_ld, sn_st, mck, mgI, r7, nI_leI, nI_add, zt_lt, zf_lt, zt_le, zf_le, zf_eq, e1, pk_sub]
    rw [show 32 + (k + 3) - 3 = 32 + k by omega]
    simp (disch := omega) only [Option.bind_some, ↓reduceIte, if_true, if_false, zi, zj, sn_gR, sn_gI, sn_ck, sn_ldI, sn_ld, sn_st, mck, mgI, sh3_up]
theorem shf_eq {n : Nat → Nat} (h : n 9 = 16) : va_up (sh3 n 45) 9 15 = shfN n := by
  unfold shfN
  rw [if_pos h]
  funext j
  by_cases h9 : j = 9
  · subst h9; simp [va_up]
  · rw [va_up_ne _ _ h9, if_neg h9]; rfl
theorem shf_at {n : Nat → Nat} {j : Nat} (h : j < 32) (h9 : j ≠ 9) : shfN n j = n j := by
  unfold shfN
  split
  · show (if j = 9 then 15 else if 32 ≤ j ∧ j < 77 then n (j + 3) else n j) = n j
    rw [if_neg h9, if_neg (by omega)]
  · rfl
theorem shf_9 {n : Nat → Nat} (h : n 9 ≤ 16) : shfN n 9 ≤ 15 ∧ (n 9 ≤ 15 → shfN n 9 = n 9) ∧ (n 9 = 16 → shfN n 9 = 15) := by
  unfold shfN
  split
  · simp; omega
  · exact ⟨by omega, fun _ => rfl, fun h => absurd h (by assumption)⟩
theorem wf_congr {P : Pal} {h : Nat} {n m : Nat → Nat} (hw : wfN P h n) (e : ∀ j, j < 32 → j ≠ 9 → m j = n j) (h9 : m 9 ≤ 16) (hp : pts P ≤ 6) : wfN P h m := by
  obtain ⟨w0, w1, w2, w3, w4, w5, w6, w7, w8, w9, wn, wz, wg, wgz, wc⟩ := hw
  refine ⟨by rw [e 0 (by decide) (by decide)]; exact w0, by rw [e 1 (by decide) (by decide)]; exact w1, by rw [e 2 (by decide) (by decide)]; exact w2, by rw [e 3 (by decide) (by decide)]; exact w3, by rw [e 4 (by decide) (by decide)]; exact w4, by rw [e 5 (by decide) (by decide)]; exact w5, by rw [e 6 (by decide) (by decide)]; exact w6, by rw [e 7 (by decide) (by decide)]; exact w7, by rw [e 8 (by decide) (by decide)]; exact w8, h9, ?_, ?_, ?_, ?_, ?_⟩
  · intro a
    by_cases ha : a < 8
    · rw [e _ (by omega) (by omega)]; exact wn a
    · exact Or.inr (by omega)
  · intro a h1 h2; rw [e _ (by omega) (by omega)]; exact wz a h1 h2
  · intro a h1; rw [e _ (by omega) (by omega)]; exact wg a h1
  · intro a h1 h2; rw [e _ (by omega) (by omega)]; exact wgz a h1 h2
  · intro p hp; rw [e _ (by omega) (by omega)]; exact wc p hp
theorem m_remembers {S : Mem} {P : Pal} {n : Nat → Nat} (h : RMb S P) {hh to : Nat} (hw : wfN P hh n) (hh31 : hh < 2 ^ 31) (ht : to < 8) : f_X9_remembers 216 (nI to) (sn S n) = some (sn S (remN P to n)) := by
  have hP := h.2.2.2.2.2.2.2
  have hr8 := hP.1
  obtain ⟨w0, w1, w2, w3, w4, w5, w6, w7, w8, w9, wn, wg, wc⟩ := wfb hP hw
  obtain ⟨r4, r5, r6, r7, -⟩ := mR h.1
  have hS := h.1.1
  have s9 := shf_9 w9
  have hws : wfN P hh (shfN n) := wf_congr hw (fun j h1 h2 => shf_at h1 h2) (by omega) hP.2.2.1
  have k58 := m_rem58 h hws hh31 s9.1 ht
  have e1 : ent1 (shfN n) to = ent1 n to := by
    unfold ent1 wornN
    rw [shf_at (by decide) (by decide), shf_at (by decide) (by decide), shf_at (by decide) (by decide), shf_at (by decide) (by decide), shf_at (by decide) (by decide)]
  have e2 : noiN P (shfN n) = noiN P n := noi_congr (fun j h1 h2 => shf_at (by omega) (by omega))
  have e3 : cntN P (shfN n) = cntN P n := cnt_congr (fun j h1 h2 => shf_at (by omega) (by omega))
  rw [e1, e2, e3] at k58
  unfold f_X9_remembers
  simp (disch := omega) only [Option.bind_some, ↓reduceIte, if_true, if_false, zi, zj, sn_gR, sn_gI, sn_ck, sn_ldI, sn_ld, sn_st, mck, mgI, r7, lc_eq]
  by_cases q : n 9 = 16
  · rw [if_pos q]
    have := m_rem16 (n := n) (to := to) h 45 0 FU (by omega) (by unfold FU; omega)
    rw [shf_eq q] at this
    have e0 : sh3 n 0 = n := by funext j; unfold sh3; rw [if_neg (by omega)]
    rw [e0] at this
    rw [this]
    exact k58
  · rw [if_neg q]
    have : shfN n = n := by unfold shfN; rw [if_neg q]
    rw [this] at k58
    unfold remN
    rw [this]
    exact k58
