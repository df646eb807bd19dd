theorem nx_congr {P : Pal} {n m : Nat → Nat} {r ca : Nat} (h2 : n 2 = m 2) (h3 : n 3 = m 3) (h5 : n 5 = m 5) (h6 : n 6 = m 6) (hn : noiN P n = noiN P m) (hc : cntN P n = cntN P m) : nxN P n r ca = nxN P m r ca := by
  unfold nxN wornN
  rw [h2, h3, h5, h6, hn, hc]
theorem c_stepTo {S : Mem} {a hh br to : Nat} {P : Pal} {n : Nat → Nat} (hP : wfP P) (h : SLb S a P br) (hw : wfN P hh n) (ht : to < 8) : f_X4_stepTo a (nI to) (ss S a P n) = some (ss S a P (goN P to n)) := by
  obtain ⟨w0, w1, w2, w3, w4, w5, w6, w7, w8, w9, wn, wg, wc⟩ := wfb hP hw
  have hr := hP.1
  obtain ⟨f0, f1, f2, f3, f4, f5, f6⟩ := slF_at (P := P) (n := n)
  have ha : a < S.1 := by have := h.1; omega
  unfold f_X4_stepTo goN
  simp (disch := omega) only [ss_gI h, f1, Option.bind_some, ss_pI h, nI_eq]
  by_cases q : to = n 2
  · rw [if_pos q, if_pos q]
  · rw [if_neg q, if_neg q]
    have g1 : gI 4 2 (rowI S a (upd (slF P n) 1 (nI to))) a = some (nI (n 3)) := by
      rw [gI, if_pos ⟨ha, h.2.1⟩, rI2, if_pos rfl]; rfl
    have g2 : ∀ v, pI 4 2 (rowI S a (upd (slF P n) 1 (nI to))) a v = some (rowI S a (upd (upd (slF P n) 1 (nI to)) 2 v)) := by
      intro v
      rw [pI, if_pos ⟨ha, h.2.1⟩, rII, rI2, if_pos rfl]
    rw [g1, Option.bind_some, g2, Option.bind_some]
    have e : (if nI (n 3) + (1 : Int32) < (999 : Int32) then nI (n 3) + (1 : Int32) else (999 : Int32)) = nI (min 999 (n 3 + 1)) := by
      simp (disch := omega) only [zi, nI_add, nI_ltI]
      by_cases q2 : n 3 + 1 < 999
      · rw [if_pos q2, show min 999 (n 3 + 1) = n 3 + 1 by omega]
      · rw [if_neg q2, show min 999 (n 3 + 1) = 999 by omega]
    rw [e]
    unfold ss
    congr 2
    have e1 : noiN P (va_up (va_up (remN P to n) 2 to) 3 (min 999 (n 3 + 1))) = noiN P n := by
      rw [noi_up hr (by omega), noi_up hr (by omega)]; exact noi_congr (fun j h1 h2 => rem_at (by omega) (by omega))
    have e2 : cntN P (va_up (va_up (remN P to n) 2 to) 3 (min 999 (n 3 + 1))) = cntN P n := by
      rw [cnt_up hr (by omega), cnt_up hr (by omega)]; exact cnt_congr (fun j h1 h2 => rem_at (by omega) (by omega))
    funext k
    unfold slF upd
    rw [e1, e2]
    simp only [up_at, Nat.reduceEqDiff, if_false, if_true, rem_at (P := P) (to := to) (n := n) (j := 0) (by omega) (by omega), rem_at (P := P) (to := to) (n := n) (j := 4) (by omega) (by omega), rem_at (P := P) (to := to) (n := n) (j := 5) (by omega) (by omega)]
    by_cases k1 : k = 1
    · subst k1; simp
    · by_cases k2 : k = 2
      · subst k2; simp
      · simp [k1, k2]
theorem ss_congr {S : Mem} {a : Nat} {P : Pal} {n m : Nat → Nat} (h : slF P n = slF P m) : ss S a P n = ss S a P m := by unfold ss; rw [h]
theorem go_congr {P : Pal} {to : Nat} {n m : Nat → Nat} (hr : rms P ≤ 8) (h0 : n 0 = m 0) (h2 : n 2 = m 2) (h3 : n 3 = m 3) (h4 : n 4 = m 4) (h5 : n 5 = m 5) (hn : noiN P n = noiN P m) (hc : cntN P n = cntN P m) : slF P (goN P to n) = slF P (goN P to m) := by
  unfold goN
  rw [h2]
  split
  · exact slF_congr h0 h2 h3 h4 h5 hn hc
  · have k : ∀ v : Nat → Nat, ∀ x y, noiN P (va_up (va_up (remN P to v) 2 x) 3 y) = noiN P v ∧ cntN P (va_up (va_up (remN P to v) 2 x) 3 y) = cntN P v := by
      intro v x y
      refine ⟨?_, ?_⟩
      · rw [noi_up hr (by omega), noi_up hr (by omega)]; exact noi_congr (fun j h1 h2 => rem_at (by omega) (by omega))
      · rw [cnt_up hr (by omega), cnt_up hr (by omega)]; exact cnt_congr (fun j h1 h2 => rem_at (by omega) (by omega))
    apply slF_congr
    · simp only [up_at, Nat.reduceEqDiff, if_false]; rw [rem_at (by omega) (by omega), rem_at (by omega) (by omega), h0]
    · simp only [up_at, Nat.reduceEqDiff, if_false, if_true]
    · simp only [up_at, if_true, h3]
    · simp only [up_at, Nat.reduceEqDiff, if_false]; rw [rem_at (by omega) (by omega), rem_at (by omega) (by omega), h4]
    · simp only [up_at, Nat.reduceEqDiff, if_false]; rw [rem_at (by omega) (by omega), rem_at (by omega) (by omega), h5]
    · rw [(k n _ _).1, (k m _ _).1, hn]
    · rw [(k n _ _).2, (k m _ _).2, hc]
theorem gb_slF {P : Pal} {n : Nat → Nat} (hr : rms P ≤ 8) (h2 : n 2 < 8) : slF P (gbN P n) = slF P (goN P (nxN P (va_up n (18 + n 2) (n (18 + n 2) + 1)) (n 0) (n 4)) (va_up n (18 + n 2) (n (18 + n 2) + 1))) := by
  unfold gbN
  dsimp only
  have a0 : ∀ j, j < 18 → va_up n (18 + n 2) (n (18 + n 2) + 1) j = n j := fun j hj => va_up_ne _ _ (by omega)
  have b0 : ∀ j, j ≠ 7 → j ≠ 8 → heaN P (pts P) (va_up n (18 + n 2) (n (18 + n 2) + 1)) j = va_up n (18 + n 2) (n (18 + n 2) + 1) j := fun j h7 h8 => hea_at _ j h7 h8
  have en := noi_congr (P := P) (n := heaN P (pts P) (va_up n (18 + n 2) (n (18 + n 2) + 1))) (m := va_up n (18 + n 2) (n (18 + n 2) + 1)) (fun j h1 h2 => b0 j (by omega) (by omega))
  have ec := cnt_congr (P := P) (n := heaN P (pts P) (va_up n (18 + n 2) (n (18 + n 2) + 1))) (m := va_up n (18 + n 2) (n (18 + n 2) + 1)) (fun j h1 h2 => b0 j (by omega) (by omega))
  rw [nx_congr (m := va_up n (18 + n 2) (n (18 + n 2) + 1)) (b0 2 (by omega) (by omega)) (b0 3 (by omega) (by omega)) (b0 5 (by omega) (by omega)) (b0 6 (by omega) (by omega)) en ec]
  rw [b0 0 (by omega) (by omega), b0 4 (by omega) (by omega), a0 0 (by omega), a0 4 (by omega)]
  rw [← go_congr hr (b0 0 (by omega) (by omega)) (b0 2 (by omega) (by omega)) (b0 3 (by omega) (by omega)) (b0 4 (by omega) (by omega)) (b0 5 (by omega) (by omega)) en ec]
  exact slF_congr (va_up_ne _ _ (by omega)) (va_up_ne _ _ (by omega)) (va_up_ne _ _ (by omega)) (va_up_ne _ _ (by omega)) (va_up_ne _ _ (by omega)) (noi_up hr (by omega)) (cnt_up hr (by omega))
theorem go_6 {P : Pal} {to : Nat} {n : Nat → Nat} {j : Nat} (h : j < 32) (h2 : j ≠ 2) (h3 : j ≠ 3) (h9 : j ≠ 9) : goN P to n j = n j := by
  unfold goN
  split
  · rfl
  · rw [va_up_ne _ _ h3, va_up_ne _ _ h2, rem_at h h9]
theorem gb_at {P : Pal} {n : Nat → Nat} {j : Nat} (h : j < 32) (h1 : j ≠ 1) (h2 : j ≠ 2) (h3 : j ≠ 3) (h7 : j ≠ 7) (h8 : j ≠ 8) (h9 : j ≠ 9) (hg : j ≠ 18 + n 2) : gbN P n j = n j := by
  unfold gbN
  rw [va_up_ne _ _ h1, go_6 h h2 h3 h9, hea_at _ j h7 h8, va_up_ne _ _ hg]
theorem c_tryHour {S : Mem} {a hh : Nat} {P : Pal} {n : Nat → Nat} (hP : wfP P) (h : SLb S a P (n 6)) (hw : wfN P hh n) (h0 : 0 < rms P) : f_X4_tryHour a (ss S a P n) = some (ss S a P (gbN P n)) := by
  obtain ⟨w0, w1, w2, w3, w4, w5, w6, w7, w8, w9, wn, wg, wc⟩ := wfb hP hw
  have h2 := wf_2 hw h0
  have hr := hP.1
  have e1 := c_feel hP h hw h0
  have hw1 : wfN P (hh + 1) (va_up n (18 + n 2) (n (18 + n 2) + 1)) := wu_18 (wf_mono hw (by omega)) h2 hP.1 (by have := wg (n 2) w2; omega)
  have h6 : SLb S a P ((va_up n (18 + n 2) (n (18 + n 2) + 1)) 6) := by rw [va_up_ne _ _ (by omega)]; exact h
  have e2 := c_nextBy hP h6 hw1 (r := n 0) w0
  rw [show (va_up n (18 + n 2) (n (18 + n 2) + 1)) 4 = n 4 from va_up_ne _ _ (by omega)] at e2
  have e3 := c_stepTo (to := nxN P (va_up n (18 + n 2) (n (18 + n 2) + 1)) (n 0) (n 4)) hP h hw1 (nx_lt hP hw1 _ _).1
  have e4 : slF P (va_up n (18 + n 2) (n (18 + n 2) + 1)) 0 = nI (n 0) := by rw [slF_at.1, va_up_ne _ _ (by omega)]
  unfold f_X4_tryHour
  simp only [ss_ck h, e1, Option.bind_some, ss_gI h, e4, e2, e3]
  rw [ss_congr (gb_slF hr w2)]
