/-! trying hours, and going back -/
theorem gon_succ {P : Pal} : ∀ (k : Nat) (n : Nat → Nat), gonN P (k + 1) n = gbN P (gonN P k n)
  | 0, _ => rfl
  | k + 1, n => by
    rw [gonN, gon_succ k (gbN P n), gonN]
theorem gon_wf {P : Pal} (hP : wfP P) (h0 : 0 < rms P) {n : Nat → Nat} {hh : Nat} (hw : wfN P hh n) : ∀ k, wfN P (hh + k) (gonN P k n)
  | 0 => hw
  | k + 1 => by rw [gon_succ]; exact gb_wf hP (gon_wf hP h0 hw k) h0
theorem shf_hi {n : Nat → Nat} {k : Nat} (hk : 80 ≤ k) : shfN n k = n k := by
  unfold shfN
  split
  · dsimp only
    rw [if_neg (by omega), if_neg (by omega)]
  · rfl
theorem go_hi {P : Pal} {to : Nat} {n : Nat → Nat} {k : Nat} (h9 : n 9 ≤ 16) (hk : 80 ≤ k) : goN P to n k = n k := by
  unfold goN
  split
  · rfl
  · have := (shf_9 h9).1
    rw [up_at, if_neg (by omega), up_at, if_neg (by omega)]
    unfold remN
    rw [up_at, if_neg (by omega), up_at, if_neg (by omega), up_at, if_neg (by omega), up_at, if_neg (by omega), shf_hi hk]
theorem gb_hi {P : Pal} {hh : Nat} {n : Nat → Nat} {k : Nat} (hP : wfP P) (hw : wfN P hh n) (hk : 80 ≤ k) : gbN P n k = n k := by
  obtain ⟨w0, w1, w2, w3, w4, w5, w6, w7, w8, w9, wn, wg, wc⟩ := wfb hP hw
  unfold gbN
  rw [up_at, if_neg (by omega), go_hi _ hk, hea_at _ _ (by omega) (by omega), up_at, if_neg (by omega)]
  rw [hea_at _ _ (by omega) (by omega), up_at, if_neg (by omega)]
  exact w9
theorem gon_hi {P : Pal} (hP : wfP P) (h0 : 0 < rms P) {n : Nat → Nat} {hh k : Nat} (hw : wfN P hh n) (hk : 80 ≤ k) : ∀ i, gonN P i n k = n k
  | 0 => rfl
  | i + 1 => by rw [gon_succ, gb_hi hP (gon_wf hP h0 hw i) hk, gon_hi hP h0 hw hk i]
theorem gon_at {P : Pal} (hP : wfP P) (h0 : 0 < rms P) {n : Nat → Nat} {hh j : Nat} (hw : wfN P hh n) (h : j < 32) (h1 : j ≠ 1) (h2 : j ≠ 2) (h3 : j ≠ 3) (h7 : j ≠ 7) (h8 : j ≠ 8) (h9 : j ≠ 9) (hg : j < 18 ∨ 26 ≤ j) : ∀ i, gonN P i n j = n j
  | 0 => rfl
  | i + 1 => by
    have := (wfb hP (gon_wf hP h0 hw i)).2.2.1
    rw [gon_succ, gb_at h h1 h2 h3 h7 h8 h9 (by omega), gon_at hP h0 hw h h1 h2 h3 h7 h8 h9 hg i]
theorem gb_18 {P : Pal} {n : Nat → Nat} {a : Nat} (ha : a < 8) (h2 : n 2 < 8) : gbN P n (18 + a) = n (18 + a) + (if n 2 = a then 1 else 0) := by
  unfold gbN
  rw [up_at, if_neg (by omega), go_6 (by omega) (by omega) (by omega) (by omega), hea_at _ _ (by omega) (by omega), up_at]
  by_cases q : n 2 = a
  · rw [if_pos (by omega), if_pos q, q]
  · rw [if_neg (by omega), if_neg q]; rfl
theorem hea_7 {P : Pal} {n : Nat → Nat} {p : Nat} : ∀ k, (heaN P k n 7).testBit p = ((n 7).testBit p || (decide (p < k) && decide (n (26 + p) = n 2)))
  | 0 => by simp [heaN]
  | k + 1 => by
    have ih := hea_7 (P := P) (n := n) (p := p) k
    rw [heaN]
    unfold hea1
    rw [hea_at k (26 + k) (by omega) (by omega), hea_at k 2 (by omega) (by omega)]
    by_cases q : n (26 + k) = n 2 ∧ (heaN P k n 7).testBit k = false
    · rw [if_pos q, up_at, if_neg (by decide), up_at, if_pos rfl, Nat.testBit_or, ih, Nat.testBit_two_pow]
      by_cases e : k = p
      · subst e; simp [q.1]
      · have e1 : (decide (p < k + 1)) = decide (p < k) := by by_cases z : p < k <;> simp [z] <;> omega
        simp [e, e1]
    · rw [if_neg q, ih]
      by_cases e : k = p
      · subst e
        by_cases z : n (26 + k) = n 2
        · have : (heaN P k n 7).testBit k = true := by
            cases hb : (heaN P k n 7).testBit k with
            | false => exact absurd ⟨z, hb⟩ q
            | true => rfl
          rw [ih] at this
          simp [z]
          simpa using this
        · simp [z]
      · have e1 : (decide (p < k + 1)) = decide (p < k) := by by_cases z : p < k <;> simp [z] <;> omega
        simp [e1]
theorem gb_7 {P : Pal} {n : Nat → Nat} {p : Nat} (hp : p < pts P) (h2 : n 2 < 8) (h6 : pts P ≤ 6) : (gbN P n 7).testBit p = ((n 7).testBit p || decide (n (26 + p) = n 2)) := by
  unfold gbN
  rw [up_at, if_neg (by omega), go_6 (by omega) (by omega) (by omega) (by omega), hea_7, up_at, if_neg (by omega), up_at, if_neg (by omega), up_at, if_neg (by omega)]
  simp [hp]
theorem Inv_x {S : Mem} (h : Inv S) : ∃ (p : Nat) (P : Pal) (n : Nat → Nat), rfC S p ∧ PaR S p P ∧ StR S 13 P n ∧ Ctail S ∧ RMb S P ∧ S.2.2.1 220 = LL n ∧ wfN P 9060 n ∧ ∀ a, a < 8 → n (18 + a) ≤ n 1 := by
  obtain ⟨p, ⟨⟨P, pal, n⟩, ⟨us, uc⟩, ⟨im, ik, isd, sd⟩, ⟨tx, tn, lf⟩, ⟨bk, bo, bc⟩⟩, ⟨c1, c2, c3, c4, c5, c6, c7, c8, c9⟩, ⟨m1, m2, m3, m4, m5, m6, m7⟩, hw⟩ := h
  exact ⟨p, P, n, c1, c2.1, c3, c9, RMb_ c1 m1 hw.1, m2, hw.2.2.1.1, hw.2.2.1.2⟩
def asd (n : Nat → Nat) (f : Nat → Int64) (k : Nat) : Nat → Int64 := fun j => if j < k then lN (n j) else f j
theorem asd_up {n : Nat → Nat} {f : Nat → Int64} {k : Nat} : vp_updL (asd n f k) k (lN (n k)) = asd n f (k + 1) := by
  funext j
  unfold asd vp_updL
  by_cases h : j = k
  · subst h; simp
  · by_cases h' : j < k
    · simp [h, h', show j < k + 1 by omega]
    · simp [h, h', show ¬ j < k + 1 by omega]
theorem q_aside_b {S : Mem} {p : Nat} {n : Nat → Nat} (hR : rfC S p) (hn : S.2.2.1 220 = LL n) : ∀ (m k fu : Nat), 80 = k + m → m < fu → f_X9_asides_b2 fu 216 (nI k) (rowJ S 224 (asd n (S.2.2.1 224) k)) = some (rowJ S 224 (asd n (S.2.2.1 224) 80)) := by
  have hS := hR.1
  intro m
  induction m with
  | zero =>
    intro k fu hk hf
    obtain ⟨fu, rfl⟩ : ∃ z, fu = z + 1 := ⟨fu - 1, by omega⟩
    rw [f_X9_asides_b2, show k = 80 by omega, if_pos (by decide +kernel)]
  | succ m ih =>
    intro k fu hk hf
    obtain ⟨fu, rfl⟩ : ∃ z, fu = z + 1 := ⟨fu - 1, by omega⟩
    have ih := ih (k + 1) fu (by omega) (by omega)
    rw [f_X9_asides_b2]
    refine bn (by rw [zi 80, nI_leI (by omega) (by omega)]; omega) (bs (R_17 (rfC_e hR rfl rfl)) (bs (R_7 (rfC_e hR rfl rfl)) (bs (a := lN (n k)) ?_ (bs (st_224 (by exact hS) (by omega) _) ?_))))
    · rw [ld_220 (by exact hS) (by omega)]
      show some (S.2.2.1 220 k) = _
      rw [hn]; rfl
    · rw [rJJ, Option.bind_some, zi 1, nI_add]
      show f_X9_asides_b2 fu 216 (nI (k + 1)) (rowJ S 224 (vp_updL (asd n (S.2.2.1 224) k) k (lN (n k)))) = _
      rw [asd_up]; exact ih
theorem q_aside {S : Mem} {p : Nat} {n : Nat → Nat} (hR : rfC S p) (hn : S.2.2.1 220 = LL n) : f_X9_asides 216 S = some (rowJ S 224 (asd n (S.2.2.1 224) 80)) := by
  have := q_aside_b hR hn 80 0 FU (by omega) (by unfold FU; omega)
  have e : asd n (S.2.2.1 224) 0 = S.2.2.1 224 := by funext j; simp [asd]
  rw [e, rJ_same] at this
  exact this
def mix (n m : Nat → Nat) (k : Nat) : Nat → Nat := fun j => if j < k then n j else m j
theorem mix_up {n m : Nat → Nat} {k : Nat} : va_up (mix n m k) k (n k) = mix n m (k + 1) := by
  funext j
  rw [up_at]
  unfold mix
  by_cases h : j = k
  · subst h; simp
  · by_cases h' : j < k
    · simp [h, h', show j < k + 1 by omega]
    · simp [h, h', show ¬ j < k + 1 by omega]
theorem q_back_b {M : Mem} {p : Nat} {n m : Nat → Nat} (hR : rfC M p) (h4 : ∀ k, k < 80 → M.2.2.1 224 k = lN (n k)) : ∀ (z k fu : Nat), 80 = k + z → z < fu → f_X9_backs_b2 fu 216 (nI k) (sn M (mix n m k)) = some (sn M (mix n m 80)) := by
  have hS := hR.1
  intro z
  induction z with
  | zero =>
    intro k fu hk hf
    obtain ⟨fu, rfl⟩ : ∃ z, fu = z + 1 := ⟨fu - 1, by omega⟩
    rw [f_X9_backs_b2, show k = 80 by omega, if_pos (by decide +kernel)]
  | succ z ih =>
    intro k fu hk hf
    obtain ⟨fu, rfl⟩ : ∃ z, fu = z + 1 := ⟨fu - 1, by omega⟩
    have ih := ih (k + 1) fu (by omega) (by omega)
    rw [f_X9_backs_b2]
    refine bn (by rw [zi 80, nI_leI (by omega) (by omega)]; omega) (bs (R_7 (rfC_e hR rfl rfl)) (bs (R_17 (rfC_e hR rfl rfl)) (bs (a := lN (n k)) ?_ (bs (sn_st hS (by omega) _) ?_))))
    · rw [ld_224 (by exact hS) (by omega)]
      show some (M.2.2.1 224 k) = _
      rw [h4 k (by omega)]
    · rw [mix_up, Option.bind_some, zi 1, nI_add]; exact ih
theorem q_back {M : Mem} {p : Nat} {n m : Nat → Nat} (hR : rfC M p) (h4 : ∀ k, k < 80 → M.2.2.1 224 k = lN (n k)) (hi : ∀ k, 80 ≤ k → m k = n k) : f_X9_backs 216 (sn M m) = some (sn M n) := by
  have := q_back_b (m := m) hR h4 80 0 FU (by omega) (by unfold FU; omega)
  have e0 : mix n m 0 = m := by funext j; simp [mix]
  have e1 : mix n m 80 = n := by
    funext j
    unfold mix
    by_cases h : j < 80
    · simp [h]
    · simp [h, hi j (by omega)]
  rw [e0, e1] at this
  exact this
theorem RMb_e {S S' : Mem} {P : Pal} (h : RMb S P) (e0 : S'.1 = S.1) (e4 : S'.2.2.2 = S.2.2.2) (e : ∀ k, k < 4 → S'.2.1 216 k = S.2.1 216 k) (e1 : S'.2.1 217 = S.2.1 217) (e2 : S'.2.1 218 = S.2.1 218) (e3 : S'.2.1 219 = S.2.1 219) : RMb S' P := by
  obtain ⟨h0, h1, h2, h3, h4, h5, h6, h7⟩ := h
  refine ⟨?_, by rw [e 1 (by decide)]; exact h1, by rw [e 2 (by decide)]; exact h2, by rw [e 3 (by decide)]; exact h3, by rw [e1]; exact h4, by rw [e2]; exact h5, by rw [e3]; exact h6, h7⟩
  unfold rfM at *
  rw [e0, e4]; exact h0
/-- a trial: what stands before it, and after it -/
theorem q_run {S : Mem} {p : Nat} {P : Pal} {n : Nat → Nat} (h : Inv S) (hR : rfC S p) (hst : StR S 13 P n) (ht : Ctail S) (hM : RMb S P) (hn : S.2.2.1 220 = LL n) :
    ∃ B, f_X4_copyFrom 189 14 S = some (ss B 189 P n) ∧ SLb B 189 P (n 6) ∧ fr (fun x => x == 190) S B ∧ rfC B p ∧
      ∀ m, ∃ M, f_X9_asides 216 (ss B 189 P m) = some M ∧ (∀ k, k < 80 → M.2.2.1 224 k = lN (n k)) ∧ rfC M p ∧ RMb M P ∧ M.2.2.1 220 = LL n ∧ Inv M := by
  obtain ⟨-, hs, hbs, -⟩ := hst
  obtain ⟨B, b1, b2, b3⟩ := c_copySl (slk_189 hR) (slb_ hR hbs) hs (by decide) (by decide) (by decide) (fun k hk => ht 189 (by decide) (by decide +kernel) k hk)
  have hB := rfC_fr hR b3
  have e : ∀ b, b ≠ 190 → B.2.1 b = S.2.1 b := fun b hb => (b3.2.2 b (by simp [hb])).1
  have e' : ∀ b, b ≠ 190 → B.2.2.1 b = S.2.2.1 b := fun b hb => (b3.2.2 b (by simp [hb])).2
  refine ⟨B, b1, b2, b3, hB, fun m => ?_⟩
  have h1 : rfC (ss B 189 P m) p := rfC_e hB rfl rfl
  have h2 : (ss B 189 P m).2.2.1 220 = LL n := by
    show B.2.2.1 220 = _
    rw [e' 220 (by decide)]; exact hn
  refine ⟨_, q_aside h1 h2, ?_, rfC_e h1 rfl rfl, ?_, h2, ?_⟩
  · intro k hk
    show asd n (B.2.2.1 224) 80 k = _
    unfold asd
    rw [if_pos hk]
  · refine RMb_e hM b3.1 b3.2.1 (fun k hk => ?_) ?_ ?_ ?_
    · show B.2.1 216 k = _
      rw [e 216 (by decide)]
    · show B.2.1 217 = _
      rw [e 217 (by decide)]
    · show B.2.1 218 = _
      rw [e 218 (by decide)]
    · show B.2.1 219 = _
      rw [e 219 (by decide)]
  · refine Inv_q h ?_ ?_
    · refine fr.tr (b3.mono (fun a ha => ?_)) (fr.tr (fr.rowI (by decide)) (fr.rowJ (by decide)))
      simp only [beq_eq_false_iff_ne]
      intro z
      rw [z] at ha
      exact absurd ha (by decide)
    · intro k hk
      refine ⟨?_, ?_⟩
      · show slF P m k = 0
        unfold slF
        rw [if_neg (by omega), if_neg (by omega), if_neg (by omega), if_neg (by omega), if_neg (by omega), if_neg (by omega), if_neg (by omega)]
      · show B.2.1 191 k = 0
        rw [e 191 (by decide)]; exact ht 191 (by decide) (by decide +kernel) k hk
