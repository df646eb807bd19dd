/-- the rooms of the first i hours -/
def viA (P : Pal) (n : Nat → Nat) : Nat → Nat
  | 0 => 0
  | i + 1 => viA P n i ||| 2 ^ gonN P i n 2
theorem viA_lt {P : Pal} (hP : wfP P) (h0 : 0 < rms P) {n : Nat → Nat} {hh : Nat} (hw : wfN P hh n) : ∀ i, viA P n i < 2 ^ 8
  | 0 => Nat.two_pow_pos 8
  | i + 1 => by
    have := gon_2 hP h0 hw i
    have hr := hP.1
    rw [viA]
    exact Nat.or_lt_two_pow (viA_lt hP h0 hw i) (Nat.pow_lt_pow_right (by decide) (by omega))
theorem vi_7 {P : Pal} (hP : wfP P) (h0 : 0 < rms P) {n : Nat → Nat} {hh q : Nat} (hw : wfN P hh n) (hq : q < pts P) : ∀ i, (gonN P i n 7).testBit q = ((n 7).testBit q || (viA P n i).testBit (n (26 + q)))
  | 0 => by simp [gonN, viA]
  | i + 1 => by
    have h2 := gon_2 hP h0 hw i
    have hr := hP.1
    have h6 := hP.2.2.1
    have e26 : gonN P i n (26 + q) = n (26 + q) := gon_at hP h0 hw (by omega) (by omega) (by omega) (by omega) (by omega) (by omega) (by omega) (by omega) i
    rw [gon_succ, gb_7 hq (by omega) h6, vi_7 hP h0 hw hq i, e26, viA, Nat.testBit_or, Nat.testBit_two_pow, Bool.or_assoc]
    congr 2
    by_cases z : n (26 + q) = gonN P i n 2
    · simp [z]
    · have z' : ¬ gonN P i n 2 = n (26 + q) := fun e => z e.symm
      simp [z, z']
def whA (P : Pal) (g : Nat → Bool) : Nat → Nat
  | 0 => 0
  | k + 1 => whA P g k + (if g k then wor P k else 0)
theorem whA_le {P : Pal} (hP : wfP P) {g : Nat → Bool} : ∀ k, k ≤ pts P → whA P g k ≤ 99 * k
  | 0, _ => Nat.le_refl _
  | k + 1, h => by
    have := whA_le hP (g := g) k (by omega)
    have := hP.2.2.2.2.2 k (by omega)
    rw [whA]
    split <;> omega
theorem whA_congr {P : Pal} {g g' : Nat → Bool} : ∀ k, (∀ q, q < k → g q = g' q) → whA P g k = whA P g' k
  | 0, _ => rfl
  | k + 1, h => by rw [whA, whA, h k (by omega), whA_congr k (fun q hq => h q (by omega))]
theorem c_worth_b {T : Mem} {p : Nat} {P : Pal} {n : Nat → Nat} {v : Nat} (hP : wfP P) (hw : wfN P 9060 n) (hR : rfC T p) (hPa : PaR T p P) (h4 : T.2.1 13 4 = nI (n 7)) (hch : ∀ k, k < pts P → T.2.1 22 k = nI (n (26 + k))) (hv : v < 2 ^ 8) : ∀ m k fu, pts P = k + m → m < fu → f_X8_worthToHear_b4 T fu 0 (nI v) (nI (whA P (fun q => !(n 7).testBit q && v.testBit (n (26 + q))) k)) (nI k) = some (nI (whA P (fun q => !(n 7).testBit q && v.testBit (n (26 + q))) (pts P))) := by
  have h6 := hP.2.2.1
  have hS := hR.1
  obtain ⟨w0, w1, w2, w3, w4, w5, w6, w7, w8, w9, wn, wg, wc⟩ := wfb hP hw
  intro m
  induction m with
  | zero =>
    intro k fu hk hf
    obtain ⟨fu, rfl⟩ : ∃ z, fu = z + 1 := ⟨fu - 1, by omega⟩
    rw [f_X8_worthToHear_b4]
    refine bs (r_0_1 hR) (bs (a := nI (pts P)) (by rw [g_p hS hR.2.1, hPa.2.2.1]) (bp ((nI_leI (by omega) (by omega)).mpr (by omega)) ?_))
    rw [show k = pts P by omega]
  | succ m ih =>
    intro k fu hk hf
    obtain ⟨fu, rfl⟩ : ∃ z, fu = z + 1 := ⟨fu - 1, by omega⟩
    have ih := ih (k + 1) fu (by omega) (by omega)
    have wk := wc k (by omega)
    rw [whA] at ih
    rw [f_X8_worthToHear_b4]
    refine bs (r_0_1 hR) (bs (a := nI (pts P)) (by rw [g_p hS hR.2.1, hPa.2.2.1]) (bn (fun z => by have := (nI_leI (by omega) (by omega)).mp z; omega) (bs (r_0_2 hR) (bs (a := nI (n 7)) (by rw [g_13 hS, h4]) ?_))))
    rw [c_bit (by omega) (by omega)]
    cases b7 : (n 7).testBit k with
    | true =>
      simp only [b7, Bool.not_true, Bool.false_and, Bool.false_eq_true, if_false, Nat.add_zero] at ih
      refine bn nI10 ?_
      rw [f_X8_worthToHear_b58, Option.bind_some, zi 1, nI_add]; exact ih
    | false =>
      refine bp nI00 (bs (r_0_2 hR) (bs (r_13_7 hR) (bs (a := nI (n (26 + k))) (by rw [ld_22 hS (by omega), hch k (by omega)]) ?_)))
      rw [c_bit (by omega) (by omega)]
      cases bv : v.testBit (n (26 + k)) with
      | true =>
        simp only [b7, bv, Bool.not_false, Bool.true_and, if_true] at ih
        refine bp rfl (bs (r_0_1 hR) (bs (r_p_10 hR hR.2.1) (bs (a := nI (wor P k)) (by rw [ld_p4 hS hR.2.1 (by omega), hPa.2.2.2.2.2 k (by omega)]) ?_)))
        rw [Option.bind_some, f_X8_worthToHear_b58, Option.bind_some, zi 1, nI_add, nI_add]; exact ih
      | false =>
        simp only [b7, bv, Bool.not_false, Bool.true_and, Bool.false_eq_true, if_false, Nat.add_zero] at ih
        refine bn (by decide +kernel) ?_
        rw [f_X8_worthToHear_b58, Option.bind_some, zi 1, nI_add]; exact ih
theorem m_worth_b {M : Mem} {p : Nat} {P : Pal} {n m' : Nat → Nat} (hM : RMb M P) (hR : rfC M p) (hw : wfN P 9060 n) (hw' : wfN P 9160 m') (h4 : ∀ k, k < 80 → M.2.2.1 224 k = lN (n k)) (hi : ∀ k, 80 ≤ k → m' k = n k) : ∀ m k fu, pts P = k + m → m < fu → f_X9_willHear_b38 fu 216 (nI (whA P (fun q => (m' 7).testBit q && !(n 7).testBit q) k)) (nI k) (sn M m') = some (nI (whA P (fun q => (m' 7).testBit q && !(n 7).testBit q) (pts P)), sn M n) := by
  have hP := hM.2.2.2.2.2.2.2
  have h6 := hP.2.2.1
  have hS := hR.1
  obtain ⟨w0, w1, w2, w3, w4, w5, w6, w7, w8, w9, wn, wg, wc⟩ := wfb hP hw
  obtain ⟨v0, v1, v2, v3, v4, v5, v6, v7, v8, v9, vn, vg, vc⟩ := wfb hP hw'
  have ep : gI 9 3 (sn M m') 216 = some (nI (pts P)) := by rw [mgI (by exact hS)]; exact congrArg some hM.2.2.2.1
  intro m
  induction m with
  | zero =>
    intro k fu hk hf
    obtain ⟨fu, rfl⟩ : ∃ z, fu = z + 1 := ⟨fu - 1, by omega⟩
    rw [f_X9_willHear_b38]
    refine bs ep (bp ((nI_leI (by omega) (by omega)).mpr (by omega)) (bs (mck (by exact hS)) (bs (q_back hR h4 hi) ?_)))
    rw [show k = pts P by omega]
  | succ m ih =>
    intro k fu hk hf
    obtain ⟨fu, rfl⟩ : ∃ z, fu = z + 1 := ⟨fu - 1, by omega⟩
    have ih := ih (k + 1) fu (by omega) (by omega)
    rw [whA] at ih
    rw [f_X9_willHear_b38]
    refine bs ep (bn (fun z => by have := (nI_leI (by omega) (by omega)).mp z; omega) (bs (R_7 (rfC_e hR rfl rfl)) (bs (a := lN (m' 7)) (sn_ld hS (by decide)) (bs (m_has (by omega) (by omega)) ?_))))
    cases b7 : (m' 7).testBit k with
    | false =>
      simp only [b7, Bool.false_and, Bool.false_eq_true, if_false, Nat.add_zero] at ih
      refine bp nI00 ?_
      rw [f_X9_willHear_b84, f_X9_willHear_b85, Option.bind_some, Option.bind_some, zi 0, zi 1, nI_add, nI_add]; exact ih
    | true =>
      refine bn nI10 (bs (R_17 (rfC_e hR rfl rfl)) (bs (a := lN (n 7)) (by rw [zi 7, ld_224 (by exact hS) (by decide)]; exact congrArg some (h4 7 (by decide))) (bs (m_has (by omega) (by omega)) ?_)))
      cases bv : (n 7).testBit k with
      | false =>
        simp only [b7, bv, Bool.not_false, Bool.true_and, if_true] at ih
        refine bp nI00 (bs (R_6 (rfC_e hR rfl rfl)) (bs (a := nI (wor P k)) (by rw [ld_219 (by exact hS) (by omega)]; exact congrArg some (hM.2.2.2.2.2.2.1 k (by omega))) ?_))
        rw [f_X9_willHear_b85, Option.bind_some, Option.bind_some, zi 1, nI_add, nI_add]; exact ih
      | true =>
        simp only [b7, bv, Bool.not_true, Bool.and_false, Bool.false_eq_true, if_false, Nat.add_zero] at ih
        refine bn nI10 ?_
        rw [f_X9_willHear_b84, f_X9_willHear_b85, Option.bind_some, Option.bind_some, zi 0, zi 1, nI_add, nI_add]; exact ih
theorem op_25 (x y : Int32) (S : Mem) (h : Inv S) : ∃ S1, sk_25 x y S = some S1 ∧ Inv S1 := by
  obtain ⟨p, P, n, hR, hPa, hst, ht, hM, hn, hw, -⟩ := Inv_x h
  have hS := hR.1
  have hP := hM.2.2.2.2.2.2.2
  have hr8 := hP.1
  have h6 := hP.2.2.1
  have n1 : ¬ x ≤ nI 100 ↔ nI 100 < x := by rw [Int32.le_iff_toInt_le, Int32.lt_iff_toInt_lt]; omega
  have g1 : nI 101 ≤ x ↔ nI 100 < x := by rw [Int32.le_iff_toInt_le, Int32.lt_iff_toInt_lt, nI_toInt (by omega), nI_toInt (by omega)]; omega
  have ep : gI 2 2 S p = some (nI (rms P)) := by rw [g_p hS hR.2.1, hPa.1]
  rcases tri x (r := 101) (by omega) with hx | ⟨k, hk, rfl⟩
  · rw [g1] at hx
    refine ⟨_, pick2 (v := -1000000002) (S1 := S) (S2 := S) ?_ ?_ hS hS, h⟩
    · unfold f_X8_willHear
      by_cases hl : x < (1 : Int32)
      · exact bp hl rfl
      · refine bn hl (bn (show ¬ x ≤ (100 : Int32) from n1.mpr (hx.resolve_left (fun z => hl ?_))) rfl)
        have a := Int32.lt_iff_toInt_lt.mp z
        rw [Int32.lt_iff_toInt_lt]
        have b : (1 : Int32).toInt = 1 := by decide
        have c : (0 : Int32).toInt = 0 := by decide
        omega
    · unfold f_X9_willHear
      exact bs (in_k0 (a := 1) (b := 100) (by omega) (by omega) hx) (bp nI00 rfl)
  · by_cases hk0 : k = 0
    · refine ⟨_, pick2 (v := -1000000002) (S1 := S) (S2 := S) ?_ ?_ hS hS, h⟩
      · unfold f_X8_willHear
        exact bp (by rw [hk0]; decide +kernel) rfl
      · unfold f_X9_willHear
        exact bs (a := nI 0) ((in_kj (j := k) (a := 1) (b := 100) (by omega) (by omega) (by omega)).trans (by rw [if_neg (by omega)])) (bp nI00 rfl)
    · have a1 : ¬ nI k < (1 : Int32) := by rw [zi 1, nI_ltI (by omega) (by omega)]; omega
      have a2 : nI k ≤ (100 : Int32) := by rw [zi 100, nI_leI (by omega) (by omega)]; omega
      have i1 : f_X9_in (nI k).toInt64 (lN 1) (lN 100) = some (nI 1) := (in_kj (j := k) (a := 1) (b := 100) (by omega) (by omega) (by omega)).trans (by rw [if_pos (by omega)])
      by_cases h0 : rms P = 0
      · refine ⟨_, pick2 (v := -1000000003) (S1 := S) (S2 := S) ?_ ?_ hS hS, h⟩
        · unfold f_X8_willHear
          exact bn a1 (bp a2 (bs (r_0_1 hR) (bs ep (bp ((r0_eq hr8).mpr h0) rfl))))
        · unfold f_X9_willHear
          exact bs i1 (bn nI10 (bs (mgI hS 1) (bp (by rw [hM.2.1]; exact (r0_eq hr8).mpr h0) rfl)))
      · have h0' : 0 < rms P := by omega
        obtain ⟨B, b1, b2, b3, b4, b5⟩ := q_run h hR hst ht hM hn
        obtain ⟨M, q1, q2, q3, q4, q5, q6⟩ := b5 (gonN P k n)
        have eB : ∀ b, b ≠ 190 → B.2.1 b = S.2.1 b := fun b hb => (b3.2.2 b (by simp [hb])).1
        have hvk := viA_lt hP h0' hw k
        have hw2 := c_worth_b (T := ss B 189 P (gonN P k n)) (v := viA P n k) hP hw (rfC_e b4 rfl rfl)
          (by
            obtain ⟨p1, p2, p3, p4, p5, p6⟩ := hPa
            have hp := hR.2.1
            have ee : ∀ b, p ≤ b → b ≤ p + 4 → (ss B 189 P (gonN P k n)).2.1 b = S.2.1 b := fun b h1 h2 => by
              show (if b = 189 then _ else B.2.1 b) = _
              rw [if_neg (by omega), eB b (by omega)]
            exact ⟨by rw [ee p (by omega) (by omega)]; exact p1, by rw [ee p (by omega) (by omega)]; exact p2, by rw [ee p (by omega) (by omega)]; exact p3, fun d hd => by rw [ee _ (by omega) (by omega)]; exact p4 d hd, fun d hd => by rw [ee _ (by omega) (by omega)]; exact p5 d hd, fun d hd => by rw [ee _ (by omega) (by omega)]; exact p6 d hd⟩)
          (by show B.2.1 13 4 = _; rw [eB 13 (by decide)]; exact hst.1.2.2.1)
          (fun k hk => by show B.2.1 22 k = _; rw [eB 22 (by decide)]; exact hst.2.2.2.2.2 k hk) hvk (pts P) 0 FU (by omega) (by unfold FU; omega)
        have L : ∀ m i fu, k = i + m → m < fu → f_X8_willHear_b45 fu 0 (nI k) (nI (viA P n i)) (nI i) (ss B 189 P (gonN P i n)) = some (nI (whA P (fun q => !(n 7).testBit q && (viA P n k).testBit (n (26 + q))) (pts P)), ss B 189 P (gonN P k n)) := by
          intro m
          induction m with
          | zero =>
            intro i fu hi hf
            obtain ⟨fu, rfl⟩ : ∃ z, fu = z + 1 := ⟨fu - 1, by omega⟩
            obtain rfl : k = i := by omega
            rw [f_X8_willHear_b45]
            exact bp ((nI_leI (by omega) (by omega)).mpr (by omega)) (bs (c_0 (by exact b4.1)) (bs hw2 rfl))
          | succ m ih =>
            intro i fu hi hf
            obtain ⟨fu, rfl⟩ : ∃ z, fu = z + 1 := ⟨fu - 1, by omega⟩
            obtain ⟨t1, t2, t3, t4⟩ := sl_try hP hw h0' b2 b4 i
            have := gon_2 hP h0' hw i
            have ih := ih (i + 1) fu (by omega) (by omega)
            rw [viA, ← z_or] at ih
            rw [f_X8_willHear_b45]
            refine bn (fun z => by have := (nI_leI (by omega) (by omega)).mp z; omega) (bs t1 (bs t3 ?_))
            rw [Option.bind_some, zi 1, z_shl _ (by omega), Nat.one_mul]
            refine bs t1 (bs t2 (bs t4 ?_))
            rw [Option.bind_some, nI_add]
            exact ih
        have e1 : M = sn M n := (sn_self q5).symm
        have e2 : f_X9_goesOn 216 (nI k) M = some (sn M (gonN P k n)) := by
          have := m_goesOn (n := n) q4 h0' (k := k) (by omega) hw (by omega)
          rwa [← e1] at this
        have e5 : (ss B 189 P (gonN P k n)).2.1 216 1 = nI (rms P) := by
          show B.2.1 216 1 = _
          rw [(b3.2.2 216 (by decide)).1]; exact hM.2.1
        have e6 := m_worth_b q4 q3 hw (wf_mono (gon_wf hP h0' hw k) (by omega)) q2 (fun j hj => gon_hi hP h0' hw hj k) (pts P) 0 FU (by omega) (by unfold FU; omega)
        rw [← e1] at e6
        have e7 : whA P (fun q => (gonN P k n 7).testBit q && !(n 7).testBit q) (pts P) = whA P (fun q => !(n 7).testBit q && (viA P n k).testBit (n (26 + q))) (pts P) := by
          refine whA_congr _ (fun q hq => ?_)
          rw [vi_7 hP h0' hw hq k]
          cases (n 7).testBit q <;> cases (viA P n k).testBit (n (26 + q)) <;> rfl
        rw [e7] at e6
        refine ⟨_, pick2 (v := nI (whA P (fun q => !(n 7).testBit q && (viA P n k).testBit (n (26 + q))) (pts P))) (S1 := ss B 189 P (gonN P k n)) (S2 := M) ?_ ?_ hS b4.1, q6⟩
        · unfold f_X8_willHear
          exact bn a1 (bp a2 (bs (r_0_1 hR) (bs ep (bn (fun z => h0 ((r0_eq hr8).mp z)) (bs (r_0_7 hR) (bs (r_0_2 hR) (bs (r_13_0 hR) (bs (c_189 hS) (bs b1 (L k 0 FU (by omega) (by unfold FU; omega)))))))))))
        · unfold f_X9_willHear
          exact bs i1 (bn nI10 (bs (mgI (by exact b4.1) 1) (bn (by rw [e5]; exact fun z => h0 ((r0_eq hr8).mp z)) (bs (mck (by exact b4.1)) (bs q1 (bs (mck q3.1) (bs e2 e6)))))))
