theorem fwr_t {g : Nat → Bool} {k m : Nat} (h : g k = true) : fwr g k (m + 1) = nI k := by rw [fwr, if_pos h]
theorem fwr_f {g : Nat → Bool} {k m : Nat} (h : g k = false) : fwr g k (m + 1) = fwr g (k + 1) m := by rw [fwr, if_neg (by rw [h]; decide)]
def hmA (P : Pal) (n : Nat → Nat) (j : Nat) : Nat → Bool := fun i => decide (gonN P i n 2 = j)
theorem c_until_b {B : Mem} {p : Nat} {P : Pal} {n : Nat → Nat} (hP : wfP P) (hw : wfN P 9060 n) (h0 : 0 < rms P) (hB : SLb B 189 P (n 6)) (hR : rfC B p) {j b : Nat} (hj : j < 8) (hb : b ≤ 100) : ∀ m i fu, b = i + m → m < fu → ∃ e, f_X8_hoursUntil_b2 fu 0 (nI j) (nI b) (nI i) (ss B 189 P (gonN P i n)) = some (fwr (hmA P n j) i (m + 1), ss B 189 P (gonN P e n)) := by
  have hr8 := hP.1
  intro m
  induction m with
  | zero =>
    intro i fu hi hf
    obtain ⟨fu, rfl⟩ : ∃ z, fu = z + 1 := ⟨fu - 1, by omega⟩
    obtain ⟨t1, t2, t3, t4⟩ := sl_try hP hw h0 hB hR i
    have := gon_2 hP h0 hw i
    refine ⟨i, ?_⟩
    rw [show b = i by omega, f_X8_hoursUntil_b2]
    refine bp ((nI_leI (by omega) (by omega)).mpr (by omega)) (bs t1 (bs t3 ?_))
    simp only [fwr, hmA]
    by_cases q : gonN P i n 2 = j
    · rw [if_pos (by rw [q])]; simp [q]
    · rw [if_neg (fun z => q ((nI_eq (by omega) (by omega)).mp z))]; simp [q]
  | succ m ih =>
    intro i fu hi hf
    obtain ⟨fu, rfl⟩ : ∃ z, fu = z + 1 := ⟨fu - 1, by omega⟩
    obtain ⟨t1, t2, t3, t4⟩ := sl_try hP hw h0 hB hR i
    have := gon_2 hP h0 hw i
    by_cases q : gonN P i n 2 = j
    · refine ⟨i, ?_⟩
      rw [f_X8_hoursUntil_b2]
      refine bn (fun z => by have := (nI_leI (by omega) (by omega)).mp z; omega) (bs t1 (bs t3 (bp (by rw [q]) ?_)))
      rw [fwr, if_pos (by simp [hmA, q])]
    · obtain ⟨e, he⟩ := ih (i + 1) fu (by omega) (by omega)
      refine ⟨e, ?_⟩
      rw [f_X8_hoursUntil_b2]
      refine bn (fun z => by have := (nI_leI (by omega) (by omega)).mp z; omega) (bs t1 (bs t3 (bn (fun z => q ((nI_eq (by omega) (by omega)).mp z)) (bs t1 (bs t2 (bs t4 ?_))))))
      rw [Option.bind_some, zi 1, nI_add, he, fwr_f (k := i) (by simp [hmA, q])]
theorem m_whenIn_b {M : Mem} {p : Nat} {P : Pal} {n n0 : Nat → Nat} (hM : RMb M P) (hR : rfC M p) (hw : wfN P 9060 n) (h0 : 0 < rms P) (h4 : ∀ k, k < 80 → M.2.2.1 224 k = lN (n0 k)) (hi8 : ∀ k, 80 ≤ k → n k = n0 k) {j b : Nat} (hj : j < 8) (hb : b ≤ 100) : ∀ m i fu, b + 1 = i + m → m < fu → ∃ v, v ≤ b + 1 ∧ f_X9_whenIn_b2 fu 216 (nI j) (nI b) (nI i) (sn M (gonN P i n)) = some (nI v, sn M n0) ∧ fwr (hmA P n j) i m = if v ≤ b then nI v else -1 := by
  have hP := hM.2.2.2.2.2.2.2
  have hr8 := hP.1
  have hbk : ∀ i, f_X9_backs 216 (sn M (gonN P i n)) = some (sn M n0) := fun i => q_back hR h4 (fun k hk => by rw [gon_hi hP h0 hw hk i]; exact hi8 k hk)
  intro m
  induction m with
  | zero =>
    intro i fu hi hf
    obtain ⟨fu, rfl⟩ : ∃ z, fu = z + 1 := ⟨fu - 1, by omega⟩
    refine ⟨i, by omega, ?_, ?_⟩
    · rw [f_X9_whenIn_b2]
      exact bp ((nI_ltI (by omega) (by omega)).mpr (by omega)) (bs (mck (by exact hR.1)) (bs (hbk i) rfl))
    · rw [if_neg (by omega)]; rfl
  | succ m ih =>
    intro i fu hi hf
    obtain ⟨fu, rfl⟩ : ∃ z, fu = z + 1 := ⟨fu - 1, by omega⟩
    have := gon_2 hP h0 hw i
    have ea : f_X9_at 216 (nI 2) (sn M (gonN P i n)) = some (nI (gonN P i n 2)) := m_at hM.1 (by decide)
    by_cases q : gonN P i n 2 = j
    · refine ⟨i, by omega, ?_, ?_⟩
      · rw [f_X9_whenIn_b2]
        exact bn (fun z => by have := (nI_ltI (by omega) (by omega)).mp z; omega) (bs (mck (by exact hR.1)) (bs ea (bp (by rw [q]) (bs (mck (by exact hR.1)) (bs (hbk i) rfl)))))
      · rw [fwr, if_pos (by simp [hmA, q]), if_pos (by omega)]
    · obtain ⟨v, v1, v2, v3⟩ := ih (i + 1) fu (by omega) (by omega)
      refine ⟨v, v1, ?_, ?_⟩
      · rw [f_X9_whenIn_b2]
        refine bn (fun z => by have := (nI_ltI (by omega) (by omega)).mp z; omega) (bs (mck (by exact hR.1)) (bs ea (bn (fun z => q ((nI_eq (by omega) (by omega)).mp z)) (bs (mck (by exact hR.1)) (bs (m_try hM hw h0 (by omega)) ?_)))))
        rw [Option.bind_some, zi 1, nI_add]; exact v2
      · rw [fwr, if_neg (by simp [hmA, q])]; exact v3
theorem op_18 (x y : Int32) (S : Mem) (h : Inv S) : ∃ S1, sk_18 x y S = some S1 ∧ Inv S1 := by
  obtain ⟨p, P, n, hR, hPa, hst, ht, hM, hn, hw, -⟩ := Inv_x h
  have hS := hR.1
  have hP := hM.2.2.2.2.2.2.2
  have hr8 := hP.1
  rcases tri x (r := rms P) (by omega) with hx | ⟨j, hj, rfl⟩
  · refine ⟨_, pick2 (v := -1000000001) (S1 := S) (S2 := S) ?_ ?_ hS hS, h⟩
    · unfold f_X8_when
      exact bs (c_0 hS) (bs (c_noRoom1 hR hPa.1 hr8 hx) (bn nI10 rfl))
    · unfold f_X9_when
      exact bs (mck hS) (bs (m_isRoom0 hS hM.2.1 hr8 hx) (bp nI00 rfl))
  · have h0' : 0 < rms P := by omega
    obtain ⟨B, b1, b2, b3, b4, b5⟩ := q_run h hR hst ht hM hn
    obtain ⟨e, he⟩ := c_until_b hP hw h0' b2 b4 (j := j) (b := 100) (by omega) (by omega) 100 0 FU (by omega) (by unfold FU; omega)
    obtain ⟨M, q1, q2, q3, q4, q5, q6⟩ := b5 (gonN P e n)
    obtain ⟨v, v1, v2, v3⟩ := m_whenIn_b q4 q3 hw h0' q2 (fun k hk => rfl) (j := j) (b := 100) (by omega) (by omega) 101 0 FU (by omega) (by unfold FU; omega)
    have e1 : sn M n = M := sn_self q5
    have v2 : f_X9_whenIn 216 (nI j) (nI 100) M = some (nI v, M) := by
      unfold f_X9_whenIn
      have : sn M (gonN P 0 n) = M := e1
      rw [this, e1] at v2
      exact v2
    have e5 : (ss B 189 P (gonN P e n)).2.1 216 1 = nI (rms P) := by
      show B.2.1 216 1 = _
      rw [(b3.2.2 216 (by decide)).1]; exact hM.2.1
    refine ⟨_, pick2 (v := fwr (hmA P n j) 0 101) (S1 := ss B 189 P (gonN P e n)) (S2 := M) ?_ ?_ hS b4.1, q6⟩
    · unfold f_X8_when
      exact bs (c_0 hS) (bs (c_noRoom0 hR hPa.1 hr8 hj) (bp nI00 (bs (r_0_7 hR) (bs (r_0_2 hR) (bs (r_13_0 hR) (bs (c_189 hS) (bs b1 (bs (c_0 (by exact b4.1)) (bs he rfl)))))))))
    · unfold f_X9_when
      refine bs (mck (by exact b4.1)) (bs (m_isRoom1 (by exact b4.1) e5 hr8 hj) (bn nI10 (bs (mck (by exact b4.1)) (bs q1 (bs (mck q3.1) (bs v2 ?_))))))
      rw [v3]
      by_cases q : v ≤ 100
      · rw [if_pos q, if_pos (show nI v ≤ (100 : Int32) by rw [zi 100, nI_leI (by omega) (by omega)]; exact q)]
      · rw [if_neg q, if_neg (show ¬ nI v ≤ (100 : Int32) by rw [zi 100, nI_leI (by omega) (by omega)]; exact q)]
/-- how many of the first i hours j is governed in -/
def cnA (P : Pal) (n : Nat → Nat) (j : Nat) : Nat → Nat
  | 0 => 0
  | i + 1 => cnA P n j i + (if gonN P i n 2 = j then 1 else 0)
theorem cnA_le {P : Pal} {n : Nat → Nat} {j : Nat} : ∀ i, cnA P n j i ≤ i
  | 0 => Nat.le_refl _
  | i + 1 => by have := cnA_le (P := P) (n := n) (j := j) i; rw [cnA]; split <;> omega
theorem cnA_18 {P : Pal} (hP : wfP P) (h0 : 0 < rms P) {n : Nat → Nat} {hh j : Nat} (hw : wfN P hh n) (hj : j < 8) : ∀ i, gonN P i n (18 + j) = n (18 + j) + cnA P n j i
  | 0 => rfl
  | i + 1 => by
    have := gon_2 hP h0 hw i
    have hr := hP.1
    rw [gon_succ, gb_18 hj (by omega), cnA_18 hP h0 hw hj i, cnA]; omega
theorem op_19 (x y : Int32) (S : Mem) (h : Inv S) : ∃ S1, sk_19 x y S = some S1 ∧ Inv S1 := by
  obtain ⟨p, P, n, hR, hPa, hst, ht, hM, hn, hw, -⟩ := Inv_x h
  have hS := hR.1
  have hP := hM.2.2.2.2.2.2.2
  have hr8 := hP.1
  have n1 : ¬ y ≤ nI 100 ↔ nI 100 < y := by rw [Int32.le_iff_toInt_le, Int32.lt_iff_toInt_lt]; omega
  have g1 : nI 101 ≤ y ↔ nI 100 < y := by rw [Int32.le_iff_toInt_le, Int32.lt_iff_toInt_lt, nI_toInt (by omega), nI_toInt (by omega)]; omega
  rcases tri x (r := rms P) (by omega) with hx | ⟨j, hj, rfl⟩
  · refine ⟨_, pick2 (v := -1000000001) (S1 := S) (S2 := S) ?_ ?_ hS hS, h⟩
    · unfold f_X8_governed
      exact bs (c_0 hS) (bs (c_noRoom1 hR hPa.1 hr8 hx) (bn nI10 rfl))
    · unfold f_X9_governed
      exact bs (mck hS) (bs (m_isRoom0 hS hM.2.1 hr8 hx) (bp nI00 rfl))
  · have h0' : 0 < rms P := by omega
    rcases tri y (r := 101) (by omega) with hy | ⟨k, hk, rfl⟩
    · rw [g1] at hy
      refine ⟨_, pick2 (v := -1000000002) (S1 := S) (S2 := S) ?_ ?_ hS hS, h⟩
      · unfold f_X8_governed
        refine bs (c_0 hS) (bs (c_noRoom0 hR hPa.1 hr8 hj) (bp nI00 ?_))
        by_cases hl : y < (1 : Int32)
        · exact bp hl rfl
        · refine bn hl (bn (show ¬ y ≤ (100 : Int32) from n1.mpr (hy.resolve_left (fun z => hl ?_))) rfl)
          have a := Int32.lt_iff_toInt_lt.mp z
          rw [Int32.lt_iff_toInt_lt]
          have b : (1 : Int32).toInt = 1 := by decide
          have c : (0 : Int32).toInt = 0 := by decide
          omega
      · unfold f_X9_governed
        exact bs (mck hS) (bs (m_isRoom1 hS hM.2.1 hr8 hj) (bn nI10 (bs (in_k0 (a := 1) (b := 100) (by omega) (by omega) hy) (bp nI00 rfl))))
    · by_cases hk0 : k = 0
      · refine ⟨_, pick2 (v := -1000000002) (S1 := S) (S2 := S) ?_ ?_ hS hS, h⟩
        · unfold f_X8_governed
          exact bs (c_0 hS) (bs (c_noRoom0 hR hPa.1 hr8 hj) (bp nI00 (bp (by rw [hk0]; decide +kernel) rfl)))
        · unfold f_X9_governed
          exact bs (mck hS) (bs (m_isRoom1 hS hM.2.1 hr8 hj) (bn nI10 (bs (a := nI 0) ((in_kj (j := k) (a := 1) (b := 100) (by omega) (by omega) (by omega)).trans (by rw [if_neg (by omega)])) (bp nI00 rfl))))
      · obtain ⟨B, b1, b2, b3, b4, b5⟩ := q_run h hR hst ht hM hn
        have L : ∀ m i fu, k = i + m → m < fu → f_X8_governed_b44 fu 0 (nI j) (nI k) (nI (cnA P n j i)) (nI i) (ss B 189 P (gonN P i n)) = some (nI (cnA P n j k), ss B 189 P (gonN P k n)) := by
          intro m
          induction m with
          | zero =>
            intro i fu hi hf
            obtain ⟨fu, rfl⟩ : ∃ z, fu = z + 1 := ⟨fu - 1, by omega⟩
            rw [show k = i by omega, f_X8_governed_b44]
            exact bp ((nI_leI (by omega) (by omega)).mpr (by omega)) rfl
          | succ m ih =>
            intro i fu hi hf
            obtain ⟨fu, rfl⟩ : ∃ z, fu = z + 1 := ⟨fu - 1, by omega⟩
            obtain ⟨t1, t2, t3, t4⟩ := sl_try hP hw h0' b2 b4 i
            have := gon_2 hP h0' hw i
            have ih := ih (i + 1) fu (by omega) (by omega)
            rw [cnA] at ih
            rw [f_X8_governed_b44]
            refine bn (fun z => by have := (nI_leI (by omega) (by omega)).mp z; omega) (bs t1 (bs t3 ?_))
            by_cases q : gonN P i n 2 = j
            · rw [if_pos q] at ih
              refine bp (by rw [q]) ?_
              rw [Option.bind_some, zi 1, nI_add]
              refine bs t1 (bs t2 (bs t4 ?_))
              rw [Option.bind_some, zi 1, nI_add]; exact ih
            · rw [if_neg q] at ih
              refine bn (fun z => q ((nI_eq (by omega) (by omega)).mp z)) ?_
              refine bs t1 (bs t2 (bs t4 ?_))
              rw [Option.bind_some, zi 1, nI_add]; exact ih
        obtain ⟨M, q1, q2, q3, q4, q5, q6⟩ := b5 (gonN P k n)
        have e1 : M = sn M n := (sn_self q5).symm
        have e2 : f_X9_goesOn 216 (nI k) M = some (sn M (gonN P k n)) := by
          have := m_goesOn (n := n) q4 h0' (k := k) (by omega) hw (by omega)
          rwa [← e1] at this
        have e3 : f_X9_backs 216 (sn M (gonN P k n)) = some M := by
          rw [q_back q3 q2 (fun j hj => gon_hi hP h0' hw hj k), ← e1]
        have e5 : (ss B 189 P (gonN P k n)).2.1 216 1 = nI (rms P) := by
          show B.2.1 216 1 = _
          rw [(b3.2.2 216 (by decide)).1]; exact hM.2.1
        have hc := cnA_le (P := P) (n := n) (j := j) k
        have wg := (wfb hP hw).2.2.2.2.2.2.2.2.2.2.2.1 j (by omega)
        refine ⟨_, pick2 (v := nI (cnA P n j k)) (S1 := ss B 189 P (gonN P k n)) (S2 := M) ?_ ?_ hS b4.1, q6⟩
        · unfold f_X8_governed
          exact bs (c_0 hS) (bs (c_noRoom0 hR hPa.1 hr8 hj) (bp nI00 (bn (by rw [zi 1, nI_ltI (by omega) (by omega)]; omega) (bp (by rw [zi 100, nI_leI (by omega) (by omega)]; omega) (bs (r_0_7 hR) (bs (r_0_2 hR) (bs (r_13_0 hR) (bs (c_189 hS) (bs b1 (L k 0 FU (by omega) (by unfold FU; omega)))))))))))
        · unfold f_X9_governed
          refine bs (mck (by exact b4.1)) (bs (m_isRoom1 (by exact b4.1) e5 hr8 hj) (bn nI10 (bs (a := nI 1) ((in_kj (j := k) (a := 1) (b := 100) (by omega) (by omega) (by omega)).trans (by rw [if_pos (by omega)])) (bn nI10 (bs (mck (by exact b4.1)) (bs q1 (bs (mck q3.1) (bs e2 (bs (R_7 (rfC_e q3 rfl rfl)) (bs (a := lN (n (18 + j) + cnA P n j k)) ?_ (bs (R_17 (rfC_e q3 rfl rfl)) (bs (a := lN (n (18 + j))) ?_ ?_))))))))))))
          · rw [zi 18, nI_add, sn_ld q3.1 (by omega), cnA_18 hP h0' hw (by omega)]
          · rw [zi 18, nI_add, ld_224 (by exact q3.1) (by omega)]
            exact congrArg some (q2 _ (by omega))
          · have e8 : (lN (n (18 + j) + cnA P n j k) - lN (n (18 + j))).toInt32 = nI (cnA P n j k) := by
              rw [lN_sub (by omega), lN_i]; congr 1; omega
            rw [e8, Option.bind_some]
            exact bs (mck (by exact q3.1)) (bs e3 rfl)
