theorem sl_try {B : Mem} {p : Nat} {P : Pal} {n : Nat → Nat} (hP : wfP P) (hw : wfN P 9060 n) (h0 : 0 < rms P) (hB : SLb B 189 P (n 6)) (hR : rfC B p) (i : Nat) :
    gR 8 7 (ss B 189 P (gonN P i n)) 0 = some 189 ∧ ck 4 (ss B 189 P (gonN P i n)) 189 = some () ∧ gI 4 1 (ss B 189 P (gonN P i n)) 189 = some (nI (gonN P i n 2)) ∧ f_X4_tryHour 189 (ss B 189 P (gonN P i n)) = some (ss B 189 P (gonN P (i + 1) n)) := by
  have e6 : gonN P i n 6 = n 6 := gon_at hP h0 hw (by decide) (by decide) (by decide) (by decide) (by decide) (by decide) (by decide) (by decide) i
  refine ⟨r_0_7 (rfC_e hR rfl rfl), ss_ck hB, ss_gI hB, ?_⟩
  have := c_tryHour (n := gonN P i n) hP (by rw [e6]; exact hB) (gon_wf hP h0 hw i) h0
  rw [this, gon_succ]
theorem m_try {M : Mem} {P : Pal} {n : Nat → Nat} (hM : RMb M P) (hw : wfN P 9060 n) (h0 : 0 < rms P) {i : Nat} (hi : i < 200) : f_X9_goesBy 216 (sn M (gonN P i n)) = some (sn M (gonN P (i + 1) n)) := by
  rw [m_goesBy hM (gon_wf hM.2.2.2.2.2.2.2 h0 hw i) (by omega) h0, gon_succ]
theorem gon_2 {P : Pal} (hP : wfP P) (h0 : 0 < rms P) {n : Nat → Nat} {hh : Nat} (hw : wfN P hh n) (i : Nat) : gonN P i n 2 < rms P := wf_2 (gon_wf hP h0 hw i) h0
/-- none of x hours: both say so -/
theorem r0_eq {P : Pal} (hr : rms P ≤ 8) : nI (rms P) = (0 : Int32) ↔ rms P = 0 := by
  rw [zi 0, nI_eq (by omega) (by omega)]
theorem op_17 (x y : Int32) (S : Mem) (h : Inv S) : ∃ S1, sk_17 x y S = some S1 ∧ Inv S1 := by
  obtain ⟨p, P, n, hR, hPa, hst, ht, hM, hn, hw, -⟩ := Inv_x h
  have hS := hR.1
  have hP := hM.2.2.2.2.2.2.2
  have hr8 := hP.1
  have n1 : ¬ x ≤ nI 100 ↔ nI 100 < x := by rw [Int32.le_iff_toInt_le, Int32.lt_iff_toInt_lt]; omega
  have g1 : nI 101 ≤ x ↔ nI 100 < x := by rw [Int32.le_iff_toInt_le, Int32.lt_iff_toInt_lt, nI_toInt (by omega), nI_toInt (by omega)]; omega
  have ep : gI 2 2 S p = some (nI (rms P)) := by rw [g_p hS hR.2.1, hPa.1]
  rcases tri x (r := 101) (by omega) with hx | ⟨k, hk, rfl⟩
  · rw [g1] at hx
    refine ⟨_, pick2 (v := -1000000002) (S1 := S) (S2 := S) ?_ ?_ hS hS, h⟩
    · unfold f_X8_where
      by_cases h0 : x < 0
      · rw [if_pos h0]
      · rw [if_neg h0, if_neg (show ¬ x ≤ (100 : Int32) from n1.mpr (hx.resolve_left h0))]
    · unfold f_X9_where
      rw [zj 0, zj 100, in_k0 (by omega) (by omega) hx, Option.bind_some, if_pos nI00]
  · have i1 : f_X9_in (nI k).toInt64 (lN 0) (lN 100) = some (nI 1) := by rw [in_kj (by omega) (by omega) (by omega), if_pos (by omega)]
    have a1 : ¬ nI k < 0 := nI_pos (by omega)
    have a2 : nI k ≤ (100 : Int32) := by rw [zi 100, nI_leI (by omega) (by omega)]; omega
    by_cases h0 : rms P = 0
    · refine ⟨_, pick2 (v := -1000000003) (S1 := S) (S2 := S) ?_ ?_ hS hS, h⟩
      · unfold f_X8_where
        exact bn a1 (bp a2 (bs (r_0_1 hR) (bs ep (bp ((r0_eq hr8).mpr h0) rfl))))
      · unfold f_X9_where
        exact bs i1 (bn nI10 (bs (mgI hS 1) (bp (by rw [hM.2.1]; exact (r0_eq hr8).mpr h0) rfl)))
    · have h0' : 0 < rms P := by omega
      obtain ⟨B, b1, b2, b3, b4, b5⟩ := q_run h hR hst ht hM hn
      obtain ⟨M, q1, q2, q3, q4, q5, q6⟩ := b5 (gonN P k n)
      have L : ∀ m i fu, k = i + m → m < fu → f_X8_where_b42 fu 0 (nI k) (nI i) (ss B 189 P (gonN P i n)) = some (nI (gonN P k n 2), ss B 189 P (gonN P k n)) := by
        intro m
        induction m with
        | zero =>
          intro i fu hi hf
          obtain ⟨fu, rfl⟩ : ∃ z, fu = z + 1 := ⟨fu - 1, by omega⟩
          obtain ⟨t1, t2, t3, t4⟩ := sl_try hP hw h0' b2 b4 i
          rw [show k = i by omega, f_X8_where_b42]
          exact bp ((nI_leI (by omega) (by omega)).mpr (by omega)) (bs t1 (bs t3 rfl))
        | succ m ih =>
          intro i fu hi hf
          obtain ⟨fu, rfl⟩ : ∃ z, fu = z + 1 := ⟨fu - 1, by omega⟩
          obtain ⟨t1, t2, t3, t4⟩ := sl_try hP hw h0' b2 b4 i
          rw [f_X8_where_b42]
          refine bn (fun z => by have := (nI_leI (by omega) (by omega)).mp z; omega) (bs t1 (bs t2 (bs t4 ?_)))
          rw [Option.bind_some, zi 1, nI_add]
          exact ih (i + 1) fu (by omega) (by omega)
      refine ⟨_, pick2 (v := nI (gonN P k n 2)) (S1 := ss B 189 P (gonN P k n)) (S2 := M) ?_ ?_ hS b4.1, q6⟩
      · unfold f_X8_where
        exact bn a1 (bp a2 (bs (r_0_1 hR) (bs ep (bn (fun z => h0 ((r0_eq hr8).mp z)) (bs (r_0_7 hR) (bs (r_0_2 hR) (bs (r_13_0 hR) (bs (c_189 hS) (bs b1 (L k 0 FU (by omega) (by unfold FU; omega)))))))))))
      · have e1 : M = sn M n := (sn_self q5).symm
        have e2 : f_X9_goesOn 216 (nI k) M = some (sn M (gonN P k n)) := by
          have := m_goesOn (n := n) q4 h0' (k := k) (by omega) hw (by omega)
          rwa [← e1] at this
        have e3 : f_X9_backs 216 (sn M (gonN P k n)) = some M := by
          rw [q_back q3 q2 (fun j hj => gon_hi hP h0' hw hj k), ← e1]
        have e4 : S.2.1 216 1 = nI (rms P) := hM.2.1
        have e5 : (ss B 189 P (gonN P k n)).2.1 216 1 = nI (rms P) := by
          show B.2.1 216 1 = _
          rw [(b3.2.2 216 (by decide)).1]; exact e4
        unfold f_X9_where
        exact bs i1 (bn nI10 (bs (mgI (by exact b4.1) 1) (bn (by rw [e5]; exact fun z => h0 ((r0_eq hr8).mp z)) (bs (mck (by exact b4.1)) (bs q1 (bs (mck q3.1) (bs e2 (bs (mck (by exact q3.1)) (bs (m_at q4.1 (by decide)) (bs (mck (by exact q3.1)) (bs e3 rfl)))))))))))
