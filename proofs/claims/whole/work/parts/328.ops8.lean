def rgF (g : Nat → Bool) : Bool → Nat → Nat → Int32
  | _, _, 0 => -1
  | l, i, m + 1 => if g i then (if l then nI i else rgF g l (i + 1) m) else rgF g true (i + 1) m
theorem rgF_f {g : Nat → Bool} {i m : Nat} (h : g i = true) : rgF g false i (m + 1) = rgF g false (i + 1) m := by rw [rgF, if_pos h]; rfl
theorem rgF_t {g : Nat → Bool} {i m : Nat} (h : g i = true) : rgF g true i (m + 1) = nI i := by rw [rgF, if_pos h]; rfl
theorem rgF_n {g : Nat → Bool} {l : Bool} {i m : Nat} (h : g i = false) : rgF g l i (m + 1) = rgF g true (i + 1) m := by rw [rgF, if_neg (by rw [h]; decide)]
theorem c_ring_b {B : Mem} {p : Nat} {P : Pal} {n : Nat → Nat} (hP : wfP P) (hw : wfN P 9060 n) (h0 : 0 < rms P) (hB : SLb B 189 P (n 6)) (hR : rfC B p) (h14 : B.2.1 14 = slF P n) : ∀ m i fu (l : Bool), 100 = i + m → m < fu → ∃ e, f_X8_ring_b31 fu 0 (nI (if l then 1 else 0)) (nI (i + 1)) (ss B 189 P (gonN P i n)) = some (rgF (hmA P n (n 2)) l (i + 1) m, ss B 189 P (gonN P e n)) := by
  have hr8 := hP.1
  have hn2 := wf_2 hw h0
  have g14 : ∀ i, gI 4 1 (ss B 189 P (gonN P i n)) 14 = some (nI (n 2)) := fun i => by
    rw [g_14 (by exact hR.1)]
    show some (B.2.1 14 1) = _
    rw [h14]; rfl
  intro m
  induction m with
  | zero =>
    intro i fu l hi hf
    obtain ⟨fu, rfl⟩ : ∃ z, fu = z + 1 := ⟨fu - 1, by omega⟩
    refine ⟨i, ?_⟩
    rw [f_X8_ring_b31]
    exact bp (by rw [zi 100, nI_ltI (by omega) (by omega)]; omega) rfl
  | succ m ih =>
    intro i fu l hi hf
    obtain ⟨fu, rfl⟩ : ∃ z, fu = z + 1 := ⟨fu - 1, by omega⟩
    obtain ⟨t1, t2, t3, t4⟩ := sl_try hP hw h0 hB hR i
    obtain ⟨u1, u2, u3, u4⟩ := sl_try hP hw h0 hB hR (i + 1)
    have q2 := gon_2 hP h0 hw (i + 1)
    rw [f_X8_ring_b31]
    have c100 : ¬ (100 : Int32) < nI (i + 1) := by rw [zi 100, nI_ltI (by omega) (by omega)]; omega
    by_cases q : gonN P (i + 1) n 2 = n 2
    · cases l with
      | false =>
        obtain ⟨e, he⟩ := ih (i + 1) fu false (by omega) (by omega)
        refine ⟨e, bn c100 (bs t1 (bs t2 (bs t4 (bs u1 (bs u3 (bs (r_0_2 (rfC_e hR rfl rfl)) (bs (r_13_0 (rfC_e hR rfl rfl)) (bs (g14 _) (bp (by rw [q]) (bp nI00 ?_))))))))))⟩
        rw [f_X8_ring_b75, Option.bind_some, zi 1, nI_add (i + 1) 1]
        rw [rgF_f (by simp [hmA, q])]
        exact he
      | true =>
        refine ⟨i + 1, bn c100 (bs t1 (bs t2 (bs t4 (bs u1 (bs u3 (bs (r_0_2 (rfC_e hR rfl rfl)) (bs (r_13_0 (rfC_e hR rfl rfl)) (bs (g14 _) (bp (by rw [q]) (bn nI10 ?_))))))))))⟩
        rw [rgF_t (by simp [hmA, q])]
    · obtain ⟨e, he⟩ := ih (i + 1) fu true (by omega) (by omega)
      refine ⟨e, bn c100 (bs t1 (bs t2 (bs t4 (bs u1 (bs u3 (bs (r_0_2 (rfC_e hR rfl rfl)) (bs (r_13_0 (rfC_e hR rfl rfl)) (bs (g14 _) (bn (fun z => q ((nI_eq (by omega) (by omega)).mp z)) ?_)))))))))⟩
      rw [f_X8_ring_b75, Option.bind_some, zi 1, nI_add]
      rw [rgF_n (by simp [hmA, q])]
      exact he
theorem cmp_2 {a b : Nat} (ha : a < 8) (hb : b < 8) : lg_cmp (lN a) (lN b) = (0 : Int32) ↔ a = b := by
  rw [zi 0, lc_eq (by omega) (by omega)]
theorem m_ring_b {M : Mem} {p : Nat} {P : Pal} {n : Nat → Nat} (hM : RMb M P) (hR : rfC M p) (hw : wfN P 9060 n) (h0 : 0 < rms P) (h4 : ∀ k, k < 80 → M.2.2.1 224 k = lN (n k)) : ∀ m i fu (l : Bool), 100 = i + m → m < fu → f_X9_ring_b20 fu 216 (nI i) (nI (if l then 1 else 0)) (nI 0) (sn M (gonN P i n)) = some (rgF (hmA P n (n 2)) l (i + 1) m, sn M n) := by
  have hP := hM.2.2.2.2.2.2.2
  have hr8 := hP.1
  have hn2 := wf_2 hw h0
  have hS := hR.1
  have hbk : ∀ i, f_X9_backs 216 (sn M (gonN P i n)) = some (sn M n) := fun i => q_back hR h4 (fun k hk => gon_hi hP h0 hw hk i)
  have l7 : ∀ i, gR 9 7 (sn M (gonN P i n)) 216 = some 220 := fun i => R_7 (rfC_e hR rfl rfl)
  have l17 : ∀ i, gR 9 17 (sn M (gonN P i n)) 216 = some 224 := fun i => R_17 (rfC_e hR rfl rfl)
  have d1 : ∀ i, ldJ (sn M (gonN P i n)) 220 (nI 2) = some (lN (gonN P i n 2)) := fun i => sn_ld hS (by decide)
  have d2 : ∀ i, ldJ (sn M (gonN P i n)) 224 (nI 2) = some (lN (n 2)) := fun i => by
    rw [ld_224 (by exact hS) (by decide)]; exact congrArg some (h4 2 (by decide))
  intro m
  induction m with
  | zero =>
    intro i fu l hi hf
    obtain ⟨fu, rfl⟩ : ∃ z, fu = z + 1 := ⟨fu - 1, by omega⟩
    rw [f_X9_ring_b20]
    exact bp (by rw [zi 100, nI_leI (by omega) (by omega)]; omega) (bs (mck (by exact hS)) (bs (hbk i) (bp nI00 rfl)))
  | succ m ih =>
    intro i fu l hi hf
    obtain ⟨fu, rfl⟩ : ∃ z, fu = z + 1 := ⟨fu - 1, by omega⟩
    have q2 := gon_2 hP h0 hw (i + 1)
    have c100 : ¬ (100 : Int32) ≤ nI i := by rw [zi 100, nI_leI (by omega) (by omega)]; omega
    rw [f_X9_ring_b20]
    refine bn c100 (bp nI00 (bs (mck (by exact hS)) (bs (m_try hM hw h0 (by omega)) ?_)))
    rw [Option.bind_some, zi 1, nI_add]
    unfold f_X9_ring_b61 f_X9_ring_b62
    cases l with
    | false =>
      refine bp nI00 (bp nI00 (bs (l7 _) (bs (d1 _) (bs (l17 _) (bs (d2 _) ?_)))))
      by_cases q : gonN P (i + 1) n 2 = n 2
      · refine bp ((cmp_2 (by omega) (by omega)).mpr q) ?_
        rw [rgF_f (by simp [hmA, q])]
        exact ih (i + 1) fu false (by omega) (by omega)
      · refine bn (fun z => q ((cmp_2 (by omega) (by omega)).mp z)) ?_
        rw [rgF_n (by simp [hmA, q])]
        exact ih (i + 1) fu true (by omega) (by omega)
    | true =>
      refine bn nI10 (bs (l7 _) (bs (d1 _) (bs (l17 _) (bs (d2 _) ?_))))
      by_cases q : gonN P (i + 1) n 2 = n 2
      · refine bp ((cmp_2 (by omega) (by omega)).mpr q) (bn nI10 ?_)
        rw [rgF_t (by simp [hmA, q])]
        obtain ⟨fu, rfl⟩ : ∃ z, fu = z + 1 := ⟨fu - 1, by omega⟩
        show f_X9_ring_b20 (fu + 1) 216 (nI (i + 1)) (1 : Int32) (1 : Int32) (sn M (gonN P (i + 1) n)) = some (nI (i + 1), sn M n)
        rw [f_X9_ring_b20]
        have f92 : f_X9_ring_b92 216 (nI (i + 1)) (1 : Int32) (sn M (gonN P (i + 1) n)) = some (nI (i + 1), sn M n) := bs (mck (by exact hS)) (bs (hbk _) (bn nI10 rfl))
        by_cases z : (100 : Int32) ≤ nI (i + 1)
        · exact bp z f92
        · exact bn z (bn nI10 f92)
      · refine bn (fun z => q ((cmp_2 (by omega) (by omega)).mp z)) (bn nI10 ?_)
        rw [rgF_n (by simp [hmA, q])]
        exact ih (i + 1) fu true (by omega) (by omega)
theorem op_20 (x y : Int32) (S : Mem) (h : Inv S) : ∃ S1, sk_20 x y S = some S1 ∧ Inv S1 := by
  obtain ⟨p, P, n, hR, hPa, hst, ht, hM, hn, hw, -⟩ := Inv_x h
  have hS := hR.1
  have hP := hM.2.2.2.2.2.2.2
  have hr8 := hP.1
  have ep : gI 2 2 S p = some (nI (rms P)) := by rw [g_p hS hR.2.1, hPa.1]
  by_cases h0 : rms P = 0
  · refine ⟨_, pick2 (v := -1000000003) (S1 := S) (S2 := S) ?_ ?_ hS hS, h⟩
    · unfold f_X8_ring
      exact bs (r_0_1 hR) (bs ep (bp ((r0_eq hr8).mpr h0) rfl))
    · unfold f_X9_ring
      exact bs (mgI hS 1) (bp (by rw [hM.2.1]; exact (r0_eq hr8).mpr h0) rfl)
  · have h0' : 0 < rms P := by omega
    obtain ⟨B, b1, b2, b3, b4, b5⟩ := q_run h hR hst ht hM hn
    have h14 : B.2.1 14 = slF P n := by rw [(b3.2.2 14 (by decide)).1]; exact hst.2.1
    obtain ⟨e, he⟩ := c_ring_b hP hw h0' b2 b4 h14 100 0 FU false (by omega) (by unfold FU; omega)
    obtain ⟨M, q1, q2, q3, q4, q5, q6⟩ := b5 (gonN P e n)
    have e1 : sn M n = M := sn_self q5
    have e2 := m_ring_b q4 q3 hw h0' q2 100 0 FU false (by omega) (by unfold FU; omega)
    rw [show sn M (gonN P 0 n) = M from e1, e1] at e2
    have e5 : (ss B 189 P (gonN P e n)).2.1 216 1 = nI (rms P) := by
      show B.2.1 216 1 = _
      rw [(b3.2.2 216 (by decide)).1]; exact hM.2.1
    refine ⟨_, pick2 (v := rgF (hmA P n (n 2)) false 1 100) (S1 := ss B 189 P (gonN P e n)) (S2 := M) ?_ ?_ hS b4.1, q6⟩
    · unfold f_X8_ring
      exact bs (r_0_1 hR) (bs ep (bn (fun z => h0 ((r0_eq hr8).mp z)) (bs (r_0_7 hR) (bs (r_0_2 hR) (bs (r_13_0 hR) (bs (c_189 hS) (bs b1 he)))))))
    · unfold f_X9_ring
      exact bs (mgI (by exact b4.1) 1) (bn (by rw [e5]; exact fun z => h0 ((r0_eq hr8).mp z)) (bs (mck (by exact b4.1)) (bs q1 e2)))
def sdF (g : Nat → Bool) (h : Nat → Nat) : Nat → Nat → Int32
  | _, 0 => -1
  | i, m + 1 => if g i then sdF g h (i + 1) m else nI (h i)
theorem c_stand_b {B : Mem} {p : Nat} {P : Pal} {n : Nat → Nat} (hP : wfP P) (hw : wfN P 9060 n) (h0 : 0 < rms P) (hB : SLb B 189 P (n 6)) (hR : rfC B p) (h14 : B.2.1 14 = slF P n) : ∀ m i fu, 100 = i + m → m < fu → ∃ e, f_X8_stand_b29 fu 0 (nI i) (ss B 189 P (gonN P i n)) = some (sdF (hmA P n (n 2)) (fun i => gonN P i n 2) i m, ss B 189 P (gonN P e n)) := by
  have hr8 := hP.1
  have hn2 := wf_2 hw h0
  have g14 : ∀ i, gI 4 1 (ss B 189 P (gonN P i n)) 14 = some (nI (n 2)) := fun i => by
    rw [g_14 (by exact hR.1)]
    show some (B.2.1 14 1) = _
    rw [h14]; rfl
  intro m
  induction m with
  | zero =>
    intro i fu hi hf
    obtain ⟨fu, rfl⟩ : ∃ z, fu = z + 1 := ⟨fu - 1, by omega⟩
    refine ⟨i, ?_⟩
    rw [f_X8_stand_b29]
    exact bp (by rw [zi 100, nI_leI (by omega) (by omega)]; omega) rfl
  | succ m ih =>
    intro i fu hi hf
    obtain ⟨fu, rfl⟩ : ∃ z, fu = z + 1 := ⟨fu - 1, by omega⟩
    obtain ⟨t1, t2, t3, t4⟩ := sl_try hP hw h0 hB hR i
    have q2 := gon_2 hP h0 hw i
    rw [f_X8_stand_b29]
    have c100 : ¬ (100 : Int32) ≤ nI i := by rw [zi 100, nI_leI (by omega) (by omega)]; omega
    by_cases q : gonN P i n 2 = n 2
    · obtain ⟨e, he⟩ := ih (i + 1) fu (by omega) (by omega)
      refine ⟨e, bn c100 (bs t1 (bs t3 (bs (r_0_2 (rfC_e hR rfl rfl)) (bs (r_13_0 (rfC_e hR rfl rfl)) (bs (g14 _) (bp (by rw [q]) (bs t1 (bs t2 (bs t4 ?_)))))))))⟩
      rw [Option.bind_some, zi 1, nI_add]
      rw [sdF, if_pos (by simp [hmA, q])]
      exact he
    · refine ⟨i, bn c100 (bs t1 (bs t3 (bs (r_0_2 (rfC_e hR rfl rfl)) (bs (r_13_0 (rfC_e hR rfl rfl)) (bs (g14 _) (bn (fun z => q ((nI_eq (by omega) (by omega)).mp z)) (bs t1 (bs t3 ?_))))))))⟩
      rw [sdF, if_neg (by simp [hmA, q])]
theorem m_stand_b {M : Mem} {p : Nat} {P : Pal} {n : Nat → Nat} (hM : RMb M P) (hR : rfC M p) (hw : wfN P 9060 n) (h0 : 0 < rms P) (h4 : ∀ k, k < 80 → M.2.2.1 224 k = lN (n k)) : ∀ m i fu, 99 = i + m → m < fu → f_X9_stand_b18 fu 216 (-1 : Int32) (nI (i + 1)) (sn M (gonN P i n)) = some (sdF (hmA P n (n 2)) (fun i => gonN P i n 2) (i + 1) m, sn M n) := by
  have hP := hM.2.2.2.2.2.2.2
  have hr8 := hP.1
  have hn2 := wf_2 hw h0
  have hS := hR.1
  have hbk : ∀ i, f_X9_backs 216 (sn M (gonN P i n)) = some (sn M n) := fun i => q_back hR h4 (fun k hk => gon_hi hP h0 hw hk i)
  have l7 : ∀ i, gR 9 7 (sn M (gonN P i n)) 216 = some 220 := fun i => R_7 (rfC_e hR rfl rfl)
  have l17 : ∀ i, gR 9 17 (sn M (gonN P i n)) 216 = some 224 := fun i => R_17 (rfC_e hR rfl rfl)
  have d1 : ∀ i, ldJ (sn M (gonN P i n)) 220 (nI 2) = some (lN (gonN P i n 2)) := fun i => sn_ld hS (by decide)
  have d2 : ∀ i, ldJ (sn M (gonN P i n)) 224 (nI 2) = some (lN (n 2)) := fun i => by
    rw [ld_224 (by exact hS) (by decide)]; exact congrArg some (h4 2 (by decide))
  intro m
  induction m with
  | zero =>
    intro i fu hi hf
    obtain ⟨fu, rfl⟩ : ∃ z, fu = z + 1 := ⟨fu - 1, by omega⟩
    rw [f_X9_stand_b18]
    exact bp (by rw [zi 100, nI_leI (by omega) (by omega)]; omega) (bs (mck (by exact hS)) (bs (hbk i) rfl))
  | succ m ih =>
    intro i fu hi hf
    obtain ⟨fu, rfl⟩ : ∃ z, fu = z + 1 := ⟨fu - 1, by omega⟩
    have q2 := gon_2 hP h0 hw (i + 1)
    have c100 : ¬ (100 : Int32) ≤ nI (i + 1) := by rw [zi 100, nI_leI (by omega) (by omega)]; omega
    rw [f_X9_stand_b18]
    refine bn c100 (bp rfl (bs (mck (by exact hS)) (bs (m_try hM hw h0 (by omega)) (bs (l7 _) (bs (d1 _) (bs (l17 _) (bs (d2 _) ?_)))))))
    by_cases q : gonN P (i + 1) n 2 = n 2
    · refine bp ((cmp_2 (by omega) (by omega)).mpr q) ?_
      rw [f_X9_stand_b58, Option.bind_some, zi 1, nI_add, sdF, if_pos (by simp [hmA, q])]
      exact ih (i + 1) fu (by omega) (by omega)
    · refine bn (fun z => q ((cmp_2 (by omega) (by omega)).mp z)) (bs (mck (by exact hS)) (bs (m_at hM.1 (by decide)) ?_))
      rw [f_X9_stand_b58, Option.bind_some, sdF, if_neg (by simp [hmA, q])]
      obtain ⟨fu, rfl⟩ : ∃ z, fu = z + 1 := ⟨fu - 1, by omega⟩
      rw [f_X9_stand_b18]
      have f65 : f_X9_stand_b65 216 (nI (gonN P (i + 1) n 2)) (sn M (gonN P (i + 1) n)) = some (nI (gonN P (i + 1) n 2), sn M n) := bs (mck (by exact hS)) (bs (hbk _) rfl)
      by_cases z : (100 : Int32) ≤ nI (i + 1) + 1
      · exact bp z f65
      · exact bn z (bn (z_nem1 (a := gonN P (i + 1) n 2) (by omega)) f65)
theorem op_24 (x y : Int32) (S : Mem) (h : Inv S) : ∃ S1, sk_24 x y S = some S1 ∧ Inv S1 := by
  obtain ⟨p, P, n, hR, hPa, hst, ht, hM, hn, hw, -⟩ := Inv_x h
  have hS := hR.1
  have hP := hM.2.2.2.2.2.2.2
  have hr8 := hP.1
  have ep : gI 2 2 S p = some (nI (rms P)) := by rw [g_p hS hR.2.1, hPa.1]
  by_cases h0 : rms P = 0
  · refine ⟨_, pick2 (v := -1000000003) (S1 := S) (S2 := S) ?_ ?_ hS hS, h⟩
    · unfold f_X8_stand
      exact bs (r_0_1 hR) (bs ep (bp ((r0_eq hr8).mpr h0) rfl))
    · unfold f_X9_stand
      exact bs (mgI hS 1) (bp (by rw [hM.2.1]; exact (r0_eq hr8).mpr h0) rfl)
  · have h0' : 0 < rms P := by omega
    obtain ⟨B, b1, b2, b3, b4, b5⟩ := q_run h hR hst ht hM hn
    have h14 : B.2.1 14 = slF P n := by rw [(b3.2.2 14 (by decide)).1]; exact hst.2.1
    obtain ⟨e, he⟩ := c_stand_b hP hw h0' b2 b4 h14 100 0 FU (by omega) (by unfold FU; omega)
    obtain ⟨M, q1, q2, q3, q4, q5, q6⟩ := b5 (gonN P e n)
    have e1 : sn M n = M := sn_self q5
    have e2 := m_stand_b q4 q3 hw h0' q2 99 0 FU (by omega) (by unfold FU; omega)
    rw [show sn M (gonN P 0 n) = M from e1, e1] at e2
    have e5 : (ss B 189 P (gonN P e n)).2.1 216 1 = nI (rms P) := by
      show B.2.1 216 1 = _
      rw [(b3.2.2 216 (by decide)).1]; exact hM.2.1
    rw [sdF, if_pos (by simp [hmA, gonN])] at he
    refine ⟨_, pick2 (v := sdF (hmA P n (n 2)) (fun i => gonN P i n 2) 1 99) (S1 := ss B 189 P (gonN P e n)) (S2 := M) ?_ ?_ hS b4.1, q6⟩
    · unfold f_X8_stand
      exact bs (r_0_1 hR) (bs ep (bn (fun z => h0 ((r0_eq hr8).mp z)) (bs (r_0_7 hR) (bs (r_0_2 hR) (bs (r_13_0 hR) (bs (c_189 hS) (bs b1 he)))))))
    · unfold f_X9_stand
      exact bs (mgI (by exact b4.1) 1) (bn (by rw [e5]; exact fun z => h0 ((r0_eq hr8).mp z)) (bs (mck (by exact b4.1)) (bs q1 e2)))
