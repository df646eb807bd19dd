theorem gb_1 {P : Pal} {n : Nat → Nat} (h2 : n 2 < 8) : gbN P n 1 = n 1 + 1 := by
  unfold gbN
  rw [up_at, if_pos rfl, go_1, hea_at _ _ (by decide) (by decide), up_at, if_neg (by omega)]
theorem wf_low {P : Pal} {h h' : Nat} {n : Nat → Nat} (hw : wfN P h n) (h1 : n 1 ≤ h') (hc : ∀ a, a < 8 → n (18 + a) ≤ n 1) : wfN P h' n := by
  obtain ⟨a0, a1, a2, a3, a4, a5, a6, a7, a8, a9, a10, a11, a12, a13⟩ := hw
  exact ⟨a0, h1, a2, a3, a4, a5, a6, a7, a8, a9, a10, a11, fun a ha => Nat.le_trans (hc a ha) h1, a13⟩
theorem gd_gb {P : Pal} {n : Nat → Nat} (h2 : n 2 < 8) (hc : ∀ a, a < 8 → n (18 + a) ≤ n 1) : ∀ a, a < 8 → gbN P n (18 + a) ≤ gbN P n 1 := by
  intro a ha
  have := hc a ha
  rw [gb_1 h2, gb_18 ha h2]
  split <;> omega
theorem gd_gon {P : Pal} (hP : wfP P) (h0 : 0 < rms P) {n : Nat → Nat} {hh : Nat} (hw : wfN P hh n) (hc : ∀ a, a < 8 → n (18 + a) ≤ n 1) : ∀ i a, a < 8 → gonN P i n (18 + a) ≤ gonN P i n 1
  | 0 => hc
  | i + 1 => by
    have := gon_2 hP h0 hw i
    have hr := hP.1
    rw [gon_succ]
    exact gd_gb (by omega) (gd_gon hP h0 hw hc i)
theorem PaR_13 {S S' : Mem} {p : Nat} {P : Pal} (h : PaR S p P) (hp : p = 2 ∨ p = 8) (f : fr X13 S S') : PaR S' p P := by
  have e : ∀ b, p ≤ b → b ≤ p + 4 → S'.2.1 b = S.2.1 b := fun b h1 h2 => (f.2.2 b (by simp only [X13, Bool.and_eq_false_iff, decide_eq_false_iff_not]; omega)).1
  obtain ⟨p1, p2, p3, p4, p5, p6⟩ := h
  exact ⟨by rw [e p (by omega) (by omega)]; exact p1, by rw [e p (by omega) (by omega)]; exact p2, by rw [e p (by omega) (by omega)]; exact p3, fun d hd => by rw [e _ (by omega) (by omega)]; exact p4 d hd, fun d hd => by rw [e _ (by omega) (by omega)]; exact p5 d hd, fun d hd => by rw [e _ (by omega) (by omega)]; exact p6 d hd⟩
theorem c_hour_b {p k : Nat} {P : Pal} {n : Nat → Nat} (hP : wfP P) (h0 : 0 < rms P) (hw : wfN P 9060 n) (hk : k ≤ 100) : ∀ m i fu (T : Mem), k = i + m → m < fu → rfC T p → PaR T p P → StR T 13 P (gonN P i n) → ∃ S', f_X8_hour_b25 fu 0 (nI k) (nI i) T = some (nI (gonN P k n 2), S') ∧ fr X13 T S' ∧ StR S' 13 P (gonN P k n) := by
  intro m
  induction m with
  | zero =>
    intro i fu T hi hf hR hq hst
    obtain ⟨fu, rfl⟩ : ∃ z, fu = z + 1 := ⟨fu - 1, by omega⟩
    obtain rfl : k = i := by omega
    refine ⟨T, ?_, fr.rf, hst⟩
    rw [f_X8_hour_b25]
    refine bp ((nI_leI (by omega) (by omega)).mpr (by omega)) (bs (r_0_2 hR) (bs (r_13_0 hR) (bs (g_14 hR.1 1) ?_)))
    rw [show T.2.1 14 = slF P (gonN P k n) from hst.2.1]; rfl
  | succ m ih =>
    intro i fu T hi hf hR hq hst
    obtain ⟨fu, rfl⟩ : ∃ z, fu = z + 1 := ⟨fu - 1, by omega⟩
    obtain ⟨T', t1, t2, t3⟩ := c_passHour hR hP hq hst (gon_wf hP h0 hw i) (by omega) h0
    rw [← gon_succ] at t3
    obtain ⟨S', s1, s2, s3⟩ := ih (i + 1) fu T' (by omega) (by omega) (rfC_fr hR t2) (PaR_13 hq hR.2.1 t2) t3
    refine ⟨S', ?_, fr.tr t2 s2, s3⟩
    rw [f_X8_hour_b25]
    refine bn (fun z => by have := (nI_leI (by omega) (by omega)).mp z; omega) (bs (r_0_2 hR) (bs (r_0_1 hR) (bs (c_13 hR.1) (bs t1 ?_))))
    rw [Option.bind_some, zi 1, nI_add]; exact s1
theorem lt1_of {y : Int32} (h : y < 0) : y < (1 : Int32) := by
  have a := Int32.lt_iff_toInt_lt.mp h
  rw [Int32.lt_iff_toInt_lt]
  have b : (1 : Int32).toInt = 1 := by decide
  have c : (0 : Int32).toInt = 0 := by decide
  omega
/-- what hours are refused: both say so alike -/
theorem refuse {S : Mem} {p : Nat} {P : Pal} {n : Nat → Nat} (x : Int32) (hR : rfC S p) (hPa : PaR S p P) (h2 : S.2.1 13 2 = nI (n 1)) (hr8 : rms P ≤ 8) (h1 : n 1 ≤ 9060) :
    (∃ k, x = nI k ∧ 1 ≤ k ∧ k ≤ 60 ∧ 0 < rms P ∧ n 1 ≤ 9000 ∧ f_X8_refusalOfHours 0 x S = some (nI 0)) ∨
    (∃ v, ¬ v = (0 : Int32) ∧ f_X8_refusalOfHours 0 x S = some v ∧ ((v = -1000000002 ∧ f_X9_in x.toInt64 (1 : Int64) (60 : Int64) = some (nI 0)) ∨ (f_X9_in x.toInt64 (1 : Int64) (60 : Int64) = some (nI 1) ∧ ((rms P = 0 ∧ v = -1000000003) ∨ (0 < rms P ∧ 9000 < n 1 ∧ v = -1000000004))))) := by
  have hS := hR.1
  have n1 : ¬ x ≤ nI 60 ↔ nI 60 < x := by rw [Int32.le_iff_toInt_le, Int32.lt_iff_toInt_lt]; omega
  have g1 : nI 61 ≤ x ↔ nI 60 < x := by rw [Int32.le_iff_toInt_le, Int32.lt_iff_toInt_lt, nI_toInt (by omega), nI_toInt (by omega)]; omega
  have ep : gI 2 2 S p = some (nI (rms P)) := by rw [g_p hS hR.2.1, hPa.1]
  rcases tri x (r := 61) (by omega) with hx | ⟨k, hk, rfl⟩
  · rw [g1] at hx
    refine Or.inr ⟨-1000000002, by decide, ?_, Or.inl ⟨rfl, in_k0 (a := 1) (b := 60) (by omega) (by omega) hx⟩⟩
    unfold f_X8_refusalOfHours
    by_cases hl : x < (1 : Int32)
    · exact bp hl rfl
    · exact bn hl (bn (show ¬ x ≤ (60 : Int32) from n1.mpr (hx.resolve_left (fun z => hl (lt1_of z)))) rfl)
  · by_cases hk0 : k = 0
    · refine Or.inr ⟨-1000000002, by decide, ?_, Or.inl ⟨rfl, (in_kj (j := k) (a := 1) (b := 60) (by omega) (by omega) (by omega)).trans (by rw [if_neg (by omega)])⟩⟩
      unfold f_X8_refusalOfHours
      exact bp (by rw [hk0]; decide +kernel) rfl
    · have i1 : f_X9_in (nI k).toInt64 (1 : Int64) (60 : Int64) = some (nI 1) := (in_kj (j := k) (a := 1) (b := 60) (by omega) (by omega) (by omega)).trans (by rw [if_pos (by omega)])
      have a1 : ¬ nI k < (1 : Int32) := by rw [zi 1, nI_ltI (by omega) (by omega)]; omega
      have a2 : nI k ≤ (60 : Int32) := by rw [zi 60, nI_leI (by omega) (by omega)]; omega
      by_cases h0 : rms P = 0
      · refine Or.inr ⟨-1000000003, by decide, ?_, Or.inr ⟨i1, Or.inl ⟨h0, rfl⟩⟩⟩
        unfold f_X8_refusalOfHours
        exact bn a1 (bp a2 (bs (r_0_1 hR) (bs ep (bp ((r0_eq hr8).mpr h0) rfl))))
      · by_cases h9 : n 1 ≤ 9000
        · refine Or.inl ⟨k, rfl, by omega, by omega, by omega, h9, ?_⟩
          unfold f_X8_refusalOfHours
          exact bn a1 (bp a2 (bs (r_0_1 hR) (bs ep (bn (fun z => h0 ((r0_eq hr8).mp z)) (bs (r_0_2 hR) (bs ((g_13 hS 2).trans (congrArg some h2)) (bp (by rw [zi 9000, nI_leI (by omega) (by omega)]; exact h9) rfl)))))))
        · refine Or.inr ⟨-1000000004, by decide, ?_, Or.inr ⟨i1, Or.inr ⟨by omega, by omega, rfl⟩⟩⟩
          unfold f_X8_refusalOfHours
          exact bn a1 (bp a2 (bs (r_0_1 hR) (bs ep (bn (fun z => h0 ((r0_eq hr8).mp z)) (bs (r_0_2 hR) (bs ((g_13 hS 2).trans (congrArg some h2)) (bn (by rw [zi 9000, nI_leI (by omega) (by omega)]; exact h9) rfl)))))))
theorem op_7 (x y : Int32) (S : Mem) (h : Inv S) : ∃ S1, sk_7 x y S = some S1 ∧ Inv S1 := by
  obtain ⟨p, A, hC, hM, hW⟩ := id h
  have hR := hC.1
  have hS := hR.1
  have hP : wfP A.1.1 := hW.1
  have hr8 := hP.1
  have h6 := hP.2.2.1
  have hw : wfN A.1.1 9060 A.1.2.2 := hW.2.2.1.1
  have hcc := hW.2.2.1.2
  have hrm := RMb_ hR hM.1 hP
  have l1 : ldJ S 220 (nI 1) = some (lN (A.1.2.2 1)) := ldn_ hS hM.2.1 (by decide)
  rcases refuse (n := A.1.2.2) x hR hC.2.1.1 hC.2.2.1.1.1 hr8 hw.2.1 with ⟨k, rfl, k1, k2, h0, h9, e0⟩ | ⟨v, v0, e0, e1⟩
  · have hwl : wfN A.1.1 9000 A.1.2.2 := wf_low hw h9 hcc
    refine muta (m := gonN A.1.1 k A.1.2.2) (v := nI (gonN A.1.1 k A.1.2.2 2)) hC hM hW ⟨wf_mono (gon_wf hP h0 hwl k) (by omega), gd_gon hP h0 hwl hcc k⟩ ?_ ?_
    · intro S6 a1 a2
      obtain ⟨S', s1, s2, s3⟩ := c_hour_b hP h0 hw (k := k) (by omega) k 0 FU S6 (by omega) (by unfold FU; omega) a2.1 a2.2.1.1 a2.2.2.1
      refine ⟨S', ?_, s2, s3⟩
      unfold f_X8_hour
      exact bs (c_0 hS) (bs e0 (bp nI00 (bs (r_0_3 hR) (bs (r_0_2 hR) (bs (c_23 hS) (bs a1 s1))))))
    · intro S7 S8 hR7 hM7 b1 b2 b3 b4
      have hn : S8.2.2.1 220 = LL A.1.2.2 := b2.2.1
      have es : sn S8 A.1.2.2 = S8 := sn_self hn
      have e2 := m_goesOn (n := A.1.2.2) b4 h0 (k := k) (by omega) hw (by omega)
      rw [es] at e2
      have i1 : f_X9_in (nI k).toInt64 (1 : Int64) (60 : Int64) = some (nI 1) := (in_kj (j := k) (a := 1) (b := 60) (by omega) (by omega) (by omega)).trans (by rw [if_pos (by omega)])
      have hr1 : S7.2.1 216 1 = nI (rms A.1.1) := hM7.1.2.1
      unfold f_X9_hour
      refine bs i1 (bn nI10 (bs ((mgI hR7.1 1).trans (congrArg some hr1)) (bn (fun z => by have := (r0_eq hr8).mp z; omega) (bs (R_7 hR7) (bs (ldn_ hR7.1 hM7.2.1 (by decide)) (bp ?_ (bs (mck hR7.1) (bs b1 (bs (mck b3.1) (bs e2 (bs (mck (by exact b3.1)) (bs (m_at b4.1 (by decide)) rfl))))))))))))
      rw [zj 9000, zi 0, lc_le (a := A.1.2.2 1) (b := 9000) (by have := hw.2.1; omega) (by omega)]; exact h9
  · refine ⟨_, pick2 (v := v) (S1 := S) (S2 := S) ?_ ?_ hS hS, h⟩
    · unfold f_X8_hour
      exact bs (c_0 hS) (bs e0 (bn v0 rfl))
    · have hr1 : S.2.1 216 1 = nI (rms A.1.1) := hM.1.2.1
      unfold f_X9_hour
      rcases e1 with ⟨rfl, e1⟩ | ⟨e1, ⟨h0, rfl⟩ | ⟨h0, h9, rfl⟩⟩
      · exact bs e1 (bp nI00 rfl)
      · exact bs e1 (bn nI10 (bs ((mgI hS 1).trans (congrArg some hr1)) (bp ((r0_eq hr8).mpr h0) rfl)))
      · refine bs e1 (bn nI10 (bs ((mgI hS 1).trans (congrArg some hr1)) (bn (fun z => by have := (r0_eq hr8).mp z; omega) (bs (R_7 hR) (bs l1 (bn ?_ rfl))))))
        rw [zj 9000, zi 0, lc_le (a := A.1.2.2 1) (b := 9000) (by have := hw.2.1; omega) (by omega)]; omega
