/-! palace: the model becomes what was read -/
theorem snI {T : Mem} {n : Nat → Nat} {a : Nat} {f : Nat → Int32} : rowI (sn T n) a f = sn (rowI T a f) n := rfl
theorem sn_g {T : Mem} {n : Nat → Nat} {b : Nat} : (sn T n).2.1 b = T.2.1 b := rfl
theorem sr_l {T : Mem} {n : Nat → Nat} (h : T.1 = 233) {k : Nat} (hk : k < 56) : ldI (sn T n) 222 (nI k) = some (T.2.1 222 k) := ld_222 (by exact h) hk
theorem b_zero {T : Mem} {p : Nat} {n0 : Nat → Nat} (hR : rfC T p) : ∀ m k fu, 80 = k + m → m < fu → f_X9_becomes_b2 fu 216 (nI k) (sn T (mix (fun _ => 0) n0 k)) = f_X9_becomes_b2 1 216 (nI 80) (sn T (mix (fun _ => 0) n0 80)) := by
  have hS := hR.1
  intro m
  induction m with
  | zero =>
    intro k fu hk hf
    obtain ⟨fu, rfl⟩ : ∃ z, fu = z + 1 := ⟨fu - 1, by omega⟩
    rw [show k = 80 by omega, f_X9_becomes_b2, f_X9_becomes_b2, if_pos (by decide), if_pos (by decide)]
  | succ m ih =>
    intro k fu hk hf
    obtain ⟨fu, rfl⟩ : ∃ z, fu = z + 1 := ⟨fu - 1, by omega⟩
    have ih := ih (k + 1) fu (by omega) (by omega)
    rw [f_X9_becomes_b2]
    refine bn (nI_ge (b := 80) (by omega) (by omega)) (bs (R_7 (rfC_e hR rfl rfl)) (bs (sn_st hS (by omega) 0) ?_))
    rw [Option.bind_some, nI_1]
    have : va_up (mix (fun _ => 0) n0 k) k 0 = mix (fun _ => 0) n0 (k + 1) := mix_up (n := fun _ => 0)
    rw [this]; exact ih
/-- rooms told so far -/
def nbk (D : Dft) (n2 : Nat → Nat) (k : Nat) : Nat → Nat := fun j => if j = 4 then sto (fun a => D.2.2.2.1.testBit a) k else if 10 ≤ j ∧ j < 10 + k then D.2.2.1 (j - 10) else n2 j
theorem nbk_s {D : Dft} {n2 : Nat → Nat} {k : Nat} (hk : k < 8) : va_up (va_up (nbk D n2 k) (10 + k) (D.2.2.1 k)) 4 (sto (fun a => D.2.2.2.1.testBit a) (k + 1)) = nbk D n2 (k + 1) := by
  funext j
  rw [up_at, up_at]
  unfold nbk
  by_cases q : j = 4
  · rw [if_pos q, if_pos q]
  · rw [if_neg q, if_neg q, if_neg q]
    by_cases z : j = 10 + k
    · rw [if_pos z, if_pos (by omega), show j - 10 = k by omega]
    · rw [if_neg z]
      by_cases y : 10 ≤ j ∧ j < 10 + k
      · rw [if_pos y, if_pos (by omega)]
      · rw [if_neg y, if_neg (by omega)]
theorem b_rooms {T : Mem} {p : Nat} {D : Dft} {n2 : Nat → Nat} (hR : rfC T p) (hC : MRd T D) (hD : wfD D) (h1 : T.2.1 216 1 = nI (rms D.2.1)) : ∀ m k fu, rms D.2.1 = k + m → m < fu → f_X9_becomes_b96 fu 216 (nI k) (sn T (nbk D n2 k)) = f_X9_becomes_b154 FU 216 (nI 0) (sn T (nbk D n2 (rms D.2.1))) := by
  have hS := hR.1
  have hr8 := hD.1.1
  have hRT : ∀ n, rfC (sn T n) p := fun n => rfC_e hR rfl rfl
  have g1 : ∀ n, gI 9 1 (sn T n) 216 = some (nI (rms D.2.1)) := fun n => (mgI (by exact hS) 1).trans (congrArg some h1)
  intro m
  induction m with
  | zero =>
    intro k fu hk hf
    obtain ⟨fu, rfl⟩ : ∃ z, fu = z + 1 := ⟨fu - 1, by omega⟩
    rw [f_X9_becomes_b96]
    exact bs (g1 _) (bp (nI_le (by omega) (by omega)) (by rw [show k = rms D.2.1 by omega]; rfl))
  | succ m ih =>
    intro k fu hk hf
    obtain ⟨fu, rfl⟩ : ∃ z, fu = z + 1 := ⟨fu - 1, by omega⟩
    have ih := ih (k + 1) fu (by omega) (by omega)
    obtain ⟨d1, d2⟩ := hC.2.2.2.2.1 k (by omega)
    have hn9 := hD.2.1 k
    have l1 : ldI (sn T (nbk D n2 k)) 222 ((4 : Int32) + (2 : Int32) * nI k) = some (nI (D.2.2.1 k)) := by rw [zi 4, i_4, sr_l hS (by omega), d1]
    have l2 : ∀ n, ldI (sn T n) 222 ((5 : Int32) + (2 : Int32) * nI k) = some (nI (if D.2.2.2.1.testBit k then 1 else 0)) := fun n => by rw [zi 5, i_4, sr_l hS (by omega), d2]
    have s1 : stJ (sn T (nbk D n2 k)) 220 ((10 : Int32) + nI k) (nI (D.2.2.1 k)).toInt64 = some (sn T (va_up (nbk D n2 k) (10 + k) (D.2.2.1 k))) := by
      rw [zi 10, nI_add, nI_l (by omega)]; exact sn_st hS (by omega) _
    have l4 : ldJ (sn T (va_up (nbk D n2 k) (10 + k) (D.2.2.1 k))) 220 (4 : Int32) = some (lN (sto (fun a => D.2.2.2.1.testBit a) k)) := by
      have := sn_ld (n := va_up (nbk D n2 k) (10 + k) (D.2.2.1 k)) hS (k := 4) (by decide)
      rw [up_at, if_neg (by omega)] at this
      exact this
    have hv : lN (sto (fun a => D.2.2.2.1.testBit a) k) ||| ((nI (if D.2.2.2.1.testBit k then 1 else 0)).toInt64 <<< ((nI k).toInt64 &&& 63)) = lN (sto (fun a => D.2.2.2.1.testBit a) (k + 1)) := by
      cases e : D.2.2.2.1.testBit k with
      | true =>
        rw [show (nI (if true = true then 1 else 0)).toInt64 = (1 : Int64) from rfl, m_set (by omega), setb_t, sto_t (by exact e)]
      | false =>
        rw [show (nI (if false = true then 1 else 0)).toInt64 = lN 0 from rfl, zl_shl 0 (by omega), Nat.zero_mul, zl_or, Nat.or_zero, sto_f (by exact e)]
    have s2 : stJ (sn T (va_up (nbk D n2 k) (10 + k) (D.2.2.1 k))) 220 (4 : Int32) (lN (sto (fun a => D.2.2.2.1.testBit a) k) ||| ((nI (if D.2.2.2.1.testBit k then 1 else 0)).toInt64 <<< ((nI k).toInt64 &&& 63))) = some (sn T (nbk D n2 (k + 1))) := by
      rw [hv, ← nbk_s (by omega)]
      exact sn_st hS (k := 4) (by decide) _
    rw [f_X9_becomes_b96]
    refine bs (g1 _) (bn (nI_ge (by omega) (by omega)) (bs (R_7 (hRT _)) (bs (R_14 (hRT _)) (bs l1 (bs s1 (bs (R_7 (hRT _)) (bs l4 (bs (R_14 (hRT _)) (bs (l2 _) (bs s2 ?_))))))))))
    rw [Option.bind_some, nI_1]; exact ih
def X21 (x : Nat) : Bool := x == 217 || x == 218 || x == 219
theorem b_doors {p : Nat} {D : Dft} {n : Nat → Nat} (hD : wfD D) : ∀ m k fu (T : Mem), drs D.2.1 = k + m → m < fu → rfC T p → MRd T D → T.2.1 216 2 = nI (drs D.2.1) → (∀ e, e < k → T.2.1 217 e = nI (dfr D.2.1 e) ∧ T.2.1 218 e = nI (dto D.2.1 e)) →
    ∃ T', fr X21 T T' ∧ (∀ e, e < drs D.2.1 → T'.2.1 217 e = nI (dfr D.2.1 e) ∧ T'.2.1 218 e = nI (dto D.2.1 e)) ∧ f_X9_becomes_b154 fu 216 (nI k) (sn T n) = f_X9_becomes_b204 FU 216 (nI 0) (sn T' n) := by
  have hd12 := hD.1.2.1
  intro m
  induction m with
  | zero =>
    intro k fu T hk hf hR hC h2 hG
    obtain ⟨fu, rfl⟩ : ∃ z, fu = z + 1 := ⟨fu - 1, by omega⟩
    refine ⟨T, fr.rf, fun e he => hG e (by omega), ?_⟩
    rw [f_X9_becomes_b154]
    exact bs ((mgI (by exact hR.1) 2).trans (congrArg some h2)) (bp (nI_le (by omega) (by omega)) rfl)
  | succ m ih =>
    intro k fu T hk hf hR hC h2 hG
    obtain ⟨fu, rfl⟩ : ∃ z, fu = z + 1 := ⟨fu - 1, by omega⟩
    have hS := hR.1
    obtain ⟨d1, d2⟩ := hC.2.2.2.2.2.1 k (by omega)
    have l1 : ldI (sn T n) 222 ((20 : Int32) + (2 : Int32) * nI k) = some (nI (dfr D.2.1 k)) := by rw [zi 20, i_4, sr_l hS (by omega), d1]
    have l2 : ldI (sn (rowI T 217 (upd (T.2.1 217) k (nI (dfr D.2.1 k)))) n) 222 ((21 : Int32) + (2 : Int32) * nI k) = some (nI (dto D.2.1 k)) := by rw [zi 21, i_4, sr_l (by exact hS) (by omega), row_n (by decide), d2]
    have s1 : stI (sn T n) 217 (nI k) (nI (dfr D.2.1 k)) = some (sn (rowI T 217 (upd (T.2.1 217) k (nI (dfr D.2.1 k)))) n) := st_217 (by exact hS) (by omega) _
    have s2 : stI (sn (rowI T 217 (upd (T.2.1 217) k (nI (dfr D.2.1 k)))) n) 218 (nI k) (nI (dto D.2.1 k)) = some (sn (rowI (rowI T 217 (upd (T.2.1 217) k (nI (dfr D.2.1 k)))) 218 (upd (T.2.1 218) k (nI (dto D.2.1 k)))) n) := st_218 (S := sn (rowI T 217 (upd (T.2.1 217) k (nI (dfr D.2.1 k)))) n) (by exact hS) (by omega) _
    obtain ⟨T', t1, t2, t3⟩ := ih (k + 1) fu (rowI (rowI T 217 (upd (T.2.1 217) k (nI (dfr D.2.1 k)))) 218 (upd (T.2.1 218) k (nI (dto D.2.1 k)))) (by omega) (by omega) (rfC_e hR rfl rfl) (by
      show MRd _ D
      unfold MRd
      rw [row_n (by decide), row_n (by decide)]; exact hC) (by rw [row_n (by decide), row_n (by decide)]; exact h2) (fun e he => by
      rw [row_n (by decide), row_s, row_s]
      by_cases q : e = k
      · subst q; rw [upd_s, upd_s]; exact ⟨rfl, rfl⟩
      · rw [upd_n q, upd_n q]; exact hG e (by omega))
    refine ⟨T', fr.tr (fr.rowI (by decide)) (fr.tr (fr.rowI (by decide)) t1), t2, ?_⟩
    rw [f_X9_becomes_b154]
    refine bs ((mgI (by exact hS) 2).trans (congrArg some h2)) (bn (nI_ge (by omega) (by omega)) (bs (R_4 (rfC_e hR rfl rfl)) (bs (R_14 (rfC_e hR rfl rfl)) (bs l1 (bs s1 (bs (R_5 (rfC_e hR rfl rfl)) (bs (R_14 (rfC_e hR rfl rfl)) (bs l2 (bs s2 ?_)))))))))
    rw [Option.bind_some, nI_1]; exact t3
/-- petitions told so far -/
def nck (D : Dft) (n : Nat → Nat) (k : Nat) : Nat → Nat := fun j => if 26 ≤ j ∧ j < 26 + k then D.2.2.2.2 (j - 26) else n j
theorem nck_s {D : Dft} {n : Nat → Nat} {k : Nat} : va_up (nck D n k) (26 + k) (D.2.2.2.2 k) = nck D n (k + 1) := by
  funext j
  rw [up_at]
  unfold nck
  by_cases z : j = 26 + k
  · rw [if_pos z, if_pos (by omega), show j - 26 = k by omega]
  · rw [if_neg z]
    by_cases y : 26 ≤ j ∧ j < 26 + k
    · rw [if_pos y, if_pos (by omega)]
    · rw [if_neg y, if_neg (by omega)]
theorem b_pets {p : Nat} {D : Dft} {n : Nat → Nat} (hD : wfD D) : ∀ m k fu (T : Mem), pts D.2.1 = k + m → m < fu → rfC T p → MRd T D → T.2.1 216 3 = nI (pts D.2.1) → (∀ e, e < k → T.2.1 219 e = nI (wor D.2.1 e)) →
    ∃ T', fr X21 T T' ∧ (T'.2.1 217 = T.2.1 217 ∧ T'.2.1 218 = T.2.1 218) ∧ (∀ e, e < pts D.2.1 → T'.2.1 219 e = nI (wor D.2.1 e)) ∧ f_X9_becomes_b204 fu 216 (nI k) (sn T (nck D n k)) = some (sn (rowI (rowI T' 216 (upd (upd (T'.2.1 216) 24 0) 16 0)) 232 (upd (upd (T'.2.1 232) 0 0) 1 0)) (nck D n (pts D.2.1))) := by
  have hp6 := hD.1.2.2.1
  have hr8 := hD.1.1
  intro m
  induction m with
  | zero =>
    intro k fu T hk hf hR hC h2 hG
    obtain ⟨fu, rfl⟩ : ∃ z, fu = z + 1 := ⟨fu - 1, by omega⟩
    have hS := hR.1
    refine ⟨T, fr.rf, ⟨rfl, rfl⟩, fun e he => hG e (by omega), ?_⟩
    rw [f_X9_becomes_b204]
    have q1 : pI 9 24 (sn T (nck D n k)) 216 (0 : Int32) = some (sn (rowI T 216 (upd (T.2.1 216) 24 0)) (nck D n k)) := mpI (by exact hS) 24 _
    have q2 : pI 9 16 (sn (rowI T 216 (upd (T.2.1 216) 24 0)) (nck D n k)) 216 (0 : Int32) = some (sn (rowI T 216 (upd (upd (T.2.1 216) 24 0) 16 0)) (nck D n k)) := by
      rw [mpI (by exact hS) 16 _]
      show some (sn (rowI (rowI T 216 _) 216 _) _) = _
      rw [rII]; rfl
    have q3 : stZ (sn (rowI T 216 (upd (upd (T.2.1 216) 24 0) 16 0)) (nck D n k)) 232 (0 : Int32) (0 : Int32) = some (sn (rowI (rowI T 216 (upd (upd (T.2.1 216) 24 0) 16 0)) 232 (upd (T.2.1 232) 0 0)) (nck D n k)) := st_232 (S := sn (rowI T 216 (upd (upd (T.2.1 216) 24 0) 16 0)) (nck D n k)) (k := 0) (by exact hS) (by decide) _ (Or.inl rfl)
    have q4 : stZ (sn (rowI (rowI T 216 (upd (upd (T.2.1 216) 24 0) 16 0)) 232 (upd (T.2.1 232) 0 0)) (nck D n k)) 232 (1 : Int32) (0 : Int32) = some (sn (rowI (rowI T 216 (upd (upd (T.2.1 216) 24 0) 16 0)) 232 (upd (upd (T.2.1 232) 0 0) 1 0)) (nck D n k)) := by
      rw [show (1 : Int32) = nI 1 from rfl, st_232 (k := 1) (by exact hS) (by decide) _ (Or.inl rfl)]
      show some (sn (rowI (rowI (rowI T 216 _) 232 _) 232 _) _) = _
      rw [rII]; rfl
    refine bs ((mgI (by exact hS) 3).trans (congrArg some h2)) (bp (nI_le (by omega) (by omega)) (bs q1 (bs q2 (bs (R_26 (rfC_e hR rfl rfl)) (bs q3 (bs (R_26 (rfC_e hR rfl rfl)) (bs q4 ?_)))))))
    rw [show k = pts D.2.1 by omega]
  | succ m ih =>
    intro k fu T hk hf hR hC h2 hG
    obtain ⟨fu, rfl⟩ : ∃ z, fu = z + 1 := ⟨fu - 1, by omega⟩
    have hS := hR.1
    obtain ⟨d1, d2⟩ := hC.2.2.2.2.2.2 k (by omega)
    have hpa := hD.2.2.2.2.1 k (by omega)
    have l1 : ldI (sn T (nck D n k)) 222 ((44 : Int32) + (2 : Int32) * nI k) = some (nI (D.2.2.2.2 k)) := by rw [zi 44, i_4, sr_l hS (by omega), d1]
    have s1 : stJ (sn T (nck D n k)) 220 ((26 : Int32) + nI k) (nI (D.2.2.2.2 k)).toInt64 = some (sn T (nck D n (k + 1))) := by
      rw [zi 26, nI_add, nI_l (by omega), ← nck_s]; exact sn_st hS (by omega) _
    have l2 : ldI (sn T (nck D n (k + 1))) 222 ((45 : Int32) + (2 : Int32) * nI k) = some (nI (wor D.2.1 k)) := by rw [zi 45, i_4, sr_l hS (by omega), d2]
    have s2 : stI (sn T (nck D n (k + 1))) 219 (nI k) (nI (wor D.2.1 k)) = some (sn (rowI T 219 (upd (T.2.1 219) k (nI (wor D.2.1 k)))) (nck D n (k + 1))) := st_219 (by exact hS) (by omega) _
    obtain ⟨T', t1, t2, t3, t4⟩ := ih (k + 1) fu (rowI T 219 (upd (T.2.1 219) k (nI (wor D.2.1 k)))) (by omega) (by omega) (rfC_e hR rfl rfl) (by
      show MRd _ D
      unfold MRd
      rw [row_n (by decide)]; exact hC) (by rw [row_n (by decide)]; exact h2) (fun e he => by
      rw [row_s]
      by_cases q : e = k
      · subst q; rw [upd_s]
      · rw [upd_n q]; exact hG e (by omega))
    refine ⟨T', fr.tr (fr.rowI (by decide)) t1, ⟨by rw [t2.1, row_n (by decide)], by rw [t2.2, row_n (by decide)]⟩, t3, ?_⟩
    rw [f_X9_becomes_b204]
    refine bs ((mgI (by exact hS) 3).trans (congrArg some h2)) (bn (nI_ge (by omega) (by omega)) (bs (R_7 (rfC_e hR rfl rfl)) (bs (R_14 (rfC_e hR rfl rfl)) (bs l1 (bs s1 (bs (R_6 (rfC_e hR rfl rfl)) (bs (R_14 (rfC_e hR rfl rfl)) (bs l2 (bs s2 ?_)))))))))
    rw [Option.bind_some, nI_1]; exact t4
theorem sto_car {D : Dft} (hD : wfD D) : sto (fun a => D.2.2.2.1.testBit a) (rms D.2.1) = D.2.2.2.1 := by
  apply Nat.eq_of_testBit_eq
  intro i
  rw [sto_bit]
  by_cases q : i < rms D.2.1
  · simp [q]
  · have : D.2.2.2.1 < 2 ^ i := Nat.lt_of_lt_of_le hD.2.2.2.1 (Nat.pow_le_pow_right (by decide) (by omega))
    rw [Nat.testBit_lt_two_pow this]; simp [q]
/-- all of it -/
theorem m_becomes {S : Mem} {p : Nat} {D : Dft} {n0 : Nat → Nat} {F : Nat → Int32} (hR : rfC S p) (hn : S.2.2.1 220 = LL n0) (hC : MRd S D) (hD : wfD D) :
    ∃ T F', f_X9_becomes 216 (rowI S 216 F) = some (sn (rowI (rowI T 216 F') 232 (upd (upd (S.2.1 232) 0 0) 1 0)) (nwN D n0)) ∧ fr X21 S T ∧ (∀ k, 3 < k → k ≠ 16 → k ≠ 24 → F' k = F k) ∧ F' 0 = nI (if D.1.isSome then 1 else 0) ∧ F' 1 = nI (rms D.2.1) ∧ F' 2 = nI (drs D.2.1) ∧ F' 3 = nI (pts D.2.1) ∧ F' 16 = 0 ∧ F' 24 = 0 ∧ (∀ e, e < drs D.2.1 → T.2.1 217 e = nI (dfr D.2.1 e) ∧ T.2.1 218 e = nI (dto D.2.1 e)) ∧ (∀ e, e < pts D.2.1 → T.2.1 219 e = nI (wor D.2.1 e)) := by
  have hS := hR.1
  have hr8 := hD.1.1
  have hd12 := hD.1.2.1
  have hp6 := hD.1.2.2.1
  have hr64 := getD_lt hD.2.2.2.2.2.2
  have e0 : rowI S 216 F = sn (rowI S 216 F) (mix (fun _ => 0) n0 0) := by
    have : mix (fun _ => 0) n0 0 = n0 := by funext j; simp [mix]
    rw [this]; exact (sn_self (by exact hn)).symm
  have hz := b_zero (T := rowI S 216 F) (n0 := n0) (rfC_e hR rfl rfl) 80 0 FU (by omega) (by unfold FU; omega)
  obtain ⟨F1, hF1⟩ : ∃ F1, F1 = upd (upd (upd (upd F 0 (nI (if D.1.isSome then 1 else 0))) 1 (nI (rms D.2.1))) 2 (nI (drs D.2.1))) 3 (nI (pts D.2.1)) := ⟨_, rfl⟩
  obtain ⟨n1, hn1⟩ : ∃ n1, n1 = mix (fun _ => 0) n0 80 := ⟨_, rfl⟩
  rw [← hn1] at hz
  have hRT : ∀ F n, rfC (sn (rowI S 216 F) n) p := fun F n => rfC_e hR rfl rfl
  have sg : ∀ (G : Nat → Int32) n k, gI 9 k (sn (rowI S 216 G) n) 216 = some (G k) := fun G n k => by rw [mgI (by exact hS), sn_g, row_s]
  have sp : ∀ (G : Nat → Int32) n k v, pI 9 k (sn (rowI S 216 G) n) 216 v = some (sn (rowI S 216 (upd G k v)) n) := fun G n k v => by
    rw [mpI (by exact hS), sn_g, row_s, snI, rII]
  have sl : ∀ (G : Nat → Int32) n k, k < 56 → ldI (sn (rowI S 216 G) n) 222 (nI k) = some (S.2.1 222 k) := fun G n k hk => by rw [sr_l (by exact hS) hk, row_n (by decide)]
  -- the rule
  have hb37 : ∀ b : Bool, b = D.1.isSome → f_X9_becomes_b37 216 (nI (if b then 1 else 0)) 216 (sn (rowI S 216 F) n1) = f_X9_becomes_b96 FU 216 (nI 0) (sn (rowI S 216 F1) (va_up n1 0 (D.1.getD 0))) := by
    intro b hb
    have pz : pZ 9 0 (sn (rowI S 216 F) n1) 216 (nI (if b then 1 else 0)) = some (sn (rowI S 216 (upd F 0 (nI (if b then 1 else 0)))) n1) := by
      have := sp F n1 0 (nI (if b then 1 else 0))
      unfold pI at this
      unfold pZ
      have hk : (216 : Nat) < (sn (rowI S 216 F) n1).1 ∧ kd 216 = 9 := ⟨by show 216 < S.1; omega, by decide +kernel⟩
      rw [if_pos hk] at this
      rw [if_pos ⟨hk, by cases b <;> simp <;> decide⟩]; exact this
    unfold f_X9_becomes_b37
    refine bs pz (bs (R_14 (hRT _ _)) (bs (sl _ _ 1 (by decide)) (bs (sp _ _ 1 _) (bs (R_14 (hRT _ _)) (bs (sl _ _ 2 (by decide)) (bs (sp _ _ 2 _) (bs (R_14 (hRT _ _)) (bs (sl _ _ 3 (by decide)) (bs (sp _ _ 3 _) (bs (R_7 (hRT _ _)) (bs (sg _ _ 0) ?_)))))))))))
    rw [hC.2.1, hC.2.2.1, hC.2.2.2.1, hb, ← hF1]
    have h0 : F1 0 = nI (if D.1.isSome then 1 else 0) := by rw [hF1, upd_n (by decide), upd_n (by decide), upd_n (by decide), upd_s]
    rw [h0]
    have b93 : ∀ v, v = D.1.getD 0 → f_X9_becomes_b93 216 (lN v) (0 : Int32) 220 (sn (rowI S 216 F1) n1) = f_X9_becomes_b96 FU 216 (nI 0) (sn (rowI S 216 F1) (va_up n1 0 (D.1.getD 0))) := by
      intro v hv
      subst hv
      unfold f_X9_becomes_b93
      exact bs (sn_st (by exact hS) (k := 0) (by decide) _) rfl
    cases hu : D.1 with
    | none =>
      rw [hu] at b93
      exact bp nI00 (b93 0 rfl)
    | some v =>
      rw [hu] at b93 hr64
      have l0 : ldI (sn (rowI S 216 F1) n1) 222 (0 : Int32) = some (nI v) := by
        have := sl F1 n1 0 (by decide)
        rw [hC.1, hu] at this
        exact this
      refine bn nI10 (bs (R_14 (hRT _ _)) (bs l0 ?_))
      have hv64 : v < 64 := hr64
      rw [nI_l (by omega)]
      exact b93 v rfl
  have hend : f_X9_becomes_b2 1 216 (nI 80) (sn (rowI S 216 F) n1) = f_X9_becomes_b96 FU 216 (nI 0) (sn (rowI S 216 F1) (va_up n1 0 (D.1.getD 0))) := by
    rw [f_X9_becomes_b2]
    refine bp (by decide) (bs (R_14 (hRT _ _)) (bs (sl _ _ 0 (by decide)) ?_))
    rw [hC.1]
    cases hu : D.1.isSome with
    | false =>
      have hb := hb37 false hu.symm
      exact bp ((dbi_i hD.2.2.2.2.2.2).mpr hu) hb
    | true =>
      have hb := hb37 true hu.symm
      exact bn (fun w => by rw [(dbi_i hD.2.2.2.2.2.2).mp w] at hu; exact absurd hu (by simp)) hb
  -- rooms
  have hnb0 : va_up n1 0 (D.1.getD 0) = nbk D (va_up n1 0 (D.1.getD 0)) 0 := by
    funext j
    unfold nbk
    by_cases q : j = 4
    · subst q
      rw [if_pos rfl, up_at, if_neg (by decide), hn1]; rfl
    · rw [if_neg q, if_neg (by omega)]
  have hC1 : MRd (rowI S 216 F1) D := by unfold MRd; rw [row_n (by decide)]; exact hC
  have f1 : F1 1 = nI (rms D.2.1) := by rw [hF1, upd_n (by decide), upd_n (by decide), upd_s]
  have f2 : F1 2 = nI (drs D.2.1) := by rw [hF1, upd_n (by decide), upd_s]
  have f3 : F1 3 = nI (pts D.2.1) := by rw [hF1, upd_s]
  have f0 : F1 0 = nI (if D.1.isSome then 1 else 0) := by rw [hF1, upd_n (by decide), upd_n (by decide), upd_n (by decide), upd_s]
  have hrm := b_rooms (T := rowI S 216 F1) (p := p) (n2 := va_up n1 0 (D.1.getD 0)) (rfC_e hR rfl rfl) hC1 hD (by rw [row_s]; exact f1) (rms D.2.1) 0 FU (by omega) (by unfold FU; omega)
  rw [← hnb0] at hrm
  -- doors
  obtain ⟨T1, t1, t2, t3⟩ := b_doors (p := p) (n := nbk D (va_up n1 0 (D.1.getD 0)) (rms D.2.1)) hD (drs D.2.1) 0 FU (rowI S 216 F1) (by omega) (by unfold FU; omega) (rfC_e hR rfl rfl) hC1 (by rw [row_s]; exact f2) (fun e he => absurd he (Nat.not_lt_zero e))
  have hR1 : rfC T1 p := rfC_fr (S := rowI S 216 F1) (rfC_e hR rfl rfl) t1
  have e222 : T1.2.1 222 = S.2.1 222 := ((t1.2.2 222 (by decide)).1).trans (row_n (by decide))
  have e216 : T1.2.1 216 = F1 := ((t1.2.2 216 (by decide)).1).trans row_s
  have e232 : T1.2.1 232 = S.2.1 232 := ((t1.2.2 232 (by decide)).1).trans (row_n (by decide))
  have hnc0 : nbk D (va_up n1 0 (D.1.getD 0)) (rms D.2.1) = nck D (nbk D (va_up n1 0 (D.1.getD 0)) (rms D.2.1)) 0 := by
    funext j; unfold nck; rw [if_neg (by omega)]
  rw [hnc0] at t3 hrm
  obtain ⟨T2, u1, u2, u3, u4⟩ := b_pets (p := p) (n := nbk D (va_up n1 0 (D.1.getD 0)) (rms D.2.1)) hD (pts D.2.1) 0 FU T1 (by omega) (by unfold FU; omega) hR1 (by unfold MRd; rw [e222]; exact hC) (by rw [e216]; exact f3) (fun e he => absurd he (Nat.not_lt_zero e))
  have e216' : T2.2.1 216 = F1 := ((u1.2.2 216 (by decide)).1).trans e216
  have e232' : T2.2.1 232 = S.2.1 232 := ((u1.2.2 232 (by decide)).1).trans e232
  have hnw : nck D (nbk D (va_up n1 0 (D.1.getD 0)) (rms D.2.1)) (pts D.2.1) = nwN D n0 := by
    funext j
    unfold nck nbk nwN
    rw [sto_car hD]
    by_cases q80 : 80 ≤ j
    · rw [if_neg (by omega), if_neg (by omega), if_neg (by omega), if_pos q80, up_at, if_neg (by omega), hn1]
      unfold mix
      rw [if_neg (by omega)]
    · rw [if_neg q80]
      have hm : ∀ j, j < 80 → mix (fun _ => 0) n0 80 j = 0 := fun j hj => by unfold mix; rw [if_pos hj]
      by_cases q0 : j = 0
      · subst q0
        rw [if_neg (by omega), if_neg (by omega), if_neg (by omega), if_pos rfl, up_at, if_pos rfl]
      · rw [if_neg q0]
        by_cases q4 : j = 4
        · subst q4
          rw [if_neg (by omega), if_pos rfl, if_pos rfl]
        · rw [if_neg q4, if_neg q4]
          by_cases q10 : 10 ≤ j ∧ j < 18
          · rw [if_pos q10, if_neg (by omega)]
            by_cases qr : j < 10 + rms D.2.1
            · rw [if_pos (by omega)]
            · rw [if_neg (by omega), up_at, if_neg q0, hn1, hm j (by omega), hD.2.2.1 (j - 10) (by omega)]
          · rw [if_neg q10]
            by_cases q26 : 26 ≤ j ∧ j < 26 + pts D.2.1
            · rw [if_pos q26, if_pos q26]
            · rw [if_neg q26, if_neg q26, if_neg (by omega), up_at, if_neg q0, hn1, hm j (by omega)]
  -- put together: row 216 is outside what the doors and petitions change
  obtain ⟨T, hT⟩ : ∃ T, T = rowI T2 216 (S.2.1 216) := ⟨_, rfl⟩
  refine ⟨T, upd (upd F1 24 0) 16 0, ?_, ?_, fun k h1 h2 h3 => ?_, ?_, ?_, ?_, ?_, ?_, ?_, fun e he => ?_, fun e he => ?_⟩
  · unfold f_X9_becomes
    rw [e0, hT, rII]
    refine hz.trans (hend.trans (hrm.trans (t3.trans (u4.trans ?_))))
    rw [e216', e232', hnw]
  · rw [hT]
    have hA : fr X21 (rowI S 216 F1) T2 := fr.tr t1 u1
    refine ⟨hA.1, hA.2.1, fun a ha => ⟨?_, (hA.2.2 a ha).2⟩⟩
    by_cases q : a = 216
    · subst q; rw [row_s]
    · rw [row_n q, (hA.2.2 a ha).1, row_n q]
  · rw [upd_n h2, upd_n h3, hF1, upd_n (by omega), upd_n (by omega), upd_n (by omega), upd_n (by omega)]
  · rw [upd_n (by decide), upd_n (by decide)]; exact f0
  · rw [upd_n (by decide), upd_n (by decide)]; exact f1
  · rw [upd_n (by decide), upd_n (by decide)]; exact f2
  · rw [upd_n (by decide), upd_n (by decide)]; exact f3
  · rw [upd_s]
  · rw [upd_n (by decide), upd_s]
  · rw [hT, row_n (by decide), row_n (by decide), u2.1, u2.2]; exact t2 e he
  · rw [hT, row_n (by decide)]; exact u3 e he
