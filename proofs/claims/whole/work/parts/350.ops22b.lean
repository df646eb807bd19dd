/-! bricks: the model -/
theorem rs2_lt {P : Pal} {n : Nat → Nat} {s R d : Nat} (hR : R < 256) (h1 : dfr P d < 8) (h2 : dto P d < 8) : rs1 P n s R d < 256 ∧ rs2 P n s R d < 256 := by
  have p1 : 2 ^ dfr P d < 2 ^ 8 := Nat.pow_lt_pow_right (by decide) h1
  have p2 : 2 ^ dto P d < 2 ^ 8 := Nat.pow_lt_pow_right (by decide) h2
  have a : rs1 P n s R d < 2 ^ 8 := by
    unfold rs1
    split
    · exact Nat.or_lt_two_pow hR p2
    · exact hR
  refine ⟨a, ?_⟩
  unfold rs2
  split
  · exact Nat.or_lt_two_pow a p1
  · exact a
theorem m_rch_1 {S : Mem} {p : Nat} {P : Pal} {n : Nat → Nat} (hR : rfC S p) (hM : RMb S P) (hn : S.2.2.1 220 = LL n) (hw : wfN P 9060 n) {s R d i : Nat} (hd : d < drs P) (hRl : R < 256) (k10 : Nat → Int32 → Int32 → Int32 → Option Int32) (k21 : Nat → Int32 → Int32 → Int32 → Int32 → Option Int32) :
    f_X9_reached_b75 S k10 k21 216 (nI s) (nI R) (nI i) (nI d) (nI (2 ^ dfr P d)) (nI (2 ^ dto P d)) (nI (if okd n s d then 1 else 0)) = k21 216 (nI s) (nI (rs2 P n s R d)) (nI i) (nI (d + 1)) := by
  have hP := hM.2.2.2.2.2.2.2
  have hr8 := hP.1
  have hd12 := hP.2.1
  obtain ⟨f1, f2, f3⟩ := hP.2.2.2.1 d hd
  obtain ⟨w0, w1, w2, w3, w4, w5, w6, w7, w8, w9, wn, wg, wc⟩ := wfb hP hw
  have l5 : ldJ S 220 (5 : Int32) = some (lN (n 5)) := ldn_ hR.1 hn (k := 5) (by decide)
  have a1 : ldI S 217 (nI d) = some (nI (dfr P d)) := by rw [ld_217 hR.1 (by omega), hM.2.2.2.2.1 d hd]
  have a2 : ldI S 218 (nI d) = some (nI (dto P d)) := by rw [ld_218 hR.1 (by omega), hM.2.2.2.2.2.1 d hd]
  have hu := m_has (s := n 5) (k := dfr P d) (by omega) (by omega)
  have hv := m_has (s := n 5) (k := dto P d) (by omega) (by omega)
  have b155 : ∀ t0 t1 r, t1 ||| t0 = nI r → f_X9_reached_b155 S k10 k21 216 (nI s) (nI i) (nI d) t0 t1 = k21 216 (nI s) (nI r) (nI i) (nI (d + 1)) := by
    intro t0 t1 r h
    unfold f_X9_reached_b155
    rw [Option.bind_some, Option.bind_some, h, zi 1, nI_add]
  have or0 : ∀ r, nI r ||| (0 : Int32) = nI r := fun r => by rw [zi 0, z_or, Nat.or_zero]
  have b154 : ∀ r, f_X9_reached_b154 S k10 k21 216 (nI s) (nI i) (nI d) (nI r) = k21 216 (nI s) (nI r) (nI i) (nI (d + 1)) := fun r => b155 _ _ r (or0 r)
  have p1 : 2 ^ dfr P d < 2 ^ 8 := Nat.pow_lt_pow_right (by decide) (by omega)
  have b115 : ∀ t0 t1, t1 ||| t0 = nI (rs1 P n s R d) → f_X9_reached_b115 S k10 k21 216 (nI s) (nI i) (nI d) (nI (2 ^ dfr P d)) (nI (2 ^ dto P d)) (nI (if okd n s d then 1 else 0)) t0 t1 = k21 216 (nI s) (nI (rs2 P n s R d)) (nI i) (nI (d + 1)) := by
    intro t0 t1 h
    unfold f_X9_reached_b115
    rw [Option.bind_some, h]
    unfold rs2
    cases o : okd n s d with
    | false =>
      refine bp nI00 ?_
      rw [b154]; simp
    | true =>
      refine bn nI10 ?_
      cases q : (rs1 P n s R d).testBit (dto P d) with
      | false =>
        refine bp ((fa_bit (by omega)).mpr q) ?_
        rw [b154]; simp
      | true =>
        refine bn (fun z => by have := (fa_bit (by omega)).mp z; rw [q] at this; exact absurd this (by simp)) (bs (R_7 hR) (bs l5 (bs (R_4 hR) (bs a1 (bs hu ?_)))))
        cases z : (n 5).testBit (dfr P d) with
        | false =>
          refine bp nI00 ?_
          rw [b155 _ _ (rs1 P n s R d ||| 2 ^ dfr P d) (z_or _ _)]; simp
        | true =>
          refine bn nI10 ?_
          rw [b154]; simp
  unfold f_X9_reached_b75 f_X9_reached_b114
  have s1 : ∀ r, rs1 P n s R d = r → nI r ||| (0 : Int32) = nI (rs1 P n s R d) := fun r h => by rw [or0, h]
  cases o : okd n s d with
  | false =>
    have := b115 (0 : Int32) (nI R) (s1 R (by unfold rs1; simp [o]))
    rw [o] at this
    exact bp nI00 this
  | true =>
    refine bn nI10 ?_
    cases q : R.testBit (dfr P d) with
    | false =>
      have := b115 (0 : Int32) (nI R) (s1 R (by unfold rs1; simp [q]))
      rw [o] at this
      exact bp ((fa_bit (by omega)).mpr q) this
    | true =>
      refine bn (fun z => by have := (fa_bit (by omega)).mp z; rw [q] at this; exact absurd this (by simp)) (bs (R_7 hR) (bs l5 (bs (R_5 hR) (bs a2 (bs hv ?_)))))
      cases z : (n 5).testBit (dto P d) with
      | false =>
        have := b115 (nI (2 ^ dto P d)) (nI R) (by rw [z_or]; unfold rs1; simp [o, q, z])
        rw [o] at this
        exact bp nI00 this
      | true =>
        have := b115 (0 : Int32) (nI R) (s1 R (by unfold rs1; simp [z]))
        rw [o] at this
        exact bn nI10 this
theorem rsd_lt {P : Pal} {n : Nat → Nat} {s R : Nat} (hP : wfP P) (hR : R < 256) : ∀ k, k ≤ drs P → rsd P n s R k < 256
  | 0, _ => hR
  | k + 1, hk => by
    obtain ⟨f1, f2, f3⟩ := hP.2.2.2.1 k (by omega)
    have hr8 := hP.1
    exact (rs2_lt (rsd_lt hP hR k (by omega)) (by omega) (by omega)).2
theorem m_rch_d {S : Mem} {p : Nat} {P : Pal} {n : Nat → Nat} (hR : rfC S p) (hM : RMb S P) (hn : S.2.2.1 220 = LL n) (hw : wfN P 9060 n) {s R i : Nat} (hs : s < 4096) (hRl : R < 256) (k10 : Nat → Int32 → Int32 → Int32 → Option Int32) :
    ∀ m k fu, drs P = k + m → m < fu → f_X9_reached_b21 S k10 fu 216 (nI s) (nI (rsd P n s R k)) (nI i) (nI k) = k10 216 (nI s) (nI (rsd P n s R (drs P))) (nI (i + 1)) := by
  have hP := hM.2.2.2.2.2.2.2
  have hr8 := hP.1
  have hd12 := hP.2.1
  obtain ⟨w0, w1, w2, w3, w4, w5, w6, w7, w8, w9, wn, wg, wc⟩ := wfb hP hw
  have hg : gI 9 2 S 216 = some (nI (drs P)) := (mgI hR.1 2).trans (congrArg some hM.2.2.1)
  have l6 : ldJ S 220 (6 : Int32) = some (lN (n 6)) := ldn_ hR.1 hn (k := 6) (by decide)
  intro m
  induction m with
  | zero =>
    intro k fu hk hf
    obtain ⟨fu, rfl⟩ : ∃ z, fu = z + 1 := ⟨fu - 1, by omega⟩
    rw [f_X9_reached_b21]
    refine bs hg (bp (nI_le (by omega) (by omega)) ?_)
    rw [Option.bind_some, zi 1, nI_add, show k = drs P by omega]
  | succ m ih =>
    intro k fu hk hf
    obtain ⟨fu, rfl⟩ : ∃ z, fu = z + 1 := ⟨fu - 1, by omega⟩
    have ih := ih (k + 1) fu (by omega) (by omega)
    obtain ⟨f1, f2, f3⟩ := hP.2.2.2.1 k (by omega)
    have a1 : ldI S 217 (nI k) = some (nI (dfr P k)) := by rw [ld_217 hR.1 (by omega), hM.2.2.2.2.1 k (by omega)]
    have a2 : ldI S 218 (nI k) = some (nI (dto P k)) := by rw [ld_218 hR.1 (by omega), hM.2.2.2.2.2.1 k (by omega)]
    have hb := m_rch_1 hR hM hn hw (s := s) (R := rsd P n s R k) (d := k) (i := i) (by omega) (rsd_lt hP hRl k (by omega)) k10 (fun a0 x1 x2 x3 x4 => f_X9_reached_b21 S k10 fu a0 x1 x2 x3 x4)
    have ho : n 6 ||| s < 2 ^ 12 := Nat.or_lt_two_pow (by omega) hs
    rw [f_X9_reached_b21]
    refine bs hg (bn (nI_ge (by omega) (by omega)) (bs (R_4 hR) (bs a1 ?_)))
    rw [Option.bind_some]
    refine bs (R_5 hR) (bs a2 ?_)
    rw [Option.bind_some]
    refine bs (R_7 hR) (bs l6 ?_)
    rw [nI_l (by omega), zl_or]
    refine bs (m_has (by omega) (by omega)) ?_
    rw [zi 1, z_shl 1 (by omega), z_shl 1 (by omega), Nat.one_mul, Nat.one_mul]
    have e : (n 6 ||| s).testBit k = !okd n s k := by
      rw [Nat.testBit_or]; unfold okd
      cases (n 6).testBit k <;> cases s.testBit k <;> rfl
    rw [e]
    cases o : okd n s k with
    | true => rw [o] at hb; exact bp nI00 (hb.trans ih)
    | false => rw [o] at hb; exact bn nI10 (hb.trans ih)
theorem m_rch_k {S : Mem} {p : Nat} {P : Pal} {n : Nat → Nat} (hR : rfC S p) (hM : RMb S P) (hn : S.2.2.1 220 = LL n) (hw : wfN P 9060 n) (h2 : n 2 < rms P) {s : Nat} (hs : s < 4096) :
    ∀ m k fu, rms P = k + m → m < fu → f_X9_reached_b10 S fu 216 (nI s) (nI (rsk P n s k)) (nI k) = some (nI (rsk P n s (rms P))) := by
  have hP := hM.2.2.2.2.2.2.2
  have hr8 := hP.1
  have hd12 := hP.2.1
  have h256 : 2 ^ rms P ≤ 2 ^ 8 := Nat.pow_le_pow_right (by decide) hr8
  have hg : gI 9 1 S 216 = some (nI (rms P)) := (mgI hR.1 1).trans (congrArg some hM.2.1)
  intro m
  induction m with
  | zero =>
    intro k fu hk hf
    obtain ⟨fu, rfl⟩ : ∃ z, fu = z + 1 := ⟨fu - 1, by omega⟩
    rw [f_X9_reached_b10]
    exact bs hg (bp (nI_le (by omega) (by omega)) (by rw [show k = rms P by omega]))
  | succ m ih =>
    intro k fu hk hf
    obtain ⟨fu, rfl⟩ : ∃ z, fu = z + 1 := ⟨fu - 1, by omega⟩
    have ih := ih (k + 1) fu (by omega) (by omega)
    have hl := rsk_lt (P := P) (n := n) (s := s) hP h2 k
    rw [f_X9_reached_b10]
    refine bs hg (bn (nI_ge (by omega) (by omega)) ?_)
    have := m_rch_d hR hM hn hw (s := s) (R := rsk P n s k) (i := k) hs (by omega) (fun a0 x1 x2 x3 => f_X9_reached_b10 S fu a0 x1 x2 x3) (drs P) 0 FU (by omega) (by unfold FU; omega)
    exact this.trans ih
theorem m_reached {S : Mem} {p : Nat} {P : Pal} {n : Nat → Nat} (hR : rfC S p) (hM : RMb S P) (hn : S.2.2.1 220 = LL n) (hw : wfN P 9060 n) (h2 : n 2 < rms P) {s : Nat} (hs : s < 4096) : f_X9_reached 216 (nI s) S = some (nI (rsk P n s (rms P))) := by
  have hP := hM.2.2.2.2.2.2.2
  have hr8 := hP.1
  unfold f_X9_reached
  refine bs (mck hR.1) (bs (at_ hM.1 hn (k := 2) (by decide)) ?_)
  rw [Option.bind_some, zi 1, z_shl 1 (by omega), Nat.one_mul]
  exact m_rch_k hR hM hn hw h2 hs (rms P) 0 FU (by omega) (by unfold FU; omega)
theorem m_brk_b {S : Mem} {p : Nat} {P : Pal} {n : Nat → Nat} (hR : rfC S p) (hM : RMb S P) (hn : S.2.2.1 220 = LL n) (hw : wfN P 9060 n) (h2 : n 2 < rms P) {a : Nat} (ha : a < 8) :
    ∀ m k fu, 2 ^ drs P = k + m → m < fu → f_X9_bricks_b26 S fu 216 (nI a) (dBi (crp (brF P n a) k)) (nI k) = some (dBi (crp (brF P n a) (2 ^ drs P))) := by
  have hP := hM.2.2.2.2.2.2.2
  have hr8 := hP.1
  have hd12 := hP.2.1
  obtain ⟨w0, w1, w2, w3, w4, w5, w6, w7, w8, w9, wn, wg, wc⟩ := wfb hP hw
  have h256 : 2 ^ rms P ≤ 2 ^ 8 := Nat.pow_le_pow_right (by decide) hr8
  have h12 : 2 ^ drs P ≤ 2 ^ 12 := Nat.pow_le_pow_right (by decide) hd12
  have hg : gI 9 2 S 216 = some (nI (drs P)) := (mgI hR.1 2).trans (congrArg some hM.2.2.1)
  have sh : (1 : Int32) <<< (nI (drs P) &&& 31) = nI (2 ^ drs P) := by rw [zi 1, z_shl 1 (by omega), Nat.one_mul]
  intro m
  induction m with
  | zero =>
    intro k fu hk hf
    obtain ⟨fu, rfl⟩ : ∃ z, fu = z + 1 := ⟨fu - 1, by omega⟩
    rw [f_X9_bricks_b26]
    refine bs hg ?_
    rw [sh]
    exact bp (nI_le (by omega) (by omega)) (by rw [show k = 2 ^ drs P by omega])
  | succ m ih =>
    intro k fu hk hf
    obtain ⟨fu, rfl⟩ : ∃ z, fu = z + 1 := ⟨fu - 1, by omega⟩
    have ih := ih (k + 1) fu (by omega) (by omega)
    have hl := rsk_lt (P := P) (n := n) (s := k) hP h2 (rms P)
    have hstep : ∀ o, crp (brF P n a) (k + 1) = o → f_X9_bricks_b92 S (fun a0 x1 x2 x3 => f_X9_bricks_b26 S fu a0 x1 x2 x3) 216 (nI a) (nI k) (dBi o) = some (dBi (crp (brF P n a) (2 ^ drs P))) := by
      intro o ho
      unfold f_X9_bricks_b92
      rw [Option.bind_some, zi 1, nI_add, ← ho]; exact ih
    have hc : crp (brF P n a) (k + 1) = match crp (brF P n a) k with
      | none => if brF P n a k then some k else none
      | some b' => if pcf 12 k < pcf 12 b' ∧ brF P n a k = true then some k else some b' := rfl
    have nle : ¬ nI (2 ^ drs P) ≤ nI k := nI_ge (by omega) (by omega)
    have hrc := m_reached hR hM hn hw h2 (s := k) (by omega)
    have try63 : k &&& n 6 = 0 → ∀ o, crp (brF P n a) (k + 1) = (if brF P n a k then some k else o) → f_X9_bricks_b63 S (fun a0 x1 x2 x3 => f_X9_bricks_b26 S fu a0 x1 x2 x3) 216 (nI a) (dBi o) (nI k) = some (dBi (crp (brF P n a) (2 ^ drs P))) := by
      intro h6 o ho
      unfold f_X9_bricks_b63 f_X9_bricks_b68 f_X9_bricks_b91
      refine bn (by decide) (bs (mck hR.1) (bs hrc ?_))
      rw [z_shr (by omega) (by omega), zi 1, z_and, bit01]
      cases q : (rsk P n k (rms P)).testBit a with
      | false =>
        have : brF P n a k = true := by simp [brF, h6, q]
        rw [this] at ho
        exact bp nI00 (hstep _ ho)
      | true =>
        have : brF P n a k = false := by simp [brF, q]
        rw [this] at ho
        exact bn nI10 (hstep _ ho)
    have skip : ∀ o, crp (brF P n a) (k + 1) = o → f_X9_bricks_b67 S (fun a0 x1 x2 x3 => f_X9_bricks_b26 S fu a0 x1 x2 x3) 216 (nI a) (dBi o) (nI k) = some (dBi (crp (brF P n a) (2 ^ drs P))) := by
      intro o ho
      unfold f_X9_bricks_b67 f_X9_bricks_b68 f_X9_bricks_b91
      exact bp rfl (hstep _ ho)
    rw [f_X9_bricks_b26]
    refine bs hg ?_
    rw [sh]
    refine bn nle (bs (mck hR.1) (bs (at_ hM.1 hn (k := 6) (by decide)) ?_))
    by_cases h6 : k &&& n 6 = 0
    · refine bp ((and_0 (by omega)).mpr h6) ?_
      cases e : crp (brF P n a) k with
      | none =>
        rw [e] at hc
        exact bp rfl (try63 h6 none hc)
      | some b' =>
        have hb' := crp_lt e
        rw [e] at hc
        dsimp only at hc
        have l1 := pcf_le 12 k
        have l2 := pcf_le 12 b'
        refine bn (show ¬ nI b' = (-1 : Int32) from z_nem1 (by omega)) (bs (m_many (by omega)) (bs (m_many (by omega)) ?_))
        by_cases z : pcf 12 k < pcf 12 b'
        · refine bn (nI_ge z (by omega)) (try63 h6 (some b') ?_)
          rw [hc]
          cases brF P n a k <;> simp [z]
        · rw [if_neg (fun w => z w.1)] at hc
          exact bp (nI_le (by omega) (by omega)) (skip (some b') hc)
    · refine bn (fun z => h6 ((and_0 (by omega)).mp z)) (skip _ ?_)
      have : brF P n a k = false := by simp [brF, h6]
      rw [hc, this]
      cases crp (brF P n a) k <;> simp
theorem op_22 (x y : Int32) (S : Mem) (h : Inv S) : ∃ S1, sk_22 x y S = some S1 ∧ Inv S1 := by
  obtain ⟨p, P, n, hR, hPa, hst, ht, hM, hn, hw, -⟩ := Inv_x h
  have hS := hR.1
  have hP := hM.2.2.2.2.2.2.2
  have hr8 := hP.1
  have hd12 := hP.2.1
  rcases tri x (r := rms P) (by omega) with hx | ⟨j, hj, rfl⟩
  · refine ⟨S, pick (v := -1000000001) ?_ ?_ hS, h⟩
    · unfold f_X8_bricks
      exact bs (c_0 hS) (bs (c_noRoom1 hR hPa.1 hr8 hx) (bn nI10 rfl))
    · have : f_X9_bricks 216 x S = some (-1000000001) := by
        unfold f_X9_bricks
        exact bs (mck hS) (bs (m_isRoom0 hS hM.2.1 hr8 hx) (bp nI00 rfl))
      rw [this]
      unfold f_X8_bricks
      exact (bs (c_0 hS) (bs (c_noRoom1 hR hPa.1 hr8 hx) (bn nI10 rfl))).symm
  · have h2 := wf_2 hw (by omega)
    have g1 : gI 4 1 S 14 = some (nI (n 2)) := by rw [g_14 hS]; exact congrArg (fun f => some (f 1)) hst.2.1
    by_cases e : j = n 2
    · have e1 : f_X8_bricks 0 (nI j) S = some (-1) := by
        unfold f_X8_bricks
        exact bs (c_0 hS) (bs (c_noRoom0 hR hPa.1 hr8 hj) (bp nI00 (bs (r_0_2 hR) (bs (r_13_0 hR) (bs g1 (bp (by rw [e]) rfl))))))
      have e2 : f_X9_bricks 216 (nI j) S = some (-1) := by
        unfold f_X9_bricks
        exact bs (mck hS) (bs (m_isRoom1 hS hM.2.1 hr8 hj) (bn nI10 (bs (mck hS) (bs (at_ hM.1 hn (k := 2) (by decide)) (bp (by rw [e]) rfl)))))
      exact ⟨S, pick e1 (e2.trans e1.symm) hS, h⟩
    · have h256 : 2 ^ rms P ≤ 2 ^ 8 := Nat.pow_le_pow_right (by decide) hr8
      have h12 : 2 ^ drs P ≤ 2 ^ 12 := Nat.pow_le_pow_right (by decide) hd12
      have e1 : f_X8_bricks 0 (nI j) S = some (dBi (brc (sdD P n j) (2 ^ rms P))) := by
        unfold f_X8_bricks
        exact bs (c_0 hS) (bs (c_noRoom0 hR hPa.1 hr8 hj) (bp nI00 (bs (r_0_2 hR) (bs (r_13_0 hR) (bs g1 (bn (fun z => e ((nI_eq (by omega) (by omega)).mp z)) (bs (c_0 hS) (bs (c_dtp hR hPa hP hst hw) (c_brk_b hR hPa hP hw (by omega) (2 ^ rms P) 0 FU (by omega) (by unfold FU; omega))))))))))
      have e2 : f_X9_bricks 216 (nI j) S = some (dBi (crp (brF P n j) (2 ^ drs P))) := by
        unfold f_X9_bricks
        exact bs (mck hS) (bs (m_isRoom1 hS hM.2.1 hr8 hj) (bn nI10 (bs (mck hS) (bs (at_ hM.1 hn (k := 2) (by decide)) (bn (fun z => e ((nI_eq (by omega) (by omega)).mp z).symm) (m_brk_b hR hM hn hw h2 (by omega) (2 ^ drs P) 0 FU (by omega) (by unfold FU; omega)))))))
      exact ⟨S, pick e1 (e2.trans (by rw [e1, bricks_eq hP h2])) hS, h⟩
