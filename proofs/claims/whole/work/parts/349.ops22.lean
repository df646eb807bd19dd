/-! bricks -/
theorem bit_eq {a b : Bool} : nI (if a then 1 else 0) = nI (if b then 1 else 0) ↔ a = b := by
  cases a <;> cases b <;> decide +kernel
theorem bit_0 {a : Bool} : nI (if a then 1 else 0) = (0 : Int32) ↔ a = false := by cases a <;> decide +kernel
theorem bit_1 {a : Bool} : nI (if a then 1 else 0) = (1 : Int32) ↔ a = true := by cases a <;> decide +kernel
theorem and_0 {a b : Nat} (ha : a < 2 ^ 31) : nI a &&& nI b = (0 : Int32) ↔ a &&& b = 0 := by
  have := Nat.lt_of_le_of_lt (Nat.and_le_left (n := a) (m := b)) ha
  rw [z_and, zi 0, nI_eq this (by omega)]
theorem c_clr {s k : Nat} (hs : s < 2 ^ 31) (hk : k < 31) : nI s &&& (((1 : Int32) <<< (nI k &&& 31)) ^^^ (-1 : Int32)) = nI (setb s k false) := by
  have := c_withBit hs hk false
  unfold f_X8_withBit at this
  rw [if_pos (by decide)] at this
  exact Option.some.inj this
theorem sto_s {o : Nat → Bool} {k : Nat} (hk : k < 31) : nI (sto o k) ||| ((1 : Int32) <<< (nI k &&& 31)) = nI (sto o k ||| 2 ^ k) := by
  rw [zi 1, z_shl 1 (by omega), Nat.one_mul, z_or]
theorem sto_t {o : Nat → Bool} {k : Nat} (h : o k = true) : sto o k ||| 2 ^ k = sto o (k + 1) := by
  apply Nat.eq_of_testBit_eq
  intro i
  rw [or_bit, sto_bit, sto_bit]
  by_cases q : k = i
  · subst q; simp [h]
  · by_cases z : i < k
    · simp [q, z, show i < k + 1 by omega]
    · simp [q, z, show ¬ i < k + 1 by omega]
theorem sto_f {o : Nat → Bool} {k : Nat} (h : o k = false) : sto o k = sto o (k + 1) := by
  apply Nat.eq_of_testBit_eq
  intro i
  rw [sto_bit, sto_bit]
  by_cases q : k = i
  · subst q; simp [h]
  · by_cases z : i < k
    · simp [z, show i < k + 1 by omega]
    · simp [z, show ¬ i < k + 1 by omega]
theorem shu_and {n : Nat → Nat} {u v : Nat} : ((2 ^ u ||| 2 ^ v) &&& setb (n 5) (n 2) false = 0) ↔ (shu n u = false ∧ shu n v = false) := by
  have hb : ∀ i, (setb (n 5) (n 2) false).testBit i = shu n i := fun i => by
    rw [setb_bit]; unfold shu
    by_cases q : i = n 2 <;> simp [q]
  constructor
  · intro h
    have t : ∀ i, ((2 ^ u ||| 2 ^ v) &&& setb (n 5) (n 2) false).testBit i = false := fun i => by rw [h, Nat.zero_testBit]
    have t1 := t u
    have t2 := t v
    rw [Nat.testBit_and, or_bit, hb, Nat.testBit_two_pow] at t1 t2
    simp at t1 t2
    exact ⟨t1, t2⟩
  · intro h
    apply Nat.eq_of_testBit_eq
    intro i
    rw [Nat.testBit_and, or_bit, hb, Nat.testBit_two_pow, Nat.zero_testBit]
    by_cases q : u = i
    · subst q; simp [h.1]
    · by_cases z : v = i
      · subst z; simp [h.2]
      · simp [q, z]
theorem c_dtp_b {S : Mem} {p : Nat} {P : Pal} {n : Nat → Nat} (hR : rfC S p) (hPa : PaR S p P) (hP : wfP P) (hst : StR S 13 P n) (hw : wfN P 9060 n) : ∀ m k fu, drs P = k + m → m < fu → f_X8_doorsToPass_b30 S fu 0 (nI (setb (n 5) (n 2) false)) (nI (sto (psb P n) k)) (nI k) = some (nI (sto (psb P n) (drs P))) := by
  have hS := hR.1
  have hd12 := hP.2.1
  have hr8 := hP.1
  obtain ⟨w0, w1, w2, w3, w4, w5, w6, w7, w8, w9, wn, wg, wc⟩ := wfb hP hw
  have ep : gI 2 3 S p = some (nI (drs P)) := by rw [g_p hS hR.2.1, hPa.2.1]
  intro m
  induction m with
  | zero =>
    intro k fu hk hf
    obtain ⟨fu, rfl⟩ : ∃ z, fu = z + 1 := ⟨fu - 1, by omega⟩
    rw [f_X8_doorsToPass_b30]
    exact bs (r_0_1 hR) (bs ep (bp (nI_le (by omega) (by omega)) (by rw [show k = drs P by omega])))
  | succ m ih =>
    intro k fu hk hf
    obtain ⟨fu, rfl⟩ : ∃ z, fu = z + 1 := ⟨fu - 1, by omega⟩
    have ih := ih (k + 1) fu (by omega) (by omega)
    obtain ⟨f1, f2, f3⟩ := hP.2.2.2.1 k (by omega)
    have a1 : ldI S (p + 1) (nI k) = some (nI (dfr P k)) := by rw [ld_p1 hS hR.2.1 (by omega), hPa.2.2.2.1 k (by omega)]
    have a2 : ldI S (p + 2) (nI k) = some (nI (dto P k)) := by rw [ld_p2 hS hR.2.1 (by omega), hPa.2.2.2.2.1 k (by omega)]
    have a3 : gI 5 3 S 13 = some (nI (n 6)) := (g_13 hS 3).trans (congrArg some hst.1.2.1)
    rw [f_X8_doorsToPass_b30]
    refine bs (r_0_1 hR) (bs ep (bn (nI_ge (by omega) (by omega)) (bs (r_0_1 hR) (bs (r_p_7 hR hR.2.1) (bs a1 (bs (r_0_1 hR) (bs (r_p_8 hR hR.2.1) (bs a2 ?_))))))))
    rw [Option.bind_some]
    refine bs (r_0_2 hR) (bs a3 ?_)
    rw [c_bit (by omega) (by omega), zi 1, z_shl 1 (by omega), z_shl 1 (by omega), Nat.one_mul, Nat.one_mul, z_or]
    have l1 : 2 ^ dfr P k ||| 2 ^ dto P k < 2 ^ 31 := Nat.or_lt_two_pow (Nat.pow_lt_pow_right (by decide) (by omega)) (Nat.pow_lt_pow_right (by decide) (by omega))
    unfold f_X8_doorsToPass_b93
    by_cases q : (n 6).testBit k = false
    · refine bp (bit_0.mpr q) ?_
      by_cases z : shu n (dfr P k) = false ∧ shu n (dto P k) = false
      · refine bp ((and_0 l1).mpr (shu_and.mpr z)) ?_
        have ho : psb P n k = true := by simp [psb, q, z.1, z.2]
        rw [Option.bind_some, Option.bind_some, show (nI 1 : Int32) = (1 : Int32) from rfl, sto_s (by omega), sto_t ho, zi 1, nI_add]; exact ih
      · refine bn (fun h => z (shu_and.mp ((and_0 l1).mp h))) ?_
        have ho : psb P n k = false := by
          unfold psb
          cases h1 : shu n (dfr P k) <;> cases h2 : shu n (dto P k) <;> simp [h1, h2] at z ⊢
        rw [Option.bind_some, sto_f ho, nI_1]; exact ih
    · refine bn (fun h => q (bit_0.mp h)) ?_
      have ho : psb P n k = false := by
        unfold psb
        cases h1 : (n 6).testBit k
        · exact absurd h1 q
        · simp
      rw [Option.bind_some, sto_f ho, nI_1]; exact ih
theorem c_dtp {S : Mem} {p : Nat} {P : Pal} {n : Nat → Nat} (hR : rfC S p) (hPa : PaR S p P) (hP : wfP P) (hst : StR S 13 P n) (hw : wfN P 9060 n) : f_X8_doorsToPass 0 S = some (nI (sto (psb P n) (drs P))) := by
  have hS := hR.1
  have hd12 := hP.2.1
  obtain ⟨w0, w1, w2, w3, w4, w5, w6, w7, w8, w9, wn, wg, wc⟩ := wfb hP hw
  have g6 : gI 4 6 S 14 = some (nI (n 5)) := by rw [g_14 hS]; exact congrArg (fun f => some (f 6)) hst.2.1
  have g1 : gI 4 1 S 14 = some (nI (n 2)) := by rw [g_14 hS]; exact congrArg (fun f => some (f 1)) hst.2.1
  unfold f_X8_doorsToPass
  refine bs (r_0_2 hR) (bs (r_13_0 hR) (bs g6 (bs (r_0_2 hR) (bs (r_13_0 hR) (bs g1 ?_)))))
  rw [Option.bind_some, c_clr (by omega) (by omega)]
  exact c_dtp_b hR hPa hP hst hw (drs P) 0 FU (by omega) (by unfold FU; omega)
theorem c_dbt_b {S : Mem} {p : Nat} {P : Pal} {n : Nat → Nat} (hR : rfC S p) (hPa : PaR S p P) (hP : wfP P) {sd : Nat} (hsd : sd < 256) : ∀ m k fu, drs P = k + m → m < fu → f_X2_doorsBetween_b4 S fu p (nI sd) (nI (sto (btn P sd) k)) (nI k) = some (nI (sto (btn P sd) (drs P))) := by
  have hS := hR.1
  have hd12 := hP.2.1
  have hr8 := hP.1
  have ep : gI 2 3 S p = some (nI (drs P)) := by rw [g_p hS hR.2.1, hPa.2.1]
  intro m
  induction m with
  | zero =>
    intro k fu hk hf
    obtain ⟨fu, rfl⟩ : ∃ z, fu = z + 1 := ⟨fu - 1, by omega⟩
    rw [f_X2_doorsBetween_b4]
    exact bs ep (bp (nI_le (by omega) (by omega)) (by rw [show k = drs P by omega]))
  | succ m ih =>
    intro k fu hk hf
    obtain ⟨fu, rfl⟩ : ∃ z, fu = z + 1 := ⟨fu - 1, by omega⟩
    have ih := ih (k + 1) fu (by omega) (by omega)
    obtain ⟨f1, f2, f3⟩ := hP.2.2.2.1 k (by omega)
    have a1 : ldI S (p + 1) (nI k) = some (nI (dfr P k)) := by rw [ld_p1 hS hR.2.1 (by omega), hPa.2.2.2.1 k (by omega)]
    have a2 : ldI S (p + 2) (nI k) = some (nI (dto P k)) := by rw [ld_p2 hS hR.2.1 (by omega), hPa.2.2.2.2.1 k (by omega)]
    rw [f_X2_doorsBetween_b4]
    refine bs ep (bn (nI_ge (by omega) (by omega)) (bs (r_p_7 hR hR.2.1) (bs a1 (bs (r_p_8 hR hR.2.1) (bs a2 ?_)))))
    rw [c_bit (by omega) (by omega), c_bit (by omega) (by omega)]
    unfold f_X2_doorsBetween_b41
    by_cases q : sd.testBit (dfr P k) = sd.testBit (dto P k)
    · refine bp (bit_eq.mpr q) ?_
      have ho : btn P sd k = false := by simp [btn, q]
      rw [Option.bind_some, sto_f ho, zi 1, nI_add]; exact ih
    · refine bn (fun h => q (bit_eq.mp h)) ?_
      have ho : btn P sd k = true := by simp [btn, q]
      rw [Option.bind_some, Option.bind_some, sto_s (by omega), sto_t ho, zi 1, nI_add]; exact ih
theorem c_brk_b {S : Mem} {p : Nat} {P : Pal} {n : Nat → Nat} (hR : rfC S p) (hPa : PaR S p P) (hP : wfP P) (hw : wfN P 9060 n) {a : Nat} (ha : a < 8) : ∀ m k fu, 2 ^ rms P = k + m → m < fu → f_X8_bricks_b40 S fu 0 (nI a) (nI (n 2)) (nI (sto (psb P n) (drs P))) (dBi (brc (sdD P n a) k)) (nI k) = some (dBi (brc (sdD P n a) (2 ^ rms P))) := by
  have hS := hR.1
  have hd12 := hP.2.1
  have hr8 := hP.1
  obtain ⟨w0, w1, w2, w3, w4, w5, w6, w7, w8, w9, wn, wg, wc⟩ := wfb hP hw
  have ep : gI 2 2 S p = some (nI (rms P)) := by rw [g_p hS hR.2.1, hPa.1]
  have h256 : 2 ^ rms P ≤ 2 ^ 8 := Nat.pow_le_pow_right (by decide) hr8
  have h12 : 2 ^ drs P ≤ 2 ^ 12 := Nat.pow_le_pow_right (by decide) hd12
  have sh : (1 : Int32) <<< (nI (rms P) &&& 31) = nI (2 ^ rms P) := by rw [zi 1, z_shl 1 (by omega), Nat.one_mul]
  have hcl : ∀ sd, cut P n sd < 4096 := fun sd => by
    have := Nat.lt_of_le_of_lt (Nat.and_le_left (n := sto (btn P sd) (drs P)) (m := sto (psb P n) (drs P))) (sto_lt _ _)
    unfold cut; omega
  intro m
  induction m with
  | zero =>
    intro k fu hk hf
    obtain ⟨fu, rfl⟩ : ∃ z, fu = z + 1 := ⟨fu - 1, by omega⟩
    rw [f_X8_bricks_b40]
    refine bs (r_0_1 hR) (bs ep ?_)
    rw [sh]
    exact bp (nI_le (by omega) (by omega)) (by rw [show k = 2 ^ rms P by omega])
  | succ m ih =>
    intro k fu hk hf
    obtain ⟨fu, rfl⟩ : ∃ z, fu = z + 1 := ⟨fu - 1, by omega⟩
    have ih := ih (k + 1) fu (by omega) (by omega)
    have nle : ¬ nI (2 ^ rms P) ≤ nI k := nI_ge (by omega) (by omega)
    have hstep : ∀ o, brc (sdD P n a) (k + 1) = o → f_X8_bricks_b100 S (fun a0 x1 x2 x3 x4 x5 => f_X8_bricks_b40 S fu a0 x1 x2 x3 x4 x5) 0 (nI a) (nI (n 2)) (nI (sto (psb P n) (drs P))) (dBi o) (nI k) = some (dBi (brc (sdD P n a) (2 ^ rms P))) := by
      intro o ho
      unfold f_X8_bricks_b100
      rw [Option.bind_some, zi 1, nI_add, ← ho]; exact ih
    have hc : brc (sdD P n a) (k + 1) = match sdD P n a k with
      | none => brc (sdD P n a) k
      | some c => match brc (sdD P n a) k with
        | none => some c
        | some b => if pcf 12 c < pcf 12 b ∨ (pcf 12 c = pcf 12 b ∧ c < b) then some c else some b := rfl
    rw [f_X8_bricks_b40]
    refine bs (r_0_1 hR) (bs ep ?_)
    rw [sh]
    refine bn nle ?_
    rw [c_bit (by omega) (by omega), c_bit (by omega) (by omega)]
    by_cases q : k.testBit (n 2) = true
    · refine bp (bit_1.mpr q) ?_
      by_cases z : k.testBit a = false
      · have hD : sdD P n a k = some (cut P n k) := by unfold sdD; rw [if_pos ⟨q, z⟩]
        rw [hD] at hc
        dsimp only at hc
        have hcc : nI (sto (btn P k) (drs P)) &&& nI (sto (psb P n) (drs P)) = nI (cut P n k) := z_and _ _
        refine bp (bit_0.mpr z) (bs (r_0_1 hR) (bs (c_p hS hR.2.1) (bs (show f_X2_doorsBetween p (nI k) S = some (nI (sto (btn P k) (drs P))) from c_dbt_b (n := n) hR hPa hP (by omega) (drs P) 0 FU (by omega) (by unfold FU; omega)) ?_)))
        rw [Option.bind_some, hcc]
        have hck := hcl k
        cases e : brc (sdD P n a) k with
        | none =>
          rw [e] at hc
          exact bs c_better0 (bn nI10 (hstep (some (cut P n k)) hc))
        | some b =>
          rw [e] at hc
          dsimp only at hc
          have hb : b < 4096 := by
            obtain ⟨s, s1, s2⟩ := brc_in e
            unfold sdD at s2
            split at s2
            · injection s2 with s2; have := hcl s; omega
            · exact absurd s2 (by simp)
          refine bs (c_better hck hb) ?_
          by_cases y : pcf 12 (cut P n k) < pcf 12 b ∨ (pcf 12 (cut P n k) = pcf 12 b ∧ cut P n k < b)
          · rw [if_pos y] at hc
            rw [if_pos y]
            exact bn nI10 (hstep _ hc)
          · rw [if_neg y] at hc
            rw [if_neg y]
            exact bp nI00 (hstep _ hc)
      · have hD : sdD P n a k = none := by unfold sdD; rw [if_neg (fun w => z w.2)]
        rw [hD] at hc
        exact bn (fun h => z (bit_0.mp h)) (hstep _ hc)
    · have hD : sdD P n a k = none := by unfold sdD; rw [if_neg (fun w => q w.1)]
      rw [hD] at hc
      exact bn (fun h => q (bit_1.mp h)) (hstep _ hc)
