/-! carpets: the fewest rooms -/
/-- of sets 0 to k - 1 that do it, the one of fewest bits; of like ones the least -/
def crp (C : Nat → Bool) : Nat → Option Nat
  | 0 => none
  | k + 1 => match crp C k with
    | none => if C k then some k else none
    | some b => if pcf 12 k < pcf 12 b ∧ C k = true then some k else some b
theorem crp_lt {C : Nat → Bool} {b : Nat} : ∀ {k}, crp C k = some b → b < k
  | 0, h => by simp [crp] at h
  | k + 1, h => by
    rw [crp] at h
    cases e : crp C k with
    | none =>
      rw [e] at h
      dsimp only at h
      split at h
      · injection h with h; omega
      · exact absurd h (by simp)
    | some z =>
      have := crp_lt e
      rw [e] at h
      dsimp only at h
      split at h
      · injection h with h; omega
      · injection h with h; omega
def X189 (x : Nat) : Bool := x == 189 || x == 190
def trJ (S T : Mem) : Prop := fr X189 S T ∧ ∀ k, 7 ≤ k → T.2.1 189 k = 0
def crN (n : Nat → Nat) (s : Nat) : Nat → Nat := va_up n 4 (n 4 ^^^ s)
def crC (P : Pal) (n : Nat → Nat) (j b : Nat) : Nat → Bool := fun s => !decide (fwr (hmA P (crN n s) j) 0 (b + 1) = (-1 : Int32))
theorem crN_wf {P : Pal} {hh s : Nat} {n : Nat → Nat} (hw : wfN P hh n) (hs : s < 2 ^ rms P) : wfN P hh (crN n s) := wu_4 hw (Nat.xor_lt_two_pow hw.2.2.2.2.1 hs)
theorem x189_f {b : Nat} (h : b ≠ 189 ∧ b ≠ 190) : X189 b = false := by simp [X189, h.1, h.2]
/-- from any memory that only trials have touched, a trial begins -/
theorem tr_copy {S T : Mem} {p : Nat} {P : Pal} {n : Nat → Nat} (hR : rfC S p) (hst : StR S 13 P n) (hT : trJ S T) :
    ∃ B, f_X4_copyFrom 189 14 T = some (ss B 189 P n) ∧ SLb B 189 P (n 6) ∧ rfC B p ∧ fr (fun x => x == 190) T B ∧ ∀ m, trJ S (ss B 189 P m) := by
  obtain ⟨-, hs, hbs, -⟩ := hst
  obtain ⟨f, h7⟩ := hT
  have hRT := rfC_fr hR f
  have e : ∀ b, b ≠ 189 ∧ b ≠ 190 → T.2.1 b = S.2.1 b := fun b hb => (f.2.2 b (x189_f hb)).1
  obtain ⟨B, b1, b2, b3⟩ := c_copySl (S := T) (slk_189 hRT) (slb_ (n := n) (P := P) hRT (fun w hw => by rw [e 15 (by decide)]; exact hbs w hw)) (by rw [e 14 (by decide)]; exact hs) (by decide) (by decide) (by decide) h7
  refine ⟨B, b1, b2, rfC_fr hRT b3, b3, fun m => ⟨fr.tr f (fr.tr (b3.mono (fun a ha => ?_)) (fr.rowI (by decide))), fun k hk => slF_tl hk⟩⟩
  simp only [X189, Bool.or_eq_false_iff] at ha
  exact ha.2
theorem ss_5 {B : Mem} {P : Pal} {n : Nat → Nat} {v : Nat} (hr8 : rms P ≤ 8) : rowI B 189 (upd (slF P n) 5 (nI v)) = ss B 189 P (va_up n 4 v) := by
  unfold ss
  rw [slF_k (k := 5) hr8 (by omega)]; rfl
/-- one set tried: what is done where he does not come, and where he comes -/
def cbc (a0 : Nat) (x1 x2 x3 : Int32) (S : Mem) (k0 k1 : Mem → Option (Int32 × Mem)) : Option (Int32 × Mem) :=
    (gR 8 7 S a0).bind fun r1 =>
      (gR 8 2 S a0).bind fun r2 =>
      (gR 5 0 S r2).bind fun r3 =>
      (ck 4 S r1).bind fun _ =>
      (f_X4_copyFrom r1 r3 S).bind fun S5 =>
      (gR 8 7 S5 a0).bind fun r6 =>
      (gI 4 5 S5 r6).bind fun v7 =>
      (pI 4 5 S5 r6 (v7 ^^^ x1)).bind fun S8 =>
      (ck 8 S8 a0).bind fun _ =>
      (f_X8_hoursUntil a0 x2 x3 S8).bind fun q10 =>
      (if q10.1 = (-1 : Int32) then k0 q10.2 else k1 q10.2)
/-- the loop goes on with the best set v -/
def cK (fu j b k : Nat) (v : Int32) (U : Mem) : Option (Int32 × Mem) := f_X8_carpets_b93 (fun a0 x1 x2 x3 x4 S => f_X8_carpets_b29 fu a0 x1 x2 x3 x4 S) 0 (nI j) (nI b) v (nI k) U
theorem c_comes {S T : Mem} {p : Nat} {P : Pal} {n : Nat → Nat} (hR : rfC S p) (hP : wfP P) (hst : StR S 13 P n) (hw : wfN P 9060 n) (h0 : 0 < rms P) (hT : trJ S T) {s j b : Nat} (hs : s < 2 ^ rms P) (hj : j < 8) (hb : b ≤ 100) :
    ∃ T', (∀ k0 k1, cbc 0 (nI s) (nI j) (nI b) T k0 k1 = bif crC P n j b s then k1 T' else k0 T') ∧ trJ S T' := by
  have hr8 := hP.1
  have hRT := rfC_fr hR hT.1
  have hST := hRT.1
  obtain ⟨B, b1, b2, b3, b4, b5⟩ := tr_copy hR hst hT
  have hw' := crN_wf hw hs
  have hB' : SLb B 189 P (crN n s 6) := b2
  obtain ⟨e, he⟩ := c_until_b hP hw' h0 hB' b3 (j := j) (b := b) hj hb b 0 FU (by omega) (by unfold FU; omega)
  refine ⟨_, fun k0 k1 => ?_, b5 (gonN P e (crN n s))⟩
  unfold cbc
  have hx : rfC (ss B 189 P n) p := rfC_e b3 rfl rfl
  have hy : rfC (ss B 189 P (crN n s)) p := rfC_e b3 rfl rfl
  rw [r_0_7 hRT, Option.bind_some, r_0_2 hRT, Option.bind_some, r_13_0 hRT, Option.bind_some, c_189 hST, Option.bind_some, b1, Option.bind_some, r_0_7 hx, Option.bind_some, ss_gI b2, Option.bind_some]
  have hp : pI 4 5 (ss B 189 P n) 189 (slF P n 5 ^^^ nI s) = some (ss B 189 P (crN n s)) := by
    rw [ss_pI b2, slF_at.2.2.2.2.2.1, z_xor, ss_5 hr8]; rfl
  rw [hp, Option.bind_some, c_0 hy.1, Option.bind_some]
  have he' : f_X8_hoursUntil 0 (nI j) (nI b) (ss B 189 P (crN n s)) = some (fwr (hmA P (crN n s) j) 0 (b + 1), ss B 189 P (gonN P e (crN n s))) := he
  rw [he', Option.bind_some]
  unfold crC
  by_cases q : fwr (hmA P (crN n s) j) 0 (b + 1) = (-1 : Int32)
  · rw [if_pos q]; simp [q]
  · rw [if_neg q]; simp [q]
theorem c_carp_b {S : Mem} {p : Nat} {P : Pal} {n : Nat → Nat} (hR : rfC S p) (hPa : PaR S p P) (hP : wfP P) (hst : StR S 13 P n) (hw : wfN P 9060 n) (h0 : 0 < rms P) {j b : Nat} (hj : j < 8) (hb : b ≤ 100) :
    ∀ m k fu T, 2 ^ rms P = k + m → m < fu → trJ S T → ∃ T', f_X8_carpets_b29 fu 0 (nI j) (nI b) (dBi (crp (crC P n j b) k)) (nI k) T = some (dBi (crp (crC P n j b) (2 ^ rms P)), T') ∧ trJ S T' := by
  have hr8 := hP.1
  have h256 : 2 ^ rms P ≤ 2 ^ 8 := Nat.pow_le_pow_right (by decide) hr8
  have sh : (1 : Int32) <<< (nI (rms P) &&& 31) = nI (2 ^ rms P) := by rw [zi 1, z_shl 1 (by omega), Nat.one_mul]
  intro m
  induction m with
  | zero =>
    intro k fu T hk hf hT
    obtain ⟨fu, rfl⟩ : ∃ z, fu = z + 1 := ⟨fu - 1, by omega⟩
    have hRT := rfC_fr hR hT.1
    have ep : gI 2 2 T p = some (nI (rms P)) := by
      have hp := hR.2.1
      rw [g_p hRT.1 hp, (hT.1.2.2 p (x189_f (by omega))).1, hPa.1]
    refine ⟨T, ?_, hT⟩
    rw [f_X8_carpets_b29]
    refine bs (r_0_1 hRT) (bs ep ?_)
    rw [sh]
    exact bp (nI_le (by omega) (by omega)) (by rw [show k = 2 ^ rms P by omega])
  | succ m ih =>
    intro k fu T hk hf hT
    obtain ⟨fu, rfl⟩ : ∃ z, fu = z + 1 := ⟨fu - 1, by omega⟩
    have hRT := rfC_fr hR hT.1
    have ep : gI 2 2 T p = some (nI (rms P)) := by
      have hp := hR.2.1
      rw [g_p hRT.1 hp, (hT.1.2.2 p (x189_f (by omega))).1, hPa.1]
    obtain ⟨T1, t1, t2⟩ := c_comes hR hP hst hw h0 hT (s := k) (by omega) hj hb
    have hstep : ∀ (o : Option Nat) T2, crp (crC P n j b) (k + 1) = o → trJ S T2 → ∃ T', cK fu j b k (dBi o) T2 = some (dBi (crp (crC P n j b) (2 ^ rms P)), T') ∧ trJ S T' := by
      intro o T2 ho h2
      obtain ⟨T', a1, a2⟩ := ih (k + 1) fu T2 (by omega) (by omega) h2
      refine ⟨T', ?_, a2⟩
      unfold cK f_X8_carpets_b93
      rw [Option.bind_some, zi 1, nI_add, ← ho]; exact a1
    have hc : crp (crC P n j b) (k + 1) = match crp (crC P n j b) k with
      | none => if crC P n j b k then some k else none
      | some b' => if pcf 12 k < pcf 12 b' ∧ crC P n j b k = true then some k else some b' := rfl
    have nle : ¬ nI (2 ^ rms P) ≤ nI k := nI_ge (by omega) (by omega)
    rw [f_X8_carpets_b29]
    cases e : crp (crC P n j b) k with
    | none =>
      rw [e] at hc
      dsimp only at hc
      cases q : crC P n j b k with
      | true =>
        rw [q] at hc t1
        obtain ⟨T', a1, a2⟩ := hstep (some k) T1 hc t2
        refine ⟨T', bs (r_0_1 hRT) (bs ep ?_), a2⟩
        rw [sh]
        exact bn nle (bs c_better0 (bn nI10 ((t1 (cK fu j b k (dBi none)) (cK fu j b k (nI k))).trans a1)))
      | false =>
        rw [q] at hc t1
        obtain ⟨T', a1, a2⟩ := hstep none T1 hc t2
        refine ⟨T', bs (r_0_1 hRT) (bs ep ?_), a2⟩
        rw [sh]
        exact bn nle (bs c_better0 (bn nI10 ((t1 (cK fu j b k (dBi none)) (cK fu j b k (nI k))).trans a1)))
    | some b' =>
      have hb' := crp_lt e
      rw [e] at hc
      dsimp only at hc
      have hbt := c_better (k := k) (b := b') (by omega) (by omega)
      by_cases z : pcf 12 k < pcf 12 b'
      · rw [if_pos (Or.inl z)] at hbt
        cases q : crC P n j b k with
        | true =>
          rw [q, if_pos ⟨z, rfl⟩] at hc
          rw [q] at t1
          obtain ⟨T', a1, a2⟩ := hstep (some k) T1 hc t2
          refine ⟨T', bs (r_0_1 hRT) (bs ep ?_), a2⟩
          rw [sh]
          exact bn nle (bs hbt (bn nI10 ((t1 (cK fu j b k (dBi (some b'))) (cK fu j b k (nI k))).trans a1)))
        | false =>
          rw [q, if_neg (by simp)] at hc
          rw [q] at t1
          obtain ⟨T', a1, a2⟩ := hstep (some b') T1 hc t2
          refine ⟨T', bs (r_0_1 hRT) (bs ep ?_), a2⟩
          rw [sh]
          exact bn nle (bs hbt (bn nI10 ((t1 (cK fu j b k (dBi (some b'))) (cK fu j b k (nI k))).trans a1)))
      · rw [if_neg (by omega)] at hbt
        rw [if_neg (fun w => z w.1)] at hc
        obtain ⟨T', a1, a2⟩ := hstep (some b') T hc hT
        refine ⟨T', bs (r_0_1 hRT) (bs ep ?_), a2⟩
        rw [sh]
        exact bn nle (bs hbt (bp nI00 a1))
theorem m_carp_b {M : Mem} {p : Nat} {P : Pal} {n : Nat → Nat} (hM : RMb M P) (hR : rfC M p) (hn : M.2.2.1 220 = LL n) (hw : wfN P 9060 n) (h0 : 0 < rms P) (h4 : ∀ k, k < 80 → M.2.2.1 224 k = lN (n k)) {j b : Nat} (hj : j < 8) (hb : b ≤ 100) :
    ∀ m k fu, 2 ^ rms P = k + m → m < fu → f_X9_carpets_b35 fu 216 (nI j) (nI b) (dBi (crp (crC P n j b) k)) (nI k) M = some (dBi (crp (crC P n j b) (2 ^ rms P)), M) := by
  have hP := hM.2.2.2.2.2.2.2
  have hr8 := hP.1
  have h256 : 2 ^ rms P ≤ 2 ^ 8 := Nat.pow_le_pow_right (by decide) hr8
  have sh : (1 : Int32) <<< (nI (rms P) &&& 31) = nI (2 ^ rms P) := by rw [zi 1, z_shl 1 (by omega), Nat.one_mul]
  have es : sn M n = M := sn_self hn
  have hg : gI 9 1 M 216 = some (nI (rms P)) := (mgI hR.1 1).trans (congrArg some hM.2.1)
  intro m
  induction m with
  | zero =>
    intro k fu hk hf
    obtain ⟨fu, rfl⟩ : ∃ z, fu = z + 1 := ⟨fu - 1, by omega⟩
    rw [f_X9_carpets_b35]
    refine bs hg ?_
    rw [sh]
    exact bp (nI_le (by omega) (by omega)) (by rw [show k = 2 ^ rms P by omega])
  | succ m ih =>
    intro k fu hk hf
    obtain ⟨fu, rfl⟩ : ∃ z, fu = z + 1 := ⟨fu - 1, by omega⟩
    have hstep : ∀ (o : Option Nat), crp (crC P n j b) (k + 1) = o → f_X9_carpets_b92 (fun a0 x1 x2 x3 x4 S => f_X9_carpets_b35 fu a0 x1 x2 x3 x4 S) 216 (nI j) (nI b) (dBi o) (nI k) M = some (dBi (crp (crC P n j b) (2 ^ rms P)), M) := by
      intro o ho
      unfold f_X9_carpets_b92
      rw [Option.bind_some, zi 1, nI_add, ← ho]; exact ih (k + 1) fu (by omega) (by omega)
    have hw' := crN_wf hw (s := k) (by omega)
    obtain ⟨v, v1, v2, v3⟩ := m_whenIn_b (n := crN n k) (n0 := n) hM hR hw' h0 h4 (fun i hi => by unfold crN; rw [up_at, if_neg (by omega)]) (j := j) (b := b) hj hb (b + 1) 0 FU (by omega) (by unfold FU; omega)
    rw [es] at v2
    have try63 : ∀ (o : Option Nat), crp (crC P n j b) (k + 1) = (if crC P n j b k then some k else o) → f_X9_carpets_b63 (fun a0 x1 x2 x3 x4 S => f_X9_carpets_b35 fu a0 x1 x2 x3 x4 S) 216 (nI j) (nI b) (dBi o) (nI k) M = some (dBi (crp (crC P n j b) (2 ^ rms P)), M) := by
      intro o ho
      unfold f_X9_carpets_b63 f_X9_carpets_b91
      refine bs (R_7 hR) (bs (ldn_ hR.1 hn (k := 4) (by decide)) (bs (a := sn M (crN n k)) ?_ (bs (mck (by exact hR.1)) (bs (show f_X9_whenIn 216 (nI j) (nI b) (sn M (crN n k)) = some (nI v, M) from v2) ?_))))
      · have := sn_st (S := M) (n := n) hR.1 (k := 4) (by decide) (n 4 ^^^ k)
        rw [es] at this
        rw [nI_l (by omega), zl_xor]; exact this
      · have cC : crC P n j b k = decide (v ≤ b) := by
          unfold crC
          rw [v3]
          by_cases q : v ≤ b
          · rw [if_pos q]
            have : ¬ nI v = (-1 : Int32) := z_nem1 (by omega)
            simp [this, q]
          · rw [if_neg q]; simp [q]
        dsimp only
        by_cases q : v ≤ b
        · rw [cC, if_pos (by simp [q])] at ho
          exact bn (nI_nlt q (by omega)) (hstep (some k) ho)
        · rw [cC, if_neg (by simp [q])] at ho
          exact bp (nI_lt (by omega) (by omega)) (hstep o ho)
    have hc : crp (crC P n j b) (k + 1) = match crp (crC P n j b) k with
      | none => if crC P n j b k then some k else none
      | some b' => if pcf 12 k < pcf 12 b' ∧ crC P n j b k = true then some k else some b' := rfl
    have nle : ¬ nI (2 ^ rms P) ≤ nI k := nI_ge (by omega) (by omega)
    rw [f_X9_carpets_b35]
    refine bs hg ?_
    rw [sh]
    refine bn nle ?_
    cases e : crp (crC P n j b) k with
    | none =>
      rw [e] at hc
      exact bp rfl (try63 none hc)
    | some b' =>
      have hb' := crp_lt e
      rw [e] at hc
      dsimp only at hc
      have l1 := pcf_le 12 k
      have l2 := pcf_le 12 b'
      refine bn (show ¬ nI b' = (-1 : Int32) from z_nem1 (by omega)) (bs (m_many (by omega)) (bs (m_many (by omega)) ?_))
      by_cases z : pcf 12 k < pcf 12 b'
      · refine bn (nI_ge z (by omega)) (try63 (some b') ?_)
        rw [hc]
        cases crC P n j b k <;> simp [z]
      · rw [if_neg (fun w => z w.1)] at hc
        exact bp (nI_le (by omega) (by omega)) (hstep (some b') hc)
theorem op_21 (x y : Int32) (S : Mem) (h : Inv S) : ∃ S1, sk_21 x y S = some S1 ∧ Inv S1 := by
  obtain ⟨p, P, n, hR, hPa, hst, ht, hM, hn, hw, -⟩ := Inv_x h
  have hS := hR.1
  have hP := hM.2.2.2.2.2.2.2
  have hr8 := hP.1
  have n1 : ¬ y ≤ nI 20 ↔ nI 20 < y := by rw [Int32.le_iff_toInt_le, Int32.lt_iff_toInt_lt]; omega
  have g1 : nI 21 ≤ y ↔ nI 20 < y := by rw [Int32.le_iff_toInt_le, Int32.lt_iff_toInt_lt, nI_toInt (by omega), nI_toInt (by omega)]; omega
  rcases tri x (r := rms P) (by omega) with hx | ⟨j, hj, rfl⟩
  · refine ⟨_, pick2 (v := -1000000001) (S1 := S) (S2 := S) ?_ ?_ hS hS, h⟩
    · unfold f_X8_carpets
      exact bs (c_0 hS) (bs (c_noRoom1 hR hPa.1 hr8 hx) (bn nI10 rfl))
    · unfold f_X9_carpets
      exact bs (mck hS) (bs (m_isRoom0 hS hM.2.1 hr8 hx) (bp nI00 rfl))
  · rcases tri y (r := 21) (by omega) with hy | ⟨c, hc, rfl⟩
    · rw [g1] at hy
      refine ⟨_, pick2 (v := -1000000002) (S1 := S) (S2 := S) ?_ ?_ hS hS, h⟩
      · unfold f_X8_carpets
        refine bs (c_0 hS) (bs (c_noRoom0 hR hPa.1 hr8 hj) (bp nI00 ?_))
        by_cases h0 : y < 0
        · exact bp h0 rfl
        · exact bn h0 (bn (show ¬ y ≤ (20 : Int32) from n1.mpr (hy.resolve_left h0)) rfl)
      · unfold f_X9_carpets
        exact bs (mck hS) (bs (m_isRoom1 hS hM.2.1 hr8 hj) (bn nI10 (bs (in_k0 (a := 0) (b := 20) (by omega) (by omega) hy) (bp nI00 rfl))))
    · have h0' : 0 < rms P := by omega
      have h256 : 2 ^ rms P ≤ 2 ^ 8 := Nat.pow_le_pow_right (by decide) hr8
      obtain ⟨T, t1, t2⟩ := c_carp_b hR hPa hP hst hw h0' (j := j) (b := c) (by omega) (by omega) (2 ^ rms P) 0 FU S (by omega) (by unfold FU; omega) ⟨fr.rf, fun k hk => ht 189 (by decide) (by decide +kernel) k hk⟩
      have hRT := rfC_fr hR t2.1
      have e : ∀ b, b ≠ 189 ∧ b ≠ 190 → T.2.1 b = S.2.1 b := fun b hb => (t2.1.2.2 b (x189_f hb)).1
      have e' : ∀ b, b ≠ 189 ∧ b ≠ 190 → T.2.2.1 b = S.2.2.1 b := fun b hb => (t2.1.2.2 b (x189_f hb)).2
      have hnT : T.2.2.1 220 = LL n := by rw [e' 220 (by decide)]; exact hn
      have hMT : RMb T P := RMb_e hM t2.1.1 t2.1.2.1 (fun k hk => by rw [e 216 (by decide)]) (e 217 (by decide)) (e 218 (by decide)) (e 219 (by decide))
      have hI : Inv (rowJ T 224 (asd n (T.2.2.1 224) 80)) := by
        refine Inv_q h (fr.tr (t2.1.mono (fun a ha => ?_)) (fr.rowJ (by decide))) (fun k hk => ⟨t2.2 k hk, ?_⟩)
        · refine x189_f ⟨fun z => ?_, fun z => ?_⟩ <;> (rw [z] at ha; exact absurd ha (by decide))
        · show T.2.1 191 k = 0
          rw [e 191 (by decide)]; exact ht 191 (by decide) (by decide +kernel) k hk
      have q := m_carp_b (M := rowJ T 224 (asd n (T.2.2.1 224) 80)) (RMb_e hMT rfl rfl (fun _ _ => rfl) rfl rfl rfl) (rfC_e hRT rfl rfl) hnT hw h0' (fun k hk => by
        show asd n (T.2.2.1 224) 80 k = _
        unfold asd; rw [if_pos hk]) (j := j) (b := c) (by omega) (by omega) (2 ^ rms P) 0 FU (by omega) (by unfold FU; omega)
      refine ⟨_, pick2 (v := dBi (crp (crC P n j c) (2 ^ rms P))) (S1 := T) (S2 := rowJ T 224 (asd n (T.2.2.1 224) 80)) ?_ ?_ hS hRT.1, hI⟩
      · unfold f_X8_carpets
        exact bs (c_0 hS) (bs (c_noRoom0 hR hPa.1 hr8 hj) (bp nI00 (bn (nI_pos (by omega)) (bp (by rw [zi 20, nI_leI (by omega) (by omega)]; omega) t1))))
      · unfold f_X9_carpets
        exact bs (mck hRT.1) (bs (m_isRoom1 hRT.1 hMT.2.1 hr8 hj) (bn nI10 (bs (a := nI 1) ((in_kj (j := c) (a := 0) (b := 20) (by omega) (by omega) (by omega)).trans (by rw [if_pos (by omega)])) (bn nI10 (bs (mck hRT.1) (bs (q_aside hRT hnT) q))))))
